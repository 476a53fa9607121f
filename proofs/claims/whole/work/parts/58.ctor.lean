section CTOR
variable {B : CnB} {j : MI} {pc q : Nat} {L : List (Option Value)} {st : List Value} {ws : va_W} {cl sl : Nat}
theorem CnR.cells {h0 mc ms : Nat} {mk : (Nat → Nat) → va_W} (h : CnR h0 mc ms mk B) : (bR B).cells = mc := by
  obtain ⟨p, l, e, s, m, args, below, meth, c, R, Q, D, c0, A⟩ := B
  exact h.2.2.1
theorem CnR.slots {h0 mc ms : Nat} {mk : (Nat → Nat) → va_W} (h : CnR h0 mc ms mk B) : (bR B).slots = ms := by
  obtain ⟨p, l, e, s, m, args, below, meth, c, R, Q, D, c0, A⟩ := B
  exact h.2.2.2.1
/-- the same rows with the object itself ahead -/
theorem ch_get (hC : CnD j B) {h0 ci k idx N : Nat} {v : Value} {fs : List Value} {C : String} {T : u_T} {w2 : va_W} (hin : ∀ w ∈ u_ws C T N, w ∈ wT) (hc : vwCl[ci]? = some (C, T, N)) (hk : k < N) (hlink : Cond.fieldLink j.1.cls idx (T k).1 (T k).2.1 (T k).2.2.1 ∈ wT) (hv : fs[k]? = some v) (d : decode j.2.1 pc = .ok (.getfield idx, 3)) (hq : pc + 3 = q) (kk : CnW B q L (v :: st) ((h0, .inr (ci, fs)) :: w2) cl sl) : CnW B pc L (.ref h0 :: st) ((h0, .inr (ci, fs)) :: w2) cl sl := cn_get hC hin hc hk hlink hv d hq kk
theorem ch_new (hC : CnD j B) {x : Nat × va_E} {w2 : va_W} {ci idx N : Nat} {C : String} {T : u_T} {fs : List Value} {ty : Nat → FieldType} (hin : ∀ w ∈ u_ws C T N, w ∈ wT) (hty : ∀ k, k < N → parseFieldDescriptor (T k).2.2.1 = some (ty k)) (hcl : Cond.classLink j.1.cls idx C ∈ wT) (hinst : Cond.instantiable C N ∈ wT) (hini : Cond.initialized C ∈ wT) (hc : vwCl[ci]? = some (C, T, N)) (hfs : ∀ k, k < N → defaultValue (ty k) = vp_V fs k) (hce : cl + 1 ≤ (bR B).cells) (hsl : sl + N ≤ (bR B).slots) (d : decode j.2.1 pc = .ok (.new idx, 3)) (hq : pc + 3 = q) (kk : ∀ a : Nat, CnW B q L (.ref a :: st) (x :: (w2 ++ [(a, .inr (ci, fs))])) (cl + 1) (sl + N)) : CnW B pc L st (x :: w2) cl sl := cn_new hC hin hty hcl hinst hini hc hfs hce hsl d hq kk
theorem ch_newa (hC : CnD j B) {x : Nat × va_E} {w2 : va_W} {n : Int32} {N : Nat} (hN : n = nI N) (hN2 : N ≤ 1000) (hce : cl + 1 ≤ (bR B).cells) (hsl : sl + N ≤ (bR B).slots) (d : decode j.2.1 pc = .ok (.newarray .int, 2)) (hq : pc + 2 = q) (kk : ∀ a : Nat, CnW B q L (.ref a :: st) (x :: (w2 ++ [(a, ar (bC B) N (fun _ => 0))])) (cl + 1) (sl + N)) : CnW B pc L (.int n :: st) (x :: w2) cl sl := cn_newa hC hN hN2 hce hsl d hq kk
theorem ch_call (hC : CnD j B) {x : Nat × va_E} {j' : MI} {idx n a mc ms : Nat} {As rest st0 : List Value} {e0 : va_E} {mk : (Nat → Nat) → va_W} {wr : va_W} (mo : MOK j' n) (mi : Cond.instanceMethod j'.1 ∈ wT) (ml : Cond.methodLink j.1.cls idx j'.1 ∈ wT) (hnm : j'.1.name = "<init>") (hret : j'.2.2.2.1 = none) (fit : FitR j' j = true) (ct : CnT (bL B) (bD B) (bC B) j' mc ms As e0 mk) (hn : As.length = n) (hst : st0 = As.reverse ++ .ref a :: rest) (hw : (rest.map fun v => v.category).sum ≤ 8) (hce : cl + mc ≤ (bR B).cells) (hsl : sl + ms ≤ (bR B).slots) (d : decode j.2.1 pc = .ok (.invokespecial idx, 3)) (hq : pc + 3 = q) (kk : ∀ f : Nat → Nat, f 0 = a → CnW B q L rest (x :: (wr ++ mk f)) (cl + mc) (sl + ms)) : CnW B pc L st0 (x :: (wr ++ [(a, e0)])) cl sl := cn_call (wr := x :: wr) hC mo mi ml hnm hret fit ct hn hst hw hce hsl d hq kk
theorem ch_stat (hC : CnD j B) {x : Nat × va_E} {j' : MI} {idx n a : Nat} {As rest st0 : List Value} {e0 e1 : va_E} {wr : va_W} (mo : MOK j' n) (mi : MOS j') (ml : Cond.methodLink j.1.cls idx j'.1 ∈ wT) (fit : FitR j' j = true) (ct : CnS (bL B) (bD B) (bC B) j' As e0 e1) (hn : As.length + 1 = n) (hst : st0 = (.ref a :: As).reverse ++ rest) (hw : (rest.map fun v => v.category).sum ≤ 8) (hce : cl ≤ (bR B).cells) (hsl : sl ≤ (bR B).slots) (d : decode j.2.1 pc = .ok (.invokestatic idx, 3)) (hq : pc + 3 = q) (kk : CnW B q L rest (x :: (wr ++ [(a, e1)])) cl sl) : CnW B pc L st0 (x :: (wr ++ [(a, e0)])) cl sl := cn_stat (wr := x :: wr) hC mo mi ml fit ct hn hst hw hce hsl d hq kk
/-- a static method's end, over one cell -/
def CnZ (h0 : Nat) (e1 : va_E) (B : CnB) : Prop := match B with
  | (_, _, _, s, _, args, below, meth, _, _, Q, D, _, A) => meth.sig.returnType = none ∧ meth.locks = false ∧ Q = MQ below (va_Qv (fun _ : Unit => True) (fun _ t => va_P D vwCl [(h0, e1)] t.heap) A) args s 0 0 A
theorem cn_zret (hC : CnD j B) {h0 : Nat} {e1 : va_E} (hr : CnZ h0 e1 B) (d : decode j.2.1 pc = .ok (.return_, 1)) : CnW B pc L [] [(h0, e1)] 0 0 := by
  obtain ⟨p, l, e, s, m, args, below, meth, c, R, Q, D, c0, A⟩ := B
  obtain ⟨r1, r2, rfl⟩ := hr
  obtain ⟨hx, hb, hown, hts, hK, hA, hf1, hf2⟩ := hC
  intro H locs ls hL hP hD hS
  exact W.vret hx hb r1 (fun t ht hW => ⟨⟨(), rfl, trivial, by subst ht; exact hP⟩, hS.F ht⟩) hS.2.2 d r2
theorem cs_of {l : Launch} {D : va_G} {c0 : ClassId} {As : List Value} {e0 e1 : va_E} (hp : plainName j.1.cls = true) (hret : j.2.2.2.1 = none) (L0 : Nat → List (Option Value)) (hL : ∀ h0, ent (.ref h0 :: As) j.2.2.1 = L0 h0) (hlen : ∀ h0, (L0 h0).length = j.2.2.1) (body : ∀ (B : CnB) (h0 : Nat), bL B = l → bD B = D → bC B = c0 → CnD j B → CnZ h0 e1 B → CnW B 0 (L0 h0) [] [(h0, e0)] 0 0) : CnS l D c0 j As e0 e1 := by
  intro h0 sz
  refine Met.ofW (cc := j.2.1) (maxL := j.2.2.1) (ret := none) hp (by unfold wsOf; rw [hret]) ?_
  intro p e s m args below meth c s₁ B hml hv
  obtain ⟨rfl, hsz, hP, hK, hD0⟩ := hv
  subst hsz
  have hts := atoms_spec (ws := wsOf j) B.pre
  have hown : s.vm.findClass j.1.cls = some m.cls := findClass_of_methodNamed B.named
  have hb := body (p, l, e, s, m, _, below, meth, c, (headSpec (wsOf j) { frames := j.2.2.2.2.1, cells := 0, slots := 0, locals := j.2.2.2.2.2 }).room, _, D, c0, va_A [(h0, e0)] s.heap.size) h0 rfl rfl rfl ⟨B.exec, B.bytes, hown, fun w h => hts w (List.mem_cons_of_mem _ h), hK, fun q h => Or.inr h, Nat.le_refl _, Nat.le_refl _⟩ ⟨B.returns, B.notSynchronized, rfl⟩
  obtain ⟨hle, hok⟩ := ent_lok (l := l) (D := D) (hL h0) (hlen h0)
  have hl := lv_entry (.ref h0 :: As) hle
  rw [lg_entry_eq]
  exact hb s.heap [] _ (by rw [hml]; exact hok _ hl) hP hD0.self va_S.rf
theorem pk {L : List (Option Value)} {i : Nat} (k0 : Nat) (e : i = k0 + 1) (h : nl (L.getD k0 none) = true) : prevOK L i := fun k hk => by
  have e2 : k = k0 := by omega
  subst e2
  exact h
/-- Arrays.fill -/
theorem fill_loop (hC : CnD mJ7_fill_53178 B) {h0 n : Nat} {v : Int32} (hn : n ≤ 1000) (hr : CnZ h0 (ar (bC B) n (fun _ => v)) B) : ∀ (d i : Nat) (f : Nat → Int32), i + d = n → (∀ k, k < i → f k = v) → CnW B 5 [some (.ref h0), some (.int v), some (.int (nI i)), some (.int (nI n))] [] [(h0, ar (bC B) n f)] 0 0 := by
  intro d
  induction d with
  | zero =>
    intro i f e hf
    obtain rfl : i = n := by omega
    refine cn_iload (i := 2) hC dJ7_fill_53178_5 rfl rfl (q := 6) rfl ?_
    refine cn_iload (i := 3) hC dJ7_fill_53178_6 rfl rfl (q := 7) rfl ?_
    refine cn_ge hC dJ7_fill_53178_7 (tgt := 20) rfl (q := 10) rfl (fun _ => ?_) (fun h => absurd (nI_le (Nat.le_refl i) (by omega)) h)
    refine cn_arr 0 rfl hf ?_
    exact cn_zret hC hr dJ7_fill_53178_20
  | succ d ih =>
    intro i f e hf
    have hi : i < n := by omega
    refine cn_iload (i := 2) hC dJ7_fill_53178_5 rfl rfl (q := 6) rfl ?_
    refine cn_iload (i := 3) hC dJ7_fill_53178_6 rfl rfl (q := 7) rfl ?_
    refine cn_ge hC dJ7_fill_53178_7 (tgt := 20) rfl (q := 10) rfl (fun h => absurd h (nI_ge hi (by omega))) (fun _ => ?_)
    refine cn_aload (i := 0) hC dJ7_fill_53178_10 rfl rfl (q := 11) rfl ?_
    refine cn_iload (i := 2) hC dJ7_fill_53178_11 rfl rfl (q := 12) rfl ?_
    refine cn_iload (i := 1) hC dJ7_fill_53178_12 rfl rfl (q := 13) rfl ?_
    refine cn_iast hC 0 rfl rfl hi hn dJ7_fill_53178_13 (q := 14) rfl ?_
    refine cn_iinc (i := 2) hC dJ7_fill_53178_14 rfl (pk 1 rfl rfl) (q := 17) rfl ?_
    refine cn_goto hC dJ7_fill_53178_17 (tgt := 5) rfl ?_
    have e2 : nI i + Int32.ofInt 1 = nI (i + 1) := nI_1 i
    rw [e2]
    refine ih (i + 1) (upd f i v) (by omega) (fun k hk => ?_)
    by_cases h : k = i
    · simp [upd, h]
    · simp [upd, h]; exact hf k (by omega)
theorem ct_fill (l : Launch) (D : va_G) (c0 : ClassId) (n : Nat) (hn : n ≤ 1000) (f : Nat → Int32) (v : Int32) : CnS l D c0 mJ7_fill_53178 [.int v] (ar c0 n f) (ar c0 n (fun _ => v)) := by
  refine cs_of (by decide) rfl (fun h0 => [some (.ref h0), some (.int v), none, none]) (fun h0 => rfl) (fun h0 => rfl) ?_
  intro B h0 _ _ hc hC hr
  subst hc
  refine cn_iconst hC (v := nI 0) (by decide) dJ7_fill_53178_0 (q := 1) rfl ?_
  refine cn_istore (i := 2) hC dJ7_fill_53178_1 rfl (by simp) (pk 1 rfl rfl) (q := 2) rfl ?_
  refine cn_aload (i := 0) hC dJ7_fill_53178_2 rfl rfl (q := 3) rfl ?_
  refine cn_alen hC 0 rfl dJ7_fill_53178_3 (q := 4) rfl ?_
  refine cn_istore (i := 3) hC dJ7_fill_53178_4 rfl (by simp) (pk 2 rfl rfl) (q := 5) rfl ?_
  exact fill_loop hC hn hr n 0 f (by omega) (fun k hk => absurd hk (Nat.not_lt_zero k))
def mX0_init : MI := (yX0_init, cX0_init, 1, none, 1, 12)
theorem moX0_init : MOK mX0_init 0 := ⟨wT1 4 (by rfl) (by rfl), wT1 76 (by rfl) (by rfl), by decide +kernel, by decide +kernel, by decide +kernel⟩
theorem miX0_init : Cond.instanceMethod mX0_init.1 ∈ wT := wT1 75 (by rfl) (by rfl)
theorem mlo_X0 : Cond.methodLink RX0 3 Lib.objectInit ∈ wT := wT1 77 (by rfl) (by rfl)
theorem inst_X0 : Cond.instantiable RX0 7 ∈ wT := wT1 73 (by rfl) (by rfl)
theorem ini_X0 : Cond.initialized RX0 ∈ wT := wT1 4 (by rfl) (by rfl)
theorem df_X0 : ∀ k, k < 7 → defaultValue (tyX0 k) = vp_V [.int 0, .null, .null, .null, .null, .null, .null] k := by
  intro k hk
  rcases (show k = 0 ∨ k = 1 ∨ k = 2 ∨ k = 3 ∨ k = 4 ∨ k = 5 ∨ k = 6 by omega) with rfl | rfl | rfl | rfl | rfl | rfl | rfl <;> rfl
def mX1_init : MI := (yX1_init, cX1_init, 1, none, 1, 12)
theorem moX1_init : MOK mX1_init 0 := ⟨wT1 8 (by rfl) (by rfl), wT1 193 (by rfl) (by rfl), by decide +kernel, by decide +kernel, by decide +kernel⟩
theorem miX1_init : Cond.instanceMethod mX1_init.1 ∈ wT := wT1 192 (by rfl) (by rfl)
theorem mlo_X1 : Cond.methodLink RX1 3 Lib.objectInit ∈ wT := wT1 194 (by rfl) (by rfl)
theorem inst_X1 : Cond.instantiable RX1 3 ∈ wT := wT1 190 (by rfl) (by rfl)
theorem ini_X1 : Cond.initialized RX1 ∈ wT := wT1 8 (by rfl) (by rfl)
theorem df_X1 : ∀ k, k < 3 → defaultValue (tyX1 k) = vp_V [.null, .null, .null] k := by
  intro k hk
  rcases (show k = 0 ∨ k = 1 ∨ k = 2 by omega) with rfl | rfl | rfl <;> rfl
def mX2_init : MI := (yX2_init, cX2_init, 1, none, 1, 12)
theorem moX2_init : MOK mX2_init 0 := ⟨wT1 6 (by rfl) (by rfl), wT1 152 (by rfl) (by rfl), by decide +kernel, by decide +kernel, by decide +kernel⟩
theorem miX2_init : Cond.instanceMethod mX2_init.1 ∈ wT := wT1 151 (by rfl) (by rfl)
theorem mlo_X2 : Cond.methodLink RX2 3 Lib.objectInit ∈ wT := wT1 153 (by rfl) (by rfl)
theorem inst_X2 : Cond.instantiable RX2 6 ∈ wT := wT1 149 (by rfl) (by rfl)
theorem ini_X2 : Cond.initialized RX2 ∈ wT := wT1 6 (by rfl) (by rfl)
theorem df_X2 : ∀ k, k < 6 → defaultValue (tyX2 k) = vp_V [.null, .int 0, .int 0, .int 0, .int 0, .int 0] k := by
  intro k hk
  rcases (show k = 0 ∨ k = 1 ∨ k = 2 ∨ k = 3 ∨ k = 4 ∨ k = 5 by omega) with rfl | rfl | rfl | rfl | rfl | rfl <;> rfl
def mX3_init : MI := (yX3_init, cX3_init, 3, none, 1, 12)
theorem moX3_init : MOK mX3_init 2 := ⟨wT1 7 (by rfl) (by rfl), wT1 180 (by rfl) (by rfl), by decide +kernel, by decide +kernel, by decide +kernel⟩
theorem miX3_init : Cond.instanceMethod mX3_init.1 ∈ wT := wT1 179 (by rfl) (by rfl)
theorem mlo_X3 : Cond.methodLink RX3 3 Lib.objectInit ∈ wT := wT1 181 (by rfl) (by rfl)
theorem inst_X3 : Cond.instantiable RX3 2 ∈ wT := wT1 177 (by rfl) (by rfl)
theorem ini_X3 : Cond.initialized RX3 ∈ wT := wT1 7 (by rfl) (by rfl)
theorem df_X3 : ∀ k, k < 2 → defaultValue (tyX3 k) = vp_V [.null, .null] k := by
  intro k hk
  rcases (show k = 0 ∨ k = 1 by omega) with rfl | rfl <;> rfl
def mX4_init : MI := (yX4_init, cX4_init, 1, none, 2, 32)
theorem moX4_init : MOK mX4_init 0 := ⟨wT1 2 (by rfl) (by rfl), wT1 29 (by rfl) (by rfl), by decide +kernel, by decide +kernel, by decide +kernel⟩
theorem miX4_init : Cond.instanceMethod mX4_init.1 ∈ wT := wT1 28 (by rfl) (by rfl)
theorem mlo_X4 : Cond.methodLink RX4 3 Lib.objectInit ∈ wT := wT1 30 (by rfl) (by rfl)
theorem inst_X4 : Cond.instantiable RX4 7 ∈ wT := wT1 26 (by rfl) (by rfl)
theorem ini_X4 : Cond.initialized RX4 ∈ wT := wT1 2 (by rfl) (by rfl)
theorem df_X4 : ∀ k, k < 7 → defaultValue (tyX4 k) = vp_V [.null, .null, .null, .int 0, .int 0, .int 0, .int 0] k := by
  intro k hk
  rcases (show k = 0 ∨ k = 1 ∨ k = 2 ∨ k = 3 ∨ k = 4 ∨ k = 5 ∨ k = 6 by omega) with rfl | rfl | rfl | rfl | rfl | rfl | rfl <;> rfl
def mX5_init : MI := (yX5_init, cX5_init, 1, none, 1, 12)
theorem moX5_init : MOK mX5_init 0 := ⟨wT1 3 (by rfl) (by rfl), wT1 35 (by rfl) (by rfl), by decide +kernel, by decide +kernel, by decide +kernel⟩
theorem miX5_init : Cond.instanceMethod mX5_init.1 ∈ wT := wT1 34 (by rfl) (by rfl)
theorem mlo_X5 : Cond.methodLink RX5 3 Lib.objectInit ∈ wT := wT1 36 (by rfl) (by rfl)
theorem inst_X5 : Cond.instantiable RX5 7 ∈ wT := wT1 32 (by rfl) (by rfl)
theorem ini_X5 : Cond.initialized RX5 ∈ wT := wT1 3 (by rfl) (by rfl)
theorem df_X5 : ∀ k, k < 7 → defaultValue (tyX5 k) = vp_V [.int 0, .null, .null, .null, .null, .null, .null] k := by
  intro k hk
  rcases (show k = 0 ∨ k = 1 ∨ k = 2 ∨ k = 3 ∨ k = 4 ∨ k = 5 ∨ k = 6 by omega) with rfl | rfl | rfl | rfl | rfl | rfl | rfl <;> rfl
def mX6_init : MI := (yX6_init, cX6_init, 1, none, 3, 52)
theorem moX6_init : MOK mX6_init 0 := ⟨wT1 1 (by rfl) (by rfl), wT1 21 (by rfl) (by rfl), by decide +kernel, by decide +kernel, by decide +kernel⟩
theorem miX6_init : Cond.instanceMethod mX6_init.1 ∈ wT := wT1 20 (by rfl) (by rfl)
theorem mlo_X6 : Cond.methodLink RX6 3 Lib.objectInit ∈ wT := wT1 22 (by rfl) (by rfl)
theorem inst_X6 : Cond.instantiable RX6 10 ∈ wT := wT1 18 (by rfl) (by rfl)
theorem ini_X6 : Cond.initialized RX6 ∈ wT := wT1 1 (by rfl) (by rfl)
theorem df_X6 : ∀ k, k < 10 → defaultValue (tyX6 k) = vp_V [.null, .null, .null, .int 0, .null, .null, .null, .null, .null, .null] k := by
  intro k hk
  rcases (show k = 0 ∨ k = 1 ∨ k = 2 ∨ k = 3 ∨ k = 4 ∨ k = 5 ∨ k = 6 ∨ k = 7 ∨ k = 8 ∨ k = 9 by omega) with rfl | rfl | rfl | rfl | rfl | rfl | rfl | rfl | rfl | rfl <;> rfl
def mX7_init : MI := (yX7_init, cX7_init, 2, none, 1, 12)
theorem moX7_init : MOK mX7_init 0 := ⟨wT1 9 (by rfl) (by rfl), wT4 131 (by rfl) (by rfl), by decide +kernel, by decide +kernel, by decide +kernel⟩
theorem miX7_init : Cond.instanceMethod mX7_init.1 ∈ wT := wT4 130 (by rfl) (by rfl)
theorem mlo_X7 : Cond.methodLink RX7 1 Lib.objectInit ∈ wT := wT4 132 (by rfl) (by rfl)
theorem inst_X7 : Cond.instantiable RX7 22 ∈ wT := wT4 128 (by rfl) (by rfl)
theorem ini_X7 : Cond.initialized RX7 ∈ wT := wT1 9 (by rfl) (by rfl)
theorem df_X7 : ∀ k, k < 22 → defaultValue (tyX7 k) = vp_V [.null, .null, .null, .null, .int 0, .int 0, .int 0, .int 0, .int 0, .int 0, .int 0, .null, .null, .int 0, .int 0, .int 0, .int 0, .int 0, .null, .null, .null, .null] k := by
  intro k hk
  rcases (show k = 0 ∨ k = 1 ∨ k = 2 ∨ k = 3 ∨ k = 4 ∨ k = 5 ∨ k = 6 ∨ k = 7 ∨ k = 8 ∨ k = 9 ∨ k = 10 ∨ k = 11 ∨ k = 12 ∨ k = 13 ∨ k = 14 ∨ k = 15 ∨ k = 16 ∨ k = 17 ∨ k = 18 ∨ k = 19 ∨ k = 20 ∨ k = 21 by omega) with rfl | rfl | rfl | rfl | rfl | rfl | rfl | rfl | rfl | rfl | rfl | rfl | rfl | rfl | rfl | rfl | rfl | rfl | rfl | rfl | rfl | rfl <;> rfl
def mk5 (c0 : ClassId) (f : Nat → Nat) : va_W := (f 0, .inr (5, [.int 0, .ref (f 1), .ref (f 2), .ref (f 3), .ref (f 4), .ref (f 5), .ref (f 6)])) :: ([(f 1, ar c0 6 (fun _ => 0)), (f 2, ar c0 6 (fun _ => 0)), (f 3, ar c0 6 (fun _ => 0)), (f 4, ar c0 6 (fun _ => 0)), (f 5, ar c0 6 (fun _ => 0)), (f 6, ar c0 6 (fun _ => 0))])
def mk0 (c0 : ClassId) (f : Nat → Nat) : va_W := (f 0, .inr (0, [.int 0, .ref (f 1), .ref (f 2), .ref (f 3), .ref (f 4), .ref (f 5), .ref (f 6)])) :: ([(f 1, ar c0 8 (fun _ => 0)), (f 2, ar c0 8 (fun _ => 0)), (f 3, ar c0 8 (fun _ => 0)), (f 4, ar c0 8 (fun _ => 0)), (f 5, ar c0 8 (fun _ => 0)), (f 6, ar c0 8 (fun _ => 0))])
def mk1 (c0 : ClassId) (f : Nat → Nat) : va_W := (f 0, .inr (1, [.ref (f 1), .ref (f 2), .ref (f 3)])) :: ([(f 1, ar c0 4 (fun _ => 0)), (f 2, ar c0 4 (fun _ => 0)), (f 3, ar c0 160 (fun _ => 0))])
def mk2 (c0 : ClassId) (f : Nat → Nat) : va_W := (f 0, .inr (2, [.ref (f 1), .int 0, .int 0, .int 0, .int 0, .int 0])) :: ([(f 1, ar c0 120 (fun _ => 0))])
def mk3 (x y : Nat) (f : Nat → Nat) : va_W := [(f 0, .inr (3, [.ref x, .ref y]))]
def mk4 (c0 : ClassId) (f : Nat → Nat) : va_W := (f 0, .inr (4, [.ref (f 1), .ref (f 8), .ref (f 15), .int 0, .int 0, .int 1, .int 0])) :: (mk5 c0 (fun i => f (1 + i)) ++ (mk0 c0 (fun i => f (8 + i)) ++ [(f 15, ar c0 10 (fun _ => -1))]))
def mk6 (c0 : ClassId) (f : Nat → Nat) : va_W := (f 0, .inr (6, [.ref (f 1), .ref (f 17), .ref (f 33), .int 0, .ref (f 49), .ref (f 51), .ref (f 52), .ref (f 56), .ref (f 57), .ref (f 58)])) :: (mk4 c0 (fun i => f (1 + i)) ++ (mk4 c0 (fun i => f (17 + i)) ++ (mk4 c0 (fun i => f (33 + i)) ++ (mk2 c0 (fun i => f (49 + i)) ++ (mk3 (f 49) (f 17) (fun i => f (51 + i)) ++ (mk1 c0 (fun i => f (52 + i)) ++ [(f 56, ar c0 7 (fun _ => 0)), (f 57, ar c0 101 (fun _ => 0)), (f 58, ar c0 128 (fun _ => 0))]))))))
def mk7 (c0 : ClassId) (f : Nat → Nat) : va_W := (f 0, .inr (7, [.ref (f 1), .ref (f 2), .ref (f 3), .ref (f 4), .int 0, .int 0, .int 0, .int 0, .int 0, .int 0, .int 0, .ref (f 5), .ref (f 6), .int 0, .int 0, .int 0, .int 0, .int 0, .ref (f 7), .ref (f 8), .ref (f 9), .ref (f 10)])) :: (f 1, ar c0 99 (M0i 60)) :: ([(f 2, ar c0 99 (fun _ => 0)), (f 3, ar c0 99 (fun _ => 0)), (f 4, ar c0 7 (fun _ => 0)), (f 5, ar c0 102 (fun _ => 0)), (f 6, ar c0 120 (fun _ => 0)), (f 7, ar c0 4 (fun _ => 0)), (f 8, ar c0 4 (fun _ => 0)), (f 9, ar c0 160 (fun _ => 0)), (f 10, ar c0 40 (fun _ => 0))])
theorem cl_X6_22 : Cond.classLink RX6 22 RX2 ∈ wT := wT1 148 (by rfl) (by rfl)
theorem cl_X6_29 : Cond.classLink RX6 29 RX3 ∈ wT := wT1 176 (by rfl) (by rfl)
theorem cl_X6_38 : Cond.classLink RX6 38 RX1 ∈ wT := wT1 189 (by rfl) (by rfl)
theorem cl_X6_9 : Cond.classLink RX6 9 RX4 ∈ wT := wT1 25 (by rfl) (by rfl)
theorem cl_X4_18 : Cond.classLink RX4 18 RX0 ∈ wT := wT1 72 (by rfl) (by rfl)
theorem cl_X4_9 : Cond.classLink RX4 9 RX5 ∈ wT := wT1 31 (by rfl) (by rfl)
set_option maxRecDepth 20000 in
theorem ct_X5 (l : Launch) (D : va_G) (c0 : ClassId) : CnT l D c0 mX5_init 6 36 [] (.inr (5, [.int 0, .null, .null, .null, .null, .null, .null])) (mk5 c0) := by
  refine ct_of (by decide) rfl rfl (fun h0 => [some (.ref h0)]) (fun h0 => rfl) (fun h0 => rfl) ?_
  intro B h0 hl hd hc hC hI hr
  subst hl; subst hd; subst hc
  refine cn_aload (i := 0) hC dX5_init_0 rfl rfl (q := 1) rfl ?_
  refine cn_obj hC mlo_X5 (by decide) (by decide) dX5_init_1 (q := 4) rfl ?_
  refine cn_aload (i := 0) hC dX5_init_4 rfl rfl (q := 5) rfl ?_
  refine cn_bipush hC (v := 6) (by decide) dX5_init_5 (q := 7) rfl ?_
  refine ch_newa hC (N := 6) (by decide) (by decide) (by rw [hr.cells]; exact Nat.le_of_ble_eq_true rfl) (by rw [hr.slots]; exact Nat.le_of_ble_eq_true rfl) dX5_init_7 (q := 9) rfl (fun a1 => ?_)
  refine cn_putF (k := 1) (ci := 5) (ty := .array .int) hC hI inT_X5 tyX5_ok nmX5 rfl (by decide) fl_RX5_9 rfl rfl (by decide +kernel) rfl rfl (Nat.le_of_ble_eq_true rfl) dX5_init_9 (q := 12) rfl ?_
  refine cn_aload (i := 0) hC dX5_init_12 rfl rfl (q := 13) rfl ?_
  refine cn_bipush hC (v := 6) (by decide) dX5_init_13 (q := 15) rfl ?_
  refine ch_newa hC (N := 6) (by decide) (by decide) (by rw [hr.cells]; exact Nat.le_of_ble_eq_true rfl) (by rw [hr.slots]; exact Nat.le_of_ble_eq_true rfl) dX5_init_15 (q := 17) rfl (fun a2 => ?_)
  refine cn_putF (k := 2) (ci := 5) (ty := .array .int) hC hI inT_X5 tyX5_ok nmX5 rfl (by decide) fl_RX5_15 rfl rfl (by decide +kernel) rfl rfl (Nat.le_of_ble_eq_true rfl) dX5_init_17 (q := 20) rfl ?_
  refine cn_aload (i := 0) hC dX5_init_20 rfl rfl (q := 21) rfl ?_
  refine cn_bipush hC (v := 6) (by decide) dX5_init_21 (q := 23) rfl ?_
  refine ch_newa hC (N := 6) (by decide) (by decide) (by rw [hr.cells]; exact Nat.le_of_ble_eq_true rfl) (by rw [hr.slots]; exact Nat.le_of_ble_eq_true rfl) dX5_init_23 (q := 25) rfl (fun a3 => ?_)
  refine cn_putF (k := 3) (ci := 5) (ty := .array .int) hC hI inT_X5 tyX5_ok nmX5 rfl (by decide) fl_RX5_18 rfl rfl (by decide +kernel) rfl rfl (Nat.le_of_ble_eq_true rfl) dX5_init_25 (q := 28) rfl ?_
  refine cn_aload (i := 0) hC dX5_init_28 rfl rfl (q := 29) rfl ?_
  refine cn_bipush hC (v := 6) (by decide) dX5_init_29 (q := 31) rfl ?_
  refine ch_newa hC (N := 6) (by decide) (by decide) (by rw [hr.cells]; exact Nat.le_of_ble_eq_true rfl) (by rw [hr.slots]; exact Nat.le_of_ble_eq_true rfl) dX5_init_31 (q := 33) rfl (fun a4 => ?_)
  refine cn_putF (k := 4) (ci := 5) (ty := .array .int) hC hI inT_X5 tyX5_ok nmX5 rfl (by decide) fl_RX5_21 rfl rfl (by decide +kernel) rfl rfl (Nat.le_of_ble_eq_true rfl) dX5_init_33 (q := 36) rfl ?_
  refine cn_aload (i := 0) hC dX5_init_36 rfl rfl (q := 37) rfl ?_
  refine cn_bipush hC (v := 6) (by decide) dX5_init_37 (q := 39) rfl ?_
  refine ch_newa hC (N := 6) (by decide) (by decide) (by rw [hr.cells]; exact Nat.le_of_ble_eq_true rfl) (by rw [hr.slots]; exact Nat.le_of_ble_eq_true rfl) dX5_init_39 (q := 41) rfl (fun a5 => ?_)
  refine cn_putF (k := 5) (ci := 5) (ty := .array .int) hC hI inT_X5 tyX5_ok nmX5 rfl (by decide) fl_RX5_24 rfl rfl (by decide +kernel) rfl rfl (Nat.le_of_ble_eq_true rfl) dX5_init_41 (q := 44) rfl ?_
  refine cn_aload (i := 0) hC dX5_init_44 rfl rfl (q := 45) rfl ?_
  refine cn_bipush hC (v := 6) (by decide) dX5_init_45 (q := 47) rfl ?_
  refine ch_newa hC (N := 6) (by decide) (by decide) (by rw [hr.cells]; exact Nat.le_of_ble_eq_true rfl) (by rw [hr.slots]; exact Nat.le_of_ble_eq_true rfl) dX5_init_47 (q := 49) rfl (fun a6 => ?_)
  refine cn_putF (k := 6) (ci := 5) (ty := .array .int) hC hI inT_X5 tyX5_ok nmX5 rfl (by decide) fl_RX5_27 rfl rfl (by decide +kernel) rfl rfl (Nat.le_of_ble_eq_true rfl) dX5_init_49 (q := 52) rfl ?_
  exact cn_ret hC hr (fun i => [h0, a1, a2, a3, a4, a5, a6].getD i 0) rfl rfl rfl rfl dX5_init_52
set_option maxRecDepth 20000 in
theorem ct_X0 (l : Launch) (D : va_G) (c0 : ClassId) : CnT l D c0 mX0_init 6 48 [] (.inr (0, [.int 0, .null, .null, .null, .null, .null, .null])) (mk0 c0) := by
  refine ct_of (by decide) rfl rfl (fun h0 => [some (.ref h0)]) (fun h0 => rfl) (fun h0 => rfl) ?_
  intro B h0 hl hd hc hC hI hr
  subst hl; subst hd; subst hc
  refine cn_aload (i := 0) hC dX0_init_0 rfl rfl (q := 1) rfl ?_
  refine cn_obj hC mlo_X0 (by decide) (by decide) dX0_init_1 (q := 4) rfl ?_
  refine cn_aload (i := 0) hC dX0_init_4 rfl rfl (q := 5) rfl ?_
  refine cn_bipush hC (v := 8) (by decide) dX0_init_5 (q := 7) rfl ?_
  refine ch_newa hC (N := 8) (by decide) (by decide) (by rw [hr.cells]; exact Nat.le_of_ble_eq_true rfl) (by rw [hr.slots]; exact Nat.le_of_ble_eq_true rfl) dX0_init_7 (q := 9) rfl (fun a1 => ?_)
  refine cn_putF (k := 1) (ci := 0) (ty := .array .int) hC hI inT_X0 tyX0_ok nmX0 rfl (by decide) fl_RX0_9 rfl rfl (by decide +kernel) rfl rfl (Nat.le_of_ble_eq_true rfl) dX0_init_9 (q := 12) rfl ?_
  refine cn_aload (i := 0) hC dX0_init_12 rfl rfl (q := 13) rfl ?_
  refine cn_bipush hC (v := 8) (by decide) dX0_init_13 (q := 15) rfl ?_
  refine ch_newa hC (N := 8) (by decide) (by decide) (by rw [hr.cells]; exact Nat.le_of_ble_eq_true rfl) (by rw [hr.slots]; exact Nat.le_of_ble_eq_true rfl) dX0_init_15 (q := 17) rfl (fun a2 => ?_)
  refine cn_putF (k := 2) (ci := 0) (ty := .array .int) hC hI inT_X0 tyX0_ok nmX0 rfl (by decide) fl_RX0_15 rfl rfl (by decide +kernel) rfl rfl (Nat.le_of_ble_eq_true rfl) dX0_init_17 (q := 20) rfl ?_
  refine cn_aload (i := 0) hC dX0_init_20 rfl rfl (q := 21) rfl ?_
  refine cn_bipush hC (v := 8) (by decide) dX0_init_21 (q := 23) rfl ?_
  refine ch_newa hC (N := 8) (by decide) (by decide) (by rw [hr.cells]; exact Nat.le_of_ble_eq_true rfl) (by rw [hr.slots]; exact Nat.le_of_ble_eq_true rfl) dX0_init_23 (q := 25) rfl (fun a3 => ?_)
  refine cn_putF (k := 3) (ci := 0) (ty := .array .int) hC hI inT_X0 tyX0_ok nmX0 rfl (by decide) fl_RX0_18 rfl rfl (by decide +kernel) rfl rfl (Nat.le_of_ble_eq_true rfl) dX0_init_25 (q := 28) rfl ?_
  refine cn_aload (i := 0) hC dX0_init_28 rfl rfl (q := 29) rfl ?_
  refine cn_bipush hC (v := 8) (by decide) dX0_init_29 (q := 31) rfl ?_
  refine ch_newa hC (N := 8) (by decide) (by decide) (by rw [hr.cells]; exact Nat.le_of_ble_eq_true rfl) (by rw [hr.slots]; exact Nat.le_of_ble_eq_true rfl) dX0_init_31 (q := 33) rfl (fun a4 => ?_)
  refine cn_putF (k := 4) (ci := 0) (ty := .array .int) hC hI inT_X0 tyX0_ok nmX0 rfl (by decide) fl_RX0_21 rfl rfl (by decide +kernel) rfl rfl (Nat.le_of_ble_eq_true rfl) dX0_init_33 (q := 36) rfl ?_
  refine cn_aload (i := 0) hC dX0_init_36 rfl rfl (q := 37) rfl ?_
  refine cn_bipush hC (v := 8) (by decide) dX0_init_37 (q := 39) rfl ?_
  refine ch_newa hC (N := 8) (by decide) (by decide) (by rw [hr.cells]; exact Nat.le_of_ble_eq_true rfl) (by rw [hr.slots]; exact Nat.le_of_ble_eq_true rfl) dX0_init_39 (q := 41) rfl (fun a5 => ?_)
  refine cn_putF (k := 5) (ci := 0) (ty := .array .int) hC hI inT_X0 tyX0_ok nmX0 rfl (by decide) fl_RX0_24 rfl rfl (by decide +kernel) rfl rfl (Nat.le_of_ble_eq_true rfl) dX0_init_41 (q := 44) rfl ?_
  refine cn_aload (i := 0) hC dX0_init_44 rfl rfl (q := 45) rfl ?_
  refine cn_bipush hC (v := 8) (by decide) dX0_init_45 (q := 47) rfl ?_
  refine ch_newa hC (N := 8) (by decide) (by decide) (by rw [hr.cells]; exact Nat.le_of_ble_eq_true rfl) (by rw [hr.slots]; exact Nat.le_of_ble_eq_true rfl) dX0_init_47 (q := 49) rfl (fun a6 => ?_)
  refine cn_putF (k := 6) (ci := 0) (ty := .array .int) hC hI inT_X0 tyX0_ok nmX0 rfl (by decide) fl_RX0_27 rfl rfl (by decide +kernel) rfl rfl (Nat.le_of_ble_eq_true rfl) dX0_init_49 (q := 52) rfl ?_
  exact cn_ret hC hr (fun i => [h0, a1, a2, a3, a4, a5, a6].getD i 0) rfl rfl rfl rfl dX0_init_52
set_option maxRecDepth 20000 in
theorem ct_X1 (l : Launch) (D : va_G) (c0 : ClassId) : CnT l D c0 mX1_init 3 168 [] (.inr (1, [.null, .null, .null])) (mk1 c0) := by
  refine ct_of (by decide) rfl rfl (fun h0 => [some (.ref h0)]) (fun h0 => rfl) (fun h0 => rfl) ?_
  intro B h0 hl hd hc hC hI hr
  subst hl; subst hd; subst hc
  refine cn_aload (i := 0) hC dX1_init_0 rfl rfl (q := 1) rfl ?_
  refine cn_obj hC mlo_X1 (by decide) (by decide) dX1_init_1 (q := 4) rfl ?_
  refine cn_aload (i := 0) hC dX1_init_4 rfl rfl (q := 5) rfl ?_
  refine cn_iconst hC (v := 4) (by decide) dX1_init_5 (q := 6) rfl ?_
  refine ch_newa hC (N := 4) (by decide) (by decide) (by rw [hr.cells]; exact Nat.le_of_ble_eq_true rfl) (by rw [hr.slots]; exact Nat.le_of_ble_eq_true rfl) dX1_init_6 (q := 8) rfl (fun a1 => ?_)
  refine cn_putF (k := 0) (ci := 1) (ty := .array .int) hC hI inT_X1 tyX1_ok nmX1 rfl (by decide) fl_RX1_9 rfl rfl (by decide +kernel) rfl rfl (Nat.le_of_ble_eq_true rfl) dX1_init_8 (q := 11) rfl ?_
  refine cn_aload (i := 0) hC dX1_init_11 rfl rfl (q := 12) rfl ?_
  refine cn_iconst hC (v := 4) (by decide) dX1_init_12 (q := 13) rfl ?_
  refine ch_newa hC (N := 4) (by decide) (by decide) (by rw [hr.cells]; exact Nat.le_of_ble_eq_true rfl) (by rw [hr.slots]; exact Nat.le_of_ble_eq_true rfl) dX1_init_13 (q := 15) rfl (fun a2 => ?_)
  refine cn_putF (k := 1) (ci := 1) (ty := .array .int) hC hI inT_X1 tyX1_ok nmX1 rfl (by decide) fl_RX1_15 rfl rfl (by decide +kernel) rfl rfl (Nat.le_of_ble_eq_true rfl) dX1_init_15 (q := 18) rfl ?_
  refine cn_aload (i := 0) hC dX1_init_18 rfl rfl (q := 19) rfl ?_
  refine cn_sipush hC (v := 160) (by decide) dX1_init_19 (q := 22) rfl ?_
  refine ch_newa hC (N := 160) (by decide) (by decide) (by rw [hr.cells]; exact Nat.le_of_ble_eq_true rfl) (by rw [hr.slots]; exact Nat.le_of_ble_eq_true rfl) dX1_init_22 (q := 24) rfl (fun a3 => ?_)
  refine cn_putF (k := 2) (ci := 1) (ty := .array .int) hC hI inT_X1 tyX1_ok nmX1 rfl (by decide) fl_RX1_18 rfl rfl (by decide +kernel) rfl rfl (Nat.le_of_ble_eq_true rfl) dX1_init_24 (q := 27) rfl ?_
  exact cn_ret hC hr (fun i => [h0, a1, a2, a3].getD i 0) rfl rfl rfl rfl dX1_init_27
set_option maxRecDepth 20000 in
theorem ct_X2 (l : Launch) (D : va_G) (c0 : ClassId) : CnT l D c0 mX2_init 1 120 [] (.inr (2, [.null, .int 0, .int 0, .int 0, .int 0, .int 0])) (mk2 c0) := by
  refine ct_of (by decide) rfl rfl (fun h0 => [some (.ref h0)]) (fun h0 => rfl) (fun h0 => rfl) ?_
  intro B h0 hl hd hc hC hI hr
  subst hl; subst hd; subst hc
  refine cn_aload (i := 0) hC dX2_init_0 rfl rfl (q := 1) rfl ?_
  refine cn_obj hC mlo_X2 (by decide) (by decide) dX2_init_1 (q := 4) rfl ?_
  refine cn_aload (i := 0) hC dX2_init_4 rfl rfl (q := 5) rfl ?_
  refine cn_bipush hC (v := 120) (by decide) dX2_init_5 (q := 7) rfl ?_
  refine ch_newa hC (N := 120) (by decide) (by decide) (by rw [hr.cells]; exact Nat.le_of_ble_eq_true rfl) (by rw [hr.slots]; exact Nat.le_of_ble_eq_true rfl) dX2_init_7 (q := 9) rfl (fun a1 => ?_)
  refine cn_putF (k := 0) (ci := 2) (ty := .array .int) hC hI inT_X2 tyX2_ok nmX2 rfl (by decide) fl_RX2_9 rfl rfl (by decide +kernel) rfl rfl (Nat.le_of_ble_eq_true rfl) dX2_init_9 (q := 12) rfl ?_
  exact cn_ret hC hr (fun i => [h0, a1].getD i 0) rfl rfl rfl rfl dX2_init_12
set_option maxRecDepth 20000 in
theorem ct_X3 (l : Launch) (D : va_G) (c0 : ClassId) (x y : Nat) : CnT l D c0 mX3_init 0 0 [.ref x, .ref y] (.inr (3, [.null, .null])) (mk3 x y) := by
  refine ct_of (by decide) rfl rfl (fun h0 => [some (.ref h0), some (.ref x), some (.ref y)]) (fun h0 => rfl) (fun h0 => rfl) ?_
  intro B h0 hl hd hc hC hI hr
  subst hl; subst hd; subst hc
  refine cn_aload (i := 0) hC dX3_init_0 rfl rfl (q := 1) rfl ?_
  refine cn_obj hC mlo_X3 (by decide) (by decide) dX3_init_1 (q := 4) rfl ?_
  refine cn_aload (i := 0) hC dX3_init_4 rfl rfl (q := 5) rfl ?_
  refine cn_aload (i := 1) hC dX3_init_5 rfl rfl (q := 6) rfl ?_
  refine cn_putF (k := 0) (ci := 3) (ty := .object "ScribeTables$Tape") hC hI inT_X3 tyX3_ok nmX3 rfl (by decide) fl_RX3_9 rfl rfl (by decide +kernel) rfl rfl (Nat.le_of_ble_eq_true rfl) dX3_init_6 (q := 9) rfl ?_
  refine cn_aload (i := 0) hC dX3_init_9 rfl rfl (q := 10) rfl ?_
  refine cn_aload (i := 2) hC dX3_init_10 rfl rfl (q := 11) rfl ?_
  refine cn_putF (k := 1) (ci := 3) (ty := .object "ScribeTables$World") hC hI inT_X3 tyX3_ok nmX3 rfl (by decide) fl_RX3_15 rfl rfl (by decide +kernel) rfl rfl (Nat.le_of_ble_eq_true rfl) dX3_init_11 (q := 14) rfl ?_
  exact cn_ret hC hr (fun i => [h0].getD i 0) rfl rfl rfl rfl dX3_init_14
set_option maxRecDepth 20000 in
theorem ct_X4 (l : Launch) (D : va_G) (c0 : ClassId) : CnT l D c0 mX4_init 15 108 [] (.inr (4, [.null, .null, .null, .int 0, .int 0, .int 0, .int 0])) (mk4 c0) := by
  refine ct_of (by decide) rfl rfl (fun h0 => [some (.ref h0)]) (fun h0 => rfl) (fun h0 => rfl) ?_
  intro B h0 hl hd hc hC hI hr
  subst hl; subst hd; subst hc
  refine cn_aload (i := 0) hC dX4_init_0 rfl rfl (q := 1) rfl ?_
  refine cn_obj hC mlo_X4 (by decide) (by decide) dX4_init_1 (q := 4) rfl ?_
  refine cn_aload (i := 0) hC dX4_init_4 rfl rfl (q := 5) rfl ?_
  refine ch_new hC (ci := 5) inT_X5 tyX5_ok cl_X4_9 inst_X5 ini_X5 rfl df_X5 (by rw [hr.cells]; exact Nat.le_of_ble_eq_true rfl) (by rw [hr.slots]; exact Nat.le_of_ble_eq_true rfl) dX4_init_5 (q := 8) rfl (fun b1 => ?_)
  refine cn_dup hC rfl dX4_init_8 (q := 9) rfl ?_
  refine ch_call hC moX5_init miX5_init ml_RX4_11 rfl rfl rfl (ct_X5 _ _ _) rfl rfl (Nat.le_of_ble_eq_true rfl) (by rw [hr.cells]; exact Nat.le_of_ble_eq_true rfl) (by rw [hr.slots]; exact Nat.le_of_ble_eq_true rfl) dX4_init_9 (q := 12) rfl (fun f1 e1 => ?_)
  subst e1
  refine cn_putF (k := 0) (ci := 4) (ty := .object "ScribeTables$Writers") hC hI inT_X4 tyX4_ok nmX4 rfl (by decide) fl_RX4_12 rfl rfl (by decide +kernel) rfl rfl (Nat.le_of_ble_eq_true rfl) dX4_init_12 (q := 15) rfl ?_
  refine cn_aload (i := 0) hC dX4_init_15 rfl rfl (q := 16) rfl ?_
  refine ch_new hC (ci := 0) inT_X0 tyX0_ok cl_X4_18 inst_X0 ini_X0 rfl df_X0 (by rw [hr.cells]; exact Nat.le_of_ble_eq_true rfl) (by rw [hr.slots]; exact Nat.le_of_ble_eq_true rfl) dX4_init_16 (q := 19) rfl (fun b2 => ?_)
  refine cn_dup hC rfl dX4_init_19 (q := 20) rfl ?_
  refine ch_call hC moX0_init miX0_init ml_RX4_20 rfl rfl rfl (ct_X0 _ _ _) rfl rfl (Nat.le_of_ble_eq_true rfl) (by rw [hr.cells]; exact Nat.le_of_ble_eq_true rfl) (by rw [hr.slots]; exact Nat.le_of_ble_eq_true rfl) dX4_init_20 (q := 23) rfl (fun f2 e2 => ?_)
  subst e2
  refine cn_putF (k := 1) (ci := 4) (ty := .object "ScribeTables$People") hC hI inT_X4 tyX4_ok nmX4 rfl (by decide) fl_RX4_21 rfl rfl (by decide +kernel) rfl rfl (Nat.le_of_ble_eq_true rfl) dX4_init_23 (q := 26) rfl ?_
  refine cn_aload (i := 0) hC dX4_init_26 rfl rfl (q := 27) rfl ?_
  refine cn_bipush hC (v := 10) (by decide) dX4_init_27 (q := 29) rfl ?_
  refine ch_newa hC (N := 10) (by decide) (by decide) (by rw [hr.cells]; exact Nat.le_of_ble_eq_true rfl) (by rw [hr.slots]; exact Nat.le_of_ble_eq_true rfl) dX4_init_29 (q := 31) rfl (fun a3 => ?_)
  refine cn_putF (k := 2) (ci := 4) (ty := .array .int) hC hI inT_X4 tyX4_ok nmX4 rfl (by decide) fl_RX4_25 rfl rfl (by decide +kernel) rfl rfl (Nat.le_of_ble_eq_true rfl) dX4_init_31 (q := 34) rfl ?_
  refine cn_aload (i := 0) hC dX4_init_34 rfl rfl (q := 35) rfl ?_
  refine ch_get (k := 2) (ci := 4) hC inT_X4 rfl (by decide) fl_RX4_25 rfl dX4_init_35 (q := 38) rfl ?_
  refine cn_iconst hC (v := -1) (by decide) dX4_init_38 (q := 39) rfl ?_
  refine ch_stat hC moJ7_fill_53178 msJ7_fill_53178 ml_RX4_29 rfl (ct_fill _ _ _ 10 (by decide) _ _) rfl rfl (Nat.le_of_ble_eq_true rfl) (by rw [hr.cells]; exact Nat.le_of_ble_eq_true rfl) (by rw [hr.slots]; exact Nat.le_of_ble_eq_true rfl) dX4_init_39 (q := 42) rfl ?_
  refine cn_aload (i := 0) hC dX4_init_42 rfl rfl (q := 43) rfl ?_
  refine cn_iconst hC (v := 1) (by decide) dX4_init_43 (q := 44) rfl ?_
  refine cn_put (k := 5) (ci := 4) (ty := .int) hC inT_X4 tyX4_ok nmX4 rfl (by decide) fl_RX4_35 rfl (by decide +kernel) rfl rfl (Nat.le_of_ble_eq_true rfl) dX4_init_44 (q := 47) rfl ?_
  exact cn_ret hC hr (fun i => [h0, f1 0, f1 1, f1 2, f1 3, f1 4, f1 5, f1 6, f2 0, f2 1, f2 2, f2 3, f2 4, f2 5, f2 6, a3].getD i 0) rfl rfl rfl rfl dX4_init_47
set_option maxRecDepth 20000 in
theorem ct_X6 (l : Launch) (D : va_G) (c0 : ClassId) : CnT l D c0 mX6_init 58 880 [] (.inr (6, [.null, .null, .null, .int 0, .null, .null, .null, .null, .null, .null])) (mk6 c0) := by
  refine ct_of (by decide) rfl rfl (fun h0 => [some (.ref h0)]) (fun h0 => rfl) (fun h0 => rfl) ?_
  intro B h0 hl hd hc hC hI hr
  subst hl; subst hd; subst hc
  refine cn_aload (i := 0) hC dX6_init_0 rfl rfl (q := 1) rfl ?_
  refine cn_obj hC mlo_X6 (by decide) (by decide) dX6_init_1 (q := 4) rfl ?_
  refine cn_aload (i := 0) hC dX6_init_4 rfl rfl (q := 5) rfl ?_
  refine ch_new hC (ci := 4) inT_X4 tyX4_ok cl_X6_9 inst_X4 ini_X4 rfl df_X4 (by rw [hr.cells]; exact Nat.le_of_ble_eq_true rfl) (by rw [hr.slots]; exact Nat.le_of_ble_eq_true rfl) dX6_init_5 (q := 8) rfl (fun b1 => ?_)
  refine cn_dup hC rfl dX6_init_8 (q := 9) rfl ?_
  refine ch_call hC moX4_init miX4_init ml_RX6_11 rfl rfl rfl (ct_X4 _ _ _) rfl rfl (Nat.le_of_ble_eq_true rfl) (by rw [hr.cells]; exact Nat.le_of_ble_eq_true rfl) (by rw [hr.slots]; exact Nat.le_of_ble_eq_true rfl) dX6_init_9 (q := 12) rfl (fun f1 e1 => ?_)
  subst e1
  refine cn_putF (k := 0) (ci := 6) (ty := .object "ScribeTables$World") hC hI inT_X6 tyX6_ok nmX6 rfl (by decide) fl_RX6_12 rfl rfl (by decide +kernel) rfl rfl (Nat.le_of_ble_eq_true rfl) dX6_init_12 (q := 15) rfl ?_
  refine cn_aload (i := 0) hC dX6_init_15 rfl rfl (q := 16) rfl ?_
  refine ch_new hC (ci := 4) inT_X4 tyX4_ok cl_X6_9 inst_X4 ini_X4 rfl df_X4 (by rw [hr.cells]; exact Nat.le_of_ble_eq_true rfl) (by rw [hr.slots]; exact Nat.le_of_ble_eq_true rfl) dX6_init_16 (q := 19) rfl (fun b2 => ?_)
  refine cn_dup hC rfl dX6_init_19 (q := 20) rfl ?_
  refine ch_call hC moX4_init miX4_init ml_RX6_11 rfl rfl rfl (ct_X4 _ _ _) rfl rfl (Nat.le_of_ble_eq_true rfl) (by rw [hr.cells]; exact Nat.le_of_ble_eq_true rfl) (by rw [hr.slots]; exact Nat.le_of_ble_eq_true rfl) dX6_init_20 (q := 23) rfl (fun f2 e2 => ?_)
  subst e2
  refine cn_putF (k := 1) (ci := 6) (ty := .object "ScribeTables$World") hC hI inT_X6 tyX6_ok nmX6 rfl (by decide) fl_RX6_16 rfl rfl (by decide +kernel) rfl rfl (Nat.le_of_ble_eq_true rfl) dX6_init_23 (q := 26) rfl ?_
  refine cn_aload (i := 0) hC dX6_init_26 rfl rfl (q := 27) rfl ?_
  refine ch_new hC (ci := 4) inT_X4 tyX4_ok cl_X6_9 inst_X4 ini_X4 rfl df_X4 (by rw [hr.cells]; exact Nat.le_of_ble_eq_true rfl) (by rw [hr.slots]; exact Nat.le_of_ble_eq_true rfl) dX6_init_27 (q := 30) rfl (fun b3 => ?_)
  refine cn_dup hC rfl dX6_init_30 (q := 31) rfl ?_
  refine ch_call hC moX4_init miX4_init ml_RX6_11 rfl rfl rfl (ct_X4 _ _ _) rfl rfl (Nat.le_of_ble_eq_true rfl) (by rw [hr.cells]; exact Nat.le_of_ble_eq_true rfl) (by rw [hr.slots]; exact Nat.le_of_ble_eq_true rfl) dX6_init_31 (q := 34) rfl (fun f3 e3 => ?_)
  subst e3
  refine cn_putF (k := 2) (ci := 6) (ty := .object "ScribeTables$World") hC hI inT_X6 tyX6_ok nmX6 rfl (by decide) fl_RX6_19 rfl rfl (by decide +kernel) rfl rfl (Nat.le_of_ble_eq_true rfl) dX6_init_34 (q := 37) rfl ?_
  refine cn_aload (i := 0) hC dX6_init_37 rfl rfl (q := 38) rfl ?_
  refine ch_new hC (ci := 2) inT_X2 tyX2_ok cl_X6_22 inst_X2 ini_X2 rfl df_X2 (by rw [hr.cells]; exact Nat.le_of_ble_eq_true rfl) (by rw [hr.slots]; exact Nat.le_of_ble_eq_true rfl) dX6_init_38 (q := 41) rfl (fun b4 => ?_)
  refine cn_dup hC rfl dX6_init_41 (q := 42) rfl ?_
  refine ch_call hC moX2_init miX2_init ml_RX6_24 rfl rfl rfl (ct_X2 _ _ _) rfl rfl (Nat.le_of_ble_eq_true rfl) (by rw [hr.cells]; exact Nat.le_of_ble_eq_true rfl) (by rw [hr.slots]; exact Nat.le_of_ble_eq_true rfl) dX6_init_42 (q := 45) rfl (fun f4 e4 => ?_)
  subst e4
  refine cn_putF (k := 4) (ci := 6) (ty := .object "ScribeTables$Tape") hC hI inT_X6 tyX6_ok nmX6 rfl (by decide) fl_RX6_25 rfl rfl (by decide +kernel) rfl rfl (Nat.le_of_ble_eq_true rfl) dX6_init_45 (q := 48) rfl ?_
  refine cn_aload (i := 0) hC dX6_init_48 rfl rfl (q := 49) rfl ?_
  refine ch_new hC (ci := 3) inT_X3 tyX3_ok cl_X6_29 inst_X3 ini_X3 rfl df_X3 (by rw [hr.cells]; exact Nat.le_of_ble_eq_true rfl) (by rw [hr.slots]; exact Nat.le_of_ble_eq_true rfl) dX6_init_49 (q := 52) rfl (fun b5 => ?_)
  refine cn_dup hC rfl dX6_init_52 (q := 53) rfl ?_
  refine cn_aload (i := 0) hC dX6_init_53 rfl rfl (q := 54) rfl ?_
  refine ch_get (k := 4) (ci := 6) hC inT_X6 rfl (by decide) fl_RX6_25 rfl dX6_init_54 (q := 57) rfl ?_
  refine cn_aload (i := 0) hC dX6_init_57 rfl rfl (q := 58) rfl ?_
  refine ch_get (k := 1) (ci := 6) hC inT_X6 rfl (by decide) fl_RX6_16 rfl dX6_init_58 (q := 61) rfl ?_
  refine ch_call hC moX3_init miX3_init ml_RX6_31 rfl rfl rfl (ct_X3 _ _ _ _ _) rfl rfl (Nat.le_of_ble_eq_true rfl) (by rw [hr.cells]; exact Nat.le_of_ble_eq_true rfl) (by rw [hr.slots]; exact Nat.le_of_ble_eq_true rfl) dX6_init_61 (q := 64) rfl (fun f5 e5 => ?_)
  subst e5
  refine cn_putF (k := 5) (ci := 6) (ty := .object "ScribeTables$TextReader") hC hI inT_X6 tyX6_ok nmX6 rfl (by decide) fl_RX6_34 rfl rfl (by decide +kernel) rfl rfl (Nat.le_of_ble_eq_true rfl) dX6_init_64 (q := 67) rfl ?_
  refine cn_aload (i := 0) hC dX6_init_67 rfl rfl (q := 68) rfl ?_
  refine ch_new hC (ci := 1) inT_X1 tyX1_ok cl_X6_38 inst_X1 ini_X1 rfl df_X1 (by rw [hr.cells]; exact Nat.le_of_ble_eq_true rfl) (by rw [hr.slots]; exact Nat.le_of_ble_eq_true rfl) dX6_init_68 (q := 71) rfl (fun b6 => ?_)
  refine cn_dup hC rfl dX6_init_71 (q := 72) rfl ?_
  refine ch_call hC moX1_init miX1_init ml_RX6_40 rfl rfl rfl (ct_X1 _ _ _) rfl rfl (Nat.le_of_ble_eq_true rfl) (by rw [hr.cells]; exact Nat.le_of_ble_eq_true rfl) (by rw [hr.slots]; exact Nat.le_of_ble_eq_true rfl) dX6_init_72 (q := 75) rfl (fun f6 e6 => ?_)
  subst e6
  refine cn_putF (k := 6) (ci := 6) (ty := .object "ScribeTables$Sheets") hC hI inT_X6 tyX6_ok nmX6 rfl (by decide) fl_RX6_41 rfl rfl (by decide +kernel) rfl rfl (Nat.le_of_ble_eq_true rfl) dX6_init_75 (q := 78) rfl ?_
  refine cn_aload (i := 0) hC dX6_init_78 rfl rfl (q := 79) rfl ?_
  refine cn_bipush hC (v := 7) (by decide) dX6_init_79 (q := 81) rfl ?_
  refine ch_newa hC (N := 7) (by decide) (by decide) (by rw [hr.cells]; exact Nat.le_of_ble_eq_true rfl) (by rw [hr.slots]; exact Nat.le_of_ble_eq_true rfl) dX6_init_81 (q := 83) rfl (fun a7 => ?_)
  refine cn_putF (k := 7) (ci := 6) (ty := .array .int) hC hI inT_X6 tyX6_ok nmX6 rfl (by decide) fl_RX6_45 rfl rfl (by decide +kernel) rfl rfl (Nat.le_of_ble_eq_true rfl) dX6_init_83 (q := 86) rfl ?_
  refine cn_aload (i := 0) hC dX6_init_86 rfl rfl (q := 87) rfl ?_
  refine cn_bipush hC (v := 101) (by decide) dX6_init_87 (q := 89) rfl ?_
  refine ch_newa hC (N := 101) (by decide) (by decide) (by rw [hr.cells]; exact Nat.le_of_ble_eq_true rfl) (by rw [hr.slots]; exact Nat.le_of_ble_eq_true rfl) dX6_init_89 (q := 91) rfl (fun a8 => ?_)
  refine cn_putF (k := 8) (ci := 6) (ty := .array .int) hC hI inT_X6 tyX6_ok nmX6 rfl (by decide) fl_RX6_49 rfl rfl (by decide +kernel) rfl rfl (Nat.le_of_ble_eq_true rfl) dX6_init_91 (q := 94) rfl ?_
  refine cn_aload (i := 0) hC dX6_init_94 rfl rfl (q := 95) rfl ?_
  refine cn_sipush hC (v := 128) (by decide) dX6_init_95 (q := 98) rfl ?_
  refine ch_newa hC (N := 128) (by decide) (by decide) (by rw [hr.cells]; exact Nat.le_of_ble_eq_true rfl) (by rw [hr.slots]; exact Nat.le_of_ble_eq_true rfl) dX6_init_98 (q := 100) rfl (fun a9 => ?_)
  refine cn_putF (k := 9) (ci := 6) (ty := .array .int) hC hI inT_X6 tyX6_ok nmX6 rfl (by decide) fl_RX6_52 rfl rfl (by decide +kernel) rfl rfl (Nat.le_of_ble_eq_true rfl) dX6_init_100 (q := 103) rfl ?_
  exact cn_ret hC hr (fun i => [h0, f1 0, f1 1, f1 2, f1 3, f1 4, f1 5, f1 6, f1 7, f1 8, f1 9, f1 10, f1 11, f1 12, f1 13, f1 14, f1 15, f2 0, f2 1, f2 2, f2 3, f2 4, f2 5, f2 6, f2 7, f2 8, f2 9, f2 10, f2 11, f2 12, f2 13, f2 14, f2 15, f3 0, f3 1, f3 2, f3 3, f3 4, f3 5, f3 6, f3 7, f3 8, f3 9, f3 10, f3 11, f3 12, f3 13, f3 14, f3 15, f4 0, f4 1, f5 0, f6 0, f6 1, f6 2, f6 3, a7, a8, a9].getD i 0) rfl rfl rfl rfl dX6_init_103
theorem M60_lt {f : Nat → Int32} (h2 : f 2 = 1) (h : ∀ k, k < 99 → k ≠ 2 → f k = if 89 ≤ k ∧ k < 89 + 10 then -1 else 0) : ∀ k, k < 99 → f k = M0i 60 k := by
  intro k hk
  rw [M0_60]
  by_cases e : k = 2
  · subst e; rw [if_pos rfl]; exact h2
  · rw [if_neg e, h k hk e]
    by_cases e3 : 89 ≤ k
    · rw [if_pos ⟨e3, by omega⟩, if_pos e3]
    · rw [if_neg (fun y => e3 y.1), if_neg e3]
theorem mo_loop (hC : CnD mX7_init B) {h0 a : Nat} {fs : List Value} {w3 : va_W} (hfs : fs[0]? = some (.ref a)) (kend : ∀ f : Nat → Int32, (∀ k, k < 99 → f k = M0i 60 k) → CnW B 114 [some (.ref h0), some (.int (nI 10))] [] ((h0, .inr (7, fs)) :: (a, ar (bC B) 99 f) :: w3) cl sl) : ∀ (d i : Nat) (f : Nat → Int32), i + d = 10 → f 2 = 1 → (∀ k, k < 99 → k ≠ 2 → f k = if 89 ≤ k ∧ k < 89 + i then -1 else 0) → CnW B 92 [some (.ref h0), some (.int (nI i))] [] ((h0, .inr (7, fs)) :: (a, ar (bC B) 99 f) :: w3) cl sl := by
  intro d
  induction d with
  | zero =>
    intro i f e h2 hf
    obtain rfl : i = 10 := by omega
    refine cn_iload (i := 1) hC dX7_init_92 rfl rfl (q := 93) rfl ?_
    refine cn_bipush hC (v := nI 10) (by decide) dX7_init_93 (q := 95) rfl ?_
    exact cn_ge hC dX7_init_95 (tgt := 114) rfl (q := 98) rfl (fun _ => kend f (M60_lt h2 hf)) (fun h => absurd (nI_le (Nat.le_refl 10) (by omega)) h)
  | succ d ih =>
    intro i f e h2 hf
    have hi : i < 10 := by omega
    refine cn_iload (i := 1) hC dX7_init_92 rfl rfl (q := 93) rfl ?_
    refine cn_bipush hC (v := nI 10) (by decide) dX7_init_93 (q := 95) rfl ?_
    refine cn_ge hC dX7_init_95 (tgt := 114) rfl (q := 98) rfl (fun h => absurd h (nI_ge hi (by omega))) (fun _ => ?_)
    refine cn_aload (i := 0) hC dX7_init_98 rfl rfl (q := 99) rfl ?_
    refine ch_get (k := 0) (ci := 7) hC inT_X7 rfl (by decide) fl_RX7_7 hfs dX7_init_99 (q := 102) rfl ?_
    refine cn_bipush hC (v := nI 89) (by decide) dX7_init_102 (q := 104) rfl ?_
    refine cn_iload (i := 1) hC dX7_init_104 rfl rfl (q := 105) rfl ?_
    refine cn_iadd hC dX7_init_105 (q := 106) rfl ?_
    refine cn_iconst hC (v := -1) (by decide) dX7_init_106 (q := 107) rfl ?_
    refine cn_iast hC 1 rfl (x := 89 + i) (nI_add 89 i) (by omega) (by decide) dX7_init_107 (q := 108) rfl ?_
    refine cn_iinc (i := 1) hC dX7_init_108 rfl (pk 0 rfl rfl) (q := 111) rfl ?_
    refine cn_goto hC dX7_init_111 (tgt := 92) rfl ?_
    have e2 : nI i + Int32.ofInt 1 = nI (i + 1) := nI_1 i
    rw [e2]
    refine ih (i + 1) (upd f (89 + i) (-1)) (by omega) (by rw [upd, if_neg (by omega)]; exact h2) (fun k hk h3 => ?_)
    by_cases h : k = 89 + i
    · rw [upd, if_pos h, if_pos (by omega)]
    · rw [upd, if_neg h, hf k hk h3]
      by_cases h4 : 89 ≤ k ∧ k < 89 + i
      · rw [if_pos h4, if_pos (by omega)]
      · rw [if_neg h4, if_neg (by omega)]
set_option maxRecDepth 20000 in
theorem ct_X7 (l : Launch) (D : va_G) (c0 : ClassId) : CnT l D c0 mX7_init 10 734 [] (.inr (7, [.null, .null, .null, .null, .int 0, .int 0, .int 0, .int 0, .int 0, .int 0, .int 0, .null, .null, .int 0, .int 0, .int 0, .int 0, .int 0, .null, .null, .null, .null])) (mk7 c0) := by
  refine ct_of (by decide) rfl rfl (fun h0 => [some (.ref h0), none]) (fun h0 => rfl) (fun h0 => rfl) ?_
  intro B h0 hl hd hc hC hI hr
  subst hl; subst hd; subst hc
  refine cn_aload (i := 0) hC dX7_init_0 rfl rfl (q := 1) rfl ?_
  refine cn_obj hC mlo_X7 (by decide) (by decide) dX7_init_1 (q := 4) rfl ?_
  refine cn_aload (i := 0) hC dX7_init_4 rfl rfl (q := 5) rfl ?_
  refine cn_bipush hC (v := 99) (by decide) dX7_init_5 (q := 7) rfl ?_
  refine ch_newa hC (N := 99) (by decide) (by decide) (by rw [hr.cells]; exact Nat.le_of_ble_eq_true rfl) (by rw [hr.slots]; exact Nat.le_of_ble_eq_true rfl) dX7_init_7 (q := 9) rfl (fun a1 => ?_)
  refine cn_putF (k := 0) (ci := 7) (ty := .array .int) hC hI inT_X7 tyX7_ok nmX7 rfl (by decide) fl_RX7_7 rfl rfl (by decide +kernel) rfl rfl (Nat.le_of_ble_eq_true rfl) dX7_init_9 (q := 12) rfl ?_
  refine cn_aload (i := 0) hC dX7_init_12 rfl rfl (q := 13) rfl ?_
  refine cn_bipush hC (v := 99) (by decide) dX7_init_13 (q := 15) rfl ?_
  refine ch_newa hC (N := 99) (by decide) (by decide) (by rw [hr.cells]; exact Nat.le_of_ble_eq_true rfl) (by rw [hr.slots]; exact Nat.le_of_ble_eq_true rfl) dX7_init_15 (q := 17) rfl (fun a2 => ?_)
  refine cn_putF (k := 1) (ci := 7) (ty := .array .int) hC hI inT_X7 tyX7_ok nmX7 rfl (by decide) fl_RX7_13 rfl rfl (by decide +kernel) rfl rfl (Nat.le_of_ble_eq_true rfl) dX7_init_17 (q := 20) rfl ?_
  refine cn_aload (i := 0) hC dX7_init_20 rfl rfl (q := 21) rfl ?_
  refine cn_bipush hC (v := 99) (by decide) dX7_init_21 (q := 23) rfl ?_
  refine ch_newa hC (N := 99) (by decide) (by decide) (by rw [hr.cells]; exact Nat.le_of_ble_eq_true rfl) (by rw [hr.slots]; exact Nat.le_of_ble_eq_true rfl) dX7_init_23 (q := 25) rfl (fun a3 => ?_)
  refine cn_putF (k := 2) (ci := 7) (ty := .array .int) hC hI inT_X7 tyX7_ok nmX7 rfl (by decide) fl_RX7_16 rfl rfl (by decide +kernel) rfl rfl (Nat.le_of_ble_eq_true rfl) dX7_init_25 (q := 28) rfl ?_
  refine cn_aload (i := 0) hC dX7_init_28 rfl rfl (q := 29) rfl ?_
  refine cn_bipush hC (v := 7) (by decide) dX7_init_29 (q := 31) rfl ?_
  refine ch_newa hC (N := 7) (by decide) (by decide) (by rw [hr.cells]; exact Nat.le_of_ble_eq_true rfl) (by rw [hr.slots]; exact Nat.le_of_ble_eq_true rfl) dX7_init_31 (q := 33) rfl (fun a4 => ?_)
  refine cn_putF (k := 3) (ci := 7) (ty := .array .int) hC hI inT_X7 tyX7_ok nmX7 rfl (by decide) fl_RX7_19 rfl rfl (by decide +kernel) rfl rfl (Nat.le_of_ble_eq_true rfl) dX7_init_33 (q := 36) rfl ?_
  refine cn_aload (i := 0) hC dX7_init_36 rfl rfl (q := 37) rfl ?_
  refine cn_bipush hC (v := 102) (by decide) dX7_init_37 (q := 39) rfl ?_
  refine ch_newa hC (N := 102) (by decide) (by decide) (by rw [hr.cells]; exact Nat.le_of_ble_eq_true rfl) (by rw [hr.slots]; exact Nat.le_of_ble_eq_true rfl) dX7_init_39 (q := 41) rfl (fun a5 => ?_)
  refine cn_putF (k := 11) (ci := 7) (ty := .array .int) hC hI inT_X7 tyX7_ok nmX7 rfl (by decide) fl_RX7_22 rfl rfl (by decide +kernel) rfl rfl (Nat.le_of_ble_eq_true rfl) dX7_init_41 (q := 44) rfl ?_
  refine cn_aload (i := 0) hC dX7_init_44 rfl rfl (q := 45) rfl ?_
  refine cn_bipush hC (v := 120) (by decide) dX7_init_45 (q := 47) rfl ?_
  refine ch_newa hC (N := 120) (by decide) (by decide) (by rw [hr.cells]; exact Nat.le_of_ble_eq_true rfl) (by rw [hr.slots]; exact Nat.le_of_ble_eq_true rfl) dX7_init_47 (q := 49) rfl (fun a6 => ?_)
  refine cn_putF (k := 12) (ci := 7) (ty := .array .int) hC hI inT_X7 tyX7_ok nmX7 rfl (by decide) fl_RX7_25 rfl rfl (by decide +kernel) rfl rfl (Nat.le_of_ble_eq_true rfl) dX7_init_49 (q := 52) rfl ?_
  refine cn_aload (i := 0) hC dX7_init_52 rfl rfl (q := 53) rfl ?_
  refine cn_iconst hC (v := 4) (by decide) dX7_init_53 (q := 54) rfl ?_
  refine ch_newa hC (N := 4) (by decide) (by decide) (by rw [hr.cells]; exact Nat.le_of_ble_eq_true rfl) (by rw [hr.slots]; exact Nat.le_of_ble_eq_true rfl) dX7_init_54 (q := 56) rfl (fun a7 => ?_)
  refine cn_putF (k := 18) (ci := 7) (ty := .array .int) hC hI inT_X7 tyX7_ok nmX7 rfl (by decide) fl_RX7_28 rfl rfl (by decide +kernel) rfl rfl (Nat.le_of_ble_eq_true rfl) dX7_init_56 (q := 59) rfl ?_
  refine cn_aload (i := 0) hC dX7_init_59 rfl rfl (q := 60) rfl ?_
  refine cn_iconst hC (v := 4) (by decide) dX7_init_60 (q := 61) rfl ?_
  refine ch_newa hC (N := 4) (by decide) (by decide) (by rw [hr.cells]; exact Nat.le_of_ble_eq_true rfl) (by rw [hr.slots]; exact Nat.le_of_ble_eq_true rfl) dX7_init_61 (q := 63) rfl (fun a8 => ?_)
  refine cn_putF (k := 19) (ci := 7) (ty := .array .int) hC hI inT_X7 tyX7_ok nmX7 rfl (by decide) fl_RX7_31 rfl rfl (by decide +kernel) rfl rfl (Nat.le_of_ble_eq_true rfl) dX7_init_63 (q := 66) rfl ?_
  refine cn_aload (i := 0) hC dX7_init_66 rfl rfl (q := 67) rfl ?_
  refine cn_sipush hC (v := 160) (by decide) dX7_init_67 (q := 70) rfl ?_
  refine ch_newa hC (N := 160) (by decide) (by decide) (by rw [hr.cells]; exact Nat.le_of_ble_eq_true rfl) (by rw [hr.slots]; exact Nat.le_of_ble_eq_true rfl) dX7_init_70 (q := 72) rfl (fun a9 => ?_)
  refine cn_putF (k := 20) (ci := 7) (ty := .array .int) hC hI inT_X7 tyX7_ok nmX7 rfl (by decide) fl_RX7_34 rfl rfl (by decide +kernel) rfl rfl (Nat.le_of_ble_eq_true rfl) dX7_init_72 (q := 75) rfl ?_
  refine cn_aload (i := 0) hC dX7_init_75 rfl rfl (q := 76) rfl ?_
  refine cn_bipush hC (v := 40) (by decide) dX7_init_76 (q := 78) rfl ?_
  refine ch_newa hC (N := 40) (by decide) (by decide) (by rw [hr.cells]; exact Nat.le_of_ble_eq_true rfl) (by rw [hr.slots]; exact Nat.le_of_ble_eq_true rfl) dX7_init_78 (q := 80) rfl (fun a10 => ?_)
  refine cn_putF (k := 21) (ci := 7) (ty := .array .int) hC hI inT_X7 tyX7_ok nmX7 rfl (by decide) fl_RX7_37 rfl rfl (by decide +kernel) rfl rfl (Nat.le_of_ble_eq_true rfl) dX7_init_80 (q := 83) rfl ?_
  show CnW B 83 [some (.ref h0), none] [] ((h0, .inr (7, [.ref a1, .ref a2, .ref a3, .ref a4, .int 0, .int 0, .int 0, .int 0, .int 0, .int 0, .int 0, .ref a5, .ref a6, .int 0, .int 0, .int 0, .int 0, .int 0, .ref a7, .ref a8, .ref a9, .ref a10])) :: (a1, ar (bC B) 99 (fun _ => 0)) :: [(a2, ar (bC B) 99 (fun _ => 0)), (a3, ar (bC B) 99 (fun _ => 0)), (a4, ar (bC B) 7 (fun _ => 0)), (a5, ar (bC B) 102 (fun _ => 0)), (a6, ar (bC B) 120 (fun _ => 0)), (a7, ar (bC B) 4 (fun _ => 0)), (a8, ar (bC B) 4 (fun _ => 0)), (a9, ar (bC B) 160 (fun _ => 0)), (a10, ar (bC B) 40 (fun _ => 0))]) 10 734
  refine cn_aload (i := 0) hC dX7_init_83 rfl rfl (q := 84) rfl ?_
  refine ch_get (k := 0) (ci := 7) hC inT_X7 rfl (by decide) fl_RX7_7 rfl dX7_init_84 (q := 87) rfl ?_
  refine cn_iconst hC (v := nI 2) (by decide) dX7_init_87 (q := 88) rfl ?_
  refine cn_iconst hC (v := 1) (by decide) dX7_init_88 (q := 89) rfl ?_
  refine cn_iast hC 1 rfl (x := 2) rfl (by decide) (by decide) dX7_init_89 (q := 90) rfl ?_
  refine cn_iconst hC (v := nI 0) (by decide) dX7_init_90 (q := 91) rfl ?_
  refine cn_istore (i := 1) hC dX7_init_91 rfl (by simp) (pk 0 rfl rfl) (q := 92) rfl ?_
  refine mo_loop hC (a := a1) (w3 := [(a2, ar (bC B) 99 (fun _ => 0)), (a3, ar (bC B) 99 (fun _ => 0)), (a4, ar (bC B) 7 (fun _ => 0)), (a5, ar (bC B) 102 (fun _ => 0)), (a6, ar (bC B) 120 (fun _ => 0)), (a7, ar (bC B) 4 (fun _ => 0)), (a8, ar (bC B) 4 (fun _ => 0)), (a9, ar (bC B) 160 (fun _ => 0)), (a10, ar (bC B) 40 (fun _ => 0))]) rfl (fun f hf => ?_) 10 0 (upd (fun _ => 0) 2 1) rfl rfl (fun k hk h3 => by rw [upd, if_neg h3, if_neg (by omega)])
  refine cn_arr 1 rfl hf ?_
  exact cn_ret hC hr (fun i => [h0, a1, a2, a3, a4, a5, a6, a7, a8, a9, a10].getD i 0) rfl rfl rfl rfl dX7_init_114
end CTOR

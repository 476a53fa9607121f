section CEN
/-- the constructors: worlds that grow, addresses as they are -/
def eI (l : Launch) (D : va_G) : EB := (l, D.1, D.2, fun i => i, D.1, 0, fun _ => 0)
theorem mv_eI (l : Launch) (D : va_G) (v : Value) : mv (eI l D) v = v := by cases v <;> rfl
theorem map_eI (l : Launch) (D : va_G) (av : List Value) : av.map (mv (eI l D)) = av := by
  induction av with
  | nil => rfl
  | cons v vs ih => rw [List.map_cons, ih, mv_eI]
abbrev CnB : Type := Program × Launch × Env × State × MethodId × Array Value × List Frame × Method × Code × Room × (State → Prop) × va_G × ClassId × (Nat → Prop)
def CnW (B : CnB) (pc : Nat) (L : List (Option Value)) (st : List Value) (ws : va_W) (cl sl : Nat) : Prop := match B with
  | (p, l, e, s, m, args, below, meth, c, R, Q, D, _, A) => ∀ (H : Heap) (locs : List Loc) (ls : Array Slot), Lok (eI l D) ls c.maxLocals L → va_P D vwCl ws H → va_D A ws → va_S A s.heap H locs → W p l e R s m args below meth c H locs cl sl Q (F0 m pc ls st)
def CnD (j : MI) (B : CnB) : Prop := match B with
  | (p, _, _, s, m, args, _, _, c, R, _, D, c0, A) => p.tables.exec = Jvm.exec ∧ c.code = j.2.1 ∧ s.vm.findClass j.1.cls = some m.cls ∧ (∀ w ∈ wT, w.before args s = true) ∧ va_K D vwCl [(c0, .int)] s ∧ (∀ q, s.heap.size ≤ q → A q) ∧ j.2.2.2.2.1 ≤ R.frames ∧ j.2.2.2.2.2 ≤ R.locals
def CnI (B : CnB) : Prop := match B with
  | (_, _, _, _, _, _, _, meth, _, _, _, _, _, _) => meth.name = "<init>"
def bL (B : CnB) : Launch := B.2.1
def bR (B : CnB) : Room := B.2.2.2.2.2.2.2.2.2.1
def bD (B : CnB) : va_G := B.2.2.2.2.2.2.2.2.2.2.2.1
def bC (B : CnB) : ClassId := B.2.2.2.2.2.2.2.2.2.2.2.2.1
/-- an array of ints -/
def ar (B : ClassId) (n : Nat) (f : Nat → Int32) : va_E := .inl (B, n, .inl f)
def CnT (l : Launch) (D : va_G) (c0 : ClassId) (j : MI) (mc ms : Nat) (As : List Value) (e0 : va_E) (mk : (Nat → Nat) → va_W) : Prop := ∀ h0 sz : Nat, Met l j.1 (wsOf j) { frames := j.2.2.2.2.1, cells := mc, slots := ms, locals := j.2.2.2.2.2 } (va_Pc (.ref h0 :: As) (fun U => U.heap.size = sz ∧ va_P D vwCl [(h0, e0)] U.heap ∧ va_K D vwCl [(c0, .int)] U ∧ va_D (fun _ => True) [(h0, e0)])) (va_Qv (fun f : Nat → Nat => f 0 = h0) (fun f t => va_P D vwCl (mk f) t.heap ∧ va_D (va_A [(h0, e0)] sz) (mk f)) (va_A [(h0, e0)] sz)) mc ms (va_A [(h0, e0)] sz)
def CnS (l : Launch) (D : va_G) (c0 : ClassId) (j : MI) (As : List Value) (e0 e1 : va_E) : Prop := ∀ h0 sz : Nat, Met l j.1 (wsOf j) { frames := j.2.2.2.2.1, cells := 0, slots := 0, locals := j.2.2.2.2.2 } (va_Pc (.ref h0 :: As) (fun U => U.heap.size = sz ∧ va_P D vwCl [(h0, e0)] U.heap ∧ va_K D vwCl [(c0, .int)] U ∧ va_D (fun _ => True) [(h0, e0)])) (va_Qv (fun _ : Unit => True) (fun _ t => va_P D vwCl [(h0, e1)] t.heap) (va_A [(h0, e0)] sz)) 0 0 (va_A [(h0, e0)] sz)
variable {B : CnB} {j : MI} {pc q : Nat} {L : List (Option Value)} {st : List Value} {ws : va_W} {cl sl : Nat}
theorem cn_aload (hC : CnD j B) {k : Fin 4} {i x : Nat} (d : decode j.2.1 pc = .ok (.aload_n k, 1)) (hi : (k : Nat) = i) (hl : L[i]? = some (some (.ref x))) (hq : pc + 1 = q) (kk : CnW B q L (.ref x :: st) ws cl sl) : CnW B pc L st ws cl sl := by
  subst hq; obtain ⟨p, l, e, s, m, args, below, meth, c, R, Q, D, c0, A⟩ := B
  exact fun H locs ls hL hP hD hS => lv_aload_n hC.1 hC.2.1 d hi (hL.2.2.2 i _ hl) (kk H locs ls hL hP hD hS)
theorem cn_iload (hC : CnD j B) {k : Fin 4} {i : Nat} {x : Int32} (d : decode j.2.1 pc = .ok (.iload_n k, 1)) (hi : (k : Nat) = i) (hl : L[i]? = some (some (.int x))) (hq : pc + 1 = q) (kk : CnW B q L (.int x :: st) ws cl sl) : CnW B pc L st ws cl sl := by
  subst hq; obtain ⟨p, l, e, s, m, args, below, meth, c, R, Q, D, c0, A⟩ := B
  exact fun H locs ls hL hP hD hS => lv_iload_n hC.1 hC.2.1 d hi (hL.2.2.2 i _ hl) (kk H locs ls hL hP hD hS)
theorem cn_istore (hC : CnD j B) {k : Fin 4} {i : Nat} {x : Int32} (d : decode j.2.1 pc = .ok (.istore_n k, 1)) (hi : (k : Nat) = i) (hn : i < L.length) (hp : prevOK L i) (hq : pc + 1 = q) (kk : CnW B q (L.set i (some (.int x))) st ws cl sl) : CnW B pc L (.int x :: st) ws cl sl := by
  subst hq; obtain ⟨p, l, e, s, m, args, below, meth, c, R, Q, D, c0, A⟩ := B
  exact fun H locs ls hL hP hD hS => lv_istore_n hC.1 hC.2.1 d hi hL.has (by rw [← hL.2.2.1]; exact hn) rfl (fun ls2 h2 => kk H locs ls2 (Lok.st1 hL.2.2.1 hp h2) hP hD hS)
theorem cn_astore (hC : CnD j B) {k : Fin 4} {i : Nat} {x : Nat} (d : decode j.2.1 pc = .ok (.astore_n k, 1)) (hi : (k : Nat) = i) (hn : i < L.length) (hp : prevOK L i) (hq : pc + 1 = q) (kk : CnW B q (L.set i (some (.ref x))) st ws cl sl) : CnW B pc L (.ref x :: st) ws cl sl := by
  subst hq; obtain ⟨p, l, e, s, m, args, below, meth, c, R, Q, D, c0, A⟩ := B
  exact fun H locs ls hL hP hD hS => lv_astore_n hC.1 hC.2.1 d hi hL.has (by rw [← hL.2.2.1]; exact hn) rfl (fun ls2 h2 => kk H locs ls2 (Lok.st1 (x := .ref x) hL.2.2.1 hp h2) hP hD hS)
theorem cn_iinc (hC : CnD j B) {i : Nat} {n : Int} {x : Int32} (d : decode j.2.1 pc = .ok (.iinc i n, 3)) (hl : L[i]? = some (some (.int x))) (hp : prevOK L i) (hq : pc + 3 = q) (kk : CnW B q (L.set i (some (.int (x + Int32.ofInt n)))) st ws cl sl) : CnW B pc L st ws cl sl := by
  subst hq; obtain ⟨p, l, e, s, m, args, below, meth, c, R, Q, D, c0, A⟩ := B
  intro H locs ls hL hP hD hS
  have hm : (i, Value.int x) ∈ lvF (eI l D) L := mem_lvF.mpr ⟨i, .int x, hl, rfl⟩
  obtain ⟨k0, hkk⟩ := List.getElem?_of_mem hm
  exact lv_iinc hC.1 hC.2.1 d hL.has hkk rfl (by rw [← hL.2.2.1]; exact (List.getElem?_eq_some_iff.mp hl).1) rfl (fun ls2 h2 => kk H locs ls2 (Lok.st1 hL.2.2.1 hp h2) hP hD hS)
theorem cn_iconst (hC : CnD j B) {n : Int} {v : Int32} (hv : Int32.ofInt n = v) (d : decode j.2.1 pc = .ok (.iconst n, 1)) (hq : pc + 1 = q) (kk : CnW B q L (.int v :: st) ws cl sl) : CnW B pc L st ws cl sl := by
  subst hq; obtain ⟨p, l, e, s, m, args, below, meth, c, R, Q, D, c0, A⟩ := B
  exact fun H locs ls hL hP hD hS => lv_iconst hC.1 hC.2.1 d hv (kk H locs ls hL hP hD hS)
theorem cn_bipush (hC : CnD j B) {n : Int} {v : Int32} (hv : (Int8.ofInt n).toInt32 = v) (d : decode j.2.1 pc = .ok (.bipush n, 2)) (hq : pc + 2 = q) (kk : CnW B q L (.int v :: st) ws cl sl) : CnW B pc L st ws cl sl := by
  subst hq; obtain ⟨p, l, e, s, m, args, below, meth, c, R, Q, D, c0, A⟩ := B
  exact fun H locs ls hL hP hD hS => lv_bipush hC.1 hC.2.1 d hv (kk H locs ls hL hP hD hS)
theorem cn_sipush (hC : CnD j B) {n : Int} {v : Int32} (hv : (Int16.ofInt n).toInt32 = v) (d : decode j.2.1 pc = .ok (.sipush n, 3)) (hq : pc + 3 = q) (kk : CnW B q L (.int v :: st) ws cl sl) : CnW B pc L st ws cl sl := by
  subst hq; obtain ⟨p, l, e, s, m, args, below, meth, c, R, Q, D, c0, A⟩ := B
  exact fun H locs ls hL hP hD hS => lv_sipush hC.1 hC.2.1 d hv (kk H locs ls hL hP hD hS)
theorem cn_dup (hC : CnD j B) {v : Value} (hv : v.category = 1) (d : decode j.2.1 pc = .ok (.dup, 1)) (hq : pc + 1 = q) (kk : CnW B q L (v :: v :: st) ws cl sl) : CnW B pc L (v :: st) ws cl sl := by
  subst hq; obtain ⟨p, l, e, s, m, args, below, meth, c, R, Q, D, c0, A⟩ := B
  exact fun H locs ls hL hP hD hS => lv_dup hC.1 hC.2.1 d hv (kk H locs ls hL hP hD hS)
theorem cn_iadd (hC : CnD j B) {x y : Int32} (d : decode j.2.1 pc = .ok (.iadd, 1)) (hq : pc + 1 = q) (kk : CnW B q L (.int (x + y) :: st) ws cl sl) : CnW B pc L (.int y :: .int x :: st) ws cl sl := by
  subst hq; obtain ⟨p, l, e, s, m, args, below, meth, c, R, Q, D, c0, A⟩ := B
  exact fun H locs ls hL hP hD hS => lv_iadd hC.1 hC.2.1 d (kk H locs ls hL hP hD hS)
theorem cn_ge (hC : CnD j B) {x y : Int32} {off : Int} {tgt : Nat} (d : decode j.2.1 pc = .ok (.if_icmp .ge off, 3)) (ht : (pc : Int) + off = (tgt : Int)) (hq : pc + 3 = q) (kt : y ≤ x → CnW B tgt L st ws cl sl) (kf : ¬ y ≤ x → CnW B q L st ws cl sl) : CnW B pc L (.int y :: .int x :: st) ws cl sl := by
  subst hq; obtain ⟨p, l, e, s, m, args, below, meth, c, R, Q, D, c0, A⟩ := B
  exact fun H locs ls hL hP hD hS => lv_icmp_ge hC.1 hC.2.1 d ht (fun h => kt h H locs ls hL hP hD hS) (fun h => kf h H locs ls hL hP hD hS)
theorem cn_goto (hC : CnD j B) {off : Int} {tgt : Nat} (d : decode j.2.1 pc = .ok (.goto off, 3)) (ht : (pc : Int) + off = (tgt : Int)) (kk : CnW B tgt L st ws cl sl) : CnW B pc L st ws cl sl := by
  obtain ⟨p, l, e, s, m, args, below, meth, c, R, Q, D, c0, A⟩ := B
  exact fun H locs ls hL hP hD hS => lv_goto hC.1 hC.2.1 d ht (kk H locs ls hL hP hD hS)
theorem cn_new (hC : CnD j B) {ci idx N : Nat} {C : String} {T : u_T} {fs : List Value} {ty : Nat → FieldType} (hin : ∀ w ∈ u_ws C T N, w ∈ wT) (hty : ∀ k, k < N → parseFieldDescriptor (T k).2.2.1 = some (ty k)) (hcl : Cond.classLink j.1.cls idx C ∈ wT) (hinst : Cond.instantiable C N ∈ wT) (hini : Cond.initialized C ∈ wT) (hc : vwCl[ci]? = some (C, T, N)) (hfs : ∀ k, k < N → defaultValue (ty k) = vp_V fs k) (hce : cl + 1 ≤ (bR B).cells) (hsl : sl + N ≤ (bR B).slots) (d : decode j.2.1 pc = .ok (.new idx, 3)) (hq : pc + 3 = q) (kk : ∀ a : Nat, CnW B q L (.ref a :: st) (ws ++ [(a, .inr (ci, fs))]) (cl + 1) (sl + N)) : CnW B pc L st ws cl sl := by
  subst hq; obtain ⟨p, l, e, s, m, args, below, meth, c, R, Q, D, c0, A⟩ := B
  obtain ⟨hx, hb, hown, hts, hK, hA, -, -⟩ := hC
  exact fun H locs ls hL hP hD hS => va_new hx hb hts hin ty hty hown (hts _ hcl) (hts _ hinst) (hts _ hini) hK hP hD hS hA hc hfs hce hsl d (fun a H1 hP1 hD1 hS1 => kk a H1 locs ls hL hP1 hD1 hS1)
theorem aT_int : Cond.arrayClass .int ∈ wT := wT1 71 (by rfl) (by rfl)
theorem cn_newa (hC : CnD j B) {n : Int32} {N : Nat} (hN : n = nI N) (hN2 : N ≤ 1000) (hce : cl + 1 ≤ (bR B).cells) (hsl : sl + N ≤ (bR B).slots) (d : decode j.2.1 pc = .ok (.newarray .int, 2)) (hq : pc + 2 = q) (kk : ∀ a : Nat, CnW B q L (.ref a :: st) (ws ++ [(a, ar (bC B) N (fun _ => 0))]) (cl + 1) (sl + N)) : CnW B pc L (.int n :: st) ws cl sl := by
  subst hq; obtain ⟨p, l, e, s, m, args, below, meth, c, R, Q, D, c0, A⟩ := B
  obtain ⟨hx, hb, hown, hts, hK, hA, -, -⟩ := hC
  have h31 : N < 2 ^ 31 := by omega
  subst hN
  intro H locs ls hL hP hD hS
  refine va_newa (atype := .int) (ty := .int) (a0 := (N, .inl (fun _ => 0))) hx hb (hts _ aT_int) rfl hK hP hD hS hA (fun cA => rfl) (nI_pos h31) (nI_clamp h31) (by show N * 4 ≤ _; omega) hce hsl d (fun a cA H1 hK1 hP1 hD1 hS1 => ?_)
  have e1 := (hK1.2 1 (cA, .int) rfl).2
  have e2 := (hK.2 0 (c0, .int) rfl).2
  have e3 : some cA = some c0 := e1.symm.trans e2
  cases e3
  exact kk a H1 locs ls hL hP1 hD1 hS1
theorem cn_putF (hC : CnD j B) (hI : CnI B) {h0 ci k idx N : Nat} {v : Value} {fs : List Value} {C : String} {T : u_T} {ty0 : Nat → FieldType} {ty : FieldType} {w2 : va_W} (hin : ∀ w ∈ u_ws C T N, w ∈ wT) (hty : ∀ k, k < N → parseFieldDescriptor (T k).2.2.1 = some (ty0 k)) (hnm : ∀ a, a < N → ∀ b, b < N → a ≠ b → (T a).2.1 ≠ (T b).2.1) (hc : vwCl[ci]? = some (C, T, N)) (hk : k < N) (hlink : Cond.fieldLink j.1.cls idx (T k).1 (T k).2.1 (T k).2.2.1 ∈ wT) (hfin : (T k).2.2.2 = true) (hdecl : (T k).1 = j.1.cls) (hd : parseFieldDescriptor (T k).2.2.1 = some ty) (hn : narrow ty v = v) (hfit : fits ty v = true) (hl : k < fs.length) (d : decode j.2.1 pc = .ok (.putfield idx, 3)) (hq : pc + 3 = q) (kk : CnW B q L st ((h0, .inr (ci, fs.set k v)) :: w2) cl sl) : CnW B pc L (v :: .ref h0 :: st) ((h0, .inr (ci, fs)) :: w2) cl sl := by
  subst hq; obtain ⟨p, l, e, s, m, args, below, meth, c, R, Q, D, c0, A⟩ := B
  obtain ⟨hx, hb, hown, hts, hK, hA, -, -⟩ := hC
  exact fun H locs ls hL hP hD hS => va_putF hx hb hts hin ty0 hty hnm hown hK hP hD hS 0 rfl hc k hk (hts _ hlink) (fun _ h => h) hfin hI hdecl hd hn hfit hl d (fun H1 locs1 hP1 hD1 hS1 => kk H1 locs1 ls hL hP1 hD1 hS1)
theorem cn_put (hC : CnD j B) {h0 ci k idx N : Nat} {v : Value} {fs : List Value} {C : String} {T : u_T} {ty0 : Nat → FieldType} {ty : FieldType} {w2 : va_W} (hin : ∀ w ∈ u_ws C T N, w ∈ wT) (hty : ∀ k, k < N → parseFieldDescriptor (T k).2.2.1 = some (ty0 k)) (hnm : ∀ a, a < N → ∀ b, b < N → a ≠ b → (T a).2.1 ≠ (T b).2.1) (hc : vwCl[ci]? = some (C, T, N)) (hk : k < N) (hlink : Cond.fieldLink j.1.cls idx (T k).1 (T k).2.1 (T k).2.2.1 ∈ wT) (hfin : (T k).2.2.2 = false) (hd : parseFieldDescriptor (T k).2.2.1 = some ty) (hn : narrow ty v = v) (hfit : fits ty v = true) (hl : k < fs.length) (d : decode j.2.1 pc = .ok (.putfield idx, 3)) (hq : pc + 3 = q) (kk : CnW B q L st ((h0, .inr (ci, fs.set k v)) :: w2) cl sl) : CnW B pc L (v :: .ref h0 :: st) ((h0, .inr (ci, fs)) :: w2) cl sl := by
  subst hq; obtain ⟨p, l, e, s, m, args, below, meth, c, R, Q, D, c0, A⟩ := B
  obtain ⟨hx, hb, hown, hts, hK, hA, -, -⟩ := hC
  exact fun H locs ls hL hP hD hS => va_put hx hb hts hin ty0 hty hnm hown hK hP hD hS 0 rfl hc k hk (hts _ hlink) (fun _ h => h) hfin hd hn hfit hl d (fun H1 locs1 hP1 hD1 hS1 => kk H1 locs1 ls hL hP1 hD1 hS1)
theorem cn_get (hC : CnD j B) {h0 ci k idx N : Nat} {v : Value} {fs : List Value} {C : String} {T : u_T} {w2 : va_W} (hin : ∀ w ∈ u_ws C T N, w ∈ wT) (hc : vwCl[ci]? = some (C, T, N)) (hk : k < N) (hlink : Cond.fieldLink j.1.cls idx (T k).1 (T k).2.1 (T k).2.2.1 ∈ wT) (hv : fs[k]? = some v) (d : decode j.2.1 pc = .ok (.getfield idx, 3)) (hq : pc + 3 = q) (kk : CnW B q L (v :: st) ((h0, .inr (ci, fs)) :: w2) cl sl) : CnW B pc L (.ref h0 :: st) ((h0, .inr (ci, fs)) :: w2) cl sl := by
  subst hq; obtain ⟨p, l, e, s, m, args, below, meth, c, R, Q, D, c0, A⟩ := B
  obtain ⟨hx, hb, hown, hts, hK, hA, -, -⟩ := hC
  exact fun H locs ls hL hP hD hS => va_get hx hb hts hin hown hK hP 0 rfl hc k hk (hts _ hlink) (fun _ h => h) (v := v) hv d (kk H locs ls hL hP hD hS)
theorem cn_iast (hC : CnD j B) (q0 : Nat) {a n x : Nat} {f : Nat → Int32} {i v : Int32} (ha : ws[q0]? = some (a, ar (bC B) n f)) (hi : i = nI x) (hx : x < n) (hn : n ≤ 1000) (d : decode j.2.1 pc = .ok (.iastore, 1)) (hq : pc + 1 = q) (kk : CnW B q L st (ws.set q0 (a, ar (bC B) n (upd f x v))) cl sl) : CnW B pc L (.int v :: .int i :: .ref a :: st) ws cl sl := by
  subst hq; subst hi; obtain ⟨p, l, e, s, m, args, below, meth, c, R, Q, D, c0, A⟩ := B
  obtain ⟨hx', hb, hown, hts, hK, hA, -, -⟩ := hC
  intro H locs ls hL hP hD hS
  refine va_iast hx' hb hK hP hD hS q0 0 ha rfl (vp_in_nI hx (by omega)) d (fun H1 locs1 hP1 hD1 hS1 => ?_)
  rw [nI_clamp (by omega)] at hP1 hD1
  exact kk H1 locs1 ls hL hP1 hD1 hS1
theorem cn_alen (hC : CnD j B) (q0 : Nat) {a n : Nat} {f : Nat → Int32} (ha : ws[q0]? = some (a, ar (bC B) n f)) (d : decode j.2.1 pc = .ok (.arraylength, 1)) (hq : pc + 1 = q) (kk : CnW B q L (.int (nI n) :: st) ws cl sl) : CnW B pc L (.ref a :: st) ws cl sl := by
  subst hq; obtain ⟨p, l, e, s, m, args, below, meth, c, R, Q, D, c0, A⟩ := B
  obtain ⟨hx', hb, hown, hts, hK, hA, -, -⟩ := hC
  exact fun H locs ls hL hP hD hS => va_alen hx' hb hK hP q0 0 ha rfl (v := nI n) rfl d (kk H locs ls hL hP hD hS)
theorem ar_eq {c0 : ClassId} {n : Nat} {f g : Nat → Int32} (h : ∀ k, k < n → f k = g k) : vp_cell c0 (n, .inl f) = vp_cell c0 (n, .inl g) := by
  have e : (fun j : Fin n => Value.int (f j.val)) = (fun j : Fin n => Value.int (g j.val)) := funext (fun j => by rw [h j.1 j.2])
  show arrV c0 n (fun j => .int (f j)) = arrV c0 n (fun j => .int (g j))
  unfold arrV
  rw [e]
theorem cn_arr (q0 : Nat) {a n : Nat} {f g : Nat → Int32} (ha : ws[q0]? = some (a, ar (bC B) n f)) (h : ∀ k, k < n → f k = g k) (kk : CnW B pc L st (ws.set q0 (a, ar (bC B) n g)) cl sl) : CnW B pc L st ws cl sl := by
  obtain ⟨p, l, e, s, m, args, below, meth, c, R, Q, D, c0, A⟩ := B
  intro H locs ls hL hP hD hS
  refine kk H locs ls hL (hP.set hD ha ?_ (fun _ _ => rfl)) (hD.set ha) hS
  have h1 : H[a]? = some (vp_cell c0 (n, .inl f)) := hP q0 _ ha
  rw [ar_eq h] at h1
  exact h1
theorem cn_obj (hC : CnD j B) {idx a : Nat} (hlink : Cond.methodLink j.1.cls idx Lib.objectInit ∈ wT) (hf : 1 ≤ j.2.2.2.2.1) (hl : 12 ≤ j.2.2.2.2.2) (d : decode j.2.1 pc = .ok (.invokespecial idx, 3)) (hq : pc + 3 = q) (kk : CnW B q L [] ws cl sl) : CnW B pc L [.ref a] ws cl sl := by
  subst hq; obtain ⟨p, l, e, s, m, args, below, meth, c, R, Q, D, c0, A⟩ := B
  obtain ⟨hx', hb, hown, hts, hK, hA, hf1, hf2⟩ := hC
  intro H locs ls hL hP hD hS
  refine W.objInit hx' hb hown (hts _ hlink) (hts (.instanceMethod Lib.objectInit) (wT1 23 (by rfl) (by rfl))) (hts (.code Lib.objectInit ⟨#[0xb1]⟩ 1 none) (wT1 24 (by rfl) (by rfl))) rfl hL.1 rfl d (Nat.le_trans hf hf1) (Nat.le_trans (Nat.le_of_eq (by rfl)) (Nat.le_trans hl hf2)) ?_
  exact kk H locs ls hL hP hD hS
theorem nd_range (n : Nat) : ∀ l : List Nat, l.Nodup → va_nd l = true := by
  intro l
  induction l with
  | nil => intro _; rfl
  | cons a t ih =>
    intro h
    rw [List.nodup_cons] at h
    simp [va_nd, ih h.2, h.1]
theorem pre_blind {D : va_G} {c0 : ClassId} {av : List Value} {h0 sz : Nat} {e0 : va_E} : FrameBlind (va_Pc av (fun U => U.heap.size = sz ∧ va_P D vwCl [(h0, e0)] U.heap ∧ va_K D vwCl [(c0, .int)] U ∧ va_D (fun _ => True) [(h0, e0)])) := by
  intro a U g mk h
  obtain ⟨q0, q1, qP, qK, qD⟩ := h
  exact ⟨q0, q1, qP, va_K.moved (u := U) (U := U.calling g mk a) (Vm.Alike.refl U.vm) qK, qD⟩
theorem cut_last (wr : va_W) (x : Nat × va_E) : ([wr.length] : List Nat).map (fun i => (wr ++ [x])[i]?) = [x].map some := by simp
theorem cut_first (wr : va_W) (x : Nat × va_E) : (List.range wr.length).map (fun i => (wr ++ [x])[i]?) = wr.map some := by
  apply List.ext_getElem
  · simp
  · intro n h1 h2
    have hn : n < wr.length := by simpa using h1
    simp [List.getElem?_append_left, hn]
theorem cn_call (hC : CnD j B) {j' : MI} {idx n a mc ms : Nat} {As rest st0 : List Value} {e0 : va_E} {mk : (Nat → Nat) → va_W} {wr : va_W} (mo : MOK j' n) (mi : Cond.instanceMethod j'.1 ∈ wT) (ml : Cond.methodLink j.1.cls idx j'.1 ∈ wT) (hnm : j'.1.name = "<init>") (hret : j'.2.2.2.1 = none) (fit : FitR j' j = true) (ct : CnT (bL B) (bD B) (bC B) j' mc ms As e0 mk) (hn : As.length = n) (hst : st0 = As.reverse ++ .ref a :: rest) (hw : (rest.map fun v => v.category).sum ≤ 8) (hce : cl + mc ≤ (bR B).cells) (hsl : sl + ms ≤ (bR B).slots) (d : decode j.2.1 pc = .ok (.invokespecial idx, 3)) (hq : pc + 3 = q) (kk : ∀ f : Nat → Nat, f 0 = a → CnW B q L rest (wr ++ mk f) (cl + mc) (sl + ms)) : CnW B pc L st0 (wr ++ [(a, e0)]) cl sl := by
  subst hq; obtain ⟨p, l, e, s, m, args, below, meth, c, R, Q, D, c0, A⟩ := B
  obtain ⟨hx, hb, hown, hts, hK, hA, hf1, hf2⟩ := hC
  simp only [FitR, Bool.and_eq_true, decide_eq_true_eq] at fit
  intro H locs ls hL hP hD hS
  have hPc : va_P D vwCl [(a, e0)] H := hP.sub (ws' := [(a, e0)]) [wr.length] (by simp)
  have hDc : va_D A [(a, e0)] := hD.sub (ws' := [(a, e0)]) [wr.length] rfl (cut_last wr _)
  have hFc := va_free (wc := [(a, e0)]) hD hS hA [wr.length] (cut_last wr _)
  refine va_callv (va_runI (nL := c.maxLocals) (Ts := wT) (b := a) (As := As) (rest := rest) ⟨hx, hb, rfl, hown, hts⟩ (ct a H.size) ⟨callB_of n hts (wT_in j' mo) (by unfold wsOf; rw [hret]) rfl rfl (hts _ mo.1) (hts _ ml) mo.2.2 ⟨Nat.le_trans fit.1 hf1, Nat.le_trans fit.2 hf2⟩, hnm, hts _ mi⟩ ⟨pre_blind, fun U hU hW => ⟨rfl, by rw [hU], by rw [hU]; exact hPc, va_K.moved hW.alike hK, hDc.weaken (fun _ _ _ _ => trivial)⟩⟩ rfl hn hL.1 hst (lv_room hw) d ⟨hce, hsl⟩) hS (fun q _ h => hFc q h) hFc (fun f t H1 locs1 ht hvm hw1 hB hz1 hk1 hS1 => ?_)
  obtain ⟨hP1, hD1⟩ := hB
  rw [ht] at hP1
  obtain ⟨hP2, hD2⟩ := va_join (wr := wr) (w1 := mk f) hP hD [wr.length] (List.range wr.length) (cut_last wr _) (cut_first wr _) (nd_range 0 _ List.nodup_range) (fun i hi h => by simp at hi h; omega) hk1 hFc hP1 hD1
  exact kk f hw1 H1 locs1 ls hL hP2 hD2 hS1
theorem one_D {A : Nat → Prop} {a : Nat} {e : va_E} (h : A a) : va_D A [(a, e)] := by
  refine ⟨fun i j p q hp hq _ => ?_, fun k q hq => ?_⟩
  · have h1 := (List.getElem?_eq_some_iff.mp hp).1
    have h2 := (List.getElem?_eq_some_iff.mp hq).1
    simp at h1 h2
    omega
  · have h1 := (List.getElem?_eq_some_iff.mp hq).1
    simp at h1
    subst h1
    cases hq
    exact h
theorem cn_stat (hC : CnD j B) {j' : MI} {idx n a : Nat} {As rest st0 : List Value} {e0 e1 : va_E} {wr : va_W} (mo : MOK j' n) (mi : MOS j') (ml : Cond.methodLink j.1.cls idx j'.1 ∈ wT) (fit : FitR j' j = true) (ct : CnS (bL B) (bD B) (bC B) j' As e0 e1) (hn : As.length + 1 = n) (hst : st0 = (.ref a :: As).reverse ++ rest) (hw : (rest.map fun v => v.category).sum ≤ 8) (hce : cl ≤ (bR B).cells) (hsl : sl ≤ (bR B).slots) (d : decode j.2.1 pc = .ok (.invokestatic idx, 3)) (hq : pc + 3 = q) (kk : CnW B q L rest (wr ++ [(a, e1)]) cl sl) : CnW B pc L st0 (wr ++ [(a, e0)]) cl sl := by
  subst hq; obtain ⟨p, l, e, s, m, args, below, meth, c, R, Q, D, c0, A⟩ := B
  obtain ⟨hx, hb, hown, hts, hK, hA, hf1, hf2⟩ := hC
  simp only [FitR, Bool.and_eq_true, decide_eq_true_eq] at fit
  intro H locs ls hL hP hD hS
  have hPc : va_P D vwCl [(a, e0)] H := hP.sub (ws' := [(a, e0)]) [wr.length] (by simp)
  have hDc : va_D A [(a, e0)] := hD.sub (ws' := [(a, e0)]) [wr.length] rfl (cut_last wr _)
  have hFc := va_free (wc := [(a, e0)]) hD hS hA [wr.length] (cut_last wr _)
  refine va_callv (va_runS (nL := c.maxLocals) (Ts := wT) (As := .ref a :: As) (rest := rest) ⟨hx, hb, rfl, hown, hts⟩ (ct a H.size) ⟨callB_of n hts (wT_in j' mo) rfl rfl rfl (hts _ mo.1) (hts _ ml) mo.2.2 ⟨Nat.le_trans fit.1 hf1, Nat.le_trans fit.2 hf2⟩, hts _ mi⟩ ⟨pre_blind, fun U hU hW => ⟨rfl, by rw [hU], by rw [hU]; exact hPc, va_K.moved hW.alike hK, hDc.weaken (fun _ _ _ _ => trivial)⟩⟩ rfl hn hL.1 hst (lv_room hw) d ⟨hce, hsl⟩) hS (fun q _ h => hFc q h) hFc (fun f t H1 locs1 ht hvm hw1 hB hz1 hk1 hS1 => ?_)
  have hP1 := hB
  rw [ht] at hP1
  obtain ⟨hP2, hD2⟩ := va_join (wr := wr) (w1 := [(a, e1)]) hP hD [wr.length] (List.range wr.length) (cut_last wr _) (cut_first wr _) (nd_range 0 _ List.nodup_range) (fun i hi h => by simp at hi h; omega) hk1 hFc hP1 (one_D (Or.inl ⟨0, e0, rfl⟩))
  exact kk H1 locs1 ls hL hP2 hD2 hS1
/-- a constructor's end -/
def CnR (h0 mc ms : Nat) (mk : (Nat → Nat) → va_W) (B : CnB) : Prop := match B with
  | (_, _, _, s, _, args, below, meth, _, R, Q, D, _, A) => meth.sig.returnType = none ∧ meth.locks = false ∧ R.cells = mc ∧ R.slots = ms ∧ Q = MQ below (va_Qv (fun f : Nat → Nat => f 0 = h0) (fun f t => va_P D vwCl (mk f) t.heap ∧ va_D A (mk f)) A) args s mc ms A
theorem cn_ret (hC : CnD j B) {h0 mc ms : Nat} {mk : (Nat → Nat) → va_W} (hr : CnR h0 mc ms mk B) (f : Nat → Nat) (hf : f 0 = h0) (hws : ws = mk f) (h1 : cl = mc) (h2 : sl = ms) (d : decode j.2.1 pc = .ok (.return_, 1)) : CnW B pc L [] ws cl sl := by
  subst h1 h2 hws
  obtain ⟨p, l, e, s, m, args, below, meth, c, R, Q, D, c0, A⟩ := B
  obtain ⟨r1, r2, -, -, rfl⟩ := hr
  obtain ⟨hx, hb, hown, hts, hK, hA, hf1, hf2⟩ := hC
  intro H locs ls hL hP hD hS
  exact W.vret hx hb r1 (fun t ht hW => ⟨⟨f, rfl, hf, by rw [ht]; exact hP, hD⟩, hS.F ht⟩) hS.2.2 d r2
theorem ent_lok {l : Launch} {D : va_G} {av : List Value} {L0 : List (Option Value)} {n : Nat} (hL : ent av n = L0) (hlen : L0.length = n) : (lg_sl av).length ≤ n ∧ ∀ ls : Array Slot, lv_has ls n (lv_args 0 av) → Lok (eI l D) ls n L0 := by
  have hle : (lg_sl av).length ≤ n := by
    have h1 := entA_len (E := eI l D) av
    rw [map_eI] at h1
    rw [← h1]
    have : (ent av n).length = n := by rw [hL]; exact hlen
    simp [ent] at this
    omega
  refine ⟨hle, fun ls hl => ⟨hl.1, hl.2.1, hlen, fun i v hi => ?_⟩⟩
  refine hl.2.2 (i, mv (eI l D) v) ?_
  rw [← hL] at hi
  have h2 : (entA av)[i]? = some (some v) := by
    unfold ent at hi
    rw [List.getElem?_append] at hi
    split at hi
    · exact hi
    · rw [List.getElem?_replicate] at hi
      split at hi <;> simp at hi
  have h3 := entA_mem (E := eI l D) av 0 i v h2
  rw [map_eI] at h3
  simpa using h3
theorem ct_of {l : Launch} {D : va_G} {c0 : ClassId} {mc ms : Nat} {As : List Value} {e0 : va_E} {mk : (Nat → Nat) → va_W} (hp : plainName j.1.cls = true) (hret : j.2.2.2.1 = none) (hnm : j.1.name = "<init>") (L0 : Nat → List (Option Value)) (hL : ∀ h0, ent (.ref h0 :: As) j.2.2.1 = L0 h0) (hlen : ∀ h0, (L0 h0).length = j.2.2.1) (body : ∀ (B : CnB) (h0 : Nat), bL B = l → bD B = D → bC B = c0 → CnD j B → CnI B → CnR h0 mc ms mk B → CnW B 0 (L0 h0) [] [(h0, e0)] 0 0) : CnT l D c0 j mc ms As e0 mk := by
  intro h0 sz
  refine Met.ofW (cc := j.2.1) (maxL := j.2.2.1) (ret := none) hp (by unfold wsOf; rw [hret]) ?_
  intro p e s m args below meth c s₁ B hml hv
  obtain ⟨rfl, hsz, hP, hK, hD0⟩ := hv
  subst hsz
  have hts := atoms_spec (ws := wsOf j) B.pre
  have hown : s.vm.findClass j.1.cls = some m.cls := findClass_of_methodNamed B.named
  have hin : meth.name = "<init>" := (name_of_methodNamed B.named B.method).1.trans hnm
  have hb := body (p, l, e, s, m, _, below, meth, c, (headSpec (wsOf j) { frames := j.2.2.2.2.1, cells := mc, slots := ms, locals := j.2.2.2.2.2 }).room, _, D, c0, va_A [(h0, e0)] s.heap.size) h0 rfl rfl rfl ⟨B.exec, B.bytes, hown, fun w h => hts w (List.mem_cons_of_mem _ h), hK, fun q h => Or.inr h, Nat.le_refl _, Nat.le_refl _⟩ hin ⟨B.returns, B.notSynchronized, rfl, rfl, rfl⟩
  obtain ⟨hle, hok⟩ := ent_lok (l := l) (D := D) (hL h0) (hlen h0)
  have hl := lv_entry (.ref h0 :: As) hle
  rw [lg_entry_eq]
  exact hb s.heap [] _ (by rw [hml]; exact hok _ hl) hP hD0.self va_S.rf
end CEN

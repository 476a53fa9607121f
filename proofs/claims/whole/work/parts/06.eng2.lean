section ENG2
variable {E : EB} {G : GB} {j : MI} {pc q : Nat} {L : List (Option Value)} {st : List Value} {M : Mem}
def IsK (i c : Nat) : Prop := i < 70 ∧ kd i = c
theorem aln_le : ∀ i, i < 70 → aln i ≤ 160 := by decide
theorem v_iaload (hG : Gd E j G) {i n N : Nat} {x : Int32} (ik : IsK i 8) (al : aln i = N) (hx : x = nI n) (hn : n < N) (d : decode j.2.1 pc = .ok (.iaload, 1)) (hq : pc + 1 = q) (k : V E G q L (.int (M i n) :: st) M) : V E G pc L (.int x :: .ref i :: st) M := by
  subst hq; subst hx; subst al
  have h31 : aln i < 2 ^ 31 := Nat.lt_of_le_of_lt (aln_le i ik.1) (by decide)
  obtain ⟨p, e, s, m, args, below, meth, c, R, cl, sl, Q⟩ := G
  intro H locs ls hl hP hS
  refine va_iald hG.1 hG.2.1 hG.2.2.2.2.1.1 hP i i (cells_arr ik.1 ik.2) (eTys_get ik.1) (vp_in_nI hn h31) d ?_
  rw [nI_clamp (Nat.lt_trans hn h31)]
  exact k H locs ls hl hP hS
theorem v_iastore (hG : Gd E j G) {i n N : Nat} {x v : Int32} (ik : IsK i 8) (al : aln i = N) (hx : x = nI n) (hn : n < N) (d : decode j.2.1 pc = .ok (.iastore, 1)) (hq : pc + 1 = q) (k : V E G q L st (up M i n v)) : V E G pc L (.int v :: .int x :: .ref i :: st) M := by
  subst hq; subst hx; subst al
  have h31 : aln i < 2 ^ 31 := Nat.lt_of_le_of_lt (aln_le i ik.1) (by decide)
  obtain ⟨p, e, s, m, args, below, meth, c, R, cl, sl, Q⟩ := G
  intro H locs ls hl hP hS
  refine va_iast hG.1 hG.2.1 hG.2.2.2.2.1.1 hP (eD_cells hG.2.2.2.2.2.2.1 M) hS i i (cells_arr ik.1 ik.2) (eTys_get ik.1) (vp_in_nI hn h31) d (fun H1 locs1 hP1 hD1 hS1 => ?_)
  rw [nI_clamp (Nat.lt_trans hn h31), cells_set (M' := up M i n v) (by simp [cellE, ik.2, up_eq]) (fun a h => up_ne h)] at hP1
  exact k H1 locs1 ls hl hP1 hS1
theorem v_alen (hG : Gd E j G) {i N : Nat} {v : Int32} (ik : IsK i 8) (al : aln i = N) (hv : nI N = v) (d : decode j.2.1 pc = .ok (.arraylength, 1)) (hq : pc + 1 = q) (k : V E G q L (.int v :: st) M) : V E G pc L (.ref i :: st) M := by
  subst hq; subst al
  obtain ⟨p, e, s, m, args, below, meth, c, R, cl, sl, Q⟩ := G
  intro H locs ls hl hP hS
  exact va_alen hG.1 hG.2.1 hG.2.2.2.2.1.1 hP i i (cells_arr ik.1 ik.2) (eTys_get ik.1) (v := v) hv d (k H locs ls hl hP hS)
theorem v_get (hG : Gd E j G) {i c0 n idx N : Nat} {v : Value} {C : String} {T : u_T} (ik : IsK i c0) (h8 : c0 ≠ 8) (hcl : vwCl[c0]? = some (C, T, N)) (hin : ∀ w ∈ u_ws C T N, w ∈ wT) (hn : n < N) (hlink : Cond.fieldLink j.1.cls idx (T n).1 (T n).2.1 (T n).2.2.1 ∈ wT) (hv : (fld M c0 i)[n]? = some v) (d : decode j.2.1 pc = .ok (.getfield idx, 3)) (hq : pc + 3 = q) (k : V E G q L (v :: st) M) : V E G pc L (.ref i :: st) M := by
  subst hq
  obtain ⟨p, e, s, m, args, below, meth, c, R, cl, sl, Q⟩ := G
  intro H locs ls hl hP hS
  exact va_get hG.1 hG.2.1 hG.2.2.2.1 hin hG.2.2.1 hG.2.2.2.2.1.1 hP i (cells_obj ik.1 ik.2 h8) hcl n hn (hG.2.2.2.1 _ hlink) (fun _ h => h) (v := mv E v) (by rw [List.getElem?_map, hv]; rfl) d (k H locs ls hl hP hS)
theorem v_put (hG : Gd E j G) {i c0 n idx N : Nat} {x : Int32} {C : String} {T : u_T} {ty0 : Nat → FieldType} {ty : FieldType} (ik : IsK i c0) (h8 : c0 ≠ 8) (hcl : vwCl[c0]? = some (C, T, N)) (hin : ∀ w ∈ u_ws C T N, w ∈ wT) (hty : ∀ k, k < N → parseFieldDescriptor (T k).2.2.1 = some (ty0 k)) (hnm : ∀ a, a < N → ∀ b, b < N → a ≠ b → (T a).2.1 ≠ (T b).2.1) (hn : n < N) (hlink : Cond.fieldLink j.1.cls idx (T n).1 (T n).2.1 (T n).2.2.1 ∈ wT) (hfin : (T n).2.2.2 = false) (hd : parseFieldDescriptor (T n).2.2.1 = some ty) (hnar : narrow ty (.int x) = .int x) (hfit : fits ty (.int x) = true) (hl0 : n < (fld M c0 i).length) (hset : fld (up M i n x) c0 i = (fld M c0 i).set n (.int x)) (d : decode j.2.1 pc = .ok (.putfield idx, 3)) (hq : pc + 3 = q) (k : V E G q L st (up M i n x)) : V E G pc L (.int x :: .ref i :: st) M := by
  subst hq
  obtain ⟨p, e, s, m, args, below, meth, c, R, cl, sl, Q⟩ := G
  intro H locs ls hl hP hS
  refine va_put hG.1 hG.2.1 hG.2.2.2.1 hin ty0 hty hnm hG.2.2.1 hG.2.2.2.2.1.1 hP (eD_cells hG.2.2.2.2.2.2.1 M) hS i (cells_obj ik.1 ik.2 h8) hcl n hn (hG.2.2.2.1 _ hlink) (fun _ h => h) hfin hd hnar hfit (by rw [List.length_map]; exact hl0) d (fun H1 locs1 hP1 hD1 hS1 => ?_)
  have e1 : cellE E (up M i n x) i = .inr (c0, ((fld M c0 i).map (mv E)).set n (mv E (.int x))) := by
    rw [cellE, if_neg (by rw [ik.2]; exact h8), ik.2, hset, List.map_set]
  rw [cells_set (M' := up M i n x) e1 (fun a h => up_ne h)] at hP1
  exact k H1 locs1 ls hl hP1 hS1
theorem Ex_same {u U : State} {H : Heap} (hv : u.vm.Alike U.vm) (h : Ex E u H) : Ex E U H := ⟨h.1.moved hv, h.2.1.moved hv, h.2.2.1.moved hv, h.2.2.2.1.moved hv, h.2.2.2.2.imp (fun _ h => ⟨h.1, h.2.moved hv⟩)⟩
theorem Ex_kept {U : State} {H H1 : Heap} (hq : ∀ a : Nat, a < H.size → ¬ eFr E a → H1[a]? = H[a]?) (h : Ex E U H) : Ex E U H1 := ⟨h.1.kept hq, h.2.1.kept hq, h.2.2.1.kept hq, h.2.2.2.1.kept hq, h.2.2.2.2.imp (fun _ h => ⟨h.1, h.2.kept hq⟩)⟩
theorem Wd_blind (av : List Value) : FrameBlind (va_Pc av (Wd E M)) := by
  intro a U g mk h
  obtain ⟨h0, hP, hK, hE, hI⟩ := h
  exact ⟨h0, hP, ⟨va_K.moved (u := U) (U := U.calling g mk a) (Vm.Alike.refl U.vm) hK.1, fun q hq => vk_R.same (u := U) (U := U.calling g mk a) rfl (hK.2 q hq)⟩, Ex_same (u := U) (U := U.calling g mk a) (Vm.Alike.refl U.vm) hE, hI⟩
theorem Wd_at {s U : State} {H : Heap} {locs : List Loc} (hK : Kn E s) (hE : Ex E s s.heap) (hI : eInj E) (hP : va_P (eD E) vwCl (cells E M) H) (hS : va_S (eFr E) s.heap H locs) (hU : U.heap = H) (hW : s.WarmedH U.vm) : Wd E M U := by
  subst hU
  exact ⟨hP, ⟨va_K.moved hW.alike hK.1, fun q hq => (hK.2 q hq).warm hW⟩, Ex_same hW.alike (Ex_kept hS.2.1 hE), hI⟩
theorem wT_in (j' : MI) {n : Nat} (h : MOK j' n) : GoodIn wT (wsOf j') := by
  intro w hw
  rcases List.mem_cons.mp hw with rfl | hw
  · exact ⟨h.2.1, good_of_word (wT_good _ h.2.1).2⟩
  · exact ⟨hw, good_of_word (wT_good _ hw).2⟩
def FitR (j' j : MI) : Bool := j'.2.2.2.2.1 + 1 ≤ j.2.2.2.2.1 && 8 + (j'.2.2.1 + 11) + j'.2.2.2.2.2 ≤ j.2.2.2.2.2
/-- behind a call -/
theorem v_after {Φ : Option Value → Mem → Prop} {a : Array Value} {rest st0 : List Value} (hq : pc + 3 = q)
    (hrun : match G with | (p, e, s, m, args, below, meth, c, R, cl, sl, Q) => ∀ (H : Heap) (locs : List Loc) (ls : Array Slot), Lok E ls c.maxLocals L → va_P (eD E) vwCl (cells E M) H → va_S (eFr E) s.heap H locs → va_Run p E.1 e R s m args below meth c H locs cl sl 0 0 (F0 m pc ls (st0.map (mv E))) (rest.map (mv E)) (QcE E Φ a) (eFr E))
    (k : ∀ r M', Φ r M' → V E G q L (r.toList ++ rest) M') : V E G pc L st0 M := by
  subst hq
  obtain ⟨p, e, s, m, args, below, meth, c, R, cl, sl, Q⟩ := G
  intro H locs ls hl hP hS T hT X
  obtain ⟨v, st₀, t, T', L', h0, X', hL, e1, e2, ⟨⟨r, M', hv, hΦ, hP'⟩, hz, hk⟩, st9⟩ := hrun H locs ls hl hP hS T hT X
  cases hv
  rw [h0] at hz hk
  have hS' : va_S (eFr E) s.heap T'.heap (locs ++ L') := ⟨Nat.le_trans hS.1 (by rw [e1]; exact hz), fun q h1 h2 => by rw [e1, hk q (Nat.lt_of_lt_of_le h1 hS.1) h2]; exact hS.2.1 q h1 h2, fun q hq => by
      rcases List.mem_append.mp hq with h | h
      · exact hS.2.2 q h
      · exact hL q h⟩
  obtain ⟨t2, a1, b1⟩ := k r M' hΦ T'.heap (locs ++ L') ls hl (by rw [e1]; exact hP') hS' T' rfl X'
  refine ⟨t2, st9 t2 ?_, b1⟩
  have e3 : (r.map (mv E)).toList ++ rest.map (mv E) = (r.toList ++ rest).map (mv E) := by cases r <;> simp
  rw [e3]
  exact a1
theorem v_callS (hG : Gd E j G) {j' : MI} {idx n : Nat} {av rest st0 : List Value} {Φ : Option Value → Mem → Prop} (mo : MOK j' n) (ms : MOS j') (ml : Cond.methodLink j.1.cls idx j'.1 ∈ wT) (fit : FitR j' j = true) (c : Mt E j' av M Φ) (hn : av.length = n) (hst : st0 = av.reverse ++ rest) (hw : (rest.map fun v => v.category).sum ≤ 8) (d : decode j.2.1 pc = .ok (.invokestatic idx, 3)) (hq : pc + 3 = q) (k : ∀ r M', Φ r M' → V E G q L (r.toList ++ rest) M') : V E G pc L st0 M := by
  refine v_after (Φ := Φ) (a := (av.map (mv E)).toArray) (rest := rest) hq ?_ k
  obtain ⟨p, e, s, m, args, below, meth, c', R, cl, sl, Q⟩ := G
  intro H locs ls hl hP hS
  simp only [FitR, Bool.and_eq_true, decide_eq_true_eq] at fit
  obtain ⟨hx, hb, hown, hts, hK, hE, hI, hf1, hf2, hf3, hf4⟩ := hG
  exact va_runS (nL := c'.maxLocals) (Ts := wT) ⟨hx, hb, rfl, hown, hts⟩ c ⟨callB_of n hts (wT_in j' mo) rfl rfl rfl (hts _ mo.1) (hts _ ml) mo.2.2 ⟨Nat.le_trans fit.1 hf1, Nat.le_trans fit.2 hf2⟩, hts _ ms⟩ ⟨Wd_blind _, fun U hU hW => ⟨rfl, Wd_at hK hE hI hP hS hU hW⟩⟩ rfl (by rw [List.length_map]; exact hn) hl.1 (by rw [hst]; simp [List.map_reverse]) (lv_room (by rw [List.map_map]; simpa [Function.comp_def, mv_cat] using hw)) d ⟨hf3, hf4⟩
theorem v_callV (hG : Gd E j G) {j' : MI} {idx n i c0 N : Nat} {T : u_T} {av rest st0 : List Value} {Φ : Option Value → Mem → Prop} (mo : MOK j' n) (mv' : MOV j') (ml : Cond.methodLink j.1.cls idx j'.1 ∈ wT) (fit : FitR j' j = true) (ik : IsK i c0) (h8 : c0 ≠ 8) (hcl : vwCl[c0]? = some (j'.1.cls, T, N)) (c : Mt E j' (.ref i :: av) M Φ) (hn : av.length = n) (hst : st0 = av.reverse ++ .ref i :: rest) (hw : (rest.map fun v => v.category).sum ≤ 8) (d : decode j.2.1 pc = .ok (.invokevirtual idx, 3)) (hq : pc + 3 = q) (k : ∀ r M', Φ r M' → V E G q L (r.toList ++ rest) M') : V E G pc L st0 M := by
  refine v_after (Φ := Φ) (a := (.ref (eAd E i) :: av.map (mv E)).toArray) (rest := rest) hq ?_ k
  obtain ⟨p, e, s, m, args, below, meth, c', R, cl, sl, Q⟩ := G
  intro H locs ls hl hP hS
  simp only [FitR, Bool.and_eq_true, decide_eq_true_eq] at fit
  obtain ⟨hx, hb, hown, hts, hK, hE, hI, hf1, hf2, hf3, hf4⟩ := hG
  exact va_runV (nL := c'.maxLocals) (Ts := wT) (C := j'.1.cls) (b := eAd E i) (As := av.map (mv E)) ⟨hx, hb, rfl, hown, hts⟩ c ⟨callB_of n hts (wT_in j' mo) rfl rfl rfl (hts _ mo.1) (hts _ ml) mo.2.2 ⟨Nat.le_trans fit.1 hf1, Nat.le_trans fit.2 hf2⟩, hts _ mv'.1, hts _ mv'.2⟩ ⟨Wd_blind _, va_recv hK.1 hP hcl (cells_obj ik.1 ik.2 h8), fun U hU hW => ⟨rfl, Wd_at hK hE hI hP hS hU hW⟩⟩ rfl (by rw [List.length_map]; exact hn) hl.1 (by rw [hst]; simp [List.map_reverse, mv]) (lv_room (by rw [List.map_map]; simpa [Function.comp_def, mv_cat] using hw)) d ⟨hf3, hf4⟩
theorem v_iret (hG : Gd E j G) {Φ : Int32 → Mem → Prop} (hR : Rt E j (fI Φ) G) {x : Int32} {ty : FieldType} (hty : j.2.2.2.1 = some ty) (hn : narrow ty (.int x) = .int x) (h : Φ x M) (d : decode j.2.1 pc = .ok (.ireturn, 1)) : V E G pc L [.int x] M := by
  obtain ⟨p, e, s, m, args, below, meth, c, R, cl, sl, Q⟩ := G
  obtain ⟨h1, h2, rfl, rfl, rfl⟩ := hR
  intro H locs ls hl hP hS
  exact W.zret hG.1 hG.2.1 (h1.trans hty) hn (fun t ht hW => ⟨⟨some (.int x), M, rfl, ⟨x, rfl, h⟩, by rw [ht]; exact hP⟩, hS.F ht⟩) hS.2.2 d h2
theorem v_lret (hG : Gd E j G) {Φ : Int64 → Mem → Prop} (hR : Rt E j (fJ Φ) G) {x : Int64} (hty : j.2.2.2.1 = some .long) (h : Φ x M) (d : decode j.2.1 pc = .ok (.lreturn, 1)) : V E G pc L [.long x] M := by
  obtain ⟨p, e, s, m, args, below, meth, c, R, cl, sl, Q⟩ := G
  obtain ⟨h1, h2, rfl, rfl, rfl⟩ := hR
  intro H locs ls hl hP hS
  exact W.lret hG.1 hG.2.1 (h1.trans hty) (fun t ht hW => ⟨⟨some (.long x), M, rfl, ⟨x, rfl, h⟩, by rw [ht]; exact hP⟩, hS.F ht⟩) hS.2.2 d h2
theorem v_aret (hG : Gd E j G) {Φ : Value → Mem → Prop} (hR : Rt E j (fR Φ) G) {x : Value} {ty : FieldType} (hty : j.2.2.2.1 = some ty) (hrt : (∃ n, ty = .object n) ∨ ∃ t, ty = .array t) (hv : x = .null ∨ ∃ a, x = .ref a) (h : Φ x M) (d : decode j.2.1 pc = .ok (.areturn, 1)) : V E G pc L [x] M := by
  obtain ⟨p, e, s, m, args, below, meth, c, R, cl, sl, Q⟩ := G
  obtain ⟨h1, h2, rfl, rfl, rfl⟩ := hR
  intro H locs ls hl hP hS
  exact W.aret hG.1 hG.2.1 (h1.trans hty) hrt (by rcases hv with rfl | ⟨a, rfl⟩; exact Or.inl rfl; exact Or.inr ⟨_, rfl⟩) (fun t ht hW => ⟨⟨some x, M, rfl, ⟨x, rfl, h⟩, by rw [ht]; exact hP⟩, hS.F ht⟩) hS.2.2 d h2
theorem v_vret (hG : Gd E j G) {Φ : Mem → Prop} (hR : Rt E j (fV Φ) G) (hty : j.2.2.2.1 = none) (h : Φ M) (d : decode j.2.1 pc = .ok (.return_, 1)) : V E G pc L [] M := by
  obtain ⟨p, e, s, m, args, below, meth, c, R, cl, sl, Q⟩ := G
  obtain ⟨h1, h2, rfl, rfl, rfl⟩ := hR
  intro H locs ls hl hP hS
  exact W.vret hG.1 hG.2.1 (h1.trans hty) (fun t ht hW => ⟨⟨none, M, rfl, ⟨rfl, h⟩, by rw [ht]; exact hP⟩, hS.F ht⟩) hS.2.2 d h2
def entA : List Value → List (Option Value)
  | [] => []
  | v :: vs => if v.category = 2 then some v :: none :: entA vs else some v :: entA vs
def ent (av : List Value) (n : Nat) : List (Option Value) := entA av ++ List.replicate (n - (entA av).length) none
theorem entA_len (av : List Value) : (entA av).length = (lg_sl (av.map (mv E))).length := by
  induction av with
  | nil => rfl
  | cons v vs ih =>
    simp only [entA, List.map_cons, lg_sl, List.flatMap_cons, mv_cat] at ih ⊢
    by_cases h : v.category = 2
    · simp [h, ih]
    · simp [h, ih]
theorem entA_mem : ∀ (av : List Value) (off i : Nat) (v : Value), (entA av)[i]? = some (some v) → (off + i, mv E v) ∈ lv_args off (av.map (mv E)) := by
  intro av
  induction av with
  | nil => intro off i v h; simp [entA] at h
  | cons w vs ih =>
    intro off i v h
    simp only [entA] at h
    simp only [List.map_cons, lv_args, mv_cat]
    by_cases hc : w.category = 2
    · simp only [hc, if_true] at h ⊢
      match i, h with
      | 0, h => simp at h; subst h; exact List.mem_cons_self
      | 1, h => simp at h
      | i + 2, h =>
        have := ih (off + 2) i v (by simpa using h)
        rw [show off + 2 + i = off + (i + 2) by omega] at this
        exact List.mem_cons_of_mem _ this
    · simp only [hc, if_false] at h ⊢
      match i, h with
      | 0, h => simp at h; subst h; exact List.mem_cons_self
      | i + 1, h =>
        have := ih (off + 1) i v (by simpa using h)
        rw [show off + 1 + i = off + (i + 1) by omega] at this
        exact List.mem_cons_of_mem _ this
theorem mt_of {av : List Value} {L0 : List (Option Value)} {Φ : Option Value → Mem → Prop} (hp : plainName j.1.cls = true) (hL : ent av j.2.2.1 = L0) (hlen : L0.length = j.2.2.1) (body : ∀ G, Gd E j G → Rt E j Φ G → V E G 0 L0 [] M) : Mt E j av M Φ := by
  refine Met.ofW (cc := j.2.1) (maxL := j.2.2.1) (ret := j.2.2.2.1) hp rfl ?_
  intro p e s m args below meth c s₁ B hml hv
  obtain ⟨rfl, hP, hK, hE, hI⟩ := hv
  have hts := atoms_spec (ws := wsOf j) B.pre
  have hown : s.vm.findClass j.1.cls = some m.cls := findClass_of_methodNamed B.named
  have hb := body (p, e, s, m, _, below, meth, c, (headSpec (wsOf j) (rmOf j)).room, 0, 0, MQ below (QcE E Φ) (av.map (mv E)).toArray s 0 0 (eFr E)) ⟨B.exec, B.bytes, hown, fun w h => hts w (List.mem_cons_of_mem _ h), hK, hE, hI, Nat.le_refl _, Nat.le_refl _, Nat.zero_le _, Nat.zero_le _⟩ ⟨B.returns, B.notSynchronized, rfl, rfl, rfl⟩
  have hle : (lg_sl (av.map (mv E))).length ≤ j.2.2.1 := by
    rw [← entA_len (E := E)]
    have : (ent av j.2.2.1).length = j.2.2.1 := by rw [hL]; exact hlen
    simp [ent] at this
    omega
  have hl := lv_entry (av.map (mv E)) hle
  rw [lg_entry_eq]
  refine hb s.heap [] _ ⟨by rw [hml]; exact hl.1, hl.2.1, by rw [hml]; exact hlen, fun i v hi => ?_⟩ hP va_S.rf
  refine hl.2.2 (i, mv E v) ?_
  rw [← hL] at hi
  have : (entA av)[i]? = some (some v) := by
    unfold ent at hi
    rw [List.getElem?_append] at hi
    split at hi
    · exact hi
    · rw [List.getElem?_replicate] at hi
      split at hi <;> simp at hi
  have := entA_mem (E := E) av 0 i v this
  simpa using this
end ENG2

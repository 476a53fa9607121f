def ix (x : Int32) : Nat := x.toNatClampNeg
def b2i (b : Bool) : Int32 := if b then 1 else 0
noncomputable def ck {α : Type} (p : Prop) (k : Option α) : Option α := @ite _ p (Classical.propDecidable p) k none
def letv {α β : Type} (a : α) (k : α → β) : β := k a
def lp {β : Type} (b0 : β) (F : β → β) : Nat → β
  | 0 => b0
  | n + 1 => F (lp b0 F n)
def FU : Nat := 5000
theorem ck_some {α : Type} {p : Prop} {k : Option α} {R : α} (h : ck p k = some R) : p ∧ k = some R := by
  unfold ck at h
  by_cases hp : p
  · rw [if_pos hp] at h; exact ⟨hp, h⟩
  · rw [if_neg hp] at h; cases h
theorem ck_pos {α : Type} {p : Prop} {k : Option α} (hp : p) : ck p k = k := by unfold ck; rw [if_pos hp]
theorem bnd {α β : Type} {a : Option α} {k : α → Option β} {R : β} (h : a.bind k = some R) : ∃ r, a = some r ∧ k r = some R := by
  cases a with
  | none => cases h
  | some r => exact ⟨r, rfl, h⟩
theorem ifp {α : Type} {c : Prop} [Decidable c] {A B R : α} (hc : c) (h : (if c then A else B) = R) : A = R := by rw [if_pos hc] at h; exact h
theorem ifn {α : Type} {c : Prop} [Decidable c] {A B R : α} (hc : ¬ c) (h : (if c then A else B) = R) : B = R := by rw [if_neg hc] at h; exact h
theorem ifnp {α : Type} {c : Prop} [Decidable c] {A B R : α} (hc : c) (h : (if ¬ c then A else B) = R) : B = R := by rw [if_neg (fun z => z hc)] at h; exact h
theorem letv_at {α β : Type} {a y : α} {k : α → β} {R : β} (hy : y = a) (h : letv a k = R) : k y = R := by subst hy; exact h
theorem b2i_nar (b : Bool) : narrow .boolean (.int (b2i b)) = .int (b2i b) := by cases b <;> decide
theorem b2i_01 (b : Bool) : b2i b = 0 ∨ b2i b = 1 := by cases b <;> simp [b2i]
theorem sp1 {α : Type} {a b : α} {M : Mem} (h : some a = some b) : a = b ∧ M = M := ⟨Option.some.inj h, rfl⟩
theorem sp1b {a b : Bool} {M : Mem} (h : some a = some b) : b2i a = b2i b ∧ M = M := ⟨congrArg b2i (Option.some.inj h), rfl⟩
theorem sp2 {α : Type} {a b : α} {M N : Mem} (h : some (a, M) = some (b, N)) : a = b ∧ M = N := by cases h; exact ⟨rfl, rfl⟩
theorem sp2b {a b : Bool} {M N : Mem} (h : some (a, M) = some (b, N)) : b2i a = b2i b ∧ M = N := by cases h; exact ⟨rfl, rfl⟩
theorem sp2t {α : Type} {a : α} {M : Mem} {R : α × Mem} (h : some (a, M) = some R) : a = R.1 ∧ M = R.2 := by cases h; exact ⟨rfl, rfl⟩
theorem sp2bt {a : Bool} {M : Mem} {R : Bool × Mem} (h : some (a, M) = some R) : b2i a = b2i R.1 ∧ M = R.2 := by cases h; exact ⟨rfl, rfl⟩
theorem spv {M N : Mem} (h : some M = some N) : M = N := Option.some.inj h
def PI (x : Int32) (M1 : Mem) : Option Value → Mem → Prop := fI (fun r M' => r = x ∧ M' = M1)
def PJ (x : Int64) (M1 : Mem) : Option Value → Mem → Prop := fJ (fun r M' => r = x ∧ M' = M1)
def PV (M1 : Mem) : Option Value → Mem → Prop := fV (fun M' => M' = M1)
def oref (o : Option Nat) : Value := match o with
  | none => .null
  | some a => .ref a
def PR (x : Option Nat) (M1 : Mem) : Option Value → Mem → Prop := fR (fun r M' => r = oref x ∧ M' = M1)
theorem isk_all : ∀ i, i < 70 → (kd i = 4 → (i + 1 < 70 ∧ kd (i + 1) = 5) ∧ (i + 8 < 70 ∧ kd (i + 8) = 0) ∧ (i + 15 < 70 ∧ kd (i + 15) = 8 ∧ aln (i + 15) = 10)) := by decide
theorem isk_0 : ∀ i, i < 70 → kd i = 0 → ∀ k, k < 6 → i + (k + 1) < 70 ∧ kd (i + (k + 1)) = 8 ∧ aln (i + (k + 1)) = 8 := by decide
theorem isk_5 : ∀ i, i < 70 → kd i = 5 → ∀ k, k < 6 → i + (k + 1) < 70 ∧ kd (i + (k + 1)) = 8 ∧ aln (i + (k + 1)) = 6 := by decide
theorem IsK.w {i : Nat} (h : IsK i 4) : IsK (i + 1) 5 := ((isk_all i h.1 h.2).1)
theorem IsK.p {i : Nat} (h : IsK i 4) : IsK (i + 8) 0 := ((isk_all i h.1 h.2).2.1)
theorem IsK.s {i : Nat} (h : IsK i 4) : IsK (i + 15) 8 := ⟨(isk_all i h.1 h.2).2.2.1, (isk_all i h.1 h.2).2.2.2.1⟩
theorem IsK.sl {i : Nat} (h : IsK i 4) : aln (i + 15) = 10 := (isk_all i h.1 h.2).2.2.2.2
theorem IsK.p1 {i : Nat} (h : IsK i 0) : IsK (i + 1) 8 := ⟨(isk_0 i h.1 h.2 0 (by decide)).1, (isk_0 i h.1 h.2 0 (by decide)).2.1⟩
theorem IsK.pl1 {i : Nat} (h : IsK i 0) : aln (i + 1) = 8 := (isk_0 i h.1 h.2 0 (by decide)).2.2
theorem IsK.w1 {i : Nat} (h : IsK i 5) : IsK (i + 1) 8 := ⟨(isk_5 i h.1 h.2 0 (by decide)).1, (isk_5 i h.1 h.2 0 (by decide)).2.1⟩
theorem IsK.wl1 {i : Nat} (h : IsK i 5) : aln (i + 1) = 6 := (isk_5 i h.1 h.2 0 (by decide)).2.2
theorem IsK.p2 {i : Nat} (h : IsK i 0) : IsK (i + 2) 8 := ⟨(isk_0 i h.1 h.2 1 (by decide)).1, (isk_0 i h.1 h.2 1 (by decide)).2.1⟩
theorem IsK.pl2 {i : Nat} (h : IsK i 0) : aln (i + 2) = 8 := (isk_0 i h.1 h.2 1 (by decide)).2.2
theorem IsK.w2 {i : Nat} (h : IsK i 5) : IsK (i + 2) 8 := ⟨(isk_5 i h.1 h.2 1 (by decide)).1, (isk_5 i h.1 h.2 1 (by decide)).2.1⟩
theorem IsK.wl2 {i : Nat} (h : IsK i 5) : aln (i + 2) = 6 := (isk_5 i h.1 h.2 1 (by decide)).2.2
theorem IsK.p3 {i : Nat} (h : IsK i 0) : IsK (i + 3) 8 := ⟨(isk_0 i h.1 h.2 2 (by decide)).1, (isk_0 i h.1 h.2 2 (by decide)).2.1⟩
theorem IsK.pl3 {i : Nat} (h : IsK i 0) : aln (i + 3) = 8 := (isk_0 i h.1 h.2 2 (by decide)).2.2
theorem IsK.w3 {i : Nat} (h : IsK i 5) : IsK (i + 3) 8 := ⟨(isk_5 i h.1 h.2 2 (by decide)).1, (isk_5 i h.1 h.2 2 (by decide)).2.1⟩
theorem IsK.wl3 {i : Nat} (h : IsK i 5) : aln (i + 3) = 6 := (isk_5 i h.1 h.2 2 (by decide)).2.2
theorem IsK.p4 {i : Nat} (h : IsK i 0) : IsK (i + 4) 8 := ⟨(isk_0 i h.1 h.2 3 (by decide)).1, (isk_0 i h.1 h.2 3 (by decide)).2.1⟩
theorem IsK.pl4 {i : Nat} (h : IsK i 0) : aln (i + 4) = 8 := (isk_0 i h.1 h.2 3 (by decide)).2.2
theorem IsK.w4 {i : Nat} (h : IsK i 5) : IsK (i + 4) 8 := ⟨(isk_5 i h.1 h.2 3 (by decide)).1, (isk_5 i h.1 h.2 3 (by decide)).2.1⟩
theorem IsK.wl4 {i : Nat} (h : IsK i 5) : aln (i + 4) = 6 := (isk_5 i h.1 h.2 3 (by decide)).2.2
theorem IsK.p5 {i : Nat} (h : IsK i 0) : IsK (i + 5) 8 := ⟨(isk_0 i h.1 h.2 4 (by decide)).1, (isk_0 i h.1 h.2 4 (by decide)).2.1⟩
theorem IsK.pl5 {i : Nat} (h : IsK i 0) : aln (i + 5) = 8 := (isk_0 i h.1 h.2 4 (by decide)).2.2
theorem IsK.w5 {i : Nat} (h : IsK i 5) : IsK (i + 5) 8 := ⟨(isk_5 i h.1 h.2 4 (by decide)).1, (isk_5 i h.1 h.2 4 (by decide)).2.1⟩
theorem IsK.wl5 {i : Nat} (h : IsK i 5) : aln (i + 5) = 6 := (isk_5 i h.1 h.2 4 (by decide)).2.2
theorem IsK.p6 {i : Nat} (h : IsK i 0) : IsK (i + 6) 8 := ⟨(isk_0 i h.1 h.2 5 (by decide)).1, (isk_0 i h.1 h.2 5 (by decide)).2.1⟩
theorem IsK.pl6 {i : Nat} (h : IsK i 0) : aln (i + 6) = 8 := (isk_0 i h.1 h.2 5 (by decide)).2.2
theorem IsK.w6 {i : Nat} (h : IsK i 5) : IsK (i + 6) 8 := ⟨(isk_5 i h.1 h.2 5 (by decide)).1, (isk_5 i h.1 h.2 5 (by decide)).2.1⟩
theorem IsK.wl6 {i : Nat} (h : IsK i 5) : aln (i + 6) = 6 := (isk_5 i h.1 h.2 5 (by decide)).2.2
theorem kk_0 : IsK 0 6 := ⟨by decide, rfl⟩
theorem kk_1 : IsK 1 4 := ⟨by decide, rfl⟩
theorem kk_2 : IsK 2 5 := ⟨by decide, rfl⟩
theorem kk_3 : IsK 3 8 := ⟨by decide, rfl⟩
theorem kk_4 : IsK 4 8 := ⟨by decide, rfl⟩
theorem kk_5 : IsK 5 8 := ⟨by decide, rfl⟩
theorem kk_6 : IsK 6 8 := ⟨by decide, rfl⟩
theorem kk_7 : IsK 7 8 := ⟨by decide, rfl⟩
theorem kk_8 : IsK 8 8 := ⟨by decide, rfl⟩
theorem kk_9 : IsK 9 0 := ⟨by decide, rfl⟩
theorem kk_10 : IsK 10 8 := ⟨by decide, rfl⟩
theorem kk_11 : IsK 11 8 := ⟨by decide, rfl⟩
theorem kk_12 : IsK 12 8 := ⟨by decide, rfl⟩
theorem kk_13 : IsK 13 8 := ⟨by decide, rfl⟩
theorem kk_14 : IsK 14 8 := ⟨by decide, rfl⟩
theorem kk_15 : IsK 15 8 := ⟨by decide, rfl⟩
theorem kk_16 : IsK 16 8 := ⟨by decide, rfl⟩
theorem kk_17 : IsK 17 4 := ⟨by decide, rfl⟩
theorem kk_18 : IsK 18 5 := ⟨by decide, rfl⟩
theorem kk_19 : IsK 19 8 := ⟨by decide, rfl⟩
theorem kk_20 : IsK 20 8 := ⟨by decide, rfl⟩
theorem kk_21 : IsK 21 8 := ⟨by decide, rfl⟩
theorem kk_22 : IsK 22 8 := ⟨by decide, rfl⟩
theorem kk_23 : IsK 23 8 := ⟨by decide, rfl⟩
theorem kk_24 : IsK 24 8 := ⟨by decide, rfl⟩
theorem kk_25 : IsK 25 0 := ⟨by decide, rfl⟩
theorem kk_26 : IsK 26 8 := ⟨by decide, rfl⟩
theorem kk_27 : IsK 27 8 := ⟨by decide, rfl⟩
theorem kk_28 : IsK 28 8 := ⟨by decide, rfl⟩
theorem kk_29 : IsK 29 8 := ⟨by decide, rfl⟩
theorem kk_30 : IsK 30 8 := ⟨by decide, rfl⟩
theorem kk_31 : IsK 31 8 := ⟨by decide, rfl⟩
theorem kk_32 : IsK 32 8 := ⟨by decide, rfl⟩
theorem kk_33 : IsK 33 4 := ⟨by decide, rfl⟩
theorem kk_34 : IsK 34 5 := ⟨by decide, rfl⟩
theorem kk_35 : IsK 35 8 := ⟨by decide, rfl⟩
theorem kk_36 : IsK 36 8 := ⟨by decide, rfl⟩
theorem kk_37 : IsK 37 8 := ⟨by decide, rfl⟩
theorem kk_38 : IsK 38 8 := ⟨by decide, rfl⟩
theorem kk_39 : IsK 39 8 := ⟨by decide, rfl⟩
theorem kk_40 : IsK 40 8 := ⟨by decide, rfl⟩
theorem kk_41 : IsK 41 0 := ⟨by decide, rfl⟩
theorem kk_42 : IsK 42 8 := ⟨by decide, rfl⟩
theorem kk_43 : IsK 43 8 := ⟨by decide, rfl⟩
theorem kk_44 : IsK 44 8 := ⟨by decide, rfl⟩
theorem kk_45 : IsK 45 8 := ⟨by decide, rfl⟩
theorem kk_46 : IsK 46 8 := ⟨by decide, rfl⟩
theorem kk_47 : IsK 47 8 := ⟨by decide, rfl⟩
theorem kk_48 : IsK 48 8 := ⟨by decide, rfl⟩
theorem kk_49 : IsK 49 2 := ⟨by decide, rfl⟩
theorem kk_50 : IsK 50 8 := ⟨by decide, rfl⟩
theorem kk_51 : IsK 51 3 := ⟨by decide, rfl⟩
theorem kk_52 : IsK 52 1 := ⟨by decide, rfl⟩
theorem kk_53 : IsK 53 8 := ⟨by decide, rfl⟩
theorem kk_54 : IsK 54 8 := ⟨by decide, rfl⟩
theorem kk_55 : IsK 55 8 := ⟨by decide, rfl⟩
theorem kk_56 : IsK 56 8 := ⟨by decide, rfl⟩
theorem kk_57 : IsK 57 8 := ⟨by decide, rfl⟩
theorem kk_58 : IsK 58 8 := ⟨by decide, rfl⟩
theorem kk_59 : IsK 59 7 := ⟨by decide, rfl⟩
theorem kk_60 : IsK 60 8 := ⟨by decide, rfl⟩
theorem kk_61 : IsK 61 8 := ⟨by decide, rfl⟩
theorem kk_62 : IsK 62 8 := ⟨by decide, rfl⟩
theorem kk_63 : IsK 63 8 := ⟨by decide, rfl⟩
theorem kk_64 : IsK 64 8 := ⟨by decide, rfl⟩
theorem kk_65 : IsK 65 8 := ⟨by decide, rfl⟩
theorem kk_66 : IsK 66 8 := ⟨by decide, rfl⟩
theorem kk_67 : IsK 67 8 := ⟨by decide, rfl⟩
theorem kk_68 : IsK 68 8 := ⟨by decide, rfl⟩
theorem kk_69 : IsK 69 8 := ⟨by decide, rfl⟩
section ENG3
variable {E : EB} {G : GB} {j : MI} {pc q : Nat} {L : List (Option Value)} {st : List Value} {M : Mem}
theorem vp_ix {x : Int32} {N : Nat} (h : vp_in x N) (hN : N < 2 ^ 31) : x = nI (ix x) ∧ ix x < N := by
  obtain ⟨n, hn, rfl⟩ := vp_in_of h hN
  have e : ix (nI n) = n := nI_clamp (Nat.lt_trans hn hN)
  rw [e]
  exact ⟨rfl, hn⟩
theorem v_topi {x : Int32} (k : ∀ y, y = x → V E G pc L (.int y :: st) M) : V E G pc L (.int x :: st) M := k x rfl
theorem v_topj {x : Int64} (k : ∀ y, y = x → V E G pc L (.long y :: st) M) : V E G pc L (.long x :: st) M := k x rfl
theorem v_topM {X : Mem} (k : ∀ M', M' = X → V E G pc L st M') : V E G pc L st X := k X rfl
theorem v_iald (hG : Gd E j G) {i N : Nat} {x : Int32} (ik : IsK i 8) (al : aln i = N) (hx : vp_in x N) (d : decode j.2.1 pc = .ok (.iaload, 1)) (hq : pc + 1 = q) (k : V E G q L (.int (M i (ix x)) :: st) M) : V E G pc L (.int x :: .ref i :: st) M := by
  have h31 : N < 2 ^ 31 := by rw [← al]; exact Nat.lt_of_le_of_lt (aln_le i ik.1) (by decide)
  exact v_iaload hG ik al (vp_ix hx h31).1 (vp_ix hx h31).2 d hq k
theorem v_iast (hG : Gd E j G) {i N : Nat} {x v : Int32} (ik : IsK i 8) (al : aln i = N) (hx : vp_in x N) (d : decode j.2.1 pc = .ok (.iastore, 1)) (hq : pc + 1 = q) (k : V E G q L st (up M i (ix x) v)) : V E G pc L (.int v :: .int x :: .ref i :: st) M := by
  have h31 : N < 2 ^ 31 := by rw [← al]; exact Nat.lt_of_le_of_lt (aln_le i ik.1) (by decide)
  exact v_iastore hG ik al (vp_ix hx h31).1 (vp_ix hx h31).2 d hq k
theorem v_weak {L' : List (Option Value)} (hl : L'.length = L.length) (hs : ∀ (i : Nat) (v : Value), L'[i]? = some (some v) → L[i]? = some (some v)) (k : V E G pc L' st M) : V E G pc L st M := by
  obtain ⟨p, e, s, m, args, below, meth, c, R, cl, sl, Q⟩ := G
  exact fun H locs ls hL hP hS => k H locs ls ⟨hL.1, hL.2.1, hl.trans hL.2.2.1, fun i v h => hL.2.2.2 i v (hs i v h)⟩ hP hS
theorem v_drop {n : Nat} {L' : List (Option Value)} (he : L.set n none = L') (k : V E G pc L' st M) : V E G pc L st M := by
  subst he
  refine v_weak (by simp) (fun i v h => ?_) k
  rw [List.getElem?_set] at h
  split at h
  · split at h <;> simp at h
  · exact h
def CVo (j' : MI) (n c0 : Nat) : Prop := MOK j' n ∧ MOV j' ∧ c0 ≠ 8 ∧ ∃ (T : u_T) (N : Nat), vwCl[c0]? = some (j'.1.cls, T, N)
def CSo (j' : MI) (n : Nat) : Prop := MOK j' n ∧ MOS j'
theorem v_cV0I (hG : Gd E j G) {j' : MI} {idx i c0 : Nat} {x : Int32} {M1 : Mem} (co : CVo j' 0 c0) (ml : Cond.methodLink j.1.cls idx j'.1 ∈ wT) (fit : FitR j' j = true) (ik : IsK i c0) (c : Mt E j' [.ref i] M (PI x M1)) (hw : (st.map fun v => v.category).sum ≤ 8) (d : decode j.2.1 pc = .ok (.invokevirtual idx, 3)) (hq : pc + 3 = q) (k : V E G q L (.int x :: st) M1) : V E G pc L (.ref i :: st) M := by
  obtain ⟨mo, mv, h8, T, N, hcl⟩ := co
  refine v_callV hG (av := []) mo mv ml fit ik h8 hcl c rfl rfl hw d hq ?_
  rintro _ _ ⟨_, rfl, rfl, rfl⟩
  exact k
theorem v_cS0I (hG : Gd E j G) {j' : MI} {idx : Nat} {x : Int32} {M1 : Mem} (co : CSo j' 0) (ml : Cond.methodLink j.1.cls idx j'.1 ∈ wT) (fit : FitR j' j = true) (c : Mt E j' [] M (PI x M1)) (hw : (st.map fun v => v.category).sum ≤ 8) (d : decode j.2.1 pc = .ok (.invokestatic idx, 3)) (hq : pc + 3 = q) (k : V E G q L (.int x :: st) M1) : V E G pc L (st) M := by
  refine v_callS hG (av := []) co.1 co.2 ml fit c rfl rfl hw d hq ?_
  rintro _ _ ⟨_, rfl, rfl, rfl⟩
  exact k
theorem v_cV0J (hG : Gd E j G) {j' : MI} {idx i c0 : Nat} {x : Int64} {M1 : Mem} (co : CVo j' 0 c0) (ml : Cond.methodLink j.1.cls idx j'.1 ∈ wT) (fit : FitR j' j = true) (ik : IsK i c0) (c : Mt E j' [.ref i] M (PJ x M1)) (hw : (st.map fun v => v.category).sum ≤ 8) (d : decode j.2.1 pc = .ok (.invokevirtual idx, 3)) (hq : pc + 3 = q) (k : V E G q L (.long x :: st) M1) : V E G pc L (.ref i :: st) M := by
  obtain ⟨mo, mv, h8, T, N, hcl⟩ := co
  refine v_callV hG (av := []) mo mv ml fit ik h8 hcl c rfl rfl hw d hq ?_
  rintro _ _ ⟨_, rfl, rfl, rfl⟩
  exact k
theorem v_cS0J (hG : Gd E j G) {j' : MI} {idx : Nat} {x : Int64} {M1 : Mem} (co : CSo j' 0) (ml : Cond.methodLink j.1.cls idx j'.1 ∈ wT) (fit : FitR j' j = true) (c : Mt E j' [] M (PJ x M1)) (hw : (st.map fun v => v.category).sum ≤ 8) (d : decode j.2.1 pc = .ok (.invokestatic idx, 3)) (hq : pc + 3 = q) (k : V E G q L (.long x :: st) M1) : V E G pc L (st) M := by
  refine v_callS hG (av := []) co.1 co.2 ml fit c rfl rfl hw d hq ?_
  rintro _ _ ⟨_, rfl, rfl, rfl⟩
  exact k
theorem v_cV0V (hG : Gd E j G) {j' : MI} {idx i c0 : Nat} {M1 : Mem} (co : CVo j' 0 c0) (ml : Cond.methodLink j.1.cls idx j'.1 ∈ wT) (fit : FitR j' j = true) (ik : IsK i c0) (c : Mt E j' [.ref i] M (PV M1)) (hw : (st.map fun v => v.category).sum ≤ 8) (d : decode j.2.1 pc = .ok (.invokevirtual idx, 3)) (hq : pc + 3 = q) (k : V E G q L (st) M1) : V E G pc L (.ref i :: st) M := by
  obtain ⟨mo, mv, h8, T, N, hcl⟩ := co
  refine v_callV hG (av := []) mo mv ml fit ik h8 hcl c rfl rfl hw d hq ?_
  rintro _ _ ⟨rfl, rfl⟩
  exact k
theorem v_cS0V (hG : Gd E j G) {j' : MI} {idx : Nat} {M1 : Mem} (co : CSo j' 0) (ml : Cond.methodLink j.1.cls idx j'.1 ∈ wT) (fit : FitR j' j = true) (c : Mt E j' [] M (PV M1)) (hw : (st.map fun v => v.category).sum ≤ 8) (d : decode j.2.1 pc = .ok (.invokestatic idx, 3)) (hq : pc + 3 = q) (k : V E G q L (st) M1) : V E G pc L (st) M := by
  refine v_callS hG (av := []) co.1 co.2 ml fit c rfl rfl hw d hq ?_
  rintro _ _ ⟨rfl, rfl⟩
  exact k
theorem v_cV0R (hG : Gd E j G) {j' : MI} {idx i c0 : Nat} {x : Option Nat} {M1 : Mem} (co : CVo j' 0 c0) (ml : Cond.methodLink j.1.cls idx j'.1 ∈ wT) (fit : FitR j' j = true) (ik : IsK i c0) (c : Mt E j' [.ref i] M (PR x M1)) (hw : (st.map fun v => v.category).sum ≤ 8) (d : decode j.2.1 pc = .ok (.invokevirtual idx, 3)) (hq : pc + 3 = q) (k : V E G q L (oref x :: st) M1) : V E G pc L (.ref i :: st) M := by
  obtain ⟨mo, mv, h8, T, N, hcl⟩ := co
  refine v_callV hG (av := []) mo mv ml fit ik h8 hcl c rfl rfl hw d hq ?_
  rintro _ _ ⟨_, rfl, rfl, rfl⟩
  exact k
theorem v_cS0R (hG : Gd E j G) {j' : MI} {idx : Nat} {x : Option Nat} {M1 : Mem} (co : CSo j' 0) (ml : Cond.methodLink j.1.cls idx j'.1 ∈ wT) (fit : FitR j' j = true) (c : Mt E j' [] M (PR x M1)) (hw : (st.map fun v => v.category).sum ≤ 8) (d : decode j.2.1 pc = .ok (.invokestatic idx, 3)) (hq : pc + 3 = q) (k : V E G q L (oref x :: st) M1) : V E G pc L (st) M := by
  refine v_callS hG (av := []) co.1 co.2 ml fit c rfl rfl hw d hq ?_
  rintro _ _ ⟨_, rfl, rfl, rfl⟩
  exact k
theorem v_cV1I (hG : Gd E j G) {j' : MI} {idx i c0 : Nat} {a1 : Value} {x : Int32} {M1 : Mem} (co : CVo j' 1 c0) (ml : Cond.methodLink j.1.cls idx j'.1 ∈ wT) (fit : FitR j' j = true) (ik : IsK i c0) (c : Mt E j' [.ref i, a1] M (PI x M1)) (hw : (st.map fun v => v.category).sum ≤ 8) (d : decode j.2.1 pc = .ok (.invokevirtual idx, 3)) (hq : pc + 3 = q) (k : V E G q L (.int x :: st) M1) : V E G pc L (a1 :: .ref i :: st) M := by
  obtain ⟨mo, mv, h8, T, N, hcl⟩ := co
  refine v_callV hG (av := [a1]) mo mv ml fit ik h8 hcl c rfl rfl hw d hq ?_
  rintro _ _ ⟨_, rfl, rfl, rfl⟩
  exact k
theorem v_cS1I (hG : Gd E j G) {j' : MI} {idx : Nat} {a1 : Value} {x : Int32} {M1 : Mem} (co : CSo j' 1) (ml : Cond.methodLink j.1.cls idx j'.1 ∈ wT) (fit : FitR j' j = true) (c : Mt E j' [a1] M (PI x M1)) (hw : (st.map fun v => v.category).sum ≤ 8) (d : decode j.2.1 pc = .ok (.invokestatic idx, 3)) (hq : pc + 3 = q) (k : V E G q L (.int x :: st) M1) : V E G pc L (a1 :: st) M := by
  refine v_callS hG (av := [a1]) co.1 co.2 ml fit c rfl rfl hw d hq ?_
  rintro _ _ ⟨_, rfl, rfl, rfl⟩
  exact k
theorem v_cV1J (hG : Gd E j G) {j' : MI} {idx i c0 : Nat} {a1 : Value} {x : Int64} {M1 : Mem} (co : CVo j' 1 c0) (ml : Cond.methodLink j.1.cls idx j'.1 ∈ wT) (fit : FitR j' j = true) (ik : IsK i c0) (c : Mt E j' [.ref i, a1] M (PJ x M1)) (hw : (st.map fun v => v.category).sum ≤ 8) (d : decode j.2.1 pc = .ok (.invokevirtual idx, 3)) (hq : pc + 3 = q) (k : V E G q L (.long x :: st) M1) : V E G pc L (a1 :: .ref i :: st) M := by
  obtain ⟨mo, mv, h8, T, N, hcl⟩ := co
  refine v_callV hG (av := [a1]) mo mv ml fit ik h8 hcl c rfl rfl hw d hq ?_
  rintro _ _ ⟨_, rfl, rfl, rfl⟩
  exact k
theorem v_cS1J (hG : Gd E j G) {j' : MI} {idx : Nat} {a1 : Value} {x : Int64} {M1 : Mem} (co : CSo j' 1) (ml : Cond.methodLink j.1.cls idx j'.1 ∈ wT) (fit : FitR j' j = true) (c : Mt E j' [a1] M (PJ x M1)) (hw : (st.map fun v => v.category).sum ≤ 8) (d : decode j.2.1 pc = .ok (.invokestatic idx, 3)) (hq : pc + 3 = q) (k : V E G q L (.long x :: st) M1) : V E G pc L (a1 :: st) M := by
  refine v_callS hG (av := [a1]) co.1 co.2 ml fit c rfl rfl hw d hq ?_
  rintro _ _ ⟨_, rfl, rfl, rfl⟩
  exact k
theorem v_cV1V (hG : Gd E j G) {j' : MI} {idx i c0 : Nat} {a1 : Value} {M1 : Mem} (co : CVo j' 1 c0) (ml : Cond.methodLink j.1.cls idx j'.1 ∈ wT) (fit : FitR j' j = true) (ik : IsK i c0) (c : Mt E j' [.ref i, a1] M (PV M1)) (hw : (st.map fun v => v.category).sum ≤ 8) (d : decode j.2.1 pc = .ok (.invokevirtual idx, 3)) (hq : pc + 3 = q) (k : V E G q L (st) M1) : V E G pc L (a1 :: .ref i :: st) M := by
  obtain ⟨mo, mv, h8, T, N, hcl⟩ := co
  refine v_callV hG (av := [a1]) mo mv ml fit ik h8 hcl c rfl rfl hw d hq ?_
  rintro _ _ ⟨rfl, rfl⟩
  exact k
theorem v_cS1V (hG : Gd E j G) {j' : MI} {idx : Nat} {a1 : Value} {M1 : Mem} (co : CSo j' 1) (ml : Cond.methodLink j.1.cls idx j'.1 ∈ wT) (fit : FitR j' j = true) (c : Mt E j' [a1] M (PV M1)) (hw : (st.map fun v => v.category).sum ≤ 8) (d : decode j.2.1 pc = .ok (.invokestatic idx, 3)) (hq : pc + 3 = q) (k : V E G q L (st) M1) : V E G pc L (a1 :: st) M := by
  refine v_callS hG (av := [a1]) co.1 co.2 ml fit c rfl rfl hw d hq ?_
  rintro _ _ ⟨rfl, rfl⟩
  exact k
theorem v_cV1R (hG : Gd E j G) {j' : MI} {idx i c0 : Nat} {a1 : Value} {x : Option Nat} {M1 : Mem} (co : CVo j' 1 c0) (ml : Cond.methodLink j.1.cls idx j'.1 ∈ wT) (fit : FitR j' j = true) (ik : IsK i c0) (c : Mt E j' [.ref i, a1] M (PR x M1)) (hw : (st.map fun v => v.category).sum ≤ 8) (d : decode j.2.1 pc = .ok (.invokevirtual idx, 3)) (hq : pc + 3 = q) (k : V E G q L (oref x :: st) M1) : V E G pc L (a1 :: .ref i :: st) M := by
  obtain ⟨mo, mv, h8, T, N, hcl⟩ := co
  refine v_callV hG (av := [a1]) mo mv ml fit ik h8 hcl c rfl rfl hw d hq ?_
  rintro _ _ ⟨_, rfl, rfl, rfl⟩
  exact k
theorem v_cS1R (hG : Gd E j G) {j' : MI} {idx : Nat} {a1 : Value} {x : Option Nat} {M1 : Mem} (co : CSo j' 1) (ml : Cond.methodLink j.1.cls idx j'.1 ∈ wT) (fit : FitR j' j = true) (c : Mt E j' [a1] M (PR x M1)) (hw : (st.map fun v => v.category).sum ≤ 8) (d : decode j.2.1 pc = .ok (.invokestatic idx, 3)) (hq : pc + 3 = q) (k : V E G q L (oref x :: st) M1) : V E G pc L (a1 :: st) M := by
  refine v_callS hG (av := [a1]) co.1 co.2 ml fit c rfl rfl hw d hq ?_
  rintro _ _ ⟨_, rfl, rfl, rfl⟩
  exact k
theorem v_cV2I (hG : Gd E j G) {j' : MI} {idx i c0 : Nat} {a1 a2 : Value} {x : Int32} {M1 : Mem} (co : CVo j' 2 c0) (ml : Cond.methodLink j.1.cls idx j'.1 ∈ wT) (fit : FitR j' j = true) (ik : IsK i c0) (c : Mt E j' [.ref i, a1, a2] M (PI x M1)) (hw : (st.map fun v => v.category).sum ≤ 8) (d : decode j.2.1 pc = .ok (.invokevirtual idx, 3)) (hq : pc + 3 = q) (k : V E G q L (.int x :: st) M1) : V E G pc L (a2 :: a1 :: .ref i :: st) M := by
  obtain ⟨mo, mv, h8, T, N, hcl⟩ := co
  refine v_callV hG (av := [a1, a2]) mo mv ml fit ik h8 hcl c rfl rfl hw d hq ?_
  rintro _ _ ⟨_, rfl, rfl, rfl⟩
  exact k
theorem v_cS2I (hG : Gd E j G) {j' : MI} {idx : Nat} {a1 a2 : Value} {x : Int32} {M1 : Mem} (co : CSo j' 2) (ml : Cond.methodLink j.1.cls idx j'.1 ∈ wT) (fit : FitR j' j = true) (c : Mt E j' [a1, a2] M (PI x M1)) (hw : (st.map fun v => v.category).sum ≤ 8) (d : decode j.2.1 pc = .ok (.invokestatic idx, 3)) (hq : pc + 3 = q) (k : V E G q L (.int x :: st) M1) : V E G pc L (a2 :: a1 :: st) M := by
  refine v_callS hG (av := [a1, a2]) co.1 co.2 ml fit c rfl rfl hw d hq ?_
  rintro _ _ ⟨_, rfl, rfl, rfl⟩
  exact k
theorem v_cV2J (hG : Gd E j G) {j' : MI} {idx i c0 : Nat} {a1 a2 : Value} {x : Int64} {M1 : Mem} (co : CVo j' 2 c0) (ml : Cond.methodLink j.1.cls idx j'.1 ∈ wT) (fit : FitR j' j = true) (ik : IsK i c0) (c : Mt E j' [.ref i, a1, a2] M (PJ x M1)) (hw : (st.map fun v => v.category).sum ≤ 8) (d : decode j.2.1 pc = .ok (.invokevirtual idx, 3)) (hq : pc + 3 = q) (k : V E G q L (.long x :: st) M1) : V E G pc L (a2 :: a1 :: .ref i :: st) M := by
  obtain ⟨mo, mv, h8, T, N, hcl⟩ := co
  refine v_callV hG (av := [a1, a2]) mo mv ml fit ik h8 hcl c rfl rfl hw d hq ?_
  rintro _ _ ⟨_, rfl, rfl, rfl⟩
  exact k
theorem v_cS2J (hG : Gd E j G) {j' : MI} {idx : Nat} {a1 a2 : Value} {x : Int64} {M1 : Mem} (co : CSo j' 2) (ml : Cond.methodLink j.1.cls idx j'.1 ∈ wT) (fit : FitR j' j = true) (c : Mt E j' [a1, a2] M (PJ x M1)) (hw : (st.map fun v => v.category).sum ≤ 8) (d : decode j.2.1 pc = .ok (.invokestatic idx, 3)) (hq : pc + 3 = q) (k : V E G q L (.long x :: st) M1) : V E G pc L (a2 :: a1 :: st) M := by
  refine v_callS hG (av := [a1, a2]) co.1 co.2 ml fit c rfl rfl hw d hq ?_
  rintro _ _ ⟨_, rfl, rfl, rfl⟩
  exact k
theorem v_cV2V (hG : Gd E j G) {j' : MI} {idx i c0 : Nat} {a1 a2 : Value} {M1 : Mem} (co : CVo j' 2 c0) (ml : Cond.methodLink j.1.cls idx j'.1 ∈ wT) (fit : FitR j' j = true) (ik : IsK i c0) (c : Mt E j' [.ref i, a1, a2] M (PV M1)) (hw : (st.map fun v => v.category).sum ≤ 8) (d : decode j.2.1 pc = .ok (.invokevirtual idx, 3)) (hq : pc + 3 = q) (k : V E G q L (st) M1) : V E G pc L (a2 :: a1 :: .ref i :: st) M := by
  obtain ⟨mo, mv, h8, T, N, hcl⟩ := co
  refine v_callV hG (av := [a1, a2]) mo mv ml fit ik h8 hcl c rfl rfl hw d hq ?_
  rintro _ _ ⟨rfl, rfl⟩
  exact k
theorem v_cS2V (hG : Gd E j G) {j' : MI} {idx : Nat} {a1 a2 : Value} {M1 : Mem} (co : CSo j' 2) (ml : Cond.methodLink j.1.cls idx j'.1 ∈ wT) (fit : FitR j' j = true) (c : Mt E j' [a1, a2] M (PV M1)) (hw : (st.map fun v => v.category).sum ≤ 8) (d : decode j.2.1 pc = .ok (.invokestatic idx, 3)) (hq : pc + 3 = q) (k : V E G q L (st) M1) : V E G pc L (a2 :: a1 :: st) M := by
  refine v_callS hG (av := [a1, a2]) co.1 co.2 ml fit c rfl rfl hw d hq ?_
  rintro _ _ ⟨rfl, rfl⟩
  exact k
theorem v_cV2R (hG : Gd E j G) {j' : MI} {idx i c0 : Nat} {a1 a2 : Value} {x : Option Nat} {M1 : Mem} (co : CVo j' 2 c0) (ml : Cond.methodLink j.1.cls idx j'.1 ∈ wT) (fit : FitR j' j = true) (ik : IsK i c0) (c : Mt E j' [.ref i, a1, a2] M (PR x M1)) (hw : (st.map fun v => v.category).sum ≤ 8) (d : decode j.2.1 pc = .ok (.invokevirtual idx, 3)) (hq : pc + 3 = q) (k : V E G q L (oref x :: st) M1) : V E G pc L (a2 :: a1 :: .ref i :: st) M := by
  obtain ⟨mo, mv, h8, T, N, hcl⟩ := co
  refine v_callV hG (av := [a1, a2]) mo mv ml fit ik h8 hcl c rfl rfl hw d hq ?_
  rintro _ _ ⟨_, rfl, rfl, rfl⟩
  exact k
theorem v_cS2R (hG : Gd E j G) {j' : MI} {idx : Nat} {a1 a2 : Value} {x : Option Nat} {M1 : Mem} (co : CSo j' 2) (ml : Cond.methodLink j.1.cls idx j'.1 ∈ wT) (fit : FitR j' j = true) (c : Mt E j' [a1, a2] M (PR x M1)) (hw : (st.map fun v => v.category).sum ≤ 8) (d : decode j.2.1 pc = .ok (.invokestatic idx, 3)) (hq : pc + 3 = q) (k : V E G q L (oref x :: st) M1) : V E G pc L (a2 :: a1 :: st) M := by
  refine v_callS hG (av := [a1, a2]) co.1 co.2 ml fit c rfl rfl hw d hq ?_
  rintro _ _ ⟨_, rfl, rfl, rfl⟩
  exact k
theorem v_cV3I (hG : Gd E j G) {j' : MI} {idx i c0 : Nat} {a1 a2 a3 : Value} {x : Int32} {M1 : Mem} (co : CVo j' 3 c0) (ml : Cond.methodLink j.1.cls idx j'.1 ∈ wT) (fit : FitR j' j = true) (ik : IsK i c0) (c : Mt E j' [.ref i, a1, a2, a3] M (PI x M1)) (hw : (st.map fun v => v.category).sum ≤ 8) (d : decode j.2.1 pc = .ok (.invokevirtual idx, 3)) (hq : pc + 3 = q) (k : V E G q L (.int x :: st) M1) : V E G pc L (a3 :: a2 :: a1 :: .ref i :: st) M := by
  obtain ⟨mo, mv, h8, T, N, hcl⟩ := co
  refine v_callV hG (av := [a1, a2, a3]) mo mv ml fit ik h8 hcl c rfl rfl hw d hq ?_
  rintro _ _ ⟨_, rfl, rfl, rfl⟩
  exact k
theorem v_cS3I (hG : Gd E j G) {j' : MI} {idx : Nat} {a1 a2 a3 : Value} {x : Int32} {M1 : Mem} (co : CSo j' 3) (ml : Cond.methodLink j.1.cls idx j'.1 ∈ wT) (fit : FitR j' j = true) (c : Mt E j' [a1, a2, a3] M (PI x M1)) (hw : (st.map fun v => v.category).sum ≤ 8) (d : decode j.2.1 pc = .ok (.invokestatic idx, 3)) (hq : pc + 3 = q) (k : V E G q L (.int x :: st) M1) : V E G pc L (a3 :: a2 :: a1 :: st) M := by
  refine v_callS hG (av := [a1, a2, a3]) co.1 co.2 ml fit c rfl rfl hw d hq ?_
  rintro _ _ ⟨_, rfl, rfl, rfl⟩
  exact k
theorem v_cV3J (hG : Gd E j G) {j' : MI} {idx i c0 : Nat} {a1 a2 a3 : Value} {x : Int64} {M1 : Mem} (co : CVo j' 3 c0) (ml : Cond.methodLink j.1.cls idx j'.1 ∈ wT) (fit : FitR j' j = true) (ik : IsK i c0) (c : Mt E j' [.ref i, a1, a2, a3] M (PJ x M1)) (hw : (st.map fun v => v.category).sum ≤ 8) (d : decode j.2.1 pc = .ok (.invokevirtual idx, 3)) (hq : pc + 3 = q) (k : V E G q L (.long x :: st) M1) : V E G pc L (a3 :: a2 :: a1 :: .ref i :: st) M := by
  obtain ⟨mo, mv, h8, T, N, hcl⟩ := co
  refine v_callV hG (av := [a1, a2, a3]) mo mv ml fit ik h8 hcl c rfl rfl hw d hq ?_
  rintro _ _ ⟨_, rfl, rfl, rfl⟩
  exact k
theorem v_cS3J (hG : Gd E j G) {j' : MI} {idx : Nat} {a1 a2 a3 : Value} {x : Int64} {M1 : Mem} (co : CSo j' 3) (ml : Cond.methodLink j.1.cls idx j'.1 ∈ wT) (fit : FitR j' j = true) (c : Mt E j' [a1, a2, a3] M (PJ x M1)) (hw : (st.map fun v => v.category).sum ≤ 8) (d : decode j.2.1 pc = .ok (.invokestatic idx, 3)) (hq : pc + 3 = q) (k : V E G q L (.long x :: st) M1) : V E G pc L (a3 :: a2 :: a1 :: st) M := by
  refine v_callS hG (av := [a1, a2, a3]) co.1 co.2 ml fit c rfl rfl hw d hq ?_
  rintro _ _ ⟨_, rfl, rfl, rfl⟩
  exact k
theorem v_cV3V (hG : Gd E j G) {j' : MI} {idx i c0 : Nat} {a1 a2 a3 : Value} {M1 : Mem} (co : CVo j' 3 c0) (ml : Cond.methodLink j.1.cls idx j'.1 ∈ wT) (fit : FitR j' j = true) (ik : IsK i c0) (c : Mt E j' [.ref i, a1, a2, a3] M (PV M1)) (hw : (st.map fun v => v.category).sum ≤ 8) (d : decode j.2.1 pc = .ok (.invokevirtual idx, 3)) (hq : pc + 3 = q) (k : V E G q L (st) M1) : V E G pc L (a3 :: a2 :: a1 :: .ref i :: st) M := by
  obtain ⟨mo, mv, h8, T, N, hcl⟩ := co
  refine v_callV hG (av := [a1, a2, a3]) mo mv ml fit ik h8 hcl c rfl rfl hw d hq ?_
  rintro _ _ ⟨rfl, rfl⟩
  exact k
theorem v_cS3V (hG : Gd E j G) {j' : MI} {idx : Nat} {a1 a2 a3 : Value} {M1 : Mem} (co : CSo j' 3) (ml : Cond.methodLink j.1.cls idx j'.1 ∈ wT) (fit : FitR j' j = true) (c : Mt E j' [a1, a2, a3] M (PV M1)) (hw : (st.map fun v => v.category).sum ≤ 8) (d : decode j.2.1 pc = .ok (.invokestatic idx, 3)) (hq : pc + 3 = q) (k : V E G q L (st) M1) : V E G pc L (a3 :: a2 :: a1 :: st) M := by
  refine v_callS hG (av := [a1, a2, a3]) co.1 co.2 ml fit c rfl rfl hw d hq ?_
  rintro _ _ ⟨rfl, rfl⟩
  exact k
theorem v_cV3R (hG : Gd E j G) {j' : MI} {idx i c0 : Nat} {a1 a2 a3 : Value} {x : Option Nat} {M1 : Mem} (co : CVo j' 3 c0) (ml : Cond.methodLink j.1.cls idx j'.1 ∈ wT) (fit : FitR j' j = true) (ik : IsK i c0) (c : Mt E j' [.ref i, a1, a2, a3] M (PR x M1)) (hw : (st.map fun v => v.category).sum ≤ 8) (d : decode j.2.1 pc = .ok (.invokevirtual idx, 3)) (hq : pc + 3 = q) (k : V E G q L (oref x :: st) M1) : V E G pc L (a3 :: a2 :: a1 :: .ref i :: st) M := by
  obtain ⟨mo, mv, h8, T, N, hcl⟩ := co
  refine v_callV hG (av := [a1, a2, a3]) mo mv ml fit ik h8 hcl c rfl rfl hw d hq ?_
  rintro _ _ ⟨_, rfl, rfl, rfl⟩
  exact k
theorem v_cS3R (hG : Gd E j G) {j' : MI} {idx : Nat} {a1 a2 a3 : Value} {x : Option Nat} {M1 : Mem} (co : CSo j' 3) (ml : Cond.methodLink j.1.cls idx j'.1 ∈ wT) (fit : FitR j' j = true) (c : Mt E j' [a1, a2, a3] M (PR x M1)) (hw : (st.map fun v => v.category).sum ≤ 8) (d : decode j.2.1 pc = .ok (.invokestatic idx, 3)) (hq : pc + 3 = q) (k : V E G q L (oref x :: st) M1) : V E G pc L (a3 :: a2 :: a1 :: st) M := by
  refine v_callS hG (av := [a1, a2, a3]) co.1 co.2 ml fit c rfl rfl hw d hq ?_
  rintro _ _ ⟨_, rfl, rfl, rfl⟩
  exact k
theorem v_cV4I (hG : Gd E j G) {j' : MI} {idx i c0 : Nat} {a1 a2 a3 a4 : Value} {x : Int32} {M1 : Mem} (co : CVo j' 4 c0) (ml : Cond.methodLink j.1.cls idx j'.1 ∈ wT) (fit : FitR j' j = true) (ik : IsK i c0) (c : Mt E j' [.ref i, a1, a2, a3, a4] M (PI x M1)) (hw : (st.map fun v => v.category).sum ≤ 8) (d : decode j.2.1 pc = .ok (.invokevirtual idx, 3)) (hq : pc + 3 = q) (k : V E G q L (.int x :: st) M1) : V E G pc L (a4 :: a3 :: a2 :: a1 :: .ref i :: st) M := by
  obtain ⟨mo, mv, h8, T, N, hcl⟩ := co
  refine v_callV hG (av := [a1, a2, a3, a4]) mo mv ml fit ik h8 hcl c rfl rfl hw d hq ?_
  rintro _ _ ⟨_, rfl, rfl, rfl⟩
  exact k
theorem v_cS4I (hG : Gd E j G) {j' : MI} {idx : Nat} {a1 a2 a3 a4 : Value} {x : Int32} {M1 : Mem} (co : CSo j' 4) (ml : Cond.methodLink j.1.cls idx j'.1 ∈ wT) (fit : FitR j' j = true) (c : Mt E j' [a1, a2, a3, a4] M (PI x M1)) (hw : (st.map fun v => v.category).sum ≤ 8) (d : decode j.2.1 pc = .ok (.invokestatic idx, 3)) (hq : pc + 3 = q) (k : V E G q L (.int x :: st) M1) : V E G pc L (a4 :: a3 :: a2 :: a1 :: st) M := by
  refine v_callS hG (av := [a1, a2, a3, a4]) co.1 co.2 ml fit c rfl rfl hw d hq ?_
  rintro _ _ ⟨_, rfl, rfl, rfl⟩
  exact k
theorem v_cV4J (hG : Gd E j G) {j' : MI} {idx i c0 : Nat} {a1 a2 a3 a4 : Value} {x : Int64} {M1 : Mem} (co : CVo j' 4 c0) (ml : Cond.methodLink j.1.cls idx j'.1 ∈ wT) (fit : FitR j' j = true) (ik : IsK i c0) (c : Mt E j' [.ref i, a1, a2, a3, a4] M (PJ x M1)) (hw : (st.map fun v => v.category).sum ≤ 8) (d : decode j.2.1 pc = .ok (.invokevirtual idx, 3)) (hq : pc + 3 = q) (k : V E G q L (.long x :: st) M1) : V E G pc L (a4 :: a3 :: a2 :: a1 :: .ref i :: st) M := by
  obtain ⟨mo, mv, h8, T, N, hcl⟩ := co
  refine v_callV hG (av := [a1, a2, a3, a4]) mo mv ml fit ik h8 hcl c rfl rfl hw d hq ?_
  rintro _ _ ⟨_, rfl, rfl, rfl⟩
  exact k
theorem v_cS4J (hG : Gd E j G) {j' : MI} {idx : Nat} {a1 a2 a3 a4 : Value} {x : Int64} {M1 : Mem} (co : CSo j' 4) (ml : Cond.methodLink j.1.cls idx j'.1 ∈ wT) (fit : FitR j' j = true) (c : Mt E j' [a1, a2, a3, a4] M (PJ x M1)) (hw : (st.map fun v => v.category).sum ≤ 8) (d : decode j.2.1 pc = .ok (.invokestatic idx, 3)) (hq : pc + 3 = q) (k : V E G q L (.long x :: st) M1) : V E G pc L (a4 :: a3 :: a2 :: a1 :: st) M := by
  refine v_callS hG (av := [a1, a2, a3, a4]) co.1 co.2 ml fit c rfl rfl hw d hq ?_
  rintro _ _ ⟨_, rfl, rfl, rfl⟩
  exact k
theorem v_cV4V (hG : Gd E j G) {j' : MI} {idx i c0 : Nat} {a1 a2 a3 a4 : Value} {M1 : Mem} (co : CVo j' 4 c0) (ml : Cond.methodLink j.1.cls idx j'.1 ∈ wT) (fit : FitR j' j = true) (ik : IsK i c0) (c : Mt E j' [.ref i, a1, a2, a3, a4] M (PV M1)) (hw : (st.map fun v => v.category).sum ≤ 8) (d : decode j.2.1 pc = .ok (.invokevirtual idx, 3)) (hq : pc + 3 = q) (k : V E G q L (st) M1) : V E G pc L (a4 :: a3 :: a2 :: a1 :: .ref i :: st) M := by
  obtain ⟨mo, mv, h8, T, N, hcl⟩ := co
  refine v_callV hG (av := [a1, a2, a3, a4]) mo mv ml fit ik h8 hcl c rfl rfl hw d hq ?_
  rintro _ _ ⟨rfl, rfl⟩
  exact k
theorem v_cS4V (hG : Gd E j G) {j' : MI} {idx : Nat} {a1 a2 a3 a4 : Value} {M1 : Mem} (co : CSo j' 4) (ml : Cond.methodLink j.1.cls idx j'.1 ∈ wT) (fit : FitR j' j = true) (c : Mt E j' [a1, a2, a3, a4] M (PV M1)) (hw : (st.map fun v => v.category).sum ≤ 8) (d : decode j.2.1 pc = .ok (.invokestatic idx, 3)) (hq : pc + 3 = q) (k : V E G q L (st) M1) : V E G pc L (a4 :: a3 :: a2 :: a1 :: st) M := by
  refine v_callS hG (av := [a1, a2, a3, a4]) co.1 co.2 ml fit c rfl rfl hw d hq ?_
  rintro _ _ ⟨rfl, rfl⟩
  exact k
theorem v_cV4R (hG : Gd E j G) {j' : MI} {idx i c0 : Nat} {a1 a2 a3 a4 : Value} {x : Option Nat} {M1 : Mem} (co : CVo j' 4 c0) (ml : Cond.methodLink j.1.cls idx j'.1 ∈ wT) (fit : FitR j' j = true) (ik : IsK i c0) (c : Mt E j' [.ref i, a1, a2, a3, a4] M (PR x M1)) (hw : (st.map fun v => v.category).sum ≤ 8) (d : decode j.2.1 pc = .ok (.invokevirtual idx, 3)) (hq : pc + 3 = q) (k : V E G q L (oref x :: st) M1) : V E G pc L (a4 :: a3 :: a2 :: a1 :: .ref i :: st) M := by
  obtain ⟨mo, mv, h8, T, N, hcl⟩ := co
  refine v_callV hG (av := [a1, a2, a3, a4]) mo mv ml fit ik h8 hcl c rfl rfl hw d hq ?_
  rintro _ _ ⟨_, rfl, rfl, rfl⟩
  exact k
theorem v_cS4R (hG : Gd E j G) {j' : MI} {idx : Nat} {a1 a2 a3 a4 : Value} {x : Option Nat} {M1 : Mem} (co : CSo j' 4) (ml : Cond.methodLink j.1.cls idx j'.1 ∈ wT) (fit : FitR j' j = true) (c : Mt E j' [a1, a2, a3, a4] M (PR x M1)) (hw : (st.map fun v => v.category).sum ≤ 8) (d : decode j.2.1 pc = .ok (.invokestatic idx, 3)) (hq : pc + 3 = q) (k : V E G q L (oref x :: st) M1) : V E G pc L (a4 :: a3 :: a2 :: a1 :: st) M := by
  refine v_callS hG (av := [a1, a2, a3, a4]) co.1 co.2 ml fit c rfl rfl hw d hq ?_
  rintro _ _ ⟨_, rfl, rfl, rfl⟩
  exact k
theorem v_cV5I (hG : Gd E j G) {j' : MI} {idx i c0 : Nat} {a1 a2 a3 a4 a5 : Value} {x : Int32} {M1 : Mem} (co : CVo j' 5 c0) (ml : Cond.methodLink j.1.cls idx j'.1 ∈ wT) (fit : FitR j' j = true) (ik : IsK i c0) (c : Mt E j' [.ref i, a1, a2, a3, a4, a5] M (PI x M1)) (hw : (st.map fun v => v.category).sum ≤ 8) (d : decode j.2.1 pc = .ok (.invokevirtual idx, 3)) (hq : pc + 3 = q) (k : V E G q L (.int x :: st) M1) : V E G pc L (a5 :: a4 :: a3 :: a2 :: a1 :: .ref i :: st) M := by
  obtain ⟨mo, mv, h8, T, N, hcl⟩ := co
  refine v_callV hG (av := [a1, a2, a3, a4, a5]) mo mv ml fit ik h8 hcl c rfl rfl hw d hq ?_
  rintro _ _ ⟨_, rfl, rfl, rfl⟩
  exact k
theorem v_cS5I (hG : Gd E j G) {j' : MI} {idx : Nat} {a1 a2 a3 a4 a5 : Value} {x : Int32} {M1 : Mem} (co : CSo j' 5) (ml : Cond.methodLink j.1.cls idx j'.1 ∈ wT) (fit : FitR j' j = true) (c : Mt E j' [a1, a2, a3, a4, a5] M (PI x M1)) (hw : (st.map fun v => v.category).sum ≤ 8) (d : decode j.2.1 pc = .ok (.invokestatic idx, 3)) (hq : pc + 3 = q) (k : V E G q L (.int x :: st) M1) : V E G pc L (a5 :: a4 :: a3 :: a2 :: a1 :: st) M := by
  refine v_callS hG (av := [a1, a2, a3, a4, a5]) co.1 co.2 ml fit c rfl rfl hw d hq ?_
  rintro _ _ ⟨_, rfl, rfl, rfl⟩
  exact k
theorem v_cV5J (hG : Gd E j G) {j' : MI} {idx i c0 : Nat} {a1 a2 a3 a4 a5 : Value} {x : Int64} {M1 : Mem} (co : CVo j' 5 c0) (ml : Cond.methodLink j.1.cls idx j'.1 ∈ wT) (fit : FitR j' j = true) (ik : IsK i c0) (c : Mt E j' [.ref i, a1, a2, a3, a4, a5] M (PJ x M1)) (hw : (st.map fun v => v.category).sum ≤ 8) (d : decode j.2.1 pc = .ok (.invokevirtual idx, 3)) (hq : pc + 3 = q) (k : V E G q L (.long x :: st) M1) : V E G pc L (a5 :: a4 :: a3 :: a2 :: a1 :: .ref i :: st) M := by
  obtain ⟨mo, mv, h8, T, N, hcl⟩ := co
  refine v_callV hG (av := [a1, a2, a3, a4, a5]) mo mv ml fit ik h8 hcl c rfl rfl hw d hq ?_
  rintro _ _ ⟨_, rfl, rfl, rfl⟩
  exact k
theorem v_cS5J (hG : Gd E j G) {j' : MI} {idx : Nat} {a1 a2 a3 a4 a5 : Value} {x : Int64} {M1 : Mem} (co : CSo j' 5) (ml : Cond.methodLink j.1.cls idx j'.1 ∈ wT) (fit : FitR j' j = true) (c : Mt E j' [a1, a2, a3, a4, a5] M (PJ x M1)) (hw : (st.map fun v => v.category).sum ≤ 8) (d : decode j.2.1 pc = .ok (.invokestatic idx, 3)) (hq : pc + 3 = q) (k : V E G q L (.long x :: st) M1) : V E G pc L (a5 :: a4 :: a3 :: a2 :: a1 :: st) M := by
  refine v_callS hG (av := [a1, a2, a3, a4, a5]) co.1 co.2 ml fit c rfl rfl hw d hq ?_
  rintro _ _ ⟨_, rfl, rfl, rfl⟩
  exact k
theorem v_cV5V (hG : Gd E j G) {j' : MI} {idx i c0 : Nat} {a1 a2 a3 a4 a5 : Value} {M1 : Mem} (co : CVo j' 5 c0) (ml : Cond.methodLink j.1.cls idx j'.1 ∈ wT) (fit : FitR j' j = true) (ik : IsK i c0) (c : Mt E j' [.ref i, a1, a2, a3, a4, a5] M (PV M1)) (hw : (st.map fun v => v.category).sum ≤ 8) (d : decode j.2.1 pc = .ok (.invokevirtual idx, 3)) (hq : pc + 3 = q) (k : V E G q L (st) M1) : V E G pc L (a5 :: a4 :: a3 :: a2 :: a1 :: .ref i :: st) M := by
  obtain ⟨mo, mv, h8, T, N, hcl⟩ := co
  refine v_callV hG (av := [a1, a2, a3, a4, a5]) mo mv ml fit ik h8 hcl c rfl rfl hw d hq ?_
  rintro _ _ ⟨rfl, rfl⟩
  exact k
theorem v_cS5V (hG : Gd E j G) {j' : MI} {idx : Nat} {a1 a2 a3 a4 a5 : Value} {M1 : Mem} (co : CSo j' 5) (ml : Cond.methodLink j.1.cls idx j'.1 ∈ wT) (fit : FitR j' j = true) (c : Mt E j' [a1, a2, a3, a4, a5] M (PV M1)) (hw : (st.map fun v => v.category).sum ≤ 8) (d : decode j.2.1 pc = .ok (.invokestatic idx, 3)) (hq : pc + 3 = q) (k : V E G q L (st) M1) : V E G pc L (a5 :: a4 :: a3 :: a2 :: a1 :: st) M := by
  refine v_callS hG (av := [a1, a2, a3, a4, a5]) co.1 co.2 ml fit c rfl rfl hw d hq ?_
  rintro _ _ ⟨rfl, rfl⟩
  exact k
theorem v_cV5R (hG : Gd E j G) {j' : MI} {idx i c0 : Nat} {a1 a2 a3 a4 a5 : Value} {x : Option Nat} {M1 : Mem} (co : CVo j' 5 c0) (ml : Cond.methodLink j.1.cls idx j'.1 ∈ wT) (fit : FitR j' j = true) (ik : IsK i c0) (c : Mt E j' [.ref i, a1, a2, a3, a4, a5] M (PR x M1)) (hw : (st.map fun v => v.category).sum ≤ 8) (d : decode j.2.1 pc = .ok (.invokevirtual idx, 3)) (hq : pc + 3 = q) (k : V E G q L (oref x :: st) M1) : V E G pc L (a5 :: a4 :: a3 :: a2 :: a1 :: .ref i :: st) M := by
  obtain ⟨mo, mv, h8, T, N, hcl⟩ := co
  refine v_callV hG (av := [a1, a2, a3, a4, a5]) mo mv ml fit ik h8 hcl c rfl rfl hw d hq ?_
  rintro _ _ ⟨_, rfl, rfl, rfl⟩
  exact k
theorem v_cS5R (hG : Gd E j G) {j' : MI} {idx : Nat} {a1 a2 a3 a4 a5 : Value} {x : Option Nat} {M1 : Mem} (co : CSo j' 5) (ml : Cond.methodLink j.1.cls idx j'.1 ∈ wT) (fit : FitR j' j = true) (c : Mt E j' [a1, a2, a3, a4, a5] M (PR x M1)) (hw : (st.map fun v => v.category).sum ≤ 8) (d : decode j.2.1 pc = .ok (.invokestatic idx, 3)) (hq : pc + 3 = q) (k : V E G q L (oref x :: st) M1) : V E G pc L (a5 :: a4 :: a3 :: a2 :: a1 :: st) M := by
  refine v_callS hG (av := [a1, a2, a3, a4, a5]) co.1 co.2 ml fit c rfl rfl hw d hq ?_
  rintro _ _ ⟨_, rfl, rfl, rfl⟩
  exact k
end ENG3

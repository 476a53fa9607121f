abbrev Mem : Type := Nat → Nat → Int32
abbrev EB : Type := Launch × (Nat → ClassId) × (Nat → Nat → Nat) × (Nat → Nat) × (Nat → ClassId) × Nat × (Nat → Int32)
def eAd (E : EB) : Nat → Nat := E.2.2.2.1
def eCA (E : EB) : Nat → ClassId := E.2.2.2.2.1
def eD (E : EB) : va_G := (E.2.1, E.2.2.1)
def eFr (E : EB) : Nat → Prop := fun q => ∃ i, i < 70 ∧ q = eAd E i
def eInj (E : EB) : Prop := ∀ i j, i < 70 → j < 70 → eAd E i = eAd E j → i = j
def mv (E : EB) (v : Value) : Value := match v with
  | .ref i => .ref (eAd E i)
  | w => w
theorem mv_cat (E : EB) (v : Value) : (mv E v).category = v.category := by cases v <;> rfl
def up (M : Mem) (i k : Nat) (v : Int32) : Mem := fun a => if a = i then upd (M i) k v else M a
def kds : List Nat := [6, 4, 5, 8, 8, 8, 8, 8, 8, 0, 8, 8, 8, 8, 8, 8, 8, 4, 5, 8, 8, 8, 8, 8, 8, 0, 8, 8, 8, 8, 8, 8, 8, 4, 5, 8, 8, 8, 8, 8, 8, 0, 8, 8, 8, 8, 8, 8, 8, 2, 8, 3, 1, 8, 8, 8, 8, 8, 8, 7, 8, 8, 8, 8, 8, 8, 8, 8, 8, 8]
def alns : List Nat := [0, 0, 0, 6, 6, 6, 6, 6, 6, 0, 8, 8, 8, 8, 8, 8, 10, 0, 0, 6, 6, 6, 6, 6, 6, 0, 8, 8, 8, 8, 8, 8, 10, 0, 0, 6, 6, 6, 6, 6, 6, 0, 8, 8, 8, 8, 8, 8, 10, 0, 120, 0, 0, 4, 4, 160, 7, 101, 128, 0, 99, 99, 99, 7, 102, 120, 4, 4, 160, 40]
def kd (i : Nat) : Nat := kds.getD i 9
def aln (i : Nat) : Nat := alns.getD i 0
def fld (M : Mem) (c i : Nat) : List Value := match c with
  | 0 => [.int (M i 0), .ref (i + 1), .ref (i + 2), .ref (i + 3), .ref (i + 4), .ref (i + 5), .ref (i + 6)]
  | 1 => [.ref (i + 1), .ref (i + 2), .ref (i + 3)]
  | 2 => [.ref (i + 1), .int (M i 1), .int (M i 2), .int (M i 3), .int (M i 4), .int (M i 5)]
  | 3 => [.ref 49, .ref 17]
  | 4 => [.ref (i + 1), .ref (i + 8), .ref (i + 15), .int (M i 3), .int (M i 4), .int (M i 5), .int (M i 6)]
  | 5 => [.int (M i 0), .ref (i + 1), .ref (i + 2), .ref (i + 3), .ref (i + 4), .ref (i + 5), .ref (i + 6)]
  | 6 => [.ref 1, .ref 17, .ref 33, .int (M i 3), .ref 49, .ref 51, .ref 52, .ref 56, .ref 57, .ref 58]
  | 7 => [.ref 60, .ref 61, .ref 62, .ref 63, .int (M i 4), .int (M i 5), .int (M i 6), .int (M i 7), .int (M i 8), .int (M i 9), .int (M i 10), .ref 64, .ref 65, .int (M i 13), .int (M i 14), .int (M i 15), .int (M i 16), .int (M i 17), .ref 66, .ref 67, .ref 68, .ref 69]
  | _ => []
theorem fld_congr {M M' : Mem} {i : Nat} (c : Nat) (h : M i = M' i) : fld M c i = fld M' c i := by
  unfold fld
  split <;> simp only [h]
def cellE (E : EB) (M : Mem) (i : Nat) : va_E := if kd i = 8 then .inl (eCA E i, aln i, .inl (M i)) else .inr (kd i, (fld M (kd i) i).map (mv E))
theorem cellE_congr {E : EB} {M M' : Mem} {i : Nat} (h : M i = M' i) : cellE E M i = cellE E M' i := by
  unfold cellE
  rw [fld_congr _ h, h]
def cells (E : EB) (M : Mem) : va_W := (List.range 70).map (fun i => (eAd E i, cellE E M i))
theorem cells_get {E : EB} {M : Mem} {i : Nat} (h : i < 70) : (cells E M)[i]? = some (eAd E i, cellE E M i) := by
  simp [cells, h]
theorem cells_arr {E : EB} {M : Mem} {i : Nat} (h : i < 70) (hk : kd i = 8) : (cells E M)[i]? = some (eAd E i, .inl (eCA E i, aln i, .inl (M i))) := by
  rw [cells_get h]; simp [cellE, hk]
theorem cells_obj {E : EB} {M : Mem} {i c : Nat} (h : i < 70) (hk : kd i = c) (hc : c ≠ 8) : (cells E M)[i]? = some (eAd E i, .inr (c, (fld M c i).map (mv E))) := by
  rw [cells_get h]; simp [cellE, hk, hc]
theorem cells_set {E : EB} {M M' : Mem} {i : Nat} {e : va_E} (he : cellE E M' i = e) (ho : ∀ a, a ≠ i → M' a = M a) : (cells E M).set i (eAd E i, e) = cells E M' := by
  apply List.ext_getElem
  · simp [cells]
  · intro n h1 h2
    simp only [List.getElem_set, cells, List.getElem_map, List.getElem_range]
    by_cases hn : i = n
    · subst hn; simp [he]
    · simp only [hn, if_false]
      rw [cellE_congr (M := M') (M' := M) (ho n (fun h => hn h.symm))]
theorem up_ne {M : Mem} {i k : Nat} {v : Int32} {a : Nat} (h : a ≠ i) : up M i k v a = M a := by simp [up, h]
theorem up_eq {M : Mem} {i k : Nat} {v : Int32} : up M i k v i = upd (M i) k v := by simp [up]
def eTys (E : EB) : List (ClassId × FieldType) := (List.range 70).map (fun i => (eCA E i, .int))
theorem eTys_get {E : EB} {i : Nat} (h : i < 70) : (eTys E)[i]? = some (eCA E i, .int) := by simp [eTys, h]
theorem eD_cells {E : EB} (h : eInj E) (M : Mem) : va_D (eFr E) (cells E M) := by
  have key : ∀ (k : Nat) (q : Nat × va_E), (cells E M)[k]? = some q → k < 70 ∧ q.1 = eAd E k := by
    intro k q hq
    have hk : k < 70 := by
      have := (List.getElem?_eq_some_iff.mp hq).1
      simpa [cells] using this
    rw [cells_get hk] at hq
    exact ⟨hk, by rw [← Option.some.inj hq]⟩
  refine ⟨fun i j p q hp hq hpq => ?_, fun k q hq => ?_⟩
  · obtain ⟨a1, a2⟩ := key i p hp
    obtain ⟨b1, b2⟩ := key j q hq
    exact h i j a1 b1 (by rw [← a2, ← b2, hpq])
  · obtain ⟨a1, a2⟩ := key k q hq
    exact ⟨k, a1, a2⟩
def strTab : List (Nat × String × Nat) := [(41, "person", 0), (50, "tie", 1), (63, "writer", 2), (65, "soft", 3), (67, "form", 4), (69, "poet", 5), (71, "clerk", 6), (73, "deaf", 7), (75, "terse", 8), (89, "cuts", 9), (98, "adds", 10), (102, "when", 11), (106, "price", 12), (123, "by", 13), (133, "truth", 14), (137, "pence", 15)]
def slen : List Nat := [6, 3, 6, 4, 4, 4, 5, 4, 5, 4, 4, 4, 5, 2, 5, 5]
def sbyt : List (List Int32) := [[112, 101, 114, 115, 111, 110], [116, 105, 101], [119, 114, 105, 116, 101, 114], [115, 111, 102, 116], [102, 111, 114, 109], [112, 111, 101, 116], [99, 108, 101, 114, 107], [100, 101, 97, 102], [116, 101, 114, 115, 101], [99, 117, 116, 115], [97, 100, 100, 115], [119, 104, 101, 110], [112, 114, 105, 99, 101], [98, 121], [116, 114, 117, 116, 104], [112, 101, 110, 99, 101]]
def und : List Int32 := [-1, 0, 0, 1, 2, 0, 2]
def Ex (E : EB) (U : State) (H : Heap) : Prop := vk_S 16 slen sbyt (fun k => eAd E (100 + k)) (fun k => eAd E (130 + k)) (eFr E) U H ∧ va_Z "ScribeTables" "UNDER" "[I" (.ref (eAd E 300)) (eFr E) U H ∧ va_T .int (eAd E 300) 7 (fun j => .int (und.getD j 0)) (eFr E) U H ∧ va_Z "java/lang/String" "COMPACT_STRINGS" "Z" (.int 1) (eFr E) U H ∧ ∃ v : Value, (v = .null ∨ v = .ref 400) ∧ va_Z "jdk/internal/util/Preconditions" "SIOOBE_FORMATTER" "Ljava/util/function/BiFunction;" (mv E v) (eFr E) U H
def Rx (E : EB) (U : State) : Prop := ∀ q ∈ strTab, vk_R RX3 q.1 q.2.1 (eAd E (100 + q.2.2)) U
def Kn (E : EB) (U : State) : Prop := va_K (eD E) vwCl (eTys E) U ∧ Rx E U
def Wd (E : EB) (M : Mem) (U : State) : Prop := va_P (eD E) vwCl (cells E M) U.heap ∧ Kn E U ∧ Ex E U U.heap ∧ eInj E
def wsOf (j : MI) : List Cond := .code j.1 j.2.1 j.2.2.1 j.2.2.2.1 :: wT
def rmOf (j : MI) : Room := { frames := j.2.2.2.2.1, cells := 0, slots := 0, locals := j.2.2.2.2.2 }
def QcE (E : EB) (Φ : Option Value → Mem → Prop) : Array Value → State → Outcome → State → Prop := fun _ st oc t => (∃ (r : Option Value) (M' : Mem), oc = .returned (r.map (mv E)) ∧ Φ r M' ∧ va_P (eD E) vwCl (cells E M') t.heap) ∧ va_F (eFr E) st t
def Mt (E : EB) (j : MI) (av : List Value) (M : Mem) (Φ : Option Value → Mem → Prop) : Prop := Met E.1 j.1 (wsOf j) (rmOf j) (va_Pc (av.map (mv E)) (Wd E M)) (QcE E Φ) 0 0 (eFr E)
def fI (Φ : Int32 → Mem → Prop) : Option Value → Mem → Prop := fun r M => ∃ x : Int32, r = some (.int x) ∧ Φ x M
def fJ (Φ : Int64 → Mem → Prop) : Option Value → Mem → Prop := fun r M => ∃ x : Int64, r = some (.long x) ∧ Φ x M
def fR (Φ : Value → Mem → Prop) : Option Value → Mem → Prop := fun r M => ∃ x : Value, r = some x ∧ Φ x M
def fV (Φ : Mem → Prop) : Option Value → Mem → Prop := fun r M => r = none ∧ Φ M
abbrev GB : Type := Program × Env × State × MethodId × Array Value × List Frame × Method × Code × Room × Nat × Nat × (State → Prop)
def Lok (E : EB) (ls : Array Slot) (n : Nat) (L : List (Option Value)) : Prop := ls.size = n ∧ lv_wf ls ∧ L.length = n ∧ ∀ (i : Nat) (v : Value), L[i]? = some (some v) → ls[i]? = some (.val (mv E v))
def V (E : EB) (G : GB) (pc : Nat) (L : List (Option Value)) (st : List Value) (M : Mem) : Prop := match G with
  | (p, e, s, m, args, below, meth, c, R, cl, sl, Q) => ∀ (H : Heap) (locs : List Loc) (ls : Array Slot), Lok E ls c.maxLocals L → va_P (eD E) vwCl (cells E M) H → va_S (eFr E) s.heap H locs → W p E.1 e R s m args below meth c H locs cl sl Q (F0 m pc ls (st.map (mv E)))
def Gd (E : EB) (j : MI) (G : GB) : Prop := match G with
  | (p, e, s, m, args, below, meth, c, R, cl, sl, Q) => p.tables.exec = Jvm.exec ∧ c.code = j.2.1 ∧ s.vm.findClass j.1.cls = some m.cls ∧ (∀ w ∈ wT, w.before args s = true) ∧ Kn E s ∧ Ex E s s.heap ∧ eInj E ∧ j.2.2.2.2.1 ≤ R.frames ∧ j.2.2.2.2.2 ≤ R.locals ∧ cl ≤ R.cells ∧ sl ≤ R.slots
def Rt (E : EB) (j : MI) (Φ : Option Value → Mem → Prop) (G : GB) : Prop := match G with
  | (p, e, s, m, args, below, meth, c, R, cl, sl, Q) => meth.sig.returnType = j.2.2.2.1 ∧ meth.locks = false ∧ cl = 0 ∧ sl = 0 ∧ Q = MQ below (QcE E Φ) args s 0 0 (eFr E)
section ENG
variable {E : EB} {G : GB} {j : MI} {pc q : Nat} {L : List (Option Value)} {st : List Value} {M : Mem}
theorem v_iadd (hG : Gd E j G) {x y : Int32} (d : decode j.2.1 pc = .ok (.iadd, 1)) (hq : pc + 1 = q) (k : V E G q L (.int (x + y) :: st) M) : V E G pc L (.int y :: .int x :: st) M := by
  subst hq; obtain ⟨p, e, s, m, args, below, meth, c, R, cl, sl, Q⟩ := G
  exact fun H locs ls hl hP hS => lv_iadd hG.1 hG.2.1 d (k H locs ls hl hP hS)
theorem v_isub (hG : Gd E j G) {x y : Int32} (d : decode j.2.1 pc = .ok (.isub, 1)) (hq : pc + 1 = q) (k : V E G q L (.int (x - y) :: st) M) : V E G pc L (.int y :: .int x :: st) M := by
  subst hq; obtain ⟨p, e, s, m, args, below, meth, c, R, cl, sl, Q⟩ := G
  exact fun H locs ls hl hP hS => lv_isub hG.1 hG.2.1 d (k H locs ls hl hP hS)
theorem v_imul (hG : Gd E j G) {x y : Int32} (d : decode j.2.1 pc = .ok (.imul, 1)) (hq : pc + 1 = q) (k : V E G q L (.int (x * y) :: st) M) : V E G pc L (.int y :: .int x :: st) M := by
  subst hq; obtain ⟨p, e, s, m, args, below, meth, c, R, cl, sl, Q⟩ := G
  exact fun H locs ls hl hP hS => lv_imul hG.1 hG.2.1 d (k H locs ls hl hP hS)
theorem v_iand (hG : Gd E j G) {x y : Int32} (d : decode j.2.1 pc = .ok (.iand, 1)) (hq : pc + 1 = q) (k : V E G q L (.int (x &&& y) :: st) M) : V E G pc L (.int y :: .int x :: st) M := by
  subst hq; obtain ⟨p, e, s, m, args, below, meth, c, R, cl, sl, Q⟩ := G
  exact fun H locs ls hl hP hS => lv_iand hG.1 hG.2.1 d (k H locs ls hl hP hS)
theorem v_ior (hG : Gd E j G) {x y : Int32} (d : decode j.2.1 pc = .ok (.ior, 1)) (hq : pc + 1 = q) (k : V E G q L (.int (x ||| y) :: st) M) : V E G pc L (.int y :: .int x :: st) M := by
  subst hq; obtain ⟨p, e, s, m, args, below, meth, c, R, cl, sl, Q⟩ := G
  exact fun H locs ls hl hP hS => lv_ior hG.1 hG.2.1 d (k H locs ls hl hP hS)
theorem v_ixor (hG : Gd E j G) {x y : Int32} (d : decode j.2.1 pc = .ok (.ixor, 1)) (hq : pc + 1 = q) (k : V E G q L (.int (x ^^^ y) :: st) M) : V E G pc L (.int y :: .int x :: st) M := by
  subst hq; obtain ⟨p, e, s, m, args, below, meth, c, R, cl, sl, Q⟩ := G
  exact fun H locs ls hl hP hS => lv_ixor hG.1 hG.2.1 d (k H locs ls hl hP hS)
theorem v_ishl (hG : Gd E j G) {x y : Int32} (d : decode j.2.1 pc = .ok (.ishl, 1)) (hq : pc + 1 = q) (k : V E G q L (.int (x <<< (y &&& 31)) :: st) M) : V E G pc L (.int y :: .int x :: st) M := by
  subst hq; obtain ⟨p, e, s, m, args, below, meth, c, R, cl, sl, Q⟩ := G
  exact fun H locs ls hl hP hS => lv_ishl hG.1 hG.2.1 d (k H locs ls hl hP hS)
theorem v_ishr (hG : Gd E j G) {x y : Int32} (d : decode j.2.1 pc = .ok (.ishr, 1)) (hq : pc + 1 = q) (k : V E G q L (.int (x >>> (y &&& 31)) :: st) M) : V E G pc L (.int y :: .int x :: st) M := by
  subst hq; obtain ⟨p, e, s, m, args, below, meth, c, R, cl, sl, Q⟩ := G
  exact fun H locs ls hl hP hS => lv_ishr hG.1 hG.2.1 d (k H locs ls hl hP hS)
theorem v_iushr (hG : Gd E j G) {x y : Int32} (d : decode j.2.1 pc = .ok (.iushr, 1)) (hq : pc + 1 = q) (k : V E G q L (.int ((x.toUInt32 >>> (y.toUInt32 &&& Int32.toUInt32 31)).toInt32) :: st) M) : V E G pc L (.int y :: .int x :: st) M := by
  subst hq; obtain ⟨p, e, s, m, args, below, meth, c, R, cl, sl, Q⟩ := G
  exact fun H locs ls hl hP hS => lv_iushr hG.1 hG.2.1 d rfl (k H locs ls hl hP hS)
theorem v_idiv (hG : Gd E j G) {x y : Int32} (hne : ¬ y = 0) (d : decode j.2.1 pc = .ok (.idiv, 1)) (hq : pc + 1 = q) (k : V E G q L (.int (x / y) :: st) M) : V E G pc L (.int y :: .int x :: st) M := by
  subst hq; obtain ⟨p, e, s, m, args, below, meth, c, R, cl, sl, Q⟩ := G
  exact fun H locs ls hl hP hS => lv_idiv hG.1 hG.2.1 d hne (k H locs ls hl hP hS)
theorem v_irem (hG : Gd E j G) {x y : Int32} (hne : ¬ y = 0) (d : decode j.2.1 pc = .ok (.irem, 1)) (hq : pc + 1 = q) (k : V E G q L (.int (x - x / y * y) :: st) M) : V E G pc L (.int y :: .int x :: st) M := by
  subst hq; obtain ⟨p, e, s, m, args, below, meth, c, R, cl, sl, Q⟩ := G
  exact fun H locs ls hl hP hS => lv_irem hG.1 hG.2.1 d hne (k H locs ls hl hP hS)
theorem v_ladd (hG : Gd E j G) {x y : Int64} (d : decode j.2.1 pc = .ok (.ladd, 1)) (hq : pc + 1 = q) (k : V E G q L (.long (x + y) :: st) M) : V E G pc L (.long y :: .long x :: st) M := by
  subst hq; obtain ⟨p, e, s, m, args, below, meth, c, R, cl, sl, Q⟩ := G
  exact fun H locs ls hl hP hS => lv_ladd hG.1 hG.2.1 d (k H locs ls hl hP hS)
theorem v_lmul (hG : Gd E j G) {x y : Int64} (d : decode j.2.1 pc = .ok (.lmul, 1)) (hq : pc + 1 = q) (k : V E G q L (.long (x * y) :: st) M) : V E G pc L (.long y :: .long x :: st) M := by
  subst hq; obtain ⟨p, e, s, m, args, below, meth, c, R, cl, sl, Q⟩ := G
  exact fun H locs ls hl hP hS => lv_lmul hG.1 hG.2.1 d (k H locs ls hl hP hS)
theorem v_lcmp (hG : Gd E j G) {x y : Int64} (d : decode j.2.1 pc = .ok (.lcmp, 1)) (hq : pc + 1 = q) (k : V E G q L (.int (lg_cmp x y) :: st) M) : V E G pc L (.long y :: .long x :: st) M := by
  subst hq; obtain ⟨p, e, s, m, args, below, meth, c, R, cl, sl, Q⟩ := G
  exact fun H locs ls hl hP hS => W.lcmp hG.1 hG.2.1 d (k H locs ls hl hP hS)
theorem v_i2l (hG : Gd E j G) {x : Int32} (d : decode j.2.1 pc = .ok (.i2l, 1)) (hq : pc + 1 = q) (k : V E G q L (.long x.toInt64 :: st) M) : V E G pc L (.int x :: st) M := by
  subst hq; obtain ⟨p, e, s, m, args, below, meth, c, R, cl, sl, Q⟩ := G
  exact fun H locs ls hl hP hS => lv_i2l hG.1 hG.2.1 d rfl (k H locs ls hl hP hS)
theorem v_i2b (hG : Gd E j G) {x : Int32} (d : decode j.2.1 pc = .ok (.i2b, 1)) (hq : pc + 1 = q) (k : V E G q L (.int x.toInt8.toInt32 :: st) M) : V E G pc L (.int x :: st) M := by
  subst hq; obtain ⟨p, e, s, m, args, below, meth, c, R, cl, sl, Q⟩ := G
  exact fun H locs ls hl hP hS => lv_i2b hG.1 hG.2.1 d rfl (k H locs ls hl hP hS)
theorem v_i2s (hG : Gd E j G) {x : Int32} (d : decode j.2.1 pc = .ok (.i2s, 1)) (hq : pc + 1 = q) (k : V E G q L (.int x.toInt16.toInt32 :: st) M) : V E G pc L (.int x :: st) M := by
  subst hq; obtain ⟨p, e, s, m, args, below, meth, c, R, cl, sl, Q⟩ := G
  exact fun H locs ls hl hP hS => lv_i2s hG.1 hG.2.1 d rfl (k H locs ls hl hP hS)
theorem v_i2c (hG : Gd E j G) {x : Int32} (d : decode j.2.1 pc = .ok (.i2c, 1)) (hq : pc + 1 = q) (k : V E G q L (.int x.toUInt32.toUInt16.toUInt32.toInt32 :: st) M) : V E G pc L (.int x :: st) M := by
  subst hq; obtain ⟨p, e, s, m, args, below, meth, c, R, cl, sl, Q⟩ := G
  exact fun H locs ls hl hP hS => lv_i2c hG.1 hG.2.1 d rfl (k H locs ls hl hP hS)
theorem v_iconst (hG : Gd E j G) {n : Int} {v : Int32} (hv : Int32.ofInt n = v) (d : decode j.2.1 pc = .ok (.iconst n, 1)) (hq : pc + 1 = q) (k : V E G q L (.int v :: st) M) : V E G pc L (st) M := by
  subst hq; obtain ⟨p, e, s, m, args, below, meth, c, R, cl, sl, Q⟩ := G
  exact fun H locs ls hl hP hS => lv_iconst hG.1 hG.2.1 d hv (k H locs ls hl hP hS)
theorem v_lconst (hG : Gd E j G) {n : Fin 2} {v : Int64} (hv : Int64.ofNat (n : Nat) = v) (d : decode j.2.1 pc = .ok (.lconst n, 1)) (hq : pc + 1 = q) (k : V E G q L (.long v :: st) M) : V E G pc L (st) M := by
  subst hq; obtain ⟨p, e, s, m, args, below, meth, c, R, cl, sl, Q⟩ := G
  exact fun H locs ls hl hP hS => lv_lconst hG.1 hG.2.1 d hv (k H locs ls hl hP hS)
theorem v_bipush (hG : Gd E j G) {n : Int} {v : Int32} (hv : (Int8.ofInt n).toInt32 = v) (d : decode j.2.1 pc = .ok (.bipush n, 2)) (hq : pc + 2 = q) (k : V E G q L (.int v :: st) M) : V E G pc L (st) M := by
  subst hq; obtain ⟨p, e, s, m, args, below, meth, c, R, cl, sl, Q⟩ := G
  exact fun H locs ls hl hP hS => lv_bipush hG.1 hG.2.1 d hv (k H locs ls hl hP hS)
theorem v_sipush (hG : Gd E j G) {n : Int} {v : Int32} (hv : (Int16.ofInt n).toInt32 = v) (d : decode j.2.1 pc = .ok (.sipush n, 3)) (hq : pc + 3 = q) (k : V E G q L (.int v :: st) M) : V E G pc L (st) M := by
  subst hq; obtain ⟨p, e, s, m, args, below, meth, c, R, cl, sl, Q⟩ := G
  exact fun H locs ls hl hP hS => lv_sipush hG.1 hG.2.1 d hv (k H locs ls hl hP hS)
theorem v_null (hG : Gd E j G) (d : decode j.2.1 pc = .ok (.aconst_null, 1)) (hq : pc + 1 = q) (k : V E G q L (.null :: st) M) : V E G pc L (st) M := by
  subst hq; obtain ⟨p, e, s, m, args, below, meth, c, R, cl, sl, Q⟩ := G
  exact fun H locs ls hl hP hS => lv_null hG.1 hG.2.1 d (k H locs ls hl hP hS)
theorem v_dup (hG : Gd E j G) {v : Value} (hv : v.category = 1) (d : decode j.2.1 pc = .ok (.dup, 1)) (hq : pc + 1 = q) (k : V E G q L (v :: v :: st) M) : V E G pc L (v :: st) M := by
  subst hq; obtain ⟨p, e, s, m, args, below, meth, c, R, cl, sl, Q⟩ := G
  exact fun H locs ls hl hP hS => lv_dup hG.1 hG.2.1 d (by rw [mv_cat]; exact hv) (k H locs ls hl hP hS)
theorem v_pop (hG : Gd E j G) {v : Value} (hv : v.category = 1) (d : decode j.2.1 pc = .ok (.pop, 1)) (hq : pc + 1 = q) (k : V E G q L (st) M) : V E G pc L (v :: st) M := by
  subst hq; obtain ⟨p, e, s, m, args, below, meth, c, R, cl, sl, Q⟩ := G
  exact fun H locs ls hl hP hS => lv_pop hG.1 hG.2.1 d (by rw [mv_cat]; exact hv) (k H locs ls hl hP hS)
theorem v_dup2 (hG : Gd E j G) {u v : Value} (hu : u.category = 1) (hv : v.category = 1) (d : decode j.2.1 pc = .ok (.dup2, 1)) (hq : pc + 1 = q) (k : V E G q L (u :: v :: u :: v :: st) M) : V E G pc L (u :: v :: st) M := by
  subst hq; obtain ⟨p, e, s, m, args, below, meth, c, R, cl, sl, Q⟩ := G
  exact fun H locs ls hl hP hS => lv_dup2_11 hG.1 hG.2.1 d (by rw [mv_cat]; exact hu) (by rw [mv_cat]; exact hv) (k H locs ls hl hP hS)
theorem v_ldc (hG : Gd E j G) {idx : Nat} {v : Int32} (hc : Cond.constant j.1.cls idx v ∈ wT) (d : decode j.2.1 pc = .ok (.ldc idx, 2)) (hq : pc + 2 = q) (k : V E G q L (.int v :: st) M) : V E G pc L (st) M := by
  subst hq; obtain ⟨p, e, s, m, args, below, meth, c, R, cl, sl, Q⟩ := G
  exact fun H locs ls hl hP hS => lv_ldc hG.1 hG.2.1 hG.2.2.1 (hG.2.2.2.1 _ hc) d (k H locs ls hl hP hS)
theorem v_ldcw (hG : Gd E j G) {idx : Nat} {v : Int32} (hc : Cond.constant j.1.cls idx v ∈ wT) (d : decode j.2.1 pc = .ok (.ldc_w idx, 3)) (hq : pc + 3 = q) (k : V E G q L (.int v :: st) M) : V E G pc L (st) M := by
  subst hq; obtain ⟨p, e, s, m, args, below, meth, c, R, cl, sl, Q⟩ := G
  exact fun H locs ls hl hP hS => lv_ldcw hG.1 hG.2.1 hG.2.2.1 (hG.2.2.2.1 _ hc) d (k H locs ls hl hP hS)
theorem v_ldc2 (hG : Gd E j G) {idx : Nat} {v : Int64} (hc : Cond.constantLong j.1.cls idx v ∈ wT) (d : decode j.2.1 pc = .ok (.ldc2_w idx, 3)) (hq : pc + 3 = q) (k : V E G q L (.long v :: st) M) : V E G pc L (st) M := by
  subst hq; obtain ⟨p, e, s, m, args, below, meth, c, R, cl, sl, Q⟩ := G
  exact fun H locs ls hl hP hS => lv_ldc2 hG.1 hG.2.1 hG.2.2.1 (hG.2.2.2.1 _ hc) d (k H locs ls hl hP hS)
theorem v_if_eq (hG : Gd E j G) {x : Int32} {off : Int} {tgt : Nat} (d : decode j.2.1 pc = .ok (.ifCond .eq off, 3)) (ht : (pc : Int) + off = (tgt : Int)) (hq : pc + 3 = q) (kt : x = 0 → V E G tgt L st M) (kf : ¬ x = 0 → V E G q L st M) : V E G pc L (.int x :: st) M := by
  subst hq; obtain ⟨p, e, s, m, args, below, meth, c, R, cl, sl, Q⟩ := G
  exact fun H locs ls hl hP hS => lv_if_eq hG.1 hG.2.1 d ht (fun z => kt z H locs ls hl hP hS) (fun z => kf z H locs ls hl hP hS)
theorem v_icmp_eq (hG : Gd E j G) {x y : Int32} {off : Int} {tgt : Nat} (d : decode j.2.1 pc = .ok (.if_icmp .eq off, 3)) (ht : (pc : Int) + off = (tgt : Int)) (hq : pc + 3 = q) (kt : x = y → V E G tgt L st M) (kf : ¬ x = y → V E G q L st M) : V E G pc L (.int y :: .int x :: st) M := by
  subst hq; obtain ⟨p, e, s, m, args, below, meth, c, R, cl, sl, Q⟩ := G
  exact fun H locs ls hl hP hS => lv_icmp_eq hG.1 hG.2.1 d ht (fun z => kt z H locs ls hl hP hS) (fun z => kf z H locs ls hl hP hS)
theorem v_if_ne (hG : Gd E j G) {x : Int32} {off : Int} {tgt : Nat} (d : decode j.2.1 pc = .ok (.ifCond .ne off, 3)) (ht : (pc : Int) + off = (tgt : Int)) (hq : pc + 3 = q) (kt : ¬ x = 0 → V E G tgt L st M) (kf : x = 0 → V E G q L st M) : V E G pc L (.int x :: st) M := by
  subst hq; obtain ⟨p, e, s, m, args, below, meth, c, R, cl, sl, Q⟩ := G
  exact fun H locs ls hl hP hS => lv_if_ne hG.1 hG.2.1 d ht (fun z => kt z H locs ls hl hP hS) (fun z => kf z H locs ls hl hP hS)
theorem v_icmp_ne (hG : Gd E j G) {x y : Int32} {off : Int} {tgt : Nat} (d : decode j.2.1 pc = .ok (.if_icmp .ne off, 3)) (ht : (pc : Int) + off = (tgt : Int)) (hq : pc + 3 = q) (kt : ¬ x = y → V E G tgt L st M) (kf : x = y → V E G q L st M) : V E G pc L (.int y :: .int x :: st) M := by
  subst hq; obtain ⟨p, e, s, m, args, below, meth, c, R, cl, sl, Q⟩ := G
  exact fun H locs ls hl hP hS => lv_icmp_ne hG.1 hG.2.1 d ht (fun z => kt z H locs ls hl hP hS) (fun z => kf z H locs ls hl hP hS)
theorem v_if_lt (hG : Gd E j G) {x : Int32} {off : Int} {tgt : Nat} (d : decode j.2.1 pc = .ok (.ifCond .lt off, 3)) (ht : (pc : Int) + off = (tgt : Int)) (hq : pc + 3 = q) (kt : x < 0 → V E G tgt L st M) (kf : ¬ x < 0 → V E G q L st M) : V E G pc L (.int x :: st) M := by
  subst hq; obtain ⟨p, e, s, m, args, below, meth, c, R, cl, sl, Q⟩ := G
  exact fun H locs ls hl hP hS => lv_if_lt hG.1 hG.2.1 d ht (fun z => kt z H locs ls hl hP hS) (fun z => kf z H locs ls hl hP hS)
theorem v_icmp_lt (hG : Gd E j G) {x y : Int32} {off : Int} {tgt : Nat} (d : decode j.2.1 pc = .ok (.if_icmp .lt off, 3)) (ht : (pc : Int) + off = (tgt : Int)) (hq : pc + 3 = q) (kt : x < y → V E G tgt L st M) (kf : ¬ x < y → V E G q L st M) : V E G pc L (.int y :: .int x :: st) M := by
  subst hq; obtain ⟨p, e, s, m, args, below, meth, c, R, cl, sl, Q⟩ := G
  exact fun H locs ls hl hP hS => lv_icmp_lt hG.1 hG.2.1 d ht (fun z => kt z H locs ls hl hP hS) (fun z => kf z H locs ls hl hP hS)
theorem v_if_ge (hG : Gd E j G) {x : Int32} {off : Int} {tgt : Nat} (d : decode j.2.1 pc = .ok (.ifCond .ge off, 3)) (ht : (pc : Int) + off = (tgt : Int)) (hq : pc + 3 = q) (kt : 0 ≤ x → V E G tgt L st M) (kf : ¬ 0 ≤ x → V E G q L st M) : V E G pc L (.int x :: st) M := by
  subst hq; obtain ⟨p, e, s, m, args, below, meth, c, R, cl, sl, Q⟩ := G
  exact fun H locs ls hl hP hS => lv_if_ge hG.1 hG.2.1 d ht (fun z => kt z H locs ls hl hP hS) (fun z => kf z H locs ls hl hP hS)
theorem v_icmp_ge (hG : Gd E j G) {x y : Int32} {off : Int} {tgt : Nat} (d : decode j.2.1 pc = .ok (.if_icmp .ge off, 3)) (ht : (pc : Int) + off = (tgt : Int)) (hq : pc + 3 = q) (kt : y ≤ x → V E G tgt L st M) (kf : ¬ y ≤ x → V E G q L st M) : V E G pc L (.int y :: .int x :: st) M := by
  subst hq; obtain ⟨p, e, s, m, args, below, meth, c, R, cl, sl, Q⟩ := G
  exact fun H locs ls hl hP hS => lv_icmp_ge hG.1 hG.2.1 d ht (fun z => kt z H locs ls hl hP hS) (fun z => kf z H locs ls hl hP hS)
theorem v_if_gt (hG : Gd E j G) {x : Int32} {off : Int} {tgt : Nat} (d : decode j.2.1 pc = .ok (.ifCond .gt off, 3)) (ht : (pc : Int) + off = (tgt : Int)) (hq : pc + 3 = q) (kt : 0 < x → V E G tgt L st M) (kf : ¬ 0 < x → V E G q L st M) : V E G pc L (.int x :: st) M := by
  subst hq; obtain ⟨p, e, s, m, args, below, meth, c, R, cl, sl, Q⟩ := G
  exact fun H locs ls hl hP hS => lv_if_gt hG.1 hG.2.1 d ht (fun z => kt z H locs ls hl hP hS) (fun z => kf z H locs ls hl hP hS)
theorem v_icmp_gt (hG : Gd E j G) {x y : Int32} {off : Int} {tgt : Nat} (d : decode j.2.1 pc = .ok (.if_icmp .gt off, 3)) (ht : (pc : Int) + off = (tgt : Int)) (hq : pc + 3 = q) (kt : y < x → V E G tgt L st M) (kf : ¬ y < x → V E G q L st M) : V E G pc L (.int y :: .int x :: st) M := by
  subst hq; obtain ⟨p, e, s, m, args, below, meth, c, R, cl, sl, Q⟩ := G
  exact fun H locs ls hl hP hS => lv_icmp_gt hG.1 hG.2.1 d ht (fun z => kt z H locs ls hl hP hS) (fun z => kf z H locs ls hl hP hS)
theorem v_if_le (hG : Gd E j G) {x : Int32} {off : Int} {tgt : Nat} (d : decode j.2.1 pc = .ok (.ifCond .le off, 3)) (ht : (pc : Int) + off = (tgt : Int)) (hq : pc + 3 = q) (kt : x ≤ 0 → V E G tgt L st M) (kf : ¬ x ≤ 0 → V E G q L st M) : V E G pc L (.int x :: st) M := by
  subst hq; obtain ⟨p, e, s, m, args, below, meth, c, R, cl, sl, Q⟩ := G
  exact fun H locs ls hl hP hS => lv_if_le hG.1 hG.2.1 d ht (fun z => kt z H locs ls hl hP hS) (fun z => kf z H locs ls hl hP hS)
theorem v_icmp_le (hG : Gd E j G) {x y : Int32} {off : Int} {tgt : Nat} (d : decode j.2.1 pc = .ok (.if_icmp .le off, 3)) (ht : (pc : Int) + off = (tgt : Int)) (hq : pc + 3 = q) (kt : x ≤ y → V E G tgt L st M) (kf : ¬ x ≤ y → V E G q L st M) : V E G pc L (.int y :: .int x :: st) M := by
  subst hq; obtain ⟨p, e, s, m, args, below, meth, c, R, cl, sl, Q⟩ := G
  exact fun H locs ls hl hP hS => lv_icmp_le hG.1 hG.2.1 d ht (fun z => kt z H locs ls hl hP hS) (fun z => kf z H locs ls hl hP hS)
theorem v_goto (hG : Gd E j G) {off : Int} {tgt : Nat} (d : decode j.2.1 pc = .ok (.goto off, 3)) (ht : (pc : Int) + off = (tgt : Int)) (k : V E G tgt L st M) : V E G pc L st M := by
  obtain ⟨p, e, s, m, args, below, meth, c, R, cl, sl, Q⟩ := G
  exact fun H locs ls hl hP hS => lv_goto hG.1 hG.2.1 d ht (k H locs ls hl hP hS)
theorem v_ifnull_r (hG : Gd E j G) {x : Nat} {off : Int} (d : decode j.2.1 pc = .ok (.ifnull off, 3)) (hq : pc + 3 = q) (k : V E G q L st M) : V E G pc L (.ref x :: st) M := by
  subst hq
  obtain ⟨p, e, s, m, args, below, meth, c, R, cl, sl, Q⟩ := G
  exact fun H locs ls hl hP hS => lv_ifnull hG.1 hG.2.1 d (k H locs ls hl hP hS)
theorem v_ifnonnull_r (hG : Gd E j G) {x : Nat} {off : Int} {tgt : Nat} (d : decode j.2.1 pc = .ok (.ifnonnull off, 3)) (ht : (pc : Int) + off = (tgt : Int)) (k : V E G tgt L st M) : V E G pc L (.ref x :: st) M := by
  obtain ⟨p, e, s, m, args, below, meth, c, R, cl, sl, Q⟩ := G
  exact fun H locs ls hl hP hS => lv_ifnonnull hG.1 hG.2.1 d ht (k H locs ls hl hP hS)
theorem v_ifnull_n (hG : Gd E j G) {off : Int} {tgt : Nat} (d : decode j.2.1 pc = .ok (.ifnull off, 3)) (ht : (pc : Int) + off = (tgt : Int)) (k : V E G tgt L st M) : V E G pc L (.null :: st) M := by
  obtain ⟨p, e, s, m, args, below, meth, c, R, cl, sl, Q⟩ := G
  exact fun H locs ls hl hP hS => lv_ifnullN hG.1 hG.2.1 d ht (k H locs ls hl hP hS)
theorem v_ifnonnull_n (hG : Gd E j G) {off : Int} (d : decode j.2.1 pc = .ok (.ifnonnull off, 3)) (hq : pc + 3 = q) (k : V E G q L st M) : V E G pc L (.null :: st) M := by
  subst hq
  obtain ⟨p, e, s, m, args, below, meth, c, R, cl, sl, Q⟩ := G
  exact fun H locs ls hl hP hS => lv_ifnonnullN hG.1 hG.2.1 d (k H locs ls hl hP hS)
theorem v_tabIn (hG : Gd E j G) {dflt lo hi : Int} {offs : Array Int} {len : Nat} {x : Int32} {off : Int} {tgt : Nat} (d : decode j.2.1 pc = .ok (.tableswitch dflt lo hi offs, len)) (h1 : ¬ x.toInt < lo) (h2 : ¬ hi < x.toInt) (ho : offs[(x.toInt - lo).toNat]? = some off) (ht : (pc : Int) + off = (tgt : Int)) (k : V E G tgt L st M) : V E G pc L (.int x :: st) M := by
  obtain ⟨p, e, s, m, args, below, meth, c, R, cl, sl, Q⟩ := G
  exact fun H locs ls hl hP hS => lv_tableIn hG.1 hG.2.1 d h1 h2 ho ht (k H locs ls hl hP hS)
theorem v_tabOut (hG : Gd E j G) {dflt lo hi : Int} {offs : Array Int} {len : Nat} {x : Int32} {tgt : Nat} (d : decode j.2.1 pc = .ok (.tableswitch dflt lo hi offs, len)) (h : x.toInt < lo ∨ hi < x.toInt) (ht : (pc : Int) + dflt = (tgt : Int)) (k : V E G tgt L st M) : V E G pc L (.int x :: st) M := by
  obtain ⟨p, e, s, m, args, below, meth, c, R, cl, sl, Q⟩ := G
  exact fun H locs ls hl hP hS => lv_tableOut hG.1 hG.2.1 d h ht (k H locs ls hl hP hS)
theorem v_lookup (hG : Gd E j G) {dflt : Int} {ps : Array (Int × Int)} {len : Nat} {x : Int32} {off : Int} {tgt : Nat} (d : decode j.2.1 pc = .ok (.lookupswitch dflt ps, len)) (hp : (ps.toList.zip (ps.toList.drop 1)).all (fun (a, next) => a.1 < next.1) = true) (ho : Op.lookupswitch.offset ps.toList dflt x.toInt = off) (ht : (pc : Int) + off = (tgt : Int)) (k : V E G tgt L st M) : V E G pc L (.int x :: st) M := by
  obtain ⟨p, e, s, m, args, below, meth, c, R, cl, sl, Q⟩ := G
  exact fun H locs ls hl hP hS => lv_lookup hG.1 hG.2.1 d hp ho ht (k H locs ls hl hP hS)
def lvF (E : EB) (L : List (Option Value)) : List (Nat × Value) := (List.range L.length).filterMap (fun i => (L.getD i none).map (fun v => (i, mv E v)))
theorem mem_lvF {q : Nat × Value} : q ∈ lvF E L ↔ ∃ (i : Nat) (v : Value), L[i]? = some (some v) ∧ q = (i, mv E v) := by
  unfold lvF
  rw [List.mem_filterMap]
  constructor
  · rintro ⟨i, hi, h⟩
    have hi := List.mem_range.mp hi
    rw [List.getD_eq_getElem?_getD] at h
    have e : L[i]? = some L[i] := List.getElem?_eq_getElem hi
    rw [e] at h
    cases hv : L[i] with
    | none => simp [hv] at h
    | some v => simp [hv] at h; exact ⟨i, v, by rw [e, hv], h.symm⟩
  · rintro ⟨i, v, h, rfl⟩
    refine ⟨i, List.mem_range.mpr (List.getElem?_eq_some_iff.mp h).1, ?_⟩
    rw [List.getD_eq_getElem?_getD, h]; rfl
theorem Lok.has {ls : Array Slot} {n : Nat} (h : Lok E ls n L) : lv_has ls n (lvF E L) := by
  refine ⟨h.1, h.2.1, fun q hq => ?_⟩
  obtain ⟨i, v, hi, rfl⟩ := mem_lvF.mp hq
  exact h.2.2.2 i v hi
def nl (o : Option Value) : Bool := match o with
  | some v => v.category == 1
  | none => true
def prevOK (L : List (Option Value)) (i : Nat) : Prop := ∀ k, k + 1 = i → nl (L.getD k none) = true
theorem Lok.st1 {ls : Array Slot} {n i : Nat} {x : Value} (hL : L.length = n) (hp : prevOK L i) (h : lv_has ls n ((i, mv E x) :: (lvF E L).filter (fun q => !(q.1 == i) && !(q.1 + 1 == i && q.2.category == 2)))) : Lok E ls n (L.set i (some x)) := by
  refine ⟨h.1, h.2.1, by simp [hL], fun k v hk => ?_⟩
  rw [List.getElem?_set] at hk
  by_cases hki : i = k
  · subst hki
    simp at hk
    obtain ⟨_, rfl⟩ := hk
    exact h.2.2 _ List.mem_cons_self
  · simp only [hki, if_false] at hk
    refine h.2.2 (k, mv E v) (List.mem_cons_of_mem _ (List.mem_filter.mpr ⟨mem_lvF.mpr ⟨k, v, hk, rfl⟩, ?_⟩))
    have h1 : (k == i) = false := by simp; exact fun z => hki z.symm
    simp only [h1, Bool.not_false, Bool.true_and, Bool.not_eq_true', Bool.and_eq_false_iff]
    by_cases h2 : k + 1 = i
    · right
      have := hp k h2
      rw [List.getD_eq_getElem?_getD, hk] at this
      rw [mv_cat]
      simp [nl] at this
      simp [this]
    · left; simp [h2]
theorem Lok.st2 {ls : Array Slot} {n i : Nat} {x : Value} (hL : L.length = n) (hp : prevOK L i) (h : lv_has ls n ((i, mv E x) :: (lvF E L).filter (fun q => !(q.1 == i) && (!(q.1 == i + 1) && !(q.1 + 1 == i && q.2.category == 2))))) : Lok E ls n ((L.set i (some x)).set (i + 1) none) := by
  refine ⟨h.1, h.2.1, by simp [hL], fun k v hk => ?_⟩
  rw [List.getElem?_set] at hk
  by_cases hk1 : i + 1 = k
  · subst hk1
    simp at hk
  · simp only [hk1, if_false] at hk
    rw [List.getElem?_set] at hk
    by_cases hki : i = k
    · subst hki
      simp at hk
      obtain ⟨_, rfl⟩ := hk
      exact h.2.2 _ List.mem_cons_self
    · simp only [hki, if_false] at hk
      refine h.2.2 (k, mv E v) (List.mem_cons_of_mem _ (List.mem_filter.mpr ⟨mem_lvF.mpr ⟨k, v, hk, rfl⟩, ?_⟩))
      have h1 : (k == i) = false := by simp; exact fun z => hki z.symm
      have h3 : (k == i + 1) = false := by simp; exact fun z => hk1 z.symm
      simp only [h1, h3, Bool.not_false, Bool.true_and, Bool.not_eq_true', Bool.and_eq_false_iff]
      by_cases h2 : k + 1 = i
      · right
        have := hp k h2
        rw [List.getD_eq_getElem?_getD, hk] at this
        rw [mv_cat]
        simp [nl] at this
        simp [this]
      · left; simp [h2]
theorem g_iloadn (hG : Gd E j G) {k : Fin 4} {i : Nat} {x : Int32} (d : decode j.2.1 pc = .ok (.iload_n k, 1)) (hi : (k : Nat) = i) (hl : L[i]? = some (some (.int x))) (hq : pc + 1 = q) (k : V E G q L (.int x :: st) M) : V E G pc L st M := by
  subst hq
  obtain ⟨p, e, s, m, args, below, meth, c, R, cl, sl, Q⟩ := G
  exact fun H locs ls hL hP hS => lv_iload_n hG.1 hG.2.1 d hi (hL.2.2.2 i _ hl) (k H locs ls hL hP hS)
theorem g_iload (hG : Gd E j G) {i : Nat} {x : Int32} (d : decode j.2.1 pc = .ok (.iload i, 2)) (hl : L[i]? = some (some (.int x))) (hq : pc + 2 = q) (k : V E G q L (.int x :: st) M) : V E G pc L st M := by
  subst hq
  obtain ⟨p, e, s, m, args, below, meth, c, R, cl, sl, Q⟩ := G
  exact fun H locs ls hL hP hS => lv_iload hG.1 hG.2.1 d (hL.2.2.2 i _ hl) (k H locs ls hL hP hS)
theorem g_lloadn (hG : Gd E j G) {k : Fin 4} {i : Nat} {x : Int64} (d : decode j.2.1 pc = .ok (.lload_n k, 1)) (hi : (k : Nat) = i) (hl : L[i]? = some (some (.long x))) (hq : pc + 1 = q) (k : V E G q L (.long x :: st) M) : V E G pc L st M := by
  subst hq
  obtain ⟨p, e, s, m, args, below, meth, c, R, cl, sl, Q⟩ := G
  exact fun H locs ls hL hP hS => lv_lload_n hG.1 hG.2.1 d hi (hL.2.2.2 i _ hl) (k H locs ls hL hP hS)
theorem g_lload (hG : Gd E j G) {i : Nat} {x : Int64} (d : decode j.2.1 pc = .ok (.lload i, 2)) (hl : L[i]? = some (some (.long x))) (hq : pc + 2 = q) (k : V E G q L (.long x :: st) M) : V E G pc L st M := by
  subst hq
  obtain ⟨p, e, s, m, args, below, meth, c, R, cl, sl, Q⟩ := G
  exact fun H locs ls hL hP hS => lv_lload hG.1 hG.2.1 d (hL.2.2.2 i _ hl) (k H locs ls hL hP hS)
theorem g_aloadn (hG : Gd E j G) {k : Fin 4} {i : Nat} {x : Nat} (d : decode j.2.1 pc = .ok (.aload_n k, 1)) (hi : (k : Nat) = i) (hl : L[i]? = some (some (.ref x))) (hq : pc + 1 = q) (k : V E G q L (.ref x :: st) M) : V E G pc L st M := by
  subst hq
  obtain ⟨p, e, s, m, args, below, meth, c, R, cl, sl, Q⟩ := G
  exact fun H locs ls hL hP hS => lv_aload_n hG.1 hG.2.1 d hi (hL.2.2.2 i _ hl) (k H locs ls hL hP hS)
theorem g_aload (hG : Gd E j G) {i : Nat} {x : Nat} (d : decode j.2.1 pc = .ok (.aload i, 2)) (hl : L[i]? = some (some (.ref x))) (hq : pc + 2 = q) (k : V E G q L (.ref x :: st) M) : V E G pc L st M := by
  subst hq
  obtain ⟨p, e, s, m, args, below, meth, c, R, cl, sl, Q⟩ := G
  exact fun H locs ls hL hP hS => lv_aload hG.1 hG.2.1 d (hL.2.2.2 i _ hl) (k H locs ls hL hP hS)
theorem g_aloadNn (hG : Gd E j G) {k : Fin 4} {i : Nat} (d : decode j.2.1 pc = .ok (.aload_n k, 1)) (hi : (k : Nat) = i) (hl : L[i]? = some (some (.null))) (hq : pc + 1 = q) (k : V E G q L (.null :: st) M) : V E G pc L st M := by
  subst hq
  obtain ⟨p, e, s, m, args, below, meth, c, R, cl, sl, Q⟩ := G
  exact fun H locs ls hL hP hS => lv_aload_nN hG.1 hG.2.1 d hi (hL.2.2.2 i _ hl) (k H locs ls hL hP hS)
theorem g_aloadN (hG : Gd E j G) {i : Nat} (d : decode j.2.1 pc = .ok (.aload i, 2)) (hl : L[i]? = some (some (.null))) (hq : pc + 2 = q) (k : V E G q L (.null :: st) M) : V E G pc L st M := by
  subst hq
  obtain ⟨p, e, s, m, args, below, meth, c, R, cl, sl, Q⟩ := G
  exact fun H locs ls hL hP hS => lv_aloadN hG.1 hG.2.1 d (hL.2.2.2 i _ hl) (k H locs ls hL hP hS)
theorem g_istoren (hG : Gd E j G) {k : Fin 4} {i : Nat} {x : Int32} (d : decode j.2.1 pc = .ok (.istore_n k, 1)) (hi : (k : Nat) = i) (hn : i < L.length) (hp : prevOK L i) (hq : pc + 1 = q) (k : V E G q (L.set i (some (.int x))) st M) : V E G pc L (.int x :: st) M := by
  subst hq
  obtain ⟨p, e, s, m, args, below, meth, c, R, cl, sl, Q⟩ := G
  exact fun H locs ls hL hP hS => lv_istore_n hG.1 hG.2.1 d hi hL.has (by rw [← hL.2.2.1]; exact hn) rfl (fun ls2 h2 => k H locs ls2 (Lok.st1 hL.2.2.1 hp h2) hP hS)
theorem g_istore (hG : Gd E j G) {i : Nat} {x : Int32} (d : decode j.2.1 pc = .ok (.istore i, 2)) (hn : i < L.length) (hp : prevOK L i) (hq : pc + 2 = q) (k : V E G q (L.set i (some (.int x))) st M) : V E G pc L (.int x :: st) M := by
  subst hq
  obtain ⟨p, e, s, m, args, below, meth, c, R, cl, sl, Q⟩ := G
  exact fun H locs ls hL hP hS => lv_istore hG.1 hG.2.1 d hL.has (by rw [← hL.2.2.1]; exact hn) rfl (fun ls2 h2 => k H locs ls2 (Lok.st1 hL.2.2.1 hp h2) hP hS)
theorem g_astoren (hG : Gd E j G) {k : Fin 4} {i : Nat} {x : Nat} (d : decode j.2.1 pc = .ok (.astore_n k, 1)) (hi : (k : Nat) = i) (hn : i < L.length) (hp : prevOK L i) (hq : pc + 1 = q) (k : V E G q (L.set i (some (.ref x))) st M) : V E G pc L (.ref x :: st) M := by
  subst hq
  obtain ⟨p, e, s, m, args, below, meth, c, R, cl, sl, Q⟩ := G
  exact fun H locs ls hL hP hS => lv_astore_n hG.1 hG.2.1 d hi hL.has (by rw [← hL.2.2.1]; exact hn) rfl (fun ls2 h2 => k H locs ls2 (Lok.st1 hL.2.2.1 hp h2) hP hS)
theorem g_astore (hG : Gd E j G) {i : Nat} {x : Nat} (d : decode j.2.1 pc = .ok (.astore i, 2)) (hn : i < L.length) (hp : prevOK L i) (hq : pc + 2 = q) (k : V E G q (L.set i (some (.ref x))) st M) : V E G pc L (.ref x :: st) M := by
  subst hq
  obtain ⟨p, e, s, m, args, below, meth, c, R, cl, sl, Q⟩ := G
  exact fun H locs ls hL hP hS => lv_astore hG.1 hG.2.1 d hL.has (by rw [← hL.2.2.1]; exact hn) rfl (fun ls2 h2 => k H locs ls2 (Lok.st1 hL.2.2.1 hp h2) hP hS)
theorem g_astoreNn (hG : Gd E j G) {k : Fin 4} {i : Nat} (d : decode j.2.1 pc = .ok (.astore_n k, 1)) (hi : (k : Nat) = i) (hn : i < L.length) (hp : prevOK L i) (hq : pc + 1 = q) (k : V E G q (L.set i (some (.null))) st M) : V E G pc L (.null :: st) M := by
  subst hq
  obtain ⟨p, e, s, m, args, below, meth, c, R, cl, sl, Q⟩ := G
  exact fun H locs ls hL hP hS => lv_astore_nN hG.1 hG.2.1 d hi hL.has (by rw [← hL.2.2.1]; exact hn) rfl (fun ls2 h2 => k H locs ls2 (Lok.st1 hL.2.2.1 hp h2) hP hS)
theorem g_astoreN (hG : Gd E j G) {i : Nat} (d : decode j.2.1 pc = .ok (.astore i, 2)) (hn : i < L.length) (hp : prevOK L i) (hq : pc + 2 = q) (k : V E G q (L.set i (some (.null))) st M) : V E G pc L (.null :: st) M := by
  subst hq
  obtain ⟨p, e, s, m, args, below, meth, c, R, cl, sl, Q⟩ := G
  exact fun H locs ls hL hP hS => lv_astoreN hG.1 hG.2.1 d hL.has (by rw [← hL.2.2.1]; exact hn) rfl (fun ls2 h2 => k H locs ls2 (Lok.st1 hL.2.2.1 hp h2) hP hS)
theorem g_lstoren (hG : Gd E j G) {k : Fin 4} {i : Nat} {x : Int64} (d : decode j.2.1 pc = .ok (.lstore_n k, 1)) (hi : (k : Nat) = i) (hn : i + 1 < L.length) (hp : prevOK L i) (hq : pc + 1 = q) (k : V E G q ((L.set i (some (.long x))).set (i + 1) none) st M) : V E G pc L (.long x :: st) M := by
  subst hq
  obtain ⟨p, e, s, m, args, below, meth, c, R, cl, sl, Q⟩ := G
  exact fun H locs ls hL hP hS => lv_lstore_n hG.1 hG.2.1 d hi hL.has (by rw [← hL.2.2.1]; exact hn) rfl (fun ls2 h2 => k H locs ls2 (Lok.st2 hL.2.2.1 hp h2) hP hS)
theorem g_lstore (hG : Gd E j G) {i : Nat} {x : Int64} (d : decode j.2.1 pc = .ok (.lstore i, 2)) (hn : i + 1 < L.length) (hp : prevOK L i) (hq : pc + 2 = q) (k : V E G q ((L.set i (some (.long x))).set (i + 1) none) st M) : V E G pc L (.long x :: st) M := by
  subst hq
  obtain ⟨p, e, s, m, args, below, meth, c, R, cl, sl, Q⟩ := G
  exact fun H locs ls hL hP hS => lv_lstore hG.1 hG.2.1 d hL.has (by rw [← hL.2.2.1]; exact hn) rfl (fun ls2 h2 => k H locs ls2 (Lok.st2 hL.2.2.1 hp h2) hP hS)
theorem g_iinc (hG : Gd E j G) {i : Nat} {n : Int} {x : Int32} (d : decode j.2.1 pc = .ok (.iinc i n, 3)) (hl : L[i]? = some (some (.int x))) (hp : prevOK L i) (hq : pc + 3 = q) (k : V E G q (L.set i (some (.int (x + Int32.ofInt n)))) st M) : V E G pc L st M := by
  subst hq
  obtain ⟨p, e, s, m, args, below, meth, c, R, cl, sl, Q⟩ := G
  intro H locs ls hL hP hS
  have hm : (i, Value.int x) ∈ lvF E L := mem_lvF.mpr ⟨i, .int x, hl, rfl⟩
  obtain ⟨kk, hkk⟩ := List.getElem?_of_mem hm
  exact lv_iinc hG.1 hG.2.1 d hL.has hkk rfl (by rw [← hL.2.2.1]; exact (List.getElem?_eq_some_iff.mp hl).1) rfl (fun ls2 h2 => k H locs ls2 (Lok.st1 hL.2.2.1 hp h2) hP hS)
theorem v_iload_0 (hG : Gd E j G) {t : List (Option Value)} {x : Int32} (d : decode j.2.1 pc = .ok (.iload_n 0, 1)) (hq : pc + 1 = q) (k : V E G q (some (.int x) :: t) (.int x :: st) M) : V E G pc (some (.int x) :: t) st M := g_iloadn (i := 0) hG d rfl rfl hq k
theorem v_lload_0 (hG : Gd E j G) {t : List (Option Value)} {x : Int64} (d : decode j.2.1 pc = .ok (.lload_n 0, 1)) (hq : pc + 1 = q) (k : V E G q (some (.long x) :: t) (.long x :: st) M) : V E G pc (some (.long x) :: t) st M := g_lloadn (i := 0) hG d rfl rfl hq k
theorem v_aload_0 (hG : Gd E j G) {t : List (Option Value)} {x : Nat} (d : decode j.2.1 pc = .ok (.aload_n 0, 1)) (hq : pc + 1 = q) (k : V E G q (some (.ref x) :: t) (.ref x :: st) M) : V E G pc (some (.ref x) :: t) st M := g_aloadn (i := 0) hG d rfl rfl hq k
theorem v_aloadN_0 (hG : Gd E j G) {t : List (Option Value)} (d : decode j.2.1 pc = .ok (.aload_n 0, 1)) (hq : pc + 1 = q) (k : V E G q (some (.null) :: t) (.null :: st) M) : V E G pc (some (.null) :: t) st M := g_aloadNn (i := 0) hG d rfl rfl hq k
theorem v_istore_0 (hG : Gd E j G) {b : Option Value} {t : List (Option Value)} {x : Int32} (d : decode j.2.1 pc = .ok (.istore_n 0, 1)) (hq : pc + 1 = q) (k : V E G q (some (.int x) :: t) st M) : V E G pc (b :: t) (.int x :: st) M := g_istoren (i := 0) hG d rfl (by simp) (fun k hk => by omega) hq k
theorem v_astore_0 (hG : Gd E j G) {b : Option Value} {t : List (Option Value)} {x : Nat} (d : decode j.2.1 pc = .ok (.astore_n 0, 1)) (hq : pc + 1 = q) (k : V E G q (some (.ref x) :: t) st M) : V E G pc (b :: t) (.ref x :: st) M := g_astoren (i := 0) hG d rfl (by simp) (fun k hk => by omega) hq k
theorem v_astoreN_0 (hG : Gd E j G) {b : Option Value} {t : List (Option Value)} (d : decode j.2.1 pc = .ok (.astore_n 0, 1)) (hq : pc + 1 = q) (k : V E G q (some (.null) :: t) st M) : V E G pc (b :: t) (.null :: st) M := g_astoreNn (i := 0) hG d rfl (by simp) (fun k hk => by omega) hq k
theorem v_lstore_0 (hG : Gd E j G) {b b2 : Option Value} {t : List (Option Value)} {x : Int64} (d : decode j.2.1 pc = .ok (.lstore_n 0, 1)) (hq : pc + 1 = q) (k : V E G q (some (.long x) :: none :: t) st M) : V E G pc (b :: b2 :: t) (.long x :: st) M := g_lstoren (i := 0) hG d rfl (by simp) (fun k hk => by omega) hq k
theorem v_iinc_0 (hG : Gd E j G) {t : List (Option Value)} {x v : Int32} {n : Int} (d : decode j.2.1 pc = .ok (.iinc 0 n, 3)) (hv : x + Int32.ofInt n = v) (hq : pc + 3 = q) (k : V E G q (some (.int v) :: t) st M) : V E G pc (some (.int x) :: t) st M := by
  subst hv
  exact g_iinc (i := 0) hG d rfl (fun k hk => by omega) hq k
theorem v_iload_1 (hG : Gd E j G) {a0 : Option Value} {t : List (Option Value)} {x : Int32} (d : decode j.2.1 pc = .ok (.iload_n 1, 1)) (hq : pc + 1 = q) (k : V E G q (a0 :: some (.int x) :: t) (.int x :: st) M) : V E G pc (a0 :: some (.int x) :: t) st M := g_iloadn (i := 1) hG d rfl rfl hq k
theorem v_lload_1 (hG : Gd E j G) {a0 : Option Value} {t : List (Option Value)} {x : Int64} (d : decode j.2.1 pc = .ok (.lload_n 1, 1)) (hq : pc + 1 = q) (k : V E G q (a0 :: some (.long x) :: t) (.long x :: st) M) : V E G pc (a0 :: some (.long x) :: t) st M := g_lloadn (i := 1) hG d rfl rfl hq k
theorem v_aload_1 (hG : Gd E j G) {a0 : Option Value} {t : List (Option Value)} {x : Nat} (d : decode j.2.1 pc = .ok (.aload_n 1, 1)) (hq : pc + 1 = q) (k : V E G q (a0 :: some (.ref x) :: t) (.ref x :: st) M) : V E G pc (a0 :: some (.ref x) :: t) st M := g_aloadn (i := 1) hG d rfl rfl hq k
theorem v_aloadN_1 (hG : Gd E j G) {a0 : Option Value} {t : List (Option Value)} (d : decode j.2.1 pc = .ok (.aload_n 1, 1)) (hq : pc + 1 = q) (k : V E G q (a0 :: some (.null) :: t) (.null :: st) M) : V E G pc (a0 :: some (.null) :: t) st M := g_aloadNn (i := 1) hG d rfl rfl hq k
theorem v_istore_1 (hG : Gd E j G) {a0 : Option Value} {b : Option Value} {t : List (Option Value)} {x : Int32} (hp : nl a0 = true) (d : decode j.2.1 pc = .ok (.istore_n 1, 1)) (hq : pc + 1 = q) (k : V E G q (a0 :: some (.int x) :: t) st M) : V E G pc (a0 :: b :: t) (.int x :: st) M := g_istoren (i := 1) hG d rfl (by simp) (fun k hk => by have e : k = 0 := (by omega); subst e; exact hp) hq k
theorem v_astore_1 (hG : Gd E j G) {a0 : Option Value} {b : Option Value} {t : List (Option Value)} {x : Nat} (hp : nl a0 = true) (d : decode j.2.1 pc = .ok (.astore_n 1, 1)) (hq : pc + 1 = q) (k : V E G q (a0 :: some (.ref x) :: t) st M) : V E G pc (a0 :: b :: t) (.ref x :: st) M := g_astoren (i := 1) hG d rfl (by simp) (fun k hk => by have e : k = 0 := (by omega); subst e; exact hp) hq k
theorem v_astoreN_1 (hG : Gd E j G) {a0 : Option Value} {b : Option Value} {t : List (Option Value)} (hp : nl a0 = true) (d : decode j.2.1 pc = .ok (.astore_n 1, 1)) (hq : pc + 1 = q) (k : V E G q (a0 :: some (.null) :: t) st M) : V E G pc (a0 :: b :: t) (.null :: st) M := g_astoreNn (i := 1) hG d rfl (by simp) (fun k hk => by have e : k = 0 := (by omega); subst e; exact hp) hq k
theorem v_lstore_1 (hG : Gd E j G) {a0 : Option Value} {b b2 : Option Value} {t : List (Option Value)} {x : Int64} (hp : nl a0 = true) (d : decode j.2.1 pc = .ok (.lstore_n 1, 1)) (hq : pc + 1 = q) (k : V E G q (a0 :: some (.long x) :: none :: t) st M) : V E G pc (a0 :: b :: b2 :: t) (.long x :: st) M := g_lstoren (i := 1) hG d rfl (by simp) (fun k hk => by have e : k = 0 := (by omega); subst e; exact hp) hq k
theorem v_iinc_1 (hG : Gd E j G) {a0 : Option Value} {t : List (Option Value)} {x v : Int32} {n : Int} (hp : nl a0 = true) (d : decode j.2.1 pc = .ok (.iinc 1 n, 3)) (hv : x + Int32.ofInt n = v) (hq : pc + 3 = q) (k : V E G q (a0 :: some (.int v) :: t) st M) : V E G pc (a0 :: some (.int x) :: t) st M := by
  subst hv
  exact g_iinc (i := 1) hG d rfl (fun k hk => by have e : k = 0 := (by omega); subst e; exact hp) hq k
theorem v_iload_2 (hG : Gd E j G) {a0 a1 : Option Value} {t : List (Option Value)} {x : Int32} (d : decode j.2.1 pc = .ok (.iload_n 2, 1)) (hq : pc + 1 = q) (k : V E G q (a0 :: a1 :: some (.int x) :: t) (.int x :: st) M) : V E G pc (a0 :: a1 :: some (.int x) :: t) st M := g_iloadn (i := 2) hG d rfl rfl hq k
theorem v_lload_2 (hG : Gd E j G) {a0 a1 : Option Value} {t : List (Option Value)} {x : Int64} (d : decode j.2.1 pc = .ok (.lload_n 2, 1)) (hq : pc + 1 = q) (k : V E G q (a0 :: a1 :: some (.long x) :: t) (.long x :: st) M) : V E G pc (a0 :: a1 :: some (.long x) :: t) st M := g_lloadn (i := 2) hG d rfl rfl hq k
theorem v_aload_2 (hG : Gd E j G) {a0 a1 : Option Value} {t : List (Option Value)} {x : Nat} (d : decode j.2.1 pc = .ok (.aload_n 2, 1)) (hq : pc + 1 = q) (k : V E G q (a0 :: a1 :: some (.ref x) :: t) (.ref x :: st) M) : V E G pc (a0 :: a1 :: some (.ref x) :: t) st M := g_aloadn (i := 2) hG d rfl rfl hq k
theorem v_aloadN_2 (hG : Gd E j G) {a0 a1 : Option Value} {t : List (Option Value)} (d : decode j.2.1 pc = .ok (.aload_n 2, 1)) (hq : pc + 1 = q) (k : V E G q (a0 :: a1 :: some (.null) :: t) (.null :: st) M) : V E G pc (a0 :: a1 :: some (.null) :: t) st M := g_aloadNn (i := 2) hG d rfl rfl hq k
theorem v_istore_2 (hG : Gd E j G) {a0 a1 : Option Value} {b : Option Value} {t : List (Option Value)} {x : Int32} (hp : nl a1 = true) (d : decode j.2.1 pc = .ok (.istore_n 2, 1)) (hq : pc + 1 = q) (k : V E G q (a0 :: a1 :: some (.int x) :: t) st M) : V E G pc (a0 :: a1 :: b :: t) (.int x :: st) M := g_istoren (i := 2) hG d rfl (by simp) (fun k hk => by have e : k = 1 := (by omega); subst e; exact hp) hq k
theorem v_astore_2 (hG : Gd E j G) {a0 a1 : Option Value} {b : Option Value} {t : List (Option Value)} {x : Nat} (hp : nl a1 = true) (d : decode j.2.1 pc = .ok (.astore_n 2, 1)) (hq : pc + 1 = q) (k : V E G q (a0 :: a1 :: some (.ref x) :: t) st M) : V E G pc (a0 :: a1 :: b :: t) (.ref x :: st) M := g_astoren (i := 2) hG d rfl (by simp) (fun k hk => by have e : k = 1 := (by omega); subst e; exact hp) hq k
theorem v_astoreN_2 (hG : Gd E j G) {a0 a1 : Option Value} {b : Option Value} {t : List (Option Value)} (hp : nl a1 = true) (d : decode j.2.1 pc = .ok (.astore_n 2, 1)) (hq : pc + 1 = q) (k : V E G q (a0 :: a1 :: some (.null) :: t) st M) : V E G pc (a0 :: a1 :: b :: t) (.null :: st) M := g_astoreNn (i := 2) hG d rfl (by simp) (fun k hk => by have e : k = 1 := (by omega); subst e; exact hp) hq k
theorem v_lstore_2 (hG : Gd E j G) {a0 a1 : Option Value} {b b2 : Option Value} {t : List (Option Value)} {x : Int64} (hp : nl a1 = true) (d : decode j.2.1 pc = .ok (.lstore_n 2, 1)) (hq : pc + 1 = q) (k : V E G q (a0 :: a1 :: some (.long x) :: none :: t) st M) : V E G pc (a0 :: a1 :: b :: b2 :: t) (.long x :: st) M := g_lstoren (i := 2) hG d rfl (by simp) (fun k hk => by have e : k = 1 := (by omega); subst e; exact hp) hq k
theorem v_iinc_2 (hG : Gd E j G) {a0 a1 : Option Value} {t : List (Option Value)} {x v : Int32} {n : Int} (hp : nl a1 = true) (d : decode j.2.1 pc = .ok (.iinc 2 n, 3)) (hv : x + Int32.ofInt n = v) (hq : pc + 3 = q) (k : V E G q (a0 :: a1 :: some (.int v) :: t) st M) : V E G pc (a0 :: a1 :: some (.int x) :: t) st M := by
  subst hv
  exact g_iinc (i := 2) hG d rfl (fun k hk => by have e : k = 1 := (by omega); subst e; exact hp) hq k
theorem v_iload_3 (hG : Gd E j G) {a0 a1 a2 : Option Value} {t : List (Option Value)} {x : Int32} (d : decode j.2.1 pc = .ok (.iload_n 3, 1)) (hq : pc + 1 = q) (k : V E G q (a0 :: a1 :: a2 :: some (.int x) :: t) (.int x :: st) M) : V E G pc (a0 :: a1 :: a2 :: some (.int x) :: t) st M := g_iloadn (i := 3) hG d rfl rfl hq k
theorem v_lload_3 (hG : Gd E j G) {a0 a1 a2 : Option Value} {t : List (Option Value)} {x : Int64} (d : decode j.2.1 pc = .ok (.lload_n 3, 1)) (hq : pc + 1 = q) (k : V E G q (a0 :: a1 :: a2 :: some (.long x) :: t) (.long x :: st) M) : V E G pc (a0 :: a1 :: a2 :: some (.long x) :: t) st M := g_lloadn (i := 3) hG d rfl rfl hq k
theorem v_aload_3 (hG : Gd E j G) {a0 a1 a2 : Option Value} {t : List (Option Value)} {x : Nat} (d : decode j.2.1 pc = .ok (.aload_n 3, 1)) (hq : pc + 1 = q) (k : V E G q (a0 :: a1 :: a2 :: some (.ref x) :: t) (.ref x :: st) M) : V E G pc (a0 :: a1 :: a2 :: some (.ref x) :: t) st M := g_aloadn (i := 3) hG d rfl rfl hq k
theorem v_aloadN_3 (hG : Gd E j G) {a0 a1 a2 : Option Value} {t : List (Option Value)} (d : decode j.2.1 pc = .ok (.aload_n 3, 1)) (hq : pc + 1 = q) (k : V E G q (a0 :: a1 :: a2 :: some (.null) :: t) (.null :: st) M) : V E G pc (a0 :: a1 :: a2 :: some (.null) :: t) st M := g_aloadNn (i := 3) hG d rfl rfl hq k
theorem v_istore_3 (hG : Gd E j G) {a0 a1 a2 : Option Value} {b : Option Value} {t : List (Option Value)} {x : Int32} (hp : nl a2 = true) (d : decode j.2.1 pc = .ok (.istore_n 3, 1)) (hq : pc + 1 = q) (k : V E G q (a0 :: a1 :: a2 :: some (.int x) :: t) st M) : V E G pc (a0 :: a1 :: a2 :: b :: t) (.int x :: st) M := g_istoren (i := 3) hG d rfl (by simp) (fun k hk => by have e : k = 2 := (by omega); subst e; exact hp) hq k
theorem v_astore_3 (hG : Gd E j G) {a0 a1 a2 : Option Value} {b : Option Value} {t : List (Option Value)} {x : Nat} (hp : nl a2 = true) (d : decode j.2.1 pc = .ok (.astore_n 3, 1)) (hq : pc + 1 = q) (k : V E G q (a0 :: a1 :: a2 :: some (.ref x) :: t) st M) : V E G pc (a0 :: a1 :: a2 :: b :: t) (.ref x :: st) M := g_astoren (i := 3) hG d rfl (by simp) (fun k hk => by have e : k = 2 := (by omega); subst e; exact hp) hq k
theorem v_astoreN_3 (hG : Gd E j G) {a0 a1 a2 : Option Value} {b : Option Value} {t : List (Option Value)} (hp : nl a2 = true) (d : decode j.2.1 pc = .ok (.astore_n 3, 1)) (hq : pc + 1 = q) (k : V E G q (a0 :: a1 :: a2 :: some (.null) :: t) st M) : V E G pc (a0 :: a1 :: a2 :: b :: t) (.null :: st) M := g_astoreNn (i := 3) hG d rfl (by simp) (fun k hk => by have e : k = 2 := (by omega); subst e; exact hp) hq k
theorem v_lstore_3 (hG : Gd E j G) {a0 a1 a2 : Option Value} {b b2 : Option Value} {t : List (Option Value)} {x : Int64} (hp : nl a2 = true) (d : decode j.2.1 pc = .ok (.lstore_n 3, 1)) (hq : pc + 1 = q) (k : V E G q (a0 :: a1 :: a2 :: some (.long x) :: none :: t) st M) : V E G pc (a0 :: a1 :: a2 :: b :: b2 :: t) (.long x :: st) M := g_lstoren (i := 3) hG d rfl (by simp) (fun k hk => by have e : k = 2 := (by omega); subst e; exact hp) hq k
theorem v_iinc_3 (hG : Gd E j G) {a0 a1 a2 : Option Value} {t : List (Option Value)} {x v : Int32} {n : Int} (hp : nl a2 = true) (d : decode j.2.1 pc = .ok (.iinc 3 n, 3)) (hv : x + Int32.ofInt n = v) (hq : pc + 3 = q) (k : V E G q (a0 :: a1 :: a2 :: some (.int v) :: t) st M) : V E G pc (a0 :: a1 :: a2 :: some (.int x) :: t) st M := by
  subst hv
  exact g_iinc (i := 3) hG d rfl (fun k hk => by have e : k = 2 := (by omega); subst e; exact hp) hq k
theorem v_iload_4 (hG : Gd E j G) {a0 a1 a2 a3 : Option Value} {t : List (Option Value)} {x : Int32} (d : decode j.2.1 pc = .ok (.iload 4, 2)) (hq : pc + 2 = q) (k : V E G q (a0 :: a1 :: a2 :: a3 :: some (.int x) :: t) (.int x :: st) M) : V E G pc (a0 :: a1 :: a2 :: a3 :: some (.int x) :: t) st M := g_iload (i := 4) hG d rfl hq k
theorem v_lload_4 (hG : Gd E j G) {a0 a1 a2 a3 : Option Value} {t : List (Option Value)} {x : Int64} (d : decode j.2.1 pc = .ok (.lload 4, 2)) (hq : pc + 2 = q) (k : V E G q (a0 :: a1 :: a2 :: a3 :: some (.long x) :: t) (.long x :: st) M) : V E G pc (a0 :: a1 :: a2 :: a3 :: some (.long x) :: t) st M := g_lload (i := 4) hG d rfl hq k
theorem v_aload_4 (hG : Gd E j G) {a0 a1 a2 a3 : Option Value} {t : List (Option Value)} {x : Nat} (d : decode j.2.1 pc = .ok (.aload 4, 2)) (hq : pc + 2 = q) (k : V E G q (a0 :: a1 :: a2 :: a3 :: some (.ref x) :: t) (.ref x :: st) M) : V E G pc (a0 :: a1 :: a2 :: a3 :: some (.ref x) :: t) st M := g_aload (i := 4) hG d rfl hq k
theorem v_aloadN_4 (hG : Gd E j G) {a0 a1 a2 a3 : Option Value} {t : List (Option Value)} (d : decode j.2.1 pc = .ok (.aload 4, 2)) (hq : pc + 2 = q) (k : V E G q (a0 :: a1 :: a2 :: a3 :: some (.null) :: t) (.null :: st) M) : V E G pc (a0 :: a1 :: a2 :: a3 :: some (.null) :: t) st M := g_aloadN (i := 4) hG d rfl hq k
theorem v_istore_4 (hG : Gd E j G) {a0 a1 a2 a3 : Option Value} {b : Option Value} {t : List (Option Value)} {x : Int32} (hp : nl a3 = true) (d : decode j.2.1 pc = .ok (.istore 4, 2)) (hq : pc + 2 = q) (k : V E G q (a0 :: a1 :: a2 :: a3 :: some (.int x) :: t) st M) : V E G pc (a0 :: a1 :: a2 :: a3 :: b :: t) (.int x :: st) M := g_istore (i := 4) hG d (by simp) (fun k hk => by have e : k = 3 := (by omega); subst e; exact hp) hq k
theorem v_astore_4 (hG : Gd E j G) {a0 a1 a2 a3 : Option Value} {b : Option Value} {t : List (Option Value)} {x : Nat} (hp : nl a3 = true) (d : decode j.2.1 pc = .ok (.astore 4, 2)) (hq : pc + 2 = q) (k : V E G q (a0 :: a1 :: a2 :: a3 :: some (.ref x) :: t) st M) : V E G pc (a0 :: a1 :: a2 :: a3 :: b :: t) (.ref x :: st) M := g_astore (i := 4) hG d (by simp) (fun k hk => by have e : k = 3 := (by omega); subst e; exact hp) hq k
theorem v_astoreN_4 (hG : Gd E j G) {a0 a1 a2 a3 : Option Value} {b : Option Value} {t : List (Option Value)} (hp : nl a3 = true) (d : decode j.2.1 pc = .ok (.astore 4, 2)) (hq : pc + 2 = q) (k : V E G q (a0 :: a1 :: a2 :: a3 :: some (.null) :: t) st M) : V E G pc (a0 :: a1 :: a2 :: a3 :: b :: t) (.null :: st) M := g_astoreN (i := 4) hG d (by simp) (fun k hk => by have e : k = 3 := (by omega); subst e; exact hp) hq k
theorem v_lstore_4 (hG : Gd E j G) {a0 a1 a2 a3 : Option Value} {b b2 : Option Value} {t : List (Option Value)} {x : Int64} (hp : nl a3 = true) (d : decode j.2.1 pc = .ok (.lstore 4, 2)) (hq : pc + 2 = q) (k : V E G q (a0 :: a1 :: a2 :: a3 :: some (.long x) :: none :: t) st M) : V E G pc (a0 :: a1 :: a2 :: a3 :: b :: b2 :: t) (.long x :: st) M := g_lstore (i := 4) hG d (by simp) (fun k hk => by have e : k = 3 := (by omega); subst e; exact hp) hq k
theorem v_iinc_4 (hG : Gd E j G) {a0 a1 a2 a3 : Option Value} {t : List (Option Value)} {x v : Int32} {n : Int} (hp : nl a3 = true) (d : decode j.2.1 pc = .ok (.iinc 4 n, 3)) (hv : x + Int32.ofInt n = v) (hq : pc + 3 = q) (k : V E G q (a0 :: a1 :: a2 :: a3 :: some (.int v) :: t) st M) : V E G pc (a0 :: a1 :: a2 :: a3 :: some (.int x) :: t) st M := by
  subst hv
  exact g_iinc (i := 4) hG d rfl (fun k hk => by have e : k = 3 := (by omega); subst e; exact hp) hq k
theorem v_iload_5 (hG : Gd E j G) {a0 a1 a2 a3 a4 : Option Value} {t : List (Option Value)} {x : Int32} (d : decode j.2.1 pc = .ok (.iload 5, 2)) (hq : pc + 2 = q) (k : V E G q (a0 :: a1 :: a2 :: a3 :: a4 :: some (.int x) :: t) (.int x :: st) M) : V E G pc (a0 :: a1 :: a2 :: a3 :: a4 :: some (.int x) :: t) st M := g_iload (i := 5) hG d rfl hq k
theorem v_lload_5 (hG : Gd E j G) {a0 a1 a2 a3 a4 : Option Value} {t : List (Option Value)} {x : Int64} (d : decode j.2.1 pc = .ok (.lload 5, 2)) (hq : pc + 2 = q) (k : V E G q (a0 :: a1 :: a2 :: a3 :: a4 :: some (.long x) :: t) (.long x :: st) M) : V E G pc (a0 :: a1 :: a2 :: a3 :: a4 :: some (.long x) :: t) st M := g_lload (i := 5) hG d rfl hq k
theorem v_aload_5 (hG : Gd E j G) {a0 a1 a2 a3 a4 : Option Value} {t : List (Option Value)} {x : Nat} (d : decode j.2.1 pc = .ok (.aload 5, 2)) (hq : pc + 2 = q) (k : V E G q (a0 :: a1 :: a2 :: a3 :: a4 :: some (.ref x) :: t) (.ref x :: st) M) : V E G pc (a0 :: a1 :: a2 :: a3 :: a4 :: some (.ref x) :: t) st M := g_aload (i := 5) hG d rfl hq k
theorem v_aloadN_5 (hG : Gd E j G) {a0 a1 a2 a3 a4 : Option Value} {t : List (Option Value)} (d : decode j.2.1 pc = .ok (.aload 5, 2)) (hq : pc + 2 = q) (k : V E G q (a0 :: a1 :: a2 :: a3 :: a4 :: some (.null) :: t) (.null :: st) M) : V E G pc (a0 :: a1 :: a2 :: a3 :: a4 :: some (.null) :: t) st M := g_aloadN (i := 5) hG d rfl hq k
theorem v_istore_5 (hG : Gd E j G) {a0 a1 a2 a3 a4 : Option Value} {b : Option Value} {t : List (Option Value)} {x : Int32} (hp : nl a4 = true) (d : decode j.2.1 pc = .ok (.istore 5, 2)) (hq : pc + 2 = q) (k : V E G q (a0 :: a1 :: a2 :: a3 :: a4 :: some (.int x) :: t) st M) : V E G pc (a0 :: a1 :: a2 :: a3 :: a4 :: b :: t) (.int x :: st) M := g_istore (i := 5) hG d (by simp) (fun k hk => by have e : k = 4 := (by omega); subst e; exact hp) hq k
theorem v_astore_5 (hG : Gd E j G) {a0 a1 a2 a3 a4 : Option Value} {b : Option Value} {t : List (Option Value)} {x : Nat} (hp : nl a4 = true) (d : decode j.2.1 pc = .ok (.astore 5, 2)) (hq : pc + 2 = q) (k : V E G q (a0 :: a1 :: a2 :: a3 :: a4 :: some (.ref x) :: t) st M) : V E G pc (a0 :: a1 :: a2 :: a3 :: a4 :: b :: t) (.ref x :: st) M := g_astore (i := 5) hG d (by simp) (fun k hk => by have e : k = 4 := (by omega); subst e; exact hp) hq k
theorem v_astoreN_5 (hG : Gd E j G) {a0 a1 a2 a3 a4 : Option Value} {b : Option Value} {t : List (Option Value)} (hp : nl a4 = true) (d : decode j.2.1 pc = .ok (.astore 5, 2)) (hq : pc + 2 = q) (k : V E G q (a0 :: a1 :: a2 :: a3 :: a4 :: some (.null) :: t) st M) : V E G pc (a0 :: a1 :: a2 :: a3 :: a4 :: b :: t) (.null :: st) M := g_astoreN (i := 5) hG d (by simp) (fun k hk => by have e : k = 4 := (by omega); subst e; exact hp) hq k
theorem v_lstore_5 (hG : Gd E j G) {a0 a1 a2 a3 a4 : Option Value} {b b2 : Option Value} {t : List (Option Value)} {x : Int64} (hp : nl a4 = true) (d : decode j.2.1 pc = .ok (.lstore 5, 2)) (hq : pc + 2 = q) (k : V E G q (a0 :: a1 :: a2 :: a3 :: a4 :: some (.long x) :: none :: t) st M) : V E G pc (a0 :: a1 :: a2 :: a3 :: a4 :: b :: b2 :: t) (.long x :: st) M := g_lstore (i := 5) hG d (by simp) (fun k hk => by have e : k = 4 := (by omega); subst e; exact hp) hq k
theorem v_iinc_5 (hG : Gd E j G) {a0 a1 a2 a3 a4 : Option Value} {t : List (Option Value)} {x v : Int32} {n : Int} (hp : nl a4 = true) (d : decode j.2.1 pc = .ok (.iinc 5 n, 3)) (hv : x + Int32.ofInt n = v) (hq : pc + 3 = q) (k : V E G q (a0 :: a1 :: a2 :: a3 :: a4 :: some (.int v) :: t) st M) : V E G pc (a0 :: a1 :: a2 :: a3 :: a4 :: some (.int x) :: t) st M := by
  subst hv
  exact g_iinc (i := 5) hG d rfl (fun k hk => by have e : k = 4 := (by omega); subst e; exact hp) hq k
theorem v_iload_6 (hG : Gd E j G) {a0 a1 a2 a3 a4 a5 : Option Value} {t : List (Option Value)} {x : Int32} (d : decode j.2.1 pc = .ok (.iload 6, 2)) (hq : pc + 2 = q) (k : V E G q (a0 :: a1 :: a2 :: a3 :: a4 :: a5 :: some (.int x) :: t) (.int x :: st) M) : V E G pc (a0 :: a1 :: a2 :: a3 :: a4 :: a5 :: some (.int x) :: t) st M := g_iload (i := 6) hG d rfl hq k
theorem v_lload_6 (hG : Gd E j G) {a0 a1 a2 a3 a4 a5 : Option Value} {t : List (Option Value)} {x : Int64} (d : decode j.2.1 pc = .ok (.lload 6, 2)) (hq : pc + 2 = q) (k : V E G q (a0 :: a1 :: a2 :: a3 :: a4 :: a5 :: some (.long x) :: t) (.long x :: st) M) : V E G pc (a0 :: a1 :: a2 :: a3 :: a4 :: a5 :: some (.long x) :: t) st M := g_lload (i := 6) hG d rfl hq k
theorem v_aload_6 (hG : Gd E j G) {a0 a1 a2 a3 a4 a5 : Option Value} {t : List (Option Value)} {x : Nat} (d : decode j.2.1 pc = .ok (.aload 6, 2)) (hq : pc + 2 = q) (k : V E G q (a0 :: a1 :: a2 :: a3 :: a4 :: a5 :: some (.ref x) :: t) (.ref x :: st) M) : V E G pc (a0 :: a1 :: a2 :: a3 :: a4 :: a5 :: some (.ref x) :: t) st M := g_aload (i := 6) hG d rfl hq k
theorem v_aloadN_6 (hG : Gd E j G) {a0 a1 a2 a3 a4 a5 : Option Value} {t : List (Option Value)} (d : decode j.2.1 pc = .ok (.aload 6, 2)) (hq : pc + 2 = q) (k : V E G q (a0 :: a1 :: a2 :: a3 :: a4 :: a5 :: some (.null) :: t) (.null :: st) M) : V E G pc (a0 :: a1 :: a2 :: a3 :: a4 :: a5 :: some (.null) :: t) st M := g_aloadN (i := 6) hG d rfl hq k
theorem v_istore_6 (hG : Gd E j G) {a0 a1 a2 a3 a4 a5 : Option Value} {b : Option Value} {t : List (Option Value)} {x : Int32} (hp : nl a5 = true) (d : decode j.2.1 pc = .ok (.istore 6, 2)) (hq : pc + 2 = q) (k : V E G q (a0 :: a1 :: a2 :: a3 :: a4 :: a5 :: some (.int x) :: t) st M) : V E G pc (a0 :: a1 :: a2 :: a3 :: a4 :: a5 :: b :: t) (.int x :: st) M := g_istore (i := 6) hG d (by simp) (fun k hk => by have e : k = 5 := (by omega); subst e; exact hp) hq k
theorem v_astore_6 (hG : Gd E j G) {a0 a1 a2 a3 a4 a5 : Option Value} {b : Option Value} {t : List (Option Value)} {x : Nat} (hp : nl a5 = true) (d : decode j.2.1 pc = .ok (.astore 6, 2)) (hq : pc + 2 = q) (k : V E G q (a0 :: a1 :: a2 :: a3 :: a4 :: a5 :: some (.ref x) :: t) st M) : V E G pc (a0 :: a1 :: a2 :: a3 :: a4 :: a5 :: b :: t) (.ref x :: st) M := g_astore (i := 6) hG d (by simp) (fun k hk => by have e : k = 5 := (by omega); subst e; exact hp) hq k
theorem v_astoreN_6 (hG : Gd E j G) {a0 a1 a2 a3 a4 a5 : Option Value} {b : Option Value} {t : List (Option Value)} (hp : nl a5 = true) (d : decode j.2.1 pc = .ok (.astore 6, 2)) (hq : pc + 2 = q) (k : V E G q (a0 :: a1 :: a2 :: a3 :: a4 :: a5 :: some (.null) :: t) st M) : V E G pc (a0 :: a1 :: a2 :: a3 :: a4 :: a5 :: b :: t) (.null :: st) M := g_astoreN (i := 6) hG d (by simp) (fun k hk => by have e : k = 5 := (by omega); subst e; exact hp) hq k
theorem v_iinc_6 (hG : Gd E j G) {a0 a1 a2 a3 a4 a5 : Option Value} {t : List (Option Value)} {x v : Int32} {n : Int} (hp : nl a5 = true) (d : decode j.2.1 pc = .ok (.iinc 6 n, 3)) (hv : x + Int32.ofInt n = v) (hq : pc + 3 = q) (k : V E G q (a0 :: a1 :: a2 :: a3 :: a4 :: a5 :: some (.int v) :: t) st M) : V E G pc (a0 :: a1 :: a2 :: a3 :: a4 :: a5 :: some (.int x) :: t) st M := by
  subst hv
  exact g_iinc (i := 6) hG d rfl (fun k hk => by have e : k = 5 := (by omega); subst e; exact hp) hq k
theorem v_iload_7 (hG : Gd E j G) {a0 a1 a2 a3 a4 a5 a6 : Option Value} {t : List (Option Value)} {x : Int32} (d : decode j.2.1 pc = .ok (.iload 7, 2)) (hq : pc + 2 = q) (k : V E G q (a0 :: a1 :: a2 :: a3 :: a4 :: a5 :: a6 :: some (.int x) :: t) (.int x :: st) M) : V E G pc (a0 :: a1 :: a2 :: a3 :: a4 :: a5 :: a6 :: some (.int x) :: t) st M := g_iload (i := 7) hG d rfl hq k
theorem v_lload_7 (hG : Gd E j G) {a0 a1 a2 a3 a4 a5 a6 : Option Value} {t : List (Option Value)} {x : Int64} (d : decode j.2.1 pc = .ok (.lload 7, 2)) (hq : pc + 2 = q) (k : V E G q (a0 :: a1 :: a2 :: a3 :: a4 :: a5 :: a6 :: some (.long x) :: t) (.long x :: st) M) : V E G pc (a0 :: a1 :: a2 :: a3 :: a4 :: a5 :: a6 :: some (.long x) :: t) st M := g_lload (i := 7) hG d rfl hq k
theorem v_aload_7 (hG : Gd E j G) {a0 a1 a2 a3 a4 a5 a6 : Option Value} {t : List (Option Value)} {x : Nat} (d : decode j.2.1 pc = .ok (.aload 7, 2)) (hq : pc + 2 = q) (k : V E G q (a0 :: a1 :: a2 :: a3 :: a4 :: a5 :: a6 :: some (.ref x) :: t) (.ref x :: st) M) : V E G pc (a0 :: a1 :: a2 :: a3 :: a4 :: a5 :: a6 :: some (.ref x) :: t) st M := g_aload (i := 7) hG d rfl hq k
theorem v_aloadN_7 (hG : Gd E j G) {a0 a1 a2 a3 a4 a5 a6 : Option Value} {t : List (Option Value)} (d : decode j.2.1 pc = .ok (.aload 7, 2)) (hq : pc + 2 = q) (k : V E G q (a0 :: a1 :: a2 :: a3 :: a4 :: a5 :: a6 :: some (.null) :: t) (.null :: st) M) : V E G pc (a0 :: a1 :: a2 :: a3 :: a4 :: a5 :: a6 :: some (.null) :: t) st M := g_aloadN (i := 7) hG d rfl hq k
theorem v_istore_7 (hG : Gd E j G) {a0 a1 a2 a3 a4 a5 a6 : Option Value} {b : Option Value} {t : List (Option Value)} {x : Int32} (hp : nl a6 = true) (d : decode j.2.1 pc = .ok (.istore 7, 2)) (hq : pc + 2 = q) (k : V E G q (a0 :: a1 :: a2 :: a3 :: a4 :: a5 :: a6 :: some (.int x) :: t) st M) : V E G pc (a0 :: a1 :: a2 :: a3 :: a4 :: a5 :: a6 :: b :: t) (.int x :: st) M := g_istore (i := 7) hG d (by simp) (fun k hk => by have e : k = 6 := (by omega); subst e; exact hp) hq k
theorem v_astore_7 (hG : Gd E j G) {a0 a1 a2 a3 a4 a5 a6 : Option Value} {b : Option Value} {t : List (Option Value)} {x : Nat} (hp : nl a6 = true) (d : decode j.2.1 pc = .ok (.astore 7, 2)) (hq : pc + 2 = q) (k : V E G q (a0 :: a1 :: a2 :: a3 :: a4 :: a5 :: a6 :: some (.ref x) :: t) st M) : V E G pc (a0 :: a1 :: a2 :: a3 :: a4 :: a5 :: a6 :: b :: t) (.ref x :: st) M := g_astore (i := 7) hG d (by simp) (fun k hk => by have e : k = 6 := (by omega); subst e; exact hp) hq k
theorem v_astoreN_7 (hG : Gd E j G) {a0 a1 a2 a3 a4 a5 a6 : Option Value} {b : Option Value} {t : List (Option Value)} (hp : nl a6 = true) (d : decode j.2.1 pc = .ok (.astore 7, 2)) (hq : pc + 2 = q) (k : V E G q (a0 :: a1 :: a2 :: a3 :: a4 :: a5 :: a6 :: some (.null) :: t) st M) : V E G pc (a0 :: a1 :: a2 :: a3 :: a4 :: a5 :: a6 :: b :: t) (.null :: st) M := g_astoreN (i := 7) hG d (by simp) (fun k hk => by have e : k = 6 := (by omega); subst e; exact hp) hq k
theorem v_iinc_7 (hG : Gd E j G) {a0 a1 a2 a3 a4 a5 a6 : Option Value} {t : List (Option Value)} {x v : Int32} {n : Int} (hp : nl a6 = true) (d : decode j.2.1 pc = .ok (.iinc 7 n, 3)) (hv : x + Int32.ofInt n = v) (hq : pc + 3 = q) (k : V E G q (a0 :: a1 :: a2 :: a3 :: a4 :: a5 :: a6 :: some (.int v) :: t) st M) : V E G pc (a0 :: a1 :: a2 :: a3 :: a4 :: a5 :: a6 :: some (.int x) :: t) st M := by
  subst hv
  exact g_iinc (i := 7) hG d rfl (fun k hk => by have e : k = 6 := (by omega); subst e; exact hp) hq k
theorem v_iload_8 (hG : Gd E j G) {a0 a1 a2 a3 a4 a5 a6 a7 : Option Value} {t : List (Option Value)} {x : Int32} (d : decode j.2.1 pc = .ok (.iload 8, 2)) (hq : pc + 2 = q) (k : V E G q (a0 :: a1 :: a2 :: a3 :: a4 :: a5 :: a6 :: a7 :: some (.int x) :: t) (.int x :: st) M) : V E G pc (a0 :: a1 :: a2 :: a3 :: a4 :: a5 :: a6 :: a7 :: some (.int x) :: t) st M := g_iload (i := 8) hG d rfl hq k
theorem v_lload_8 (hG : Gd E j G) {a0 a1 a2 a3 a4 a5 a6 a7 : Option Value} {t : List (Option Value)} {x : Int64} (d : decode j.2.1 pc = .ok (.lload 8, 2)) (hq : pc + 2 = q) (k : V E G q (a0 :: a1 :: a2 :: a3 :: a4 :: a5 :: a6 :: a7 :: some (.long x) :: t) (.long x :: st) M) : V E G pc (a0 :: a1 :: a2 :: a3 :: a4 :: a5 :: a6 :: a7 :: some (.long x) :: t) st M := g_lload (i := 8) hG d rfl hq k
theorem v_aload_8 (hG : Gd E j G) {a0 a1 a2 a3 a4 a5 a6 a7 : Option Value} {t : List (Option Value)} {x : Nat} (d : decode j.2.1 pc = .ok (.aload 8, 2)) (hq : pc + 2 = q) (k : V E G q (a0 :: a1 :: a2 :: a3 :: a4 :: a5 :: a6 :: a7 :: some (.ref x) :: t) (.ref x :: st) M) : V E G pc (a0 :: a1 :: a2 :: a3 :: a4 :: a5 :: a6 :: a7 :: some (.ref x) :: t) st M := g_aload (i := 8) hG d rfl hq k
theorem v_aloadN_8 (hG : Gd E j G) {a0 a1 a2 a3 a4 a5 a6 a7 : Option Value} {t : List (Option Value)} (d : decode j.2.1 pc = .ok (.aload 8, 2)) (hq : pc + 2 = q) (k : V E G q (a0 :: a1 :: a2 :: a3 :: a4 :: a5 :: a6 :: a7 :: some (.null) :: t) (.null :: st) M) : V E G pc (a0 :: a1 :: a2 :: a3 :: a4 :: a5 :: a6 :: a7 :: some (.null) :: t) st M := g_aloadN (i := 8) hG d rfl hq k
theorem v_istore_8 (hG : Gd E j G) {a0 a1 a2 a3 a4 a5 a6 a7 : Option Value} {b : Option Value} {t : List (Option Value)} {x : Int32} (hp : nl a7 = true) (d : decode j.2.1 pc = .ok (.istore 8, 2)) (hq : pc + 2 = q) (k : V E G q (a0 :: a1 :: a2 :: a3 :: a4 :: a5 :: a6 :: a7 :: some (.int x) :: t) st M) : V E G pc (a0 :: a1 :: a2 :: a3 :: a4 :: a5 :: a6 :: a7 :: b :: t) (.int x :: st) M := g_istore (i := 8) hG d (by simp) (fun k hk => by have e : k = 7 := (by omega); subst e; exact hp) hq k
theorem v_astore_8 (hG : Gd E j G) {a0 a1 a2 a3 a4 a5 a6 a7 : Option Value} {b : Option Value} {t : List (Option Value)} {x : Nat} (hp : nl a7 = true) (d : decode j.2.1 pc = .ok (.astore 8, 2)) (hq : pc + 2 = q) (k : V E G q (a0 :: a1 :: a2 :: a3 :: a4 :: a5 :: a6 :: a7 :: some (.ref x) :: t) st M) : V E G pc (a0 :: a1 :: a2 :: a3 :: a4 :: a5 :: a6 :: a7 :: b :: t) (.ref x :: st) M := g_astore (i := 8) hG d (by simp) (fun k hk => by have e : k = 7 := (by omega); subst e; exact hp) hq k
theorem v_astoreN_8 (hG : Gd E j G) {a0 a1 a2 a3 a4 a5 a6 a7 : Option Value} {b : Option Value} {t : List (Option Value)} (hp : nl a7 = true) (d : decode j.2.1 pc = .ok (.astore 8, 2)) (hq : pc + 2 = q) (k : V E G q (a0 :: a1 :: a2 :: a3 :: a4 :: a5 :: a6 :: a7 :: some (.null) :: t) st M) : V E G pc (a0 :: a1 :: a2 :: a3 :: a4 :: a5 :: a6 :: a7 :: b :: t) (.null :: st) M := g_astoreN (i := 8) hG d (by simp) (fun k hk => by have e : k = 7 := (by omega); subst e; exact hp) hq k
theorem v_iinc_8 (hG : Gd E j G) {a0 a1 a2 a3 a4 a5 a6 a7 : Option Value} {t : List (Option Value)} {x v : Int32} {n : Int} (hp : nl a7 = true) (d : decode j.2.1 pc = .ok (.iinc 8 n, 3)) (hv : x + Int32.ofInt n = v) (hq : pc + 3 = q) (k : V E G q (a0 :: a1 :: a2 :: a3 :: a4 :: a5 :: a6 :: a7 :: some (.int v) :: t) st M) : V E G pc (a0 :: a1 :: a2 :: a3 :: a4 :: a5 :: a6 :: a7 :: some (.int x) :: t) st M := by
  subst hv
  exact g_iinc (i := 8) hG d rfl (fun k hk => by have e : k = 7 := (by omega); subst e; exact hp) hq k
theorem v_iload_9 (hG : Gd E j G) {a0 a1 a2 a3 a4 a5 a6 a7 a8 : Option Value} {t : List (Option Value)} {x : Int32} (d : decode j.2.1 pc = .ok (.iload 9, 2)) (hq : pc + 2 = q) (k : V E G q (a0 :: a1 :: a2 :: a3 :: a4 :: a5 :: a6 :: a7 :: a8 :: some (.int x) :: t) (.int x :: st) M) : V E G pc (a0 :: a1 :: a2 :: a3 :: a4 :: a5 :: a6 :: a7 :: a8 :: some (.int x) :: t) st M := g_iload (i := 9) hG d rfl hq k
theorem v_lload_9 (hG : Gd E j G) {a0 a1 a2 a3 a4 a5 a6 a7 a8 : Option Value} {t : List (Option Value)} {x : Int64} (d : decode j.2.1 pc = .ok (.lload 9, 2)) (hq : pc + 2 = q) (k : V E G q (a0 :: a1 :: a2 :: a3 :: a4 :: a5 :: a6 :: a7 :: a8 :: some (.long x) :: t) (.long x :: st) M) : V E G pc (a0 :: a1 :: a2 :: a3 :: a4 :: a5 :: a6 :: a7 :: a8 :: some (.long x) :: t) st M := g_lload (i := 9) hG d rfl hq k
theorem v_aload_9 (hG : Gd E j G) {a0 a1 a2 a3 a4 a5 a6 a7 a8 : Option Value} {t : List (Option Value)} {x : Nat} (d : decode j.2.1 pc = .ok (.aload 9, 2)) (hq : pc + 2 = q) (k : V E G q (a0 :: a1 :: a2 :: a3 :: a4 :: a5 :: a6 :: a7 :: a8 :: some (.ref x) :: t) (.ref x :: st) M) : V E G pc (a0 :: a1 :: a2 :: a3 :: a4 :: a5 :: a6 :: a7 :: a8 :: some (.ref x) :: t) st M := g_aload (i := 9) hG d rfl hq k
theorem v_aloadN_9 (hG : Gd E j G) {a0 a1 a2 a3 a4 a5 a6 a7 a8 : Option Value} {t : List (Option Value)} (d : decode j.2.1 pc = .ok (.aload 9, 2)) (hq : pc + 2 = q) (k : V E G q (a0 :: a1 :: a2 :: a3 :: a4 :: a5 :: a6 :: a7 :: a8 :: some (.null) :: t) (.null :: st) M) : V E G pc (a0 :: a1 :: a2 :: a3 :: a4 :: a5 :: a6 :: a7 :: a8 :: some (.null) :: t) st M := g_aloadN (i := 9) hG d rfl hq k
theorem v_istore_9 (hG : Gd E j G) {a0 a1 a2 a3 a4 a5 a6 a7 a8 : Option Value} {b : Option Value} {t : List (Option Value)} {x : Int32} (hp : nl a8 = true) (d : decode j.2.1 pc = .ok (.istore 9, 2)) (hq : pc + 2 = q) (k : V E G q (a0 :: a1 :: a2 :: a3 :: a4 :: a5 :: a6 :: a7 :: a8 :: some (.int x) :: t) st M) : V E G pc (a0 :: a1 :: a2 :: a3 :: a4 :: a5 :: a6 :: a7 :: a8 :: b :: t) (.int x :: st) M := g_istore (i := 9) hG d (by simp) (fun k hk => by have e : k = 8 := (by omega); subst e; exact hp) hq k
theorem v_astore_9 (hG : Gd E j G) {a0 a1 a2 a3 a4 a5 a6 a7 a8 : Option Value} {b : Option Value} {t : List (Option Value)} {x : Nat} (hp : nl a8 = true) (d : decode j.2.1 pc = .ok (.astore 9, 2)) (hq : pc + 2 = q) (k : V E G q (a0 :: a1 :: a2 :: a3 :: a4 :: a5 :: a6 :: a7 :: a8 :: some (.ref x) :: t) st M) : V E G pc (a0 :: a1 :: a2 :: a3 :: a4 :: a5 :: a6 :: a7 :: a8 :: b :: t) (.ref x :: st) M := g_astore (i := 9) hG d (by simp) (fun k hk => by have e : k = 8 := (by omega); subst e; exact hp) hq k
theorem v_astoreN_9 (hG : Gd E j G) {a0 a1 a2 a3 a4 a5 a6 a7 a8 : Option Value} {b : Option Value} {t : List (Option Value)} (hp : nl a8 = true) (d : decode j.2.1 pc = .ok (.astore 9, 2)) (hq : pc + 2 = q) (k : V E G q (a0 :: a1 :: a2 :: a3 :: a4 :: a5 :: a6 :: a7 :: a8 :: some (.null) :: t) st M) : V E G pc (a0 :: a1 :: a2 :: a3 :: a4 :: a5 :: a6 :: a7 :: a8 :: b :: t) (.null :: st) M := g_astoreN (i := 9) hG d (by simp) (fun k hk => by have e : k = 8 := (by omega); subst e; exact hp) hq k
theorem v_iinc_9 (hG : Gd E j G) {a0 a1 a2 a3 a4 a5 a6 a7 a8 : Option Value} {t : List (Option Value)} {x v : Int32} {n : Int} (hp : nl a8 = true) (d : decode j.2.1 pc = .ok (.iinc 9 n, 3)) (hv : x + Int32.ofInt n = v) (hq : pc + 3 = q) (k : V E G q (a0 :: a1 :: a2 :: a3 :: a4 :: a5 :: a6 :: a7 :: a8 :: some (.int v) :: t) st M) : V E G pc (a0 :: a1 :: a2 :: a3 :: a4 :: a5 :: a6 :: a7 :: a8 :: some (.int x) :: t) st M := by
  subst hv
  exact g_iinc (i := 9) hG d rfl (fun k hk => by have e : k = 8 := (by omega); subst e; exact hp) hq k
end ENG

def cpOK (sp dp n : Int32) (n0 n1 : Nat) : Prop := ¬ sp < 0 ∧ ¬ dp < 0 ∧ ¬ n < 0 ∧ ix sp + ix n ≤ n0 ∧ ix dp + ix n ≤ n1
def cpM (M : Mem) (a : Nat) (sp : Int32) (b : Nat) (dp n : Int32) : Mem := fun k => if k = b then va_cpy (M a) (M b) (ix sp) (ix dp) (ix n) else M k
def mnI (x y : Int32) : Int32 := if y < x then y else x
def slI (k : Nat) : Int32 := nI (slen.getD k 0)
def scI (k : Nat) (x : Int32) : Int32 := (sbyt.getD k []).getD (ix x) 0
theorem sw_ne {x : Int32} {n : Nat} (h : ¬ x = OfNat.ofNat n) (hn : n < 2 ^ 31 := by decide) : x.toInt ≠ n := by
  intro e
  apply h
  apply Int32.toInt_inj.mp
  rw [e]
  exact (nI_toInt hn).symm
theorem sw_lk {x : Int32} (h0 : ¬ x = 0) (h4 : ¬ x = 4) : Op.lookupswitch.offset (#[((0 : Int), (27 : Int)), (4, 37)] : Array (Int × Int)).toList 47 x.toInt = 47 := (lv_osw h0 (by decide)).trans ((lv_osw h4 (by decide)).trans rfl)
theorem sl31 : ∀ k, k < 16 → slen.getD k 0 < 2 ^ 31 := by decide

theorem up_upd {M : Mem} {S : Nat → Int32} {i c a k p q : Nat} {v : Int32} (hc : (a = i ∧ k = c) ↔ p = q) (h : M a k = S p) : up M i c v a k = upd S q v p := by
  rw [up_ap]
  unfold upd
  by_cases z : p = q
  · rw [if_pos z, if_pos (hc.mpr z)]
  · rw [if_neg z, if_neg (fun y => z (hc.mp y))]; exact h
theorem upd_ne {S : Nat → Int32} {q p : Nat} {v : Int32} (h : p ≠ q) : upd S q v p = S p := by unfold upd; rw [if_neg h]
theorem upd_eq {S : Nat → Int32} {q : Nat} {v : Int32} : upd S q v q = v := by unfold upd; rw [if_pos rfl]
theorem upd_if (S : Nat → Int32) (q : Nat) (v : Int32) (p : Nat) : upd S q v p = if p = q then v else S p := rfl
section SET
variable {b : Nat} {M N : Mem} {S : Nat → Int32} {nw np : Nat}
theorem RW.setW (h : RW b M S) {w k : Nat} (hw : w < 6) (hk : k < 6) (v : Int32) : RW b (up M (b + 1 + (k + 1)) w v) (upd S (5 + 6 * w + k) v) := by
  refine ⟨⟨up_upd (by omega) h.1.1, up_upd (by omega) h.1.2.1, up_upd (by omega) h.1.2.2.1, up_upd (by omega) h.1.2.2.2.1, up_upd (by omega) h.1.2.2.2.2⟩, fun w' hw' => ?_, fun p hp => ?_, fun q hq => up_upd (by omega) (h.2.2.2 q hq)⟩
  · obtain ⟨a1, a2, a3, a4, a5, a6⟩ := h.2.1 w' hw'
    exact ⟨up_upd (by omega) a1, up_upd (by omega) a2, up_upd (by omega) a3, up_upd (by omega) a4, up_upd (by omega) a5, up_upd (by omega) a6⟩
  · obtain ⟨a1, a2, a3, a4, a5, a6⟩ := h.2.2.1 p hp
    exact ⟨up_upd (by omega) a1, up_upd (by omega) a2, up_upd (by omega) a3, up_upd (by omega) a4, up_upd (by omega) a5, up_upd (by omega) a6⟩
theorem RW.setP (h : RW b M S) {p k : Nat} (hp : p < 8) (hk : k < 5) (v : Int32) : RW b (up M (b + 8 + (k + 1)) p v) (upd S (41 + 5 * p + k) v) := by
  refine ⟨⟨up_upd (by omega) h.1.1, up_upd (by omega) h.1.2.1, up_upd (by omega) h.1.2.2.1, up_upd (by omega) h.1.2.2.2.1, up_upd (by omega) h.1.2.2.2.2⟩, fun w' hw' => ?_, fun p' hp' => ?_, fun q hq => up_upd (by omega) (h.2.2.2 q hq)⟩
  · obtain ⟨a1, a2, a3, a4, a5, a6⟩ := h.2.1 w' hw'
    exact ⟨up_upd (by omega) a1, up_upd (by omega) a2, up_upd (by omega) a3, up_upd (by omega) a4, up_upd (by omega) a5, up_upd (by omega) a6⟩
  · obtain ⟨a1, a2, a3, a4, a5, a6⟩ := h.2.2.1 p' hp'
    exact ⟨up_upd (by omega) a1, up_upd (by omega) a2, up_upd (by omega) a3, up_upd (by omega) a4, up_upd (by omega) a5, up_upd (by omega) a6⟩
theorem RW.setT (h : RW b M S) {p : Nat} (hp : p < 8) (v : Int32) : RW b (up M (b + 8 + 6) p v) (upd S (81 + p) v) := by
  refine ⟨⟨up_upd (by omega) h.1.1, up_upd (by omega) h.1.2.1, up_upd (by omega) h.1.2.2.1, up_upd (by omega) h.1.2.2.2.1, up_upd (by omega) h.1.2.2.2.2⟩, fun w' hw' => ?_, fun p' hp' => ?_, fun q hq => up_upd (by omega) (h.2.2.2 q hq)⟩
  · obtain ⟨a1, a2, a3, a4, a5, a6⟩ := h.2.1 w' hw'
    exact ⟨up_upd (by omega) a1, up_upd (by omega) a2, up_upd (by omega) a3, up_upd (by omega) a4, up_upd (by omega) a5, up_upd (by omega) a6⟩
  · obtain ⟨a1, a2, a3, a4, a5, a6⟩ := h.2.2.1 p' hp'
    exact ⟨up_upd (by omega) a1, up_upd (by omega) a2, up_upd (by omega) a3, up_upd (by omega) a4, up_upd (by omega) a5, up_upd (by omega) a6⟩
theorem RW.setS (h : RW b M S) {q : Nat} (hq : q < 10) (v : Int32) : RW b (up M (b + 15) q v) (upd S (89 + q) v) := by
  refine ⟨⟨up_upd (by omega) h.1.1, up_upd (by omega) h.1.2.1, up_upd (by omega) h.1.2.2.1, up_upd (by omega) h.1.2.2.2.1, up_upd (by omega) h.1.2.2.2.2⟩, fun w' hw' => ?_, fun p' hp' => ?_, fun q hq => up_upd (by omega) (h.2.2.2 q hq)⟩
  · obtain ⟨a1, a2, a3, a4, a5, a6⟩ := h.2.1 w' hw'
    exact ⟨up_upd (by omega) a1, up_upd (by omega) a2, up_upd (by omega) a3, up_upd (by omega) a4, up_upd (by omega) a5, up_upd (by omega) a6⟩
  · obtain ⟨a1, a2, a3, a4, a5, a6⟩ := h.2.2.1 p' hp'
    exact ⟨up_upd (by omega) a1, up_upd (by omega) a2, up_upd (by omega) a3, up_upd (by omega) a4, up_upd (by omega) a5, up_upd (by omega) a6⟩
/-- one of the five single numbers: (cell, place) of the class, place of the reference -/
def sgl (b i c q : Nat) : Prop := (i = b + 1 ∧ c = 0 ∧ q = 0) ∨ (i = b + 8 ∧ c = 0 ∧ q = 1) ∨ (i = b ∧ c = 5 ∧ q = 2) ∨ (i = b ∧ c = 3 ∧ q = 3) ∨ (i = b ∧ c = 4 ∧ q = 4)
theorem RW.set1 (h : RW b M S) {i c q : Nat} (hs : sgl b i c q) (v : Int32) : RW b (up M i c v) (upd S q v) := by
  unfold sgl at hs
  refine ⟨⟨up_upd (by omega) h.1.1, up_upd (by omega) h.1.2.1, up_upd (by omega) h.1.2.2.1, up_upd (by omega) h.1.2.2.2.1, up_upd (by omega) h.1.2.2.2.2⟩, fun w' hw' => ?_, fun p' hp' => ?_, fun q hq => up_upd (by omega) (h.2.2.2 q hq)⟩
  · obtain ⟨a1, a2, a3, a4, a5, a6⟩ := h.2.1 w' hw'
    exact ⟨up_upd (by omega) a1, up_upd (by omega) a2, up_upd (by omega) a3, up_upd (by omega) a4, up_upd (by omega) a5, up_upd (by omega) a6⟩
  · obtain ⟨a1, a2, a3, a4, a5, a6⟩ := h.2.2.1 p' hp'
    exact ⟨up_upd (by omega) a1, up_upd (by omega) a2, up_upd (by omega) a3, up_upd (by omega) a4, up_upd (by omega) a5, up_upd (by omega) a6⟩
/-- a cell of the world that the reference doesn't have -/
theorem RW.setX (h : RW b M S) {i c : Nat} (hs : (i = b ∧ c = 6) ∨ i < b ∨ b + 15 < i) (v : Int32) : RW b (up M i c v) S := by
  have e : ∀ a k, (a = i → k ≠ c) → up M i c v a k = M a k := fun a k z => by rw [up_ap, if_neg (fun y => z y.1 y.2)]
  refine ⟨⟨(e _ _ (by omega)).trans h.1.1, (e _ _ (by omega)).trans h.1.2.1, (e _ _ (by omega)).trans h.1.2.2.1, (e _ _ (by omega)).trans h.1.2.2.2.1, (e _ _ (by omega)).trans h.1.2.2.2.2⟩, fun w' hw' => ?_, fun p' hp' => ?_, fun q hq => (e _ _ (by omega)).trans (h.2.2.2 q hq)⟩
  · obtain ⟨a1, a2, a3, a4, a5, a6⟩ := h.2.1 w' hw'
    exact ⟨(e _ _ (by omega)).trans a1, (e _ _ (by omega)).trans a2, (e _ _ (by omega)).trans a3, (e _ _ (by omega)).trans a4, (e _ _ (by omega)).trans a5, (e _ _ (by omega)).trans a6⟩
  · obtain ⟨a1, a2, a3, a4, a5, a6⟩ := h.2.2.1 p' hp'
    exact ⟨(e _ _ (by omega)).trans a1, (e _ _ (by omega)).trans a2, (e _ _ (by omega)).trans a3, (e _ _ (by omega)).trans a4, (e _ _ (by omega)).trans a5, (e _ _ (by omega)).trans a6⟩
theorem updP {P : Int32 → Prop} {p q : Nat} {v : Int32} (h1 : p = q → P v) (h2 : P (S p)) : P (upd S q v p) := by
  unfold upd
  by_cases z : p = q
  · rw [if_pos z]; exact h1 z
  · rw [if_neg z]; exact h2
theorem Sy.put (h : Sy S np) {q : Nat} (hq : q < 81 ∨ 89 ≤ q) {v : Int32} : Sy (upd S q v) np := fun p r hp hr => by
  rw [upd_ne (by omega), upd_ne (by omega)]; exact h p r hp hr
theorem Ok.setW (o : Ok S nw np) {w k : Nat} (hw : w < 6) (hk : k < 6) {v : Int32} (h0 : k = 0 → Lt v 7) (h1 : 1 ≤ k → k ≤ 3 → Lt v 4096) (h4 : k = 4 → Lt v 100) : Ok (upd S (5 + 6 * w + k) v) nw np := by
  obtain ⟨⟨a1, a2, a3, a4, a5⟩, b1, c1, d1⟩ := o
  refine ⟨⟨a1, a2, by rw [upd_ne (by omega)]; exact a3, by rw [upd_ne (by omega)]; exact a4, by rw [upd_ne (by omega)]; exact a5.1, a5.2.put (by omega)⟩, fun w' hw' => ?_, fun p hp => ?_, fun q hq => ?_⟩
  · obtain ⟨e1, e2, e3, e4, e5⟩ := b1 w' hw'
    exact ⟨updP (P := fun x => Lt x 7) (fun z => h0 (by omega)) e1, updP (P := fun x => Lt x 4096) (fun z => h1 (by omega) (by omega)) e2, updP (P := fun x => Lt x 4096) (fun z => h1 (by omega) (by omega)) e3, updP (P := fun x => Lt x 4096) (fun z => h1 (by omega) (by omega)) e4, updP (P := fun x => Lt x 100) (fun z => h4 (by omega)) e5⟩
  · rw [upd_ne (by omega), upd_ne (by omega), upd_ne (by omega), upd_ne (by omega), upd_ne (by omega)]
    exact c1 p hp
  · rw [upd_ne (by omega)]; exact d1 q hq
theorem Ok.setP (o : Ok S nw np) {p k : Nat} (hp : p < 8) (hk : k < 5) {v : Int32} (h0 : k < 2 → Lt v 4096) (h2 : k = 2 → p < np → Lt v nw) (h4 : k = 4 → v = 0 ∨ v = 1) : Ok (upd S (41 + 5 * p + k) v) nw np := by
  obtain ⟨⟨a1, a2, a3, a4, a5⟩, b1, c1, d1⟩ := o
  refine ⟨⟨a1, a2, by rw [upd_ne (by omega)]; exact a3, by rw [upd_ne (by omega)]; exact a4, by rw [upd_ne (by omega)]; exact a5.1, a5.2.put (by omega)⟩, fun w' hw' => ?_, fun p' hp' => ?_, fun q hq => ?_⟩
  · rw [upd_ne (by omega), upd_ne (by omega), upd_ne (by omega), upd_ne (by omega), upd_ne (by omega)]
    exact b1 w' hw'
  · obtain ⟨e1, e2, e3, e4, e5⟩ := c1 p' hp'
    refine ⟨updP (P := fun x => Lt x 4096) (fun z => h0 (by omega)) e1, updP (P := fun x => Lt x 4096) (fun z => h0 (by omega)) e2, fun z => ?_, updP (P := fun x => x = 0 ∨ x = 1) (fun z => h4 (by omega)) e4, ?_⟩
    · exact updP (P := fun x => Lt x nw) (fun y => h2 (by omega) (by have : p = p' := by omega
                                                                     omega)) (e3 z)
    · rw [upd_ne (by omega)]; exact e5
  · rw [upd_ne (by omega)]; exact d1 q hq
theorem Ok.setT (o : Ok S nw np) {p : Nat} (hp : p < 8) {v : Int32} (h0 : Lt v 256) (hs : Sy (upd S (81 + p) v) np) : Ok (upd S (81 + p) v) nw np := by
  obtain ⟨⟨a1, a2, a3, a4, a5⟩, b1, c1, d1⟩ := o
  refine ⟨⟨a1, a2, by rw [upd_ne (by omega)]; exact a3, by rw [upd_ne (by omega)]; exact a4, by rw [upd_ne (by omega)]; exact a5.1, hs⟩, fun w' hw' => ?_, fun p' hp' => ?_, fun q hq => ?_⟩
  · rw [upd_ne (by omega), upd_ne (by omega), upd_ne (by omega), upd_ne (by omega), upd_ne (by omega)]
    exact b1 w' hw'
  · obtain ⟨e1, e2, e3, e4, e5⟩ := c1 p' hp'
    rw [upd_ne (by omega), upd_ne (by omega), upd_ne (by omega), upd_ne (by omega)]
    exact ⟨e1, e2, e3, e4, updP (P := fun x => Lt x 256) (fun z => h0) e5⟩
  · rw [upd_ne (by omega)]; exact d1 q hq
theorem Ok.setT2 (o : Ok S nw np) {p r : Nat} (hp : p < 8) (hr : r < 8) {v u : Int32} (h0 : Lt v 256) (h1 : Lt u 256) (hs : Sy (upd (upd S (81 + p) v) (81 + r) u) np) : Ok (upd (upd S (81 + p) v) (81 + r) u) nw np := by
  obtain ⟨⟨a1, a2, a3, a4, a5⟩, b1, c1, d1⟩ := o
  refine ⟨⟨a1, a2, by rw [upd_ne (by omega), upd_ne (by omega)]; exact a3, by rw [upd_ne (by omega), upd_ne (by omega)]; exact a4, by rw [upd_ne (by omega), upd_ne (by omega)]; exact a5.1, hs⟩, fun w' hw' => ?_, fun p' hp' => ?_, fun q hq => ?_⟩
  · simp only [upd_if]
    rw [if_neg (by omega), if_neg (by omega), if_neg (by omega), if_neg (by omega), if_neg (by omega), if_neg (by omega), if_neg (by omega), if_neg (by omega), if_neg (by omega), if_neg (by omega)]
    exact b1 w' hw'
  · obtain ⟨e1, e2, e3, e4, e5⟩ := c1 p' hp'
    refine ⟨?_, ?_, ?_, ?_, updP (P := fun x => Lt x 256) (fun z => h1) (updP (P := fun x => Lt x 256) (fun z => h0) e5)⟩
    · rw [upd_ne (by omega), upd_ne (by omega)]; exact e1
    · rw [upd_ne (by omega), upd_ne (by omega)]; exact e2
    · rw [upd_ne (by omega), upd_ne (by omega)]; exact e3
    · rw [upd_ne (by omega), upd_ne (by omega)]; exact e4
  · rw [upd_ne (by omega), upd_ne (by omega)]; exact d1 q hq
theorem Ok.setS (o : Ok S nw np) {q : Nat} (hq : q < 10) {v : Int32} (h0 : v = -1 ∨ Lt v nw) : Ok (upd S (89 + q) v) nw np := by
  obtain ⟨⟨a1, a2, a3, a4, a5⟩, b1, c1, d1⟩ := o
  refine ⟨⟨a1, a2, by rw [upd_ne (by omega)]; exact a3, by rw [upd_ne (by omega)]; exact a4, by rw [upd_ne (by omega)]; exact a5.1, a5.2.put (by omega)⟩, fun w' hw' => ?_, fun p' hp' => ?_, fun q' hq' => ?_⟩
  · rw [upd_ne (by omega), upd_ne (by omega), upd_ne (by omega), upd_ne (by omega), upd_ne (by omega)]
    exact b1 w' hw'
  · rw [upd_ne (by omega), upd_ne (by omega), upd_ne (by omega), upd_ne (by omega), upd_ne (by omega)]
    exact c1 p' hp'
  · exact updP (P := fun x => x = -1 ∨ Lt x nw) (fun z => h0) (d1 q' hq')
/-- a number that is not asked for anything: seed, letters -/
theorem Ok.setN (o : Ok S nw np) {q : Nat} (hq : q = 2 ∨ q = 4) (v : Int32) : Ok (upd S q v) nw np := by
  obtain ⟨⟨a1, a2, a3, a4, a5⟩, b1, c1, d1⟩ := o
  refine ⟨⟨a1, a2, by rw [upd_ne (by omega)]; exact a3, by rw [upd_ne (by omega)]; exact a4, by rw [upd_ne (by omega)]; exact a5.1, a5.2.put (by omega)⟩, fun w' hw' => ?_, fun p' hp' => ?_, fun q' hq' => ?_⟩
  · rw [upd_ne (by omega), upd_ne (by omega), upd_ne (by omega), upd_ne (by omega), upd_ne (by omega)]
    exact b1 w' hw'
  · rw [upd_ne (by omega), upd_ne (by omega), upd_ne (by omega), upd_ne (by omega), upd_ne (by omega)]
    exact c1 p' hp'
  · rw [upd_ne (by omega)]; exact d1 q' hq'
theorem Ok.setY (o : Ok S nw np) {v : Int32} (hv : Lt v 2000) : Ok (upd S 3 v) nw np := by
  obtain ⟨⟨a1, a2, a3, a4, a5⟩, b1, c1, d1⟩ := o
  refine ⟨⟨a1, a2, by rw [upd_ne (by omega)]; exact a3, by rw [upd_ne (by omega)]; exact a4, by rw [upd_eq]; exact hv, a5.2.put (by omega)⟩, fun w' hw' => ?_, fun p' hp' => ?_, fun q' hq' => ?_⟩
  · rw [upd_ne (by omega), upd_ne (by omega), upd_ne (by omega), upd_ne (by omega), upd_ne (by omega)]
    exact b1 w' hw'
  · rw [upd_ne (by omega), upd_ne (by omega), upd_ne (by omega), upd_ne (by omega), upd_ne (by omega)]
    exact c1 p' hp'
  · rw [upd_ne (by omega)]; exact d1 q' hq'
/-- one writer more; its own numbers are set already -/
theorem Ok.moreW (o : Ok S nw np) (hn : nw < 6) : Ok (upd S 0 (nI (nw + 1))) (nw + 1) np := by
  obtain ⟨⟨a1, a2, a3, a4, a5⟩, b1, c1, d1⟩ := o
  refine ⟨⟨by omega, a2, upd_eq, by rw [upd_ne (by omega)]; exact a4, by rw [upd_ne (by omega)]; exact a5.1, a5.2.put (by omega)⟩, fun w' hw' => ?_, fun p' hp' => ?_, fun q' hq' => ?_⟩
  · rw [upd_ne (by omega), upd_ne (by omega), upd_ne (by omega), upd_ne (by omega), upd_ne (by omega)]
    exact b1 w' hw'
  · rw [upd_ne (by omega), upd_ne (by omega), upd_ne (by omega), upd_ne (by omega), upd_ne (by omega)]
    obtain ⟨e1, e2, e3, e4, e5⟩ := c1 p' hp'
    exact ⟨e1, e2, fun z => (e3 z).imp fun j hj => ⟨by omega, hj.2⟩, e4, e5⟩
  · rw [upd_ne (by omega)]
    rcases d1 q' hq' with z | ⟨j, hj, z⟩
    · exact Or.inl z
    · exact Or.inr ⟨j, by omega, z⟩
theorem Ok.moreP (o : Ok S nw np) (hn : np < 8) (hh : Lt (S (41 + 5 * np + 2)) nw) : Ok (upd S 1 (nI (np + 1))) nw (np + 1) := by
  obtain ⟨⟨a1, a2, a3, a4, a5⟩, b1, c1, d1⟩ := o
  refine ⟨⟨a1, by omega, by rw [upd_ne (by omega)]; exact a3, upd_eq, by rw [upd_ne (by omega)]; exact a5.1, Sy.put (fun p r hp hr => ⟨(a5.2 p r hp hr).1, fun z => (a5.2 p r hp hr).2 (by omega)⟩) (by omega)⟩, fun w' hw' => ?_, fun p' hp' => ?_, fun q' hq' => ?_⟩
  · rw [upd_ne (by omega), upd_ne (by omega), upd_ne (by omega), upd_ne (by omega), upd_ne (by omega)]
    exact b1 w' hw'
  · rw [upd_ne (by omega), upd_ne (by omega), upd_ne (by omega), upd_ne (by omega), upd_ne (by omega)]
    obtain ⟨e1, e2, e3, e4, e5⟩ := c1 p' hp'
    refine ⟨e1, e2, fun z => ?_, e4, e5⟩
    by_cases y : p' < np
    · exact e3 y
    · have : p' = np := by omega
      subst this
      exact hh
  · rw [upd_ne (by omega)]; exact d1 q' hq'
end SET

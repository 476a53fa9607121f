section GIV
theorem tb1 {w : Cond} (i : Nat) (h : tables_1_1[i]? = some w) : w ∈ lw_tbl := List.mem_append_right _ (List.mem_append_left _ (List.mem_of_getElem? h))
theorem tb2 {w : Cond} (i : Nat) (h : tables_1_2[i]? = some w) : w ∈ lw_tbl := List.mem_append_right _ (List.mem_append_right _ (List.mem_append_left _ (List.mem_of_getElem? h)))
theorem tb3 {w : Cond} (i : Nat) (h : tables_1_3[i]? = some w) : w ∈ lw_tbl := List.mem_append_right _ (List.mem_append_right _ (List.mem_append_right _ (List.mem_append_left _ (List.mem_of_getElem? h))))
theorem tb4 {w : Cond} (i : Nat) (h : tables_1_4[i]? = some w) : w ∈ lw_tbl := List.mem_append_right _ (List.mem_append_right _ (List.mem_append_right _ (List.mem_append_right _ (List.mem_append_left _ (List.mem_of_getElem? h)))))
def strIx : List Nat := [41, 50, 63, 65, 67, 69, 71, 73, 75, 89, 98, 102, 106, 123, 133, 137]
def tmS (i : Nat) : Term := .string RX3 (strIx.getD i 0)
def gv : List Cond := flatC (Jvm.Cond.and given_1 narrow_1)
theorem gs_ex : ∀ i, i < 16 → Cond.exactly (tmS i) "java/lang/String" ∈ gv := by decide +kernel
theorem gs_co : ∀ i, i < 16 → Cond.eq (.field (tmS i) "java/lang/String" "coder" "B") (.int 0) ∈ gv := by decide +kernel
theorem gs_ar : ∀ i, i < 16 → Cond.arrayOf (.field (tmS i) "java/lang/String" "value" "[B") .byte ∈ gv := by decide +kernel
theorem gs_le : ∀ i, i < 16 → Cond.eq (.length (.field (tmS i) "java/lang/String" "value" "[B")) (.int (Int32.ofNat (slen.getD i 0))) ∈ gv := by decide +kernel
theorem gs_el : ∀ i, i < 16 → ∀ j, j < slen.getD i 0 → Cond.eq (.elem (.field (tmS i) "java/lang/String" "value" "[B") (.int (Int32.ofNat j))) (.int ((sbyt.getD i []).getD j 0)) ∈ gv := by decide +kernel
theorem gs_n : ∀ i, i < 16 → slen.getD i 0 < 2 ^ 31 := by decide
theorem gs_ne0 : ∀ j, j < 16 → 0 ≠ j → (Cond.not (Cond.eq (tmS 0) (tmS j)) ∈ gv ∨ Cond.not (Cond.eq (tmS j) (tmS 0)) ∈ gv) := by decide +kernel
theorem gs_ne1 : ∀ j, j < 16 → 1 ≠ j → (Cond.not (Cond.eq (tmS 1) (tmS j)) ∈ gv ∨ Cond.not (Cond.eq (tmS j) (tmS 1)) ∈ gv) := by decide +kernel
theorem gs_ne2 : ∀ j, j < 16 → 2 ≠ j → (Cond.not (Cond.eq (tmS 2) (tmS j)) ∈ gv ∨ Cond.not (Cond.eq (tmS j) (tmS 2)) ∈ gv) := by decide +kernel
theorem gs_ne3 : ∀ j, j < 16 → 3 ≠ j → (Cond.not (Cond.eq (tmS 3) (tmS j)) ∈ gv ∨ Cond.not (Cond.eq (tmS j) (tmS 3)) ∈ gv) := by decide +kernel
theorem gs_ne4 : ∀ j, j < 16 → 4 ≠ j → (Cond.not (Cond.eq (tmS 4) (tmS j)) ∈ gv ∨ Cond.not (Cond.eq (tmS j) (tmS 4)) ∈ gv) := by decide +kernel
theorem gs_ne5 : ∀ j, j < 16 → 5 ≠ j → (Cond.not (Cond.eq (tmS 5) (tmS j)) ∈ gv ∨ Cond.not (Cond.eq (tmS j) (tmS 5)) ∈ gv) := by decide +kernel
theorem gs_ne6 : ∀ j, j < 16 → 6 ≠ j → (Cond.not (Cond.eq (tmS 6) (tmS j)) ∈ gv ∨ Cond.not (Cond.eq (tmS j) (tmS 6)) ∈ gv) := by decide +kernel
theorem gs_ne7 : ∀ j, j < 16 → 7 ≠ j → (Cond.not (Cond.eq (tmS 7) (tmS j)) ∈ gv ∨ Cond.not (Cond.eq (tmS j) (tmS 7)) ∈ gv) := by decide +kernel
theorem gs_ne8 : ∀ j, j < 16 → 8 ≠ j → (Cond.not (Cond.eq (tmS 8) (tmS j)) ∈ gv ∨ Cond.not (Cond.eq (tmS j) (tmS 8)) ∈ gv) := by decide +kernel
theorem gs_ne9 : ∀ j, j < 16 → 9 ≠ j → (Cond.not (Cond.eq (tmS 9) (tmS j)) ∈ gv ∨ Cond.not (Cond.eq (tmS j) (tmS 9)) ∈ gv) := by decide +kernel
theorem gs_ne10 : ∀ j, j < 16 → 10 ≠ j → (Cond.not (Cond.eq (tmS 10) (tmS j)) ∈ gv ∨ Cond.not (Cond.eq (tmS j) (tmS 10)) ∈ gv) := by decide +kernel
theorem gs_ne11 : ∀ j, j < 16 → 11 ≠ j → (Cond.not (Cond.eq (tmS 11) (tmS j)) ∈ gv ∨ Cond.not (Cond.eq (tmS j) (tmS 11)) ∈ gv) := by decide +kernel
theorem gs_ne12 : ∀ j, j < 16 → 12 ≠ j → (Cond.not (Cond.eq (tmS 12) (tmS j)) ∈ gv ∨ Cond.not (Cond.eq (tmS j) (tmS 12)) ∈ gv) := by decide +kernel
theorem gs_ne13 : ∀ j, j < 16 → 13 ≠ j → (Cond.not (Cond.eq (tmS 13) (tmS j)) ∈ gv ∨ Cond.not (Cond.eq (tmS j) (tmS 13)) ∈ gv) := by decide +kernel
theorem gs_ne14 : ∀ j, j < 16 → 14 ≠ j → (Cond.not (Cond.eq (tmS 14) (tmS j)) ∈ gv ∨ Cond.not (Cond.eq (tmS j) (tmS 14)) ∈ gv) := by decide +kernel
theorem gs_ne15 : ∀ j, j < 16 → 15 ≠ j → (Cond.not (Cond.eq (tmS 15) (tmS j)) ∈ gv ∨ Cond.not (Cond.eq (tmS j) (tmS 15)) ∈ gv) := by decide +kernel
theorem gs_ne : ∀ i, i < 16 → ∀ j, j < 16 → i ≠ j → (Cond.not (Cond.eq (tmS i) (tmS j)) ∈ gv ∨ Cond.not (Cond.eq (tmS j) (tmS i)) ∈ gv) := by
  intro i hi
  rcases (show i = 0 ∨ i = 1 ∨ i = 2 ∨ i = 3 ∨ i = 4 ∨ i = 5 ∨ i = 6 ∨ i = 7 ∨ i = 8 ∨ i = 9 ∨ i = 10 ∨ i = 11 ∨ i = 12 ∨ i = 13 ∨ i = 14 ∨ i = 15 by omega) with rfl | rfl | rfl | rfl | rfl | rfl | rfl | rfl | rfl | rfl | rfl | rfl | rfl | rfl | rfl | rfl
  · exact gs_ne0
  · exact gs_ne1
  · exact gs_ne2
  · exact gs_ne3
  · exact gs_ne4
  · exact gs_ne5
  · exact gs_ne6
  · exact gs_ne7
  · exact gs_ne8
  · exact gs_ne9
  · exact gs_ne10
  · exact gs_ne11
  · exact gs_ne12
  · exact gs_ne13
  · exact gs_ne14
  · exact gs_ne15
theorem gu_ar : Cond.arrayOf (.static "ScribeTables" "UNDER" "[I") .int ∈ gv := by decide +kernel
theorem gu_le : Cond.eq (.length (.static "ScribeTables" "UNDER" "[I")) (.int (Int32.ofNat 7)) ∈ gv := by decide +kernel
theorem gu_el : ∀ j, j < 7 → Cond.eq (.elem (.static "ScribeTables" "UNDER" "[I") (.int (Int32.ofNat j))) (.int (und.getD j 0)) ∈ gv := by decide +kernel
theorem gc_cs : Cond.eq (.static "java/lang/String" "COMPACT_STRINGS" "Z") (.int 1) ∈ gv := by decide +kernel
theorem gf_rf : Cond.isRef (.static "jdk/internal/util/Preconditions" "SIOOBE_FORMATTER" "Ljava/util/function/BiFunction;") ∈ gv := by decide +kernel
theorem sr_0 : Cond.stringRef RX3 41 "person" ∈ lw_tbl := tb3 146 (by rfl)
theorem sr_1 : Cond.stringRef RX3 50 "tie" ∈ lw_tbl := tb3 225 (by rfl)
theorem sr_2 : Cond.stringRef RX3 63 "writer" ∈ lw_tbl := tb3 235 (by rfl)
theorem sr_3 : Cond.stringRef RX3 65 "soft" ∈ lw_tbl := tb3 236 (by rfl)
theorem sr_4 : Cond.stringRef RX3 67 "form" ∈ lw_tbl := tb3 237 (by rfl)
theorem sr_5 : Cond.stringRef RX3 69 "poet" ∈ lw_tbl := tb3 238 (by rfl)
theorem sr_6 : Cond.stringRef RX3 71 "clerk" ∈ lw_tbl := tb3 239 (by rfl)
theorem sr_7 : Cond.stringRef RX3 73 "deaf" ∈ lw_tbl := tb4 0 (by rfl)
theorem sr_8 : Cond.stringRef RX3 75 "terse" ∈ lw_tbl := tb4 1 (by rfl)
theorem sr_9 : Cond.stringRef RX3 89 "cuts" ∈ lw_tbl := tb4 7 (by rfl)
theorem sr_10 : Cond.stringRef RX3 98 "adds" ∈ lw_tbl := tb4 8 (by rfl)
theorem sr_11 : Cond.stringRef RX3 102 "when" ∈ lw_tbl := tb4 9 (by rfl)
theorem sr_12 : Cond.stringRef RX3 106 "price" ∈ lw_tbl := tb4 10 (by rfl)
theorem sr_13 : Cond.stringRef RX3 123 "by" ∈ lw_tbl := tb3 204 (by rfl)
theorem sr_14 : Cond.stringRef RX3 133 "truth" ∈ lw_tbl := tb3 210 (by rfl)
theorem sr_15 : Cond.stringRef RX3 137 "pence" ∈ lw_tbl := tb3 219 (by rfl)
theorem k_int {args : Array Value} {s : State} (h : (Cond.arrayClass .int).before args s = true) : ∃ c0 : ClassId, ArrOfT s c0 .int ∧ va_RA s c0 .int := by
  obtain ⟨c0, k, comp, h1, h2, h3⟩ := Cond.arrayClass_spec (args := args) (first := s) (o := none) (s := s) (idx := []) h
  exact ⟨c0, fun n z => ⟨fun k h => (by cases h), k, h2, comp, h3⟩, h1⟩
/-- what the start gives of Strings and statics -/
theorem giv_ex {args : Array Value} {s : State} (hts : ∀ w ∈ lw_tbl, w.before args s = true) (hgv : (Jvm.Cond.and given_1 narrow_1).before args s = true) : ∃ (adK adV : Nat → Nat) (u : Nat), vk_S 16 slen sbyt adK adV (fun q => s.heap.size ≤ q) s s.heap ∧ (∀ q ∈ strTab, vk_R RX3 q.1 q.2.1 (adK q.2.2) s) ∧ va_Z "ScribeTables" "UNDER" "[I" (.ref u) (fun q => s.heap.size ≤ q) s s.heap ∧ va_T .int u 7 (fun j => .int (und.getD j 0)) (fun q => s.heap.size ≤ q) s s.heap ∧ va_Z "java/lang/String" "COMPACT_STRINGS" "Z" (.int 1) (fun q => s.heap.size ≤ q) s s.heap ∧ va_Zq "jdk/internal/util/Preconditions" "SIOOBE_FORMATTER" "Ljava/util/function/BiFunction;" (fun q => s.heap.size ≤ q) s s.heap := by
  have hs : ∀ w ∈ gv, w.before args s = true := flat_of_before _ hgv
  have hA : ∀ a : Nat, a < s.heap.size → ¬ (fun q : Nat => s.heap.size ≤ q) a := fun a h => Nat.not_le.mpr h
  obtain ⟨adK, adV, h1, h2⟩ := vk_Sof (args := args) (s := s) (N := 16) (tm := tmS) (len := slen) (byt := sbyt) (A := fun q => s.heap.size ≤ q) gs_n (fun i hi => hs _ (gs_ex i hi)) (fun i hi => hs _ (gs_co i hi)) (fun i hi => hs _ (gs_ar i hi)) (fun i hi => hs _ (gs_le i hi)) (fun i hi j hj => hs _ (gs_el i hi j hj)) (fun i j hi hj h => (gs_ne i hi j hj h).imp (hs _) (hs _)) hA
  obtain ⟨u, h3, h4⟩ := va_Tof (args := args) (s := s) (tm := .static "ScribeTables" "UNDER" "[I") (ty := .int) (N := 7) (f := fun j => .int (und.getD j 0)) (A := fun q => s.heap.size ≤ q) (by decide) (hs _ gu_ar) (va_eqt (hs _ gu_le)) (fun j hj => va_eqt (hs _ (gu_el j hj))) hA
  refine ⟨adK, adV, u, h1, ?_, va_Zof (hts _ (tb4 36 (by rfl))) (hts _ (tb1 1 (by rfl))) h3 hA, h4, va_Zof (hts _ (tb3 160 (by rfl))) (hts _ (tb1 13 (by rfl))) (va_eqi (hs _ gc_cs)) hA, va_Zqof (hts _ (tb3 176 (by rfl))) (hts _ (tb1 15 (by rfl))) (hs _ gf_rf) hA⟩
  unfold strTab
  exact List.forall_mem_cons.mpr ⟨vk_R.of (hts _ sr_0) (h2 0 (by decide)), List.forall_mem_cons.mpr ⟨vk_R.of (hts _ sr_1) (h2 1 (by decide)), List.forall_mem_cons.mpr ⟨vk_R.of (hts _ sr_2) (h2 2 (by decide)), List.forall_mem_cons.mpr ⟨vk_R.of (hts _ sr_3) (h2 3 (by decide)), List.forall_mem_cons.mpr ⟨vk_R.of (hts _ sr_4) (h2 4 (by decide)), List.forall_mem_cons.mpr ⟨vk_R.of (hts _ sr_5) (h2 5 (by decide)), List.forall_mem_cons.mpr ⟨vk_R.of (hts _ sr_6) (h2 6 (by decide)), List.forall_mem_cons.mpr ⟨vk_R.of (hts _ sr_7) (h2 7 (by decide)), List.forall_mem_cons.mpr ⟨vk_R.of (hts _ sr_8) (h2 8 (by decide)), List.forall_mem_cons.mpr ⟨vk_R.of (hts _ sr_9) (h2 9 (by decide)), List.forall_mem_cons.mpr ⟨vk_R.of (hts _ sr_10) (h2 10 (by decide)), List.forall_mem_cons.mpr ⟨vk_R.of (hts _ sr_11) (h2 11 (by decide)), List.forall_mem_cons.mpr ⟨vk_R.of (hts _ sr_12) (h2 12 (by decide)), List.forall_mem_cons.mpr ⟨vk_R.of (hts _ sr_13) (h2 13 (by decide)), List.forall_mem_cons.mpr ⟨vk_R.of (hts _ sr_14) (h2 14 (by decide)), List.forall_mem_cons.mpr ⟨vk_R.of (hts _ sr_15) (h2 15 (by decide)), fun _ h => absurd h List.not_mem_nil⟩⟩⟩⟩⟩⟩⟩⟩⟩⟩⟩⟩⟩⟩⟩⟩
end GIV

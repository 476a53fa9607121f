theorem ac_RX5_34 : Cond.methodLink RX5 34 arraycopyName ∈ wT := wT2 218 (by rfl) (by rfl)
theorem ac_RX0_34 : Cond.methodLink RX0 34 arraycopyName ∈ wT := wT2 225 (by rfl) (by rfl)
theorem ac_RX4_46 : Cond.methodLink RX4 46 arraycopyName ∈ wT := wT2 226 (by rfl) (by rfl)
theorem ac_RX1_21 : Cond.methodLink RX1 21 arraycopyName ∈ wT := wT4 77 (by rfl) (by rfl)
theorem ac_nat : Cond.native arraycopyName ∈ wT := wT2 220 (by rfl) (by rfl)
theorem ac_stat : Cond.static arraycopyName ∈ wT := wT2 219 (by rfl) (by rfl)
theorem ac_ini : Cond.initialized "java/lang/System" ∈ wT := wT1 11 (by rfl) (by rfl)
section ENG5
variable {E : EB} {G : GB} {j : MI} {pc q : Nat} {L : List (Option Value)} {st : List Value} {M : Mem}
theorem v_copy (hG : Gd E j G) {i b idx n0 n1 : Nat} {sp dp n : Int32} (ml : Cond.methodLink j.1.cls idx arraycopyName ∈ wT) (hf : Nat.ble 1 j.2.2.2.2.1 = true) (hl : Nat.ble (8 + (nativeFrameWords "java/lang/System" "arraycopy" 5 + 11)) j.2.2.2.2.2 = true) (ik : IsK i 8) (al : aln i = n0) (bk : IsK b 8) (bl : aln b = n1) (hc : cpOK sp dp n n0 n1) (hw : (st.map fun v => v.category).sum ≤ 8) (d : decode j.2.1 pc = .ok (.invokestatic idx, 3)) (hq : pc + 3 = q) (k : V E G q L st (cpM M i sp b dp n)) : V E G pc L (.int n :: .int dp :: .ref b :: .int sp :: .ref i :: st) M := by
  subst hq; subst al; subst bl
  obtain ⟨p, e, s, m, args, below, meth, c, R, cl, sl, Q⟩ := G
  intro H locs ls hl0 hP hS
  obtain ⟨hx, hb, hown, hts, hK, hE, hI, hf1, hf2, hf3, hf4⟩ := hG
  have hw' : ((st.map (mv E)).map fun v => v.category).sum ≤ 8 := by rw [List.map_map]; simpa [Function.comp_def, mv_cat] using hw
  have hl' := Nat.le_of_ble_eq_true hl
  refine va_copyi hx hb hl0.1.symm hown (hts _ ml) (hts _ ac_nat) (hts _ ac_stat) (hts _ ac_ini) hK.1 hP (eD_cells hI M) hS i b i b (cells_arr ik.1 ik.2) (cells_arr bk.1 bk.2) (eTys_get ik.1) (eTys_get bk.1) rfl hc.1 hc.2.1 hc.2.2.1 hc.2.2.2.1 hc.2.2.2.2 (fun _ _ => rfl) (Nat.le_trans (Nat.le_of_ble_eq_true hf) hf1) (by omega) d (fun H1 locs1 hP1 hD1 hS1 => ?_)
  rw [cells_set (M' := cpM M i sp b dp n) (by simp [cellE, bk.2, cpM, ix]) (fun a h => by simp [cpM, h])] at hP1
  exact k H1 locs1 ls hl0 hP1 hS1
theorem v_mmin (hG : Gd E j G) {idx : Nat} {x y : Int32} (ml : Cond.methodLink j.1.cls idx yJ9_min_7cf53 ∈ wT) (hf : Nat.ble 1 j.2.2.2.2.1 = true) (hl : Nat.ble 21 j.2.2.2.2.2 = true) (hw : (st.map fun v => v.category).sum ≤ 8) (d : decode j.2.1 pc = .ok (.invokestatic idx, 3)) (hq : pc + 3 = q) (k : V E G q L (.int (mnI x y) :: st) M) : V E G pc L (.int y :: .int x :: st) M := by
  subst hq
  obtain ⟨p, e, s, m, args, below, meth, c, R, cl, sl, Q⟩ := G
  intro H locs ls hl0 hP hS
  obtain ⟨hx, hb, hown, hts, hK, hE, hI, hf1, hf2, hf3, hf4⟩ := hG
  have hw' : ((st.map (mv E)).map fun v => v.category).sum ≤ 8 := by rw [List.map_map]; simpa [Function.comp_def, mv_cat] using hw
  have hl' := Nat.le_of_ble_eq_true hl
  exact va_mmin hx hb hl0.1.symm hown (hts _ ml) (hts _ msJ9_min_7cf53) (hts _ moJ9_min_7cf53.1) (hts _ moJ9_min_7cf53.2.1) (Nat.le_trans (Nat.le_of_ble_eq_true hf) hf1) (by omega) hf3 hf4 d (k H locs ls hl0 hP hS)
theorem v_ldcS (hG : Gd E j G) (ho : j.1.cls = RX3) {k idx : Nat} (hk : (strTab.any fun q => q.1 == idx && q.2.2 == k) = true) (d : decode j.2.1 pc = .ok (.ldc idx, 2)) (hq : pc + 2 = q) (kk : V E G q L (.ref (100 + k) :: st) M) : V E G pc L st M := by
  subst hq
  obtain ⟨p, e, s, m, args, below, meth, c, R, cl, sl, Q⟩ := G
  intro H locs ls hl0 hP hS
  obtain ⟨hx, hb, hown, hts, hK, hE, hI, hf1, hf2, hf3, hf4⟩ := hG
  obtain ⟨z, hz, hz2⟩ := List.any_eq_true.mp hk
  simp only [Bool.and_eq_true, beq_iff_eq] at hz2
  obtain ⟨rfl, rfl⟩ := hz2
  rw [ho] at hown
  exact va_ldcS hx hb hown (hK.2 z hz) d (kk H locs ls hl0 hP hS)
theorem v_gsU (hG : Gd E j G) (ho : j.1.cls = RX6) (d : decode j.2.1 pc = .ok (.getstatic 309, 3)) (hq : pc + 3 = q) (kk : V E G q L (.ref 300 :: st) M) : V E G pc L st M := by
  subst hq
  obtain ⟨p, e, s, m, args, below, meth, c, R, cl, sl, Q⟩ := G
  intro H locs ls hl0 hP hS
  obtain ⟨hx, hb, hown, hts, hK, hE, hI, hf1, hf2, hf3, hf4⟩ := hG
  rw [ho] at hown
  exact va_gets hx hb hE.2.1 hS hown (hts _ fl_RX6_309) (fun _ h => h) d (kk H locs ls hl0 hP hS)
theorem v_ildU (hG : Gd E j G) {x : Int32} (hx : vp_in x 7) (d : decode j.2.1 pc = .ok (.iaload, 1)) (hq : pc + 1 = q) (kk : V E G q L (.int (und.getD (ix x) 0) :: st) M) : V E G pc L (.int x :: .ref 300 :: st) M := by
  subst hq
  obtain ⟨p, e, s, m, args, below, meth, c, R, cl, sl, Q⟩ := G
  intro H locs ls hl0 hP hS
  exact va_ti hG.1 hG.2.1 hG.2.2.2.2.2.1.2.2.1 hS hx rfl d (kk H locs ls hl0 hP hS)
theorem v_gsC (hG : Gd E j G) (ho : j.1.cls = RJ0) (d : decode j.2.1 pc = .ok (.getstatic 38, 3)) (hq : pc + 3 = q) (kk : V E G q L (.int 1 :: st) M) : V E G pc L st M := by
  subst hq
  obtain ⟨p, e, s, m, args, below, meth, c, R, cl, sl, Q⟩ := G
  intro H locs ls hl0 hP hS
  obtain ⟨hx, hb, hown, hts, hK, hE, hI, hf1, hf2, hf3, hf4⟩ := hG
  rw [ho] at hown
  exact va_gets hx hb hE.2.2.2.1 hS hown (hts _ fl_RJ0_38) (fun _ h => h) d (kk H locs ls hl0 hP hS)
theorem v_gsF (hG : Gd E j G) (ho : j.1.cls = RJ0) (d : decode j.2.1 pc = .ok (.getstatic 1053, 3)) (hq : pc + 3 = q) (kk : ∀ v : Value, v = .null ∨ v = .ref 400 → V E G q L (v :: st) M) : V E G pc L st M := by
  subst hq
  obtain ⟨p, e, s, m, args, below, meth, c, R, cl, sl, Q⟩ := G
  intro H locs ls hl0 hP hS
  obtain ⟨hx, hb, hown, hts, hK, hE, hI, hf1, hf2, hf3, hf4⟩ := hG
  rw [ho] at hown
  obtain ⟨v, hv, hZ⟩ := hE.2.2.2.2
  exact va_gets hx hb hZ hS hown (hts _ fl_RJ0_1053) (fun _ h => h) d (kk v hv H locs ls hl0 hP hS)
theorem v_sgv (hG : Gd E j G) (ho : j.1.cls = RJ0) {k : Nat} (hk : k < 16) (d : decode j.2.1 pc = .ok (.getfield 9, 3)) (hq : pc + 3 = q) (kk : V E G q L (.ref (130 + k) :: st) M) : V E G pc L (.ref (100 + k) :: st) M := by
  subst hq
  obtain ⟨p, e, s, m, args, below, meth, c, R, cl, sl, Q⟩ := G
  intro H locs ls hl0 hP hS
  obtain ⟨hx, hb, hown, hts, hK, hE, hI, hf1, hf2, hf3, hf4⟩ := hG
  rw [ho] at hown
  exact vk_getf hx hb (hE.1.1 k hk).2.2.1 hS hown (hts _ fl_RJ0_9) (fun _ h => h) d (kk H locs ls hl0 hP hS)
theorem v_sgc (hG : Gd E j G) (ho : j.1.cls = RJ0) {k : Nat} (hk : k < 16) (d : decode j.2.1 pc = .ok (.getfield 15, 3)) (hq : pc + 3 = q) (kk : V E G q L (.int 0 :: st) M) : V E G pc L (.ref (100 + k) :: st) M := by
  subst hq
  obtain ⟨p, e, s, m, args, below, meth, c, R, cl, sl, Q⟩ := G
  intro H locs ls hl0 hP hS
  obtain ⟨hx, hb, hown, hts, hK, hE, hI, hf1, hf2, hf3, hf4⟩ := hG
  rw [ho] at hown
  exact vk_getf hx hb (hE.1.1 k hk).2.1 hS hown (hts _ fl_RJ0_15) (fun _ h => h) d (kk H locs ls hl0 hP hS)
theorem v_stl (hG : Gd E j G) {k : Nat} (hk : k < 16) (d : decode j.2.1 pc = .ok (.arraylength, 1)) (hq : pc + 1 = q) (kk : V E G q L (.int (slI k) :: st) M) : V E G pc L (.ref (130 + k) :: st) M := by
  subst hq
  obtain ⟨p, e, s, m, args, below, meth, c, R, cl, sl, Q⟩ := G
  intro H locs ls hl0 hP hS
  exact va_tlen hG.1 hG.2.1 (hG.2.2.2.2.2.1.1.1 k hk).2.2.2 hS rfl d (kk H locs ls hl0 hP hS)
theorem v_stb (hG : Gd E j G) {k : Nat} {x : Int32} (hk : k < 16) (hx : vp_in x (slen.getD k 0)) (d : decode j.2.1 pc = .ok (.baload, 1)) (hq : pc + 1 = q) (kk : V E G q L (.int (scI k x) :: st) M) : V E G pc L (.int x :: .ref (130 + k) :: st) M := by
  subst hq
  obtain ⟨p, e, s, m, args, below, meth, c, R, cl, sl, Q⟩ := G
  intro H locs ls hl0 hP hS
  exact va_tb hG.1 hG.2.1 (hG.2.2.2.2.2.1.1.1 k hk).2.2.2 hS hx rfl d (kk H locs ls hl0 hP hS)
theorem v_callT (hG : Gd E j G) {j' : MI} {idx n k0 : Nat} {av rest st0 : List Value} {Φ : Option Value → Mem → Prop} (mo : MOK j' n) (mv' : MOV j') (ml : Cond.methodLink j.1.cls idx j'.1 ∈ wT) (fit : FitR j' j = true) (hk : k0 < 16) (hcl : j'.1.cls = "java/lang/String") (c : Mt E j' (.ref (100 + k0) :: av) M Φ) (hn : av.length = n) (hst : st0 = av.reverse ++ .ref (100 + k0) :: rest) (hw : (rest.map fun v => v.category).sum ≤ 8) (d : decode j.2.1 pc = .ok (.invokevirtual idx, 3)) (hq : pc + 3 = q) (k : ∀ r M', Φ r M' → V E G q L (r.toList ++ rest) M') : V E G pc L st0 M := by
  refine v_after (Φ := Φ) (a := (.ref (eAd E (100 + k0)) :: av.map (mv E)).toArray) (rest := rest) hq ?_ k
  obtain ⟨p, e, s, m, args, below, meth, c', R, cl, sl, Q⟩ := G
  intro H locs ls hl hP hS
  simp only [FitR, Bool.and_eq_true, decide_eq_true_eq] at fit
  obtain ⟨hx, hb, hown, hts, hK, hE, hI, hf1, hf2, hf3, hf4⟩ := hG
  exact va_runV (nL := c'.maxLocals) (Ts := wT) (C := j'.1.cls) (b := eAd E (100 + k0)) (As := av.map (mv E)) ⟨hx, hb, rfl, hown, hts⟩ c ⟨callB_of n hts (wT_in j' mo) rfl rfl rfl (hts _ mo.1) (hts _ ml) mo.2.2 ⟨Nat.le_trans fit.1 hf1, Nat.le_trans fit.2 hf2⟩, hts _ mv'.1, hts _ mv'.2⟩ ⟨Wd_blind _, by rw [hcl]; exact vk_recv (adK := fun k => eAd E (100 + k)) (i := k0) hE.1 hk hS, fun U hU hW => ⟨rfl, Wd_at hK hE hI hP hS hU hW⟩⟩ rfl (by rw [List.length_map]; exact hn) hl.1 (by rw [hst]; simp [List.map_reverse, mv]) (lv_room (by rw [List.map_map]; simpa [Function.comp_def, mv_cat] using hw)) d ⟨hf3, hf4⟩
theorem w_coder {k : Nat} (hk : k < 16) : Mt E mJ0_coder_7d493 [.ref (100 + k)] M (PI 0 M) := by
  refine mt_of (L0 := [some (.ref (100 + k))]) (by decide) rfl rfl (fun G hG hR => ?_)
  refine v_gsC hG rfl dJ0_coder_7d493_0 (q := 3) rfl ?_
  refine v_if_eq hG dJ0_coder_7d493_3 (tgt := 13) rfl (q := 6) rfl (fun hc => absurd hc (by decide)) (fun hc => ?_)
  refine v_aload_0 hG dJ0_coder_7d493_6 (q := 7) rfl ?_
  refine v_sgc hG rfl hk dJ0_coder_7d493_7 (q := 10) rfl ?_
  refine v_goto hG dJ0_coder_7d493_10 (tgt := 14) rfl ?_
  exact v_iret hG hR rfl (by decide) ⟨rfl, rfl⟩ dJ0_coder_7d493_14
theorem w_isLatin1 {k : Nat} (hk : k < 16) : Mt E mJ0_isLatin1_aae02 [.ref (100 + k)] M (PI 1 M) := by
  refine mt_of (L0 := [some (.ref (100 + k))]) (by decide) rfl rfl (fun G hG hR => ?_)
  refine v_gsC hG rfl dJ0_isLatin1_aae02_0 (q := 3) rfl ?_
  refine v_if_eq hG dJ0_isLatin1_aae02_3 (tgt := 17) rfl (q := 6) rfl (fun hc => absurd hc (by decide)) (fun hc => ?_)
  refine v_aload_0 hG dJ0_isLatin1_aae02_6 (q := 7) rfl ?_
  refine v_sgc hG rfl hk dJ0_isLatin1_aae02_7 (q := 10) rfl ?_
  refine v_if_ne hG dJ0_isLatin1_aae02_10 (tgt := 17) rfl (q := 13) rfl (fun hc => absurd rfl hc) (fun hc => ?_)
  refine v_iconst hG (by decide) dJ0_isLatin1_aae02_13 (v := 1) (q := 14) rfl ?_
  refine v_goto hG dJ0_isLatin1_aae02_14 (tgt := 18) rfl ?_
  exact v_iret hG hR rfl (by decide) ⟨rfl, rfl⟩ dJ0_isLatin1_aae02_18
theorem w_len {k : Nat} (hk : k < 16) : Mt E mJ0_length_8abf5 [.ref (100 + k)] M (PI (slI k) M) := by
  refine mt_of (L0 := [some (.ref (100 + k))]) (by decide) rfl rfl (fun G hG hR => ?_)
  refine v_aload_0 hG dJ0_length_8abf5_0 (q := 1) rfl ?_
  refine v_sgv hG rfl hk dJ0_length_8abf5_1 (q := 4) rfl ?_
  refine v_stl hG hk dJ0_length_8abf5_4 (q := 5) rfl ?_
  refine v_aload_0 hG dJ0_length_8abf5_5 (q := 6) rfl ?_
  refine v_callT hG (av := []) (rest := [.int (slI k)]) moJ0_coder_7d493 mvJ0_coder_7d493 ml_RJ0_335 rfl hk rfl (w_coder hk) rfl rfl (Nat.le_of_ble_eq_true rfl) dJ0_length_8abf5_6 (q := 9) rfl ?_
  rintro _ _ ⟨_, rfl, rfl, rfl⟩
  refine v_ishr hG dJ0_length_8abf5_9 (q := 10) rfl ?_
  refine v_iret hG hR rfl rfl ⟨?_, rfl⟩ dJ0_length_8abf5_10
  exact sc_shr0 (sl31 k hk)
theorem w_pre {x n : Int32} {v : Value} (hv : v = .null ∨ v = .ref 400) (h0 : ¬ x < 0) (h1 : x < n) : Mt E mJ3_checkIndex_8e157 [.int x, .int n, v] M (PI x M) := by
  refine mt_of (L0 := [some (.int x), some (.int n), some v]) (by decide) (by rcases hv with rfl | rfl <;> rfl) rfl (fun G hG hR => ?_)
  refine v_iload_0 hG dJ3_checkIndex_8e157_0 (q := 1) rfl ?_
  refine v_if_lt hG dJ3_checkIndex_8e157_1 (tgt := 9) rfl (q := 4) rfl (fun hc => absurd hc h0) (fun hc => ?_)
  refine v_iload_0 hG dJ3_checkIndex_8e157_4 (q := 5) rfl ?_
  refine v_iload_1 hG dJ3_checkIndex_8e157_5 (q := 6) rfl ?_
  refine v_icmp_lt hG dJ3_checkIndex_8e157_6 (tgt := 16) rfl (q := 9) rfl (fun hc => ?_) (fun hc => absurd h1 hc)
  refine v_iload_0 hG dJ3_checkIndex_8e157_16 (q := 17) rfl ?_
  exact v_iret hG hR rfl rfl ⟨rfl, rfl⟩ dJ3_checkIndex_8e157_17
theorem csJ3 : CSo mJ3_checkIndex_8e157 3 := ⟨moJ3_checkIndex_8e157, msJ3_checkIndex_8e157⟩
theorem csJ0c : CSo mJ0_checkIndex_df160 2 := ⟨moJ0_checkIndex_df160, msJ0_checkIndex_df160⟩
theorem csJ1 : CSo mJ1_charAt_3b067 2 := ⟨moJ1_charAt_3b067, msJ1_charAt_3b067⟩
theorem w_chk {x n : Int32} (h0 : ¬ x < 0) (h1 : x < n) : Mt E mJ0_checkIndex_df160 [.int x, .int n] M (PV M) := by
  refine mt_of (L0 := [some (.int x), some (.int n)]) (by decide) rfl rfl (fun G hG hR => ?_)
  refine v_iload_0 hG dJ0_checkIndex_df160_0 (q := 1) rfl ?_
  refine v_iload_1 hG dJ0_checkIndex_df160_1 (q := 2) rfl ?_
  refine v_gsF hG rfl dJ0_checkIndex_df160_2 (q := 5) rfl (fun v hv => ?_)
  refine v_cS3I hG csJ3 ml_RJ0_1059 rfl (w_pre hv h0 h1) (Nat.le_of_ble_eq_true rfl) dJ0_checkIndex_df160_5 (q := 8) rfl ?_
  refine v_pop hG rfl dJ0_checkIndex_df160_8 (q := 9) rfl ?_
  exact v_vret hG hR rfl rfl dJ0_checkIndex_df160_9
theorem sc_char : ∀ k, k < 16 → ∀ i, i < slen.getD k 0 → (((sbyt.getD k []).getD i 0 &&& 255).toUInt32.toUInt16.toUInt32.toInt32 = (sbyt.getD k []).getD i 0) ∧ narrow .char (.int ((sbyt.getD k []).getD i 0)) = .int ((sbyt.getD k []).getD i 0) := by decide
theorem w_chL {k : Nat} {x : Int32} (hk : k < 16) (hx : vp_in x (slen.getD k 0)) : Mt E mJ1_charAt_3b067 [.ref (130 + k), .int x] M (PI (scI k x) M) := by
  have hs : slen.getD k 0 < 2 ^ 31 := sl31 k hk
  obtain ⟨n, hn, e⟩ := vp_in_of hx hs
  have hn31 : n < 2 ^ 31 := Nat.lt_trans hn hs
  have hc := sc_char k hk (ix x) (by rw [e]; show (nI n).toNatClampNeg < _; rw [nI_clamp hn31]; exact hn)
  refine mt_of (L0 := [some (.ref (130 + k)), some (.int x)]) (by decide) rfl rfl (fun G hG hR => ?_)
  refine v_iload_1 hG dJ1_charAt_3b067_0 (q := 1) rfl ?_
  refine v_aload_0 hG dJ1_charAt_3b067_1 (q := 2) rfl ?_
  refine v_stl hG hk dJ1_charAt_3b067_2 (q := 3) rfl ?_
  refine v_cS2V hG csJ0c ml_RJ1_9 rfl (w_chk (by rw [e]; exact nI_pos hn31) (by rw [e]; exact nI_lt hn hs)) (Nat.le_of_ble_eq_true rfl) dJ1_charAt_3b067_3 (q := 6) rfl ?_
  refine v_aload_0 hG dJ1_charAt_3b067_6 (q := 7) rfl ?_
  refine v_iload_1 hG dJ1_charAt_3b067_7 (q := 8) rfl ?_
  refine v_stb hG hk hx dJ1_charAt_3b067_8 (q := 9) rfl ?_
  refine v_sipush hG (by decide) dJ1_charAt_3b067_9 (v := 255) (q := 12) rfl ?_
  refine v_iand hG dJ1_charAt_3b067_12 (q := 13) rfl ?_
  refine v_i2c hG dJ1_charAt_3b067_13 (q := 14) rfl ?_
  refine v_iret hG hR rfl ?_ ⟨hc.1, rfl⟩ dJ1_charAt_3b067_14
  show narrow .char (.int (((sbyt.getD k []).getD (ix x) 0 &&& 255).toUInt32.toUInt16.toUInt32.toInt32)) = .int (((sbyt.getD k []).getD (ix x) 0 &&& 255).toUInt32.toUInt16.toUInt32.toInt32)
  rw [hc.1]
  exact hc.2
theorem w_chr {k : Nat} {x : Int32} (hk : k < 16) (hx : vp_in x (slen.getD k 0)) : Mt E mJ0_charAt_5068e [.ref (100 + k), .int x] M (PI (scI k x) M) := by
  have hs : slen.getD k 0 < 2 ^ 31 := sl31 k hk
  obtain ⟨n, hn, e⟩ := vp_in_of hx hs
  have hn31 : n < 2 ^ 31 := Nat.lt_trans hn hs
  have hc := sc_char k hk (ix x) (by rw [e]; show (nI n).toNatClampNeg < _; rw [nI_clamp hn31]; exact hn)
  refine mt_of (L0 := [some (.ref (100 + k)), some (.int x)]) (by decide) rfl rfl (fun G hG hR => ?_)
  refine v_aload_0 hG dJ0_charAt_5068e_0 (q := 1) rfl ?_
  refine v_callT hG (av := []) (rest := []) moJ0_isLatin1_aae02 mvJ0_isLatin1_aae02 ml_RJ0_492 rfl hk rfl (w_isLatin1 hk) rfl rfl (Nat.le_of_ble_eq_true rfl) dJ0_charAt_5068e_1 (q := 4) rfl ?_
  rintro _ _ ⟨_, rfl, rfl, rfl⟩
  refine v_if_eq hG dJ0_charAt_5068e_4 (tgt := 16) rfl (q := 7) rfl (fun hc => absurd hc (by decide)) (fun _ => ?_)
  refine v_aload_0 hG dJ0_charAt_5068e_7 (q := 8) rfl ?_
  refine v_sgv hG rfl hk dJ0_charAt_5068e_8 (q := 11) rfl ?_
  refine v_iload_1 hG dJ0_charAt_5068e_11 (q := 12) rfl ?_
  refine v_cS2I hG csJ1 ml_RJ0_495 rfl (w_chL hk hx) (Nat.le_of_ble_eq_true rfl) dJ0_charAt_5068e_12 (q := 15) rfl ?_
  exact v_iret hG hR rfl hc.2 ⟨rfl, rfl⟩ dJ0_charAt_5068e_15
theorem v_cSL (hG : Gd E j G) {idx k : Nat} (ml : Cond.methodLink j.1.cls idx yJ0_length_8abf5 ∈ wT) (fit : FitR mJ0_length_8abf5 j = true) (hk : k < 16) (hw : (st.map fun v => v.category).sum ≤ 8) (d : decode j.2.1 pc = .ok (.invokevirtual idx, 3)) (hq : pc + 3 = q) (kk : V E G q L (.int (slI k) :: st) M) : V E G pc L (.ref (100 + k) :: st) M := by
  refine v_callT hG (av := []) (rest := st) moJ0_length_8abf5 mvJ0_length_8abf5 ml fit hk rfl (w_len hk) rfl rfl hw d hq ?_
  rintro _ _ ⟨_, rfl, rfl, rfl⟩
  exact kk
theorem v_cSC (hG : Gd E j G) {idx k : Nat} {x : Int32} (ml : Cond.methodLink j.1.cls idx yJ0_charAt_5068e ∈ wT) (fit : FitR mJ0_charAt_5068e j = true) (hk : k < 16) (hx : vp_in x (slen.getD k 0)) (hw : (st.map fun v => v.category).sum ≤ 8) (d : decode j.2.1 pc = .ok (.invokevirtual idx, 3)) (hq : pc + 3 = q) (kk : V E G q L (.int (scI k x) :: st) M) : V E G pc L (.int x :: .ref (100 + k) :: st) M := by
  refine v_callT hG (av := [.int x]) (rest := st) moJ0_charAt_5068e mvJ0_charAt_5068e ml fit hk rfl (w_chr hk hx) rfl rfl hw d hq ?_
  rintro _ _ ⟨_, rfl, rfl, rfl⟩
  exact kk
end ENG5

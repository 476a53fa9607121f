theorem w_X2_take_b4 {E : EB} {G : GB} (hG : Gd E mX2_take G) {M : Mem} {R : Mem} (hR : Rt E mX2_take (PV R) G) {k4 : Int32 → Int32 → Mem → Option (Mem)} (hk4 : ∀ (x1 : Int32) (x3 : Int32) (M : Mem), k4 x1 x3 M = some R → V E G 4 [some (.ref 49), some (.int x1), none, some (.int x3)] [] M) {x1 : Int32} {x3 : Int32} (h : f_X2_take_b4 k4 x1 x3 M = some R) : V E G 4 [some (.ref 49), some (.int x1), none, some (.int x3)] [] M := by
  unfold f_X2_take_b4 at h
  refine v_iload_3 hG dX2_take_4 (q := 5) rfl ?_
  refine v_if_lt hG dX2_take_5 (tgt := 52) rfl (q := 8) rfl (fun hc => ?_) (fun hc => ?_)
  · replace h := ifp hc h
    exact v_vret hG hR rfl (spv h) dX2_take_52
  · replace h := ifn hc h
    refine v_aload_0 hG dX2_take_8 (q := 9) rfl ?_
    refine gt_RX2_15 hG rfl kk_49 dX2_take_9 (q := 12) rfl ?_
    refine v_bipush hG cb_120 dX2_take_12 (q := 14) rfl ?_
    refine v_icmp_ge hG dX2_take_14 (tgt := 52) rfl (q := 17) rfl (fun hc => ?_) (fun hc => ?_)
    · replace h := ifp hc h
      exact v_vret hG hR rfl (spv h) dX2_take_52
    · replace h := ifn hc h
      refine v_aload_0 hG dX2_take_17 (q := 18) rfl ?_
      refine gt_RX2_9 hG rfl kk_49 dX2_take_18 (q := 21) rfl ?_
      refine v_aload_0 hG dX2_take_21 (q := 22) rfl ?_
      refine gt_RX2_15 hG rfl kk_49 dX2_take_22 (q := 25) rfl ?_
      refine v_iload_1 hG dX2_take_25 (q := 26) rfl ?_
      refine v_bipush hG cb_8 dX2_take_26 (q := 28) rfl ?_
      refine v_iload_3 hG dX2_take_28 (q := 29) rfl ?_
      refine v_imul hG dX2_take_29 (q := 30) rfl ?_
      refine v_iushr hG dX2_take_30 (q := 31) rfl ?_
      refine v_sipush hG cs_255 dX2_take_31 (q := 34) rfl ?_
      refine v_iand hG dX2_take_34 (q := 35) rfl ?_
      obtain ⟨c_2, h⟩ := ck_some h
      refine v_iast hG kk_50 rfl c_2 dX2_take_35 (q := 36) rfl ?_
      refine v_topM (fun M_3 hy => ?_)
      replace h := letv_at hy h
      clear hy
      refine v_aload_0 hG dX2_take_36 (q := 37) rfl ?_
      refine v_dup hG rfl dX2_take_37 (q := 38) rfl ?_
      refine gt_RX2_15 hG rfl kk_49 dX2_take_38 (q := 41) rfl ?_
      refine v_iconst hG ci_1 dX2_take_41 (q := 42) rfl ?_
      refine v_iadd hG dX2_take_42 (q := 43) rfl ?_
      refine pt_RX2_15 hG rfl kk_49 dX2_take_43 (q := 46) rfl ?_
      refine v_topM (fun M_4 hy => ?_)
      replace h := letv_at hy h
      clear hy
      refine v_iinc_3 hG rfl dX2_take_46 (congrArg _ ci_m1) (q := 49) rfl ?_
      refine v_goto hG dX2_take_49 (tgt := 4) rfl ?_
      exact hk4 _ _ _ h
theorem w_X2_take_l4 {E : EB} {G : GB} (hG : Gd E mX2_take G) {R : Mem} (hR : Rt E mX2_take (PV R) G) : ∀ (n : Nat) (x1 : Int32) (x3 : Int32) (M : Mem), f_X2_take_l4 n x1 x3 M = some R → V E G 4 [some (.ref 49), some (.int x1), none, some (.int x3)] [] M := by
  intro n
  induction n with
  | zero => intro x1 x3 M h; cases h
  | succ n ih => intro x1 x3 M h; exact w_X2_take_b4 hG hR ih h
theorem w_X2_take {E : EB} {x1 : Int32} {x2 : Int32} {M : Mem} {R : Mem} (h : f_X2_take x1 x2 M = some R) : Mt E mX2_take [.ref 49, .int x1, .int x2] M (PV R) := by
  refine mt_of (L0 := [some (.ref 49), some (.int x1), some (.int x2), none]) (by decide) rfl rfl (fun G hG hR => ?_)
  unfold f_X2_take at h
  refine v_iload_2 hG dX2_take_0 (q := 1) rfl ?_
  refine v_iconst hG ci_1 dX2_take_1 (q := 2) rfl ?_
  refine v_isub hG dX2_take_2 (q := 3) rfl ?_
  refine v_topi (fun x3_1 hy => ?_)
  replace h := letv_at hy h
  clear hy
  refine v_istore_3 hG rfl dX2_take_3 (q := 4) rfl ?_
  refine v_drop (n := 2) (L' := [some (.ref 49), some (.int x1), none, some (.int x3_1)]) rfl ?_
  exact w_X2_take_l4 hG hR FU _ _ _ h
theorem cvX2_take : CVo mX2_take 2 2 := ⟨moX2_take, mvX2_take, by decide, _, _, rfl⟩
theorem w_X2_isDigit {E : EB} {x0 : Int32} {M : Mem} {R : Bool} (h : f_X2_isDigit x0 M = some R) : Mt E mX2_isDigit [.int x0] M (PI (b2i R) M) := by
  refine mt_of (L0 := [some (.int x0)]) (by decide) rfl rfl (fun G hG hR => ?_)
  unfold f_X2_isDigit at h
  refine v_iload_0 hG dX2_isDigit_0 (q := 1) rfl ?_
  refine v_bipush hG cb_48 dX2_isDigit_1 (q := 3) rfl ?_
  refine v_icmp_lt hG dX2_isDigit_3 (tgt := 16) rfl (q := 6) rfl (fun hc => ?_) (fun hc => ?_)
  · replace h := ifp hc h
    refine v_iconst hG ci_0 dX2_isDigit_16 (q := 17) rfl ?_
    exact v_iret hG hR rfl rfl (sp1b h) dX2_isDigit_17
  · replace h := ifn hc h
    refine v_iload_0 hG dX2_isDigit_6 (q := 7) rfl ?_
    refine v_bipush hG cb_57 dX2_isDigit_7 (q := 9) rfl ?_
    refine v_icmp_gt hG dX2_isDigit_9 (tgt := 16) rfl (q := 12) rfl (fun hc => ?_) (fun hc => ?_)
    · replace h := ifp hc h
      refine v_iconst hG ci_0 dX2_isDigit_16 (q := 17) rfl ?_
      exact v_iret hG hR rfl rfl (sp1b h) dX2_isDigit_17
    · replace h := ifn hc h
      refine v_iconst hG ci_1 dX2_isDigit_12 (q := 13) rfl ?_
      refine v_goto hG dX2_isDigit_13 (tgt := 17) rfl ?_
      exact v_iret hG hR rfl rfl (sp1b h) dX2_isDigit_17
theorem csX2_isDigit : CSo mX2_isDigit 1 := ⟨moX2_isDigit, msX2_isDigit⟩
theorem w_X2_isLetter {E : EB} {x0 : Int32} {M : Mem} {R : Bool} (h : f_X2_isLetter x0 M = some R) : Mt E mX2_isLetter [.int x0] M (PI (b2i R) M) := by
  refine mt_of (L0 := [some (.int x0)]) (by decide) rfl rfl (fun G hG hR => ?_)
  unfold f_X2_isLetter at h
  refine v_iload_0 hG dX2_isLetter_0 (q := 1) rfl ?_
  refine v_bipush hG cb_97 dX2_isLetter_1 (q := 3) rfl ?_
  refine v_icmp_lt hG dX2_isLetter_3 (tgt := 16) rfl (q := 6) rfl (fun hc => ?_) (fun hc => ?_)
  · replace h := ifp hc h
    refine v_iconst hG ci_0 dX2_isLetter_16 (q := 17) rfl ?_
    exact v_iret hG hR rfl rfl (sp1b h) dX2_isLetter_17
  · replace h := ifn hc h
    refine v_iload_0 hG dX2_isLetter_6 (q := 7) rfl ?_
    refine v_bipush hG cb_122 dX2_isLetter_7 (q := 9) rfl ?_
    refine v_icmp_gt hG dX2_isLetter_9 (tgt := 16) rfl (q := 12) rfl (fun hc => ?_) (fun hc => ?_)
    · replace h := ifp hc h
      refine v_iconst hG ci_0 dX2_isLetter_16 (q := 17) rfl ?_
      exact v_iret hG hR rfl rfl (sp1b h) dX2_isLetter_17
    · replace h := ifn hc h
      refine v_iconst hG ci_1 dX2_isLetter_12 (q := 13) rfl ?_
      refine v_goto hG dX2_isLetter_13 (tgt := 17) rfl ?_
      exact v_iret hG hR rfl rfl (sp1b h) dX2_isLetter_17
theorem csX2_isLetter : CSo mX2_isLetter 1 := ⟨moX2_isLetter, msX2_isLetter⟩
theorem w_X2_takeNumber_b10 {E : EB} {G : GB} (hG : Gd E mX2_takeNumber G) {M : Mem} {R : Mem} (hR : Rt E mX2_takeNumber (PV R) G) {k10 : Mem → Option (Mem)} (hk10 : ∀ (M : Mem), k10 M = some R → V E G 10 [some (.ref 49)] [] M) (h : f_X2_takeNumber_b10 k10 M = some R) : V E G 10 [some (.ref 49)] [] M := by
  unfold f_X2_takeNumber_b10 at h
  refine v_aload_0 hG dX2_takeNumber_10 (q := 11) rfl ?_
  refine gt_RX2_19 hG rfl kk_49 dX2_takeNumber_11 (q := 14) rfl ?_
  refine v_aload_0 hG dX2_takeNumber_14 (q := 15) rfl ?_
  refine gt_RX2_15 hG rfl kk_49 dX2_takeNumber_15 (q := 18) rfl ?_
  refine v_icmp_ge hG dX2_takeNumber_18 (tgt := 78) rfl (q := 21) rfl (fun hc => ?_) (fun hc => ?_)
  · replace h := ifp hc h
    exact v_vret hG hR rfl (spv h) dX2_takeNumber_78
  · replace h := ifn hc h
    refine v_aload_0 hG dX2_takeNumber_21 (q := 22) rfl ?_
    refine gt_RX2_9 hG rfl kk_49 dX2_takeNumber_22 (q := 25) rfl ?_
    refine v_aload_0 hG dX2_takeNumber_25 (q := 26) rfl ?_
    refine gt_RX2_19 hG rfl kk_49 dX2_takeNumber_26 (q := 29) rfl ?_
    obtain ⟨c_3, h⟩ := ck_some h
    refine v_iald hG kk_50 rfl c_3 dX2_takeNumber_29 (q := 30) rfl ?_
    obtain ⟨r_4, hr_4, h⟩ := bnd h
    refine v_cS1I hG csX2_isDigit ml_RX2_38 rfl (w_X2_isDigit hr_4) (Nat.le_of_ble_eq_true rfl) dX2_takeNumber_30 (q := 33) rfl ?_
    refine v_if_eq hG dX2_takeNumber_33 (tgt := 78) rfl (q := 36) rfl (fun hc => ?_) (fun hc => ?_)
    · replace h := ifp hc h
      exact v_vret hG hR rfl (spv h) dX2_takeNumber_78
    · replace h := ifn hc h
      refine v_aload_0 hG dX2_takeNumber_36 (q := 37) rfl ?_
      refine v_bipush hG cb_10 dX2_takeNumber_37 (q := 39) rfl ?_
      refine v_aload_0 hG dX2_takeNumber_39 (q := 40) rfl ?_
      refine gt_RX2_44 hG rfl kk_49 dX2_takeNumber_40 (q := 43) rfl ?_
      refine v_imul hG dX2_takeNumber_43 (q := 44) rfl ?_
      refine v_aload_0 hG dX2_takeNumber_44 (q := 45) rfl ?_
      refine gt_RX2_9 hG rfl kk_49 dX2_takeNumber_45 (q := 48) rfl ?_
      refine v_aload_0 hG dX2_takeNumber_48 (q := 49) rfl ?_
      refine gt_RX2_19 hG rfl kk_49 dX2_takeNumber_49 (q := 52) rfl ?_
      obtain ⟨c_5, h⟩ := ck_some h
      refine v_iald hG kk_50 rfl c_5 dX2_takeNumber_52 (q := 53) rfl ?_
      refine v_iadd hG dX2_takeNumber_53 (q := 54) rfl ?_
      refine v_bipush hG cb_48 dX2_takeNumber_54 (q := 56) rfl ?_
      refine v_isub hG dX2_takeNumber_56 (q := 57) rfl ?_
      refine v_ldc hG kc_RX2_47 dX2_takeNumber_57 (q := 59) rfl ?_
      refine v_mmin hG ml_RX2_48 rfl rfl (Nat.le_of_ble_eq_true rfl) dX2_takeNumber_59 (q := 62) rfl ?_
      refine pt_RX2_44 hG rfl kk_49 dX2_takeNumber_62 (q := 65) rfl ?_
      refine v_topM (fun M_6 hy => ?_)
      replace h := letv_at hy h
      clear hy
      refine v_aload_0 hG dX2_takeNumber_65 (q := 66) rfl ?_
      refine v_dup hG rfl dX2_takeNumber_66 (q := 67) rfl ?_
      refine gt_RX2_19 hG rfl kk_49 dX2_takeNumber_67 (q := 70) rfl ?_
      refine v_iconst hG ci_1 dX2_takeNumber_70 (q := 71) rfl ?_
      refine v_iadd hG dX2_takeNumber_71 (q := 72) rfl ?_
      refine pt_RX2_19 hG rfl kk_49 dX2_takeNumber_72 (q := 75) rfl ?_
      refine v_topM (fun M_7 hy => ?_)
      replace h := letv_at hy h
      clear hy
      refine v_goto hG dX2_takeNumber_75 (tgt := 10) rfl ?_
      exact hk10 _ h
theorem w_X2_takeNumber_l10 {E : EB} {G : GB} (hG : Gd E mX2_takeNumber G) {R : Mem} (hR : Rt E mX2_takeNumber (PV R) G) : ∀ (n : Nat) (M : Mem), f_X2_takeNumber_l10 n M = some R → V E G 10 [some (.ref 49)] [] M := by
  intro n
  induction n with
  | zero => intro M h; cases h
  | succ n ih => intro M h; exact w_X2_takeNumber_b10 hG hR ih h
theorem w_X2_takeNumber {E : EB} {M : Mem} {R : Mem} (h : f_X2_takeNumber M = some R) : Mt E mX2_takeNumber [.ref 49] M (PV R) := by
  refine mt_of (L0 := [some (.ref 49)]) (by decide) rfl rfl (fun G hG hR => ?_)
  unfold f_X2_takeNumber at h
  refine v_aload_0 hG dX2_takeNumber_0 (q := 1) rfl ?_
  refine v_iconst hG ci_2 dX2_takeNumber_1 (q := 2) rfl ?_
  refine pt_RX2_28 hG rfl kk_49 dX2_takeNumber_2 (q := 5) rfl ?_
  refine v_topM (fun M_1 hy => ?_)
  replace h := letv_at hy h
  clear hy
  refine v_aload_0 hG dX2_takeNumber_5 (q := 6) rfl ?_
  refine v_iconst hG ci_0 dX2_takeNumber_6 (q := 7) rfl ?_
  refine pt_RX2_44 hG rfl kk_49 dX2_takeNumber_7 (q := 10) rfl ?_
  refine v_topM (fun M_2 hy => ?_)
  replace h := letv_at hy h
  clear hy
  exact w_X2_takeNumber_l10 hG hR FU _ h
theorem cvX2_takeNumber : CVo mX2_takeNumber 0 2 := ⟨moX2_takeNumber, mvX2_takeNumber, by decide, _, _, rfl⟩
theorem w_X2_takeWord_b5 {E : EB} {G : GB} (hG : Gd E mX2_takeWord G) {M : Mem} {R : Mem} (hR : Rt E mX2_takeWord (PV R) G) {k5 : Mem → Option (Mem)} (hk5 : ∀ (M : Mem), k5 M = some R → V E G 5 [some (.ref 49)] [] M) (h : f_X2_takeWord_b5 k5 M = some R) : V E G 5 [some (.ref 49)] [] M := by
  unfold f_X2_takeWord_b5 at h
  refine v_aload_0 hG dX2_takeWord_5 (q := 6) rfl ?_
  refine gt_RX2_19 hG rfl kk_49 dX2_takeWord_6 (q := 9) rfl ?_
  refine v_aload_0 hG dX2_takeWord_9 (q := 10) rfl ?_
  refine gt_RX2_15 hG rfl kk_49 dX2_takeWord_10 (q := 13) rfl ?_
  refine v_icmp_ge hG dX2_takeWord_13 (tgt := 44) rfl (q := 16) rfl (fun hc => ?_) (fun hc => ?_)
  · replace h := ifp hc h
    exact v_vret hG hR rfl (spv h) dX2_takeWord_44
  · replace h := ifn hc h
    refine v_aload_0 hG dX2_takeWord_16 (q := 17) rfl ?_
    refine gt_RX2_9 hG rfl kk_49 dX2_takeWord_17 (q := 20) rfl ?_
    refine v_aload_0 hG dX2_takeWord_20 (q := 21) rfl ?_
    refine gt_RX2_19 hG rfl kk_49 dX2_takeWord_21 (q := 24) rfl ?_
    obtain ⟨c_2, h⟩ := ck_some h
    refine v_iald hG kk_50 rfl c_2 dX2_takeWord_24 (q := 25) rfl ?_
    obtain ⟨r_3, hr_3, h⟩ := bnd h
    refine v_cS1I hG csX2_isLetter ml_RX2_31 rfl (w_X2_isLetter hr_3) (Nat.le_of_ble_eq_true rfl) dX2_takeWord_25 (q := 28) rfl ?_
    refine v_if_eq hG dX2_takeWord_28 (tgt := 44) rfl (q := 31) rfl (fun hc => ?_) (fun hc => ?_)
    · replace h := ifp hc h
      exact v_vret hG hR rfl (spv h) dX2_takeWord_44
    · replace h := ifn hc h
      refine v_aload_0 hG dX2_takeWord_31 (q := 32) rfl ?_
      refine v_dup hG rfl dX2_takeWord_32 (q := 33) rfl ?_
      refine gt_RX2_19 hG rfl kk_49 dX2_takeWord_33 (q := 36) rfl ?_
      refine v_iconst hG ci_1 dX2_takeWord_36 (q := 37) rfl ?_
      refine v_iadd hG dX2_takeWord_37 (q := 38) rfl ?_
      refine pt_RX2_19 hG rfl kk_49 dX2_takeWord_38 (q := 41) rfl ?_
      refine v_topM (fun M_4 hy => ?_)
      replace h := letv_at hy h
      clear hy
      refine v_goto hG dX2_takeWord_41 (tgt := 5) rfl ?_
      exact hk5 _ h
theorem w_X2_takeWord_l5 {E : EB} {G : GB} (hG : Gd E mX2_takeWord G) {R : Mem} (hR : Rt E mX2_takeWord (PV R) G) : ∀ (n : Nat) (M : Mem), f_X2_takeWord_l5 n M = some R → V E G 5 [some (.ref 49)] [] M := by
  intro n
  induction n with
  | zero => intro M h; cases h
  | succ n ih => intro M h; exact w_X2_takeWord_b5 hG hR ih h
theorem w_X2_takeWord {E : EB} {M : Mem} {R : Mem} (h : f_X2_takeWord M = some R) : Mt E mX2_takeWord [.ref 49] M (PV R) := by
  refine mt_of (L0 := [some (.ref 49)]) (by decide) rfl rfl (fun G hG hR => ?_)
  unfold f_X2_takeWord at h
  refine v_aload_0 hG dX2_takeWord_0 (q := 1) rfl ?_
  refine v_iconst hG ci_1 dX2_takeWord_1 (q := 2) rfl ?_
  refine pt_RX2_28 hG rfl kk_49 dX2_takeWord_2 (q := 5) rfl ?_
  refine v_topM (fun M_1 hy => ?_)
  replace h := letv_at hy h
  clear hy
  exact w_X2_takeWord_l5 hG hR FU _ h
theorem cvX2_takeWord : CVo mX2_takeWord 0 2 := ⟨moX2_takeWord, mvX2_takeWord, by decide, _, _, rfl⟩
theorem w_X2_step_j38 {E : EB} {G : GB} (hG : Gd E mX2_step G) {M : Mem} {R : Mem} (hR : Rt E mX2_step (PV R) G) (h : f_X2_step_j38 M = some R) : V E G 38 [some (.ref 49)] [] M := by
  unfold f_X2_step_j38 at h
  refine v_aload_0 hG dX2_step_38 (q := 39) rfl ?_
  refine v_aload_0 hG dX2_step_39 (q := 40) rfl ?_
  refine gt_RX2_19 hG rfl kk_49 dX2_step_40 (q := 43) rfl ?_
  refine pt_RX2_25 hG rfl kk_49 dX2_step_43 (q := 46) rfl ?_
  refine v_topM (fun M_5 hy => ?_)
  replace h := letv_at hy h
  clear hy
  refine v_aload_0 hG dX2_step_46 (q := 47) rfl ?_
  refine gt_RX2_19 hG rfl kk_49 dX2_step_47 (q := 50) rfl ?_
  refine v_aload_0 hG dX2_step_50 (q := 51) rfl ?_
  refine gt_RX2_15 hG rfl kk_49 dX2_step_51 (q := 54) rfl ?_
  refine v_icmp_lt hG dX2_step_54 (tgt := 65) rfl (q := 57) rfl (fun hc => ?_) (fun hc => ?_)
  · replace h := ifp hc h
    refine v_aload_0 hG dX2_step_65 (q := 66) rfl ?_
    refine gt_RX2_9 hG rfl kk_49 dX2_step_66 (q := 69) rfl ?_
    refine v_aload_0 hG dX2_step_69 (q := 70) rfl ?_
    refine gt_RX2_19 hG rfl kk_49 dX2_step_70 (q := 73) rfl ?_
    obtain ⟨c_6, h⟩ := ck_some h
    refine v_iald hG kk_50 rfl c_6 dX2_step_73 (q := 74) rfl ?_
    obtain ⟨r_7, hr_7, h⟩ := bnd h
    refine v_cS1I hG csX2_isLetter ml_RX2_31 rfl (w_X2_isLetter hr_7) (Nat.le_of_ble_eq_true rfl) dX2_step_74 (q := 77) rfl ?_
    refine v_if_eq hG dX2_step_77 (tgt := 87) rfl (q := 80) rfl (fun hc => ?_) (fun hc => ?_)
    · replace h := ifp hc h
      refine v_aload_0 hG dX2_step_87 (q := 88) rfl ?_
      refine gt_RX2_9 hG rfl kk_49 dX2_step_88 (q := 91) rfl ?_
      refine v_aload_0 hG dX2_step_91 (q := 92) rfl ?_
      refine gt_RX2_19 hG rfl kk_49 dX2_step_92 (q := 95) rfl ?_
      obtain ⟨c_8, h⟩ := ck_some h
      refine v_iald hG kk_50 rfl c_8 dX2_step_95 (q := 96) rfl ?_
      obtain ⟨r_9, hr_9, h⟩ := bnd h
      refine v_cS1I hG csX2_isDigit ml_RX2_38 rfl (w_X2_isDigit hr_9) (Nat.le_of_ble_eq_true rfl) dX2_step_96 (q := 99) rfl ?_
      refine v_if_eq hG dX2_step_99 (tgt := 109) rfl (q := 102) rfl (fun hc => ?_) (fun hc => ?_)
      · replace h := ifp hc h
        refine v_aload_0 hG dX2_step_109 (q := 110) rfl ?_
        refine gt_RX2_9 hG rfl kk_49 dX2_step_110 (q := 113) rfl ?_
        refine v_aload_0 hG dX2_step_113 (q := 114) rfl ?_
        refine gt_RX2_19 hG rfl kk_49 dX2_step_114 (q := 117) rfl ?_
        obtain ⟨c_10, h⟩ := ck_some h
        refine v_iald hG kk_50 rfl c_10 dX2_step_117 (q := 118) rfl ?_
        refine v_bipush hG cb_59 dX2_step_118 (q := 120) rfl ?_
        refine v_icmp_ne hG dX2_step_120 (tgt := 141) rfl (q := 123) rfl (fun hc => ?_) (fun hc => ?_)
        · replace h := ifn hc h
          refine v_aload_0 hG dX2_step_141 (q := 142) rfl ?_
          refine v_iconst hG ci_5 dX2_step_142 (q := 143) rfl ?_
          refine pt_RX2_28 hG rfl kk_49 dX2_step_143 (q := 146) rfl ?_
          refine v_topM (fun M_11 hy => ?_)
          replace h := letv_at hy h
          clear hy
          exact v_vret hG hR rfl (spv h) dX2_step_146
        · replace h := ifp hc h
          refine v_aload_0 hG dX2_step_123 (q := 124) rfl ?_
          refine v_iconst hG ci_3 dX2_step_124 (q := 125) rfl ?_
          refine pt_RX2_28 hG rfl kk_49 dX2_step_125 (q := 128) rfl ?_
          refine v_topM (fun M_12 hy => ?_)
          replace h := letv_at hy h
          clear hy
          refine v_aload_0 hG dX2_step_128 (q := 129) rfl ?_
          refine v_dup hG rfl dX2_step_129 (q := 130) rfl ?_
          refine gt_RX2_19 hG rfl kk_49 dX2_step_130 (q := 133) rfl ?_
          refine v_iconst hG ci_1 dX2_step_133 (q := 134) rfl ?_
          refine v_iadd hG dX2_step_134 (q := 135) rfl ?_
          refine pt_RX2_19 hG rfl kk_49 dX2_step_135 (q := 138) rfl ?_
          refine v_topM (fun M_13 hy => ?_)
          replace h := letv_at hy h
          clear hy
          refine v_goto hG dX2_step_138 (tgt := 146) rfl ?_
          exact v_vret hG hR rfl (spv h) dX2_step_146
      · replace h := ifn hc h
        refine v_aload_0 hG dX2_step_102 (q := 103) rfl ?_
        obtain ⟨r_14, hr_14, h⟩ := bnd h
        refine v_cV0V hG cvX2_takeNumber ml_RX2_41 rfl kk_49 (w_X2_takeNumber hr_14) (Nat.le_of_ble_eq_true rfl) dX2_step_103 (q := 106) rfl ?_
        refine v_goto hG dX2_step_106 (tgt := 146) rfl ?_
        exact v_vret hG hR rfl (spv h) dX2_step_146
    · replace h := ifn hc h
      refine v_aload_0 hG dX2_step_80 (q := 81) rfl ?_
      obtain ⟨r_15, hr_15, h⟩ := bnd h
      refine v_cV0V hG cvX2_takeWord ml_RX2_35 rfl kk_49 (w_X2_takeWord hr_15) (Nat.le_of_ble_eq_true rfl) dX2_step_81 (q := 84) rfl ?_
      refine v_goto hG dX2_step_84 (tgt := 146) rfl ?_
      exact v_vret hG hR rfl (spv h) dX2_step_146
  · replace h := ifn hc h
    refine v_aload_0 hG dX2_step_57 (q := 58) rfl ?_
    refine v_iconst hG ci_4 dX2_step_58 (q := 59) rfl ?_
    refine pt_RX2_28 hG rfl kk_49 dX2_step_59 (q := 62) rfl ?_
    refine v_topM (fun M_16 hy => ?_)
    replace h := letv_at hy h
    clear hy
    refine v_goto hG dX2_step_62 (tgt := 146) rfl ?_
    exact v_vret hG hR rfl (spv h) dX2_step_146
theorem w_X2_step_b0 {E : EB} {G : GB} (hG : Gd E mX2_step G) {M : Mem} {R : Mem} (hR : Rt E mX2_step (PV R) G) {k0 : Mem → Option (Mem)} (hk0 : ∀ (M : Mem), k0 M = some R → V E G 0 [some (.ref 49)] [] M) (h : f_X2_step_b0 k0 M = some R) : V E G 0 [some (.ref 49)] [] M := by
  unfold f_X2_step_b0 at h
  refine v_aload_0 hG dX2_step_0 (q := 1) rfl ?_
  refine gt_RX2_19 hG rfl kk_49 dX2_step_1 (q := 4) rfl ?_
  refine v_aload_0 hG dX2_step_4 (q := 5) rfl ?_
  refine gt_RX2_15 hG rfl kk_49 dX2_step_5 (q := 8) rfl ?_
  refine v_icmp_ge hG dX2_step_8 (tgt := 38) rfl (q := 11) rfl (fun hc => ?_) (fun hc => ?_)
  · replace h := ifp hc h
    exact w_X2_step_j38 hG hR h
  · replace h := ifn hc h
    refine v_aload_0 hG dX2_step_11 (q := 12) rfl ?_
    refine gt_RX2_9 hG rfl kk_49 dX2_step_12 (q := 15) rfl ?_
    refine v_aload_0 hG dX2_step_15 (q := 16) rfl ?_
    refine gt_RX2_19 hG rfl kk_49 dX2_step_16 (q := 19) rfl ?_
    obtain ⟨c_3, h⟩ := ck_some h
    refine v_iald hG kk_50 rfl c_3 dX2_step_19 (q := 20) rfl ?_
    refine v_bipush hG cb_32 dX2_step_20 (q := 22) rfl ?_
    refine v_icmp_ne hG dX2_step_22 (tgt := 38) rfl (q := 25) rfl (fun hc => ?_) (fun hc => ?_)
    · replace h := ifn hc h
      exact w_X2_step_j38 hG hR h
    · replace h := ifp hc h
      refine v_aload_0 hG dX2_step_25 (q := 26) rfl ?_
      refine v_dup hG rfl dX2_step_26 (q := 27) rfl ?_
      refine gt_RX2_19 hG rfl kk_49 dX2_step_27 (q := 30) rfl ?_
      refine v_iconst hG ci_1 dX2_step_30 (q := 31) rfl ?_
      refine v_iadd hG dX2_step_31 (q := 32) rfl ?_
      refine pt_RX2_19 hG rfl kk_49 dX2_step_32 (q := 35) rfl ?_
      refine v_topM (fun M_4 hy => ?_)
      replace h := letv_at hy h
      clear hy
      refine v_goto hG dX2_step_35 (tgt := 0) rfl ?_
      exact hk0 _ h
theorem w_X2_step_l0 {E : EB} {G : GB} (hG : Gd E mX2_step G) {R : Mem} (hR : Rt E mX2_step (PV R) G) : ∀ (n : Nat) (M : Mem), f_X2_step_l0 n M = some R → V E G 0 [some (.ref 49)] [] M := by
  intro n
  induction n with
  | zero => intro M h; cases h
  | succ n ih => intro M h; exact w_X2_step_b0 hG hR ih h
theorem w_X2_step {E : EB} {M : Mem} {R : Mem} (h : f_X2_step M = some R) : Mt E mX2_step [.ref 49] M (PV R) := by
  refine mt_of (L0 := [some (.ref 49)]) (by decide) rfl rfl (fun G hG hR => ?_)
  unfold f_X2_step at h
  refine v_aload_0 hG dX2_step_0 (q := 1) rfl ?_
  refine gt_RX2_19 hG rfl kk_49 dX2_step_1 (q := 4) rfl ?_
  refine v_aload_0 hG dX2_step_4 (q := 5) rfl ?_
  refine gt_RX2_15 hG rfl kk_49 dX2_step_5 (q := 8) rfl ?_
  refine v_icmp_ge hG dX2_step_8 (tgt := 38) rfl (q := 11) rfl (fun hc => ?_) (fun hc => ?_)
  · replace h := ifp hc h
    exact w_X2_step_j38 hG hR h
  · replace h := ifn hc h
    refine v_aload_0 hG dX2_step_11 (q := 12) rfl ?_
    refine gt_RX2_9 hG rfl kk_49 dX2_step_12 (q := 15) rfl ?_
    refine v_aload_0 hG dX2_step_15 (q := 16) rfl ?_
    refine gt_RX2_19 hG rfl kk_49 dX2_step_16 (q := 19) rfl ?_
    obtain ⟨c_1, h⟩ := ck_some h
    refine v_iald hG kk_50 rfl c_1 dX2_step_19 (q := 20) rfl ?_
    refine v_bipush hG cb_32 dX2_step_20 (q := 22) rfl ?_
    refine v_icmp_ne hG dX2_step_22 (tgt := 38) rfl (q := 25) rfl (fun hc => ?_) (fun hc => ?_)
    · replace h := ifn hc h
      exact w_X2_step_j38 hG hR h
    · replace h := ifp hc h
      refine v_aload_0 hG dX2_step_25 (q := 26) rfl ?_
      refine v_dup hG rfl dX2_step_26 (q := 27) rfl ?_
      refine gt_RX2_19 hG rfl kk_49 dX2_step_27 (q := 30) rfl ?_
      refine v_iconst hG ci_1 dX2_step_30 (q := 31) rfl ?_
      refine v_iadd hG dX2_step_31 (q := 32) rfl ?_
      refine pt_RX2_19 hG rfl kk_49 dX2_step_32 (q := 35) rfl ?_
      refine v_topM (fun M_2 hy => ?_)
      replace h := letv_at hy h
      clear hy
      refine v_goto hG dX2_step_35 (tgt := 0) rfl ?_
      exact w_X2_step_l0 hG hR FU _ h
theorem cvX2_step : CVo mX2_step 0 2 := ⟨moX2_step, mvX2_step, by decide, _, _, rfl⟩
theorem w_X2_rewind {E : EB} {M : Mem} {R : Mem} (h : f_X2_rewind M = some R) : Mt E mX2_rewind [.ref 49] M (PV R) := by
  refine mt_of (L0 := [some (.ref 49)]) (by decide) rfl rfl (fun G hG hR => ?_)
  unfold f_X2_rewind at h
  refine v_aload_0 hG dX2_rewind_0 (q := 1) rfl ?_
  refine v_iconst hG ci_0 dX2_rewind_1 (q := 2) rfl ?_
  refine pt_RX2_19 hG rfl kk_49 dX2_rewind_2 (q := 5) rfl ?_
  refine v_topM (fun M_1 hy => ?_)
  replace h := letv_at hy h
  clear hy
  refine v_aload_0 hG dX2_rewind_5 (q := 6) rfl ?_
  obtain ⟨r_2, hr_2, h⟩ := bnd h
  refine v_cV0V hG cvX2_step ml_RX2_22 rfl kk_49 (w_X2_step hr_2) (Nat.le_of_ble_eq_true rfl) dX2_rewind_6 (q := 9) rfl ?_
  exact v_vret hG hR rfl (spv h) dX2_rewind_9
theorem cvX2_rewind : CVo mX2_rewind 0 2 := ⟨moX2_rewind, mvX2_rewind, by decide, _, _, rfl⟩
theorem w_X2_isAtEnd {E : EB} {M : Mem} {R : Bool} (h : f_X2_isAtEnd M = some R) : Mt E mX2_isAtEnd [.ref 49] M (PI (b2i R) M) := by
  refine mt_of (L0 := [some (.ref 49)]) (by decide) rfl rfl (fun G hG hR => ?_)
  unfold f_X2_isAtEnd at h
  refine v_aload_0 hG dX2_isAtEnd_0 (q := 1) rfl ?_
  refine gt_RX2_28 hG rfl kk_49 dX2_isAtEnd_1 (q := 4) rfl ?_
  refine v_iconst hG ci_4 dX2_isAtEnd_4 (q := 5) rfl ?_
  refine v_icmp_ne hG dX2_isAtEnd_5 (tgt := 12) rfl (q := 8) rfl (fun hc => ?_) (fun hc => ?_)
  · replace h := ifn hc h
    refine v_iconst hG ci_0 dX2_isAtEnd_12 (q := 13) rfl ?_
    exact v_iret hG hR rfl rfl (sp1b h) dX2_isAtEnd_13
  · replace h := ifp hc h
    refine v_iconst hG ci_1 dX2_isAtEnd_8 (q := 9) rfl ?_
    refine v_goto hG dX2_isAtEnd_9 (tgt := 13) rfl ?_
    exact v_iret hG hR rfl rfl (sp1b h) dX2_isAtEnd_13
theorem cvX2_isAtEnd : CVo mX2_isAtEnd 0 2 := ⟨moX2_isAtEnd, mvX2_isAtEnd, by decide, _, _, rfl⟩
theorem w_X2_isSign {E : EB} {M : Mem} {R : Bool} (h : f_X2_isSign M = some R) : Mt E mX2_isSign [.ref 49] M (PI (b2i R) M) := by
  refine mt_of (L0 := [some (.ref 49)]) (by decide) rfl rfl (fun G hG hR => ?_)
  unfold f_X2_isSign at h
  refine v_aload_0 hG dX2_isSign_0 (q := 1) rfl ?_
  refine gt_RX2_28 hG rfl kk_49 dX2_isSign_1 (q := 4) rfl ?_
  refine v_iconst hG ci_3 dX2_isSign_4 (q := 5) rfl ?_
  refine v_icmp_ne hG dX2_isSign_5 (tgt := 12) rfl (q := 8) rfl (fun hc => ?_) (fun hc => ?_)
  · replace h := ifn hc h
    refine v_iconst hG ci_0 dX2_isSign_12 (q := 13) rfl ?_
    exact v_iret hG hR rfl rfl (sp1b h) dX2_isSign_13
  · replace h := ifp hc h
    refine v_iconst hG ci_1 dX2_isSign_8 (q := 9) rfl ?_
    refine v_goto hG dX2_isSign_9 (tgt := 13) rfl ?_
    exact v_iret hG hR rfl rfl (sp1b h) dX2_isSign_13
theorem cvX2_isSign : CVo mX2_isSign 0 2 := ⟨moX2_isSign, mvX2_isSign, by decide, _, _, rfl⟩
theorem w_X2_isNumber {E : EB} {M : Mem} {R : Bool} (h : f_X2_isNumber M = some R) : Mt E mX2_isNumber [.ref 49] M (PI (b2i R) M) := by
  refine mt_of (L0 := [some (.ref 49)]) (by decide) rfl rfl (fun G hG hR => ?_)
  unfold f_X2_isNumber at h
  refine v_aload_0 hG dX2_isNumber_0 (q := 1) rfl ?_
  refine gt_RX2_28 hG rfl kk_49 dX2_isNumber_1 (q := 4) rfl ?_
  refine v_iconst hG ci_2 dX2_isNumber_4 (q := 5) rfl ?_
  refine v_icmp_ne hG dX2_isNumber_5 (tgt := 12) rfl (q := 8) rfl (fun hc => ?_) (fun hc => ?_)
  · replace h := ifn hc h
    refine v_iconst hG ci_0 dX2_isNumber_12 (q := 13) rfl ?_
    exact v_iret hG hR rfl rfl (sp1b h) dX2_isNumber_13
  · replace h := ifp hc h
    refine v_iconst hG ci_1 dX2_isNumber_8 (q := 9) rfl ?_
    refine v_goto hG dX2_isNumber_9 (tgt := 13) rfl ?_
    exact v_iret hG hR rfl rfl (sp1b h) dX2_isNumber_13
theorem cvX2_isNumber : CVo mX2_isNumber 0 2 := ⟨moX2_isNumber, mvX2_isNumber, by decide, _, _, rfl⟩
theorem w_X2_isNumberUpTo {E : EB} {x1 : Int32} {M : Mem} {R : Bool} (h : f_X2_isNumberUpTo x1 M = some R) : Mt E mX2_isNumberUpTo [.ref 49, .int x1] M (PI (b2i R) M) := by
  refine mt_of (L0 := [some (.ref 49), some (.int x1)]) (by decide) rfl rfl (fun G hG hR => ?_)
  unfold f_X2_isNumberUpTo at h
  refine v_aload_0 hG dX2_isNumberUpTo_0 (q := 1) rfl ?_
  refine gt_RX2_28 hG rfl kk_49 dX2_isNumberUpTo_1 (q := 4) rfl ?_
  refine v_iconst hG ci_2 dX2_isNumberUpTo_4 (q := 5) rfl ?_
  refine v_icmp_ne hG dX2_isNumberUpTo_5 (tgt := 20) rfl (q := 8) rfl (fun hc => ?_) (fun hc => ?_)
  · replace h := ifn hc h
    refine v_iconst hG ci_0 dX2_isNumberUpTo_20 (q := 21) rfl ?_
    exact v_iret hG hR rfl rfl (sp1b h) dX2_isNumberUpTo_21
  · replace h := ifp hc h
    refine v_aload_0 hG dX2_isNumberUpTo_8 (q := 9) rfl ?_
    refine gt_RX2_44 hG rfl kk_49 dX2_isNumberUpTo_9 (q := 12) rfl ?_
    refine v_iload_1 hG dX2_isNumberUpTo_12 (q := 13) rfl ?_
    refine v_icmp_gt hG dX2_isNumberUpTo_13 (tgt := 20) rfl (q := 16) rfl (fun hc => ?_) (fun hc => ?_)
    · replace h := ifp hc h
      refine v_iconst hG ci_0 dX2_isNumberUpTo_20 (q := 21) rfl ?_
      exact v_iret hG hR rfl rfl (sp1b h) dX2_isNumberUpTo_21
    · replace h := ifn hc h
      refine v_iconst hG ci_1 dX2_isNumberUpTo_16 (q := 17) rfl ?_
      refine v_goto hG dX2_isNumberUpTo_17 (tgt := 21) rfl ?_
      exact v_iret hG hR rfl rfl (sp1b h) dX2_isNumberUpTo_21
theorem cvX2_isNumberUpTo : CVo mX2_isNumberUpTo 1 2 := ⟨moX2_isNumberUpTo, mvX2_isNumberUpTo, by decide, _, _, rfl⟩
theorem w_X2_isWord_b28 {E : EB} {G : GB} (hG : Gd E mX2_isWord G) {r1 : Nat} {M : Mem} {R : Bool} (hR : Rt E mX2_isWord (PI (b2i R) M) G) (k1 : r1 < 16) {k28 : Int32 → Mem → Option (Bool)} (hk28 : ∀ (x2 : Int32) (M' : Mem), k28 x2 M' = some R → M' = M → V E G 28 [some (.ref 49), some (.ref (100 + r1)), some (.int x2)] [] M') {x2 : Int32} (h : f_X2_isWord_b28 r1 k28 x2 M = some R) : V E G 28 [some (.ref 49), some (.ref (100 + r1)), some (.int x2)] [] M := by
  unfold f_X2_isWord_b28 at h
  refine v_iload_2 hG dX2_isWord_28 (q := 29) rfl ?_
  refine v_aload_1 hG dX2_isWord_29 (q := 30) rfl ?_
  refine v_cSL hG ml_RX2_54 rfl k1 (Nat.le_of_ble_eq_true rfl) dX2_isWord_30 (q := 33) rfl ?_
  refine v_icmp_ge hG dX2_isWord_33 (tgt := 63) rfl (q := 36) rfl (fun hc => ?_) (fun hc => ?_)
  · replace h := ifp hc h
    refine v_iconst hG ci_1 dX2_isWord_63 (q := 64) rfl ?_
    exact v_iret hG hR rfl rfl (sp1b h) dX2_isWord_64
  · replace h := ifn hc h
    refine v_aload_0 hG dX2_isWord_36 (q := 37) rfl ?_
    refine gt_RX2_9 hG rfl kk_49 dX2_isWord_37 (q := 40) rfl ?_
    refine v_aload_0 hG dX2_isWord_40 (q := 41) rfl ?_
    refine gt_RX2_25 hG rfl kk_49 dX2_isWord_41 (q := 44) rfl ?_
    refine v_iload_2 hG dX2_isWord_44 (q := 45) rfl ?_
    refine v_iadd hG dX2_isWord_45 (q := 46) rfl ?_
    obtain ⟨c_1, h⟩ := ck_some h
    refine v_iald hG kk_50 rfl c_1 dX2_isWord_46 (q := 47) rfl ?_
    refine v_aload_1 hG dX2_isWord_47 (q := 48) rfl ?_
    refine v_iload_2 hG dX2_isWord_48 (q := 49) rfl ?_
    obtain ⟨c_2, h⟩ := ck_some h
    refine v_cSC hG ml_RX2_60 rfl k1 c_2 (Nat.le_of_ble_eq_true rfl) dX2_isWord_49 (q := 52) rfl ?_
    refine v_icmp_eq hG dX2_isWord_52 (tgt := 57) rfl (q := 55) rfl (fun hc => ?_) (fun hc => ?_)
    · replace h := ifp hc h
      refine v_iinc_2 hG rfl dX2_isWord_57 (congrArg _ ci_1) (q := 60) rfl ?_
      refine v_goto hG dX2_isWord_60 (tgt := 28) rfl ?_
      exact hk28 _ _ h rfl
    · replace h := ifn hc h
      refine v_iconst hG ci_0 dX2_isWord_55 (q := 56) rfl ?_
      exact v_iret hG hR rfl rfl (sp1b h) dX2_isWord_56
theorem w_X2_isWord_l28 {E : EB} {G : GB} (hG : Gd E mX2_isWord G) {r1 : Nat} {M : Mem} {R : Bool} (hR : Rt E mX2_isWord (PI (b2i R) M) G) (k1 : r1 < 16) : ∀ (n : Nat) (x2 : Int32) (M' : Mem), f_X2_isWord_l28 r1 n x2 M' = some R → M' = M → V E G 28 [some (.ref 49), some (.ref (100 + r1)), some (.int x2)] [] M' := by
  intro n
  induction n with
  | zero => intro x2 M' h; cases h
  | succ n ih => intro x2 M' h e; subst e; exact w_X2_isWord_b28 hG hR k1 ih h
theorem w_X2_isWord {E : EB} {r1 : Nat} (k1 : r1 < 16) {M : Mem} {R : Bool} (h : f_X2_isWord r1 M = some R) : Mt E mX2_isWord [.ref 49, .ref (100 + r1)] M (PI (b2i R) M) := by
  refine mt_of (L0 := [some (.ref 49), some (.ref (100 + r1)), none]) (by decide) rfl rfl (fun G hG hR => ?_)
  unfold f_X2_isWord at h
  refine v_aload_0 hG dX2_isWord_0 (q := 1) rfl ?_
  refine gt_RX2_28 hG rfl kk_49 dX2_isWord_1 (q := 4) rfl ?_
  refine v_iconst hG ci_1 dX2_isWord_4 (q := 5) rfl ?_
  refine v_icmp_ne hG dX2_isWord_5 (tgt := 24) rfl (q := 8) rfl (fun hc => ?_) (fun hc => ?_)
  · replace h := ifn hc h
    refine v_iconst hG ci_0 dX2_isWord_24 (q := 25) rfl ?_
    exact v_iret hG hR rfl rfl (sp1b h) dX2_isWord_25
  · replace h := ifp hc h
    refine v_aload_0 hG dX2_isWord_8 (q := 9) rfl ?_
    refine gt_RX2_19 hG rfl kk_49 dX2_isWord_9 (q := 12) rfl ?_
    refine v_aload_0 hG dX2_isWord_12 (q := 13) rfl ?_
    refine gt_RX2_25 hG rfl kk_49 dX2_isWord_13 (q := 16) rfl ?_
    refine v_isub hG dX2_isWord_16 (q := 17) rfl ?_
    refine v_aload_1 hG dX2_isWord_17 (q := 18) rfl ?_
    refine v_cSL hG ml_RX2_54 rfl k1 (Nat.le_of_ble_eq_true rfl) dX2_isWord_18 (q := 21) rfl ?_
    refine v_icmp_eq hG dX2_isWord_21 (tgt := 26) rfl (q := 24) rfl (fun hc => ?_) (fun hc => ?_)
    · replace h := ifp hc h
      refine v_iconst hG ci_0 dX2_isWord_26 (q := 27) rfl ?_
      refine v_istore_2 hG rfl dX2_isWord_27 (q := 28) rfl ?_
      exact w_X2_isWord_l28 hG hR k1 FU _ _ h rfl
    · replace h := ifn hc h
      refine v_iconst hG ci_0 dX2_isWord_24 (q := 25) rfl ?_
      exact v_iret hG hR rfl rfl (sp1b h) dX2_isWord_25
theorem cvX2_isWord : CVo mX2_isWord 1 2 := ⟨moX2_isWord, mvX2_isWord, by decide, _, _, rfl⟩
theorem w_X3_kindOfWord {E : EB} {M : Mem} {R : Int32} (h : f_X3_kindOfWord M = some R) : Mt E mX3_kindOfWord [.ref 51] M (PI R M) := by
  refine mt_of (L0 := [some (.ref 51)]) (by decide) rfl rfl (fun G hG hR => ?_)
  unfold f_X3_kindOfWord at h
  refine v_aload_0 hG dX3_kindOfWord_0 (q := 1) rfl ?_
  refine gt_RX3_9 hG rfl kk_51 dX3_kindOfWord_1 (q := 4) rfl ?_
  refine v_ldcS hG rfl (k := 2) (idx := 63) (by decide) dX3_kindOfWord_4 (q := 6) rfl ?_
  obtain ⟨r_1, hr_1, h⟩ := bnd h
  refine v_cV1I hG cvX2_isWord ml_RX3_43 rfl kk_49 (w_X2_isWord (by decide) hr_1) (Nat.le_of_ble_eq_true rfl) dX3_kindOfWord_6 (q := 9) rfl ?_
  refine v_if_eq hG dX3_kindOfWord_9 (tgt := 14) rfl (q := 12) rfl (fun hc => ?_) (fun hc => ?_)
  · replace h := ifp hc h
    refine v_aload_0 hG dX3_kindOfWord_14 (q := 15) rfl ?_
    refine gt_RX3_9 hG rfl kk_51 dX3_kindOfWord_15 (q := 18) rfl ?_
    refine v_ldcS hG rfl (k := 3) (idx := 65) (by decide) dX3_kindOfWord_18 (q := 20) rfl ?_
    obtain ⟨r_2, hr_2, h⟩ := bnd h
    refine v_cV1I hG cvX2_isWord ml_RX3_43 rfl kk_49 (w_X2_isWord (by decide) hr_2) (Nat.le_of_ble_eq_true rfl) dX3_kindOfWord_20 (q := 23) rfl ?_
    refine v_if_eq hG dX3_kindOfWord_23 (tgt := 28) rfl (q := 26) rfl (fun hc => ?_) (fun hc => ?_)
    · replace h := ifp hc h
      refine v_aload_0 hG dX3_kindOfWord_28 (q := 29) rfl ?_
      refine gt_RX3_9 hG rfl kk_51 dX3_kindOfWord_29 (q := 32) rfl ?_
      refine v_ldcS hG rfl (k := 4) (idx := 67) (by decide) dX3_kindOfWord_32 (q := 34) rfl ?_
      obtain ⟨r_3, hr_3, h⟩ := bnd h
      refine v_cV1I hG cvX2_isWord ml_RX3_43 rfl kk_49 (w_X2_isWord (by decide) hr_3) (Nat.le_of_ble_eq_true rfl) dX3_kindOfWord_34 (q := 37) rfl ?_
      refine v_if_eq hG dX3_kindOfWord_37 (tgt := 42) rfl (q := 40) rfl (fun hc => ?_) (fun hc => ?_)
      · replace h := ifp hc h
        refine v_aload_0 hG dX3_kindOfWord_42 (q := 43) rfl ?_
        refine gt_RX3_9 hG rfl kk_51 dX3_kindOfWord_43 (q := 46) rfl ?_
        refine v_ldcS hG rfl (k := 5) (idx := 69) (by decide) dX3_kindOfWord_46 (q := 48) rfl ?_
        obtain ⟨r_4, hr_4, h⟩ := bnd h
        refine v_cV1I hG cvX2_isWord ml_RX3_43 rfl kk_49 (w_X2_isWord (by decide) hr_4) (Nat.le_of_ble_eq_true rfl) dX3_kindOfWord_48 (q := 51) rfl ?_
        refine v_if_eq hG dX3_kindOfWord_51 (tgt := 56) rfl (q := 54) rfl (fun hc => ?_) (fun hc => ?_)
        · replace h := ifp hc h
          refine v_aload_0 hG dX3_kindOfWord_56 (q := 57) rfl ?_
          refine gt_RX3_9 hG rfl kk_51 dX3_kindOfWord_57 (q := 60) rfl ?_
          refine v_ldcS hG rfl (k := 6) (idx := 71) (by decide) dX3_kindOfWord_60 (q := 62) rfl ?_
          obtain ⟨r_5, hr_5, h⟩ := bnd h
          refine v_cV1I hG cvX2_isWord ml_RX3_43 rfl kk_49 (w_X2_isWord (by decide) hr_5) (Nat.le_of_ble_eq_true rfl) dX3_kindOfWord_62 (q := 65) rfl ?_
          refine v_if_eq hG dX3_kindOfWord_65 (tgt := 70) rfl (q := 68) rfl (fun hc => ?_) (fun hc => ?_)
          · replace h := ifp hc h
            refine v_aload_0 hG dX3_kindOfWord_70 (q := 71) rfl ?_
            refine gt_RX3_9 hG rfl kk_51 dX3_kindOfWord_71 (q := 74) rfl ?_
            refine v_ldcS hG rfl (k := 7) (idx := 73) (by decide) dX3_kindOfWord_74 (q := 76) rfl ?_
            obtain ⟨r_6, hr_6, h⟩ := bnd h
            refine v_cV1I hG cvX2_isWord ml_RX3_43 rfl kk_49 (w_X2_isWord (by decide) hr_6) (Nat.le_of_ble_eq_true rfl) dX3_kindOfWord_76 (q := 79) rfl ?_
            refine v_if_eq hG dX3_kindOfWord_79 (tgt := 84) rfl (q := 82) rfl (fun hc => ?_) (fun hc => ?_)
            · replace h := ifp hc h
              refine v_aload_0 hG dX3_kindOfWord_84 (q := 85) rfl ?_
              refine gt_RX3_9 hG rfl kk_51 dX3_kindOfWord_85 (q := 88) rfl ?_
              refine v_ldcS hG rfl (k := 8) (idx := 75) (by decide) dX3_kindOfWord_88 (q := 90) rfl ?_
              obtain ⟨r_7, hr_7, h⟩ := bnd h
              refine v_cV1I hG cvX2_isWord ml_RX3_43 rfl kk_49 (w_X2_isWord (by decide) hr_7) (Nat.le_of_ble_eq_true rfl) dX3_kindOfWord_90 (q := 93) rfl ?_
              refine v_if_eq hG dX3_kindOfWord_93 (tgt := 99) rfl (q := 96) rfl (fun hc => ?_) (fun hc => ?_)
              · replace h := ifp hc h
                refine v_iconst hG ci_m1 dX3_kindOfWord_99 (q := 100) rfl ?_
                exact v_iret hG hR rfl rfl (sp1 h) dX3_kindOfWord_100
              · replace h := ifn hc h
                refine v_bipush hG cb_6 dX3_kindOfWord_96 (q := 98) rfl ?_
                exact v_iret hG hR rfl rfl (sp1 h) dX3_kindOfWord_98
            · replace h := ifn hc h
              refine v_iconst hG ci_5 dX3_kindOfWord_82 (q := 83) rfl ?_
              exact v_iret hG hR rfl rfl (sp1 h) dX3_kindOfWord_83
          · replace h := ifn hc h
            refine v_iconst hG ci_4 dX3_kindOfWord_68 (q := 69) rfl ?_
            exact v_iret hG hR rfl rfl (sp1 h) dX3_kindOfWord_69
        · replace h := ifn hc h
          refine v_iconst hG ci_3 dX3_kindOfWord_54 (q := 55) rfl ?_
          exact v_iret hG hR rfl rfl (sp1 h) dX3_kindOfWord_55
      · replace h := ifn hc h
        refine v_iconst hG ci_2 dX3_kindOfWord_40 (q := 41) rfl ?_
        exact v_iret hG hR rfl rfl (sp1 h) dX3_kindOfWord_41
    · replace h := ifn hc h
      refine v_iconst hG ci_1 dX3_kindOfWord_26 (q := 27) rfl ?_
      exact v_iret hG hR rfl rfl (sp1 h) dX3_kindOfWord_27
  · replace h := ifn hc h
    refine v_iconst hG ci_0 dX3_kindOfWord_12 (q := 13) rfl ?_
    exact v_iret hG hR rfl rfl (sp1 h) dX3_kindOfWord_13
theorem cvX3_kindOfWord : CVo mX3_kindOfWord 0 3 := ⟨moX3_kindOfWord, mvX3_kindOfWord, by decide, _, _, rfl⟩
theorem w_X3_perhapsMarks_b38 {E : EB} {G : GB} (hG : Gd E mX3_perhapsMarks G) {r1 r2 : Nat} {M : Mem} {R : Bool × Mem} (hR : Rt E mX3_perhapsMarks (PI (b2i R.1) R.2) G) (k1 : r1 < 16) (k2 : IsK r2 8) {k38 : Int32 → Int32 → Int32 → Mem → Option (Bool × Mem)} (hk38 : ∀ (x3 : Int32) (x4 : Int32) (x5 : Int32) (M : Mem), k38 x3 x4 x5 M = some R → V E G 38 [some (.ref 51), none, some (.ref r2), some (.int x3), some (.int x4), some (.int x5)] [] M) {x3 : Int32} {x4 : Int32} {x5 : Int32} (h : f_X3_perhapsMarks_b38 r1 r2 k38 x3 x4 x5 M = some R) : V E G 38 [some (.ref 51), none, some (.ref r2), some (.int x3), some (.int x4), some (.int x5)] [] M := by
  unfold f_X3_perhapsMarks_b38 at h
  refine v_iload_5 hG dX3_perhapsMarks_38 (q := 40) rfl ?_
  refine v_bipush hG cb_120 dX3_perhapsMarks_40 (q := 42) rfl ?_
  refine v_icmp_ge hG dX3_perhapsMarks_42 (tgt := 96) rfl (q := 45) rfl (fun hc => ?_) (fun hc => ?_)
  · replace h := ifp hc h
    refine v_aload_2 hG dX3_perhapsMarks_96 (q := 97) rfl ?_
    refine v_iload_3 hG dX3_perhapsMarks_97 (q := 98) rfl ?_
    refine v_iload_4 hG dX3_perhapsMarks_98 (q := 100) rfl ?_
    obtain ⟨c_4, h⟩ := ck_some h
    refine v_iast hG k2 rfl c_4 dX3_perhapsMarks_100 (q := 101) rfl ?_
    refine v_topM (fun M_5 hy => ?_)
    replace h := letv_at hy h
    clear hy
    refine v_iconst hG ci_1 dX3_perhapsMarks_101 (q := 102) rfl ?_
    exact v_iret hG hR rfl rfl (sp2bt h) dX3_perhapsMarks_102
  · replace h := ifn hc h
    refine v_aload_0 hG dX3_perhapsMarks_45 (q := 46) rfl ?_
    refine gt_RX3_9 hG rfl kk_51 dX3_perhapsMarks_46 (q := 49) rfl ?_
    obtain ⟨r_6, hr_6, h⟩ := bnd h
    refine v_cV0I hG cvX2_isNumber ml_RX3_146 rfl kk_49 (w_X2_isNumber hr_6) (Nat.le_of_ble_eq_true rfl) dX3_perhapsMarks_49 (q := 52) rfl ?_
    refine v_if_eq hG dX3_perhapsMarks_52 (tgt := 96) rfl (q := 55) rfl (fun hc => ?_) (fun hc => ?_)
    · replace h := ifp hc h
      refine v_aload_2 hG dX3_perhapsMarks_96 (q := 97) rfl ?_
      refine v_iload_3 hG dX3_perhapsMarks_97 (q := 98) rfl ?_
      refine v_iload_4 hG dX3_perhapsMarks_98 (q := 100) rfl ?_
      obtain ⟨c_7, h⟩ := ck_some h
      refine v_iast hG k2 rfl c_7 dX3_perhapsMarks_100 (q := 101) rfl ?_
      refine v_topM (fun M_8 hy => ?_)
      replace h := letv_at hy h
      clear hy
      refine v_iconst hG ci_1 dX3_perhapsMarks_101 (q := 102) rfl ?_
      exact v_iret hG hR rfl rfl (sp2bt h) dX3_perhapsMarks_102
    · replace h := ifn hc h
      refine v_aload_0 hG dX3_perhapsMarks_55 (q := 56) rfl ?_
      refine gt_RX3_9 hG rfl kk_51 dX3_perhapsMarks_56 (q := 59) rfl ?_
      refine v_bipush hG cb_11 dX3_perhapsMarks_59 (q := 61) rfl ?_
      obtain ⟨r_9, hr_9, h⟩ := bnd h
      refine v_cV1I hG cvX2_isNumberUpTo ml_RX3_126 rfl kk_49 (w_X2_isNumberUpTo hr_9) (Nat.le_of_ble_eq_true rfl) dX3_perhapsMarks_61 (q := 64) rfl ?_
      refine v_if_ne hG dX3_perhapsMarks_64 (tgt := 69) rfl (q := 67) rfl (fun hc => ?_) (fun hc => ?_)
      · replace h := ifn hc h
        refine v_iload_4 hG dX3_perhapsMarks_69 (q := 71) rfl ?_
        refine v_iconst hG ci_1 dX3_perhapsMarks_71 (q := 72) rfl ?_
        refine v_aload_0 hG dX3_perhapsMarks_72 (q := 73) rfl ?_
        refine gt_RX3_9 hG rfl kk_51 dX3_perhapsMarks_73 (q := 76) rfl ?_
        refine gt_RX3_129 hG rfl kk_49 dX3_perhapsMarks_76 (q := 79) rfl ?_
        refine v_ishl hG dX3_perhapsMarks_79 (q := 80) rfl ?_
        refine v_ior hG dX3_perhapsMarks_80 (q := 81) rfl ?_
        refine v_topi (fun x4_10 hy => ?_)
        replace h := letv_at hy h
        clear hy
        refine v_istore_4 hG rfl dX3_perhapsMarks_81 (q := 83) rfl ?_
        refine v_aload_0 hG dX3_perhapsMarks_83 (q := 84) rfl ?_
        refine gt_RX3_9 hG rfl kk_51 dX3_perhapsMarks_84 (q := 87) rfl ?_
        obtain ⟨r_11, hr_11, h⟩ := bnd h
        refine v_cV0V hG cvX2_step ml_RX3_34 rfl kk_49 (w_X2_step hr_11) (Nat.le_of_ble_eq_true rfl) dX3_perhapsMarks_87 (q := 90) rfl ?_
        refine v_iinc_5 hG rfl dX3_perhapsMarks_90 (congrArg _ ci_1) (q := 93) rfl ?_
        refine v_goto hG dX3_perhapsMarks_93 (tgt := 38) rfl ?_
        exact hk38 _ _ _ _ h
      · replace h := ifp hc h
        refine v_iconst hG ci_0 dX3_perhapsMarks_67 (q := 68) rfl ?_
        exact v_iret hG hR rfl rfl (sp2bt h) dX3_perhapsMarks_68
theorem w_X3_perhapsMarks_l38 {E : EB} {G : GB} (hG : Gd E mX3_perhapsMarks G) {r1 r2 : Nat} {R : Bool × Mem} (hR : Rt E mX3_perhapsMarks (PI (b2i R.1) R.2) G) (k1 : r1 < 16) (k2 : IsK r2 8) : ∀ (n : Nat) (x3 : Int32) (x4 : Int32) (x5 : Int32) (M : Mem), f_X3_perhapsMarks_l38 r1 r2 n x3 x4 x5 M = some R → V E G 38 [some (.ref 51), none, some (.ref r2), some (.int x3), some (.int x4), some (.int x5)] [] M := by
  intro n
  induction n with
  | zero => intro x3 x4 x5 M h; cases h
  | succ n ih => intro x3 x4 x5 M h; exact w_X3_perhapsMarks_b38 hG hR k1 k2 ih h
theorem w_X3_perhapsMarks {E : EB} {r1 : Nat} {r2 : Nat} {x3 : Int32} (k1 : r1 < 16) (k2 : IsK r2 8) {M : Mem} {R : Bool × Mem} (h : f_X3_perhapsMarks r1 r2 x3 M = some R) : Mt E mX3_perhapsMarks [.ref 51, .ref (100 + r1), .ref r2, .int x3] M (PI (b2i R.1) R.2) := by
  refine mt_of (L0 := [some (.ref 51), some (.ref (100 + r1)), some (.ref r2), some (.int x3), none, none]) (by decide) rfl rfl (fun G hG hR => ?_)
  unfold f_X3_perhapsMarks at h
  refine v_aload_0 hG dX3_perhapsMarks_0 (q := 1) rfl ?_
  refine gt_RX3_9 hG rfl kk_51 dX3_perhapsMarks_1 (q := 4) rfl ?_
  refine v_aload_1 hG dX3_perhapsMarks_4 (q := 5) rfl ?_
  obtain ⟨r_1, hr_1, h⟩ := bnd h
  refine v_cV1I hG cvX2_isWord ml_RX3_43 rfl kk_49 (w_X2_isWord k1 hr_1) (Nat.le_of_ble_eq_true rfl) dX3_perhapsMarks_5 (q := 8) rfl ?_
  refine v_if_ne hG dX3_perhapsMarks_8 (tgt := 13) rfl (q := 11) rfl (fun hc => ?_) (fun hc => ?_)
  · replace h := ifn hc h
    refine v_aload_0 hG dX3_perhapsMarks_13 (q := 14) rfl ?_
    refine gt_RX3_9 hG rfl kk_51 dX3_perhapsMarks_14 (q := 17) rfl ?_
    obtain ⟨r_2, hr_2, h⟩ := bnd h
    refine v_cV0V hG cvX2_step ml_RX3_34 rfl kk_49 (w_X2_step hr_2) (Nat.le_of_ble_eq_true rfl) dX3_perhapsMarks_17 (q := 20) rfl ?_
    refine v_aload_0 hG dX3_perhapsMarks_20 (q := 21) rfl ?_
    refine gt_RX3_9 hG rfl kk_51 dX3_perhapsMarks_21 (q := 24) rfl ?_
    obtain ⟨r_3, hr_3, h⟩ := bnd h
    refine v_cV0I hG cvX2_isNumber ml_RX3_146 rfl kk_49 (w_X2_isNumber hr_3) (Nat.le_of_ble_eq_true rfl) dX3_perhapsMarks_24 (q := 27) rfl ?_
    refine v_if_ne hG dX3_perhapsMarks_27 (tgt := 32) rfl (q := 30) rfl (fun hc => ?_) (fun hc => ?_)
    · replace h := ifn hc h
      refine v_iconst hG ci_0 dX3_perhapsMarks_32 (q := 33) rfl ?_
      refine v_istore_4 hG rfl dX3_perhapsMarks_33 (q := 35) rfl ?_
      refine v_iconst hG ci_0 dX3_perhapsMarks_35 (q := 36) rfl ?_
      refine v_istore_5 hG rfl dX3_perhapsMarks_36 (q := 38) rfl ?_
      refine v_drop (n := 1) (L' := [some (.ref 51), none, some (.ref r2), some (.int x3), some (.int (0 : Int32)), some (.int (0 : Int32))]) rfl ?_
      exact w_X3_perhapsMarks_l38 hG hR k1 k2 FU _ _ _ _ h
    · replace h := ifp hc h
      refine v_iconst hG ci_0 dX3_perhapsMarks_30 (q := 31) rfl ?_
      exact v_iret hG hR rfl rfl (sp2bt h) dX3_perhapsMarks_31
  · replace h := ifp hc h
    refine v_iconst hG ci_1 dX3_perhapsMarks_11 (q := 12) rfl ?_
    exact v_iret hG hR rfl rfl (sp2bt h) dX3_perhapsMarks_12
theorem cvX3_perhapsMarks : CVo mX3_perhapsMarks 3 3 := ⟨moX3_perhapsMarks, mvX3_perhapsMarks, by decide, _, _, rfl⟩
theorem w_X3_perhapsNumber {E : EB} {r1 : Nat} {x2 : Int32} {r3 : Nat} {x4 : Int32} (k1 : r1 < 16) (k3 : IsK r3 8) {M : Mem} {R : Bool × Mem} (h : f_X3_perhapsNumber r1 x2 r3 x4 M = some R) : Mt E mX3_perhapsNumber [.ref 51, .ref (100 + r1), .int x2, .ref r3, .int x4] M (PI (b2i R.1) R.2) := by
  refine mt_of (L0 := [some (.ref 51), some (.ref (100 + r1)), some (.int x2), some (.ref r3), some (.int x4)]) (by decide) rfl rfl (fun G hG hR => ?_)
  unfold f_X3_perhapsNumber at h
  refine v_aload_0 hG dX3_perhapsNumber_0 (q := 1) rfl ?_
  refine gt_RX3_9 hG rfl kk_51 dX3_perhapsNumber_1 (q := 4) rfl ?_
  refine v_aload_1 hG dX3_perhapsNumber_4 (q := 5) rfl ?_
  obtain ⟨r_1, hr_1, h⟩ := bnd h
  refine v_cV1I hG cvX2_isWord ml_RX3_43 rfl kk_49 (w_X2_isWord k1 hr_1) (Nat.le_of_ble_eq_true rfl) dX3_perhapsNumber_5 (q := 8) rfl ?_
  refine v_if_ne hG dX3_perhapsNumber_8 (tgt := 13) rfl (q := 11) rfl (fun hc => ?_) (fun hc => ?_)
  · replace h := ifn hc h
    refine v_aload_0 hG dX3_perhapsNumber_13 (q := 14) rfl ?_
    refine gt_RX3_9 hG rfl kk_51 dX3_perhapsNumber_14 (q := 17) rfl ?_
    obtain ⟨r_2, hr_2, h⟩ := bnd h
    refine v_cV0V hG cvX2_step ml_RX3_34 rfl kk_49 (w_X2_step hr_2) (Nat.le_of_ble_eq_true rfl) dX3_perhapsNumber_17 (q := 20) rfl ?_
    refine v_aload_0 hG dX3_perhapsNumber_20 (q := 21) rfl ?_
    refine gt_RX3_9 hG rfl kk_51 dX3_perhapsNumber_21 (q := 24) rfl ?_
    refine v_iload_2 hG dX3_perhapsNumber_24 (q := 25) rfl ?_
    obtain ⟨r_3, hr_3, h⟩ := bnd h
    refine v_cV1I hG cvX2_isNumberUpTo ml_RX3_126 rfl kk_49 (w_X2_isNumberUpTo hr_3) (Nat.le_of_ble_eq_true rfl) dX3_perhapsNumber_25 (q := 28) rfl ?_
    refine v_if_ne hG dX3_perhapsNumber_28 (tgt := 33) rfl (q := 31) rfl (fun hc => ?_) (fun hc => ?_)
    · replace h := ifn hc h
      refine v_aload_3 hG dX3_perhapsNumber_33 (q := 34) rfl ?_
      refine v_iload_4 hG dX3_perhapsNumber_34 (q := 36) rfl ?_
      refine v_aload_0 hG dX3_perhapsNumber_36 (q := 37) rfl ?_
      refine gt_RX3_9 hG rfl kk_51 dX3_perhapsNumber_37 (q := 40) rfl ?_
      refine gt_RX3_129 hG rfl kk_49 dX3_perhapsNumber_40 (q := 43) rfl ?_
      obtain ⟨c_4, h⟩ := ck_some h
      refine v_iast hG k3 rfl c_4 dX3_perhapsNumber_43 (q := 44) rfl ?_
      refine v_topM (fun M_5 hy => ?_)
      replace h := letv_at hy h
      clear hy
      refine v_aload_0 hG dX3_perhapsNumber_44 (q := 45) rfl ?_
      refine gt_RX3_9 hG rfl kk_51 dX3_perhapsNumber_45 (q := 48) rfl ?_
      obtain ⟨r_6, hr_6, h⟩ := bnd h
      refine v_cV0V hG cvX2_step ml_RX3_34 rfl kk_49 (w_X2_step hr_6) (Nat.le_of_ble_eq_true rfl) dX3_perhapsNumber_48 (q := 51) rfl ?_
      refine v_iconst hG ci_1 dX3_perhapsNumber_51 (q := 52) rfl ?_
      exact v_iret hG hR rfl rfl (sp2bt h) dX3_perhapsNumber_52
    · replace h := ifp hc h
      refine v_iconst hG ci_0 dX3_perhapsNumber_31 (q := 32) rfl ?_
      exact v_iret hG hR rfl rfl (sp2bt h) dX3_perhapsNumber_32
  · replace h := ifp hc h
    refine v_iconst hG ci_1 dX3_perhapsNumber_11 (q := 12) rfl ?_
    exact v_iret hG hR rfl rfl (sp2bt h) dX3_perhapsNumber_12
theorem cvX3_perhapsNumber : CVo mX3_perhapsNumber 4 3 := ⟨moX3_perhapsNumber, mvX3_perhapsNumber, by decide, _, _, rfl⟩
theorem w_X3_newPerson {E : EB} {M : Mem} {R : Bool × Mem} (h : f_X3_newPerson M = some R) : Mt E mX3_newPerson [.ref 51] M (PI (b2i R.1) R.2) := by
  refine mt_of (L0 := [some (.ref 51), none, none]) (by decide) rfl rfl (fun G hG hR => ?_)
  unfold f_X3_newPerson at h
  refine v_aload_0 hG dX3_newPerson_0 (q := 1) rfl ?_
  refine gt_RX3_15 hG rfl kk_51 dX3_newPerson_1 (q := 4) rfl ?_
  refine gt_RX3_114 hG rfl kk_17 dX3_newPerson_4 (q := 7) rfl ?_
  refine v_astore_1 hG rfl dX3_newPerson_7 (q := 8) rfl ?_
  refine v_aload_1 hG dX3_newPerson_8 (q := 9) rfl ?_
  refine gt_RX3_118 hG rfl kk_25 dX3_newPerson_9 (q := 12) rfl ?_
  refine v_bipush hG cb_8 dX3_newPerson_12 (q := 14) rfl ?_
  refine v_icmp_lt hG dX3_newPerson_14 (tgt := 19) rfl (q := 17) rfl (fun hc => ?_) (fun hc => ?_)
  · replace h := ifp hc h
    refine v_aload_0 hG dX3_newPerson_19 (q := 20) rfl ?_
    refine gt_RX3_9 hG rfl kk_51 dX3_newPerson_20 (q := 23) rfl ?_
    obtain ⟨r_1, hr_1, h⟩ := bnd h
    refine v_cV0V hG cvX2_step ml_RX3_34 rfl kk_49 (w_X2_step hr_1) (Nat.le_of_ble_eq_true rfl) dX3_newPerson_23 (q := 26) rfl ?_
    refine v_aload_0 hG dX3_newPerson_26 (q := 27) rfl ?_
    refine gt_RX3_9 hG rfl kk_51 dX3_newPerson_27 (q := 30) rfl ?_
    refine v_ldcS hG rfl (k := 13) (idx := 123) (by decide) dX3_newPerson_30 (q := 32) rfl ?_
    obtain ⟨r_2, hr_2, h⟩ := bnd h
    refine v_cV1I hG cvX2_isWord ml_RX3_43 rfl kk_49 (w_X2_isWord (by decide) hr_2) (Nat.le_of_ble_eq_true rfl) dX3_newPerson_32 (q := 35) rfl ?_
    refine v_if_ne hG dX3_newPerson_35 (tgt := 40) rfl (q := 38) rfl (fun hc => ?_) (fun hc => ?_)
    · replace h := ifn hc h
      refine v_aload_0 hG dX3_newPerson_40 (q := 41) rfl ?_
      refine gt_RX3_9 hG rfl kk_51 dX3_newPerson_41 (q := 44) rfl ?_
      obtain ⟨r_3, hr_3, h⟩ := bnd h
      refine v_cV0V hG cvX2_step ml_RX3_34 rfl kk_49 (w_X2_step hr_3) (Nat.le_of_ble_eq_true rfl) dX3_newPerson_44 (q := 47) rfl ?_
      refine v_aload_0 hG dX3_newPerson_47 (q := 48) rfl ?_
      refine gt_RX3_9 hG rfl kk_51 dX3_newPerson_48 (q := 51) rfl ?_
      refine v_aload_0 hG dX3_newPerson_51 (q := 52) rfl ?_
      refine gt_RX3_15 hG rfl kk_51 dX3_newPerson_52 (q := 55) rfl ?_
      refine gt_RX3_77 hG rfl kk_17 dX3_newPerson_55 (q := 58) rfl ?_
      refine gt_RX3_125 hG rfl kk_18 dX3_newPerson_58 (q := 61) rfl ?_
      refine v_iconst hG ci_1 dX3_newPerson_61 (q := 62) rfl ?_
      refine v_isub hG dX3_newPerson_62 (q := 63) rfl ?_
      obtain ⟨r_4, hr_4, h⟩ := bnd h
      refine v_cV1I hG cvX2_isNumberUpTo ml_RX3_126 rfl kk_49 (w_X2_isNumberUpTo hr_4) (Nat.le_of_ble_eq_true rfl) dX3_newPerson_63 (q := 66) rfl ?_
      refine v_if_ne hG dX3_newPerson_66 (tgt := 71) rfl (q := 69) rfl (fun hc => ?_) (fun hc => ?_)
      · replace h := ifn hc h
        refine v_aload_1 hG dX3_newPerson_71 (q := 72) rfl ?_
        refine v_aload_0 hG dX3_newPerson_72 (q := 73) rfl ?_
        refine gt_RX3_9 hG rfl kk_51 dX3_newPerson_73 (q := 76) rfl ?_
        refine gt_RX3_129 hG rfl kk_49 dX3_newPerson_76 (q := 79) rfl ?_
        obtain ⟨r_5, hr_5, h⟩ := bnd h
        refine v_cV1I hG cvX0_addOne ml_RX3_132 rfl kk_25 (w_X0_addOne kk_25 hr_5) (Nat.le_of_ble_eq_true rfl) dX3_newPerson_79 (q := 82) rfl ?_
        refine v_istore_2 hG rfl dX3_newPerson_82 (q := 83) rfl ?_
        refine v_iload_2 hG dX3_newPerson_83 (q := 84) rfl ?_
        refine v_if_ge hG dX3_newPerson_84 (tgt := 89) rfl (q := 87) rfl (fun hc => ?_) (fun hc => ?_)
        · replace h := ifp hc h
          refine v_aload_0 hG dX3_newPerson_89 (q := 90) rfl ?_
          refine gt_RX3_9 hG rfl kk_51 dX3_newPerson_90 (q := 93) rfl ?_
          obtain ⟨r_6, hr_6, h⟩ := bnd h
          refine v_cV0V hG cvX2_step ml_RX3_34 rfl kk_49 (w_X2_step hr_6) (Nat.le_of_ble_eq_true rfl) dX3_newPerson_93 (q := 96) rfl ?_
          refine v_aload_0 hG dX3_newPerson_96 (q := 97) rfl ?_
          refine v_ldcS hG rfl (k := 14) (idx := 133) (by decide) dX3_newPerson_97 (q := 99) rfl ?_
          refine v_aload_1 hG dX3_newPerson_99 (q := 100) rfl ?_
          refine gt_RX3_135 hG rfl kk_25 dX3_newPerson_100 (q := 103) rfl ?_
          refine v_iload_2 hG dX3_newPerson_103 (q := 104) rfl ?_
          obtain ⟨r_7, hr_7, h⟩ := bnd h
          refine v_cV3I hG cvX3_perhapsMarks ml_RX3_94 rfl kk_51 (w_X3_perhapsMarks (by decide) kk_26 hr_7) (Nat.le_of_ble_eq_true rfl) dX3_newPerson_104 (q := 107) rfl ?_
          refine v_if_eq hG dX3_newPerson_107 (tgt := 130) rfl (q := 110) rfl (fun hc => ?_) (fun hc => ?_)
          · replace h := ifp hc h
            refine v_iconst hG ci_0 dX3_newPerson_130 (q := 131) rfl ?_
            exact v_iret hG hR rfl rfl (sp2bt h) dX3_newPerson_131
          · replace h := ifn hc h
            refine v_aload_0 hG dX3_newPerson_110 (q := 111) rfl ?_
            refine v_ldcS hG rfl (k := 15) (idx := 137) (by decide) dX3_newPerson_111 (q := 113) rfl ?_
            refine v_ldc hG kc_RX3_139 dX3_newPerson_113 (q := 115) rfl ?_
            refine v_aload_1 hG dX3_newPerson_115 (q := 116) rfl ?_
            refine gt_RX3_140 hG rfl kk_25 dX3_newPerson_116 (q := 119) rfl ?_
            refine v_iload_2 hG dX3_newPerson_119 (q := 120) rfl ?_
            obtain ⟨r_8, hr_8, h⟩ := bnd h
            refine v_cV4I hG cvX3_perhapsNumber ml_RX3_110 rfl kk_51 (w_X3_perhapsNumber (by decide) kk_29 hr_8) (Nat.le_of_ble_eq_true rfl) dX3_newPerson_120 (q := 123) rfl ?_
            refine v_if_eq hG dX3_newPerson_123 (tgt := 130) rfl (q := 126) rfl (fun hc => ?_) (fun hc => ?_)
            · replace h := ifp hc h
              refine v_iconst hG ci_0 dX3_newPerson_130 (q := 131) rfl ?_
              exact v_iret hG hR rfl rfl (sp2bt h) dX3_newPerson_131
            · replace h := ifn hc h
              refine v_iconst hG ci_1 dX3_newPerson_126 (q := 127) rfl ?_
              refine v_goto hG dX3_newPerson_127 (tgt := 131) rfl ?_
              exact v_iret hG hR rfl rfl (sp2bt h) dX3_newPerson_131
        · replace h := ifn hc h
          refine v_iconst hG ci_0 dX3_newPerson_87 (q := 88) rfl ?_
          exact v_iret hG hR rfl rfl (sp2bt h) dX3_newPerson_88
      · replace h := ifp hc h
        refine v_iconst hG ci_0 dX3_newPerson_69 (q := 70) rfl ?_
        exact v_iret hG hR rfl rfl (sp2bt h) dX3_newPerson_70
    · replace h := ifp hc h
      refine v_iconst hG ci_0 dX3_newPerson_38 (q := 39) rfl ?_
      exact v_iret hG hR rfl rfl (sp2bt h) dX3_newPerson_39
  · replace h := ifn hc h
    refine v_iconst hG ci_0 dX3_newPerson_17 (q := 18) rfl ?_
    exact v_iret hG hR rfl rfl (sp2bt h) dX3_newPerson_18
theorem cvX3_newPerson : CVo mX3_newPerson 0 3 := ⟨moX3_newPerson, mvX3_newPerson, by decide, _, _, rfl⟩
theorem w_X3_newTie {E : EB} {M : Mem} {R : Bool × Mem} (h : f_X3_newTie M = some R) : Mt E mX3_newTie [.ref 51] M (PI (b2i R.1) R.2) := by
  refine mt_of (L0 := [some (.ref 51), none, none]) (by decide) rfl rfl (fun G hG hR => ?_)
  unfold f_X3_newTie at h
  refine v_aload_0 hG dX3_newTie_0 (q := 1) rfl ?_
  refine gt_RX3_15 hG rfl kk_51 dX3_newTie_1 (q := 4) rfl ?_
  refine gt_RX3_114 hG rfl kk_17 dX3_newTie_4 (q := 7) rfl ?_
  refine gt_RX3_118 hG rfl kk_25 dX3_newTie_7 (q := 10) rfl ?_
  refine v_iconst hG ci_1 dX3_newTie_10 (q := 11) rfl ?_
  refine v_isub hG dX3_newTie_11 (q := 12) rfl ?_
  refine v_topi (fun x1_1 hy => ?_)
  replace h := letv_at hy h
  clear hy
  refine v_istore_1 hG rfl dX3_newTie_12 (q := 13) rfl ?_
  refine v_aload_0 hG dX3_newTie_13 (q := 14) rfl ?_
  refine gt_RX3_9 hG rfl kk_51 dX3_newTie_14 (q := 17) rfl ?_
  obtain ⟨r_2, hr_2, h⟩ := bnd h
  refine v_cV0V hG cvX2_step ml_RX3_34 rfl kk_49 (w_X2_step hr_2) (Nat.le_of_ble_eq_true rfl) dX3_newTie_17 (q := 20) rfl ?_
  refine v_aload_0 hG dX3_newTie_20 (q := 21) rfl ?_
  refine gt_RX3_9 hG rfl kk_51 dX3_newTie_21 (q := 24) rfl ?_
  refine v_iload_1 hG dX3_newTie_24 (q := 25) rfl ?_
  obtain ⟨r_3, hr_3, h⟩ := bnd h
  refine v_cV1I hG cvX2_isNumberUpTo ml_RX3_126 rfl kk_49 (w_X2_isNumberUpTo hr_3) (Nat.le_of_ble_eq_true rfl) dX3_newTie_25 (q := 28) rfl ?_
  refine v_if_ne hG dX3_newTie_28 (tgt := 33) rfl (q := 31) rfl (fun hc => ?_) (fun hc => ?_)
  · replace h := ifn hc h
    refine v_aload_0 hG dX3_newTie_33 (q := 34) rfl ?_
    refine gt_RX3_9 hG rfl kk_51 dX3_newTie_34 (q := 37) rfl ?_
    refine gt_RX3_129 hG rfl kk_49 dX3_newTie_37 (q := 40) rfl ?_
    refine v_topi (fun x2_4 hy => ?_)
    replace h := letv_at hy h
    clear hy
    refine v_istore_2 hG rfl dX3_newTie_40 (q := 41) rfl ?_
    refine v_aload_0 hG dX3_newTie_41 (q := 42) rfl ?_
    refine gt_RX3_9 hG rfl kk_51 dX3_newTie_42 (q := 45) rfl ?_
    obtain ⟨r_5, hr_5, h⟩ := bnd h
    refine v_cV0V hG cvX2_step ml_RX3_34 rfl kk_49 (w_X2_step hr_5) (Nat.le_of_ble_eq_true rfl) dX3_newTie_45 (q := 48) rfl ?_
    refine v_aload_0 hG dX3_newTie_48 (q := 49) rfl ?_
    refine gt_RX3_9 hG rfl kk_51 dX3_newTie_49 (q := 52) rfl ?_
    refine v_iload_1 hG dX3_newTie_52 (q := 53) rfl ?_
    obtain ⟨r_6, hr_6, h⟩ := bnd h
    refine v_cV1I hG cvX2_isNumberUpTo ml_RX3_126 rfl kk_49 (w_X2_isNumberUpTo hr_6) (Nat.le_of_ble_eq_true rfl) dX3_newTie_53 (q := 56) rfl ?_
    refine v_if_eq hG dX3_newTie_56 (tgt := 70) rfl (q := 59) rfl (fun hc => ?_) (fun hc => ?_)
    · replace h := ifp hc h
      refine v_iconst hG ci_0 dX3_newTie_70 (q := 71) rfl ?_
      exact v_iret hG hR rfl rfl (sp2bt h) dX3_newTie_71
    · replace h := ifn hc h
      refine v_aload_0 hG dX3_newTie_59 (q := 60) rfl ?_
      refine gt_RX3_9 hG rfl kk_51 dX3_newTie_60 (q := 63) rfl ?_
      refine gt_RX3_129 hG rfl kk_49 dX3_newTie_63 (q := 66) rfl ?_
      refine v_iload_2 hG dX3_newTie_66 (q := 67) rfl ?_
      refine v_icmp_ne hG dX3_newTie_67 (tgt := 72) rfl (q := 70) rfl (fun hc => ?_) (fun hc => ?_)
      · replace h := ifn hc h
        refine v_aload_0 hG dX3_newTie_72 (q := 73) rfl ?_
        refine gt_RX3_15 hG rfl kk_51 dX3_newTie_73 (q := 76) rfl ?_
        refine gt_RX3_114 hG rfl kk_17 dX3_newTie_76 (q := 79) rfl ?_
        refine v_iload_2 hG dX3_newTie_79 (q := 80) rfl ?_
        refine v_aload_0 hG dX3_newTie_80 (q := 81) rfl ?_
        refine gt_RX3_9 hG rfl kk_51 dX3_newTie_81 (q := 84) rfl ?_
        refine gt_RX3_129 hG rfl kk_49 dX3_newTie_84 (q := 87) rfl ?_
        refine v_iconst hG ci_1 dX3_newTie_87 (q := 88) rfl ?_
        obtain ⟨r_7, hr_7, h⟩ := bnd h
        refine v_cV3V hG cvX0_bind ml_RX3_142 rfl kk_25 (w_X0_bind kk_25 hr_7) (Nat.le_of_ble_eq_true rfl) dX3_newTie_88 (q := 91) rfl ?_
        refine v_aload_0 hG dX3_newTie_91 (q := 92) rfl ?_
        refine gt_RX3_9 hG rfl kk_51 dX3_newTie_92 (q := 95) rfl ?_
        obtain ⟨r_8, hr_8, h⟩ := bnd h
        refine v_cV0V hG cvX2_step ml_RX3_34 rfl kk_49 (w_X2_step hr_8) (Nat.le_of_ble_eq_true rfl) dX3_newTie_95 (q := 98) rfl ?_
        refine v_iconst hG ci_1 dX3_newTie_98 (q := 99) rfl ?_
        exact v_iret hG hR rfl rfl (sp2bt h) dX3_newTie_99
      · replace h := ifp hc h
        refine v_iconst hG ci_0 dX3_newTie_70 (q := 71) rfl ?_
        exact v_iret hG hR rfl rfl (sp2bt h) dX3_newTie_71
  · replace h := ifp hc h
    refine v_iconst hG ci_0 dX3_newTie_31 (q := 32) rfl ?_
    exact v_iret hG hR rfl rfl (sp2bt h) dX3_newTie_32
theorem cvX3_newTie : CVo mX3_newTie 0 3 := ⟨moX3_newTie, mvX3_newTie, by decide, _, _, rfl⟩
theorem w_X3_newWriter {E : EB} {x1 : Int32} {M : Mem} {R : Bool × Mem} (h : f_X3_newWriter x1 M = some R) : Mt E mX3_newWriter [.ref 51, .int x1] M (PI (b2i R.1) R.2) := by
  refine mt_of (L0 := [some (.ref 51), some (.int x1), none, none]) (by decide) rfl rfl (fun G hG hR => ?_)
  unfold f_X3_newWriter at h
  refine v_aload_0 hG dX3_newWriter_0 (q := 1) rfl ?_
  refine gt_RX3_15 hG rfl kk_51 dX3_newWriter_1 (q := 4) rfl ?_
  refine gt_RX3_77 hG rfl kk_17 dX3_newWriter_4 (q := 7) rfl ?_
  refine v_astore_2 hG rfl dX3_newWriter_7 (q := 8) rfl ?_
  refine v_aload_2 hG dX3_newWriter_8 (q := 9) rfl ?_
  refine v_iload_1 hG dX3_newWriter_9 (q := 10) rfl ?_
  obtain ⟨r_1, hr_1, h⟩ := bnd h
  refine v_cV1I hG cvX5_addOne ml_RX3_83 rfl kk_18 (w_X5_addOne kk_18 hr_1) (Nat.le_of_ble_eq_true rfl) dX3_newWriter_10 (q := 13) rfl ?_
  refine v_istore_3 hG rfl dX3_newWriter_13 (q := 14) rfl ?_
  refine v_iload_3 hG dX3_newWriter_14 (q := 15) rfl ?_
  refine v_if_ge hG dX3_newWriter_15 (tgt := 20) rfl (q := 18) rfl (fun hc => ?_) (fun hc => ?_)
  · replace h := ifp hc h
    refine v_aload_0 hG dX3_newWriter_20 (q := 21) rfl ?_
    refine gt_RX3_9 hG rfl kk_51 dX3_newWriter_21 (q := 24) rfl ?_
    obtain ⟨r_2, hr_2, h⟩ := bnd h
    refine v_cV0V hG cvX2_step ml_RX3_34 rfl kk_49 (w_X2_step hr_2) (Nat.le_of_ble_eq_true rfl) dX3_newWriter_24 (q := 27) rfl ?_
    refine v_aload_0 hG dX3_newWriter_27 (q := 28) rfl ?_
    refine v_ldcS hG rfl (k := 9) (idx := 89) (by decide) dX3_newWriter_28 (q := 30) rfl ?_
    refine v_aload_2 hG dX3_newWriter_30 (q := 31) rfl ?_
    refine gt_RX3_91 hG rfl kk_18 dX3_newWriter_31 (q := 34) rfl ?_
    refine v_iload_3 hG dX3_newWriter_34 (q := 35) rfl ?_
    obtain ⟨r_3, hr_3, h⟩ := bnd h
    refine v_cV3I hG cvX3_perhapsMarks ml_RX3_94 rfl kk_51 (w_X3_perhapsMarks (by decide) kk_20 hr_3) (Nat.le_of_ble_eq_true rfl) dX3_newWriter_35 (q := 38) rfl ?_
    refine v_if_eq hG dX3_newWriter_38 (tgt := 89) rfl (q := 41) rfl (fun hc => ?_) (fun hc => ?_)
    · replace h := ifp hc h
      refine v_iconst hG ci_0 dX3_newWriter_89 (q := 90) rfl ?_
      exact v_iret hG hR rfl rfl (sp2bt h) dX3_newWriter_90
    · replace h := ifn hc h
      refine v_aload_0 hG dX3_newWriter_41 (q := 42) rfl ?_
      refine v_ldcS hG rfl (k := 10) (idx := 98) (by decide) dX3_newWriter_42 (q := 44) rfl ?_
      refine v_aload_2 hG dX3_newWriter_44 (q := 45) rfl ?_
      refine gt_RX3_100 hG rfl kk_18 dX3_newWriter_45 (q := 48) rfl ?_
      refine v_iload_3 hG dX3_newWriter_48 (q := 49) rfl ?_
      obtain ⟨r_4, hr_4, h⟩ := bnd h
      refine v_cV3I hG cvX3_perhapsMarks ml_RX3_94 rfl kk_51 (w_X3_perhapsMarks (by decide) kk_21 hr_4) (Nat.le_of_ble_eq_true rfl) dX3_newWriter_49 (q := 52) rfl ?_
      refine v_if_eq hG dX3_newWriter_52 (tgt := 89) rfl (q := 55) rfl (fun hc => ?_) (fun hc => ?_)
      · replace h := ifp hc h
        refine v_iconst hG ci_0 dX3_newWriter_89 (q := 90) rfl ?_
        exact v_iret hG hR rfl rfl (sp2bt h) dX3_newWriter_90
      · replace h := ifn hc h
        refine v_aload_0 hG dX3_newWriter_55 (q := 56) rfl ?_
        refine v_ldcS hG rfl (k := 11) (idx := 102) (by decide) dX3_newWriter_56 (q := 58) rfl ?_
        refine v_aload_2 hG dX3_newWriter_58 (q := 59) rfl ?_
        refine gt_RX3_104 hG rfl kk_18 dX3_newWriter_59 (q := 62) rfl ?_
        refine v_iload_3 hG dX3_newWriter_62 (q := 63) rfl ?_
        obtain ⟨r_5, hr_5, h⟩ := bnd h
        refine v_cV3I hG cvX3_perhapsMarks ml_RX3_94 rfl kk_51 (w_X3_perhapsMarks (by decide) kk_22 hr_5) (Nat.le_of_ble_eq_true rfl) dX3_newWriter_63 (q := 66) rfl ?_
        refine v_if_eq hG dX3_newWriter_66 (tgt := 89) rfl (q := 69) rfl (fun hc => ?_) (fun hc => ?_)
        · replace h := ifp hc h
          refine v_iconst hG ci_0 dX3_newWriter_89 (q := 90) rfl ?_
          exact v_iret hG hR rfl rfl (sp2bt h) dX3_newWriter_90
        · replace h := ifn hc h
          refine v_aload_0 hG dX3_newWriter_69 (q := 70) rfl ?_
          refine v_ldcS hG rfl (k := 12) (idx := 106) (by decide) dX3_newWriter_70 (q := 72) rfl ?_
          refine v_bipush hG cb_99 dX3_newWriter_72 (q := 74) rfl ?_
          refine v_aload_2 hG dX3_newWriter_74 (q := 75) rfl ?_
          refine gt_RX3_108 hG rfl kk_18 dX3_newWriter_75 (q := 78) rfl ?_
          refine v_iload_3 hG dX3_newWriter_78 (q := 79) rfl ?_
          obtain ⟨r_6, hr_6, h⟩ := bnd h
          refine v_cV4I hG cvX3_perhapsNumber ml_RX3_110 rfl kk_51 (w_X3_perhapsNumber (by decide) kk_23 hr_6) (Nat.le_of_ble_eq_true rfl) dX3_newWriter_79 (q := 82) rfl ?_
          refine v_if_eq hG dX3_newWriter_82 (tgt := 89) rfl (q := 85) rfl (fun hc => ?_) (fun hc => ?_)
          · replace h := ifp hc h
            refine v_iconst hG ci_0 dX3_newWriter_89 (q := 90) rfl ?_
            exact v_iret hG hR rfl rfl (sp2bt h) dX3_newWriter_90
          · replace h := ifn hc h
            refine v_iconst hG ci_1 dX3_newWriter_85 (q := 86) rfl ?_
            refine v_goto hG dX3_newWriter_86 (tgt := 90) rfl ?_
            exact v_iret hG hR rfl rfl (sp2bt h) dX3_newWriter_90
  · replace h := ifn hc h
    refine v_iconst hG ci_0 dX3_newWriter_18 (q := 19) rfl ?_
    exact v_iret hG hR rfl rfl (sp2bt h) dX3_newWriter_19
theorem cvX3_newWriter : CVo mX3_newWriter 1 3 := ⟨moX3_newWriter, mvX3_newWriter, by decide, _, _, rfl⟩
theorem w_X3_item {E : EB} {M : Mem} {R : Bool × Mem} (h : f_X3_item M = some R) : Mt E mX3_item [.ref 51] M (PI (b2i R.1) R.2) := by
  refine mt_of (L0 := [some (.ref 51), none]) (by decide) rfl rfl (fun G hG hR => ?_)
  unfold f_X3_item at h
  refine v_aload_0 hG dX3_item_0 (q := 1) rfl ?_
  refine gt_RX3_9 hG rfl kk_51 dX3_item_1 (q := 4) rfl ?_
  refine v_ldcS hG rfl (k := 0) (idx := 41) (by decide) dX3_item_4 (q := 6) rfl ?_
  obtain ⟨r_1, hr_1, h⟩ := bnd h
  refine v_cV1I hG cvX2_isWord ml_RX3_43 rfl kk_49 (w_X2_isWord (by decide) hr_1) (Nat.le_of_ble_eq_true rfl) dX3_item_6 (q := 9) rfl ?_
  refine v_if_eq hG dX3_item_9 (tgt := 17) rfl (q := 12) rfl (fun hc => ?_) (fun hc => ?_)
  · replace h := ifp hc h
    refine v_aload_0 hG dX3_item_17 (q := 18) rfl ?_
    refine gt_RX3_9 hG rfl kk_51 dX3_item_18 (q := 21) rfl ?_
    refine v_ldcS hG rfl (k := 1) (idx := 50) (by decide) dX3_item_21 (q := 23) rfl ?_
    obtain ⟨r_2, hr_2, h⟩ := bnd h
    refine v_cV1I hG cvX2_isWord ml_RX3_43 rfl kk_49 (w_X2_isWord (by decide) hr_2) (Nat.le_of_ble_eq_true rfl) dX3_item_23 (q := 26) rfl ?_
    refine v_if_eq hG dX3_item_26 (tgt := 34) rfl (q := 29) rfl (fun hc => ?_) (fun hc => ?_)
    · replace h := ifp hc h
      refine v_aload_0 hG dX3_item_34 (q := 35) rfl ?_
      obtain ⟨r_3, hr_3, h⟩ := bnd h
      refine v_cV0I hG cvX3_kindOfWord ml_RX3_55 rfl kk_51 (w_X3_kindOfWord hr_3) (Nat.le_of_ble_eq_true rfl) dX3_item_35 (q := 38) rfl ?_
      refine v_istore_1 hG rfl dX3_item_38 (q := 39) rfl ?_
      refine v_iload_1 hG dX3_item_39 (q := 40) rfl ?_
      refine v_if_lt hG dX3_item_40 (tgt := 55) rfl (q := 43) rfl (fun hc => ?_) (fun hc => ?_)
      · replace h := ifp hc h
        refine v_iconst hG ci_0 dX3_item_55 (q := 56) rfl ?_
        exact v_iret hG hR rfl rfl (sp2bt h) dX3_item_56
      · replace h := ifn hc h
        refine v_aload_0 hG dX3_item_43 (q := 44) rfl ?_
        refine v_iload_1 hG dX3_item_44 (q := 45) rfl ?_
        obtain ⟨r_4, hr_4, h⟩ := bnd h
        refine v_cV1I hG cvX3_newWriter ml_RX3_59 rfl kk_51 (w_X3_newWriter hr_4) (Nat.le_of_ble_eq_true rfl) dX3_item_45 (q := 48) rfl ?_
        refine v_if_eq hG dX3_item_48 (tgt := 55) rfl (q := 51) rfl (fun hc => ?_) (fun hc => ?_)
        · replace h := ifp hc h
          refine v_iconst hG ci_0 dX3_item_55 (q := 56) rfl ?_
          exact v_iret hG hR rfl rfl (sp2bt h) dX3_item_56
        · replace h := ifn hc h
          refine v_iconst hG ci_1 dX3_item_51 (q := 52) rfl ?_
          refine v_goto hG dX3_item_52 (tgt := 56) rfl ?_
          exact v_iret hG hR rfl rfl (sp2bt h) dX3_item_56
    · replace h := ifn hc h
      refine v_aload_0 hG dX3_item_29 (q := 30) rfl ?_
      obtain ⟨r_5, hr_5, h⟩ := bnd h
      refine v_cV0I hG cvX3_newTie ml_RX3_52 rfl kk_51 (w_X3_newTie hr_5) (Nat.le_of_ble_eq_true rfl) dX3_item_30 (q := 33) rfl ?_
      exact v_iret hG hR rfl (b2i_nar _) (sp2bt h) dX3_item_33
  · replace h := ifn hc h
    refine v_aload_0 hG dX3_item_12 (q := 13) rfl ?_
    obtain ⟨r_6, hr_6, h⟩ := bnd h
    refine v_cV0I hG cvX3_newPerson ml_RX3_47 rfl kk_51 (w_X3_newPerson hr_6) (Nat.le_of_ble_eq_true rfl) dX3_item_13 (q := 16) rfl ?_
    exact v_iret hG hR rfl (b2i_nar _) (sp2bt h) dX3_item_16
theorem cvX3_item : CVo mX3_item 0 3 := ⟨moX3_item, mvX3_item, by decide, _, _, rfl⟩
theorem w_X3_wholeText_b9 {E : EB} {G : GB} (hG : Gd E mX3_wholeText G) {M : Mem} {R : Int32 × Mem} (hR : Rt E mX3_wholeText (PI R.1 R.2) G) {k9 : Int32 → Mem → Option (Int32 × Mem)} (hk9 : ∀ (x1 : Int32) (M : Mem), k9 x1 M = some R → V E G 9 [some (.ref 51), some (.int x1)] [] M) {x1 : Int32} (h : f_X3_wholeText_b9 k9 x1 M = some R) : V E G 9 [some (.ref 51), some (.int x1)] [] M := by
  unfold f_X3_wholeText_b9 at h
  refine v_iload_1 hG dX3_wholeText_9 (q := 10) rfl ?_
  refine v_bipush hG cb_120 dX3_wholeText_10 (q := 12) rfl ?_
  refine v_icmp_gt hG dX3_wholeText_12 (tgt := 63) rfl (q := 15) rfl (fun hc => ?_) (fun hc => ?_)
  · replace h := ifp hc h
    refine v_iconst hG ci_m1 dX3_wholeText_63 (q := 64) rfl ?_
    refine v_aload_0 hG dX3_wholeText_64 (q := 65) rfl ?_
    refine gt_RX3_9 hG rfl kk_51 dX3_wholeText_65 (q := 68) rfl ?_
    refine gt_RX3_37 hG rfl kk_49 dX3_wholeText_68 (q := 71) rfl ?_
    refine v_isub hG dX3_wholeText_71 (q := 72) rfl ?_
    exact v_iret hG hR rfl rfl (sp2t h) dX3_wholeText_72
  · replace h := ifn hc h
    refine v_aload_0 hG dX3_wholeText_15 (q := 16) rfl ?_
    obtain ⟨r_2, hr_2, h⟩ := bnd h
    refine v_cV0I hG cvX3_item ml_RX3_24 rfl kk_51 (w_X3_item hr_2) (Nat.le_of_ble_eq_true rfl) dX3_wholeText_16 (q := 19) rfl ?_
    refine v_if_ne hG dX3_wholeText_19 (tgt := 25) rfl (q := 22) rfl (fun hc => ?_) (fun hc => ?_)
    · replace h := ifn hc h
      refine v_aload_0 hG dX3_wholeText_25 (q := 26) rfl ?_
      refine gt_RX3_9 hG rfl kk_51 dX3_wholeText_26 (q := 29) rfl ?_
      obtain ⟨r_3, hr_3, h⟩ := bnd h
      refine v_cV0I hG cvX2_isAtEnd ml_RX3_28 rfl kk_49 (w_X2_isAtEnd hr_3) (Nat.le_of_ble_eq_true rfl) dX3_wholeText_29 (q := 32) rfl ?_
      refine v_if_eq hG dX3_wholeText_32 (tgt := 37) rfl (q := 35) rfl (fun hc => ?_) (fun hc => ?_)
      · replace h := ifp hc h
        refine v_aload_0 hG dX3_wholeText_37 (q := 38) rfl ?_
        refine gt_RX3_9 hG rfl kk_51 dX3_wholeText_38 (q := 41) rfl ?_
        obtain ⟨r_4, hr_4, h⟩ := bnd h
        refine v_cV0I hG cvX2_isSign ml_RX3_31 rfl kk_49 (w_X2_isSign hr_4) (Nat.le_of_ble_eq_true rfl) dX3_wholeText_41 (q := 44) rfl ?_
        refine v_if_ne hG dX3_wholeText_44 (tgt := 50) rfl (q := 47) rfl (fun hc => ?_) (fun hc => ?_)
        · replace h := ifn hc h
          refine v_aload_0 hG dX3_wholeText_50 (q := 51) rfl ?_
          refine gt_RX3_9 hG rfl kk_51 dX3_wholeText_51 (q := 54) rfl ?_
          obtain ⟨r_5, hr_5, h⟩ := bnd h
          refine v_cV0V hG cvX2_step ml_RX3_34 rfl kk_49 (w_X2_step hr_5) (Nat.le_of_ble_eq_true rfl) dX3_wholeText_54 (q := 57) rfl ?_
          refine v_iinc_1 hG rfl dX3_wholeText_57 (congrArg _ ci_1) (q := 60) rfl ?_
          refine v_goto hG dX3_wholeText_60 (tgt := 9) rfl ?_
          exact hk9 _ _ h
        · replace h := ifp hc h
          refine v_goto hG dX3_wholeText_47 (tgt := 63) rfl ?_
          refine v_iconst hG ci_m1 dX3_wholeText_63 (q := 64) rfl ?_
          refine v_aload_0 hG dX3_wholeText_64 (q := 65) rfl ?_
          refine gt_RX3_9 hG rfl kk_51 dX3_wholeText_65 (q := 68) rfl ?_
          refine gt_RX3_37 hG rfl kk_49 dX3_wholeText_68 (q := 71) rfl ?_
          refine v_isub hG dX3_wholeText_71 (q := 72) rfl ?_
          exact v_iret hG hR rfl rfl (sp2t h) dX3_wholeText_72
      · replace h := ifn hc h
        refine v_iload_1 hG dX3_wholeText_35 (q := 36) rfl ?_
        exact v_iret hG hR rfl rfl (sp2t h) dX3_wholeText_36
    · replace h := ifp hc h
      refine v_goto hG dX3_wholeText_22 (tgt := 63) rfl ?_
      refine v_iconst hG ci_m1 dX3_wholeText_63 (q := 64) rfl ?_
      refine v_aload_0 hG dX3_wholeText_64 (q := 65) rfl ?_
      refine gt_RX3_9 hG rfl kk_51 dX3_wholeText_65 (q := 68) rfl ?_
      refine gt_RX3_37 hG rfl kk_49 dX3_wholeText_68 (q := 71) rfl ?_
      refine v_isub hG dX3_wholeText_71 (q := 72) rfl ?_
      exact v_iret hG hR rfl rfl (sp2t h) dX3_wholeText_72
theorem w_X3_wholeText_l9 {E : EB} {G : GB} (hG : Gd E mX3_wholeText G) {R : Int32 × Mem} (hR : Rt E mX3_wholeText (PI R.1 R.2) G) : ∀ (n : Nat) (x1 : Int32) (M : Mem), f_X3_wholeText_l9 n x1 M = some R → V E G 9 [some (.ref 51), some (.int x1)] [] M := by
  intro n
  induction n with
  | zero => intro x1 M h; cases h
  | succ n ih => intro x1 M h; exact w_X3_wholeText_b9 hG hR ih h
theorem w_X3_wholeText {E : EB} {M : Mem} {R : Int32 × Mem} (h : f_X3_wholeText M = some R) : Mt E mX3_wholeText [.ref 51] M (PI R.1 R.2) := by
  refine mt_of (L0 := [some (.ref 51), none]) (by decide) rfl rfl (fun G hG hR => ?_)
  unfold f_X3_wholeText at h
  refine v_aload_0 hG dX3_wholeText_0 (q := 1) rfl ?_
  refine gt_RX3_9 hG rfl kk_51 dX3_wholeText_1 (q := 4) rfl ?_
  obtain ⟨r_1, hr_1, h⟩ := bnd h
  refine v_cV0V hG cvX2_rewind ml_RX3_19 rfl kk_49 (w_X2_rewind hr_1) (Nat.le_of_ble_eq_true rfl) dX3_wholeText_4 (q := 7) rfl ?_
  refine v_iconst hG ci_1 dX3_wholeText_7 (q := 8) rfl ?_
  refine v_istore_1 hG rfl dX3_wholeText_8 (q := 9) rfl ?_
  exact w_X3_wholeText_l9 hG hR FU _ _ h
theorem cvX3_wholeText : CVo mX3_wholeText 0 3 := ⟨moX3_wholeText, mvX3_wholeText, by decide, _, _, rfl⟩
theorem w_X4_become {E : EB} {r0 : Nat} {r1 : Nat} (k0 : IsK r0 4) (k1 : IsK r1 4) {M : Mem} {R : Mem} (h : f_X4_become r0 r1 M = some R) : Mt E mX4_become [.ref r0, .ref r1] M (PV R) := by
  refine mt_of (L0 := [some (.ref r0), some (.ref r1)]) (by decide) rfl rfl (fun G hG hR => ?_)
  unfold f_X4_become at h
  refine v_aload_0 hG dX4_become_0 (q := 1) rfl ?_
  refine gt_RX4_12 hG rfl k0 dX4_become_1 (q := 4) rfl ?_
  refine v_aload_1 hG dX4_become_4 (q := 5) rfl ?_
  refine gt_RX4_12 hG rfl k1 dX4_become_5 (q := 8) rfl ?_
  obtain ⟨r_1, hr_1, h⟩ := bnd h
  refine v_cV1V hG cvX5_become ml_RX4_39 rfl ((k0).w) (w_X5_become ((k0).w) ((k1).w) hr_1) (Nat.le_of_ble_eq_true rfl) dX4_become_8 (q := 11) rfl ?_
  refine v_aload_0 hG dX4_become_11 (q := 12) rfl ?_
  refine gt_RX4_21 hG rfl k0 dX4_become_12 (q := 15) rfl ?_
  refine v_aload_1 hG dX4_become_15 (q := 16) rfl ?_
  refine gt_RX4_21 hG rfl k1 dX4_become_16 (q := 19) rfl ?_
  obtain ⟨r_2, hr_2, h⟩ := bnd h
  refine v_cV1V hG cvX0_become ml_RX4_43 rfl ((k0).p) (w_X0_become ((k0).p) ((k1).p) hr_2) (Nat.le_of_ble_eq_true rfl) dX4_become_19 (q := 22) rfl ?_
  refine v_aload_1 hG dX4_become_22 (q := 23) rfl ?_
  refine gt_RX4_25 hG rfl k1 dX4_become_23 (q := 26) rfl ?_
  refine v_iconst hG ci_0 dX4_become_26 (q := 27) rfl ?_
  refine v_aload_0 hG dX4_become_27 (q := 28) rfl ?_
  refine gt_RX4_25 hG rfl k0 dX4_become_28 (q := 31) rfl ?_
  refine v_iconst hG ci_0 dX4_become_31 (q := 32) rfl ?_
  refine v_bipush hG cb_10 dX4_become_32 (q := 34) rfl ?_
  obtain ⟨c_4, h⟩ := ck_some h
  refine v_copy hG ac_RX4_46 rfl rfl ((k1).s) ((k1).sl) ((k0).s) ((k0).sl) c_4 (Nat.le_of_ble_eq_true rfl) dX4_become_34 (q := 37) rfl ?_
  refine v_topM (fun M_3 hy => ?_)
  replace h := letv_at hy h
  clear hy
  refine v_aload_0 hG dX4_become_37 (q := 38) rfl ?_
  refine v_aload_1 hG dX4_become_38 (q := 39) rfl ?_
  refine gt_RX4_52 hG rfl k1 dX4_become_39 (q := 42) rfl ?_
  refine pt_RX4_52 hG rfl k0 dX4_become_42 (q := 45) rfl ?_
  refine v_topM (fun M_5 hy => ?_)
  replace h := letv_at hy h
  clear hy
  refine v_aload_0 hG dX4_become_45 (q := 46) rfl ?_
  refine v_aload_1 hG dX4_become_46 (q := 47) rfl ?_
  refine gt_RX4_55 hG rfl k1 dX4_become_47 (q := 50) rfl ?_
  refine pt_RX4_55 hG rfl k0 dX4_become_50 (q := 53) rfl ?_
  refine v_topM (fun M_6 hy => ?_)
  replace h := letv_at hy h
  clear hy
  refine v_aload_0 hG dX4_become_53 (q := 54) rfl ?_
  refine v_aload_1 hG dX4_become_54 (q := 55) rfl ?_
  refine gt_RX4_35 hG rfl k1 dX4_become_55 (q := 58) rfl ?_
  refine pt_RX4_35 hG rfl k0 dX4_become_58 (q := 61) rfl ?_
  refine v_topM (fun M_7 hy => ?_)
  replace h := letv_at hy h
  clear hy
  refine v_aload_0 hG dX4_become_61 (q := 62) rfl ?_
  refine v_iconst hG ci_0 dX4_become_62 (q := 63) rfl ?_
  refine pt_RX4_58 hG rfl k0 dX4_become_63 (q := 66) rfl ?_
  refine v_topM (fun M_8 hy => ?_)
  replace h := letv_at hy h
  clear hy
  exact v_vret hG hR rfl (spv h) dX4_become_66
theorem cvX4_become : CVo mX4_become 1 4 := ⟨moX4_become, mvX4_become, by decide, _, _, rfl⟩
theorem w_X4_hasYears {E : EB} {r0 : Nat} {x1 : Int32} (k0 : IsK r0 4) {M : Mem} {R : Bool} (h : f_X4_hasYears r0 x1 M = some R) : Mt E mX4_hasYears [.ref r0, .int x1] M (PI (b2i R) M) := by
  refine mt_of (L0 := [some (.ref r0), some (.int x1)]) (by decide) rfl rfl (fun G hG hR => ?_)
  unfold f_X4_hasYears at h
  refine v_aload_0 hG dX4_hasYears_0 (q := 1) rfl ?_
  refine gt_RX4_52 hG rfl k0 dX4_hasYears_1 (q := 4) rfl ?_
  refine v_iload_1 hG dX4_hasYears_4 (q := 5) rfl ?_
  refine v_iadd hG dX4_hasYears_5 (q := 6) rfl ?_
  refine v_sipush hG cs_999 dX4_hasYears_6 (q := 9) rfl ?_
  refine v_icmp_gt hG dX4_hasYears_9 (tgt := 16) rfl (q := 12) rfl (fun hc => ?_) (fun hc => ?_)
  · replace h := ifp hc h
    refine v_iconst hG ci_0 dX4_hasYears_16 (q := 17) rfl ?_
    exact v_iret hG hR rfl rfl (sp1b h) dX4_hasYears_17
  · replace h := ifn hc h
    refine v_iconst hG ci_1 dX4_hasYears_12 (q := 13) rfl ?_
    refine v_goto hG dX4_hasYears_13 (tgt := 17) rfl ?_
    exact v_iret hG hR rfl rfl (sp1b h) dX4_hasYears_17
theorem cvX4_hasYears : CVo mX4_hasYears 1 4 := ⟨moX4_hasYears, mvX4_hasYears, by decide, _, _, rfl⟩
theorem w_X4_heard {E : EB} {r0 : Nat} {x1 : Int32} {x2 : Int32} (k0 : IsK r0 4) {M : Mem} {R : Int32} (h : f_X4_heard r0 x1 x2 M = some R) : Mt E mX4_heard [.ref r0, .int x1, .int x2] M (PI R M) := by
  refine mt_of (L0 := [some (.ref r0), some (.int x1), some (.int x2)]) (by decide) rfl rfl (fun G hG hR => ?_)
  unfold f_X4_heard at h
  refine v_aload_0 hG dX4_heard_0 (q := 1) rfl ?_
  refine gt_RX4_21 hG rfl k0 dX4_heard_1 (q := 4) rfl ?_
  refine gt_RX4_61 hG rfl ((k0).p) dX4_heard_4 (q := 7) rfl ?_
  refine v_iload_1 hG dX4_heard_7 (q := 8) rfl ?_
  obtain ⟨c_1, h⟩ := ck_some h
  refine v_iald hG (((k0).p).p5) (((k0).p).pl5) c_1 dX4_heard_8 (q := 9) rfl ?_
  refine v_if_eq hG dX4_heard_9 (tgt := 16) rfl (q := 12) rfl (fun hc => ?_) (fun hc => ?_)
  · replace h := ifp hc h
    refine v_aload_0 hG dX4_heard_16 (q := 17) rfl ?_
    refine gt_RX4_12 hG rfl k0 dX4_heard_17 (q := 20) rfl ?_
    refine v_aload_0 hG dX4_heard_20 (q := 21) rfl ?_
    refine gt_RX4_21 hG rfl k0 dX4_heard_21 (q := 24) rfl ?_
    refine gt_RX4_64 hG rfl ((k0).p) dX4_heard_24 (q := 27) rfl ?_
    refine v_iload_1 hG dX4_heard_27 (q := 28) rfl ?_
    obtain ⟨c_2, h⟩ := ck_some h
    refine v_iald hG (((k0).p).p3) (((k0).p).pl3) c_2 dX4_heard_28 (q := 29) rfl ?_
    refine v_iload_2 hG dX4_heard_29 (q := 30) rfl ?_
    obtain ⟨r_3, hr_3, h⟩ := bnd h
    refine v_cV2I hG cvX5_make ml_RX4_67 rfl ((k0).w) (w_X5_make ((k0).w) hr_3) (Nat.le_of_ble_eq_true rfl) dX4_heard_30 (q := 33) rfl ?_
    exact v_iret hG hR rfl rfl (sp1 h) dX4_heard_33
  · replace h := ifn hc h
    refine v_iload_2 hG dX4_heard_12 (q := 13) rfl ?_
    refine v_goto hG dX4_heard_13 (tgt := 33) rfl ?_
    exact v_iret hG hR rfl rfl (sp1 h) dX4_heard_33
theorem cvX4_heard : CVo mX4_heard 2 4 := ⟨moX4_heard, mvX4_heard, by decide, _, _, rfl⟩
theorem w_X4_fee {E : EB} {r0 : Nat} {x1 : Int32} (k0 : IsK r0 4) {M : Mem} {R : Int32} (h : f_X4_fee r0 x1 M = some R) : Mt E mX4_fee [.ref r0, .int x1] M (PI R M) := by
  refine mt_of (L0 := [some (.ref r0), some (.int x1), none]) (by decide) rfl rfl (fun G hG hR => ?_)
  unfold f_X4_fee at h
  refine v_aload_0 hG dX4_fee_0 (q := 1) rfl ?_
  refine gt_RX4_21 hG rfl k0 dX4_fee_1 (q := 4) rfl ?_
  refine gt_RX4_64 hG rfl ((k0).p) dX4_fee_4 (q := 7) rfl ?_
  refine v_iload_1 hG dX4_fee_7 (q := 8) rfl ?_
  obtain ⟨c_1, h⟩ := ck_some h
  refine v_iald hG (((k0).p).p3) (((k0).p).pl3) c_1 dX4_fee_8 (q := 9) rfl ?_
  refine v_topi (fun x2_2 hy => ?_)
  replace h := letv_at hy h
  clear hy
  refine v_istore_2 hG rfl dX4_fee_9 (q := 10) rfl ?_
  refine v_aload_0 hG dX4_fee_10 (q := 11) rfl ?_
  refine gt_RX4_21 hG rfl k0 dX4_fee_11 (q := 14) rfl ?_
  refine gt_RX4_61 hG rfl ((k0).p) dX4_fee_14 (q := 17) rfl ?_
  refine v_iload_1 hG dX4_fee_17 (q := 18) rfl ?_
  obtain ⟨c_3, h⟩ := ck_some h
  refine v_iald hG (((k0).p).p5) (((k0).p).pl5) c_3 dX4_fee_18 (q := 19) rfl ?_
  refine v_if_ne hG dX4_fee_19 (tgt := 33) rfl (q := 22) rfl (fun hc => ?_) (fun hc => ?_)
  · replace h := ifn hc h
    refine v_iconst hG ci_0 dX4_fee_33 (q := 34) rfl ?_
    refine v_goto hG dX4_fee_34 (tgt := 46) rfl ?_
    exact v_iret hG hR rfl rfl (sp1 h) dX4_fee_46
  · replace h := ifp hc h
    refine v_aload_0 hG dX4_fee_22 (q := 23) rfl ?_
    refine gt_RX4_12 hG rfl k0 dX4_fee_23 (q := 26) rfl ?_
    refine v_iload_2 hG dX4_fee_26 (q := 27) rfl ?_
    obtain ⟨r_4, hr_4, h⟩ := bnd h
    refine v_cV1I hG cvX5_has ml_RX4_71 rfl ((k0).w) (w_X5_has ((k0).w) hr_4) (Nat.le_of_ble_eq_true rfl) dX4_fee_27 (q := 30) rfl ?_
    refine v_if_ne hG dX4_fee_30 (tgt := 37) rfl (q := 33) rfl (fun hc => ?_) (fun hc => ?_)
    · replace h := ifn hc h
      refine v_aload_0 hG dX4_fee_37 (q := 38) rfl ?_
      refine gt_RX4_12 hG rfl k0 dX4_fee_38 (q := 41) rfl ?_
      refine gt_RX4_75 hG rfl ((k0).w) dX4_fee_41 (q := 44) rfl ?_
      refine v_iload_2 hG dX4_fee_44 (q := 45) rfl ?_
      obtain ⟨c_5, h⟩ := ck_some h
      refine v_iald hG (((k0).w).w5) (((k0).w).wl5) c_5 dX4_fee_45 (q := 46) rfl ?_
      exact v_iret hG hR rfl rfl (sp1 h) dX4_fee_46
    · replace h := ifp hc h
      refine v_iconst hG ci_0 dX4_fee_33 (q := 34) rfl ?_
      refine v_goto hG dX4_fee_34 (tgt := 46) rfl ?_
      exact v_iret hG hR rfl rfl (sp1 h) dX4_fee_46
theorem cvX4_fee : CVo mX4_fee 1 4 := ⟨moX4_fee, mvX4_fee, by decide, _, _, rfl⟩
theorem w_X4_pay {E : EB} {r0 : Nat} {x1 : Int32} (k0 : IsK r0 4) {M : Mem} {R : Mem} (h : f_X4_pay r0 x1 M = some R) : Mt E mX4_pay [.ref r0, .int x1] M (PV R) := by
  refine mt_of (L0 := [some (.ref r0), some (.int x1), none]) (by decide) rfl rfl (fun G hG hR => ?_)
  unfold f_X4_pay at h
  refine v_aload_0 hG dX4_pay_0 (q := 1) rfl ?_
  refine gt_RX4_21 hG rfl k0 dX4_pay_1 (q := 4) rfl ?_
  refine gt_RX4_64 hG rfl ((k0).p) dX4_pay_4 (q := 7) rfl ?_
  refine v_iload_1 hG dX4_pay_7 (q := 8) rfl ?_
  obtain ⟨c_1, h⟩ := ck_some h
  refine v_iald hG (((k0).p).p3) (((k0).p).pl3) c_1 dX4_pay_8 (q := 9) rfl ?_
  refine v_topi (fun x2_2 hy => ?_)
  replace h := letv_at hy h
  clear hy
  refine v_istore_2 hG rfl dX4_pay_9 (q := 10) rfl ?_
  refine v_aload_0 hG dX4_pay_10 (q := 11) rfl ?_
  refine gt_RX4_21 hG rfl k0 dX4_pay_11 (q := 14) rfl ?_
  refine gt_RX4_61 hG rfl ((k0).p) dX4_pay_14 (q := 17) rfl ?_
  refine v_iload_1 hG dX4_pay_17 (q := 18) rfl ?_
  obtain ⟨c_3, h⟩ := ck_some h
  refine v_iald hG (((k0).p).p5) (((k0).p).pl5) c_3 dX4_pay_18 (q := 19) rfl ?_
  refine v_if_ne hG dX4_pay_19 (tgt := 33) rfl (q := 22) rfl (fun hc => ?_) (fun hc => ?_)
  · replace h := ifn hc h
    exact v_vret hG hR rfl (spv h) dX4_pay_33
  · replace h := ifp hc h
    refine v_aload_0 hG dX4_pay_22 (q := 23) rfl ?_
    refine gt_RX4_12 hG rfl k0 dX4_pay_23 (q := 26) rfl ?_
    refine v_iload_2 hG dX4_pay_26 (q := 27) rfl ?_
    obtain ⟨r_4, hr_4, h⟩ := bnd h
    refine v_cV1I hG cvX5_has ml_RX4_71 rfl ((k0).w) (w_X5_has ((k0).w) hr_4) (Nat.le_of_ble_eq_true rfl) dX4_pay_27 (q := 30) rfl ?_
    refine v_if_ne hG dX4_pay_30 (tgt := 34) rfl (q := 33) rfl (fun hc => ?_) (fun hc => ?_)
    · replace h := ifn hc h
      refine v_aload_0 hG dX4_pay_34 (q := 35) rfl ?_
      refine gt_RX4_21 hG rfl k0 dX4_pay_35 (q := 38) rfl ?_
      refine gt_RX4_78 hG rfl ((k0).p) dX4_pay_38 (q := 41) rfl ?_
      refine v_iload_1 hG dX4_pay_41 (q := 42) rfl ?_
      refine v_dup2 hG rfl rfl dX4_pay_42 (q := 43) rfl ?_
      obtain ⟨c_5, h⟩ := ck_some h
      refine v_iald hG (((k0).p).p4) (((k0).p).pl4) c_5 dX4_pay_43 (q := 44) rfl ?_
      refine v_aload_0 hG dX4_pay_44 (q := 45) rfl ?_
      refine gt_RX4_12 hG rfl k0 dX4_pay_45 (q := 48) rfl ?_
      refine gt_RX4_75 hG rfl ((k0).w) dX4_pay_48 (q := 51) rfl ?_
      refine v_iload_2 hG dX4_pay_51 (q := 52) rfl ?_
      obtain ⟨c_6, h⟩ := ck_some h
      refine v_iald hG (((k0).w).w5) (((k0).w).wl5) c_6 dX4_pay_52 (q := 53) rfl ?_
      refine v_isub hG dX4_pay_53 (q := 54) rfl ?_
      obtain ⟨c_7, h⟩ := ck_some h
      refine v_iast hG (((k0).p).p4) (((k0).p).pl4) c_7 dX4_pay_54 (q := 55) rfl ?_
      refine v_topM (fun M_8 hy => ?_)
      replace h := letv_at hy h
      clear hy
      refine v_aload_0 hG dX4_pay_55 (q := 56) rfl ?_
      refine gt_RX4_12 hG rfl k0 dX4_pay_56 (q := 59) rfl ?_
      refine gt_RX4_81 hG rfl ((k0).w) dX4_pay_59 (q := 62) rfl ?_
      refine v_iload_2 hG dX4_pay_62 (q := 63) rfl ?_
      refine v_dup2 hG rfl rfl dX4_pay_63 (q := 64) rfl ?_
      obtain ⟨c_9, h⟩ := ck_some h
      refine v_iald hG (((k0).w).w6) (((k0).w).wl6) c_9 dX4_pay_64 (q := 65) rfl ?_
      refine v_aload_0 hG dX4_pay_65 (q := 66) rfl ?_
      refine gt_RX4_12 hG rfl k0 dX4_pay_66 (q := 69) rfl ?_
      refine gt_RX4_75 hG rfl ((k0).w) dX4_pay_69 (q := 72) rfl ?_
      refine v_iload_2 hG dX4_pay_72 (q := 73) rfl ?_
      obtain ⟨c_10, h⟩ := ck_some h
      refine v_iald hG (((k0).w).w5) (((k0).w).wl5) c_10 dX4_pay_73 (q := 74) rfl ?_
      refine v_iadd hG dX4_pay_74 (q := 75) rfl ?_
      obtain ⟨c_11, h⟩ := ck_some h
      refine v_iast hG (((k0).w).w6) (((k0).w).wl6) c_11 dX4_pay_75 (q := 76) rfl ?_
      refine v_topM (fun M_12 hy => ?_)
      replace h := letv_at hy h
      clear hy
      refine v_aload_0 hG dX4_pay_76 (q := 77) rfl ?_
      refine v_dup hG rfl dX4_pay_77 (q := 78) rfl ?_
      refine gt_RX4_58 hG rfl k0 dX4_pay_78 (q := 81) rfl ?_
      refine v_iconst hG ci_1 dX4_pay_81 (q := 82) rfl ?_
      refine v_iadd hG dX4_pay_82 (q := 83) rfl ?_
      refine pt_RX4_58 hG rfl k0 dX4_pay_83 (q := 86) rfl ?_
      refine v_topM (fun M_13 hy => ?_)
      replace h := letv_at hy h
      clear hy
      exact v_vret hG hR rfl (spv h) dX4_pay_86
    · replace h := ifp hc h
      exact v_vret hG hR rfl (spv h) dX4_pay_33
theorem cvX4_pay : CVo mX4_pay 1 4 := ⟨moX4_pay, mvX4_pay, by decide, _, _, rfl⟩
theorem w_X4_letter {E : EB} {r0 : Nat} {x1 : Int32} {x2 : Int32} {x3 : Int32} (k0 : IsK r0 4) {M : Mem} {R : Int32 × Mem} (h : f_X4_letter r0 x1 x2 x3 M = some R) : Mt E mX4_letter [.ref r0, .int x1, .int x2, .int x3] M (PI R.1 R.2) := by
  refine mt_of (L0 := [some (.ref r0), some (.int x1), some (.int x2), some (.int x3), none]) (by decide) rfl rfl (fun G hG hR => ?_)
  unfold f_X4_letter at h
  refine v_aload_0 hG dX4_letter_0 (q := 1) rfl ?_
  refine gt_RX4_21 hG rfl k0 dX4_letter_1 (q := 4) rfl ?_
  refine gt_RX4_78 hG rfl ((k0).p) dX4_letter_4 (q := 7) rfl ?_
  refine v_iload_1 hG dX4_letter_7 (q := 8) rfl ?_
  obtain ⟨c_1, h⟩ := ck_some h
  refine v_iald hG (((k0).p).p4) (((k0).p).pl4) c_1 dX4_letter_8 (q := 9) rfl ?_
  refine v_aload_0 hG dX4_letter_9 (q := 10) rfl ?_
  refine v_iload_1 hG dX4_letter_10 (q := 11) rfl ?_
  obtain ⟨r_2, hr_2, h⟩ := bnd h
  refine v_cV1I hG cvX4_fee ml_RX4_84 rfl k0 (w_X4_fee k0 hr_2) (Nat.le_of_ble_eq_true rfl) dX4_letter_11 (q := 14) rfl ?_
  refine v_icmp_lt hG dX4_letter_14 (tgt := 34) rfl (q := 17) rfl (fun hc => ?_) (fun hc => ?_)
  · replace h := ifp hc h
    refine v_iconst hG ci_m1 dX4_letter_34 (q := 35) rfl ?_
    exact v_iret hG hR rfl rfl (sp2t h) dX4_letter_35
  · replace h := ifn hc h
    refine v_aload_0 hG dX4_letter_17 (q := 18) rfl ?_
    refine gt_RX4_21 hG rfl k0 dX4_letter_18 (q := 21) rfl ?_
    refine gt_RX4_78 hG rfl ((k0).p) dX4_letter_21 (q := 24) rfl ?_
    refine v_iload_2 hG dX4_letter_24 (q := 25) rfl ?_
    obtain ⟨c_3, h⟩ := ck_some h
    refine v_iald hG (((k0).p).p4) (((k0).p).pl4) c_3 dX4_letter_25 (q := 26) rfl ?_
    refine v_aload_0 hG dX4_letter_26 (q := 27) rfl ?_
    refine v_iload_2 hG dX4_letter_27 (q := 28) rfl ?_
    obtain ⟨r_4, hr_4, h⟩ := bnd h
    refine v_cV1I hG cvX4_fee ml_RX4_84 rfl k0 (w_X4_fee k0 hr_4) (Nat.le_of_ble_eq_true rfl) dX4_letter_28 (q := 31) rfl ?_
    refine v_icmp_ge hG dX4_letter_31 (tgt := 36) rfl (q := 34) rfl (fun hc => ?_) (fun hc => ?_)
    · replace h := ifp hc h
      refine v_aload_0 hG dX4_letter_36 (q := 37) rfl ?_
      refine v_iload_1 hG dX4_letter_37 (q := 38) rfl ?_
      obtain ⟨r_5, hr_5, h⟩ := bnd h
      refine v_cV1V hG cvX4_pay ml_RX4_88 rfl k0 (w_X4_pay k0 hr_5) (Nat.le_of_ble_eq_true rfl) dX4_letter_38 (q := 41) rfl ?_
      refine v_aload_0 hG dX4_letter_41 (q := 42) rfl ?_
      refine v_iload_2 hG dX4_letter_42 (q := 43) rfl ?_
      obtain ⟨r_6, hr_6, h⟩ := bnd h
      refine v_cV1V hG cvX4_pay ml_RX4_88 rfl k0 (w_X4_pay k0 hr_6) (Nat.le_of_ble_eq_true rfl) dX4_letter_43 (q := 46) rfl ?_
      refine v_aload_0 hG dX4_letter_46 (q := 47) rfl ?_
      refine v_iload_2 hG dX4_letter_47 (q := 48) rfl ?_
      refine v_aload_0 hG dX4_letter_48 (q := 49) rfl ?_
      refine v_iload_1 hG dX4_letter_49 (q := 50) rfl ?_
      refine v_iload_3 hG dX4_letter_50 (q := 51) rfl ?_
      obtain ⟨r_7, hr_7, h⟩ := bnd h
      refine v_cV2I hG cvX4_heard ml_RX4_92 rfl k0 (w_X4_heard k0 hr_7) (Nat.le_of_ble_eq_true rfl) dX4_letter_51 (q := 54) rfl ?_
      obtain ⟨r_8, hr_8, h⟩ := bnd h
      refine v_cV2I hG cvX4_heard ml_RX4_92 rfl k0 (w_X4_heard k0 hr_8) (Nat.le_of_ble_eq_true rfl) dX4_letter_54 (q := 57) rfl ?_
      refine v_istore_4 hG rfl dX4_letter_57 (q := 59) rfl ?_
      refine v_aload_0 hG dX4_letter_59 (q := 60) rfl ?_
      refine gt_RX4_21 hG rfl k0 dX4_letter_60 (q := 63) rfl ?_
      refine gt_RX4_95 hG rfl ((k0).p) dX4_letter_63 (q := 66) rfl ?_
      refine v_iload_2 hG dX4_letter_66 (q := 67) rfl ?_
      refine v_dup2 hG rfl rfl dX4_letter_67 (q := 68) rfl ?_
      obtain ⟨c_9, h⟩ := ck_some h
      refine v_iald hG (((k0).p).p2) (((k0).p).pl2) c_9 dX4_letter_68 (q := 69) rfl ?_
      refine v_iload_4 hG dX4_letter_69 (q := 71) rfl ?_
      refine v_ior hG dX4_letter_71 (q := 72) rfl ?_
      obtain ⟨c_10, h⟩ := ck_some h
      refine v_iast hG (((k0).p).p2) (((k0).p).pl2) c_10 dX4_letter_72 (q := 73) rfl ?_
      refine v_topM (fun M_11 hy => ?_)
      replace h := letv_at hy h
      clear hy
      refine v_aload_0 hG dX4_letter_73 (q := 74) rfl ?_
      refine v_dup hG rfl dX4_letter_74 (q := 75) rfl ?_
      refine gt_RX4_55 hG rfl k0 dX4_letter_75 (q := 78) rfl ?_
      refine v_iconst hG ci_1 dX4_letter_78 (q := 79) rfl ?_
      refine v_iadd hG dX4_letter_79 (q := 80) rfl ?_
      refine pt_RX4_55 hG rfl k0 dX4_letter_80 (q := 83) rfl ?_
      refine v_topM (fun M_12 hy => ?_)
      replace h := letv_at hy h
      clear hy
      refine v_iload_4 hG dX4_letter_83 (q := 85) rfl ?_
      exact v_iret hG hR rfl rfl (sp2t h) dX4_letter_85
    · replace h := ifn hc h
      refine v_iconst hG ci_m1 dX4_letter_34 (q := 35) rfl ?_
      exact v_iret hG hR rfl rfl (sp2t h) dX4_letter_35
theorem cvX4_letter : CVo mX4_letter 3 4 := ⟨moX4_letter, mvX4_letter, by decide, _, _, rfl⟩
theorem w_X4_passOne_b17 {E : EB} {G : GB} (hG : Gd E mX4_passOne G) {r0 : Nat} {M : Mem} {R : Mem} (hR : Rt E mX4_passOne (PV R) G) (k0 : IsK r0 4) {k2 : Int32 → Mem → Option (Mem)} {k17 : Int32 → Int32 → Mem → Option (Mem)} (hk2 : ∀ (x1 : Int32) (M : Mem), k2 x1 M = some R → V E G 2 [some (.ref r0), some (.int x1), none] [] M) (hk17 : ∀ (x1 : Int32) (x2 : Int32) (M : Mem), k17 x1 x2 M = some R → V E G 17 [some (.ref r0), some (.int x1), some (.int x2)] [] M) {x1 : Int32} {x2 : Int32} (h : f_X4_passOne_b17 r0 k2 k17 x1 x2 M = some R) : V E G 17 [some (.ref r0), some (.int x1), some (.int x2)] [] M := by
  unfold f_X4_passOne_b17 at h
  refine v_iload_2 hG dX4_passOne_17 (q := 18) rfl ?_
  refine v_aload_0 hG dX4_passOne_18 (q := 19) rfl ?_
  refine gt_RX4_21 hG rfl k0 dX4_passOne_19 (q := 22) rfl ?_
  refine gt_RX4_101 hG rfl ((k0).p) dX4_passOne_22 (q := 25) rfl ?_
  refine v_icmp_ge hG dX4_passOne_25 (tgt := 79) rfl (q := 28) rfl (fun hc => ?_) (fun hc => ?_)
  · replace h := ifp hc h
    refine v_iinc_1 hG rfl dX4_passOne_79 (congrArg _ ci_1) (q := 82) rfl ?_
    refine v_goto hG dX4_passOne_82 (tgt := 2) rfl ?_
    refine v_drop (n := 2) (L' := [some (.ref r0), some (.int (x1 + (1 : Int32))), none]) rfl ?_
    exact hk2 _ _ h
  · replace h := ifn hc h
    refine v_aload_0 hG dX4_passOne_28 (q := 29) rfl ?_
    refine gt_RX4_21 hG rfl k0 dX4_passOne_29 (q := 32) rfl ?_
    refine v_iload_1 hG dX4_passOne_32 (q := 33) rfl ?_
    refine v_iload_2 hG dX4_passOne_33 (q := 34) rfl ?_
    obtain ⟨r_2, hr_2, h⟩ := bnd h
    refine v_cV2I hG cvX0_isTied ml_RX4_104 rfl ((k0).p) (w_X0_isTied ((k0).p) hr_2) (Nat.le_of_ble_eq_true rfl) dX4_passOne_34 (q := 37) rfl ?_
    refine v_if_ne hG dX4_passOne_37 (tgt := 43) rfl (q := 40) rfl (fun hc => ?_) (fun hc => ?_)
    · replace h := ifn hc h
      refine v_aload_0 hG dX4_passOne_43 (q := 44) rfl ?_
      refine v_iload_1 hG dX4_passOne_44 (q := 45) rfl ?_
      refine v_iload_2 hG dX4_passOne_45 (q := 46) rfl ?_
      refine v_aload_0 hG dX4_passOne_46 (q := 47) rfl ?_
      refine gt_RX4_21 hG rfl k0 dX4_passOne_47 (q := 50) rfl ?_
      refine v_iload_1 hG dX4_passOne_50 (q := 51) rfl ?_
      obtain ⟨r_3, hr_3, h⟩ := bnd h
      refine v_cV1I hG cvX0_ownWords ml_RX4_108 rfl ((k0).p) (w_X0_ownWords ((k0).p) hr_3) (Nat.le_of_ble_eq_true rfl) dX4_passOne_51 (q := 54) rfl ?_
      obtain ⟨r_4, hr_4, h⟩ := bnd h
      refine v_cV3I hG cvX4_letter ml_RX4_111 rfl k0 (w_X4_letter k0 hr_4) (Nat.le_of_ble_eq_true rfl) dX4_passOne_54 (q := 57) rfl ?_
      refine v_pop hG rfl dX4_passOne_57 (q := 58) rfl ?_
      refine v_aload_0 hG dX4_passOne_58 (q := 59) rfl ?_
      refine v_iload_2 hG dX4_passOne_59 (q := 60) rfl ?_
      refine v_iload_1 hG dX4_passOne_60 (q := 61) rfl ?_
      refine v_aload_0 hG dX4_passOne_61 (q := 62) rfl ?_
      refine gt_RX4_21 hG rfl k0 dX4_passOne_62 (q := 65) rfl ?_
      refine v_iload_2 hG dX4_passOne_65 (q := 66) rfl ?_
      obtain ⟨r_5, hr_5, h⟩ := bnd h
      refine v_cV1I hG cvX0_ownWords ml_RX4_108 rfl ((k0).p) (w_X0_ownWords ((k0).p) hr_5) (Nat.le_of_ble_eq_true rfl) dX4_passOne_66 (q := 69) rfl ?_
      obtain ⟨r_6, hr_6, h⟩ := bnd h
      refine v_cV3I hG cvX4_letter ml_RX4_111 rfl k0 (w_X4_letter k0 hr_6) (Nat.le_of_ble_eq_true rfl) dX4_passOne_69 (q := 72) rfl ?_
      refine v_pop hG rfl dX4_passOne_72 (q := 73) rfl ?_
      refine v_iinc_2 hG rfl dX4_passOne_73 (congrArg _ ci_1) (q := 76) rfl ?_
      refine v_goto hG dX4_passOne_76 (tgt := 17) rfl ?_
      exact hk17 _ _ _ h
    · replace h := ifp hc h
      refine v_goto hG dX4_passOne_40 (tgt := 73) rfl ?_
      refine v_iinc_2 hG rfl dX4_passOne_73 (congrArg _ ci_1) (q := 76) rfl ?_
      refine v_goto hG dX4_passOne_76 (tgt := 17) rfl ?_
      exact hk17 _ _ _ h
theorem w_X4_passOne_l17 {E : EB} {G : GB} (hG : Gd E mX4_passOne G) {r0 : Nat} {R : Mem} (hR : Rt E mX4_passOne (PV R) G) (k0 : IsK r0 4) {k2 : Int32 → Mem → Option (Mem)} (hk2 : ∀ (x1 : Int32) (M : Mem), k2 x1 M = some R → V E G 2 [some (.ref r0), some (.int x1), none] [] M) : ∀ (n : Nat) (x1 : Int32) (x2 : Int32) (M : Mem), f_X4_passOne_l17 r0 k2 n x1 x2 M = some R → V E G 17 [some (.ref r0), some (.int x1), some (.int x2)] [] M := by
  intro n
  induction n with
  | zero => intro x1 x2 M h; cases h
  | succ n ih => intro x1 x2 M h; exact w_X4_passOne_b17 hG hR k0 hk2 ih h
theorem w_X4_passOne_b2 {E : EB} {G : GB} (hG : Gd E mX4_passOne G) {r0 : Nat} {M : Mem} {R : Mem} (hR : Rt E mX4_passOne (PV R) G) (k0 : IsK r0 4) {k2 : Int32 → Mem → Option (Mem)} (hk2 : ∀ (x1 : Int32) (M : Mem), k2 x1 M = some R → V E G 2 [some (.ref r0), some (.int x1), none] [] M) {x1 : Int32} (h : f_X4_passOne_b2 r0 k2 x1 M = some R) : V E G 2 [some (.ref r0), some (.int x1), none] [] M := by
  unfold f_X4_passOne_b2 at h
  refine v_iload_1 hG dX4_passOne_2 (q := 3) rfl ?_
  refine v_aload_0 hG dX4_passOne_3 (q := 4) rfl ?_
  refine gt_RX4_21 hG rfl k0 dX4_passOne_4 (q := 7) rfl ?_
  refine gt_RX4_101 hG rfl ((k0).p) dX4_passOne_7 (q := 10) rfl ?_
  refine v_icmp_ge hG dX4_passOne_10 (tgt := 85) rfl (q := 13) rfl (fun hc => ?_) (fun hc => ?_)
  · replace h := ifp hc h
    exact v_vret hG hR rfl (spv h) dX4_passOne_85
  · replace h := ifn hc h
    refine v_iload_1 hG dX4_passOne_13 (q := 14) rfl ?_
    refine v_iconst hG ci_1 dX4_passOne_14 (q := 15) rfl ?_
    refine v_iadd hG dX4_passOne_15 (q := 16) rfl ?_
    refine v_topi (fun x2_1 hy => ?_)
    replace h := letv_at hy h
    clear hy
    refine v_istore_2 hG rfl dX4_passOne_16 (q := 17) rfl ?_
    exact w_X4_passOne_l17 hG hR k0 hk2 FU _ _ _ h
theorem w_X4_passOne_l2 {E : EB} {G : GB} (hG : Gd E mX4_passOne G) {r0 : Nat} {R : Mem} (hR : Rt E mX4_passOne (PV R) G) (k0 : IsK r0 4) : ∀ (n : Nat) (x1 : Int32) (M : Mem), f_X4_passOne_l2 r0 n x1 M = some R → V E G 2 [some (.ref r0), some (.int x1), none] [] M := by
  intro n
  induction n with
  | zero => intro x1 M h; cases h
  | succ n ih => intro x1 M h; exact w_X4_passOne_b2 hG hR k0 ih h
theorem w_X4_passOne {E : EB} {r0 : Nat} (k0 : IsK r0 4) {M : Mem} {R : Mem} (h : f_X4_passOne r0 M = some R) : Mt E mX4_passOne [.ref r0] M (PV R) := by
  refine mt_of (L0 := [some (.ref r0), none, none]) (by decide) rfl rfl (fun G hG hR => ?_)
  unfold f_X4_passOne at h
  refine v_iconst hG ci_0 dX4_passOne_0 (q := 1) rfl ?_
  refine v_istore_1 hG rfl dX4_passOne_1 (q := 2) rfl ?_
  exact w_X4_passOne_l2 hG hR k0 FU _ _ h
theorem cvX4_passOne : CVo mX4_passOne 0 4 := ⟨moX4_passOne, mvX4_passOne, by decide, _, _, rfl⟩
theorem w_X4_passYears_b2 {E : EB} {G : GB} (hG : Gd E mX4_passYears G) {r0 : Nat} {M : Mem} {R : Mem} (hR : Rt E mX4_passYears (PV R) G) (k0 : IsK r0 4) {k2 : Int32 → Int32 → Mem → Option (Mem)} (hk2 : ∀ (x1 : Int32) (x2 : Int32) (M : Mem), k2 x1 x2 M = some R → V E G 2 [some (.ref r0), some (.int x1), some (.int x2), none] [] M) {x1 : Int32} {x2 : Int32} (h : f_X4_passYears_b2 r0 k2 x1 x2 M = some R) : V E G 2 [some (.ref r0), some (.int x1), some (.int x2), none] [] M := by
  unfold f_X4_passYears_b2 at h
  refine v_iload_2 hG dX4_passYears_2 (q := 3) rfl ?_
  refine v_iload_1 hG dX4_passYears_3 (q := 4) rfl ?_
  refine v_icmp_ge hG dX4_passYears_4 (tgt := 33) rfl (q := 7) rfl (fun hc => ?_) (fun hc => ?_)
  · replace h := ifp hc h
    refine v_aload_0 hG dX4_passYears_33 (q := 34) rfl ?_
    refine v_dup hG rfl dX4_passYears_34 (q := 35) rfl ?_
    refine gt_RX4_52 hG rfl k0 dX4_passYears_35 (q := 38) rfl ?_
    refine v_iload_1 hG dX4_passYears_38 (q := 39) rfl ?_
    refine v_iadd hG dX4_passYears_39 (q := 40) rfl ?_
    refine pt_RX4_52 hG rfl k0 dX4_passYears_40 (q := 43) rfl ?_
    refine v_topM (fun M_1 hy => ?_)
    replace h := letv_at hy h
    clear hy
    exact v_vret hG hR rfl (spv h) dX4_passYears_43
  · replace h := ifn hc h
    refine v_aload_0 hG dX4_passYears_7 (q := 8) rfl ?_
    refine gt_RX4_55 hG rfl k0 dX4_passYears_8 (q := 11) rfl ?_
    refine v_topi (fun x3_2 hy => ?_)
    replace h := letv_at hy h
    clear hy
    refine v_istore_3 hG rfl dX4_passYears_11 (q := 12) rfl ?_
    refine v_aload_0 hG dX4_passYears_12 (q := 13) rfl ?_
    obtain ⟨r_3, hr_3, h⟩ := bnd h
    refine v_cV0V hG cvX4_passOne ml_RX4_98 rfl k0 (w_X4_passOne k0 hr_3) (Nat.le_of_ble_eq_true rfl) dX4_passYears_13 (q := 16) rfl ?_
    refine v_aload_0 hG dX4_passYears_16 (q := 17) rfl ?_
    refine gt_RX4_55 hG rfl k0 dX4_passYears_17 (q := 20) rfl ?_
    refine v_iload_3 hG dX4_passYears_20 (q := 21) rfl ?_
    refine v_icmp_ne hG dX4_passYears_21 (tgt := 27) rfl (q := 24) rfl (fun hc => ?_) (fun hc => ?_)
    · replace h := ifn hc h
      refine v_iinc_2 hG rfl dX4_passYears_27 (congrArg _ ci_1) (q := 30) rfl ?_
      refine v_goto hG dX4_passYears_30 (tgt := 2) rfl ?_
      refine v_drop (n := 3) (L' := [some (.ref r0), some (.int x1), some (.int (x2 + (1 : Int32))), none]) rfl ?_
      exact hk2 _ _ _ h
    · replace h := ifp hc h
      refine v_goto hG dX4_passYears_24 (tgt := 33) rfl ?_
      refine v_aload_0 hG dX4_passYears_33 (q := 34) rfl ?_
      refine v_dup hG rfl dX4_passYears_34 (q := 35) rfl ?_
      refine gt_RX4_52 hG rfl k0 dX4_passYears_35 (q := 38) rfl ?_
      refine v_iload_1 hG dX4_passYears_38 (q := 39) rfl ?_
      refine v_iadd hG dX4_passYears_39 (q := 40) rfl ?_
      refine pt_RX4_52 hG rfl k0 dX4_passYears_40 (q := 43) rfl ?_
      refine v_topM (fun M_4 hy => ?_)
      replace h := letv_at hy h
      clear hy
      exact v_vret hG hR rfl (spv h) dX4_passYears_43
theorem w_X4_passYears_l2 {E : EB} {G : GB} (hG : Gd E mX4_passYears G) {r0 : Nat} {R : Mem} (hR : Rt E mX4_passYears (PV R) G) (k0 : IsK r0 4) : ∀ (n : Nat) (x1 : Int32) (x2 : Int32) (M : Mem), f_X4_passYears_l2 r0 n x1 x2 M = some R → V E G 2 [some (.ref r0), some (.int x1), some (.int x2), none] [] M := by
  intro n
  induction n with
  | zero => intro x1 x2 M h; cases h
  | succ n ih => intro x1 x2 M h; exact w_X4_passYears_b2 hG hR k0 ih h
theorem w_X4_passYears {E : EB} {r0 : Nat} {x1 : Int32} (k0 : IsK r0 4) {M : Mem} {R : Mem} (h : f_X4_passYears r0 x1 M = some R) : Mt E mX4_passYears [.ref r0, .int x1] M (PV R) := by
  refine mt_of (L0 := [some (.ref r0), some (.int x1), none, none]) (by decide) rfl rfl (fun G hG hR => ?_)
  unfold f_X4_passYears at h
  refine v_iconst hG ci_0 dX4_passYears_0 (q := 1) rfl ?_
  refine v_istore_2 hG rfl dX4_passYears_1 (q := 2) rfl ?_
  exact w_X4_passYears_l2 hG hR k0 FU _ _ _ h
theorem cvX4_passYears : CVo mX4_passYears 1 4 := ⟨moX4_passYears, mvX4_passYears, by decide, _, _, rfl⟩
theorem w_X4_poor_b4 {E : EB} {G : GB} (hG : Gd E mX4_poor G) {r0 : Nat} {M : Mem} {R : Int32} (hR : Rt E mX4_poor (PI R M) G) (k0 : IsK r0 4) {k4 : Int32 → Int32 → Mem → Option (Int32)} (hk4 : ∀ (x1 : Int32) (x2 : Int32) (M' : Mem), k4 x1 x2 M' = some R → M' = M → V E G 4 [some (.ref r0), some (.int x1), some (.int x2)] [] M') {x1 : Int32} {x2 : Int32} (h : f_X4_poor_b4 r0 k4 x1 x2 M = some R) : V E G 4 [some (.ref r0), some (.int x1), some (.int x2)] [] M := by
  unfold f_X4_poor_b4 at h
  refine v_iload_2 hG dX4_poor_4 (q := 5) rfl ?_
  refine v_aload_0 hG dX4_poor_5 (q := 6) rfl ?_
  refine gt_RX4_21 hG rfl k0 dX4_poor_6 (q := 9) rfl ?_
  refine gt_RX4_101 hG rfl ((k0).p) dX4_poor_9 (q := 12) rfl ?_
  refine v_icmp_ge hG dX4_poor_12 (tgt := 44) rfl (q := 15) rfl (fun hc => ?_) (fun hc => ?_)
  · replace h := ifp hc h
    refine v_iload_1 hG dX4_poor_44 (q := 45) rfl ?_
    exact v_iret hG hR rfl rfl (sp1 h) dX4_poor_45
  · replace h := ifn hc h
    refine v_aload_0 hG dX4_poor_15 (q := 16) rfl ?_
    refine gt_RX4_21 hG rfl k0 dX4_poor_16 (q := 19) rfl ?_
    refine gt_RX4_78 hG rfl ((k0).p) dX4_poor_19 (q := 22) rfl ?_
    refine v_iload_2 hG dX4_poor_22 (q := 23) rfl ?_
    obtain ⟨c_1, h⟩ := ck_some h
    refine v_iald hG (((k0).p).p4) (((k0).p).pl4) c_1 dX4_poor_23 (q := 24) rfl ?_
    refine v_aload_0 hG dX4_poor_24 (q := 25) rfl ?_
    refine v_iload_2 hG dX4_poor_25 (q := 26) rfl ?_
    obtain ⟨r_2, hr_2, h⟩ := bnd h
    refine v_cV1I hG cvX4_fee ml_RX4_84 rfl k0 (w_X4_fee k0 hr_2) (Nat.le_of_ble_eq_true rfl) dX4_poor_26 (q := 29) rfl ?_
    refine v_icmp_ge hG dX4_poor_29 (tgt := 38) rfl (q := 32) rfl (fun hc => ?_) (fun hc => ?_)
    · replace h := ifp hc h
      refine v_iinc_2 hG rfl dX4_poor_38 (congrArg _ ci_1) (q := 41) rfl ?_
      refine v_goto hG dX4_poor_41 (tgt := 4) rfl ?_
      exact hk4 _ _ _ h rfl
    · replace h := ifn hc h
      refine v_iload_1 hG dX4_poor_32 (q := 33) rfl ?_
      refine v_iconst hG ci_1 dX4_poor_33 (q := 34) rfl ?_
      refine v_iload_2 hG dX4_poor_34 (q := 35) rfl ?_
      refine v_ishl hG dX4_poor_35 (q := 36) rfl ?_
      refine v_ior hG dX4_poor_36 (q := 37) rfl ?_
      refine v_topi (fun x1_3 hy => ?_)
      replace h := letv_at hy h
      clear hy
      refine v_istore_1 hG rfl dX4_poor_37 (q := 38) rfl ?_
      refine v_iinc_2 hG rfl dX4_poor_38 (congrArg _ ci_1) (q := 41) rfl ?_
      refine v_goto hG dX4_poor_41 (tgt := 4) rfl ?_
      exact hk4 _ _ _ h rfl
theorem w_X4_poor_l4 {E : EB} {G : GB} (hG : Gd E mX4_poor G) {r0 : Nat} {M : Mem} {R : Int32} (hR : Rt E mX4_poor (PI R M) G) (k0 : IsK r0 4) : ∀ (n : Nat) (x1 : Int32) (x2 : Int32) (M' : Mem), f_X4_poor_l4 r0 n x1 x2 M' = some R → M' = M → V E G 4 [some (.ref r0), some (.int x1), some (.int x2)] [] M' := by
  intro n
  induction n with
  | zero => intro x1 x2 M' h; cases h
  | succ n ih => intro x1 x2 M' h e; subst e; exact w_X4_poor_b4 hG hR k0 ih h
theorem w_X4_poor {E : EB} {r0 : Nat} (k0 : IsK r0 4) {M : Mem} {R : Int32} (h : f_X4_poor r0 M = some R) : Mt E mX4_poor [.ref r0] M (PI R M) := by
  refine mt_of (L0 := [some (.ref r0), none, none]) (by decide) rfl rfl (fun G hG hR => ?_)
  unfold f_X4_poor at h
  refine v_iconst hG ci_0 dX4_poor_0 (q := 1) rfl ?_
  refine v_istore_1 hG rfl dX4_poor_1 (q := 2) rfl ?_
  refine v_iconst hG ci_0 dX4_poor_2 (q := 3) rfl ?_
  refine v_istore_2 hG rfl dX4_poor_3 (q := 4) rfl ?_
  exact w_X4_poor_l4 hG hR k0 FU _ _ _ h rfl
theorem cvX4_poor : CVo mX4_poor 0 4 := ⟨moX4_poor, mvX4_poor, by decide, _, _, rfl⟩
theorem w_X4_howManySpots_b4 {E : EB} {G : GB} (hG : Gd E mX4_howManySpots G) {r0 : Nat} {M : Mem} {R : Int32} (hR : Rt E mX4_howManySpots (PI R M) G) (k0 : IsK r0 4) {k4 : Int32 → Int32 → Mem → Option (Int32)} (hk4 : ∀ (x1 : Int32) (x2 : Int32) (M' : Mem), k4 x1 x2 M' = some R → M' = M → V E G 4 [some (.ref r0), some (.int x1), some (.int x2)] [] M') {x1 : Int32} {x2 : Int32} (h : f_X4_howManySpots_b4 r0 k4 x1 x2 M = some R) : V E G 4 [some (.ref r0), some (.int x1), some (.int x2)] [] M := by
  unfold f_X4_howManySpots_b4 at h
  refine v_iload_2 hG dX4_howManySpots_4 (q := 5) rfl ?_
  refine v_bipush hG cb_10 dX4_howManySpots_5 (q := 7) rfl ?_
  refine v_icmp_ge hG dX4_howManySpots_7 (tgt := 28) rfl (q := 10) rfl (fun hc => ?_) (fun hc => ?_)
  · replace h := ifp hc h
    refine v_iload_1 hG dX4_howManySpots_28 (q := 29) rfl ?_
    exact v_iret hG hR rfl rfl (sp1 h) dX4_howManySpots_29
  · replace h := ifn hc h
    refine v_aload_0 hG dX4_howManySpots_10 (q := 11) rfl ?_
    refine gt_RX4_25 hG rfl k0 dX4_howManySpots_11 (q := 14) rfl ?_
    refine v_iload_2 hG dX4_howManySpots_14 (q := 15) rfl ?_
    obtain ⟨c_1, h⟩ := ck_some h
    refine v_iald hG ((k0).s) ((k0).sl) c_1 dX4_howManySpots_15 (q := 16) rfl ?_
    refine v_if_lt hG dX4_howManySpots_16 (tgt := 22) rfl (q := 19) rfl (fun hc => ?_) (fun hc => ?_)
    · replace h := ifp hc h
      refine v_iinc_2 hG rfl dX4_howManySpots_22 (congrArg _ ci_1) (q := 25) rfl ?_
      refine v_goto hG dX4_howManySpots_25 (tgt := 4) rfl ?_
      exact hk4 _ _ _ h rfl
    · replace h := ifn hc h
      refine v_iinc_1 hG rfl dX4_howManySpots_19 (congrArg _ ci_1) (q := 22) rfl ?_
      refine v_iinc_2 hG rfl dX4_howManySpots_22 (congrArg _ ci_1) (q := 25) rfl ?_
      refine v_goto hG dX4_howManySpots_25 (tgt := 4) rfl ?_
      exact hk4 _ _ _ h rfl
theorem w_X4_howManySpots_l4 {E : EB} {G : GB} (hG : Gd E mX4_howManySpots G) {r0 : Nat} {M : Mem} {R : Int32} (hR : Rt E mX4_howManySpots (PI R M) G) (k0 : IsK r0 4) : ∀ (n : Nat) (x1 : Int32) (x2 : Int32) (M' : Mem), f_X4_howManySpots_l4 r0 n x1 x2 M' = some R → M' = M → V E G 4 [some (.ref r0), some (.int x1), some (.int x2)] [] M' := by
  intro n
  induction n with
  | zero => intro x1 x2 M' h; cases h
  | succ n ih => intro x1 x2 M' h e; subst e; exact w_X4_howManySpots_b4 hG hR k0 ih h
theorem w_X4_howManySpots {E : EB} {r0 : Nat} (k0 : IsK r0 4) {M : Mem} {R : Int32} (h : f_X4_howManySpots r0 M = some R) : Mt E mX4_howManySpots [.ref r0] M (PI R M) := by
  refine mt_of (L0 := [some (.ref r0), none, none]) (by decide) rfl rfl (fun G hG hR => ?_)
  unfold f_X4_howManySpots at h
  refine v_iconst hG ci_0 dX4_howManySpots_0 (q := 1) rfl ?_
  refine v_istore_1 hG rfl dX4_howManySpots_1 (q := 2) rfl ?_
  refine v_iconst hG ci_0 dX4_howManySpots_2 (q := 3) rfl ?_
  refine v_istore_2 hG rfl dX4_howManySpots_3 (q := 4) rfl ?_
  exact w_X4_howManySpots_l4 hG hR k0 FU _ _ _ h rfl
theorem cvX4_howManySpots : CVo mX4_howManySpots 0 4 := ⟨moX4_howManySpots, mvX4_howManySpots, by decide, _, _, rfl⟩
theorem w_X4_draw {E : EB} {r0 : Nat} (k0 : IsK r0 4) {M : Mem} {R : Int32 × Mem} (h : f_X4_draw r0 M = some R) : Mt E mX4_draw [.ref r0] M (PI R.1 R.2) := by
  refine mt_of (L0 := [some (.ref r0)]) (by decide) rfl rfl (fun G hG hR => ?_)
  unfold f_X4_draw at h
  refine v_aload_0 hG dX4_draw_0 (q := 1) rfl ?_
  refine v_aload_0 hG dX4_draw_1 (q := 2) rfl ?_
  refine gt_RX4_35 hG rfl k0 dX4_draw_2 (q := 5) rfl ?_
  refine v_ldc hG kc_RX4_115 dX4_draw_5 (q := 7) rfl ?_
  refine v_imul hG dX4_draw_7 (q := 8) rfl ?_
  refine v_sipush hG cs_12345 dX4_draw_8 (q := 11) rfl ?_
  refine v_iadd hG dX4_draw_11 (q := 12) rfl ?_
  refine pt_RX4_35 hG rfl k0 dX4_draw_12 (q := 15) rfl ?_
  refine v_topM (fun M_1 hy => ?_)
  replace h := letv_at hy h
  clear hy
  refine v_aload_0 hG dX4_draw_15 (q := 16) rfl ?_
  refine gt_RX4_35 hG rfl k0 dX4_draw_16 (q := 19) rfl ?_
  refine v_bipush hG cb_8 dX4_draw_19 (q := 21) rfl ?_
  refine v_iushr hG dX4_draw_21 (q := 22) rfl ?_
  exact v_iret hG hR rfl rfl (sp2t h) dX4_draw_22
theorem cvX4_draw : CVo mX4_draw 0 4 := ⟨moX4_draw, mvX4_draw, by decide, _, _, rfl⟩

theorem w_X7_in {E : EB} {y0 : Int64} {y2 : Int64} {y4 : Int64} {M : Mem} {R : Bool} (h : f_X7_in y0 y2 y4 M = some R) : Mt E mX7_in [.long y0, .long y2, .long y4] M (PI (b2i R) M) := by
  refine mt_of (L0 := [some (.long y0), none, some (.long y2), none, some (.long y4), none]) (by decide) rfl rfl (fun G hG hR => ?_)
  unfold f_X7_in at h
  refine v_lload_0 hG dX7_in_0 (q := 1) rfl ?_
  refine v_lload_2 hG dX7_in_1 (q := 2) rfl ?_
  refine v_lcmp hG dX7_in_2 (q := 3) rfl ?_
  refine v_if_lt hG dX7_in_3 (tgt := 17) rfl (q := 6) rfl (fun hc => ?_) (fun hc => ?_)
  · replace h := ifp hc h
    refine v_iconst hG ci_0 dX7_in_17 (q := 18) rfl ?_
    exact v_iret hG hR rfl rfl (sp1b h) dX7_in_18
  · replace h := ifn hc h
    refine v_lload_0 hG dX7_in_6 (q := 7) rfl ?_
    refine v_lload_4 hG dX7_in_7 (q := 9) rfl ?_
    refine v_lcmp hG dX7_in_9 (q := 10) rfl ?_
    refine v_if_gt hG dX7_in_10 (tgt := 17) rfl (q := 13) rfl (fun hc => ?_) (fun hc => ?_)
    · replace h := ifp hc h
      refine v_iconst hG ci_0 dX7_in_17 (q := 18) rfl ?_
      exact v_iret hG hR rfl rfl (sp1b h) dX7_in_18
    · replace h := ifn hc h
      refine v_iconst hG ci_1 dX7_in_13 (q := 14) rfl ?_
      refine v_goto hG dX7_in_14 (tgt := 18) rfl ?_
      exact v_iret hG hR rfl rfl (sp1b h) dX7_in_18
theorem csX7_in : CSo mX7_in 3 := ⟨moX7_in, msX7_in⟩
theorem w_X7_finds {E : EB} {x1 : Int32} {M : Mem} {R : Int32 × Mem} (h : f_X7_finds x1 M = some R) : Mt E mX7_finds [.ref 59, .int x1] M (PI R.1 R.2) := by
  refine mt_of (L0 := [some (.ref 59), some (.int x1)]) (by decide) rfl rfl (fun G hG hR => ?_)
  unfold f_X7_finds at h
  refine v_aload_0 hG dX7_finds_0 (q := 1) rfl ?_
  refine gt_RX7_19 hG rfl kk_59 dX7_finds_1 (q := 4) rfl ?_
  refine v_ldc hG kc_RX7_40 dX7_finds_4 (q := 6) rfl ?_
  refine v_iload_1 hG dX7_finds_6 (q := 7) rfl ?_
  refine v_isub hG dX7_finds_7 (q := 8) rfl ?_
  refine v_dup2 hG rfl rfl dX7_finds_8 (q := 9) rfl ?_
  obtain ⟨c_1, h⟩ := ck_some h
  refine v_iald hG kk_63 rfl c_1 dX7_finds_9 (q := 10) rfl ?_
  refine v_iconst hG ci_1 dX7_finds_10 (q := 11) rfl ?_
  refine v_iadd hG dX7_finds_11 (q := 12) rfl ?_
  obtain ⟨c_2, h⟩ := ck_some h
  refine v_iast hG kk_63 rfl c_2 dX7_finds_12 (q := 13) rfl ?_
  refine v_topM (fun M_3 hy => ?_)
  replace h := letv_at hy h
  clear hy
  refine v_iload_1 hG dX7_finds_13 (q := 14) rfl ?_
  exact v_iret hG hR rfl rfl (sp2t h) dX7_finds_14
theorem cvX7_finds : CVo mX7_finds 1 7 := ⟨moX7_finds, mvX7_finds, by decide, _, _, rfl⟩
theorem w_X7_isSaying {E : EB} {x0 : Int32} {M : Mem} {R : Bool} (h : f_X7_isSaying x0 M = some R) : Mt E mX7_isSaying [.int x0] M (PI (b2i R) M) := by
  refine mt_of (L0 := [some (.int x0)]) (by decide) rfl rfl (fun G hG hR => ?_)
  unfold f_X7_isSaying at h
  refine v_iload_0 hG dX7_isSaying_0 (q := 1) rfl ?_
  refine v_i2l hG dX7_isSaying_1 (q := 2) rfl ?_
  refine v_lconst hG cl_0 dX7_isSaying_2 (q := 3) rfl ?_
  refine v_ldc2 hG kl_RX7_41 dX7_isSaying_3 (q := 6) rfl ?_
  obtain ⟨r_1, hr_1, h⟩ := bnd h
  refine v_cS3I hG csX7_in ml_RX7_43 rfl (w_X7_in hr_1) (Nat.le_of_ble_eq_true rfl) dX7_isSaying_6 (q := 9) rfl ?_
  exact v_iret hG hR rfl (b2i_nar _) (sp1b h) dX7_isSaying_9
theorem csX7_isSaying : CSo mX7_isSaying 1 := ⟨moX7_isSaying, msX7_isSaying⟩
theorem w_X7_isMark {E : EB} {x0 : Int32} {M : Mem} {R : Bool} (h : f_X7_isMark x0 M = some R) : Mt E mX7_isMark [.int x0] M (PI (b2i R) M) := by
  refine mt_of (L0 := [some (.int x0)]) (by decide) rfl rfl (fun G hG hR => ?_)
  unfold f_X7_isMark at h
  refine v_iload_0 hG dX7_isMark_0 (q := 1) rfl ?_
  refine v_i2l hG dX7_isMark_1 (q := 2) rfl ?_
  refine v_lconst hG cl_0 dX7_isMark_2 (q := 3) rfl ?_
  refine v_ldc2 hG kl_RX7_47 dX7_isMark_3 (q := 6) rfl ?_
  obtain ⟨r_1, hr_1, h⟩ := bnd h
  refine v_cS3I hG csX7_in ml_RX7_43 rfl (w_X7_in hr_1) (Nat.le_of_ble_eq_true rfl) dX7_isMark_6 (q := 9) rfl ?_
  exact v_iret hG hR rfl (b2i_nar _) (sp1b h) dX7_isMark_9
theorem csX7_isMark : CSo mX7_isMark 1 := ⟨moX7_isMark, msX7_isMark⟩
theorem w_X7_isWriter {E : EB} {x1 : Int32} {M : Mem} {R : Bool} (h : f_X7_isWriter x1 M = some R) : Mt E mX7_isWriter [.ref 59, .int x1] M (PI (b2i R) M) := by
  refine mt_of (L0 := [some (.ref 59), some (.int x1)]) (by decide) rfl rfl (fun G hG hR => ?_)
  unfold f_X7_isWriter at h
  refine v_iload_1 hG dX7_isWriter_0 (q := 1) rfl ?_
  refine v_i2l hG dX7_isWriter_1 (q := 2) rfl ?_
  refine v_lconst hG cl_0 dX7_isWriter_2 (q := 3) rfl ?_
  refine v_aload_0 hG dX7_isWriter_3 (q := 4) rfl ?_
  refine gt_RX7_7 hG rfl kk_59 dX7_isWriter_4 (q := 7) rfl ?_
  refine v_iconst hG ci_0 dX7_isWriter_7 (q := 8) rfl ?_
  obtain ⟨c_1, h⟩ := ck_some h
  refine v_iald hG kk_60 rfl c_1 dX7_isWriter_8 (q := 9) rfl ?_
  refine v_iconst hG ci_1 dX7_isWriter_9 (q := 10) rfl ?_
  refine v_isub hG dX7_isWriter_10 (q := 11) rfl ?_
  refine v_i2l hG dX7_isWriter_11 (q := 12) rfl ?_
  obtain ⟨r_2, hr_2, h⟩ := bnd h
  refine v_cS3I hG csX7_in ml_RX7_43 rfl (w_X7_in hr_2) (Nat.le_of_ble_eq_true rfl) dX7_isWriter_12 (q := 15) rfl ?_
  exact v_iret hG hR rfl (b2i_nar _) (sp1b h) dX7_isWriter_15
theorem cvX7_isWriter : CVo mX7_isWriter 1 7 := ⟨moX7_isWriter, mvX7_isWriter, by decide, _, _, rfl⟩
theorem w_X7_isPerson {E : EB} {x1 : Int32} {M : Mem} {R : Bool} (h : f_X7_isPerson x1 M = some R) : Mt E mX7_isPerson [.ref 59, .int x1] M (PI (b2i R) M) := by
  refine mt_of (L0 := [some (.ref 59), some (.int x1)]) (by decide) rfl rfl (fun G hG hR => ?_)
  unfold f_X7_isPerson at h
  refine v_iload_1 hG dX7_isPerson_0 (q := 1) rfl ?_
  refine v_i2l hG dX7_isPerson_1 (q := 2) rfl ?_
  refine v_lconst hG cl_0 dX7_isPerson_2 (q := 3) rfl ?_
  refine v_aload_0 hG dX7_isPerson_3 (q := 4) rfl ?_
  refine gt_RX7_7 hG rfl kk_59 dX7_isPerson_4 (q := 7) rfl ?_
  refine v_iconst hG ci_1 dX7_isPerson_7 (q := 8) rfl ?_
  obtain ⟨c_1, h⟩ := ck_some h
  refine v_iald hG kk_60 rfl c_1 dX7_isPerson_8 (q := 9) rfl ?_
  refine v_iconst hG ci_1 dX7_isPerson_9 (q := 10) rfl ?_
  refine v_isub hG dX7_isPerson_10 (q := 11) rfl ?_
  refine v_i2l hG dX7_isPerson_11 (q := 12) rfl ?_
  obtain ⟨r_2, hr_2, h⟩ := bnd h
  refine v_cS3I hG csX7_in ml_RX7_43 rfl (w_X7_in hr_2) (Nat.le_of_ble_eq_true rfl) dX7_isPerson_12 (q := 15) rfl ?_
  exact v_iret hG hR rfl (b2i_nar _) (sp1b h) dX7_isPerson_15
theorem cvX7_isPerson : CVo mX7_isPerson 1 7 := ⟨moX7_isPerson, mvX7_isPerson, by decide, _, _, rfl⟩
theorem w_X7_has {E : EB} {x0 : Int32} {x1 : Int32} {M : Mem} {R : Bool} (h : f_X7_has x0 x1 M = some R) : Mt E mX7_has [.int x0, .int x1] M (PI (b2i R) M) := by
  refine mt_of (L0 := [some (.int x0), some (.int x1)]) (by decide) rfl rfl (fun G hG hR => ?_)
  unfold f_X7_has at h
  refine v_iload_0 hG dX7_has_0 (q := 1) rfl ?_
  refine v_iload_1 hG dX7_has_1 (q := 2) rfl ?_
  refine v_ishr hG dX7_has_2 (q := 3) rfl ?_
  refine v_iconst hG ci_1 dX7_has_3 (q := 4) rfl ?_
  refine v_iand hG dX7_has_4 (q := 5) rfl ?_
  refine v_iconst hG ci_1 dX7_has_5 (q := 6) rfl ?_
  refine v_icmp_ne hG dX7_has_6 (tgt := 13) rfl (q := 9) rfl (fun hc => ?_) (fun hc => ?_)
  · replace h := ifn hc h
    refine v_iconst hG ci_0 dX7_has_13 (q := 14) rfl ?_
    exact v_iret hG hR rfl rfl (sp1b h) dX7_has_14
  · replace h := ifp hc h
    refine v_iconst hG ci_1 dX7_has_9 (q := 10) rfl ?_
    refine v_goto hG dX7_has_10 (tgt := 14) rfl ?_
    exact v_iret hG hR rfl rfl (sp1b h) dX7_has_14
theorem csX7_has : CSo mX7_has 2 := ⟨moX7_has, msX7_has⟩
theorem w_X7_ones_b4 {E : EB} {G : GB} (hG : Gd E mX7_ones G) {M : Mem} {R : Int32} (hR : Rt E mX7_ones (PI R M) G) {k4 : Int32 → Int32 → Mem → Option (Int32)} (hk4 : ∀ (x1 : Int32) (x2 : Int32) (M' : Mem), k4 x1 x2 M' = some R → M' = M → V E G 4 [none, some (.int x1), some (.int x2)] [] M') {x1 : Int32} {x2 : Int32} (h : f_X7_ones_b4 k4 x1 x2 M = some R) : V E G 4 [none, some (.int x1), some (.int x2)] [] M := by
  unfold f_X7_ones_b4 at h
  refine v_iload_2 hG dX7_ones_4 (q := 5) rfl ?_
  refine v_if_eq hG dX7_ones_5 (tgt := 20) rfl (q := 8) rfl (fun hc => ?_) (fun hc => ?_)
  · replace h := ifp hc h
    refine v_iload_1 hG dX7_ones_20 (q := 21) rfl ?_
    exact v_iret hG hR rfl rfl (sp1 h) dX7_ones_21
  · replace h := ifn hc h
    refine v_iinc_1 hG rfl dX7_ones_8 (congrArg _ ci_1) (q := 11) rfl ?_
    refine v_iload_2 hG dX7_ones_11 (q := 12) rfl ?_
    refine v_iload_2 hG dX7_ones_12 (q := 13) rfl ?_
    refine v_iconst hG ci_1 dX7_ones_13 (q := 14) rfl ?_
    refine v_isub hG dX7_ones_14 (q := 15) rfl ?_
    refine v_iand hG dX7_ones_15 (q := 16) rfl ?_
    refine v_topi (fun x2_1 hy => ?_)
    replace h := letv_at hy h
    clear hy
    refine v_istore_2 hG rfl dX7_ones_16 (q := 17) rfl ?_
    refine v_goto hG dX7_ones_17 (tgt := 4) rfl ?_
    exact hk4 _ _ _ h rfl
theorem w_X7_ones_l4 {E : EB} {G : GB} (hG : Gd E mX7_ones G) {M : Mem} {R : Int32} (hR : Rt E mX7_ones (PI R M) G) : ∀ (n : Nat) (x1 : Int32) (x2 : Int32) (M' : Mem), f_X7_ones_l4 n x1 x2 M' = some R → M' = M → V E G 4 [none, some (.int x1), some (.int x2)] [] M' := by
  intro n
  induction n with
  | zero => intro x1 x2 M' h; cases h
  | succ n ih => intro x1 x2 M' h e; subst e; exact w_X7_ones_b4 hG hR ih h
theorem w_X7_ones {E : EB} {x0 : Int32} {M : Mem} {R : Int32} (h : f_X7_ones x0 M = some R) : Mt E mX7_ones [.int x0] M (PI R M) := by
  refine mt_of (L0 := [some (.int x0), none, none]) (by decide) rfl rfl (fun G hG hR => ?_)
  unfold f_X7_ones at h
  refine v_iconst hG ci_0 dX7_ones_0 (q := 1) rfl ?_
  refine v_istore_1 hG rfl dX7_ones_1 (q := 2) rfl ?_
  refine v_iload_0 hG dX7_ones_2 (q := 3) rfl ?_
  refine v_istore_2 hG rfl dX7_ones_3 (q := 4) rfl ?_
  refine v_drop (n := 0) (L' := [none, some (.int (0 : Int32)), some (.int x0)]) rfl ?_
  exact w_X7_ones_l4 hG hR FU _ _ _ h rfl
theorem csX7_ones : CSo mX7_ones 1 := ⟨moX7_ones, msX7_ones⟩
theorem w_X7_draw {E : EB} {M : Mem} {R : Int32 × Mem} (h : f_X7_draw M = some R) : Mt E mX7_draw [.ref 59] M (PI R.1 R.2) := by
  refine mt_of (L0 := [some (.ref 59)]) (by decide) rfl rfl (fun G hG hR => ?_)
  unfold f_X7_draw at h
  refine v_aload_0 hG dX7_draw_0 (q := 1) rfl ?_
  refine gt_RX7_7 hG rfl kk_59 dX7_draw_1 (q := 4) rfl ?_
  refine v_iconst hG ci_2 dX7_draw_4 (q := 5) rfl ?_
  refine v_aload_0 hG dX7_draw_5 (q := 6) rfl ?_
  refine gt_RX7_7 hG rfl kk_59 dX7_draw_6 (q := 9) rfl ?_
  refine v_iconst hG ci_2 dX7_draw_9 (q := 10) rfl ?_
  obtain ⟨c_1, h⟩ := ck_some h
  refine v_iald hG kk_60 rfl c_1 dX7_draw_10 (q := 11) rfl ?_
  refine v_ldc hG kc_RX7_49 dX7_draw_11 (q := 13) rfl ?_
  refine v_imul hG dX7_draw_13 (q := 14) rfl ?_
  refine v_sipush hG cs_12345 dX7_draw_14 (q := 17) rfl ?_
  refine v_iadd hG dX7_draw_17 (q := 18) rfl ?_
  obtain ⟨c_2, h⟩ := ck_some h
  refine v_iast hG kk_60 rfl c_2 dX7_draw_18 (q := 19) rfl ?_
  refine v_topM (fun M_3 hy => ?_)
  replace h := letv_at hy h
  clear hy
  refine v_aload_0 hG dX7_draw_19 (q := 20) rfl ?_
  refine gt_RX7_7 hG rfl kk_59 dX7_draw_20 (q := 23) rfl ?_
  refine v_iconst hG ci_2 dX7_draw_23 (q := 24) rfl ?_
  obtain ⟨c_4, h⟩ := ck_some h
  refine v_iald hG kk_60 rfl c_4 dX7_draw_24 (q := 25) rfl ?_
  refine v_bipush hG cb_8 dX7_draw_25 (q := 27) rfl ?_
  refine v_iushr hG dX7_draw_27 (q := 28) rfl ?_
  exact v_iret hG hR rfl rfl (sp2t h) dX7_draw_28
theorem cvX7_draw : CVo mX7_draw 0 7 := ⟨moX7_draw, mvX7_draw, by decide, _, _, rfl⟩
theorem w_X7_saves_b2 {E : EB} {G : GB} (hG : Gd E mX7_saves G) {M : Mem} {R : Mem} (hR : Rt E mX7_saves (PV R) G) {k2 : Int32 → Mem → Option (Mem)} (hk2 : ∀ (x1 : Int32) (M : Mem), k2 x1 M = some R → V E G 2 [some (.ref 59), some (.int x1)] [] M) {x1 : Int32} (h : f_X7_saves_b2 k2 x1 M = some R) : V E G 2 [some (.ref 59), some (.int x1)] [] M := by
  unfold f_X7_saves_b2 at h
  refine v_iload_1 hG dX7_saves_2 (q := 3) rfl ?_
  refine v_bipush hG cb_99 dX7_saves_3 (q := 5) rfl ?_
  refine v_icmp_ge hG dX7_saves_5 (tgt := 26) rfl (q := 8) rfl (fun hc => ?_) (fun hc => ?_)
  · replace h := ifp hc h
    exact v_vret hG hR rfl (spv h) dX7_saves_26
  · replace h := ifn hc h
    refine v_aload_0 hG dX7_saves_8 (q := 9) rfl ?_
    refine gt_RX7_16 hG rfl kk_59 dX7_saves_9 (q := 12) rfl ?_
    refine v_iload_1 hG dX7_saves_12 (q := 13) rfl ?_
    refine v_aload_0 hG dX7_saves_13 (q := 14) rfl ?_
    refine gt_RX7_7 hG rfl kk_59 dX7_saves_14 (q := 17) rfl ?_
    refine v_iload_1 hG dX7_saves_17 (q := 18) rfl ?_
    obtain ⟨c_1, h⟩ := ck_some h
    refine v_iald hG kk_60 rfl c_1 dX7_saves_18 (q := 19) rfl ?_
    obtain ⟨c_2, h⟩ := ck_some h
    refine v_iast hG kk_62 rfl c_2 dX7_saves_19 (q := 20) rfl ?_
    refine v_topM (fun M_3 hy => ?_)
    replace h := letv_at hy h
    clear hy
    refine v_iinc_1 hG rfl dX7_saves_20 (congrArg _ ci_1) (q := 23) rfl ?_
    refine v_goto hG dX7_saves_23 (tgt := 2) rfl ?_
    exact hk2 _ _ h
theorem w_X7_saves_l2 {E : EB} {G : GB} (hG : Gd E mX7_saves G) {R : Mem} (hR : Rt E mX7_saves (PV R) G) : ∀ (n : Nat) (x1 : Int32) (M : Mem), f_X7_saves_l2 n x1 M = some R → V E G 2 [some (.ref 59), some (.int x1)] [] M := by
  intro n
  induction n with
  | zero => intro x1 M h; cases h
  | succ n ih => intro x1 M h; exact w_X7_saves_b2 hG hR ih h
theorem w_X7_saves {E : EB} {M : Mem} {R : Mem} (h : f_X7_saves M = some R) : Mt E mX7_saves [.ref 59] M (PV R) := by
  refine mt_of (L0 := [some (.ref 59), none]) (by decide) rfl rfl (fun G hG hR => ?_)
  unfold f_X7_saves at h
  refine v_iconst hG ci_0 dX7_saves_0 (q := 1) rfl ?_
  refine v_istore_1 hG rfl dX7_saves_1 (q := 2) rfl ?_
  exact w_X7_saves_l2 hG hR FU _ _ h
theorem cvX7_saves : CVo mX7_saves 0 7 := ⟨moX7_saves, mvX7_saves, by decide, _, _, rfl⟩
theorem w_X7_putsBack_b2 {E : EB} {G : GB} (hG : Gd E mX7_putsBack G) {M : Mem} {R : Mem} (hR : Rt E mX7_putsBack (PV R) G) {k2 : Int32 → Mem → Option (Mem)} (hk2 : ∀ (x1 : Int32) (M : Mem), k2 x1 M = some R → V E G 2 [some (.ref 59), some (.int x1)] [] M) {x1 : Int32} (h : f_X7_putsBack_b2 k2 x1 M = some R) : V E G 2 [some (.ref 59), some (.int x1)] [] M := by
  unfold f_X7_putsBack_b2 at h
  refine v_iload_1 hG dX7_putsBack_2 (q := 3) rfl ?_
  refine v_bipush hG cb_99 dX7_putsBack_3 (q := 5) rfl ?_
  refine v_icmp_ge hG dX7_putsBack_5 (tgt := 26) rfl (q := 8) rfl (fun hc => ?_) (fun hc => ?_)
  · replace h := ifp hc h
    exact v_vret hG hR rfl (spv h) dX7_putsBack_26
  · replace h := ifn hc h
    refine v_aload_0 hG dX7_putsBack_8 (q := 9) rfl ?_
    refine gt_RX7_7 hG rfl kk_59 dX7_putsBack_9 (q := 12) rfl ?_
    refine v_iload_1 hG dX7_putsBack_12 (q := 13) rfl ?_
    refine v_aload_0 hG dX7_putsBack_13 (q := 14) rfl ?_
    refine gt_RX7_16 hG rfl kk_59 dX7_putsBack_14 (q := 17) rfl ?_
    refine v_iload_1 hG dX7_putsBack_17 (q := 18) rfl ?_
    obtain ⟨c_1, h⟩ := ck_some h
    refine v_iald hG kk_62 rfl c_1 dX7_putsBack_18 (q := 19) rfl ?_
    obtain ⟨c_2, h⟩ := ck_some h
    refine v_iast hG kk_60 rfl c_2 dX7_putsBack_19 (q := 20) rfl ?_
    refine v_topM (fun M_3 hy => ?_)
    replace h := letv_at hy h
    clear hy
    refine v_iinc_1 hG rfl dX7_putsBack_20 (congrArg _ ci_1) (q := 23) rfl ?_
    refine v_goto hG dX7_putsBack_23 (tgt := 2) rfl ?_
    exact hk2 _ _ h
theorem w_X7_putsBack_l2 {E : EB} {G : GB} (hG : Gd E mX7_putsBack G) {R : Mem} (hR : Rt E mX7_putsBack (PV R) G) : ∀ (n : Nat) (x1 : Int32) (M : Mem), f_X7_putsBack_l2 n x1 M = some R → V E G 2 [some (.ref 59), some (.int x1)] [] M := by
  intro n
  induction n with
  | zero => intro x1 M h; cases h
  | succ n ih => intro x1 M h; exact w_X7_putsBack_b2 hG hR ih h
theorem w_X7_putsBack {E : EB} {M : Mem} {R : Mem} (h : f_X7_putsBack M = some R) : Mt E mX7_putsBack [.ref 59] M (PV R) := by
  refine mt_of (L0 := [some (.ref 59), none]) (by decide) rfl rfl (fun G hG hR => ?_)
  unfold f_X7_putsBack at h
  refine v_iconst hG ci_0 dX7_putsBack_0 (q := 1) rfl ?_
  refine v_istore_1 hG rfl dX7_putsBack_1 (q := 2) rfl ?_
  exact w_X7_putsBack_l2 hG hR FU _ _ h
theorem cvX7_putsBack : CVo mX7_putsBack 0 7 := ⟨moX7_putsBack, mvX7_putsBack, by decide, _, _, rfl⟩
theorem w_X7_at {E : EB} {x0 : Int32} {x1 : Int32} {M : Mem} {R : Int32} (h : f_X7_at x0 x1 M = some R) : Mt E mX7_at [.int x0, .int x1] M (PI R M) := by
  refine mt_of (L0 := [some (.int x0), some (.int x1)]) (by decide) rfl rfl (fun G hG hR => ?_)
  unfold f_X7_at at h
  refine v_iconst hG ci_5 dX7_at_0 (q := 1) rfl ?_
  refine v_bipush hG cb_6 dX7_at_1 (q := 3) rfl ?_
  refine v_iload_0 hG dX7_at_3 (q := 4) rfl ?_
  refine v_imul hG dX7_at_4 (q := 5) rfl ?_
  refine v_iadd hG dX7_at_5 (q := 6) rfl ?_
  refine v_iload_1 hG dX7_at_6 (q := 7) rfl ?_
  refine v_iadd hG dX7_at_7 (q := 8) rfl ?_
  exact v_iret hG hR rfl rfl (sp1 h) dX7_at_8
theorem csX7_at : CSo mX7_at 2 := ⟨moX7_at, msX7_at⟩
theorem w_X7_its {E : EB} {x1 : Int32} {x2 : Int32} {M : Mem} {R : Int32} (h : f_X7_its x1 x2 M = some R) : Mt E mX7_its [.ref 59, .int x1, .int x2] M (PI R M) := by
  refine mt_of (L0 := [some (.ref 59), some (.int x1), some (.int x2)]) (by decide) rfl rfl (fun G hG hR => ?_)
  unfold f_X7_its at h
  refine v_aload_0 hG dX7_its_0 (q := 1) rfl ?_
  refine gt_RX7_7 hG rfl kk_59 dX7_its_1 (q := 4) rfl ?_
  refine v_iload_1 hG dX7_its_4 (q := 5) rfl ?_
  refine v_iload_2 hG dX7_its_5 (q := 6) rfl ?_
  obtain ⟨r_1, hr_1, h⟩ := bnd h
  refine v_cS2I hG csX7_at ml_RX7_50 rfl (w_X7_at hr_1) (Nat.le_of_ble_eq_true rfl) dX7_its_6 (q := 9) rfl ?_
  obtain ⟨c_2, h⟩ := ck_some h
  refine v_iald hG kk_60 rfl c_2 dX7_its_9 (q := 10) rfl ?_
  exact v_iret hG hR rfl rfl (sp1 h) dX7_its_10
theorem cvX7_its : CVo mX7_its 2 7 := ⟨moX7_its, mvX7_its, by decide, _, _, rfl⟩
theorem w_X7_isLaw {E : EB} {x0 : Int32} {x1 : Int32} {M : Mem} {R : Bool} (h : f_X7_isLaw x0 x1 M = some R) : Mt E mX7_isLaw [.int x0, .int x1] M (PI (b2i R) M) := by
  refine mt_of (L0 := [some (.int x0), some (.int x1)]) (by decide) rfl rfl (fun G hG hR => ?_)
  unfold f_X7_isLaw at h
  refine v_iload_0 hG dX7_isLaw_0 (q := 1) rfl ?_
  by_cases e0 : x0 = (0 : Int32)
  · refine v_lookup hG dX7_isLaw_1 (tgt := 28) (by decide) (by rw [e0]) rfl ?_
    replace h := ifp e0 h
    refine v_iload_1 hG dX7_isLaw_28 (q := 29) rfl ?_
    refine v_i2l hG dX7_isLaw_29 (q := 30) rfl ?_
    refine v_lconst hG cl_0 dX7_isLaw_30 (q := 31) rfl ?_
    refine v_ldc2 hG kl_RX7_54 dX7_isLaw_31 (q := 34) rfl ?_
    obtain ⟨r_1, hr_1, h⟩ := bnd h
    refine v_cS3I hG csX7_in ml_RX7_43 rfl (w_X7_in hr_1) (Nat.le_of_ble_eq_true rfl) dX7_isLaw_34 (q := 37) rfl ?_
    exact v_iret hG hR rfl (b2i_nar _) (sp1b h) dX7_isLaw_37
  replace h := ifn e0 h
  by_cases e1 : x0 = (4 : Int32)
  · refine v_lookup hG dX7_isLaw_1 (tgt := 38) (by decide) (by rw [e1]) rfl ?_
    replace h := ifp e1 h
    refine v_iload_1 hG dX7_isLaw_38 (q := 39) rfl ?_
    refine v_i2l hG dX7_isLaw_39 (q := 40) rfl ?_
    refine v_lconst hG cl_0 dX7_isLaw_40 (q := 41) rfl ?_
    refine v_ldc2 hG kl_RX7_56 dX7_isLaw_41 (q := 44) rfl ?_
    obtain ⟨r_2, hr_2, h⟩ := bnd h
    refine v_cS3I hG csX7_in ml_RX7_43 rfl (w_X7_in hr_2) (Nat.le_of_ble_eq_true rfl) dX7_isLaw_44 (q := 47) rfl ?_
    exact v_iret hG hR rfl (b2i_nar _) (sp1b h) dX7_isLaw_47
  replace h := ifn e1 h
  refine v_lookup hG dX7_isLaw_1 (tgt := 48) (by decide) (sw_lk e0 e1) rfl ?_
  refine v_iload_0 hG dX7_isLaw_48 (q := 49) rfl ?_
  refine v_i2l hG dX7_isLaw_49 (q := 50) rfl ?_
  refine v_lconst hG cl_1 dX7_isLaw_50 (q := 51) rfl ?_
  refine v_ldc2 hG kl_RX7_58 dX7_isLaw_51 (q := 54) rfl ?_
  obtain ⟨r_3, hr_3, h⟩ := bnd h
  refine v_cS3I hG csX7_in ml_RX7_43 rfl (w_X7_in hr_3) (Nat.le_of_ble_eq_true rfl) dX7_isLaw_54 (q := 57) rfl ?_
  refine v_if_eq hG dX7_isLaw_57 (tgt := 71) rfl (q := 60) rfl (fun hc => ?_) (fun hc => ?_)
  · replace h := ifp hc h
    refine v_iconst hG ci_0 dX7_isLaw_71 (q := 72) rfl ?_
    exact v_iret hG hR rfl rfl (sp1b h) dX7_isLaw_72
  · replace h := ifn hc h
    refine v_iload_1 hG dX7_isLaw_60 (q := 61) rfl ?_
    obtain ⟨r_4, hr_4, h⟩ := bnd h
    refine v_cS1I hG csX7_isSaying ml_RX7_60 rfl (w_X7_isSaying hr_4) (Nat.le_of_ble_eq_true rfl) dX7_isLaw_61 (q := 64) rfl ?_
    refine v_if_eq hG dX7_isLaw_64 (tgt := 71) rfl (q := 67) rfl (fun hc => ?_) (fun hc => ?_)
    · replace h := ifp hc h
      refine v_iconst hG ci_0 dX7_isLaw_71 (q := 72) rfl ?_
      exact v_iret hG hR rfl rfl (sp1b h) dX7_isLaw_72
    · replace h := ifn hc h
      refine v_iconst hG ci_1 dX7_isLaw_67 (q := 68) rfl ?_
      refine v_goto hG dX7_isLaw_68 (tgt := 72) rfl ?_
      exact v_iret hG hR rfl rfl (sp1b h) dX7_isLaw_72
theorem csX7_isLaw : CSo mX7_isLaw 2 := ⟨moX7_isLaw, msX7_isLaw⟩
theorem w_X7_newWriter_b9 {E : EB} {G : GB} (hG : Gd E mX7_newWriter G) {M : Mem} {R : Int32 × Mem} (hR : Rt E mX7_newWriter (PI R.1 R.2) G) {k9 : Int32 → Int32 → Int32 → Mem → Option (Int32 × Mem)} (hk9 : ∀ (x1 : Int32) (x2 : Int32) (x3 : Int32) (M : Mem), k9 x1 x2 x3 M = some R → V E G 9 [some (.ref 59), some (.int x1), some (.int x2), some (.int x3)] [] M) {x1 : Int32} {x2 : Int32} {x3 : Int32} (h : f_X7_newWriter_b9 k9 x1 x2 x3 M = some R) : V E G 9 [some (.ref 59), some (.int x1), some (.int x2), some (.int x3)] [] M := by
  unfold f_X7_newWriter_b9 at h
  refine v_iload_3 hG dX7_newWriter_9 (q := 10) rfl ?_
  refine v_bipush hG cb_6 dX7_newWriter_10 (q := 12) rfl ?_
  refine v_icmp_ge hG dX7_newWriter_12 (tgt := 32) rfl (q := 15) rfl (fun hc => ?_) (fun hc => ?_)
  · replace h := ifp hc h
    refine v_aload_0 hG dX7_newWriter_32 (q := 33) rfl ?_
    refine gt_RX7_7 hG rfl kk_59 dX7_newWriter_33 (q := 36) rfl ?_
    refine v_iload_2 hG dX7_newWriter_36 (q := 37) rfl ?_
    refine v_iconst hG ci_0 dX7_newWriter_37 (q := 38) rfl ?_
    obtain ⟨r_3, hr_3, h⟩ := bnd h
    refine v_cS2I hG csX7_at ml_RX7_50 rfl (w_X7_at hr_3) (Nat.le_of_ble_eq_true rfl) dX7_newWriter_38 (q := 41) rfl ?_
    refine v_iload_1 hG dX7_newWriter_41 (q := 42) rfl ?_
    obtain ⟨c_4, h⟩ := ck_some h
    refine v_iast hG kk_60 rfl c_4 dX7_newWriter_42 (q := 43) rfl ?_
    refine v_topM (fun M_5 hy => ?_)
    replace h := letv_at hy h
    clear hy
    refine v_aload_0 hG dX7_newWriter_43 (q := 44) rfl ?_
    refine gt_RX7_7 hG rfl kk_59 dX7_newWriter_44 (q := 47) rfl ?_
    refine v_iload_2 hG dX7_newWriter_47 (q := 48) rfl ?_
    refine v_iconst hG ci_4 dX7_newWriter_48 (q := 49) rfl ?_
    obtain ⟨r_6, hr_6, h⟩ := bnd h
    refine v_cS2I hG csX7_at ml_RX7_50 rfl (w_X7_at hr_6) (Nat.le_of_ble_eq_true rfl) dX7_newWriter_49 (q := 52) rfl ?_
    refine v_iconst hG ci_4 dX7_newWriter_52 (q := 53) rfl ?_
    obtain ⟨c_7, h⟩ := ck_some h
    refine v_iast hG kk_60 rfl c_7 dX7_newWriter_53 (q := 54) rfl ?_
    refine v_topM (fun M_8 hy => ?_)
    replace h := letv_at hy h
    clear hy
    refine v_aload_0 hG dX7_newWriter_54 (q := 55) rfl ?_
    refine gt_RX7_7 hG rfl kk_59 dX7_newWriter_55 (q := 58) rfl ?_
    refine v_iconst hG ci_0 dX7_newWriter_58 (q := 59) rfl ?_
    refine v_dup2 hG rfl rfl dX7_newWriter_59 (q := 60) rfl ?_
    obtain ⟨c_9, h⟩ := ck_some h
    refine v_iald hG kk_60 rfl c_9 dX7_newWriter_60 (q := 61) rfl ?_
    refine v_iconst hG ci_1 dX7_newWriter_61 (q := 62) rfl ?_
    refine v_iadd hG dX7_newWriter_62 (q := 63) rfl ?_
    obtain ⟨c_10, h⟩ := ck_some h
    refine v_iast hG kk_60 rfl c_10 dX7_newWriter_63 (q := 64) rfl ?_
    refine v_topM (fun M_11 hy => ?_)
    replace h := letv_at hy h
    clear hy
    refine v_iload_2 hG dX7_newWriter_64 (q := 65) rfl ?_
    exact v_iret hG hR rfl rfl (sp2t h) dX7_newWriter_65
  · replace h := ifn hc h
    refine v_aload_0 hG dX7_newWriter_15 (q := 16) rfl ?_
    refine gt_RX7_7 hG rfl kk_59 dX7_newWriter_16 (q := 19) rfl ?_
    refine v_iload_2 hG dX7_newWriter_19 (q := 20) rfl ?_
    refine v_iload_3 hG dX7_newWriter_20 (q := 21) rfl ?_
    obtain ⟨r_12, hr_12, h⟩ := bnd h
    refine v_cS2I hG csX7_at ml_RX7_50 rfl (w_X7_at hr_12) (Nat.le_of_ble_eq_true rfl) dX7_newWriter_21 (q := 24) rfl ?_
    refine v_iconst hG ci_0 dX7_newWriter_24 (q := 25) rfl ?_
    obtain ⟨c_13, h⟩ := ck_some h
    refine v_iast hG kk_60 rfl c_13 dX7_newWriter_25 (q := 26) rfl ?_
    refine v_topM (fun M_14 hy => ?_)
    replace h := letv_at hy h
    clear hy
    refine v_iinc_3 hG rfl dX7_newWriter_26 (congrArg _ ci_1) (q := 29) rfl ?_
    refine v_goto hG dX7_newWriter_29 (tgt := 9) rfl ?_
    exact hk9 _ _ _ _ h
theorem w_X7_newWriter_l9 {E : EB} {G : GB} (hG : Gd E mX7_newWriter G) {R : Int32 × Mem} (hR : Rt E mX7_newWriter (PI R.1 R.2) G) : ∀ (n : Nat) (x1 : Int32) (x2 : Int32) (x3 : Int32) (M : Mem), f_X7_newWriter_l9 n x1 x2 x3 M = some R → V E G 9 [some (.ref 59), some (.int x1), some (.int x2), some (.int x3)] [] M := by
  intro n
  induction n with
  | zero => intro x1 x2 x3 M h; cases h
  | succ n ih => intro x1 x2 x3 M h; exact w_X7_newWriter_b9 hG hR ih h
theorem w_X7_newWriter {E : EB} {x1 : Int32} {M : Mem} {R : Int32 × Mem} (h : f_X7_newWriter x1 M = some R) : Mt E mX7_newWriter [.ref 59, .int x1] M (PI R.1 R.2) := by
  refine mt_of (L0 := [some (.ref 59), some (.int x1), none, none]) (by decide) rfl rfl (fun G hG hR => ?_)
  unfold f_X7_newWriter at h
  refine v_aload_0 hG dX7_newWriter_0 (q := 1) rfl ?_
  refine gt_RX7_7 hG rfl kk_59 dX7_newWriter_1 (q := 4) rfl ?_
  refine v_iconst hG ci_0 dX7_newWriter_4 (q := 5) rfl ?_
  obtain ⟨c_1, h⟩ := ck_some h
  refine v_iald hG kk_60 rfl c_1 dX7_newWriter_5 (q := 6) rfl ?_
  refine v_topi (fun x2_2 hy => ?_)
  replace h := letv_at hy h
  clear hy
  refine v_istore_2 hG rfl dX7_newWriter_6 (q := 7) rfl ?_
  refine v_iconst hG ci_0 dX7_newWriter_7 (q := 8) rfl ?_
  refine v_istore_3 hG rfl dX7_newWriter_8 (q := 9) rfl ?_
  exact w_X7_newWriter_l9 hG hR FU _ _ _ _ h
theorem cvX7_newWriter : CVo mX7_newWriter 1 7 := ⟨moX7_newWriter, mvX7_newWriter, by decide, _, _, rfl⟩
theorem w_X7_writer {E : EB} {x1 : Int32} {M : Mem} {R : Int32 × Mem} (h : f_X7_writer x1 M = some R) : Mt E mX7_writer [.ref 59, .int x1] M (PI R.1 R.2) := by
  refine mt_of (L0 := [some (.ref 59), some (.int x1)]) (by decide) rfl rfl (fun G hG hR => ?_)
  unfold f_X7_writer at h
  refine v_iconst hG ci_0 dX7_writer_0 (q := 1) rfl ?_
  refine v_iload_1 hG dX7_writer_1 (q := 2) rfl ?_
  obtain ⟨r_1, hr_1, h⟩ := bnd h
  refine v_cS2I hG csX7_isLaw ml_RX7_64 rfl (w_X7_isLaw hr_1) (Nat.le_of_ble_eq_true rfl) dX7_writer_2 (q := 5) rfl ?_
  refine v_if_ne hG dX7_writer_5 (tgt := 15) rfl (q := 8) rfl (fun hc => ?_) (fun hc => ?_)
  · replace h := ifn hc h
    refine v_aload_0 hG dX7_writer_15 (q := 16) rfl ?_
    refine gt_RX7_7 hG rfl kk_59 dX7_writer_16 (q := 19) rfl ?_
    refine v_iconst hG ci_0 dX7_writer_19 (q := 20) rfl ?_
    obtain ⟨c_2, h⟩ := ck_some h
    refine v_iald hG kk_60 rfl c_2 dX7_writer_20 (q := 21) rfl ?_
    refine v_bipush hG cb_6 dX7_writer_21 (q := 23) rfl ?_
    refine v_icmp_ne hG dX7_writer_23 (tgt := 35) rfl (q := 26) rfl (fun hc => ?_) (fun hc => ?_)
    · replace h := ifn hc h
      refine v_aload_0 hG dX7_writer_35 (q := 36) rfl ?_
      refine v_iload_1 hG dX7_writer_36 (q := 37) rfl ?_
      obtain ⟨r_3, hr_3, h⟩ := bnd h
      refine v_cV1I hG cvX7_newWriter ml_RX7_73 rfl kk_59 (w_X7_newWriter hr_3) (Nat.le_of_ble_eq_true rfl) dX7_writer_37 (q := 40) rfl ?_
      exact v_iret hG hR rfl rfl (sp2t h) dX7_writer_40
    · replace h := ifp hc h
      refine v_aload_0 hG dX7_writer_26 (q := 27) rfl ?_
      refine v_ldc hG kc_RX7_72 dX7_writer_27 (q := 29) rfl ?_
      obtain ⟨r_4, hr_4, h⟩ := bnd h
      refine v_cV1I hG cvX7_finds ml_RX7_68 rfl kk_59 (w_X7_finds hr_4) (Nat.le_of_ble_eq_true rfl) dX7_writer_29 (q := 32) rfl ?_
      refine v_goto hG dX7_writer_32 (tgt := 40) rfl ?_
      exact v_iret hG hR rfl rfl (sp2t h) dX7_writer_40
  · replace h := ifp hc h
    refine v_aload_0 hG dX7_writer_8 (q := 9) rfl ?_
    refine v_ldc hG kc_RX7_40 dX7_writer_9 (q := 11) rfl ?_
    obtain ⟨r_5, hr_5, h⟩ := bnd h
    refine v_cV1I hG cvX7_finds ml_RX7_68 rfl kk_59 (w_X7_finds hr_5) (Nat.le_of_ble_eq_true rfl) dX7_writer_11 (q := 14) rfl ?_
    exact v_iret hG hR rfl rfl (sp2t h) dX7_writer_14
theorem cvX7_writer : CVo mX7_writer 1 7 := ⟨moX7_writer, mvX7_writer, by decide, _, _, rfl⟩
theorem w_X7_writerOf {E : EB} {x1 : Int32} {x2 : Int32} {M : Mem} {R : Int32 × Mem} (h : f_X7_writerOf x1 x2 M = some R) : Mt E mX7_writerOf [.ref 59, .int x1, .int x2] M (PI R.1 R.2) := by
  refine mt_of (L0 := [some (.ref 59), some (.int x1), some (.int x2)]) (by decide) rfl rfl (fun G hG hR => ?_)
  unfold f_X7_writerOf at h
  refine v_aload_0 hG dX7_writerOf_0 (q := 1) rfl ?_
  refine v_iload_1 hG dX7_writerOf_1 (q := 2) rfl ?_
  obtain ⟨r_1, hr_1, h⟩ := bnd h
  refine v_cV1I hG cvX7_isWriter ml_RX7_76 rfl kk_59 (w_X7_isWriter hr_1) (Nat.le_of_ble_eq_true rfl) dX7_writerOf_2 (q := 5) rfl ?_
  refine v_if_eq hG dX7_writerOf_5 (tgt := 29) rfl (q := 8) rfl (fun hc => ?_) (fun hc => ?_)
  · replace h := ifp hc h
    refine v_aload_0 hG dX7_writerOf_29 (q := 30) rfl ?_
    refine v_ldc hG kc_RX7_40 dX7_writerOf_30 (q := 32) rfl ?_
    obtain ⟨r_2, hr_2, h⟩ := bnd h
    refine v_cV1I hG cvX7_finds ml_RX7_68 rfl kk_59 (w_X7_finds hr_2) (Nat.le_of_ble_eq_true rfl) dX7_writerOf_32 (q := 35) rfl ?_
    exact v_iret hG hR rfl rfl (sp2t h) dX7_writerOf_35
  · replace h := ifn hc h
    refine v_iload_2 hG dX7_writerOf_8 (q := 9) rfl ?_
    refine v_i2l hG dX7_writerOf_9 (q := 10) rfl ?_
    refine v_lconst hG cl_0 dX7_writerOf_10 (q := 11) rfl ?_
    refine v_ldc2 hG kl_RX7_79 dX7_writerOf_11 (q := 14) rfl ?_
    obtain ⟨r_3, hr_3, h⟩ := bnd h
    refine v_cS3I hG csX7_in ml_RX7_43 rfl (w_X7_in hr_3) (Nat.le_of_ble_eq_true rfl) dX7_writerOf_14 (q := 17) rfl ?_
    refine v_if_eq hG dX7_writerOf_17 (tgt := 29) rfl (q := 20) rfl (fun hc => ?_) (fun hc => ?_)
    · replace h := ifp hc h
      refine v_aload_0 hG dX7_writerOf_29 (q := 30) rfl ?_
      refine v_ldc hG kc_RX7_40 dX7_writerOf_30 (q := 32) rfl ?_
      obtain ⟨r_4, hr_4, h⟩ := bnd h
      refine v_cV1I hG cvX7_finds ml_RX7_68 rfl kk_59 (w_X7_finds hr_4) (Nat.le_of_ble_eq_true rfl) dX7_writerOf_32 (q := 35) rfl ?_
      exact v_iret hG hR rfl rfl (sp2t h) dX7_writerOf_35
    · replace h := ifn hc h
      refine v_aload_0 hG dX7_writerOf_20 (q := 21) rfl ?_
      refine v_iload_1 hG dX7_writerOf_21 (q := 22) rfl ?_
      refine v_iload_2 hG dX7_writerOf_22 (q := 23) rfl ?_
      obtain ⟨r_5, hr_5, h⟩ := bnd h
      refine v_cV2I hG cvX7_its ml_RX7_81 rfl kk_59 (w_X7_its hr_5) (Nat.le_of_ble_eq_true rfl) dX7_writerOf_23 (q := 26) rfl ?_
      refine v_goto hG dX7_writerOf_26 (tgt := 35) rfl ?_
      exact v_iret hG hR rfl rfl (sp2t h) dX7_writerOf_35
theorem cvX7_writerOf : CVo mX7_writerOf 2 7 := ⟨moX7_writerOf, mvX7_writerOf, by decide, _, _, rfl⟩
theorem w_X7_law {E : EB} {x1 : Int32} {x2 : Int32} {x3 : Int32} {M : Mem} {R : Int32 × Mem} (h : f_X7_law x1 x2 x3 M = some R) : Mt E mX7_law [.ref 59, .int x1, .int x2, .int x3] M (PI R.1 R.2) := by
  refine mt_of (L0 := [some (.ref 59), some (.int x1), some (.int x2), some (.int x3), none]) (by decide) rfl rfl (fun G hG hR => ?_)
  unfold f_X7_law at h
  refine v_aload_0 hG dX7_law_0 (q := 1) rfl ?_
  refine v_iload_1 hG dX7_law_1 (q := 2) rfl ?_
  obtain ⟨r_1, hr_1, h⟩ := bnd h
  refine v_cV1I hG cvX7_isWriter ml_RX7_76 rfl kk_59 (w_X7_isWriter hr_1) (Nat.le_of_ble_eq_true rfl) dX7_law_2 (q := 5) rfl ?_
  refine v_if_eq hG dX7_law_5 (tgt := 16) rfl (q := 8) rfl (fun hc => ?_) (fun hc => ?_)
  · replace h := ifp hc h
    refine v_aload_0 hG dX7_law_16 (q := 17) rfl ?_
    refine v_ldc hG kc_RX7_40 dX7_law_17 (q := 19) rfl ?_
    obtain ⟨r_2, hr_2, h⟩ := bnd h
    refine v_cV1I hG cvX7_finds ml_RX7_68 rfl kk_59 (w_X7_finds hr_2) (Nat.le_of_ble_eq_true rfl) dX7_law_19 (q := 22) rfl ?_
    exact v_iret hG hR rfl rfl (sp2t h) dX7_law_22
  · replace h := ifn hc h
    refine v_iload_2 hG dX7_law_8 (q := 9) rfl ?_
    refine v_iload_3 hG dX7_law_9 (q := 10) rfl ?_
    obtain ⟨r_3, hr_3, h⟩ := bnd h
    refine v_cS2I hG csX7_isLaw ml_RX7_64 rfl (w_X7_isLaw hr_3) (Nat.le_of_ble_eq_true rfl) dX7_law_10 (q := 13) rfl ?_
    refine v_if_ne hG dX7_law_13 (tgt := 23) rfl (q := 16) rfl (fun hc => ?_) (fun hc => ?_)
    · replace h := ifn hc h
      refine v_aload_0 hG dX7_law_23 (q := 24) rfl ?_
      refine v_iload_1 hG dX7_law_24 (q := 25) rfl ?_
      refine v_iload_2 hG dX7_law_25 (q := 26) rfl ?_
      obtain ⟨r_4, hr_4, h⟩ := bnd h
      refine v_cV2I hG cvX7_its ml_RX7_81 rfl kk_59 (w_X7_its hr_4) (Nat.le_of_ble_eq_true rfl) dX7_law_26 (q := 29) rfl ?_
      refine v_istore_4 hG rfl dX7_law_29 (q := 31) rfl ?_
      refine v_aload_0 hG dX7_law_31 (q := 32) rfl ?_
      refine gt_RX7_7 hG rfl kk_59 dX7_law_32 (q := 35) rfl ?_
      refine v_iload_1 hG dX7_law_35 (q := 36) rfl ?_
      refine v_iload_2 hG dX7_law_36 (q := 37) rfl ?_
      obtain ⟨r_5, hr_5, h⟩ := bnd h
      refine v_cS2I hG csX7_at ml_RX7_50 rfl (w_X7_at hr_5) (Nat.le_of_ble_eq_true rfl) dX7_law_37 (q := 40) rfl ?_
      refine v_iload_3 hG dX7_law_40 (q := 41) rfl ?_
      obtain ⟨c_6, h⟩ := ck_some h
      refine v_iast hG kk_60 rfl c_6 dX7_law_41 (q := 42) rfl ?_
      refine v_topM (fun M_7 hy => ?_)
      replace h := letv_at hy h
      clear hy
      refine v_iload_4 hG dX7_law_42 (q := 44) rfl ?_
      exact v_iret hG hR rfl rfl (sp2t h) dX7_law_44
    · replace h := ifp hc h
      refine v_aload_0 hG dX7_law_16 (q := 17) rfl ?_
      refine v_ldc hG kc_RX7_40 dX7_law_17 (q := 19) rfl ?_
      obtain ⟨r_8, hr_8, h⟩ := bnd h
      refine v_cV1I hG cvX7_finds ml_RX7_68 rfl kk_59 (w_X7_finds hr_8) (Nat.le_of_ble_eq_true rfl) dX7_law_19 (q := 22) rfl ?_
      exact v_iret hG hR rfl rfl (sp2t h) dX7_law_22
theorem cvX7_law : CVo mX7_law 3 7 := ⟨moX7_law, mvX7_law, by decide, _, _, rfl⟩
theorem w_X7_where {E : EB} {x0 : Int32} {x1 : Int32} {M : Mem} {R : Int32} (h : f_X7_where x0 x1 M = some R) : Mt E mX7_where [.int x0, .int x1] M (PI R M) := by
  refine mt_of (L0 := [some (.int x0), some (.int x1)]) (by decide) rfl rfl (fun G hG hR => ?_)
  unfold f_X7_where at h
  refine v_bipush hG cb_41 dX7_where_0 (q := 2) rfl ?_
  refine v_iconst hG ci_5 dX7_where_2 (q := 3) rfl ?_
  refine v_iload_0 hG dX7_where_3 (q := 4) rfl ?_
  refine v_imul hG dX7_where_4 (q := 5) rfl ?_
  refine v_iadd hG dX7_where_5 (q := 6) rfl ?_
  refine v_iload_1 hG dX7_where_6 (q := 7) rfl ?_
  refine v_iadd hG dX7_where_7 (q := 8) rfl ?_
  exact v_iret hG hR rfl rfl (sp1 h) dX7_where_8
theorem csX7_where : CSo mX7_where 2 := ⟨moX7_where, msX7_where⟩
theorem w_X7_told {E : EB} {x1 : Int32} {x2 : Int32} {M : Mem} {R : Int32} (h : f_X7_told x1 x2 M = some R) : Mt E mX7_told [.ref 59, .int x1, .int x2] M (PI R M) := by
  refine mt_of (L0 := [some (.ref 59), some (.int x1), some (.int x2)]) (by decide) rfl rfl (fun G hG hR => ?_)
  unfold f_X7_told at h
  refine v_aload_0 hG dX7_told_0 (q := 1) rfl ?_
  refine gt_RX7_7 hG rfl kk_59 dX7_told_1 (q := 4) rfl ?_
  refine v_iload_1 hG dX7_told_4 (q := 5) rfl ?_
  refine v_iload_2 hG dX7_told_5 (q := 6) rfl ?_
  obtain ⟨r_1, hr_1, h⟩ := bnd h
  refine v_cS2I hG csX7_where ml_RX7_84 rfl (w_X7_where hr_1) (Nat.le_of_ble_eq_true rfl) dX7_told_6 (q := 9) rfl ?_
  obtain ⟨c_2, h⟩ := ck_some h
  refine v_iald hG kk_60 rfl c_2 dX7_told_9 (q := 10) rfl ?_
  exact v_iret hG hR rfl rfl (sp1 h) dX7_told_10
theorem cvX7_told : CVo mX7_told 2 7 := ⟨moX7_told, mvX7_told, by decide, _, _, rfl⟩
theorem w_X7_newPerson {E : EB} {x1 : Int32} {M : Mem} {R : Int32 × Mem} (h : f_X7_newPerson x1 M = some R) : Mt E mX7_newPerson [.ref 59, .int x1] M (PI R.1 R.2) := by
  refine mt_of (L0 := [some (.ref 59), some (.int x1), none]) (by decide) rfl rfl (fun G hG hR => ?_)
  unfold f_X7_newPerson at h
  refine v_aload_0 hG dX7_newPerson_0 (q := 1) rfl ?_
  refine gt_RX7_7 hG rfl kk_59 dX7_newPerson_1 (q := 4) rfl ?_
  refine v_iconst hG ci_1 dX7_newPerson_4 (q := 5) rfl ?_
  obtain ⟨c_1, h⟩ := ck_some h
  refine v_iald hG kk_60 rfl c_1 dX7_newPerson_5 (q := 6) rfl ?_
  refine v_topi (fun x2_2 hy => ?_)
  replace h := letv_at hy h
  clear hy
  refine v_istore_2 hG rfl dX7_newPerson_6 (q := 7) rfl ?_
  refine v_aload_0 hG dX7_newPerson_7 (q := 8) rfl ?_
  refine gt_RX7_7 hG rfl kk_59 dX7_newPerson_8 (q := 11) rfl ?_
  refine v_iload_2 hG dX7_newPerson_11 (q := 12) rfl ?_
  refine v_iconst hG ci_0 dX7_newPerson_12 (q := 13) rfl ?_
  obtain ⟨r_3, hr_3, h⟩ := bnd h
  refine v_cS2I hG csX7_where ml_RX7_84 rfl (w_X7_where hr_3) (Nat.le_of_ble_eq_true rfl) dX7_newPerson_13 (q := 16) rfl ?_
  refine v_iconst hG ci_0 dX7_newPerson_16 (q := 17) rfl ?_
  obtain ⟨c_4, h⟩ := ck_some h
  refine v_iast hG kk_60 rfl c_4 dX7_newPerson_17 (q := 18) rfl ?_
  refine v_topM (fun M_5 hy => ?_)
  replace h := letv_at hy h
  clear hy
  refine v_aload_0 hG dX7_newPerson_18 (q := 19) rfl ?_
  refine gt_RX7_7 hG rfl kk_59 dX7_newPerson_19 (q := 22) rfl ?_
  refine v_iload_2 hG dX7_newPerson_22 (q := 23) rfl ?_
  refine v_iconst hG ci_1 dX7_newPerson_23 (q := 24) rfl ?_
  obtain ⟨r_6, hr_6, h⟩ := bnd h
  refine v_cS2I hG csX7_where ml_RX7_84 rfl (w_X7_where hr_6) (Nat.le_of_ble_eq_true rfl) dX7_newPerson_24 (q := 27) rfl ?_
  refine v_iconst hG ci_0 dX7_newPerson_27 (q := 28) rfl ?_
  obtain ⟨c_7, h⟩ := ck_some h
  refine v_iast hG kk_60 rfl c_7 dX7_newPerson_28 (q := 29) rfl ?_
  refine v_topM (fun M_8 hy => ?_)
  replace h := letv_at hy h
  clear hy
  refine v_aload_0 hG dX7_newPerson_29 (q := 30) rfl ?_
  refine gt_RX7_7 hG rfl kk_59 dX7_newPerson_30 (q := 33) rfl ?_
  refine v_iload_2 hG dX7_newPerson_33 (q := 34) rfl ?_
  refine v_iconst hG ci_2 dX7_newPerson_34 (q := 35) rfl ?_
  obtain ⟨r_9, hr_9, h⟩ := bnd h
  refine v_cS2I hG csX7_where ml_RX7_84 rfl (w_X7_where hr_9) (Nat.le_of_ble_eq_true rfl) dX7_newPerson_35 (q := 38) rfl ?_
  refine v_iload_1 hG dX7_newPerson_38 (q := 39) rfl ?_
  obtain ⟨c_10, h⟩ := ck_some h
  refine v_iast hG kk_60 rfl c_10 dX7_newPerson_39 (q := 40) rfl ?_
  refine v_topM (fun M_11 hy => ?_)
  replace h := letv_at hy h
  clear hy
  refine v_aload_0 hG dX7_newPerson_40 (q := 41) rfl ?_
  refine gt_RX7_7 hG rfl kk_59 dX7_newPerson_41 (q := 44) rfl ?_
  refine v_iload_2 hG dX7_newPerson_44 (q := 45) rfl ?_
  refine v_iconst hG ci_3 dX7_newPerson_45 (q := 46) rfl ?_
  obtain ⟨r_12, hr_12, h⟩ := bnd h
  refine v_cS2I hG csX7_where ml_RX7_84 rfl (w_X7_where hr_12) (Nat.le_of_ble_eq_true rfl) dX7_newPerson_46 (q := 49) rfl ?_
  refine v_bipush hG cb_100 dX7_newPerson_49 (q := 51) rfl ?_
  obtain ⟨c_13, h⟩ := ck_some h
  refine v_iast hG kk_60 rfl c_13 dX7_newPerson_51 (q := 52) rfl ?_
  refine v_topM (fun M_14 hy => ?_)
  replace h := letv_at hy h
  clear hy
  refine v_aload_0 hG dX7_newPerson_52 (q := 53) rfl ?_
  refine gt_RX7_7 hG rfl kk_59 dX7_newPerson_53 (q := 56) rfl ?_
  refine v_iload_2 hG dX7_newPerson_56 (q := 57) rfl ?_
  refine v_iconst hG ci_4 dX7_newPerson_57 (q := 58) rfl ?_
  obtain ⟨r_15, hr_15, h⟩ := bnd h
  refine v_cS2I hG csX7_where ml_RX7_84 rfl (w_X7_where hr_15) (Nat.le_of_ble_eq_true rfl) dX7_newPerson_58 (q := 61) rfl ?_
  refine v_iconst hG ci_0 dX7_newPerson_61 (q := 62) rfl ?_
  obtain ⟨c_16, h⟩ := ck_some h
  refine v_iast hG kk_60 rfl c_16 dX7_newPerson_62 (q := 63) rfl ?_
  refine v_topM (fun M_17 hy => ?_)
  replace h := letv_at hy h
  clear hy
  refine v_aload_0 hG dX7_newPerson_63 (q := 64) rfl ?_
  refine gt_RX7_7 hG rfl kk_59 dX7_newPerson_64 (q := 67) rfl ?_
  refine v_bipush hG cb_81 dX7_newPerson_67 (q := 69) rfl ?_
  refine v_iload_2 hG dX7_newPerson_69 (q := 70) rfl ?_
  refine v_iadd hG dX7_newPerson_70 (q := 71) rfl ?_
  refine v_iconst hG ci_0 dX7_newPerson_71 (q := 72) rfl ?_
  obtain ⟨c_18, h⟩ := ck_some h
  refine v_iast hG kk_60 rfl c_18 dX7_newPerson_72 (q := 73) rfl ?_
  refine v_topM (fun M_19 hy => ?_)
  replace h := letv_at hy h
  clear hy
  refine v_aload_0 hG dX7_newPerson_73 (q := 74) rfl ?_
  refine gt_RX7_7 hG rfl kk_59 dX7_newPerson_74 (q := 77) rfl ?_
  refine v_iconst hG ci_1 dX7_newPerson_77 (q := 78) rfl ?_
  refine v_dup2 hG rfl rfl dX7_newPerson_78 (q := 79) rfl ?_
  obtain ⟨c_20, h⟩ := ck_some h
  refine v_iald hG kk_60 rfl c_20 dX7_newPerson_79 (q := 80) rfl ?_
  refine v_iconst hG ci_1 dX7_newPerson_80 (q := 81) rfl ?_
  refine v_iadd hG dX7_newPerson_81 (q := 82) rfl ?_
  obtain ⟨c_21, h⟩ := ck_some h
  refine v_iast hG kk_60 rfl c_21 dX7_newPerson_82 (q := 83) rfl ?_
  refine v_topM (fun M_22 hy => ?_)
  replace h := letv_at hy h
  clear hy
  refine v_iload_2 hG dX7_newPerson_83 (q := 84) rfl ?_
  exact v_iret hG hR rfl rfl (sp2t h) dX7_newPerson_84
theorem cvX7_newPerson : CVo mX7_newPerson 1 7 := ⟨moX7_newPerson, mvX7_newPerson, by decide, _, _, rfl⟩
theorem w_X7_person {E : EB} {x1 : Int32} {M : Mem} {R : Int32 × Mem} (h : f_X7_person x1 M = some R) : Mt E mX7_person [.ref 59, .int x1] M (PI R.1 R.2) := by
  refine mt_of (L0 := [some (.ref 59), some (.int x1)]) (by decide) rfl rfl (fun G hG hR => ?_)
  unfold f_X7_person at h
  refine v_aload_0 hG dX7_person_0 (q := 1) rfl ?_
  refine v_iload_1 hG dX7_person_1 (q := 2) rfl ?_
  obtain ⟨r_1, hr_1, h⟩ := bnd h
  refine v_cV1I hG cvX7_isWriter ml_RX7_76 rfl kk_59 (w_X7_isWriter hr_1) (Nat.le_of_ble_eq_true rfl) dX7_person_2 (q := 5) rfl ?_
  refine v_if_ne hG dX7_person_5 (tgt := 15) rfl (q := 8) rfl (fun hc => ?_) (fun hc => ?_)
  · replace h := ifn hc h
    refine v_aload_0 hG dX7_person_15 (q := 16) rfl ?_
    refine gt_RX7_7 hG rfl kk_59 dX7_person_16 (q := 19) rfl ?_
    refine v_iconst hG ci_1 dX7_person_19 (q := 20) rfl ?_
    obtain ⟨c_2, h⟩ := ck_some h
    refine v_iald hG kk_60 rfl c_2 dX7_person_20 (q := 21) rfl ?_
    refine v_bipush hG cb_8 dX7_person_21 (q := 23) rfl ?_
    refine v_icmp_ne hG dX7_person_23 (tgt := 35) rfl (q := 26) rfl (fun hc => ?_) (fun hc => ?_)
    · replace h := ifn hc h
      refine v_aload_0 hG dX7_person_35 (q := 36) rfl ?_
      refine v_iload_1 hG dX7_person_36 (q := 37) rfl ?_
      obtain ⟨r_3, hr_3, h⟩ := bnd h
      refine v_cV1I hG cvX7_newPerson ml_RX7_87 rfl kk_59 (w_X7_newPerson hr_3) (Nat.le_of_ble_eq_true rfl) dX7_person_37 (q := 40) rfl ?_
      exact v_iret hG hR rfl rfl (sp2t h) dX7_person_40
    · replace h := ifp hc h
      refine v_aload_0 hG dX7_person_26 (q := 27) rfl ?_
      refine v_ldc hG kc_RX7_72 dX7_person_27 (q := 29) rfl ?_
      obtain ⟨r_4, hr_4, h⟩ := bnd h
      refine v_cV1I hG cvX7_finds ml_RX7_68 rfl kk_59 (w_X7_finds hr_4) (Nat.le_of_ble_eq_true rfl) dX7_person_29 (q := 32) rfl ?_
      refine v_goto hG dX7_person_32 (tgt := 40) rfl ?_
      exact v_iret hG hR rfl rfl (sp2t h) dX7_person_40
  · replace h := ifp hc h
    refine v_aload_0 hG dX7_person_8 (q := 9) rfl ?_
    refine v_ldc hG kc_RX7_40 dX7_person_9 (q := 11) rfl ?_
    obtain ⟨r_5, hr_5, h⟩ := bnd h
    refine v_cV1I hG cvX7_finds ml_RX7_68 rfl kk_59 (w_X7_finds hr_5) (Nat.le_of_ble_eq_true rfl) dX7_person_11 (q := 14) rfl ?_
    exact v_iret hG hR rfl rfl (sp2t h) dX7_person_14
theorem cvX7_person : CVo mX7_person 1 7 := ⟨moX7_person, mvX7_person, by decide, _, _, rfl⟩
theorem w_X7_anybody_b4 {E : EB} {G : GB} (hG : Gd E mX7_anybody G) {M : Mem} {R : Int32} (hR : Rt E mX7_anybody (PI R M) G) {k4 : Int32 → Int32 → Int32 → Mem → Option (Int32)} (hk4 : ∀ (x1 : Int32) (x2 : Int32) (x3 : Int32) (M' : Mem), k4 x1 x2 x3 M' = some R → M' = M → V E G 4 [some (.ref 59), some (.int x1), some (.int x2), some (.int x3)] [] M') {x1 : Int32} {x2 : Int32} {x3 : Int32} (h : f_X7_anybody_b4 k4 x1 x2 x3 M = some R) : V E G 4 [some (.ref 59), some (.int x1), some (.int x2), some (.int x3)] [] M := by
  unfold f_X7_anybody_b4 at h
  refine v_iload_3 hG dX7_anybody_4 (q := 5) rfl ?_
  refine v_aload_0 hG dX7_anybody_5 (q := 6) rfl ?_
  refine gt_RX7_7 hG rfl kk_59 dX7_anybody_6 (q := 9) rfl ?_
  refine v_iconst hG ci_1 dX7_anybody_9 (q := 10) rfl ?_
  obtain ⟨c_1, h⟩ := ck_some h
  refine v_iald hG kk_60 rfl c_1 dX7_anybody_10 (q := 11) rfl ?_
  refine v_icmp_ge hG dX7_anybody_11 (tgt := 29) rfl (q := 14) rfl (fun hc => ?_) (fun hc => ?_)
  · replace h := ifp hc h
    refine v_iload_2 hG dX7_anybody_29 (q := 30) rfl ?_
    exact v_iret hG hR rfl rfl (sp1 h) dX7_anybody_30
  · replace h := ifn hc h
    refine v_iload_2 hG dX7_anybody_14 (q := 15) rfl ?_
    refine v_aload_0 hG dX7_anybody_15 (q := 16) rfl ?_
    refine v_iload_3 hG dX7_anybody_16 (q := 17) rfl ?_
    refine v_iload_1 hG dX7_anybody_17 (q := 18) rfl ?_
    obtain ⟨r_2, hr_2, h⟩ := bnd h
    refine v_cV2I hG cvX7_told ml_RX7_90 rfl kk_59 (w_X7_told hr_2) (Nat.le_of_ble_eq_true rfl) dX7_anybody_18 (q := 21) rfl ?_
    refine v_ior hG dX7_anybody_21 (q := 22) rfl ?_
    refine v_topi (fun x2_3 hy => ?_)
    replace h := letv_at hy h
    clear hy
    refine v_istore_2 hG rfl dX7_anybody_22 (q := 23) rfl ?_
    refine v_iinc_3 hG rfl dX7_anybody_23 (congrArg _ ci_1) (q := 26) rfl ?_
    refine v_goto hG dX7_anybody_26 (tgt := 4) rfl ?_
    exact hk4 _ _ _ _ h rfl
theorem w_X7_anybody_l4 {E : EB} {G : GB} (hG : Gd E mX7_anybody G) {M : Mem} {R : Int32} (hR : Rt E mX7_anybody (PI R M) G) : ∀ (n : Nat) (x1 : Int32) (x2 : Int32) (x3 : Int32) (M' : Mem), f_X7_anybody_l4 n x1 x2 x3 M' = some R → M' = M → V E G 4 [some (.ref 59), some (.int x1), some (.int x2), some (.int x3)] [] M' := by
  intro n
  induction n with
  | zero => intro x1 x2 x3 M' h; cases h
  | succ n ih => intro x1 x2 x3 M' h e; subst e; exact w_X7_anybody_b4 hG hR ih h
theorem w_X7_anybody {E : EB} {x1 : Int32} {M : Mem} {R : Int32} (h : f_X7_anybody x1 M = some R) : Mt E mX7_anybody [.ref 59, .int x1] M (PI R M) := by
  refine mt_of (L0 := [some (.ref 59), some (.int x1), none, none]) (by decide) rfl rfl (fun G hG hR => ?_)
  unfold f_X7_anybody at h
  refine v_iconst hG ci_0 dX7_anybody_0 (q := 1) rfl ?_
  refine v_istore_2 hG rfl dX7_anybody_1 (q := 2) rfl ?_
  refine v_iconst hG ci_0 dX7_anybody_2 (q := 3) rfl ?_
  refine v_istore_3 hG rfl dX7_anybody_3 (q := 4) rfl ?_
  exact w_X7_anybody_l4 hG hR FU _ _ _ _ h rfl
theorem cvX7_anybody : CVo mX7_anybody 1 7 := ⟨moX7_anybody, mvX7_anybody, by decide, _, _, rfl⟩
theorem w_X7_lies {E : EB} {x1 : Int32} {M : Mem} {R : Int32} (h : f_X7_lies x1 M = some R) : Mt E mX7_lies [.ref 59, .int x1] M (PI R M) := by
  refine mt_of (L0 := [some (.ref 59), some (.int x1)]) (by decide) rfl rfl (fun G hG hR => ?_)
  unfold f_X7_lies at h
  refine v_aload_0 hG dX7_lies_0 (q := 1) rfl ?_
  refine v_iload_1 hG dX7_lies_1 (q := 2) rfl ?_
  refine v_iconst hG ci_1 dX7_lies_2 (q := 3) rfl ?_
  obtain ⟨r_1, hr_1, h⟩ := bnd h
  refine v_cV2I hG cvX7_told ml_RX7_90 rfl kk_59 (w_X7_told hr_1) (Nat.le_of_ble_eq_true rfl) dX7_lies_3 (q := 6) rfl ?_
  refine v_aload_0 hG dX7_lies_6 (q := 7) rfl ?_
  refine v_iconst hG ci_0 dX7_lies_7 (q := 8) rfl ?_
  obtain ⟨r_2, hr_2, h⟩ := bnd h
  refine v_cV1I hG cvX7_anybody ml_RX7_93 rfl kk_59 (w_X7_anybody hr_2) (Nat.le_of_ble_eq_true rfl) dX7_lies_8 (q := 11) rfl ?_
  refine v_iconst hG ci_m1 dX7_lies_11 (q := 12) rfl ?_
  refine v_ixor hG dX7_lies_12 (q := 13) rfl ?_
  refine v_iand hG dX7_lies_13 (q := 14) rfl ?_
  exact v_iret hG hR rfl rfl (sp1 h) dX7_lies_14
theorem cvX7_lies : CVo mX7_lies 1 7 := ⟨moX7_lies, mvX7_lies, by decide, _, _, rfl⟩
theorem w_X7_of {E : EB} {x1 : Int32} {x2 : Int32} {M : Mem} {R : Int32 × Mem} (h : f_X7_of x1 x2 M = some R) : Mt E mX7_of [.ref 59, .int x1, .int x2] M (PI R.1 R.2) := by
  refine mt_of (L0 := [some (.ref 59), some (.int x1), some (.int x2)]) (by decide) rfl rfl (fun G hG hR => ?_)
  unfold f_X7_of at h
  refine v_aload_0 hG dX7_of_0 (q := 1) rfl ?_
  refine v_iload_1 hG dX7_of_1 (q := 2) rfl ?_
  obtain ⟨r_1, hr_1, h⟩ := bnd h
  refine v_cV1I hG cvX7_isPerson ml_RX7_96 rfl kk_59 (w_X7_isPerson hr_1) (Nat.le_of_ble_eq_true rfl) dX7_of_2 (q := 5) rfl ?_
  refine v_if_eq hG dX7_of_5 (tgt := 20) rfl (q := 8) rfl (fun hc => ?_) (fun hc => ?_)
  · replace h := ifp hc h
    refine v_aload_0 hG dX7_of_20 (q := 21) rfl ?_
    refine v_ldc hG kc_RX7_40 dX7_of_21 (q := 23) rfl ?_
    obtain ⟨r_2, hr_2, h⟩ := bnd h
    refine v_cV1I hG cvX7_finds ml_RX7_68 rfl kk_59 (w_X7_finds hr_2) (Nat.le_of_ble_eq_true rfl) dX7_of_23 (q := 26) rfl ?_
    exact v_iret hG hR rfl rfl (sp2t h) dX7_of_26
  · replace h := ifn hc h
    refine v_iload_2 hG dX7_of_8 (q := 9) rfl ?_
    refine v_i2l hG dX7_of_9 (q := 10) rfl ?_
    refine v_lconst hG cl_0 dX7_of_10 (q := 11) rfl ?_
    refine v_ldc2 hG kl_RX7_79 dX7_of_11 (q := 14) rfl ?_
    obtain ⟨r_3, hr_3, h⟩ := bnd h
    refine v_cS3I hG csX7_in ml_RX7_43 rfl (w_X7_in hr_3) (Nat.le_of_ble_eq_true rfl) dX7_of_14 (q := 17) rfl ?_
    refine v_if_ne hG dX7_of_17 (tgt := 27) rfl (q := 20) rfl (fun hc => ?_) (fun hc => ?_)
    · replace h := ifn hc h
      refine v_iload_2 hG dX7_of_27 (q := 28) rfl ?_
      refine v_iconst hG ci_5 dX7_of_28 (q := 29) rfl ?_
      refine v_icmp_ge hG dX7_of_29 (tgt := 41) rfl (q := 32) rfl (fun hc => ?_) (fun hc => ?_)
      · replace h := ifp hc h
        refine v_aload_0 hG dX7_of_41 (q := 42) rfl ?_
        refine v_iload_1 hG dX7_of_42 (q := 43) rfl ?_
        obtain ⟨r_4, hr_4, h⟩ := bnd h
        refine v_cV1I hG cvX7_lies ml_RX7_99 rfl kk_59 (w_X7_lies hr_4) (Nat.le_of_ble_eq_true rfl) dX7_of_43 (q := 46) rfl ?_
        exact v_iret hG hR rfl rfl (sp2t h) dX7_of_46
      · replace h := ifn hc h
        refine v_aload_0 hG dX7_of_32 (q := 33) rfl ?_
        refine v_iload_1 hG dX7_of_33 (q := 34) rfl ?_
        refine v_iload_2 hG dX7_of_34 (q := 35) rfl ?_
        obtain ⟨r_5, hr_5, h⟩ := bnd h
        refine v_cV2I hG cvX7_told ml_RX7_90 rfl kk_59 (w_X7_told hr_5) (Nat.le_of_ble_eq_true rfl) dX7_of_35 (q := 38) rfl ?_
        refine v_goto hG dX7_of_38 (tgt := 46) rfl ?_
        exact v_iret hG hR rfl rfl (sp2t h) dX7_of_46
    · replace h := ifp hc h
      refine v_aload_0 hG dX7_of_20 (q := 21) rfl ?_
      refine v_ldc hG kc_RX7_40 dX7_of_21 (q := 23) rfl ?_
      obtain ⟨r_6, hr_6, h⟩ := bnd h
      refine v_cV1I hG cvX7_finds ml_RX7_68 rfl kk_59 (w_X7_finds hr_6) (Nat.le_of_ble_eq_true rfl) dX7_of_23 (q := 26) rfl ?_
      exact v_iret hG hR rfl rfl (sp2t h) dX7_of_26
theorem cvX7_of : CVo mX7_of 2 7 := ⟨moX7_of, mvX7_of, by decide, _, _, rfl⟩
theorem w_X7_isPart {E : EB} {x1 : Int32} {x2 : Int32} {M : Mem} {R : Bool} (h : f_X7_isPart x1 x2 M = some R) : Mt E mX7_isPart [.ref 59, .int x1, .int x2] M (PI (b2i R) M) := by
  refine mt_of (L0 := [some (.ref 59), some (.int x1), some (.int x2)]) (by decide) rfl rfl (fun G hG hR => ?_)
  unfold f_X7_isPart at h
  refine v_iload_1 hG dX7_isPart_0 (q := 1) rfl ?_
  by_cases e0 : x1 = (0 : Int32)
  · refine v_tabIn hG dX7_isPart_1 (tgt := 32) (by rw [e0]; decide) (by rw [e0]; decide) (by rw [e0]; rfl) rfl ?_
    replace h := ifp e0 h
    refine v_iload_2 hG dX7_isPart_32 (q := 33) rfl ?_
    obtain ⟨r_1, hr_1, h⟩ := bnd h
    refine v_cS1I hG csX7_isSaying ml_RX7_60 rfl (w_X7_isSaying hr_1) (Nat.le_of_ble_eq_true rfl) dX7_isPart_33 (q := 36) rfl ?_
    exact v_iret hG hR rfl (b2i_nar _) (sp1b h) dX7_isPart_36
  replace h := ifn e0 h
  by_cases e1 : x1 = (1 : Int32)
  · refine v_tabIn hG dX7_isPart_1 (tgt := 32) (by rw [e1]; decide) (by rw [e1]; decide) (by rw [e1]; rfl) rfl ?_
    replace h := ifp e1 h
    refine v_iload_2 hG dX7_isPart_32 (q := 33) rfl ?_
    obtain ⟨r_2, hr_2, h⟩ := bnd h
    refine v_cS1I hG csX7_isSaying ml_RX7_60 rfl (w_X7_isSaying hr_2) (Nat.le_of_ble_eq_true rfl) dX7_isPart_33 (q := 36) rfl ?_
    exact v_iret hG hR rfl (b2i_nar _) (sp1b h) dX7_isPart_36
  replace h := ifn e1 h
  by_cases e2 : x1 = (2 : Int32)
  · refine v_tabIn hG dX7_isPart_1 (tgt := 37) (by rw [e2]; decide) (by rw [e2]; decide) (by rw [e2]; rfl) rfl ?_
    replace h := ifp e2 h
    refine v_aload_0 hG dX7_isPart_37 (q := 38) rfl ?_
    refine v_iload_2 hG dX7_isPart_38 (q := 39) rfl ?_
    obtain ⟨r_3, hr_3, h⟩ := bnd h
    refine v_cV1I hG cvX7_isWriter ml_RX7_76 rfl kk_59 (w_X7_isWriter hr_3) (Nat.le_of_ble_eq_true rfl) dX7_isPart_39 (q := 42) rfl ?_
    exact v_iret hG hR rfl (b2i_nar _) (sp1b h) dX7_isPart_42
  replace h := ifn e2 h
  by_cases e3 : x1 = (3 : Int32)
  · refine v_tabIn hG dX7_isPart_1 (tgt := 43) (by rw [e3]; decide) (by rw [e3]; decide) (by rw [e3]; rfl) rfl ?_
    replace h := ifp e3 h
    refine v_iload_2 hG dX7_isPart_43 (q := 44) rfl ?_
    refine v_i2l hG dX7_isPart_44 (q := 45) rfl ?_
    refine v_lconst hG cl_0 dX7_isPart_45 (q := 46) rfl ?_
    refine v_ldc2 hG kl_RX7_102 dX7_isPart_46 (q := 49) rfl ?_
    obtain ⟨r_4, hr_4, h⟩ := bnd h
    refine v_cS3I hG csX7_in ml_RX7_43 rfl (w_X7_in hr_4) (Nat.le_of_ble_eq_true rfl) dX7_isPart_49 (q := 52) rfl ?_
    exact v_iret hG hR rfl (b2i_nar _) (sp1b h) dX7_isPart_52
  replace h := ifn e3 h
  have u0 := sw_ne (n := 0) e0
  have u1 := sw_ne (n := 1) e1
  have u2 := sw_ne (n := 2) e2
  have u3 := sw_ne (n := 3) e3
  refine v_tabOut hG dX7_isPart_1 (tgt := 53) (by omega) rfl ?_
  refine v_iload_1 hG dX7_isPart_53 (q := 54) rfl ?_
  refine v_iconst hG ci_4 dX7_isPart_54 (q := 55) rfl ?_
  refine v_icmp_ne hG dX7_isPart_55 (tgt := 72) rfl (q := 58) rfl (fun hc => ?_) (fun hc => ?_)
  · replace h := ifn hc h
    refine v_iconst hG ci_0 dX7_isPart_72 (q := 73) rfl ?_
    exact v_iret hG hR rfl rfl (sp1b h) dX7_isPart_73
  · replace h := ifp hc h
    refine v_iload_2 hG dX7_isPart_58 (q := 59) rfl ?_
    refine v_i2l hG dX7_isPart_59 (q := 60) rfl ?_
    refine v_lconst hG cl_0 dX7_isPart_60 (q := 61) rfl ?_
    refine v_lconst hG cl_1 dX7_isPart_61 (q := 62) rfl ?_
    obtain ⟨r_5, hr_5, h⟩ := bnd h
    refine v_cS3I hG csX7_in ml_RX7_43 rfl (w_X7_in hr_5) (Nat.le_of_ble_eq_true rfl) dX7_isPart_62 (q := 65) rfl ?_
    refine v_if_eq hG dX7_isPart_65 (tgt := 72) rfl (q := 68) rfl (fun hc => ?_) (fun hc => ?_)
    · replace h := ifp hc h
      refine v_iconst hG ci_0 dX7_isPart_72 (q := 73) rfl ?_
      exact v_iret hG hR rfl rfl (sp1b h) dX7_isPart_73
    · replace h := ifn hc h
      refine v_iconst hG ci_1 dX7_isPart_68 (q := 69) rfl ?_
      refine v_goto hG dX7_isPart_69 (tgt := 73) rfl ?_
      exact v_iret hG hR rfl rfl (sp1b h) dX7_isPart_73
theorem cvX7_isPart : CVo mX7_isPart 2 7 := ⟨moX7_isPart, mvX7_isPart, by decide, _, _, rfl⟩
theorem w_X7_change {E : EB} {x1 : Int32} {x2 : Int32} {x3 : Int32} {M : Mem} {R : Int32 × Mem} (h : f_X7_change x1 x2 x3 M = some R) : Mt E mX7_change [.ref 59, .int x1, .int x2, .int x3] M (PI R.1 R.2) := by
  refine mt_of (L0 := [some (.ref 59), some (.int x1), some (.int x2), some (.int x3), none]) (by decide) rfl rfl (fun G hG hR => ?_)
  unfold f_X7_change at h
  refine v_aload_0 hG dX7_change_0 (q := 1) rfl ?_
  refine v_iload_1 hG dX7_change_1 (q := 2) rfl ?_
  obtain ⟨r_1, hr_1, h⟩ := bnd h
  refine v_cV1I hG cvX7_isPerson ml_RX7_96 rfl kk_59 (w_X7_isPerson hr_1) (Nat.le_of_ble_eq_true rfl) dX7_change_2 (q := 5) rfl ?_
  refine v_if_eq hG dX7_change_5 (tgt := 17) rfl (q := 8) rfl (fun hc => ?_) (fun hc => ?_)
  · replace h := ifp hc h
    refine v_aload_0 hG dX7_change_17 (q := 18) rfl ?_
    refine v_ldc hG kc_RX7_40 dX7_change_18 (q := 20) rfl ?_
    obtain ⟨r_2, hr_2, h⟩ := bnd h
    refine v_cV1I hG cvX7_finds ml_RX7_68 rfl kk_59 (w_X7_finds hr_2) (Nat.le_of_ble_eq_true rfl) dX7_change_20 (q := 23) rfl ?_
    exact v_iret hG hR rfl rfl (sp2t h) dX7_change_23
  · replace h := ifn hc h
    refine v_aload_0 hG dX7_change_8 (q := 9) rfl ?_
    refine v_iload_2 hG dX7_change_9 (q := 10) rfl ?_
    refine v_iload_3 hG dX7_change_10 (q := 11) rfl ?_
    obtain ⟨r_3, hr_3, h⟩ := bnd h
    refine v_cV2I hG cvX7_isPart ml_RX7_104 rfl kk_59 (w_X7_isPart hr_3) (Nat.le_of_ble_eq_true rfl) dX7_change_11 (q := 14) rfl ?_
    refine v_if_ne hG dX7_change_14 (tgt := 24) rfl (q := 17) rfl (fun hc => ?_) (fun hc => ?_)
    · replace h := ifn hc h
      refine v_aload_0 hG dX7_change_24 (q := 25) rfl ?_
      refine v_iload_1 hG dX7_change_25 (q := 26) rfl ?_
      refine v_iload_2 hG dX7_change_26 (q := 27) rfl ?_
      obtain ⟨r_4, hr_4, h⟩ := bnd h
      refine v_cV2I hG cvX7_told ml_RX7_90 rfl kk_59 (w_X7_told hr_4) (Nat.le_of_ble_eq_true rfl) dX7_change_27 (q := 30) rfl ?_
      refine v_istore_4 hG rfl dX7_change_30 (q := 32) rfl ?_
      refine v_aload_0 hG dX7_change_32 (q := 33) rfl ?_
      refine gt_RX7_7 hG rfl kk_59 dX7_change_33 (q := 36) rfl ?_
      refine v_iload_1 hG dX7_change_36 (q := 37) rfl ?_
      refine v_iload_2 hG dX7_change_37 (q := 38) rfl ?_
      obtain ⟨r_5, hr_5, h⟩ := bnd h
      refine v_cS2I hG csX7_where ml_RX7_84 rfl (w_X7_where hr_5) (Nat.le_of_ble_eq_true rfl) dX7_change_38 (q := 41) rfl ?_
      refine v_iload_3 hG dX7_change_41 (q := 42) rfl ?_
      obtain ⟨c_6, h⟩ := ck_some h
      refine v_iast hG kk_60 rfl c_6 dX7_change_42 (q := 43) rfl ?_
      refine v_topM (fun M_7 hy => ?_)
      replace h := letv_at hy h
      clear hy
      refine v_iload_4 hG dX7_change_43 (q := 45) rfl ?_
      exact v_iret hG hR rfl rfl (sp2t h) dX7_change_45
    · replace h := ifp hc h
      refine v_aload_0 hG dX7_change_17 (q := 18) rfl ?_
      refine v_ldc hG kc_RX7_40 dX7_change_18 (q := 20) rfl ?_
      obtain ⟨r_8, hr_8, h⟩ := bnd h
      refine v_cV1I hG cvX7_finds ml_RX7_68 rfl kk_59 (w_X7_finds hr_8) (Nat.le_of_ble_eq_true rfl) dX7_change_20 (q := 23) rfl ?_
      exact v_iret hG hR rfl rfl (sp2t h) dX7_change_23
theorem cvX7_change : CVo mX7_change 3 7 := ⟨moX7_change, mvX7_change, by decide, _, _, rfl⟩
theorem w_X7_isTwo {E : EB} {x1 : Int32} {x2 : Int32} {M : Mem} {R : Bool} (h : f_X7_isTwo x1 x2 M = some R) : Mt E mX7_isTwo [.ref 59, .int x1, .int x2] M (PI (b2i R) M) := by
  refine mt_of (L0 := [some (.ref 59), some (.int x1), some (.int x2)]) (by decide) rfl rfl (fun G hG hR => ?_)
  unfold f_X7_isTwo at h
  refine v_aload_0 hG dX7_isTwo_0 (q := 1) rfl ?_
  refine v_iload_1 hG dX7_isTwo_1 (q := 2) rfl ?_
  obtain ⟨r_1, hr_1, h⟩ := bnd h
  refine v_cV1I hG cvX7_isPerson ml_RX7_96 rfl kk_59 (w_X7_isPerson hr_1) (Nat.le_of_ble_eq_true rfl) dX7_isTwo_2 (q := 5) rfl ?_
  refine v_if_eq hG dX7_isTwo_5 (tgt := 25) rfl (q := 8) rfl (fun hc => ?_) (fun hc => ?_)
  · replace h := ifp hc h
    refine v_iconst hG ci_0 dX7_isTwo_25 (q := 26) rfl ?_
    exact v_iret hG hR rfl rfl (sp1b h) dX7_isTwo_26
  · replace h := ifn hc h
    refine v_aload_0 hG dX7_isTwo_8 (q := 9) rfl ?_
    refine v_iload_2 hG dX7_isTwo_9 (q := 10) rfl ?_
    obtain ⟨r_2, hr_2, h⟩ := bnd h
    refine v_cV1I hG cvX7_isPerson ml_RX7_96 rfl kk_59 (w_X7_isPerson hr_2) (Nat.le_of_ble_eq_true rfl) dX7_isTwo_10 (q := 13) rfl ?_
    refine v_if_eq hG dX7_isTwo_13 (tgt := 25) rfl (q := 16) rfl (fun hc => ?_) (fun hc => ?_)
    · replace h := ifp hc h
      refine v_iconst hG ci_0 dX7_isTwo_25 (q := 26) rfl ?_
      exact v_iret hG hR rfl rfl (sp1b h) dX7_isTwo_26
    · replace h := ifn hc h
      refine v_iload_1 hG dX7_isTwo_16 (q := 17) rfl ?_
      refine v_iload_2 hG dX7_isTwo_17 (q := 18) rfl ?_
      refine v_icmp_eq hG dX7_isTwo_18 (tgt := 25) rfl (q := 21) rfl (fun hc => ?_) (fun hc => ?_)
      · replace h := ifp hc h
        refine v_iconst hG ci_0 dX7_isTwo_25 (q := 26) rfl ?_
        exact v_iret hG hR rfl rfl (sp1b h) dX7_isTwo_26
      · replace h := ifn hc h
        refine v_iconst hG ci_1 dX7_isTwo_21 (q := 22) rfl ?_
        refine v_goto hG dX7_isTwo_22 (tgt := 26) rfl ?_
        exact v_iret hG hR rfl rfl (sp1b h) dX7_isTwo_26
theorem cvX7_isTwo : CVo mX7_isTwo 2 7 := ⟨moX7_isTwo, mvX7_isTwo, by decide, _, _, rfl⟩
theorem w_X7_joins_j43 {E : EB} {G : GB} (hG : Gd E mX7_joins G) {M : Mem} {R : Mem} (hR : Rt E mX7_joins (PV R) G) {x1 : Int32} {x2 : Int32} {x3 : Int32} {t1 : Int32} {t2 : Int32} (h : f_X7_joins_j43 x1 x2 x3 t1 t2 M = some R) : V E G 43 [some (.ref 59), some (.int x1), some (.int x2), some (.int x3)] [.int t2, .int t1, .ref 60] M := by
  unfold f_X7_joins_j43 at h
  obtain ⟨c_3, h⟩ := ck_some h
  refine v_iast hG kk_60 rfl c_3 dX7_joins_43 (q := 44) rfl ?_
  refine v_topM (fun M_4 hy => ?_)
  replace h := letv_at hy h
  clear hy
  refine v_aload_0 hG dX7_joins_44 (q := 45) rfl ?_
  refine gt_RX7_7 hG rfl kk_59 dX7_joins_45 (q := 48) rfl ?_
  refine v_bipush hG cb_81 dX7_joins_48 (q := 50) rfl ?_
  refine v_iload_2 hG dX7_joins_50 (q := 51) rfl ?_
  refine v_iadd hG dX7_joins_51 (q := 52) rfl ?_
  refine v_iload_3 hG dX7_joins_52 (q := 53) rfl ?_
  refine v_if_eq hG dX7_joins_53 (tgt := 72) rfl (q := 56) rfl (fun hc => ?_) (fun hc => ?_)
  · replace h := ifp hc h
    refine v_aload_0 hG dX7_joins_72 (q := 73) rfl ?_
    refine gt_RX7_7 hG rfl kk_59 dX7_joins_73 (q := 76) rfl ?_
    refine v_bipush hG cb_81 dX7_joins_76 (q := 78) rfl ?_
    refine v_iload_2 hG dX7_joins_78 (q := 79) rfl ?_
    refine v_iadd hG dX7_joins_79 (q := 80) rfl ?_
    obtain ⟨c_5, h⟩ := ck_some h
    refine v_iald hG kk_60 rfl c_5 dX7_joins_80 (q := 81) rfl ?_
    refine v_iconst hG ci_1 dX7_joins_81 (q := 82) rfl ?_
    refine v_iload_1 hG dX7_joins_82 (q := 83) rfl ?_
    refine v_ishl hG dX7_joins_83 (q := 84) rfl ?_
    refine v_iconst hG ci_m1 dX7_joins_84 (q := 85) rfl ?_
    refine v_ixor hG dX7_joins_85 (q := 86) rfl ?_
    refine v_iand hG dX7_joins_86 (q := 87) rfl ?_
    obtain ⟨c_6, h⟩ := ck_some h
    refine v_iast hG kk_60 rfl c_6 dX7_joins_87 (q := 88) rfl ?_
    refine v_topM (fun M_7 hy => ?_)
    replace h := letv_at hy h
    clear hy
    exact v_vret hG hR rfl (spv h) dX7_joins_88
  · replace h := ifn hc h
    refine v_aload_0 hG dX7_joins_56 (q := 57) rfl ?_
    refine gt_RX7_7 hG rfl kk_59 dX7_joins_57 (q := 60) rfl ?_
    refine v_bipush hG cb_81 dX7_joins_60 (q := 62) rfl ?_
    refine v_iload_2 hG dX7_joins_62 (q := 63) rfl ?_
    refine v_iadd hG dX7_joins_63 (q := 64) rfl ?_
    obtain ⟨c_8, h⟩ := ck_some h
    refine v_iald hG kk_60 rfl c_8 dX7_joins_64 (q := 65) rfl ?_
    refine v_iconst hG ci_1 dX7_joins_65 (q := 66) rfl ?_
    refine v_iload_1 hG dX7_joins_66 (q := 67) rfl ?_
    refine v_ishl hG dX7_joins_67 (q := 68) rfl ?_
    refine v_ior hG dX7_joins_68 (q := 69) rfl ?_
    refine v_goto hG dX7_joins_69 (tgt := 87) rfl ?_
    obtain ⟨c_9, h⟩ := ck_some h
    refine v_iast hG kk_60 rfl c_9 dX7_joins_87 (q := 88) rfl ?_
    refine v_topM (fun M_10 hy => ?_)
    replace h := letv_at hy h
    clear hy
    exact v_vret hG hR rfl (spv h) dX7_joins_88
theorem w_X7_joins {E : EB} {x1 : Int32} {x2 : Int32} {x3 : Int32} {M : Mem} {R : Mem} (h : f_X7_joins x1 x2 x3 M = some R) : Mt E mX7_joins [.ref 59, .int x1, .int x2, .int x3] M (PV R) := by
  refine mt_of (L0 := [some (.ref 59), some (.int x1), some (.int x2), some (.int x3)]) (by decide) rfl rfl (fun G hG hR => ?_)
  unfold f_X7_joins at h
  refine v_aload_0 hG dX7_joins_0 (q := 1) rfl ?_
  refine gt_RX7_7 hG rfl kk_59 dX7_joins_1 (q := 4) rfl ?_
  refine v_bipush hG cb_81 dX7_joins_4 (q := 6) rfl ?_
  refine v_iload_1 hG dX7_joins_6 (q := 7) rfl ?_
  refine v_iadd hG dX7_joins_7 (q := 8) rfl ?_
  refine v_iload_3 hG dX7_joins_8 (q := 9) rfl ?_
  refine v_if_eq hG dX7_joins_9 (tgt := 28) rfl (q := 12) rfl (fun hc => ?_) (fun hc => ?_)
  · replace h := ifp hc h
    refine v_aload_0 hG dX7_joins_28 (q := 29) rfl ?_
    refine gt_RX7_7 hG rfl kk_59 dX7_joins_29 (q := 32) rfl ?_
    refine v_bipush hG cb_81 dX7_joins_32 (q := 34) rfl ?_
    refine v_iload_1 hG dX7_joins_34 (q := 35) rfl ?_
    refine v_iadd hG dX7_joins_35 (q := 36) rfl ?_
    obtain ⟨c_1, h⟩ := ck_some h
    refine v_iald hG kk_60 rfl c_1 dX7_joins_36 (q := 37) rfl ?_
    refine v_iconst hG ci_1 dX7_joins_37 (q := 38) rfl ?_
    refine v_iload_2 hG dX7_joins_38 (q := 39) rfl ?_
    refine v_ishl hG dX7_joins_39 (q := 40) rfl ?_
    refine v_iconst hG ci_m1 dX7_joins_40 (q := 41) rfl ?_
    refine v_ixor hG dX7_joins_41 (q := 42) rfl ?_
    refine v_iand hG dX7_joins_42 (q := 43) rfl ?_
    exact w_X7_joins_j43 hG hR h
  · replace h := ifn hc h
    refine v_aload_0 hG dX7_joins_12 (q := 13) rfl ?_
    refine gt_RX7_7 hG rfl kk_59 dX7_joins_13 (q := 16) rfl ?_
    refine v_bipush hG cb_81 dX7_joins_16 (q := 18) rfl ?_
    refine v_iload_1 hG dX7_joins_18 (q := 19) rfl ?_
    refine v_iadd hG dX7_joins_19 (q := 20) rfl ?_
    obtain ⟨c_2, h⟩ := ck_some h
    refine v_iald hG kk_60 rfl c_2 dX7_joins_20 (q := 21) rfl ?_
    refine v_iconst hG ci_1 dX7_joins_21 (q := 22) rfl ?_
    refine v_iload_2 hG dX7_joins_22 (q := 23) rfl ?_
    refine v_ishl hG dX7_joins_23 (q := 24) rfl ?_
    refine v_ior hG dX7_joins_24 (q := 25) rfl ?_
    refine v_goto hG dX7_joins_25 (tgt := 43) rfl ?_
    exact w_X7_joins_j43 hG hR h
theorem cvX7_joins : CVo mX7_joins 3 7 := ⟨moX7_joins, mvX7_joins, by decide, _, _, rfl⟩
theorem w_X7_tie {E : EB} {x1 : Int32} {x2 : Int32} {x3 : Int32} {M : Mem} {R : Int32 × Mem} (h : f_X7_tie x1 x2 x3 M = some R) : Mt E mX7_tie [.ref 59, .int x1, .int x2, .int x3] M (PI R.1 R.2) := by
  refine mt_of (L0 := [some (.ref 59), some (.int x1), some (.int x2), some (.int x3), none]) (by decide) rfl rfl (fun G hG hR => ?_)
  unfold f_X7_tie at h
  refine v_aload_0 hG dX7_tie_0 (q := 1) rfl ?_
  refine v_iload_1 hG dX7_tie_1 (q := 2) rfl ?_
  refine v_iload_2 hG dX7_tie_2 (q := 3) rfl ?_
  obtain ⟨r_1, hr_1, h⟩ := bnd h
  refine v_cV2I hG cvX7_isTwo ml_RX7_107 rfl kk_59 (w_X7_isTwo hr_1) (Nat.le_of_ble_eq_true rfl) dX7_tie_3 (q := 6) rfl ?_
  refine v_if_ne hG dX7_tie_6 (tgt := 16) rfl (q := 9) rfl (fun hc => ?_) (fun hc => ?_)
  · replace h := ifn hc h
    refine v_aload_0 hG dX7_tie_16 (q := 17) rfl ?_
    refine gt_RX7_7 hG rfl kk_59 dX7_tie_17 (q := 20) rfl ?_
    refine v_bipush hG cb_81 dX7_tie_20 (q := 22) rfl ?_
    refine v_iload_1 hG dX7_tie_22 (q := 23) rfl ?_
    refine v_iadd hG dX7_tie_23 (q := 24) rfl ?_
    obtain ⟨c_2, h⟩ := ck_some h
    refine v_iald hG kk_60 rfl c_2 dX7_tie_24 (q := 25) rfl ?_
    refine v_iload_2 hG dX7_tie_25 (q := 26) rfl ?_
    obtain ⟨r_3, hr_3, h⟩ := bnd h
    refine v_cS2I hG csX7_has ml_RX7_110 rfl (w_X7_has hr_3) (Nat.le_of_ble_eq_true rfl) dX7_tie_26 (q := 29) rfl ?_
    refine v_if_eq hG dX7_tie_29 (tgt := 36) rfl (q := 32) rfl (fun hc => ?_) (fun hc => ?_)
    · replace h := ifp hc h
      refine v_iconst hG ci_0 dX7_tie_36 (q := 37) rfl ?_
      refine v_istore_4 hG rfl dX7_tie_37 (q := 39) rfl ?_
      refine v_aload_0 hG dX7_tie_39 (q := 40) rfl ?_
      refine v_iload_1 hG dX7_tie_40 (q := 41) rfl ?_
      refine v_iload_2 hG dX7_tie_41 (q := 42) rfl ?_
      refine v_iload_3 hG dX7_tie_42 (q := 43) rfl ?_
      obtain ⟨r_4, hr_4, h⟩ := bnd h
      refine v_cV3V hG cvX7_joins ml_RX7_113 rfl kk_59 (w_X7_joins hr_4) (Nat.le_of_ble_eq_true rfl) dX7_tie_43 (q := 46) rfl ?_
      refine v_iload_4 hG dX7_tie_46 (q := 48) rfl ?_
      exact v_iret hG hR rfl rfl (sp2t h) dX7_tie_48
    · replace h := ifn hc h
      refine v_iconst hG ci_1 dX7_tie_32 (q := 33) rfl ?_
      refine v_goto hG dX7_tie_33 (tgt := 37) rfl ?_
      refine v_istore_4 hG rfl dX7_tie_37 (q := 39) rfl ?_
      refine v_aload_0 hG dX7_tie_39 (q := 40) rfl ?_
      refine v_iload_1 hG dX7_tie_40 (q := 41) rfl ?_
      refine v_iload_2 hG dX7_tie_41 (q := 42) rfl ?_
      refine v_iload_3 hG dX7_tie_42 (q := 43) rfl ?_
      obtain ⟨r_5, hr_5, h⟩ := bnd h
      refine v_cV3V hG cvX7_joins ml_RX7_113 rfl kk_59 (w_X7_joins hr_5) (Nat.le_of_ble_eq_true rfl) dX7_tie_43 (q := 46) rfl ?_
      refine v_iload_4 hG dX7_tie_46 (q := 48) rfl ?_
      exact v_iret hG hR rfl rfl (sp2t h) dX7_tie_48
  · replace h := ifp hc h
    refine v_aload_0 hG dX7_tie_9 (q := 10) rfl ?_
    refine v_ldc hG kc_RX7_40 dX7_tie_10 (q := 12) rfl ?_
    obtain ⟨r_6, hr_6, h⟩ := bnd h
    refine v_cV1I hG cvX7_finds ml_RX7_68 rfl kk_59 (w_X7_finds hr_6) (Nat.le_of_ble_eq_true rfl) dX7_tie_12 (q := 15) rfl ?_
    exact v_iret hG hR rfl rfl (sp2t h) dX7_tie_15
theorem cvX7_tie : CVo mX7_tie 3 7 := ⟨moX7_tie, mvX7_tie, by decide, _, _, rfl⟩
theorem w_X7_ties {E : EB} {x1 : Int32} {M : Mem} {R : Int32 × Mem} (h : f_X7_ties x1 M = some R) : Mt E mX7_ties [.ref 59, .int x1] M (PI R.1 R.2) := by
  refine mt_of (L0 := [some (.ref 59), some (.int x1)]) (by decide) rfl rfl (fun G hG hR => ?_)
  unfold f_X7_ties at h
  refine v_aload_0 hG dX7_ties_0 (q := 1) rfl ?_
  refine v_iload_1 hG dX7_ties_1 (q := 2) rfl ?_
  obtain ⟨r_1, hr_1, h⟩ := bnd h
  refine v_cV1I hG cvX7_isPerson ml_RX7_96 rfl kk_59 (w_X7_isPerson hr_1) (Nat.le_of_ble_eq_true rfl) dX7_ties_2 (q := 5) rfl ?_
  refine v_if_eq hG dX7_ties_5 (tgt := 20) rfl (q := 8) rfl (fun hc => ?_) (fun hc => ?_)
  · replace h := ifp hc h
    refine v_aload_0 hG dX7_ties_20 (q := 21) rfl ?_
    refine v_ldc hG kc_RX7_40 dX7_ties_21 (q := 23) rfl ?_
    obtain ⟨r_2, hr_2, h⟩ := bnd h
    refine v_cV1I hG cvX7_finds ml_RX7_68 rfl kk_59 (w_X7_finds hr_2) (Nat.le_of_ble_eq_true rfl) dX7_ties_23 (q := 26) rfl ?_
    exact v_iret hG hR rfl rfl (sp2t h) dX7_ties_26
  · replace h := ifn hc h
    refine v_aload_0 hG dX7_ties_8 (q := 9) rfl ?_
    refine gt_RX7_7 hG rfl kk_59 dX7_ties_9 (q := 12) rfl ?_
    refine v_bipush hG cb_81 dX7_ties_12 (q := 14) rfl ?_
    refine v_iload_1 hG dX7_ties_14 (q := 15) rfl ?_
    refine v_iadd hG dX7_ties_15 (q := 16) rfl ?_
    obtain ⟨c_3, h⟩ := ck_some h
    refine v_iald hG kk_60 rfl c_3 dX7_ties_16 (q := 17) rfl ?_
    refine v_goto hG dX7_ties_17 (tgt := 26) rfl ?_
    exact v_iret hG hR rfl rfl (sp2t h) dX7_ties_26
theorem cvX7_ties : CVo mX7_ties 1 7 := ⟨moX7_ties, mvX7_ties, by decide, _, _, rfl⟩
theorem w_X7_leastOf_b7 {E : EB} {G : GB} (hG : Gd E mX7_leastOf G) {M : Mem} {R : Int32} (hR : Rt E mX7_leastOf (PI R M) G) {k7 : Int32 → Int32 → Int32 → Int32 → Mem → Option (Int32)} (hk7 : ∀ (x1 : Int32) (x2 : Int32) (x3 : Int32) (x4 : Int32) (M' : Mem), k7 x1 x2 x3 x4 M' = some R → M' = M → V E G 7 [none, some (.int x1), some (.int x2), some (.int x3), some (.int x4)] [] M') {x1 : Int32} {x2 : Int32} {x3 : Int32} {x4 : Int32} (h : f_X7_leastOf_b7 k7 x1 x2 x3 x4 M = some R) : V E G 7 [none, some (.int x1), some (.int x2), some (.int x3), some (.int x4)] [] M := by
  unfold f_X7_leastOf_b7 at h
  refine v_iload_4 hG dX7_leastOf_7 (q := 9) rfl ?_
  refine v_iload_1 hG dX7_leastOf_9 (q := 10) rfl ?_
  refine v_icmp_ge hG dX7_leastOf_10 (tgt := 37) rfl (q := 13) rfl (fun hc => ?_) (fun hc => ?_)
  · replace h := ifp hc h
    refine v_iload_3 hG dX7_leastOf_37 (q := 38) rfl ?_
    exact v_iret hG hR rfl rfl (sp1 h) dX7_leastOf_38
  · replace h := ifn hc h
    refine v_iload_2 hG dX7_leastOf_13 (q := 14) rfl ?_
    refine v_if_eq hG dX7_leastOf_14 (tgt := 37) rfl (q := 17) rfl (fun hc => ?_) (fun hc => ?_)
    · replace h := ifp hc h
      refine v_iload_3 hG dX7_leastOf_37 (q := 38) rfl ?_
      exact v_iret hG hR rfl rfl (sp1 h) dX7_leastOf_38
    · replace h := ifn hc h
      refine v_iload_3 hG dX7_leastOf_17 (q := 18) rfl ?_
      refine v_iload_2 hG dX7_leastOf_18 (q := 19) rfl ?_
      refine v_iconst hG ci_0 dX7_leastOf_19 (q := 20) rfl ?_
      refine v_iload_2 hG dX7_leastOf_20 (q := 21) rfl ?_
      refine v_isub hG dX7_leastOf_21 (q := 22) rfl ?_
      refine v_iand hG dX7_leastOf_22 (q := 23) rfl ?_
      refine v_ior hG dX7_leastOf_23 (q := 24) rfl ?_
      refine v_topi (fun x3_1 hy => ?_)
      replace h := letv_at hy h
      clear hy
      refine v_istore_3 hG rfl dX7_leastOf_24 (q := 25) rfl ?_
      refine v_iload_2 hG dX7_leastOf_25 (q := 26) rfl ?_
      refine v_iload_2 hG dX7_leastOf_26 (q := 27) rfl ?_
      refine v_iconst hG ci_1 dX7_leastOf_27 (q := 28) rfl ?_
      refine v_isub hG dX7_leastOf_28 (q := 29) rfl ?_
      refine v_iand hG dX7_leastOf_29 (q := 30) rfl ?_
      refine v_topi (fun x2_2 hy => ?_)
      replace h := letv_at hy h
      clear hy
      refine v_istore_2 hG rfl dX7_leastOf_30 (q := 31) rfl ?_
      refine v_iinc_4 hG rfl dX7_leastOf_31 (congrArg _ ci_1) (q := 34) rfl ?_
      refine v_goto hG dX7_leastOf_34 (tgt := 7) rfl ?_
      exact hk7 _ _ _ _ _ h rfl
theorem w_X7_leastOf_l7 {E : EB} {G : GB} (hG : Gd E mX7_leastOf G) {M : Mem} {R : Int32} (hR : Rt E mX7_leastOf (PI R M) G) : ∀ (n : Nat) (x1 : Int32) (x2 : Int32) (x3 : Int32) (x4 : Int32) (M' : Mem), f_X7_leastOf_l7 n x1 x2 x3 x4 M' = some R → M' = M → V E G 7 [none, some (.int x1), some (.int x2), some (.int x3), some (.int x4)] [] M' := by
  intro n
  induction n with
  | zero => intro x1 x2 x3 x4 M' h; cases h
  | succ n ih => intro x1 x2 x3 x4 M' h e; subst e; exact w_X7_leastOf_b7 hG hR ih h
theorem w_X7_leastOf {E : EB} {x0 : Int32} {x1 : Int32} {M : Mem} {R : Int32} (h : f_X7_leastOf x0 x1 M = some R) : Mt E mX7_leastOf [.int x0, .int x1] M (PI R M) := by
  refine mt_of (L0 := [some (.int x0), some (.int x1), none, none, none]) (by decide) rfl rfl (fun G hG hR => ?_)
  unfold f_X7_leastOf at h
  refine v_iload_0 hG dX7_leastOf_0 (q := 1) rfl ?_
  refine v_istore_2 hG rfl dX7_leastOf_1 (q := 2) rfl ?_
  refine v_iconst hG ci_0 dX7_leastOf_2 (q := 3) rfl ?_
  refine v_istore_3 hG rfl dX7_leastOf_3 (q := 4) rfl ?_
  refine v_iconst hG ci_0 dX7_leastOf_4 (q := 5) rfl ?_
  refine v_istore_4 hG rfl dX7_leastOf_5 (q := 7) rfl ?_
  refine v_drop (n := 0) (L' := [none, some (.int x1), some (.int x0), some (.int (0 : Int32)), some (.int (0 : Int32))]) rfl ?_
  exact w_X7_leastOf_l7 hG hR FU _ _ _ _ _ h rfl
theorem csX7_leastOf : CSo mX7_leastOf 2 := ⟨moX7_leastOf, msX7_leastOf⟩
theorem w_X7_plainOf {E : EB} {x1 : Int32} {x2 : Int32} {M : Mem} {R : Int32} (h : f_X7_plainOf x1 x2 M = some R) : Mt E mX7_plainOf [.ref 59, .int x1, .int x2] M (PI R M) := by
  refine mt_of (L0 := [some (.ref 59), some (.int x1), some (.int x2)]) (by decide) rfl rfl (fun G hG hR => ?_)
  unfold f_X7_plainOf at h
  refine v_iload_2 hG dX7_plainOf_0 (q := 1) rfl ?_
  refine v_aload_0 hG dX7_plainOf_1 (q := 2) rfl ?_
  refine v_iload_1 hG dX7_plainOf_2 (q := 3) rfl ?_
  refine v_iconst hG ci_1 dX7_plainOf_3 (q := 4) rfl ?_
  obtain ⟨r_1, hr_1, h⟩ := bnd h
  refine v_cV2I hG cvX7_its ml_RX7_81 rfl kk_59 (w_X7_its hr_1) (Nat.le_of_ble_eq_true rfl) dX7_plainOf_4 (q := 7) rfl ?_
  refine v_iconst hG ci_m1 dX7_plainOf_7 (q := 8) rfl ?_
  refine v_ixor hG dX7_plainOf_8 (q := 9) rfl ?_
  refine v_iand hG dX7_plainOf_9 (q := 10) rfl ?_
  refine v_iload_2 hG dX7_plainOf_10 (q := 11) rfl ?_
  refine v_aload_0 hG dX7_plainOf_11 (q := 12) rfl ?_
  refine v_iload_1 hG dX7_plainOf_12 (q := 13) rfl ?_
  refine v_iconst hG ci_3 dX7_plainOf_13 (q := 14) rfl ?_
  obtain ⟨r_2, hr_2, h⟩ := bnd h
  refine v_cV2I hG cvX7_its ml_RX7_81 rfl kk_59 (w_X7_its hr_2) (Nat.le_of_ble_eq_true rfl) dX7_plainOf_14 (q := 17) rfl ?_
  refine v_iand hG dX7_plainOf_17 (q := 18) rfl ?_
  refine v_if_eq hG dX7_plainOf_18 (tgt := 30) rfl (q := 21) rfl (fun hc => ?_) (fun hc => ?_)
  · replace h := ifp hc h
    refine v_iconst hG ci_0 dX7_plainOf_30 (q := 31) rfl ?_
    refine v_ior hG dX7_plainOf_31 (q := 32) rfl ?_
    exact v_iret hG hR rfl rfl (sp1 h) dX7_plainOf_32
  · replace h := ifn hc h
    refine v_aload_0 hG dX7_plainOf_21 (q := 22) rfl ?_
    refine v_iload_1 hG dX7_plainOf_22 (q := 23) rfl ?_
    refine v_iconst hG ci_2 dX7_plainOf_23 (q := 24) rfl ?_
    obtain ⟨r_3, hr_3, h⟩ := bnd h
    refine v_cV2I hG cvX7_its ml_RX7_81 rfl kk_59 (w_X7_its hr_3) (Nat.le_of_ble_eq_true rfl) dX7_plainOf_24 (q := 27) rfl ?_
    refine v_goto hG dX7_plainOf_27 (tgt := 31) rfl ?_
    refine v_ior hG dX7_plainOf_31 (q := 32) rfl ?_
    exact v_iret hG hR rfl rfl (sp1 h) dX7_plainOf_32
theorem cvX7_plainOf : CVo mX7_plainOf 2 7 := ⟨moX7_plainOf, mvX7_plainOf, by decide, _, _, rfl⟩
theorem w_X7_softened {E : EB} {x0 : Int32} {M : Mem} {R : Int32} (h : f_X7_softened x0 M = some R) : Mt E mX7_softened [.int x0] M (PI R M) := by
  refine mt_of (L0 := [some (.int x0)]) (by decide) rfl rfl (fun G hG hR => ?_)
  unfold f_X7_softened at h
  refine v_iload_0 hG dX7_softened_0 (q := 1) rfl ?_
  refine v_sipush hG cs_255 dX7_softened_1 (q := 4) rfl ?_
  refine v_iand hG dX7_softened_4 (q := 5) rfl ?_
  refine v_iload_0 hG dX7_softened_5 (q := 6) rfl ?_
  refine v_bipush hG cb_8 dX7_softened_6 (q := 8) rfl ?_
  refine v_ishr hG dX7_softened_8 (q := 9) rfl ?_
  refine v_iconst hG ci_4 dX7_softened_9 (q := 10) rfl ?_
  refine v_ishl hG dX7_softened_10 (q := 11) rfl ?_
  refine v_ior hG dX7_softened_11 (q := 12) rfl ?_
  exact v_iret hG hR rfl rfl (sp1 h) dX7_softened_12
theorem csX7_softened : CSo mX7_softened 1 := ⟨moX7_softened, msX7_softened⟩
theorem w_X7_putBy {E : EB} {x1 : Int32} {x2 : Int32} {M : Mem} {R : Int32} (h : f_X7_putBy x1 x2 M = some R) : Mt E mX7_putBy [.ref 59, .int x1, .int x2] M (PI R M) := by
  refine mt_of (L0 := [some (.ref 59), some (.int x1), some (.int x2), none]) (by decide) rfl rfl (fun G hG hR => ?_)
  unfold f_X7_putBy at h
  refine v_aload_0 hG dX7_putBy_0 (q := 1) rfl ?_
  refine v_iload_1 hG dX7_putBy_1 (q := 2) rfl ?_
  refine v_iload_2 hG dX7_putBy_2 (q := 3) rfl ?_
  obtain ⟨r_1, hr_1, h⟩ := bnd h
  refine v_cV2I hG cvX7_plainOf ml_RX7_117 rfl kk_59 (w_X7_plainOf hr_1) (Nat.le_of_ble_eq_true rfl) dX7_putBy_3 (q := 6) rfl ?_
  refine v_istore_3 hG rfl dX7_putBy_6 (q := 7) rfl ?_
  refine v_aload_0 hG dX7_putBy_7 (q := 8) rfl ?_
  refine v_iload_1 hG dX7_putBy_8 (q := 9) rfl ?_
  refine v_iconst hG ci_0 dX7_putBy_9 (q := 10) rfl ?_
  obtain ⟨r_2, hr_2, h⟩ := bnd h
  refine v_cV2I hG cvX7_its ml_RX7_81 rfl kk_59 (w_X7_its hr_2) (Nat.le_of_ble_eq_true rfl) dX7_putBy_10 (q := 13) rfl ?_
  by_cases e0 : r_2 = (1 : Int32)
  · refine v_tabIn hG dX7_putBy_13 (tgt := 52) (by rw [e0]; decide) (by rw [e0]; decide) (by rw [e0]; rfl) rfl ?_
    replace h := ifp e0 h
    refine v_iload_3 hG dX7_putBy_52 (q := 53) rfl ?_
    obtain ⟨r_3, hr_3, h⟩ := bnd h
    refine v_cS1I hG csX7_softened ml_RX7_120 rfl (w_X7_softened hr_3) (Nat.le_of_ble_eq_true rfl) dX7_putBy_53 (q := 56) rfl ?_
    exact v_iret hG hR rfl rfl (sp1 h) dX7_putBy_56
  replace h := ifn e0 h
  by_cases e1 : r_2 = (2 : Int32)
  · refine v_tabIn hG dX7_putBy_13 (tgt := 57) (by rw [e1]; decide) (by rw [e1]; decide) (by rw [e1]; rfl) rfl ?_
    replace h := ifp e1 h
    refine v_iload_3 hG dX7_putBy_57 (q := 58) rfl ?_
    refine v_iconst hG ci_4 dX7_putBy_58 (q := 59) rfl ?_
    obtain ⟨r_4, hr_4, h⟩ := bnd h
    refine v_cS2I hG csX7_leastOf ml_RX7_123 rfl (w_X7_leastOf hr_4) (Nat.le_of_ble_eq_true rfl) dX7_putBy_59 (q := 62) rfl ?_
    exact v_iret hG hR rfl rfl (sp1 h) dX7_putBy_62
  replace h := ifn e1 h
  by_cases e2 : r_2 = (3 : Int32)
  · refine v_tabIn hG dX7_putBy_13 (tgt := 63) (by rw [e2]; decide) (by rw [e2]; decide) (by rw [e2]; rfl) rfl ?_
    replace h := ifp e2 h
    refine v_iload_3 hG dX7_putBy_63 (q := 64) rfl ?_
    obtain ⟨r_5, hr_5, h⟩ := bnd h
    refine v_cS1I hG csX7_softened ml_RX7_120 rfl (w_X7_softened hr_5) (Nat.le_of_ble_eq_true rfl) dX7_putBy_64 (q := 67) rfl ?_
    refine v_aload_0 hG dX7_putBy_67 (q := 68) rfl ?_
    refine v_iload_1 hG dX7_putBy_68 (q := 69) rfl ?_
    refine v_iconst hG ci_2 dX7_putBy_69 (q := 70) rfl ?_
    obtain ⟨r_6, hr_6, h⟩ := bnd h
    refine v_cV2I hG cvX7_its ml_RX7_81 rfl kk_59 (w_X7_its hr_6) (Nat.le_of_ble_eq_true rfl) dX7_putBy_70 (q := 73) rfl ?_
    refine v_ior hG dX7_putBy_73 (q := 74) rfl ?_
    exact v_iret hG hR rfl rfl (sp1 h) dX7_putBy_74
  replace h := ifn e2 h
  by_cases e3 : r_2 = (4 : Int32)
  · refine v_tabIn hG dX7_putBy_13 (tgt := 75) (by rw [e3]; decide) (by rw [e3]; decide) (by rw [e3]; rfl) rfl ?_
    replace h := ifp e3 h
    refine v_iload_3 hG dX7_putBy_75 (q := 76) rfl ?_
    refine v_iconst hG ci_4 dX7_putBy_76 (q := 77) rfl ?_
    obtain ⟨r_7, hr_7, h⟩ := bnd h
    refine v_cS2I hG csX7_leastOf ml_RX7_123 rfl (w_X7_leastOf hr_7) (Nat.le_of_ble_eq_true rfl) dX7_putBy_77 (q := 80) rfl ?_
    refine v_iconst hG ci_1 dX7_putBy_80 (q := 81) rfl ?_
    refine v_ior hG dX7_putBy_81 (q := 82) rfl ?_
    exact v_iret hG hR rfl rfl (sp1 h) dX7_putBy_82
  replace h := ifn e3 h
  by_cases e4 : r_2 = (5 : Int32)
  · refine v_tabIn hG dX7_putBy_13 (tgt := 83) (by rw [e4]; decide) (by rw [e4]; decide) (by rw [e4]; rfl) rfl ?_
    replace h := ifp e4 h
    refine v_aload_0 hG dX7_putBy_83 (q := 84) rfl ?_
    refine v_iload_1 hG dX7_putBy_84 (q := 85) rfl ?_
    refine v_iload_2 hG dX7_putBy_85 (q := 86) rfl ?_
    refine v_sipush hG cs_1365 dX7_putBy_86 (q := 89) rfl ?_
    refine v_iand hG dX7_putBy_89 (q := 90) rfl ?_
    obtain ⟨r_8, hr_8, h⟩ := bnd h
    refine v_cV2I hG cvX7_plainOf ml_RX7_117 rfl kk_59 (w_X7_plainOf hr_8) (Nat.le_of_ble_eq_true rfl) dX7_putBy_90 (q := 93) rfl ?_
    exact v_iret hG hR rfl rfl (sp1 h) dX7_putBy_93
  replace h := ifn e4 h
  by_cases e5 : r_2 = (6 : Int32)
  · refine v_tabIn hG dX7_putBy_13 (tgt := 94) (by rw [e5]; decide) (by rw [e5]; decide) (by rw [e5]; rfl) rfl ?_
    replace h := ifp e5 h
    refine v_iload_3 hG dX7_putBy_94 (q := 95) rfl ?_
    refine v_iconst hG ci_2 dX7_putBy_95 (q := 96) rfl ?_
    obtain ⟨r_9, hr_9, h⟩ := bnd h
    refine v_cS2I hG csX7_leastOf ml_RX7_123 rfl (w_X7_leastOf hr_9) (Nat.le_of_ble_eq_true rfl) dX7_putBy_96 (q := 99) rfl ?_
    exact v_iret hG hR rfl rfl (sp1 h) dX7_putBy_99
  replace h := ifn e5 h
  have u0 := sw_ne (n := 1) e0
  have u1 := sw_ne (n := 2) e1
  have u2 := sw_ne (n := 3) e2
  have u3 := sw_ne (n := 4) e3
  have u4 := sw_ne (n := 5) e4
  have u5 := sw_ne (n := 6) e5
  refine v_tabOut hG dX7_putBy_13 (tgt := 100) (by omega) rfl ?_
  refine v_iload_3 hG dX7_putBy_100 (q := 101) rfl ?_
  exact v_iret hG hR rfl rfl (sp1 h) dX7_putBy_101
theorem cvX7_putBy : CVo mX7_putBy 2 7 := ⟨moX7_putBy, mvX7_putBy, by decide, _, _, rfl⟩
theorem w_X7_puts {E : EB} {x1 : Int32} {x2 : Int32} {M : Mem} {R : Int32 × Mem} (h : f_X7_puts x1 x2 M = some R) : Mt E mX7_puts [.ref 59, .int x1, .int x2] M (PI R.1 R.2) := by
  refine mt_of (L0 := [some (.ref 59), some (.int x1), some (.int x2)]) (by decide) rfl rfl (fun G hG hR => ?_)
  unfold f_X7_puts at h
  refine v_aload_0 hG dX7_puts_0 (q := 1) rfl ?_
  refine v_iload_1 hG dX7_puts_1 (q := 2) rfl ?_
  obtain ⟨r_1, hr_1, h⟩ := bnd h
  refine v_cV1I hG cvX7_isWriter ml_RX7_76 rfl kk_59 (w_X7_isWriter hr_1) (Nat.le_of_ble_eq_true rfl) dX7_puts_2 (q := 5) rfl ?_
  refine v_if_eq hG dX7_puts_5 (tgt := 24) rfl (q := 8) rfl (fun hc => ?_) (fun hc => ?_)
  · replace h := ifp hc h
    refine v_aload_0 hG dX7_puts_24 (q := 25) rfl ?_
    refine v_ldc hG kc_RX7_40 dX7_puts_25 (q := 27) rfl ?_
    obtain ⟨r_2, hr_2, h⟩ := bnd h
    refine v_cV1I hG cvX7_finds ml_RX7_68 rfl kk_59 (w_X7_finds hr_2) (Nat.le_of_ble_eq_true rfl) dX7_puts_27 (q := 30) rfl ?_
    exact v_iret hG hR rfl rfl (sp2t h) dX7_puts_30
  · replace h := ifn hc h
    refine v_iload_2 hG dX7_puts_8 (q := 9) rfl ?_
    obtain ⟨r_3, hr_3, h⟩ := bnd h
    refine v_cS1I hG csX7_isSaying ml_RX7_60 rfl (w_X7_isSaying hr_3) (Nat.le_of_ble_eq_true rfl) dX7_puts_9 (q := 12) rfl ?_
    refine v_if_eq hG dX7_puts_12 (tgt := 24) rfl (q := 15) rfl (fun hc => ?_) (fun hc => ?_)
    · replace h := ifp hc h
      refine v_aload_0 hG dX7_puts_24 (q := 25) rfl ?_
      refine v_ldc hG kc_RX7_40 dX7_puts_25 (q := 27) rfl ?_
      obtain ⟨r_4, hr_4, h⟩ := bnd h
      refine v_cV1I hG cvX7_finds ml_RX7_68 rfl kk_59 (w_X7_finds hr_4) (Nat.le_of_ble_eq_true rfl) dX7_puts_27 (q := 30) rfl ?_
      exact v_iret hG hR rfl rfl (sp2t h) dX7_puts_30
    · replace h := ifn hc h
      refine v_aload_0 hG dX7_puts_15 (q := 16) rfl ?_
      refine v_iload_1 hG dX7_puts_16 (q := 17) rfl ?_
      refine v_iload_2 hG dX7_puts_17 (q := 18) rfl ?_
      obtain ⟨r_5, hr_5, h⟩ := bnd h
      refine v_cV2I hG cvX7_putBy ml_RX7_126 rfl kk_59 (w_X7_putBy hr_5) (Nat.le_of_ble_eq_true rfl) dX7_puts_18 (q := 21) rfl ?_
      refine v_goto hG dX7_puts_21 (tgt := 30) rfl ?_
      exact v_iret hG hR rfl rfl (sp2t h) dX7_puts_30
theorem cvX7_puts : CVo mX7_puts 2 7 := ⟨moX7_puts, mvX7_puts, by decide, _, _, rfl⟩
theorem w_X7_ownOf {E : EB} {x1 : Int32} {M : Mem} {R : Int32} (h : f_X7_ownOf x1 M = some R) : Mt E mX7_ownOf [.ref 59, .int x1] M (PI R M) := by
  refine mt_of (L0 := [some (.ref 59), some (.int x1)]) (by decide) rfl rfl (fun G hG hR => ?_)
  unfold f_X7_ownOf at h
  refine v_aload_0 hG dX7_ownOf_0 (q := 1) rfl ?_
  refine v_iload_1 hG dX7_ownOf_1 (q := 2) rfl ?_
  refine v_iconst hG ci_0 dX7_ownOf_2 (q := 3) rfl ?_
  obtain ⟨r_1, hr_1, h⟩ := bnd h
  refine v_cV2I hG cvX7_told ml_RX7_90 rfl kk_59 (w_X7_told hr_1) (Nat.le_of_ble_eq_true rfl) dX7_ownOf_3 (q := 6) rfl ?_
  refine v_aload_0 hG dX7_ownOf_6 (q := 7) rfl ?_
  refine v_iload_1 hG dX7_ownOf_7 (q := 8) rfl ?_
  refine v_iconst hG ci_1 dX7_ownOf_8 (q := 9) rfl ?_
  obtain ⟨r_2, hr_2, h⟩ := bnd h
  refine v_cV2I hG cvX7_told ml_RX7_90 rfl kk_59 (w_X7_told hr_2) (Nat.le_of_ble_eq_true rfl) dX7_ownOf_9 (q := 12) rfl ?_
  refine v_ior hG dX7_ownOf_12 (q := 13) rfl ?_
  exact v_iret hG hR rfl rfl (sp1 h) dX7_ownOf_13
theorem cvX7_ownOf : CVo mX7_ownOf 1 7 := ⟨moX7_ownOf, mvX7_ownOf, by decide, _, _, rfl⟩
theorem w_X7_says {E : EB} {x1 : Int32} {M : Mem} {R : Int32 × Mem} (h : f_X7_says x1 M = some R) : Mt E mX7_says [.ref 59, .int x1] M (PI R.1 R.2) := by
  refine mt_of (L0 := [some (.ref 59), some (.int x1)]) (by decide) rfl rfl (fun G hG hR => ?_)
  unfold f_X7_says at h
  refine v_aload_0 hG dX7_says_0 (q := 1) rfl ?_
  refine v_iload_1 hG dX7_says_1 (q := 2) rfl ?_
  obtain ⟨r_1, hr_1, h⟩ := bnd h
  refine v_cV1I hG cvX7_isPerson ml_RX7_96 rfl kk_59 (w_X7_isPerson hr_1) (Nat.le_of_ble_eq_true rfl) dX7_says_2 (q := 5) rfl ?_
  refine v_if_eq hG dX7_says_5 (tgt := 16) rfl (q := 8) rfl (fun hc => ?_) (fun hc => ?_)
  · replace h := ifp hc h
    refine v_aload_0 hG dX7_says_16 (q := 17) rfl ?_
    refine v_ldc hG kc_RX7_40 dX7_says_17 (q := 19) rfl ?_
    obtain ⟨r_2, hr_2, h⟩ := bnd h
    refine v_cV1I hG cvX7_finds ml_RX7_68 rfl kk_59 (w_X7_finds hr_2) (Nat.le_of_ble_eq_true rfl) dX7_says_19 (q := 22) rfl ?_
    exact v_iret hG hR rfl rfl (sp2t h) dX7_says_22
  · replace h := ifn hc h
    refine v_aload_0 hG dX7_says_8 (q := 9) rfl ?_
    refine v_iload_1 hG dX7_says_9 (q := 10) rfl ?_
    obtain ⟨r_3, hr_3, h⟩ := bnd h
    refine v_cV1I hG cvX7_ownOf ml_RX7_129 rfl kk_59 (w_X7_ownOf hr_3) (Nat.le_of_ble_eq_true rfl) dX7_says_10 (q := 13) rfl ?_
    refine v_goto hG dX7_says_13 (tgt := 22) rfl ?_
    exact v_iret hG hR rfl rfl (sp2t h) dX7_says_22
theorem cvX7_says : CVo mX7_says 1 7 := ⟨moX7_says, mvX7_says, by decide, _, _, rfl⟩
theorem w_X7_through {E : EB} {x1 : Int32} {x2 : Int32} {M : Mem} {R : Int32} (h : f_X7_through x1 x2 M = some R) : Mt E mX7_through [.ref 59, .int x1, .int x2] M (PI R M) := by
  refine mt_of (L0 := [some (.ref 59), some (.int x1), some (.int x2)]) (by decide) rfl rfl (fun G hG hR => ?_)
  unfold f_X7_through at h
  refine v_aload_0 hG dX7_through_0 (q := 1) rfl ?_
  refine v_iload_1 hG dX7_through_1 (q := 2) rfl ?_
  refine v_iconst hG ci_4 dX7_through_2 (q := 3) rfl ?_
  obtain ⟨r_1, hr_1, h⟩ := bnd h
  refine v_cV2I hG cvX7_told ml_RX7_90 rfl kk_59 (w_X7_told hr_1) (Nat.le_of_ble_eq_true rfl) dX7_through_3 (q := 6) rfl ?_
  refine v_iconst hG ci_1 dX7_through_6 (q := 7) rfl ?_
  refine v_icmp_ne hG dX7_through_7 (tgt := 14) rfl (q := 10) rfl (fun hc => ?_) (fun hc => ?_)
  · replace h := ifn hc h
    refine v_aload_0 hG dX7_through_14 (q := 15) rfl ?_
    refine v_aload_0 hG dX7_through_15 (q := 16) rfl ?_
    refine v_iload_1 hG dX7_through_16 (q := 17) rfl ?_
    refine v_iconst hG ci_2 dX7_through_17 (q := 18) rfl ?_
    obtain ⟨r_2, hr_2, h⟩ := bnd h
    refine v_cV2I hG cvX7_told ml_RX7_90 rfl kk_59 (w_X7_told hr_2) (Nat.le_of_ble_eq_true rfl) dX7_through_18 (q := 21) rfl ?_
    refine v_iload_2 hG dX7_through_21 (q := 22) rfl ?_
    obtain ⟨r_3, hr_3, h⟩ := bnd h
    refine v_cV2I hG cvX7_putBy ml_RX7_126 rfl kk_59 (w_X7_putBy hr_3) (Nat.le_of_ble_eq_true rfl) dX7_through_22 (q := 25) rfl ?_
    exact v_iret hG hR rfl rfl (sp1 h) dX7_through_25
  · replace h := ifp hc h
    refine v_iload_2 hG dX7_through_10 (q := 11) rfl ?_
    refine v_goto hG dX7_through_11 (tgt := 25) rfl ?_
    exact v_iret hG hR rfl rfl (sp1 h) dX7_through_25
theorem cvX7_through : CVo mX7_through 2 7 := ⟨moX7_through, mvX7_through, by decide, _, _, rfl⟩
theorem w_X7_read {E : EB} {x1 : Int32} {x2 : Int32} {x3 : Int32} {M : Mem} {R : Int32 × Mem} (h : f_X7_read x1 x2 x3 M = some R) : Mt E mX7_read [.ref 59, .int x1, .int x2, .int x3] M (PI R.1 R.2) := by
  refine mt_of (L0 := [some (.ref 59), some (.int x1), some (.int x2), some (.int x3)]) (by decide) rfl rfl (fun G hG hR => ?_)
  unfold f_X7_read at h
  refine v_aload_0 hG dX7_read_0 (q := 1) rfl ?_
  refine v_iload_1 hG dX7_read_1 (q := 2) rfl ?_
  refine v_iload_2 hG dX7_read_2 (q := 3) rfl ?_
  obtain ⟨r_1, hr_1, h⟩ := bnd h
  refine v_cV2I hG cvX7_isTwo ml_RX7_107 rfl kk_59 (w_X7_isTwo hr_1) (Nat.le_of_ble_eq_true rfl) dX7_read_3 (q := 6) rfl ?_
  refine v_if_eq hG dX7_read_6 (tgt := 30) rfl (q := 9) rfl (fun hc => ?_) (fun hc => ?_)
  · replace h := ifp hc h
    refine v_aload_0 hG dX7_read_30 (q := 31) rfl ?_
    refine v_ldc hG kc_RX7_40 dX7_read_31 (q := 33) rfl ?_
    obtain ⟨r_2, hr_2, h⟩ := bnd h
    refine v_cV1I hG cvX7_finds ml_RX7_68 rfl kk_59 (w_X7_finds hr_2) (Nat.le_of_ble_eq_true rfl) dX7_read_33 (q := 36) rfl ?_
    exact v_iret hG hR rfl rfl (sp2t h) dX7_read_36
  · replace h := ifn hc h
    refine v_iload_3 hG dX7_read_9 (q := 10) rfl ?_
    obtain ⟨r_3, hr_3, h⟩ := bnd h
    refine v_cS1I hG csX7_isSaying ml_RX7_60 rfl (w_X7_isSaying hr_3) (Nat.le_of_ble_eq_true rfl) dX7_read_10 (q := 13) rfl ?_
    refine v_if_eq hG dX7_read_13 (tgt := 30) rfl (q := 16) rfl (fun hc => ?_) (fun hc => ?_)
    · replace h := ifp hc h
      refine v_aload_0 hG dX7_read_30 (q := 31) rfl ?_
      refine v_ldc hG kc_RX7_40 dX7_read_31 (q := 33) rfl ?_
      obtain ⟨r_4, hr_4, h⟩ := bnd h
      refine v_cV1I hG cvX7_finds ml_RX7_68 rfl kk_59 (w_X7_finds hr_4) (Nat.le_of_ble_eq_true rfl) dX7_read_33 (q := 36) rfl ?_
      exact v_iret hG hR rfl rfl (sp2t h) dX7_read_36
    · replace h := ifn hc h
      refine v_aload_0 hG dX7_read_16 (q := 17) rfl ?_
      refine v_iload_2 hG dX7_read_17 (q := 18) rfl ?_
      refine v_aload_0 hG dX7_read_18 (q := 19) rfl ?_
      refine v_iload_1 hG dX7_read_19 (q := 20) rfl ?_
      refine v_iload_3 hG dX7_read_20 (q := 21) rfl ?_
      obtain ⟨r_5, hr_5, h⟩ := bnd h
      refine v_cV2I hG cvX7_through ml_RX7_132 rfl kk_59 (w_X7_through hr_5) (Nat.le_of_ble_eq_true rfl) dX7_read_21 (q := 24) rfl ?_
      obtain ⟨r_6, hr_6, h⟩ := bnd h
      refine v_cV2I hG cvX7_through ml_RX7_132 rfl kk_59 (w_X7_through hr_6) (Nat.le_of_ble_eq_true rfl) dX7_read_24 (q := 27) rfl ?_
      refine v_goto hG dX7_read_27 (tgt := 36) rfl ?_
      exact v_iret hG hR rfl rfl (sp2t h) dX7_read_36
theorem cvX7_read : CVo mX7_read 3 7 := ⟨moX7_read, mvX7_read, by decide, _, _, rfl⟩
theorem w_X7_costOf {E : EB} {x1 : Int32} {M : Mem} {R : Int32} (h : f_X7_costOf x1 M = some R) : Mt E mX7_costOf [.ref 59, .int x1] M (PI R M) := by
  refine mt_of (L0 := [some (.ref 59), some (.int x1)]) (by decide) rfl rfl (fun G hG hR => ?_)
  unfold f_X7_costOf at h
  refine v_aload_0 hG dX7_costOf_0 (q := 1) rfl ?_
  refine v_iload_1 hG dX7_costOf_1 (q := 2) rfl ?_
  refine v_iconst hG ci_4 dX7_costOf_2 (q := 3) rfl ?_
  obtain ⟨r_1, hr_1, h⟩ := bnd h
  refine v_cV2I hG cvX7_told ml_RX7_90 rfl kk_59 (w_X7_told hr_1) (Nat.le_of_ble_eq_true rfl) dX7_costOf_3 (q := 6) rfl ?_
  refine v_iconst hG ci_1 dX7_costOf_6 (q := 7) rfl ?_
  refine v_icmp_ne hG dX7_costOf_7 (tgt := 14) rfl (q := 10) rfl (fun hc => ?_) (fun hc => ?_)
  · replace h := ifn hc h
    refine v_aload_0 hG dX7_costOf_14 (q := 15) rfl ?_
    refine v_aload_0 hG dX7_costOf_15 (q := 16) rfl ?_
    refine v_iload_1 hG dX7_costOf_16 (q := 17) rfl ?_
    refine v_iconst hG ci_2 dX7_costOf_17 (q := 18) rfl ?_
    obtain ⟨r_2, hr_2, h⟩ := bnd h
    refine v_cV2I hG cvX7_told ml_RX7_90 rfl kk_59 (w_X7_told hr_2) (Nat.le_of_ble_eq_true rfl) dX7_costOf_18 (q := 21) rfl ?_
    refine v_iconst hG ci_4 dX7_costOf_21 (q := 22) rfl ?_
    obtain ⟨r_3, hr_3, h⟩ := bnd h
    refine v_cV2I hG cvX7_its ml_RX7_81 rfl kk_59 (w_X7_its hr_3) (Nat.le_of_ble_eq_true rfl) dX7_costOf_22 (q := 25) rfl ?_
    exact v_iret hG hR rfl rfl (sp1 h) dX7_costOf_25
  · replace h := ifp hc h
    refine v_iconst hG ci_0 dX7_costOf_10 (q := 11) rfl ?_
    refine v_goto hG dX7_costOf_11 (tgt := 25) rfl ?_
    exact v_iret hG hR rfl rfl (sp1 h) dX7_costOf_25
theorem cvX7_costOf : CVo mX7_costOf 1 7 := ⟨moX7_costOf, mvX7_costOf, by decide, _, _, rfl⟩
theorem w_X7_pays {E : EB} {x1 : Int32} {M : Mem} {R : Mem} (h : f_X7_pays x1 M = some R) : Mt E mX7_pays [.ref 59, .int x1] M (PV R) := by
  refine mt_of (L0 := [some (.ref 59), some (.int x1), none]) (by decide) rfl rfl (fun G hG hR => ?_)
  unfold f_X7_pays at h
  refine v_aload_0 hG dX7_pays_0 (q := 1) rfl ?_
  refine v_iload_1 hG dX7_pays_1 (q := 2) rfl ?_
  obtain ⟨r_1, hr_1, h⟩ := bnd h
  refine v_cV1I hG cvX7_costOf ml_RX7_135 rfl kk_59 (w_X7_costOf hr_1) (Nat.le_of_ble_eq_true rfl) dX7_pays_2 (q := 5) rfl ?_
  refine v_istore_2 hG rfl dX7_pays_5 (q := 6) rfl ?_
  refine v_aload_0 hG dX7_pays_6 (q := 7) rfl ?_
  refine gt_RX7_7 hG rfl kk_59 dX7_pays_7 (q := 10) rfl ?_
  refine v_iload_1 hG dX7_pays_10 (q := 11) rfl ?_
  refine v_iconst hG ci_3 dX7_pays_11 (q := 12) rfl ?_
  obtain ⟨r_2, hr_2, h⟩ := bnd h
  refine v_cS2I hG csX7_where ml_RX7_84 rfl (w_X7_where hr_2) (Nat.le_of_ble_eq_true rfl) dX7_pays_12 (q := 15) rfl ?_
  refine v_dup2 hG rfl rfl dX7_pays_15 (q := 16) rfl ?_
  obtain ⟨c_3, h⟩ := ck_some h
  refine v_iald hG kk_60 rfl c_3 dX7_pays_16 (q := 17) rfl ?_
  refine v_iload_2 hG dX7_pays_17 (q := 18) rfl ?_
  refine v_isub hG dX7_pays_18 (q := 19) rfl ?_
  obtain ⟨c_4, h⟩ := ck_some h
  refine v_iast hG kk_60 rfl c_4 dX7_pays_19 (q := 20) rfl ?_
  refine v_topM (fun M_5 hy => ?_)
  replace h := letv_at hy h
  clear hy
  refine v_aload_0 hG dX7_pays_20 (q := 21) rfl ?_
  refine gt_RX7_7 hG rfl kk_59 dX7_pays_21 (q := 24) rfl ?_
  refine v_aload_0 hG dX7_pays_24 (q := 25) rfl ?_
  refine v_iload_1 hG dX7_pays_25 (q := 26) rfl ?_
  refine v_iconst hG ci_2 dX7_pays_26 (q := 27) rfl ?_
  obtain ⟨r_6, hr_6, h⟩ := bnd h
  refine v_cV2I hG cvX7_told ml_RX7_90 rfl kk_59 (w_X7_told hr_6) (Nat.le_of_ble_eq_true rfl) dX7_pays_27 (q := 30) rfl ?_
  refine v_iconst hG ci_5 dX7_pays_30 (q := 31) rfl ?_
  obtain ⟨r_7, hr_7, h⟩ := bnd h
  refine v_cS2I hG csX7_at ml_RX7_50 rfl (w_X7_at hr_7) (Nat.le_of_ble_eq_true rfl) dX7_pays_31 (q := 34) rfl ?_
  refine v_dup2 hG rfl rfl dX7_pays_34 (q := 35) rfl ?_
  obtain ⟨c_8, h⟩ := ck_some h
  refine v_iald hG kk_60 rfl c_8 dX7_pays_35 (q := 36) rfl ?_
  refine v_iload_2 hG dX7_pays_36 (q := 37) rfl ?_
  refine v_iadd hG dX7_pays_37 (q := 38) rfl ?_
  obtain ⟨c_9, h⟩ := ck_some h
  refine v_iast hG kk_60 rfl c_9 dX7_pays_38 (q := 39) rfl ?_
  refine v_topM (fun M_10 hy => ?_)
  replace h := letv_at hy h
  clear hy
  exact v_vret hG hR rfl (spv h) dX7_pays_39
theorem cvX7_pays : CVo mX7_pays 1 7 := ⟨moX7_pays, mvX7_pays, by decide, _, _, rfl⟩
theorem w_X7_letter {E : EB} {x1 : Int32} {x2 : Int32} {x3 : Int32} {M : Mem} {R : Int32 × Mem} (h : f_X7_letter x1 x2 x3 M = some R) : Mt E mX7_letter [.ref 59, .int x1, .int x2, .int x3] M (PI R.1 R.2) := by
  refine mt_of (L0 := [some (.ref 59), some (.int x1), some (.int x2), some (.int x3), none]) (by decide) rfl rfl (fun G hG hR => ?_)
  unfold f_X7_letter at h
  refine v_aload_0 hG dX7_letter_0 (q := 1) rfl ?_
  refine v_iload_1 hG dX7_letter_1 (q := 2) rfl ?_
  refine v_iconst hG ci_3 dX7_letter_2 (q := 3) rfl ?_
  obtain ⟨r_1, hr_1, h⟩ := bnd h
  refine v_cV2I hG cvX7_told ml_RX7_90 rfl kk_59 (w_X7_told hr_1) (Nat.le_of_ble_eq_true rfl) dX7_letter_3 (q := 6) rfl ?_
  refine v_aload_0 hG dX7_letter_6 (q := 7) rfl ?_
  refine v_iload_1 hG dX7_letter_7 (q := 8) rfl ?_
  obtain ⟨r_2, hr_2, h⟩ := bnd h
  refine v_cV1I hG cvX7_costOf ml_RX7_135 rfl kk_59 (w_X7_costOf hr_2) (Nat.le_of_ble_eq_true rfl) dX7_letter_8 (q := 11) rfl ?_
  refine v_icmp_lt hG dX7_letter_11 (tgt := 28) rfl (q := 14) rfl (fun hc => ?_) (fun hc => ?_)
  · replace h := ifp hc h
    refine v_iconst hG ci_m1 dX7_letter_28 (q := 29) rfl ?_
    exact v_iret hG hR rfl rfl (sp2t h) dX7_letter_29
  · replace h := ifn hc h
    refine v_aload_0 hG dX7_letter_14 (q := 15) rfl ?_
    refine v_iload_2 hG dX7_letter_15 (q := 16) rfl ?_
    refine v_iconst hG ci_3 dX7_letter_16 (q := 17) rfl ?_
    obtain ⟨r_3, hr_3, h⟩ := bnd h
    refine v_cV2I hG cvX7_told ml_RX7_90 rfl kk_59 (w_X7_told hr_3) (Nat.le_of_ble_eq_true rfl) dX7_letter_17 (q := 20) rfl ?_
    refine v_aload_0 hG dX7_letter_20 (q := 21) rfl ?_
    refine v_iload_2 hG dX7_letter_21 (q := 22) rfl ?_
    obtain ⟨r_4, hr_4, h⟩ := bnd h
    refine v_cV1I hG cvX7_costOf ml_RX7_135 rfl kk_59 (w_X7_costOf hr_4) (Nat.le_of_ble_eq_true rfl) dX7_letter_22 (q := 25) rfl ?_
    refine v_icmp_ge hG dX7_letter_25 (tgt := 30) rfl (q := 28) rfl (fun hc => ?_) (fun hc => ?_)
    · replace h := ifp hc h
      refine v_aload_0 hG dX7_letter_30 (q := 31) rfl ?_
      refine v_iload_2 hG dX7_letter_31 (q := 32) rfl ?_
      refine v_aload_0 hG dX7_letter_32 (q := 33) rfl ?_
      refine v_iload_1 hG dX7_letter_33 (q := 34) rfl ?_
      refine v_iload_3 hG dX7_letter_34 (q := 35) rfl ?_
      obtain ⟨r_5, hr_5, h⟩ := bnd h
      refine v_cV2I hG cvX7_through ml_RX7_132 rfl kk_59 (w_X7_through hr_5) (Nat.le_of_ble_eq_true rfl) dX7_letter_35 (q := 38) rfl ?_
      obtain ⟨r_6, hr_6, h⟩ := bnd h
      refine v_cV2I hG cvX7_through ml_RX7_132 rfl kk_59 (w_X7_through hr_6) (Nat.le_of_ble_eq_true rfl) dX7_letter_38 (q := 41) rfl ?_
      refine v_istore_4 hG rfl dX7_letter_41 (q := 43) rfl ?_
      refine v_aload_0 hG dX7_letter_43 (q := 44) rfl ?_
      refine gt_RX7_7 hG rfl kk_59 dX7_letter_44 (q := 47) rfl ?_
      refine v_iload_2 hG dX7_letter_47 (q := 48) rfl ?_
      refine v_iconst hG ci_1 dX7_letter_48 (q := 49) rfl ?_
      obtain ⟨r_7, hr_7, h⟩ := bnd h
      refine v_cS2I hG csX7_where ml_RX7_84 rfl (w_X7_where hr_7) (Nat.le_of_ble_eq_true rfl) dX7_letter_49 (q := 52) rfl ?_
      refine v_dup2 hG rfl rfl dX7_letter_52 (q := 53) rfl ?_
      obtain ⟨c_8, h⟩ := ck_some h
      refine v_iald hG kk_60 rfl c_8 dX7_letter_53 (q := 54) rfl ?_
      refine v_iload_4 hG dX7_letter_54 (q := 56) rfl ?_
      refine v_ior hG dX7_letter_56 (q := 57) rfl ?_
      obtain ⟨c_9, h⟩ := ck_some h
      refine v_iast hG kk_60 rfl c_9 dX7_letter_57 (q := 58) rfl ?_
      refine v_topM (fun M_10 hy => ?_)
      replace h := letv_at hy h
      clear hy
      refine v_aload_0 hG dX7_letter_58 (q := 59) rfl ?_
      refine v_iload_1 hG dX7_letter_59 (q := 60) rfl ?_
      obtain ⟨r_11, hr_11, h⟩ := bnd h
      refine v_cV1V hG cvX7_pays ml_RX7_138 rfl kk_59 (w_X7_pays hr_11) (Nat.le_of_ble_eq_true rfl) dX7_letter_60 (q := 63) rfl ?_
      refine v_aload_0 hG dX7_letter_63 (q := 64) rfl ?_
      refine v_iload_2 hG dX7_letter_64 (q := 65) rfl ?_
      obtain ⟨r_12, hr_12, h⟩ := bnd h
      refine v_cV1V hG cvX7_pays ml_RX7_138 rfl kk_59 (w_X7_pays hr_12) (Nat.le_of_ble_eq_true rfl) dX7_letter_65 (q := 68) rfl ?_
      refine v_aload_0 hG dX7_letter_68 (q := 69) rfl ?_
      refine v_dup hG rfl dX7_letter_69 (q := 70) rfl ?_
      refine gt_RX7_142 hG rfl kk_59 dX7_letter_70 (q := 73) rfl ?_
      refine v_iconst hG ci_2 dX7_letter_73 (q := 74) rfl ?_
      refine v_aload_0 hG dX7_letter_74 (q := 75) rfl ?_
      refine v_iload_1 hG dX7_letter_75 (q := 76) rfl ?_
      refine v_iconst hG ci_4 dX7_letter_76 (q := 77) rfl ?_
      obtain ⟨r_13, hr_13, h⟩ := bnd h
      refine v_cV2I hG cvX7_told ml_RX7_90 rfl kk_59 (w_X7_told hr_13) (Nat.le_of_ble_eq_true rfl) dX7_letter_77 (q := 80) rfl ?_
      refine v_isub hG dX7_letter_80 (q := 81) rfl ?_
      refine v_aload_0 hG dX7_letter_81 (q := 82) rfl ?_
      refine v_iload_2 hG dX7_letter_82 (q := 83) rfl ?_
      refine v_iconst hG ci_4 dX7_letter_83 (q := 84) rfl ?_
      obtain ⟨r_14, hr_14, h⟩ := bnd h
      refine v_cV2I hG cvX7_told ml_RX7_90 rfl kk_59 (w_X7_told hr_14) (Nat.le_of_ble_eq_true rfl) dX7_letter_84 (q := 87) rfl ?_
      refine v_isub hG dX7_letter_87 (q := 88) rfl ?_
      refine v_iadd hG dX7_letter_88 (q := 89) rfl ?_
      refine pt_RX7_142 hG rfl kk_59 dX7_letter_89 (q := 92) rfl ?_
      refine v_topM (fun M_15 hy => ?_)
      replace h := letv_at hy h
      clear hy
      refine v_aload_0 hG dX7_letter_92 (q := 93) rfl ?_
      refine gt_RX7_7 hG rfl kk_59 dX7_letter_93 (q := 96) rfl ?_
      refine v_iconst hG ci_4 dX7_letter_96 (q := 97) rfl ?_
      refine v_dup2 hG rfl rfl dX7_letter_97 (q := 98) rfl ?_
      obtain ⟨c_16, h⟩ := ck_some h
      refine v_iald hG kk_60 rfl c_16 dX7_letter_98 (q := 99) rfl ?_
      refine v_iconst hG ci_1 dX7_letter_99 (q := 100) rfl ?_
      refine v_iadd hG dX7_letter_100 (q := 101) rfl ?_
      obtain ⟨c_17, h⟩ := ck_some h
      refine v_iast hG kk_60 rfl c_17 dX7_letter_101 (q := 102) rfl ?_
      refine v_topM (fun M_18 hy => ?_)
      replace h := letv_at hy h
      clear hy
      refine v_iload_4 hG dX7_letter_102 (q := 104) rfl ?_
      exact v_iret hG hR rfl rfl (sp2t h) dX7_letter_104
    · replace h := ifn hc h
      refine v_iconst hG ci_m1 dX7_letter_28 (q := 29) rfl ?_
      exact v_iret hG hR rfl rfl (sp2t h) dX7_letter_29
theorem cvX7_letter : CVo mX7_letter 3 7 := ⟨moX7_letter, mvX7_letter, by decide, _, _, rfl⟩
theorem w_X7_send {E : EB} {x1 : Int32} {x2 : Int32} {x3 : Int32} {M : Mem} {R : Int32 × Mem} (h : f_X7_send x1 x2 x3 M = some R) : Mt E mX7_send [.ref 59, .int x1, .int x2, .int x3] M (PI R.1 R.2) := by
  refine mt_of (L0 := [some (.ref 59), some (.int x1), some (.int x2), some (.int x3), none]) (by decide) rfl rfl (fun G hG hR => ?_)
  unfold f_X7_send at h
  refine v_aload_0 hG dX7_send_0 (q := 1) rfl ?_
  refine v_iload_1 hG dX7_send_1 (q := 2) rfl ?_
  refine v_iload_2 hG dX7_send_2 (q := 3) rfl ?_
  obtain ⟨r_1, hr_1, h⟩ := bnd h
  refine v_cV2I hG cvX7_isTwo ml_RX7_107 rfl kk_59 (w_X7_isTwo hr_1) (Nat.le_of_ble_eq_true rfl) dX7_send_3 (q := 6) rfl ?_
  refine v_if_eq hG dX7_send_6 (tgt := 16) rfl (q := 9) rfl (fun hc => ?_) (fun hc => ?_)
  · replace h := ifp hc h
    refine v_aload_0 hG dX7_send_16 (q := 17) rfl ?_
    refine v_ldc hG kc_RX7_40 dX7_send_17 (q := 19) rfl ?_
    obtain ⟨r_2, hr_2, h⟩ := bnd h
    refine v_cV1I hG cvX7_finds ml_RX7_68 rfl kk_59 (w_X7_finds hr_2) (Nat.le_of_ble_eq_true rfl) dX7_send_19 (q := 22) rfl ?_
    exact v_iret hG hR rfl rfl (sp2t h) dX7_send_22
  · replace h := ifn hc h
    refine v_iload_3 hG dX7_send_9 (q := 10) rfl ?_
    obtain ⟨r_3, hr_3, h⟩ := bnd h
    refine v_cS1I hG csX7_isSaying ml_RX7_60 rfl (w_X7_isSaying hr_3) (Nat.le_of_ble_eq_true rfl) dX7_send_10 (q := 13) rfl ?_
    refine v_if_ne hG dX7_send_13 (tgt := 23) rfl (q := 16) rfl (fun hc => ?_) (fun hc => ?_)
    · replace h := ifn hc h
      refine v_aload_0 hG dX7_send_23 (q := 24) rfl ?_
      refine v_iload_1 hG dX7_send_24 (q := 25) rfl ?_
      refine v_iload_2 hG dX7_send_25 (q := 26) rfl ?_
      refine v_iload_3 hG dX7_send_26 (q := 27) rfl ?_
      obtain ⟨r_4, hr_4, h⟩ := bnd h
      refine v_cV3I hG cvX7_letter ml_RX7_146 rfl kk_59 (w_X7_letter hr_4) (Nat.le_of_ble_eq_true rfl) dX7_send_27 (q := 30) rfl ?_
      refine v_istore_4 hG rfl dX7_send_30 (q := 32) rfl ?_
      refine v_iload_4 hG dX7_send_32 (q := 34) rfl ?_
      refine v_if_ge hG dX7_send_34 (tgt := 46) rfl (q := 37) rfl (fun hc => ?_) (fun hc => ?_)
      · replace h := ifp hc h
        refine v_iload_4 hG dX7_send_46 (q := 48) rfl ?_
        exact v_iret hG hR rfl rfl (sp2t h) dX7_send_48
      · replace h := ifn hc h
        refine v_aload_0 hG dX7_send_37 (q := 38) rfl ?_
        refine v_ldc hG kc_RX7_150 dX7_send_38 (q := 40) rfl ?_
        obtain ⟨r_5, hr_5, h⟩ := bnd h
        refine v_cV1I hG cvX7_finds ml_RX7_68 rfl kk_59 (w_X7_finds hr_5) (Nat.le_of_ble_eq_true rfl) dX7_send_40 (q := 43) rfl ?_
        refine v_goto hG dX7_send_43 (tgt := 48) rfl ?_
        exact v_iret hG hR rfl rfl (sp2t h) dX7_send_48
    · replace h := ifp hc h
      refine v_aload_0 hG dX7_send_16 (q := 17) rfl ?_
      refine v_ldc hG kc_RX7_40 dX7_send_17 (q := 19) rfl ?_
      obtain ⟨r_6, hr_6, h⟩ := bnd h
      refine v_cV1I hG cvX7_finds ml_RX7_68 rfl kk_59 (w_X7_finds hr_6) (Nat.le_of_ble_eq_true rfl) dX7_send_19 (q := 22) rfl ?_
      exact v_iret hG hR rfl rfl (sp2t h) dX7_send_22
theorem cvX7_send : CVo mX7_send 3 7 := ⟨moX7_send, mvX7_send, by decide, _, _, rfl⟩
theorem w_X7_year_b16 {E : EB} {G : GB} (hG : Gd E mX7_year G) {M : Mem} {R : Mem} (hR : Rt E mX7_year (PV R) G) {k2 : Int32 → Mem → Option (Mem)} {k16 : Int32 → Int32 → Mem → Option (Mem)} (hk2 : ∀ (x1 : Int32) (M : Mem), k2 x1 M = some R → V E G 2 [some (.ref 59), some (.int x1), none, none, none] [] M) (hk16 : ∀ (x1 : Int32) (x2 : Int32) (M : Mem), k16 x1 x2 M = some R → V E G 16 [some (.ref 59), some (.int x1), some (.int x2), none, none] [] M) {x1 : Int32} {x2 : Int32} (h : f_X7_year_b16 k2 k16 x1 x2 M = some R) : V E G 16 [some (.ref 59), some (.int x1), some (.int x2), none, none] [] M := by
  unfold f_X7_year_b16 at h
  refine v_iload_2 hG dX7_year_16 (q := 17) rfl ?_
  refine v_aload_0 hG dX7_year_17 (q := 18) rfl ?_
  refine gt_RX7_7 hG rfl kk_59 dX7_year_18 (q := 21) rfl ?_
  refine v_iconst hG ci_1 dX7_year_21 (q := 22) rfl ?_
  obtain ⟨c_6, h⟩ := ck_some h
  refine v_iald hG kk_60 rfl c_6 dX7_year_22 (q := 23) rfl ?_
  refine v_icmp_ge hG dX7_year_23 (tgt := 73) rfl (q := 26) rfl (fun hc => ?_) (fun hc => ?_)
  · replace h := ifp hc h
    refine v_iinc_1 hG rfl dX7_year_73 (congrArg _ ci_1) (q := 76) rfl ?_
    refine v_goto hG dX7_year_76 (tgt := 2) rfl ?_
    refine v_drop (n := 2) (L' := [some (.ref 59), some (.int (x1 + (1 : Int32))), none, none, none]) rfl ?_
    exact hk2 _ _ h
  · replace h := ifn hc h
    refine v_aload_0 hG dX7_year_26 (q := 27) rfl ?_
    refine gt_RX7_7 hG rfl kk_59 dX7_year_27 (q := 30) rfl ?_
    refine v_bipush hG cb_81 dX7_year_30 (q := 32) rfl ?_
    refine v_iload_1 hG dX7_year_32 (q := 33) rfl ?_
    refine v_iadd hG dX7_year_33 (q := 34) rfl ?_
    obtain ⟨c_7, h⟩ := ck_some h
    refine v_iald hG kk_60 rfl c_7 dX7_year_34 (q := 35) rfl ?_
    refine v_iload_2 hG dX7_year_35 (q := 36) rfl ?_
    obtain ⟨r_8, hr_8, h⟩ := bnd h
    refine v_cS2I hG csX7_has ml_RX7_110 rfl (w_X7_has hr_8) (Nat.le_of_ble_eq_true rfl) dX7_year_36 (q := 39) rfl ?_
    refine v_if_eq hG dX7_year_39 (tgt := 67) rfl (q := 42) rfl (fun hc => ?_) (fun hc => ?_)
    · replace h := ifp hc h
      refine v_iinc_2 hG rfl dX7_year_67 (congrArg _ ci_1) (q := 70) rfl ?_
      refine v_goto hG dX7_year_70 (tgt := 16) rfl ?_
      exact hk16 _ _ _ h
    · replace h := ifn hc h
      refine v_aload_0 hG dX7_year_42 (q := 43) rfl ?_
      refine v_iload_1 hG dX7_year_43 (q := 44) rfl ?_
      refine v_iload_2 hG dX7_year_44 (q := 45) rfl ?_
      refine v_aload_0 hG dX7_year_45 (q := 46) rfl ?_
      refine v_iload_1 hG dX7_year_46 (q := 47) rfl ?_
      obtain ⟨r_9, hr_9, h⟩ := bnd h
      refine v_cV1I hG cvX7_ownOf ml_RX7_129 rfl kk_59 (w_X7_ownOf hr_9) (Nat.le_of_ble_eq_true rfl) dX7_year_47 (q := 50) rfl ?_
      obtain ⟨r_10, hr_10, h⟩ := bnd h
      refine v_cV3I hG cvX7_letter ml_RX7_146 rfl kk_59 (w_X7_letter hr_10) (Nat.le_of_ble_eq_true rfl) dX7_year_50 (q := 53) rfl ?_
      refine v_istore_3 hG rfl dX7_year_53 (q := 54) rfl ?_
      refine v_aload_0 hG dX7_year_54 (q := 55) rfl ?_
      refine v_iload_2 hG dX7_year_55 (q := 56) rfl ?_
      refine v_iload_1 hG dX7_year_56 (q := 57) rfl ?_
      refine v_aload_0 hG dX7_year_57 (q := 58) rfl ?_
      refine v_iload_2 hG dX7_year_58 (q := 59) rfl ?_
      obtain ⟨r_11, hr_11, h⟩ := bnd h
      refine v_cV1I hG cvX7_ownOf ml_RX7_129 rfl kk_59 (w_X7_ownOf hr_11) (Nat.le_of_ble_eq_true rfl) dX7_year_59 (q := 62) rfl ?_
      obtain ⟨r_12, hr_12, h⟩ := bnd h
      refine v_cV3I hG cvX7_letter ml_RX7_146 rfl kk_59 (w_X7_letter hr_12) (Nat.le_of_ble_eq_true rfl) dX7_year_62 (q := 65) rfl ?_
      refine v_istore_4 hG rfl dX7_year_65 (q := 67) rfl ?_
      refine v_iinc_2 hG rfl dX7_year_67 (congrArg _ ci_1) (q := 70) rfl ?_
      refine v_goto hG dX7_year_70 (tgt := 16) rfl ?_
      refine v_drop (n := 3) (L' := [some (.ref 59), some (.int x1), some (.int (x2 + (1 : Int32))), none, some (.int r_12.1)]) rfl ?_
      refine v_drop (n := 4) (L' := [some (.ref 59), some (.int x1), some (.int (x2 + (1 : Int32))), none, none]) rfl ?_
      exact hk16 _ _ _ h
theorem w_X7_year_l16 {E : EB} {G : GB} (hG : Gd E mX7_year G) {R : Mem} (hR : Rt E mX7_year (PV R) G) {k2 : Int32 → Mem → Option (Mem)} (hk2 : ∀ (x1 : Int32) (M : Mem), k2 x1 M = some R → V E G 2 [some (.ref 59), some (.int x1), none, none, none] [] M) : ∀ (n : Nat) (x1 : Int32) (x2 : Int32) (M : Mem), f_X7_year_l16 k2 n x1 x2 M = some R → V E G 16 [some (.ref 59), some (.int x1), some (.int x2), none, none] [] M := by
  intro n
  induction n with
  | zero => intro x1 x2 M h; cases h
  | succ n ih => intro x1 x2 M h; exact w_X7_year_b16 hG hR hk2 ih h
theorem w_X7_year_b2 {E : EB} {G : GB} (hG : Gd E mX7_year G) {M : Mem} {R : Mem} (hR : Rt E mX7_year (PV R) G) {k2 : Int32 → Mem → Option (Mem)} (hk2 : ∀ (x1 : Int32) (M : Mem), k2 x1 M = some R → V E G 2 [some (.ref 59), some (.int x1), none, none, none] [] M) {x1 : Int32} (h : f_X7_year_b2 k2 x1 M = some R) : V E G 2 [some (.ref 59), some (.int x1), none, none, none] [] M := by
  unfold f_X7_year_b2 at h
  refine v_iload_1 hG dX7_year_2 (q := 3) rfl ?_
  refine v_aload_0 hG dX7_year_3 (q := 4) rfl ?_
  refine gt_RX7_7 hG rfl kk_59 dX7_year_4 (q := 7) rfl ?_
  refine v_iconst hG ci_1 dX7_year_7 (q := 8) rfl ?_
  obtain ⟨c_1, h⟩ := ck_some h
  refine v_iald hG kk_60 rfl c_1 dX7_year_8 (q := 9) rfl ?_
  refine v_icmp_ge hG dX7_year_9 (tgt := 79) rfl (q := 12) rfl (fun hc => ?_) (fun hc => ?_)
  · replace h := ifp hc h
    refine v_aload_0 hG dX7_year_79 (q := 80) rfl ?_
    refine gt_RX7_7 hG rfl kk_59 dX7_year_80 (q := 83) rfl ?_
    refine v_iconst hG ci_3 dX7_year_83 (q := 84) rfl ?_
    refine v_dup2 hG rfl rfl dX7_year_84 (q := 85) rfl ?_
    obtain ⟨c_2, h⟩ := ck_some h
    refine v_iald hG kk_60 rfl c_2 dX7_year_85 (q := 86) rfl ?_
    refine v_iconst hG ci_1 dX7_year_86 (q := 87) rfl ?_
    refine v_iadd hG dX7_year_87 (q := 88) rfl ?_
    obtain ⟨c_3, h⟩ := ck_some h
    refine v_iast hG kk_60 rfl c_3 dX7_year_88 (q := 89) rfl ?_
    refine v_topM (fun M_4 hy => ?_)
    replace h := letv_at hy h
    clear hy
    exact v_vret hG hR rfl (spv h) dX7_year_89
  · replace h := ifn hc h
    refine v_iload_1 hG dX7_year_12 (q := 13) rfl ?_
    refine v_iconst hG ci_1 dX7_year_13 (q := 14) rfl ?_
    refine v_iadd hG dX7_year_14 (q := 15) rfl ?_
    refine v_topi (fun x2_5 hy => ?_)
    replace h := letv_at hy h
    clear hy
    refine v_istore_2 hG rfl dX7_year_15 (q := 16) rfl ?_
    exact w_X7_year_l16 hG hR hk2 FU _ _ _ h
theorem w_X7_year_l2 {E : EB} {G : GB} (hG : Gd E mX7_year G) {R : Mem} (hR : Rt E mX7_year (PV R) G) : ∀ (n : Nat) (x1 : Int32) (M : Mem), f_X7_year_l2 n x1 M = some R → V E G 2 [some (.ref 59), some (.int x1), none, none, none] [] M := by
  intro n
  induction n with
  | zero => intro x1 M h; cases h
  | succ n ih => intro x1 M h; exact w_X7_year_b2 hG hR ih h
theorem w_X7_year {E : EB} {M : Mem} {R : Mem} (h : f_X7_year M = some R) : Mt E mX7_year [.ref 59] M (PV R) := by
  refine mt_of (L0 := [some (.ref 59), none, none, none, none]) (by decide) rfl rfl (fun G hG hR => ?_)
  unfold f_X7_year at h
  refine v_iconst hG ci_0 dX7_year_0 (q := 1) rfl ?_
  refine v_istore_1 hG rfl dX7_year_1 (q := 2) rfl ?_
  exact w_X7_year_l2 hG hR FU _ _ h
theorem cvX7_year : CVo mX7_year 0 7 := ⟨moX7_year, mvX7_year, by decide, _, _, rfl⟩
theorem w_X7_yearsGo_b9 {E : EB} {G : GB} (hG : Gd E mX7_yearsGo G) {M : Mem} {R : Int32 × Mem} (hR : Rt E mX7_yearsGo (PI R.1 R.2) G) {k9 : Int32 → Int32 → Int32 → Mem → Option (Int32 × Mem)} (hk9 : ∀ (x1 : Int32) (x2 : Int32) (x3 : Int32) (M : Mem), k9 x1 x2 x3 M = some R → V E G 9 [some (.ref 59), some (.int x1), some (.int x2), some (.int x3)] [] M) {x1 : Int32} {x2 : Int32} {x3 : Int32} (h : f_X7_yearsGo_b9 k9 x1 x2 x3 M = some R) : V E G 9 [some (.ref 59), some (.int x1), some (.int x2), some (.int x3)] [] M := by
  unfold f_X7_yearsGo_b9 at h
  refine v_iload_3 hG dX7_yearsGo_9 (q := 10) rfl ?_
  refine v_iload_1 hG dX7_yearsGo_10 (q := 11) rfl ?_
  refine v_icmp_ge hG dX7_yearsGo_11 (tgt := 24) rfl (q := 14) rfl (fun hc => ?_) (fun hc => ?_)
  · replace h := ifp hc h
    refine v_aload_0 hG dX7_yearsGo_24 (q := 25) rfl ?_
    refine gt_RX7_7 hG rfl kk_59 dX7_yearsGo_25 (q := 28) rfl ?_
    refine v_iconst hG ci_4 dX7_yearsGo_28 (q := 29) rfl ?_
    obtain ⟨c_3, h⟩ := ck_some h
    refine v_iald hG kk_60 rfl c_3 dX7_yearsGo_29 (q := 30) rfl ?_
    refine v_iload_2 hG dX7_yearsGo_30 (q := 31) rfl ?_
    refine v_isub hG dX7_yearsGo_31 (q := 32) rfl ?_
    exact v_iret hG hR rfl rfl (sp2t h) dX7_yearsGo_32
  · replace h := ifn hc h
    refine v_aload_0 hG dX7_yearsGo_14 (q := 15) rfl ?_
    obtain ⟨r_4, hr_4, h⟩ := bnd h
    refine v_cV0V hG cvX7_year ml_RX7_151 rfl kk_59 (w_X7_year hr_4) (Nat.le_of_ble_eq_true rfl) dX7_yearsGo_15 (q := 18) rfl ?_
    refine v_iinc_3 hG rfl dX7_yearsGo_18 (congrArg _ ci_1) (q := 21) rfl ?_
    refine v_goto hG dX7_yearsGo_21 (tgt := 9) rfl ?_
    exact hk9 _ _ _ _ h
theorem w_X7_yearsGo_l9 {E : EB} {G : GB} (hG : Gd E mX7_yearsGo G) {R : Int32 × Mem} (hR : Rt E mX7_yearsGo (PI R.1 R.2) G) : ∀ (n : Nat) (x1 : Int32) (x2 : Int32) (x3 : Int32) (M : Mem), f_X7_yearsGo_l9 n x1 x2 x3 M = some R → V E G 9 [some (.ref 59), some (.int x1), some (.int x2), some (.int x3)] [] M := by
  intro n
  induction n with
  | zero => intro x1 x2 x3 M h; cases h
  | succ n ih => intro x1 x2 x3 M h; exact w_X7_yearsGo_b9 hG hR ih h
theorem w_X7_yearsGo {E : EB} {x1 : Int32} {M : Mem} {R : Int32 × Mem} (h : f_X7_yearsGo x1 M = some R) : Mt E mX7_yearsGo [.ref 59, .int x1] M (PI R.1 R.2) := by
  refine mt_of (L0 := [some (.ref 59), some (.int x1), none, none]) (by decide) rfl rfl (fun G hG hR => ?_)
  unfold f_X7_yearsGo at h
  refine v_aload_0 hG dX7_yearsGo_0 (q := 1) rfl ?_
  refine gt_RX7_7 hG rfl kk_59 dX7_yearsGo_1 (q := 4) rfl ?_
  refine v_iconst hG ci_4 dX7_yearsGo_4 (q := 5) rfl ?_
  obtain ⟨c_1, h⟩ := ck_some h
  refine v_iald hG kk_60 rfl c_1 dX7_yearsGo_5 (q := 6) rfl ?_
  refine v_topi (fun x2_2 hy => ?_)
  replace h := letv_at hy h
  clear hy
  refine v_istore_2 hG rfl dX7_yearsGo_6 (q := 7) rfl ?_
  refine v_iconst hG ci_0 dX7_yearsGo_7 (q := 8) rfl ?_
  refine v_istore_3 hG rfl dX7_yearsGo_8 (q := 9) rfl ?_
  exact w_X7_yearsGo_l9 hG hR FU _ _ _ _ h
theorem cvX7_yearsGo : CVo mX7_yearsGo 1 7 := ⟨moX7_yearsGo, mvX7_yearsGo, by decide, _, _, rfl⟩
theorem w_X7_isTooLate {E : EB} {x1 : Int32} {M : Mem} {R : Bool} (h : f_X7_isTooLate x1 M = some R) : Mt E mX7_isTooLate [.ref 59, .int x1] M (PI (b2i R) M) := by
  refine mt_of (L0 := [some (.ref 59), some (.int x1)]) (by decide) rfl rfl (fun G hG hR => ?_)
  unfold f_X7_isTooLate at h
  refine v_aload_0 hG dX7_isTooLate_0 (q := 1) rfl ?_
  refine gt_RX7_7 hG rfl kk_59 dX7_isTooLate_1 (q := 4) rfl ?_
  refine v_iconst hG ci_3 dX7_isTooLate_4 (q := 5) rfl ?_
  obtain ⟨c_1, h⟩ := ck_some h
  refine v_iald hG kk_60 rfl c_1 dX7_isTooLate_5 (q := 6) rfl ?_
  refine v_iload_1 hG dX7_isTooLate_6 (q := 7) rfl ?_
  refine v_iadd hG dX7_isTooLate_7 (q := 8) rfl ?_
  refine v_sipush hG cs_999 dX7_isTooLate_8 (q := 11) rfl ?_
  refine v_icmp_le hG dX7_isTooLate_11 (tgt := 18) rfl (q := 14) rfl (fun hc => ?_) (fun hc => ?_)
  · replace h := ifp hc h
    refine v_iconst hG ci_0 dX7_isTooLate_18 (q := 19) rfl ?_
    exact v_iret hG hR rfl rfl (sp1b h) dX7_isTooLate_19
  · replace h := ifn hc h
    refine v_iconst hG ci_1 dX7_isTooLate_14 (q := 15) rfl ?_
    refine v_goto hG dX7_isTooLate_15 (tgt := 19) rfl ?_
    exact v_iret hG hR rfl rfl (sp1b h) dX7_isTooLate_19
theorem cvX7_isTooLate : CVo mX7_isTooLate 1 7 := ⟨moX7_isTooLate, mvX7_isTooLate, by decide, _, _, rfl⟩
theorem w_X7_years {E : EB} {x1 : Int32} {M : Mem} {R : Int32 × Mem} (h : f_X7_years x1 M = some R) : Mt E mX7_years [.ref 59, .int x1] M (PI R.1 R.2) := by
  refine mt_of (L0 := [some (.ref 59), some (.int x1)]) (by decide) rfl rfl (fun G hG hR => ?_)
  unfold f_X7_years at h
  refine v_iload_1 hG dX7_years_0 (q := 1) rfl ?_
  refine v_i2l hG dX7_years_1 (q := 2) rfl ?_
  refine v_lconst hG cl_1 dX7_years_2 (q := 3) rfl ?_
  refine v_ldc2 hG kl_RX7_154 dX7_years_3 (q := 6) rfl ?_
  obtain ⟨r_1, hr_1, h⟩ := bnd h
  refine v_cS3I hG csX7_in ml_RX7_43 rfl (w_X7_in hr_1) (Nat.le_of_ble_eq_true rfl) dX7_years_6 (q := 9) rfl ?_
  refine v_if_ne hG dX7_years_9 (tgt := 19) rfl (q := 12) rfl (fun hc => ?_) (fun hc => ?_)
  · replace h := ifn hc h
    refine v_aload_0 hG dX7_years_19 (q := 20) rfl ?_
    refine v_iload_1 hG dX7_years_20 (q := 21) rfl ?_
    obtain ⟨r_2, hr_2, h⟩ := bnd h
    refine v_cV1I hG cvX7_isTooLate ml_RX7_156 rfl kk_59 (w_X7_isTooLate hr_2) (Nat.le_of_ble_eq_true rfl) dX7_years_21 (q := 24) rfl ?_
    refine v_if_eq hG dX7_years_24 (tgt := 36) rfl (q := 27) rfl (fun hc => ?_) (fun hc => ?_)
    · replace h := ifp hc h
      refine v_aload_0 hG dX7_years_36 (q := 37) rfl ?_
      refine v_iload_1 hG dX7_years_37 (q := 38) rfl ?_
      obtain ⟨r_3, hr_3, h⟩ := bnd h
      refine v_cV1I hG cvX7_yearsGo ml_RX7_159 rfl kk_59 (w_X7_yearsGo hr_3) (Nat.le_of_ble_eq_true rfl) dX7_years_38 (q := 41) rfl ?_
      exact v_iret hG hR rfl rfl (sp2t h) dX7_years_41
    · replace h := ifn hc h
      refine v_aload_0 hG dX7_years_27 (q := 28) rfl ?_
      refine v_ldc hG kc_RX7_150 dX7_years_28 (q := 30) rfl ?_
      obtain ⟨r_4, hr_4, h⟩ := bnd h
      refine v_cV1I hG cvX7_finds ml_RX7_68 rfl kk_59 (w_X7_finds hr_4) (Nat.le_of_ble_eq_true rfl) dX7_years_30 (q := 33) rfl ?_
      refine v_goto hG dX7_years_33 (tgt := 41) rfl ?_
      exact v_iret hG hR rfl rfl (sp2t h) dX7_years_41
  · replace h := ifp hc h
    refine v_aload_0 hG dX7_years_12 (q := 13) rfl ?_
    refine v_ldc hG kc_RX7_40 dX7_years_13 (q := 15) rfl ?_
    obtain ⟨r_5, hr_5, h⟩ := bnd h
    refine v_cV1I hG cvX7_finds ml_RX7_68 rfl kk_59 (w_X7_finds hr_5) (Nat.le_of_ble_eq_true rfl) dX7_years_15 (q := 18) rfl ?_
    exact v_iret hG hR rfl rfl (sp2t h) dX7_years_18
theorem cvX7_years : CVo mX7_years 1 7 := ⟨moX7_years, mvX7_years, by decide, _, _, rfl⟩
theorem w_X7_money_b31 {E : EB} {G : GB} (hG : Gd E mX7_money G) {M : Mem} {R : Int32} (hR : Rt E mX7_money (PI R M) G) {k31 : Int32 → Int32 → Mem → Option (Int32)} (hk31 : ∀ (x1 : Int32) (x2 : Int32) (M' : Mem), k31 x1 x2 M' = some R → M' = M → V E G 31 [some (.ref 59), some (.int x1), some (.int x2)] [] M') {x1 : Int32} {x2 : Int32} (h : f_X7_money_b31 k31 x1 x2 M = some R) : V E G 31 [some (.ref 59), some (.int x1), some (.int x2)] [] M := by
  unfold f_X7_money_b31 at h
  refine v_iload_2 hG dX7_money_31 (q := 32) rfl ?_
  refine v_aload_0 hG dX7_money_32 (q := 33) rfl ?_
  refine gt_RX7_7 hG rfl kk_59 dX7_money_33 (q := 36) rfl ?_
  refine v_iconst hG ci_0 dX7_money_36 (q := 37) rfl ?_
  obtain ⟨c_4, h⟩ := ck_some h
  refine v_iald hG kk_60 rfl c_4 dX7_money_37 (q := 38) rfl ?_
  refine v_icmp_ge hG dX7_money_38 (tgt := 56) rfl (q := 41) rfl (fun hc => ?_) (fun hc => ?_)
  · replace h := ifp hc h
    refine v_iload_1 hG dX7_money_56 (q := 57) rfl ?_
    exact v_iret hG hR rfl rfl (sp1 h) dX7_money_57
  · replace h := ifn hc h
    refine v_iload_1 hG dX7_money_41 (q := 42) rfl ?_
    refine v_aload_0 hG dX7_money_42 (q := 43) rfl ?_
    refine v_iload_2 hG dX7_money_43 (q := 44) rfl ?_
    refine v_iconst hG ci_5 dX7_money_44 (q := 45) rfl ?_
    obtain ⟨r_5, hr_5, h⟩ := bnd h
    refine v_cV2I hG cvX7_its ml_RX7_81 rfl kk_59 (w_X7_its hr_5) (Nat.le_of_ble_eq_true rfl) dX7_money_45 (q := 48) rfl ?_
    refine v_iadd hG dX7_money_48 (q := 49) rfl ?_
    refine v_topi (fun x1_6 hy => ?_)
    replace h := letv_at hy h
    clear hy
    refine v_istore_1 hG rfl dX7_money_49 (q := 50) rfl ?_
    refine v_iinc_2 hG rfl dX7_money_50 (congrArg _ ci_1) (q := 53) rfl ?_
    refine v_goto hG dX7_money_53 (tgt := 31) rfl ?_
    exact hk31 _ _ _ h rfl
theorem w_X7_money_l31 {E : EB} {G : GB} (hG : Gd E mX7_money G) {M : Mem} {R : Int32} (hR : Rt E mX7_money (PI R M) G) : ∀ (n : Nat) (x1 : Int32) (x2 : Int32) (M' : Mem), f_X7_money_l31 n x1 x2 M' = some R → M' = M → V E G 31 [some (.ref 59), some (.int x1), some (.int x2)] [] M' := by
  intro n
  induction n with
  | zero => intro x1 x2 M' h; cases h
  | succ n ih => intro x1 x2 M' h e; subst e; exact w_X7_money_b31 hG hR ih h
theorem w_X7_money_b4 {E : EB} {G : GB} (hG : Gd E mX7_money G) {M : Mem} {R : Int32} (hR : Rt E mX7_money (PI R M) G) {k4 : Int32 → Int32 → Mem → Option (Int32)} (hk4 : ∀ (x1 : Int32) (x2 : Int32) (M' : Mem), k4 x1 x2 M' = some R → M' = M → V E G 4 [some (.ref 59), some (.int x1), some (.int x2)] [] M') {x1 : Int32} {x2 : Int32} (h : f_X7_money_b4 k4 x1 x2 M = some R) : V E G 4 [some (.ref 59), some (.int x1), some (.int x2)] [] M := by
  unfold f_X7_money_b4 at h
  refine v_iload_2 hG dX7_money_4 (q := 5) rfl ?_
  refine v_aload_0 hG dX7_money_5 (q := 6) rfl ?_
  refine gt_RX7_7 hG rfl kk_59 dX7_money_6 (q := 9) rfl ?_
  refine v_iconst hG ci_1 dX7_money_9 (q := 10) rfl ?_
  obtain ⟨c_1, h⟩ := ck_some h
  refine v_iald hG kk_60 rfl c_1 dX7_money_10 (q := 11) rfl ?_
  refine v_icmp_ge hG dX7_money_11 (tgt := 29) rfl (q := 14) rfl (fun hc => ?_) (fun hc => ?_)
  · replace h := ifp hc h
    refine v_iconst hG ci_0 dX7_money_29 (q := 30) rfl ?_
    refine v_istore_2 hG rfl dX7_money_30 (q := 31) rfl ?_
    exact w_X7_money_l31 hG hR FU _ _ _ h rfl
  · replace h := ifn hc h
    refine v_iload_1 hG dX7_money_14 (q := 15) rfl ?_
    refine v_aload_0 hG dX7_money_15 (q := 16) rfl ?_
    refine v_iload_2 hG dX7_money_16 (q := 17) rfl ?_
    refine v_iconst hG ci_3 dX7_money_17 (q := 18) rfl ?_
    obtain ⟨r_2, hr_2, h⟩ := bnd h
    refine v_cV2I hG cvX7_told ml_RX7_90 rfl kk_59 (w_X7_told hr_2) (Nat.le_of_ble_eq_true rfl) dX7_money_18 (q := 21) rfl ?_
    refine v_iadd hG dX7_money_21 (q := 22) rfl ?_
    refine v_topi (fun x1_3 hy => ?_)
    replace h := letv_at hy h
    clear hy
    refine v_istore_1 hG rfl dX7_money_22 (q := 23) rfl ?_
    refine v_iinc_2 hG rfl dX7_money_23 (congrArg _ ci_1) (q := 26) rfl ?_
    refine v_goto hG dX7_money_26 (tgt := 4) rfl ?_
    exact hk4 _ _ _ h rfl
theorem w_X7_money_l4 {E : EB} {G : GB} (hG : Gd E mX7_money G) {M : Mem} {R : Int32} (hR : Rt E mX7_money (PI R M) G) : ∀ (n : Nat) (x1 : Int32) (x2 : Int32) (M' : Mem), f_X7_money_l4 n x1 x2 M' = some R → M' = M → V E G 4 [some (.ref 59), some (.int x1), some (.int x2)] [] M' := by
  intro n
  induction n with
  | zero => intro x1 x2 M' h; cases h
  | succ n ih => intro x1 x2 M' h e; subst e; exact w_X7_money_b4 hG hR ih h
theorem w_X7_money {E : EB} {M : Mem} {R : Int32} (h : f_X7_money M = some R) : Mt E mX7_money [.ref 59] M (PI R M) := by
  refine mt_of (L0 := [some (.ref 59), none, none]) (by decide) rfl rfl (fun G hG hR => ?_)
  unfold f_X7_money at h
  refine v_iconst hG ci_0 dX7_money_0 (q := 1) rfl ?_
  refine v_istore_1 hG rfl dX7_money_1 (q := 2) rfl ?_
  refine v_iconst hG ci_0 dX7_money_2 (q := 3) rfl ?_
  refine v_istore_2 hG rfl dX7_money_3 (q := 4) rfl ?_
  exact w_X7_money_l4 hG hR FU _ _ _ h rfl
theorem cvX7_money : CVo mX7_money 0 7 := ⟨moX7_money, mvX7_money, by decide, _, _, rfl⟩
theorem w_X7_tieMany_b4 {E : EB} {G : GB} (hG : Gd E mX7_tieMany G) {M : Mem} {R : Int32} (hR : Rt E mX7_tieMany (PI R M) G) {k4 : Int32 → Int32 → Mem → Option (Int32)} (hk4 : ∀ (x1 : Int32) (x2 : Int32) (M' : Mem), k4 x1 x2 M' = some R → M' = M → V E G 4 [some (.ref 59), some (.int x1), some (.int x2)] [] M') {x1 : Int32} {x2 : Int32} (h : f_X7_tieMany_b4 k4 x1 x2 M = some R) : V E G 4 [some (.ref 59), some (.int x1), some (.int x2)] [] M := by
  unfold f_X7_tieMany_b4 at h
  refine v_iload_2 hG dX7_tieMany_4 (q := 5) rfl ?_
  refine v_aload_0 hG dX7_tieMany_5 (q := 6) rfl ?_
  refine gt_RX7_7 hG rfl kk_59 dX7_tieMany_6 (q := 9) rfl ?_
  refine v_iconst hG ci_1 dX7_tieMany_9 (q := 10) rfl ?_
  obtain ⟨c_1, h⟩ := ck_some h
  refine v_iald hG kk_60 rfl c_1 dX7_tieMany_10 (q := 11) rfl ?_
  refine v_icmp_ge hG dX7_tieMany_11 (tgt := 35) rfl (q := 14) rfl (fun hc => ?_) (fun hc => ?_)
  · replace h := ifp hc h
    refine v_iload_1 hG dX7_tieMany_35 (q := 36) rfl ?_
    refine v_iconst hG ci_2 dX7_tieMany_36 (q := 37) rfl ?_
    refine v_idiv hG (by decide) dX7_tieMany_37 (q := 38) rfl ?_
    exact v_iret hG hR rfl rfl (sp1 h) dX7_tieMany_38
  · replace h := ifn hc h
    refine v_iload_1 hG dX7_tieMany_14 (q := 15) rfl ?_
    refine v_aload_0 hG dX7_tieMany_15 (q := 16) rfl ?_
    refine gt_RX7_7 hG rfl kk_59 dX7_tieMany_16 (q := 19) rfl ?_
    refine v_bipush hG cb_81 dX7_tieMany_19 (q := 21) rfl ?_
    refine v_iload_2 hG dX7_tieMany_21 (q := 22) rfl ?_
    refine v_iadd hG dX7_tieMany_22 (q := 23) rfl ?_
    obtain ⟨c_2, h⟩ := ck_some h
    refine v_iald hG kk_60 rfl c_2 dX7_tieMany_23 (q := 24) rfl ?_
    obtain ⟨r_3, hr_3, h⟩ := bnd h
    refine v_cS1I hG csX7_ones ml_RX7_162 rfl (w_X7_ones hr_3) (Nat.le_of_ble_eq_true rfl) dX7_tieMany_24 (q := 27) rfl ?_
    refine v_iadd hG dX7_tieMany_27 (q := 28) rfl ?_
    refine v_topi (fun x1_4 hy => ?_)
    replace h := letv_at hy h
    clear hy
    refine v_istore_1 hG rfl dX7_tieMany_28 (q := 29) rfl ?_
    refine v_iinc_2 hG rfl dX7_tieMany_29 (congrArg _ ci_1) (q := 32) rfl ?_
    refine v_goto hG dX7_tieMany_32 (tgt := 4) rfl ?_
    exact hk4 _ _ _ h rfl
theorem w_X7_tieMany_l4 {E : EB} {G : GB} (hG : Gd E mX7_tieMany G) {M : Mem} {R : Int32} (hR : Rt E mX7_tieMany (PI R M) G) : ∀ (n : Nat) (x1 : Int32) (x2 : Int32) (M' : Mem), f_X7_tieMany_l4 n x1 x2 M' = some R → M' = M → V E G 4 [some (.ref 59), some (.int x1), some (.int x2)] [] M' := by
  intro n
  induction n with
  | zero => intro x1 x2 M' h; cases h
  | succ n ih => intro x1 x2 M' h e; subst e; exact w_X7_tieMany_b4 hG hR ih h
theorem w_X7_tieMany {E : EB} {M : Mem} {R : Int32} (h : f_X7_tieMany M = some R) : Mt E mX7_tieMany [.ref 59] M (PI R M) := by
  refine mt_of (L0 := [some (.ref 59), none, none]) (by decide) rfl rfl (fun G hG hR => ?_)
  unfold f_X7_tieMany at h
  refine v_iconst hG ci_0 dX7_tieMany_0 (q := 1) rfl ?_
  refine v_istore_1 hG rfl dX7_tieMany_1 (q := 2) rfl ?_
  refine v_iconst hG ci_0 dX7_tieMany_2 (q := 3) rfl ?_
  refine v_istore_2 hG rfl dX7_tieMany_3 (q := 4) rfl ?_
  exact w_X7_tieMany_l4 hG hR FU _ _ _ h rfl
theorem cvX7_tieMany : CVo mX7_tieMany 0 7 := ⟨moX7_tieMany, mvX7_tieMany, by decide, _, _, rfl⟩
theorem w_X7_now {E : EB} {x1 : Int32} {M : Mem} {R : Int32 × Mem} (h : f_X7_now x1 M = some R) : Mt E mX7_now [.ref 59, .int x1] M (PI R.1 R.2) := by
  refine mt_of (L0 := [some (.ref 59), some (.int x1)]) (by decide) rfl rfl (fun G hG hR => ?_)
  unfold f_X7_now at h
  refine v_iload_1 hG dX7_now_0 (q := 1) rfl ?_
  by_cases e0 : x1 = (0 : Int32)
  · refine v_tabIn hG dX7_now_1 (tgt := 40) (by rw [e0]; decide) (by rw [e0]; decide) (by rw [e0]; rfl) rfl ?_
    replace h := ifp e0 h
    refine v_aload_0 hG dX7_now_40 (q := 41) rfl ?_
    refine gt_RX7_7 hG rfl kk_59 dX7_now_41 (q := 44) rfl ?_
    refine v_iconst hG ci_3 dX7_now_44 (q := 45) rfl ?_
    obtain ⟨c_1, h⟩ := ck_some h
    refine v_iald hG kk_60 rfl c_1 dX7_now_45 (q := 46) rfl ?_
    exact v_iret hG hR rfl rfl (sp2t h) dX7_now_46
  replace h := ifn e0 h
  by_cases e1 : x1 = (1 : Int32)
  · refine v_tabIn hG dX7_now_1 (tgt := 47) (by rw [e1]; decide) (by rw [e1]; decide) (by rw [e1]; rfl) rfl ?_
    replace h := ifp e1 h
    refine v_aload_0 hG dX7_now_47 (q := 48) rfl ?_
    refine gt_RX7_7 hG rfl kk_59 dX7_now_48 (q := 51) rfl ?_
    refine v_iconst hG ci_4 dX7_now_51 (q := 52) rfl ?_
    obtain ⟨c_2, h⟩ := ck_some h
    refine v_iald hG kk_60 rfl c_2 dX7_now_52 (q := 53) rfl ?_
    exact v_iret hG hR rfl rfl (sp2t h) dX7_now_53
  replace h := ifn e1 h
  by_cases e2 : x1 = (2 : Int32)
  · refine v_tabIn hG dX7_now_1 (tgt := 54) (by rw [e2]; decide) (by rw [e2]; decide) (by rw [e2]; rfl) rfl ?_
    replace h := ifp e2 h
    refine v_aload_0 hG dX7_now_54 (q := 55) rfl ?_
    obtain ⟨r_3, hr_3, h⟩ := bnd h
    refine v_cV0I hG cvX7_tieMany ml_RX7_165 rfl kk_59 (w_X7_tieMany hr_3) (Nat.le_of_ble_eq_true rfl) dX7_now_55 (q := 58) rfl ?_
    exact v_iret hG hR rfl rfl (sp2t h) dX7_now_58
  replace h := ifn e2 h
  by_cases e3 : x1 = (3 : Int32)
  · refine v_tabIn hG dX7_now_1 (tgt := 59) (by rw [e3]; decide) (by rw [e3]; decide) (by rw [e3]; rfl) rfl ?_
    replace h := ifp e3 h
    refine v_aload_0 hG dX7_now_59 (q := 60) rfl ?_
    refine v_iconst hG ci_0 dX7_now_60 (q := 61) rfl ?_
    obtain ⟨r_4, hr_4, h⟩ := bnd h
    refine v_cV1I hG cvX7_anybody ml_RX7_93 rfl kk_59 (w_X7_anybody hr_4) (Nat.le_of_ble_eq_true rfl) dX7_now_61 (q := 64) rfl ?_
    exact v_iret hG hR rfl rfl (sp2t h) dX7_now_64
  replace h := ifn e3 h
  by_cases e4 : x1 = (4 : Int32)
  · refine v_tabIn hG dX7_now_1 (tgt := 65) (by rw [e4]; decide) (by rw [e4]; decide) (by rw [e4]; rfl) rfl ?_
    replace h := ifp e4 h
    refine v_aload_0 hG dX7_now_65 (q := 66) rfl ?_
    refine v_iconst hG ci_1 dX7_now_66 (q := 67) rfl ?_
    obtain ⟨r_5, hr_5, h⟩ := bnd h
    refine v_cV1I hG cvX7_anybody ml_RX7_93 rfl kk_59 (w_X7_anybody hr_5) (Nat.le_of_ble_eq_true rfl) dX7_now_67 (q := 70) rfl ?_
    exact v_iret hG hR rfl rfl (sp2t h) dX7_now_70
  replace h := ifn e4 h
  by_cases e5 : x1 = (5 : Int32)
  · refine v_tabIn hG dX7_now_1 (tgt := 71) (by rw [e5]; decide) (by rw [e5]; decide) (by rw [e5]; rfl) rfl ?_
    replace h := ifp e5 h
    refine v_aload_0 hG dX7_now_71 (q := 72) rfl ?_
    obtain ⟨r_6, hr_6, h⟩ := bnd h
    refine v_cV0I hG cvX7_money ml_RX7_169 rfl kk_59 (w_X7_money hr_6) (Nat.le_of_ble_eq_true rfl) dX7_now_72 (q := 75) rfl ?_
    exact v_iret hG hR rfl rfl (sp2t h) dX7_now_75
  replace h := ifn e5 h
  have u0 := sw_ne (n := 0) e0
  have u1 := sw_ne (n := 1) e1
  have u2 := sw_ne (n := 2) e2
  have u3 := sw_ne (n := 3) e3
  have u4 := sw_ne (n := 4) e4
  have u5 := sw_ne (n := 5) e5
  refine v_tabOut hG dX7_now_1 (tgt := 76) (by omega) rfl ?_
  refine v_aload_0 hG dX7_now_76 (q := 77) rfl ?_
  refine v_ldc hG kc_RX7_40 dX7_now_77 (q := 79) rfl ?_
  obtain ⟨r_7, hr_7, h⟩ := bnd h
  refine v_cV1I hG cvX7_finds ml_RX7_68 rfl kk_59 (w_X7_finds hr_7) (Nat.le_of_ble_eq_true rfl) dX7_now_79 (q := 82) rfl ?_
  exact v_iret hG hR rfl rfl (sp2t h) dX7_now_82
theorem cvX7_now : CVo mX7_now 1 7 := ⟨moX7_now, mvX7_now, by decide, _, _, rfl⟩
theorem w_X7_whoBelieves_b4 {E : EB} {G : GB} (hG : Gd E mX7_whoBelieves G) {M : Mem} {R : Int32} (hR : Rt E mX7_whoBelieves (PI R M) G) {k4 : Int32 → Int32 → Int32 → Mem → Option (Int32)} (hk4 : ∀ (x1 : Int32) (x2 : Int32) (x3 : Int32) (M' : Mem), k4 x1 x2 x3 M' = some R → M' = M → V E G 4 [some (.ref 59), some (.int x1), some (.int x2), some (.int x3)] [] M') {x1 : Int32} {x2 : Int32} {x3 : Int32} (h : f_X7_whoBelieves_b4 k4 x1 x2 x3 M = some R) : V E G 4 [some (.ref 59), some (.int x1), some (.int x2), some (.int x3)] [] M := by
  unfold f_X7_whoBelieves_b4 at h
  refine v_iload_3 hG dX7_whoBelieves_4 (q := 5) rfl ?_
  refine v_aload_0 hG dX7_whoBelieves_5 (q := 6) rfl ?_
  refine gt_RX7_7 hG rfl kk_59 dX7_whoBelieves_6 (q := 9) rfl ?_
  refine v_iconst hG ci_1 dX7_whoBelieves_9 (q := 10) rfl ?_
  obtain ⟨c_1, h⟩ := ck_some h
  refine v_iald hG kk_60 rfl c_1 dX7_whoBelieves_10 (q := 11) rfl ?_
  refine v_icmp_ge hG dX7_whoBelieves_11 (tgt := 43) rfl (q := 14) rfl (fun hc => ?_) (fun hc => ?_)
  · replace h := ifp hc h
    refine v_iload_2 hG dX7_whoBelieves_43 (q := 44) rfl ?_
    exact v_iret hG hR rfl rfl (sp1 h) dX7_whoBelieves_44
  · replace h := ifn hc h
    refine v_iload_2 hG dX7_whoBelieves_14 (q := 15) rfl ?_
    refine v_aload_0 hG dX7_whoBelieves_15 (q := 16) rfl ?_
    refine v_iload_3 hG dX7_whoBelieves_16 (q := 17) rfl ?_
    refine v_iconst hG ci_1 dX7_whoBelieves_17 (q := 18) rfl ?_
    obtain ⟨r_2, hr_2, h⟩ := bnd h
    refine v_cV2I hG cvX7_told ml_RX7_90 rfl kk_59 (w_X7_told hr_2) (Nat.le_of_ble_eq_true rfl) dX7_whoBelieves_18 (q := 21) rfl ?_
    refine v_iload_1 hG dX7_whoBelieves_21 (q := 22) rfl ?_
    obtain ⟨r_3, hr_3, h⟩ := bnd h
    refine v_cS2I hG csX7_has ml_RX7_110 rfl (w_X7_has hr_3) (Nat.le_of_ble_eq_true rfl) dX7_whoBelieves_22 (q := 25) rfl ?_
    refine v_if_eq hG dX7_whoBelieves_25 (tgt := 34) rfl (q := 28) rfl (fun hc => ?_) (fun hc => ?_)
    · replace h := ifp hc h
      refine v_iconst hG ci_0 dX7_whoBelieves_34 (q := 35) rfl ?_
      refine v_ior hG dX7_whoBelieves_35 (q := 36) rfl ?_
      refine v_topi (fun x2_4 hy => ?_)
      replace h := letv_at hy h
      clear hy
      refine v_istore_2 hG rfl dX7_whoBelieves_36 (q := 37) rfl ?_
      refine v_iinc_3 hG rfl dX7_whoBelieves_37 (congrArg _ ci_1) (q := 40) rfl ?_
      refine v_goto hG dX7_whoBelieves_40 (tgt := 4) rfl ?_
      exact hk4 _ _ _ _ h rfl
    · replace h := ifn hc h
      refine v_iconst hG ci_1 dX7_whoBelieves_28 (q := 29) rfl ?_
      refine v_iload_3 hG dX7_whoBelieves_29 (q := 30) rfl ?_
      refine v_ishl hG dX7_whoBelieves_30 (q := 31) rfl ?_
      refine v_goto hG dX7_whoBelieves_31 (tgt := 35) rfl ?_
      refine v_ior hG dX7_whoBelieves_35 (q := 36) rfl ?_
      refine v_topi (fun x2_5 hy => ?_)
      replace h := letv_at hy h
      clear hy
      refine v_istore_2 hG rfl dX7_whoBelieves_36 (q := 37) rfl ?_
      refine v_iinc_3 hG rfl dX7_whoBelieves_37 (congrArg _ ci_1) (q := 40) rfl ?_
      refine v_goto hG dX7_whoBelieves_40 (tgt := 4) rfl ?_
      exact hk4 _ _ _ _ h rfl
theorem w_X7_whoBelieves_l4 {E : EB} {G : GB} (hG : Gd E mX7_whoBelieves G) {M : Mem} {R : Int32} (hR : Rt E mX7_whoBelieves (PI R M) G) : ∀ (n : Nat) (x1 : Int32) (x2 : Int32) (x3 : Int32) (M' : Mem), f_X7_whoBelieves_l4 n x1 x2 x3 M' = some R → M' = M → V E G 4 [some (.ref 59), some (.int x1), some (.int x2), some (.int x3)] [] M' := by
  intro n
  induction n with
  | zero => intro x1 x2 x3 M' h; cases h
  | succ n ih => intro x1 x2 x3 M' h e; subst e; exact w_X7_whoBelieves_b4 hG hR ih h
theorem w_X7_whoBelieves {E : EB} {x1 : Int32} {M : Mem} {R : Int32} (h : f_X7_whoBelieves x1 M = some R) : Mt E mX7_whoBelieves [.ref 59, .int x1] M (PI R M) := by
  refine mt_of (L0 := [some (.ref 59), some (.int x1), none, none]) (by decide) rfl rfl (fun G hG hR => ?_)
  unfold f_X7_whoBelieves at h
  refine v_iconst hG ci_0 dX7_whoBelieves_0 (q := 1) rfl ?_
  refine v_istore_2 hG rfl dX7_whoBelieves_1 (q := 2) rfl ?_
  refine v_iconst hG ci_0 dX7_whoBelieves_2 (q := 3) rfl ?_
  refine v_istore_3 hG rfl dX7_whoBelieves_3 (q := 4) rfl ?_
  exact w_X7_whoBelieves_l4 hG hR FU _ _ _ _ h rfl
theorem cvX7_whoBelieves : CVo mX7_whoBelieves 1 7 := ⟨moX7_whoBelieves, mvX7_whoBelieves, by decide, _, _, rfl⟩
theorem w_X7_who {E : EB} {x1 : Int32} {M : Mem} {R : Int32 × Mem} (h : f_X7_who x1 M = some R) : Mt E mX7_who [.ref 59, .int x1] M (PI R.1 R.2) := by
  refine mt_of (L0 := [some (.ref 59), some (.int x1)]) (by decide) rfl rfl (fun G hG hR => ?_)
  unfold f_X7_who at h
  refine v_iload_1 hG dX7_who_0 (q := 1) rfl ?_
  obtain ⟨r_1, hr_1, h⟩ := bnd h
  refine v_cS1I hG csX7_isMark ml_RX7_172 rfl (w_X7_isMark hr_1) (Nat.le_of_ble_eq_true rfl) dX7_who_1 (q := 4) rfl ?_
  refine v_if_eq hG dX7_who_4 (tgt := 15) rfl (q := 7) rfl (fun hc => ?_) (fun hc => ?_)
  · replace h := ifp hc h
    refine v_aload_0 hG dX7_who_15 (q := 16) rfl ?_
    refine v_ldc hG kc_RX7_40 dX7_who_16 (q := 18) rfl ?_
    obtain ⟨r_2, hr_2, h⟩ := bnd h
    refine v_cV1I hG cvX7_finds ml_RX7_68 rfl kk_59 (w_X7_finds hr_2) (Nat.le_of_ble_eq_true rfl) dX7_who_18 (q := 21) rfl ?_
    exact v_iret hG hR rfl rfl (sp2t h) dX7_who_21
  · replace h := ifn hc h
    refine v_aload_0 hG dX7_who_7 (q := 8) rfl ?_
    refine v_iload_1 hG dX7_who_8 (q := 9) rfl ?_
    obtain ⟨r_3, hr_3, h⟩ := bnd h
    refine v_cV1I hG cvX7_whoBelieves ml_RX7_175 rfl kk_59 (w_X7_whoBelieves hr_3) (Nat.le_of_ble_eq_true rfl) dX7_who_9 (q := 12) rfl ?_
    refine v_goto hG dX7_who_12 (tgt := 21) rfl ?_
    exact v_iret hG hR rfl rfl (sp2t h) dX7_who_21
theorem cvX7_who : CVo mX7_who 1 7 := ⟨moX7_who, mvX7_who, by decide, _, _, rfl⟩
theorem w_X7_poor_b4 {E : EB} {G : GB} (hG : Gd E mX7_poor G) {M : Mem} {R : Int32} (hR : Rt E mX7_poor (PI R M) G) {k4 : Int32 → Int32 → Mem → Option (Int32)} (hk4 : ∀ (x1 : Int32) (x2 : Int32) (M' : Mem), k4 x1 x2 M' = some R → M' = M → V E G 4 [some (.ref 59), some (.int x1), some (.int x2)] [] M') {x1 : Int32} {x2 : Int32} (h : f_X7_poor_b4 k4 x1 x2 M = some R) : V E G 4 [some (.ref 59), some (.int x1), some (.int x2)] [] M := by
  unfold f_X7_poor_b4 at h
  refine v_iload_2 hG dX7_poor_4 (q := 5) rfl ?_
  refine v_aload_0 hG dX7_poor_5 (q := 6) rfl ?_
  refine gt_RX7_7 hG rfl kk_59 dX7_poor_6 (q := 9) rfl ?_
  refine v_iconst hG ci_1 dX7_poor_9 (q := 10) rfl ?_
  obtain ⟨c_1, h⟩ := ck_some h
  refine v_iald hG kk_60 rfl c_1 dX7_poor_10 (q := 11) rfl ?_
  refine v_icmp_ge hG dX7_poor_11 (tgt := 44) rfl (q := 14) rfl (fun hc => ?_) (fun hc => ?_)
  · replace h := ifp hc h
    refine v_iload_1 hG dX7_poor_44 (q := 45) rfl ?_
    exact v_iret hG hR rfl rfl (sp1 h) dX7_poor_45
  · replace h := ifn hc h
    refine v_iload_1 hG dX7_poor_14 (q := 15) rfl ?_
    refine v_aload_0 hG dX7_poor_15 (q := 16) rfl ?_
    refine v_iload_2 hG dX7_poor_16 (q := 17) rfl ?_
    refine v_iconst hG ci_3 dX7_poor_17 (q := 18) rfl ?_
    obtain ⟨r_2, hr_2, h⟩ := bnd h
    refine v_cV2I hG cvX7_told ml_RX7_90 rfl kk_59 (w_X7_told hr_2) (Nat.le_of_ble_eq_true rfl) dX7_poor_18 (q := 21) rfl ?_
    refine v_aload_0 hG dX7_poor_21 (q := 22) rfl ?_
    refine v_iload_2 hG dX7_poor_22 (q := 23) rfl ?_
    obtain ⟨r_3, hr_3, h⟩ := bnd h
    refine v_cV1I hG cvX7_costOf ml_RX7_135 rfl kk_59 (w_X7_costOf hr_3) (Nat.le_of_ble_eq_true rfl) dX7_poor_23 (q := 26) rfl ?_
    refine v_icmp_ge hG dX7_poor_26 (tgt := 35) rfl (q := 29) rfl (fun hc => ?_) (fun hc => ?_)
    · replace h := ifp hc h
      refine v_iconst hG ci_0 dX7_poor_35 (q := 36) rfl ?_
      refine v_ior hG dX7_poor_36 (q := 37) rfl ?_
      refine v_topi (fun x1_4 hy => ?_)
      replace h := letv_at hy h
      clear hy
      refine v_istore_1 hG rfl dX7_poor_37 (q := 38) rfl ?_
      refine v_iinc_2 hG rfl dX7_poor_38 (congrArg _ ci_1) (q := 41) rfl ?_
      refine v_goto hG dX7_poor_41 (tgt := 4) rfl ?_
      exact hk4 _ _ _ h rfl
    · replace h := ifn hc h
      refine v_iconst hG ci_1 dX7_poor_29 (q := 30) rfl ?_
      refine v_iload_2 hG dX7_poor_30 (q := 31) rfl ?_
      refine v_ishl hG dX7_poor_31 (q := 32) rfl ?_
      refine v_goto hG dX7_poor_32 (tgt := 36) rfl ?_
      refine v_ior hG dX7_poor_36 (q := 37) rfl ?_
      refine v_topi (fun x1_5 hy => ?_)
      replace h := letv_at hy h
      clear hy
      refine v_istore_1 hG rfl dX7_poor_37 (q := 38) rfl ?_
      refine v_iinc_2 hG rfl dX7_poor_38 (congrArg _ ci_1) (q := 41) rfl ?_
      refine v_goto hG dX7_poor_41 (tgt := 4) rfl ?_
      exact hk4 _ _ _ h rfl
theorem w_X7_poor_l4 {E : EB} {G : GB} (hG : Gd E mX7_poor G) {M : Mem} {R : Int32} (hR : Rt E mX7_poor (PI R M) G) : ∀ (n : Nat) (x1 : Int32) (x2 : Int32) (M' : Mem), f_X7_poor_l4 n x1 x2 M' = some R → M' = M → V E G 4 [some (.ref 59), some (.int x1), some (.int x2)] [] M' := by
  intro n
  induction n with
  | zero => intro x1 x2 M' h; cases h
  | succ n ih => intro x1 x2 M' h e; subst e; exact w_X7_poor_b4 hG hR ih h
theorem w_X7_poor {E : EB} {M : Mem} {R : Int32} (h : f_X7_poor M = some R) : Mt E mX7_poor [.ref 59] M (PI R M) := by
  refine mt_of (L0 := [some (.ref 59), none, none]) (by decide) rfl rfl (fun G hG hR => ?_)
  unfold f_X7_poor at h
  refine v_iconst hG ci_0 dX7_poor_0 (q := 1) rfl ?_
  refine v_istore_1 hG rfl dX7_poor_1 (q := 2) rfl ?_
  refine v_iconst hG ci_0 dX7_poor_2 (q := 3) rfl ?_
  refine v_istore_2 hG rfl dX7_poor_3 (q := 4) rfl ?_
  exact w_X7_poor_l4 hG hR FU _ _ _ h rfl
theorem cvX7_poor : CVo mX7_poor 0 7 := ⟨moX7_poor, mvX7_poor, by decide, _, _, rfl⟩
theorem w_X7_everybody_b19 {E : EB} {G : GB} (hG : Gd E mX7_everybody G) {M : Mem} {R : Int32} (hR : Rt E mX7_everybody (PI R M) G) {k19 : Int32 → Int32 → Mem → Option (Int32)} (hk19 : ∀ (x1 : Int32) (x2 : Int32) (M' : Mem), k19 x1 x2 M' = some R → M' = M → V E G 19 [some (.ref 59), some (.int x1), some (.int x2)] [] M') {x1 : Int32} {x2 : Int32} (h : f_X7_everybody_b19 k19 x1 x2 M = some R) : V E G 19 [some (.ref 59), some (.int x1), some (.int x2)] [] M := by
  unfold f_X7_everybody_b19 at h
  refine v_iload_2 hG dX7_everybody_19 (q := 20) rfl ?_
  refine v_aload_0 hG dX7_everybody_20 (q := 21) rfl ?_
  refine gt_RX7_7 hG rfl kk_59 dX7_everybody_21 (q := 24) rfl ?_
  refine v_iconst hG ci_1 dX7_everybody_24 (q := 25) rfl ?_
  obtain ⟨c_2, h⟩ := ck_some h
  refine v_iald hG kk_60 rfl c_2 dX7_everybody_25 (q := 26) rfl ?_
  refine v_icmp_ge hG dX7_everybody_26 (tgt := 44) rfl (q := 29) rfl (fun hc => ?_) (fun hc => ?_)
  · replace h := ifp hc h
    refine v_iload_1 hG dX7_everybody_44 (q := 45) rfl ?_
    exact v_iret hG hR rfl rfl (sp1 h) dX7_everybody_45
  · replace h := ifn hc h
    refine v_iload_1 hG dX7_everybody_29 (q := 30) rfl ?_
    refine v_aload_0 hG dX7_everybody_30 (q := 31) rfl ?_
    refine v_iload_2 hG dX7_everybody_31 (q := 32) rfl ?_
    refine v_iconst hG ci_1 dX7_everybody_32 (q := 33) rfl ?_
    obtain ⟨r_3, hr_3, h⟩ := bnd h
    refine v_cV2I hG cvX7_told ml_RX7_90 rfl kk_59 (w_X7_told hr_3) (Nat.le_of_ble_eq_true rfl) dX7_everybody_33 (q := 36) rfl ?_
    refine v_iand hG dX7_everybody_36 (q := 37) rfl ?_
    refine v_topi (fun x1_4 hy => ?_)
    replace h := letv_at hy h
    clear hy
    refine v_istore_1 hG rfl dX7_everybody_37 (q := 38) rfl ?_
    refine v_iinc_2 hG rfl dX7_everybody_38 (congrArg _ ci_1) (q := 41) rfl ?_
    refine v_goto hG dX7_everybody_41 (tgt := 19) rfl ?_
    exact hk19 _ _ _ h rfl
theorem w_X7_everybody_l19 {E : EB} {G : GB} (hG : Gd E mX7_everybody G) {M : Mem} {R : Int32} (hR : Rt E mX7_everybody (PI R M) G) : ∀ (n : Nat) (x1 : Int32) (x2 : Int32) (M' : Mem), f_X7_everybody_l19 n x1 x2 M' = some R → M' = M → V E G 19 [some (.ref 59), some (.int x1), some (.int x2)] [] M' := by
  intro n
  induction n with
  | zero => intro x1 x2 M' h; cases h
  | succ n ih => intro x1 x2 M' h e; subst e; exact w_X7_everybody_b19 hG hR ih h
theorem w_X7_everybody {E : EB} {M : Mem} {R : Int32} (h : f_X7_everybody M = some R) : Mt E mX7_everybody [.ref 59] M (PI R M) := by
  refine mt_of (L0 := [some (.ref 59), none, none]) (by decide) rfl rfl (fun G hG hR => ?_)
  unfold f_X7_everybody at h
  refine v_aload_0 hG dX7_everybody_0 (q := 1) rfl ?_
  refine gt_RX7_7 hG rfl kk_59 dX7_everybody_1 (q := 4) rfl ?_
  refine v_iconst hG ci_1 dX7_everybody_4 (q := 5) rfl ?_
  obtain ⟨c_1, h⟩ := ck_some h
  refine v_iald hG kk_60 rfl c_1 dX7_everybody_5 (q := 6) rfl ?_
  refine v_if_ne hG dX7_everybody_6 (tgt := 13) rfl (q := 9) rfl (fun hc => ?_) (fun hc => ?_)
  · replace h := ifn hc h
    refine v_sipush hG cs_4095 dX7_everybody_13 (q := 16) rfl ?_
    refine v_istore_1 hG rfl dX7_everybody_16 (q := 17) rfl ?_
    refine v_iconst hG ci_0 dX7_everybody_17 (q := 18) rfl ?_
    refine v_istore_2 hG rfl dX7_everybody_18 (q := 19) rfl ?_
    exact w_X7_everybody_l19 hG hR FU _ _ _ h rfl
  · replace h := ifp hc h
    refine v_iconst hG ci_0 dX7_everybody_9 (q := 10) rfl ?_
    refine v_goto hG dX7_everybody_10 (tgt := 16) rfl ?_
    refine v_istore_1 hG rfl dX7_everybody_16 (q := 17) rfl ?_
    refine v_iconst hG ci_0 dX7_everybody_17 (q := 18) rfl ?_
    refine v_istore_2 hG rfl dX7_everybody_18 (q := 19) rfl ?_
    exact w_X7_everybody_l19 hG hR FU _ _ _ h rfl
theorem cvX7_everybody : CVo mX7_everybody 0 7 := ⟨moX7_everybody, mvX7_everybody, by decide, _, _, rfl⟩
theorem w_X7_isSpan {E : EB} {x0 : Int32} {M : Mem} {R : Bool} (h : f_X7_isSpan x0 M = some R) : Mt E mX7_isSpan [.int x0] M (PI (b2i R) M) := by
  refine mt_of (L0 := [some (.int x0)]) (by decide) rfl rfl (fun G hG hR => ?_)
  unfold f_X7_isSpan at h
  refine v_iload_0 hG dX7_isSpan_0 (q := 1) rfl ?_
  refine v_i2l hG dX7_isSpan_1 (q := 2) rfl ?_
  refine v_lconst hG cl_0 dX7_isSpan_2 (q := 3) rfl ?_
  refine v_ldc2 hG kl_RX7_178 dX7_isSpan_3 (q := 6) rfl ?_
  obtain ⟨r_1, hr_1, h⟩ := bnd h
  refine v_cS3I hG csX7_in ml_RX7_43 rfl (w_X7_in hr_1) (Nat.le_of_ble_eq_true rfl) dX7_isSpan_6 (q := 9) rfl ?_
  exact v_iret hG hR rfl (b2i_nar _) (sp1b h) dX7_isSpan_9
theorem csX7_isSpan : CSo mX7_isSpan 1 := ⟨moX7_isSpan, msX7_isSpan⟩
theorem w_X7_ahead {E : EB} {x1 : Int32} {x2 : Int32} {M : Mem} {R : Int32 × Mem} (h : f_X7_ahead x1 x2 M = some R) : Mt E mX7_ahead [.ref 59, .int x1, .int x2] M (PI R.1 R.2) := by
  refine mt_of (L0 := [some (.ref 59), some (.int x1), some (.int x2), none, none]) (by decide) rfl rfl (fun G hG hR => ?_)
  unfold f_X7_ahead at h
  refine v_iload_1 hG dX7_ahead_0 (q := 1) rfl ?_
  obtain ⟨r_1, hr_1, h⟩ := bnd h
  refine v_cS1I hG csX7_isSpan ml_RX7_180 rfl (w_X7_isSpan hr_1) (Nat.le_of_ble_eq_true rfl) dX7_ahead_1 (q := 4) rfl ?_
  refine v_if_eq hG dX7_ahead_4 (tgt := 25) rfl (q := 7) rfl (fun hc => ?_) (fun hc => ?_)
  · replace h := ifp hc h
    refine v_aload_0 hG dX7_ahead_25 (q := 26) rfl ?_
    refine v_ldc hG kc_RX7_40 dX7_ahead_26 (q := 28) rfl ?_
    obtain ⟨r_2, hr_2, h⟩ := bnd h
    refine v_cV1I hG cvX7_finds ml_RX7_68 rfl kk_59 (w_X7_finds hr_2) (Nat.le_of_ble_eq_true rfl) dX7_ahead_28 (q := 31) rfl ?_
    exact v_iret hG hR rfl rfl (sp2t h) dX7_ahead_31
  · replace h := ifn hc h
    refine v_iload_2 hG dX7_ahead_7 (q := 8) rfl ?_
    refine v_i2l hG dX7_ahead_8 (q := 9) rfl ?_
    refine v_lconst hG cl_0 dX7_ahead_9 (q := 10) rfl ?_
    refine v_iconst hG ci_2 dX7_ahead_10 (q := 11) rfl ?_
    refine v_aload_0 hG dX7_ahead_11 (q := 12) rfl ?_
    refine gt_RX7_7 hG rfl kk_59 dX7_ahead_12 (q := 15) rfl ?_
    refine v_iconst hG ci_1 dX7_ahead_15 (q := 16) rfl ?_
    obtain ⟨c_3, h⟩ := ck_some h
    refine v_iald hG kk_60 rfl c_3 dX7_ahead_16 (q := 17) rfl ?_
    refine v_iadd hG dX7_ahead_17 (q := 18) rfl ?_
    refine v_i2l hG dX7_ahead_18 (q := 19) rfl ?_
    obtain ⟨r_4, hr_4, h⟩ := bnd h
    refine v_cS3I hG csX7_in ml_RX7_43 rfl (w_X7_in hr_4) (Nat.le_of_ble_eq_true rfl) dX7_ahead_19 (q := 22) rfl ?_
    refine v_if_ne hG dX7_ahead_22 (tgt := 32) rfl (q := 25) rfl (fun hc => ?_) (fun hc => ?_)
    · replace h := ifn hc h
      refine v_aload_0 hG dX7_ahead_32 (q := 33) rfl ?_
      refine v_iload_1 hG dX7_ahead_33 (q := 34) rfl ?_
      obtain ⟨r_5, hr_5, h⟩ := bnd h
      refine v_cV1I hG cvX7_isTooLate ml_RX7_156 rfl kk_59 (w_X7_isTooLate hr_5) (Nat.le_of_ble_eq_true rfl) dX7_ahead_34 (q := 37) rfl ?_
      refine v_if_eq hG dX7_ahead_37 (tgt := 47) rfl (q := 40) rfl (fun hc => ?_) (fun hc => ?_)
      · replace h := ifp hc h
        refine v_aload_0 hG dX7_ahead_47 (q := 48) rfl ?_
        obtain ⟨r_6, hr_6, h⟩ := bnd h
        refine v_cV0V hG cvX7_saves ml_RX7_183 rfl kk_59 (w_X7_saves hr_6) (Nat.le_of_ble_eq_true rfl) dX7_ahead_48 (q := 51) rfl ?_
        refine v_aload_0 hG dX7_ahead_51 (q := 52) rfl ?_
        refine v_iload_1 hG dX7_ahead_52 (q := 53) rfl ?_
        obtain ⟨r_7, hr_7, h⟩ := bnd h
        refine v_cV1I hG cvX7_yearsGo ml_RX7_159 rfl kk_59 (w_X7_yearsGo hr_7) (Nat.le_of_ble_eq_true rfl) dX7_ahead_53 (q := 56) rfl ?_
        refine v_istore_3 hG rfl dX7_ahead_56 (q := 57) rfl ?_
        refine v_iload_2 hG dX7_ahead_57 (q := 58) rfl ?_
        refine v_if_ne hG dX7_ahead_58 (tgt := 65) rfl (q := 61) rfl (fun hc => ?_) (fun hc => ?_)
        · replace h := ifn hc h
          refine v_iload_2 hG dX7_ahead_65 (q := 66) rfl ?_
          refine v_iconst hG ci_1 dX7_ahead_66 (q := 67) rfl ?_
          refine v_icmp_ne hG dX7_ahead_67 (tgt := 77) rfl (q := 70) rfl (fun hc => ?_) (fun hc => ?_)
          · replace h := ifn hc h
            refine v_iload_2 hG dX7_ahead_77 (q := 78) rfl ?_
            refine v_iconst hG ci_2 dX7_ahead_78 (q := 79) rfl ?_
            refine v_icmp_ne hG dX7_ahead_79 (tgt := 89) rfl (q := 82) rfl (fun hc => ?_) (fun hc => ?_)
            · replace h := ifn hc h
              refine v_aload_0 hG dX7_ahead_89 (q := 90) rfl ?_
              refine v_iload_2 hG dX7_ahead_90 (q := 91) rfl ?_
              refine v_iconst hG ci_3 dX7_ahead_91 (q := 92) rfl ?_
              refine v_isub hG dX7_ahead_92 (q := 93) rfl ?_
              refine v_iconst hG ci_1 dX7_ahead_93 (q := 94) rfl ?_
              obtain ⟨r_8, hr_8, h⟩ := bnd h
              refine v_cV2I hG cvX7_told ml_RX7_90 rfl kk_59 (w_X7_told hr_8) (Nat.le_of_ble_eq_true rfl) dX7_ahead_94 (q := 97) rfl ?_
              refine v_istore_4 hG rfl dX7_ahead_97 (q := 99) rfl ?_
              refine v_aload_0 hG dX7_ahead_99 (q := 100) rfl ?_
              obtain ⟨r_9, hr_9, h⟩ := bnd h
              refine v_cV0V hG cvX7_putsBack ml_RX7_192 rfl kk_59 (w_X7_putsBack hr_9) (Nat.le_of_ble_eq_true rfl) dX7_ahead_100 (q := 103) rfl ?_
              refine v_iload_4 hG dX7_ahead_103 (q := 105) rfl ?_
              exact v_iret hG hR rfl rfl (sp2t h) dX7_ahead_105
            · replace h := ifp hc h
              refine v_aload_0 hG dX7_ahead_82 (q := 83) rfl ?_
              obtain ⟨r_10, hr_10, h⟩ := bnd h
              refine v_cV0I hG cvX7_everybody ml_RX7_189 rfl kk_59 (w_X7_everybody hr_10) (Nat.le_of_ble_eq_true rfl) dX7_ahead_83 (q := 86) rfl ?_
              refine v_goto hG dX7_ahead_86 (tgt := 97) rfl ?_
              refine v_istore_4 hG rfl dX7_ahead_97 (q := 99) rfl ?_
              refine v_aload_0 hG dX7_ahead_99 (q := 100) rfl ?_
              obtain ⟨r_11, hr_11, h⟩ := bnd h
              refine v_cV0V hG cvX7_putsBack ml_RX7_192 rfl kk_59 (w_X7_putsBack hr_11) (Nat.le_of_ble_eq_true rfl) dX7_ahead_100 (q := 103) rfl ?_
              refine v_iload_4 hG dX7_ahead_103 (q := 105) rfl ?_
              exact v_iret hG hR rfl rfl (sp2t h) dX7_ahead_105
          · replace h := ifp hc h
            refine v_aload_0 hG dX7_ahead_70 (q := 71) rfl ?_
            obtain ⟨r_12, hr_12, h⟩ := bnd h
            refine v_cV0I hG cvX7_poor ml_RX7_186 rfl kk_59 (w_X7_poor hr_12) (Nat.le_of_ble_eq_true rfl) dX7_ahead_71 (q := 74) rfl ?_
            refine v_goto hG dX7_ahead_74 (tgt := 97) rfl ?_
            refine v_istore_4 hG rfl dX7_ahead_97 (q := 99) rfl ?_
            refine v_aload_0 hG dX7_ahead_99 (q := 100) rfl ?_
            obtain ⟨r_13, hr_13, h⟩ := bnd h
            refine v_cV0V hG cvX7_putsBack ml_RX7_192 rfl kk_59 (w_X7_putsBack hr_13) (Nat.le_of_ble_eq_true rfl) dX7_ahead_100 (q := 103) rfl ?_
            refine v_iload_4 hG dX7_ahead_103 (q := 105) rfl ?_
            exact v_iret hG hR rfl rfl (sp2t h) dX7_ahead_105
        · replace h := ifp hc h
          refine v_iload_3 hG dX7_ahead_61 (q := 62) rfl ?_
          refine v_goto hG dX7_ahead_62 (tgt := 97) rfl ?_
          refine v_istore_4 hG rfl dX7_ahead_97 (q := 99) rfl ?_
          refine v_aload_0 hG dX7_ahead_99 (q := 100) rfl ?_
          obtain ⟨r_14, hr_14, h⟩ := bnd h
          refine v_cV0V hG cvX7_putsBack ml_RX7_192 rfl kk_59 (w_X7_putsBack hr_14) (Nat.le_of_ble_eq_true rfl) dX7_ahead_100 (q := 103) rfl ?_
          refine v_iload_4 hG dX7_ahead_103 (q := 105) rfl ?_
          exact v_iret hG hR rfl rfl (sp2t h) dX7_ahead_105
      · replace h := ifn hc h
        refine v_aload_0 hG dX7_ahead_40 (q := 41) rfl ?_
        refine v_ldc hG kc_RX7_150 dX7_ahead_41 (q := 43) rfl ?_
        obtain ⟨r_15, hr_15, h⟩ := bnd h
        refine v_cV1I hG cvX7_finds ml_RX7_68 rfl kk_59 (w_X7_finds hr_15) (Nat.le_of_ble_eq_true rfl) dX7_ahead_43 (q := 46) rfl ?_
        exact v_iret hG hR rfl rfl (sp2t h) dX7_ahead_46
    · replace h := ifp hc h
      refine v_aload_0 hG dX7_ahead_25 (q := 26) rfl ?_
      refine v_ldc hG kc_RX7_40 dX7_ahead_26 (q := 28) rfl ?_
      obtain ⟨r_16, hr_16, h⟩ := bnd h
      refine v_cV1I hG cvX7_finds ml_RX7_68 rfl kk_59 (w_X7_finds hr_16) (Nat.le_of_ble_eq_true rfl) dX7_ahead_28 (q := 31) rfl ?_
      exact v_iret hG hR rfl rfl (sp2t h) dX7_ahead_31
theorem cvX7_ahead : CVo mX7_ahead 2 7 := ⟨moX7_ahead, mvX7_ahead, by decide, _, _, rfl⟩

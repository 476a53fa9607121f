theorem w_X6_found {E : EB} {x1 : Int32} {M : Mem} {R : Int32 × Mem} (h : f_X6_found x1 M = some R) : Mt E mX6_found [.ref 0, .int x1] M (PI R.1 R.2) := by
  refine mt_of (L0 := [some (.ref 0), some (.int x1), none]) (by decide) rfl rfl (fun G hG hR => ?_)
  unfold f_X6_found at h
  refine v_ldc hG kc_RX6_59 dX6_found_0 (q := 2) rfl ?_
  refine v_iload_1 hG dX6_found_2 (q := 3) rfl ?_
  refine v_isub hG dX6_found_3 (q := 4) rfl ?_
  refine v_topi (fun x2_1 hy => ?_)
  replace h := letv_at hy h
  clear hy
  refine v_istore_2 hG rfl dX6_found_4 (q := 5) rfl ?_
  refine v_iload_2 hG dX6_found_5 (q := 6) rfl ?_
  refine v_if_lt hG dX6_found_6 (tgt := 25) rfl (q := 9) rfl (fun hc => ?_) (fun hc => ?_)
  · replace h := ifp hc h
    refine v_iload_1 hG dX6_found_25 (q := 26) rfl ?_
    exact v_iret hG hR rfl rfl (sp2t h) dX6_found_26
  · replace h := ifn hc h
    refine v_iload_2 hG dX6_found_9 (q := 10) rfl ?_
    refine v_bipush hG cb_7 dX6_found_10 (q := 12) rfl ?_
    refine v_icmp_ge hG dX6_found_12 (tgt := 25) rfl (q := 15) rfl (fun hc => ?_) (fun hc => ?_)
    · replace h := ifp hc h
      refine v_iload_1 hG dX6_found_25 (q := 26) rfl ?_
      exact v_iret hG hR rfl rfl (sp2t h) dX6_found_26
    · replace h := ifn hc h
      refine v_aload_0 hG dX6_found_15 (q := 16) rfl ?_
      refine gt_RX6_45 hG rfl kk_0 dX6_found_16 (q := 19) rfl ?_
      refine v_iload_2 hG dX6_found_19 (q := 20) rfl ?_
      refine v_dup2 hG rfl rfl dX6_found_20 (q := 21) rfl ?_
      obtain ⟨c_2, h⟩ := ck_some h
      refine v_iald hG kk_56 rfl c_2 dX6_found_21 (q := 22) rfl ?_
      refine v_iconst hG ci_1 dX6_found_22 (q := 23) rfl ?_
      refine v_iadd hG dX6_found_23 (q := 24) rfl ?_
      obtain ⟨c_3, h⟩ := ck_some h
      refine v_iast hG kk_56 rfl c_3 dX6_found_24 (q := 25) rfl ?_
      refine v_topM (fun M_4 hy => ?_)
      replace h := letv_at hy h
      clear hy
      refine v_iload_1 hG dX6_found_25 (q := 26) rfl ?_
      exact v_iret hG hR rfl rfl (sp2t h) dX6_found_26
theorem cvX6_found : CVo mX6_found 1 6 := ⟨moX6_found, mvX6_found, by decide, _, _, rfl⟩
theorem w_X6_isKind {E : EB} {x0 : Int32} {M : Mem} {R : Bool} (h : f_X6_isKind x0 M = some R) : Mt E mX6_isKind [.int x0] M (PI (b2i R) M) := by
  refine mt_of (L0 := [some (.int x0)]) (by decide) rfl rfl (fun G hG hR => ?_)
  unfold f_X6_isKind at h
  refine v_iload_0 hG dX6_isKind_0 (q := 1) rfl ?_
  refine v_if_lt hG dX6_isKind_1 (tgt := 14) rfl (q := 4) rfl (fun hc => ?_) (fun hc => ?_)
  · replace h := ifp hc h
    refine v_iconst hG ci_0 dX6_isKind_14 (q := 15) rfl ?_
    exact v_iret hG hR rfl rfl (sp1b h) dX6_isKind_15
  · replace h := ifn hc h
    refine v_iload_0 hG dX6_isKind_4 (q := 5) rfl ?_
    refine v_bipush hG cb_7 dX6_isKind_5 (q := 7) rfl ?_
    refine v_icmp_ge hG dX6_isKind_7 (tgt := 14) rfl (q := 10) rfl (fun hc => ?_) (fun hc => ?_)
    · replace h := ifp hc h
      refine v_iconst hG ci_0 dX6_isKind_14 (q := 15) rfl ?_
      exact v_iret hG hR rfl rfl (sp1b h) dX6_isKind_15
    · replace h := ifn hc h
      refine v_iconst hG ci_1 dX6_isKind_10 (q := 11) rfl ?_
      refine v_goto hG dX6_isKind_11 (tgt := 15) rfl ?_
      exact v_iret hG hR rfl rfl (sp1b h) dX6_isKind_15
theorem csX6_isKind : CSo mX6_isKind 1 := ⟨moX6_isKind, msX6_isKind⟩
theorem w_X6_writer {E : EB} {x1 : Int32} {M : Mem} {R : Int32 × Mem} (h : f_X6_writer x1 M = some R) : Mt E mX6_writer [.ref 0, .int x1] M (PI R.1 R.2) := by
  refine mt_of (L0 := [some (.ref 0), some (.int x1), none]) (by decide) rfl rfl (fun G hG hR => ?_)
  unfold f_X6_writer at h
  refine v_iload_1 hG dX6_writer_0 (q := 1) rfl ?_
  obtain ⟨r_1, hr_1, h⟩ := bnd h
  refine v_cS1I hG csX6_isKind ml_RX6_55 rfl (w_X6_isKind hr_1) (Nat.le_of_ble_eq_true rfl) dX6_writer_1 (q := 4) rfl ?_
  refine v_if_ne hG dX6_writer_4 (tgt := 14) rfl (q := 7) rfl (fun hc => ?_) (fun hc => ?_)
  · replace h := ifn hc h
    refine v_aload_0 hG dX6_writer_14 (q := 15) rfl ?_
    refine gt_RX6_12 hG rfl kk_0 dX6_writer_15 (q := 18) rfl ?_
    refine gt_RX6_64 hG rfl kk_1 dX6_writer_18 (q := 21) rfl ?_
    refine v_iload_1 hG dX6_writer_21 (q := 22) rfl ?_
    obtain ⟨r_2, hr_2, h⟩ := bnd h
    refine v_cV1I hG cvX5_addOne ml_RX6_68 rfl kk_2 (w_X5_addOne kk_2 hr_2) (Nat.le_of_ble_eq_true rfl) dX6_writer_22 (q := 25) rfl ?_
    refine v_istore_2 hG rfl dX6_writer_25 (q := 26) rfl ?_
    refine v_iload_2 hG dX6_writer_26 (q := 27) rfl ?_
    refine v_if_ge hG dX6_writer_27 (tgt := 39) rfl (q := 30) rfl (fun hc => ?_) (fun hc => ?_)
    · replace h := ifp hc h
      refine v_iload_2 hG dX6_writer_39 (q := 40) rfl ?_
      exact v_iret hG hR rfl rfl (sp2t h) dX6_writer_40
    · replace h := ifn hc h
      refine v_aload_0 hG dX6_writer_30 (q := 31) rfl ?_
      refine v_ldc hG kc_RX6_73 dX6_writer_31 (q := 33) rfl ?_
      obtain ⟨r_3, hr_3, h⟩ := bnd h
      refine v_cV1I hG cvX6_found ml_RX6_60 rfl kk_0 (w_X6_found hr_3) (Nat.le_of_ble_eq_true rfl) dX6_writer_33 (q := 36) rfl ?_
      refine v_goto hG dX6_writer_36 (tgt := 40) rfl ?_
      exact v_iret hG hR rfl rfl (sp2t h) dX6_writer_40
  · replace h := ifp hc h
    refine v_aload_0 hG dX6_writer_7 (q := 8) rfl ?_
    refine v_ldc hG kc_RX6_59 dX6_writer_8 (q := 10) rfl ?_
    obtain ⟨r_4, hr_4, h⟩ := bnd h
    refine v_cV1I hG cvX6_found ml_RX6_60 rfl kk_0 (w_X6_found hr_4) (Nat.le_of_ble_eq_true rfl) dX6_writer_10 (q := 13) rfl ?_
    exact v_iret hG hR rfl rfl (sp2t h) dX6_writer_13
theorem cvX6_writer : CVo mX6_writer 1 6 := ⟨moX6_writer, mvX6_writer, by decide, _, _, rfl⟩
theorem w_X6_writerOf {E : EB} {x1 : Int32} {x2 : Int32} {M : Mem} {R : Int32 × Mem} (h : f_X6_writerOf x1 x2 M = some R) : Mt E mX6_writerOf [.ref 0, .int x1, .int x2] M (PI R.1 R.2) := by
  refine mt_of (L0 := [some (.ref 0), some (.int x1), some (.int x2), none]) (by decide) rfl rfl (fun G hG hR => ?_)
  unfold f_X6_writerOf at h
  refine v_aload_0 hG dX6_writerOf_0 (q := 1) rfl ?_
  refine gt_RX6_12 hG rfl kk_0 dX6_writerOf_1 (q := 4) rfl ?_
  refine gt_RX6_64 hG rfl kk_1 dX6_writerOf_4 (q := 7) rfl ?_
  refine v_iload_2 hG dX6_writerOf_7 (q := 8) rfl ?_
  obtain ⟨r_1, hr_1, h⟩ := bnd h
  refine v_cV1R hG cvX5_row ml_RX6_74 rfl kk_2 (w_X5_row kk_2 hr_1) (Nat.le_of_ble_eq_true rfl) dX6_writerOf_8 (q := 11) rfl ?_
  clear hr_1
  cases r_1 with
  | none =>
    refine v_astoreN_3 hG rfl dX6_writerOf_11 (q := 12) rfl ?_
    refine v_aload_0 hG dX6_writerOf_12 (q := 13) rfl ?_
    refine gt_RX6_12 hG rfl kk_0 dX6_writerOf_13 (q := 16) rfl ?_
    refine gt_RX6_64 hG rfl kk_1 dX6_writerOf_16 (q := 19) rfl ?_
    refine v_iload_1 hG dX6_writerOf_19 (q := 20) rfl ?_
    obtain ⟨r_4, hr_4, h⟩ := bnd h
    refine v_cV1I hG cvX5_has ml_RX6_78 rfl kk_2 (w_X5_has kk_2 hr_4) (Nat.le_of_ble_eq_true rfl) dX6_writerOf_20 (q := 23) rfl ?_
    refine v_if_eq hG dX6_writerOf_23 (tgt := 30) rfl (q := 26) rfl (fun hc => ?_) (fun hc => ?_)
    · replace h := ifp hc h
      refine v_aload_0 hG dX6_writerOf_30 (q := 31) rfl ?_
      refine v_ldc hG kc_RX6_59 dX6_writerOf_31 (q := 33) rfl ?_
      obtain ⟨r_5, hr_5, h⟩ := bnd h
      refine v_cV1I hG cvX6_found ml_RX6_60 rfl kk_0 (w_X6_found hr_5) (Nat.le_of_ble_eq_true rfl) dX6_writerOf_33 (q := 36) rfl ?_
      exact v_iret hG hR rfl rfl (sp2t h) dX6_writerOf_36
    · replace h := ifn hc h
      refine v_aloadN_3 hG dX6_writerOf_26 (q := 27) rfl ?_
      refine v_ifnonnull_n hG dX6_writerOf_27 (q := 30) rfl ?_
      refine v_aload_0 hG dX6_writerOf_30 (q := 31) rfl ?_
      refine v_ldc hG kc_RX6_59 dX6_writerOf_31 (q := 33) rfl ?_
      obtain ⟨r_6, hr_6, h⟩ := bnd h
      refine v_cV1I hG cvX6_found ml_RX6_60 rfl kk_0 (w_X6_found hr_6) (Nat.le_of_ble_eq_true rfl) dX6_writerOf_33 (q := 36) rfl ?_
      exact v_iret hG hR rfl rfl (sp2t h) dX6_writerOf_36
  | some a_2 =>
    obtain ⟨c_3, h⟩ := ck_some h
    refine v_astore_3 hG rfl dX6_writerOf_11 (q := 12) rfl ?_
    refine v_aload_0 hG dX6_writerOf_12 (q := 13) rfl ?_
    refine gt_RX6_12 hG rfl kk_0 dX6_writerOf_13 (q := 16) rfl ?_
    refine gt_RX6_64 hG rfl kk_1 dX6_writerOf_16 (q := 19) rfl ?_
    refine v_iload_1 hG dX6_writerOf_19 (q := 20) rfl ?_
    obtain ⟨r_7, hr_7, h⟩ := bnd h
    refine v_cV1I hG cvX5_has ml_RX6_78 rfl kk_2 (w_X5_has kk_2 hr_7) (Nat.le_of_ble_eq_true rfl) dX6_writerOf_20 (q := 23) rfl ?_
    refine v_if_eq hG dX6_writerOf_23 (tgt := 30) rfl (q := 26) rfl (fun hc => ?_) (fun hc => ?_)
    · replace h := ifp hc h
      refine v_aload_0 hG dX6_writerOf_30 (q := 31) rfl ?_
      refine v_ldc hG kc_RX6_59 dX6_writerOf_31 (q := 33) rfl ?_
      obtain ⟨r_8, hr_8, h⟩ := bnd h
      refine v_cV1I hG cvX6_found ml_RX6_60 rfl kk_0 (w_X6_found hr_8) (Nat.le_of_ble_eq_true rfl) dX6_writerOf_33 (q := 36) rfl ?_
      exact v_iret hG hR rfl rfl (sp2t h) dX6_writerOf_36
    · replace h := ifn hc h
      refine v_aload_3 hG dX6_writerOf_26 (q := 27) rfl ?_
      refine v_ifnonnull_r hG dX6_writerOf_27 (tgt := 37) rfl ?_
      refine v_aload_3 hG dX6_writerOf_37 (q := 38) rfl ?_
      refine v_iload_1 hG dX6_writerOf_38 (q := 39) rfl ?_
      obtain ⟨c_9, h⟩ := ck_some h
      refine v_iald hG c_3 rfl c_9 dX6_writerOf_39 (q := 40) rfl ?_
      exact v_iret hG hR rfl rfl (sp2t h) dX6_writerOf_40
theorem cvX6_writerOf : CVo mX6_writerOf 2 6 := ⟨moX6_writerOf, mvX6_writerOf, by decide, _, _, rfl⟩
theorem w_X6_isSaying {E : EB} {x0 : Int32} {M : Mem} {R : Bool} (h : f_X6_isSaying x0 M = some R) : Mt E mX6_isSaying [.int x0] M (PI (b2i R) M) := by
  refine mt_of (L0 := [some (.int x0)]) (by decide) rfl rfl (fun G hG hR => ?_)
  unfold f_X6_isSaying at h
  refine v_iload_0 hG dX6_isSaying_0 (q := 1) rfl ?_
  refine v_if_lt hG dX6_isSaying_1 (tgt := 15) rfl (q := 4) rfl (fun hc => ?_) (fun hc => ?_)
  · replace h := ifp hc h
    refine v_iconst hG ci_0 dX6_isSaying_15 (q := 16) rfl ?_
    exact v_iret hG hR rfl rfl (sp1b h) dX6_isSaying_16
  · replace h := ifn hc h
    refine v_iload_0 hG dX6_isSaying_4 (q := 5) rfl ?_
    refine v_sipush hG cs_4096 dX6_isSaying_5 (q := 8) rfl ?_
    refine v_icmp_ge hG dX6_isSaying_8 (tgt := 15) rfl (q := 11) rfl (fun hc => ?_) (fun hc => ?_)
    · replace h := ifp hc h
      refine v_iconst hG ci_0 dX6_isSaying_15 (q := 16) rfl ?_
      exact v_iret hG hR rfl rfl (sp1b h) dX6_isSaying_16
    · replace h := ifn hc h
      refine v_iconst hG ci_1 dX6_isSaying_11 (q := 12) rfl ?_
      refine v_goto hG dX6_isSaying_12 (tgt := 16) rfl ?_
      exact v_iret hG hR rfl rfl (sp1b h) dX6_isSaying_16
theorem csX6_isSaying : CSo mX6_isSaying 1 := ⟨moX6_isSaying, msX6_isSaying⟩
theorem w_X6_isLaw {E : EB} {x0 : Int32} {x1 : Int32} {M : Mem} {R : Bool} (h : f_X6_isLaw x0 x1 M = some R) : Mt E mX6_isLaw [.int x0, .int x1] M (PI (b2i R) M) := by
  refine mt_of (L0 := [some (.int x0), some (.int x1)]) (by decide) rfl rfl (fun G hG hR => ?_)
  unfold f_X6_isLaw at h
  refine v_iload_0 hG dX6_isLaw_0 (q := 1) rfl ?_
  by_cases e0 : x0 = (0 : Int32)
  · refine v_tabIn hG dX6_isLaw_1 (tgt := 36) (by rw [e0]; decide) (by rw [e0]; decide) (by rw [e0]; rfl) rfl ?_
    replace h := ifp e0 h
    refine v_iload_1 hG dX6_isLaw_36 (q := 37) rfl ?_
    obtain ⟨r_1, hr_1, h⟩ := bnd h
    refine v_cS1I hG csX6_isKind ml_RX6_55 rfl (w_X6_isKind hr_1) (Nat.le_of_ble_eq_true rfl) dX6_isLaw_37 (q := 40) rfl ?_
    exact v_iret hG hR rfl (b2i_nar _) (sp1b h) dX6_isLaw_40
  replace h := ifn e0 h
  by_cases e1 : x0 = (1 : Int32)
  · refine v_tabIn hG dX6_isLaw_1 (tgt := 41) (by rw [e1]; decide) (by rw [e1]; decide) (by rw [e1]; rfl) rfl ?_
    replace h := ifp e1 h
    refine v_iload_1 hG dX6_isLaw_41 (q := 42) rfl ?_
    obtain ⟨r_2, hr_2, h⟩ := bnd h
    refine v_cS1I hG csX6_isSaying ml_RX6_113 rfl (w_X6_isSaying hr_2) (Nat.le_of_ble_eq_true rfl) dX6_isLaw_42 (q := 45) rfl ?_
    exact v_iret hG hR rfl (b2i_nar _) (sp1b h) dX6_isLaw_45
  replace h := ifn e1 h
  by_cases e2 : x0 = (2 : Int32)
  · refine v_tabIn hG dX6_isLaw_1 (tgt := 41) (by rw [e2]; decide) (by rw [e2]; decide) (by rw [e2]; rfl) rfl ?_
    replace h := ifp e2 h
    refine v_iload_1 hG dX6_isLaw_41 (q := 42) rfl ?_
    obtain ⟨r_3, hr_3, h⟩ := bnd h
    refine v_cS1I hG csX6_isSaying ml_RX6_113 rfl (w_X6_isSaying hr_3) (Nat.le_of_ble_eq_true rfl) dX6_isLaw_42 (q := 45) rfl ?_
    exact v_iret hG hR rfl (b2i_nar _) (sp1b h) dX6_isLaw_45
  replace h := ifn e2 h
  by_cases e3 : x0 = (3 : Int32)
  · refine v_tabIn hG dX6_isLaw_1 (tgt := 41) (by rw [e3]; decide) (by rw [e3]; decide) (by rw [e3]; rfl) rfl ?_
    replace h := ifp e3 h
    refine v_iload_1 hG dX6_isLaw_41 (q := 42) rfl ?_
    obtain ⟨r_4, hr_4, h⟩ := bnd h
    refine v_cS1I hG csX6_isSaying ml_RX6_113 rfl (w_X6_isSaying hr_4) (Nat.le_of_ble_eq_true rfl) dX6_isLaw_42 (q := 45) rfl ?_
    exact v_iret hG hR rfl (b2i_nar _) (sp1b h) dX6_isLaw_45
  replace h := ifn e3 h
  by_cases e4 : x0 = (4 : Int32)
  · refine v_tabIn hG dX6_isLaw_1 (tgt := 46) (by rw [e4]; decide) (by rw [e4]; decide) (by rw [e4]; rfl) rfl ?_
    replace h := ifp e4 h
    refine v_iload_1 hG dX6_isLaw_46 (q := 47) rfl ?_
    refine v_if_lt hG dX6_isLaw_47 (tgt := 60) rfl (q := 50) rfl (fun hc => ?_) (fun hc => ?_)
    · replace h := ifp hc h
      refine v_iconst hG ci_0 dX6_isLaw_60 (q := 61) rfl ?_
      exact v_iret hG hR rfl rfl (sp1b h) dX6_isLaw_61
    · replace h := ifn hc h
      refine v_iload_1 hG dX6_isLaw_50 (q := 51) rfl ?_
      refine v_bipush hG cb_99 dX6_isLaw_51 (q := 53) rfl ?_
      refine v_icmp_gt hG dX6_isLaw_53 (tgt := 60) rfl (q := 56) rfl (fun hc => ?_) (fun hc => ?_)
      · replace h := ifp hc h
        refine v_iconst hG ci_0 dX6_isLaw_60 (q := 61) rfl ?_
        exact v_iret hG hR rfl rfl (sp1b h) dX6_isLaw_61
      · replace h := ifn hc h
        refine v_iconst hG ci_1 dX6_isLaw_56 (q := 57) rfl ?_
        refine v_goto hG dX6_isLaw_57 (tgt := 61) rfl ?_
        exact v_iret hG hR rfl rfl (sp1b h) dX6_isLaw_61
  replace h := ifn e4 h
  have u0 := sw_ne (n := 0) e0
  have u1 := sw_ne (n := 1) e1
  have u2 := sw_ne (n := 2) e2
  have u3 := sw_ne (n := 3) e3
  have u4 := sw_ne (n := 4) e4
  refine v_tabOut hG dX6_isLaw_1 (tgt := 62) (by omega) rfl ?_
  refine v_iconst hG ci_0 dX6_isLaw_62 (q := 63) rfl ?_
  exact v_iret hG hR rfl rfl (sp1b h) dX6_isLaw_63
theorem csX6_isLaw : CSo mX6_isLaw 2 := ⟨moX6_isLaw, msX6_isLaw⟩
theorem w_X6_law {E : EB} {x1 : Int32} {x2 : Int32} {x3 : Int32} {M : Mem} {R : Int32 × Mem} (h : f_X6_law x1 x2 x3 M = some R) : Mt E mX6_law [.ref 0, .int x1, .int x2, .int x3] M (PI R.1 R.2) := by
  refine mt_of (L0 := [some (.ref 0), some (.int x1), some (.int x2), some (.int x3), none, none]) (by decide) rfl rfl (fun G hG hR => ?_)
  unfold f_X6_law at h
  refine v_aload_0 hG dX6_law_0 (q := 1) rfl ?_
  refine gt_RX6_12 hG rfl kk_0 dX6_law_1 (q := 4) rfl ?_
  refine gt_RX6_64 hG rfl kk_1 dX6_law_4 (q := 7) rfl ?_
  refine v_iload_2 hG dX6_law_7 (q := 8) rfl ?_
  obtain ⟨r_1, hr_1, h⟩ := bnd h
  refine v_cV1R hG cvX5_row ml_RX6_74 rfl kk_2 (w_X5_row kk_2 hr_1) (Nat.le_of_ble_eq_true rfl) dX6_law_8 (q := 11) rfl ?_
  clear hr_1
  cases r_1 with
  | none =>
    refine v_astoreN_4 hG rfl dX6_law_11 (q := 13) rfl ?_
    refine v_aload_0 hG dX6_law_13 (q := 14) rfl ?_
    refine gt_RX6_12 hG rfl kk_0 dX6_law_14 (q := 17) rfl ?_
    refine gt_RX6_64 hG rfl kk_1 dX6_law_17 (q := 20) rfl ?_
    refine v_iload_1 hG dX6_law_20 (q := 21) rfl ?_
    obtain ⟨r_4, hr_4, h⟩ := bnd h
    refine v_cV1I hG cvX5_has ml_RX6_78 rfl kk_2 (w_X5_has kk_2 hr_4) (Nat.le_of_ble_eq_true rfl) dX6_law_21 (q := 24) rfl ?_
    refine v_if_eq hG dX6_law_24 (tgt := 40) rfl (q := 27) rfl (fun hc => ?_) (fun hc => ?_)
    · replace h := ifp hc h
      refine v_aload_0 hG dX6_law_40 (q := 41) rfl ?_
      refine v_ldc hG kc_RX6_59 dX6_law_41 (q := 43) rfl ?_
      obtain ⟨r_5, hr_5, h⟩ := bnd h
      refine v_cV1I hG cvX6_found ml_RX6_60 rfl kk_0 (w_X6_found hr_5) (Nat.le_of_ble_eq_true rfl) dX6_law_43 (q := 46) rfl ?_
      exact v_iret hG hR rfl rfl (sp2t h) dX6_law_46
    · replace h := ifn hc h
      refine v_aloadN_4 hG dX6_law_27 (q := 29) rfl ?_
      refine v_ifnull_n hG dX6_law_29 (tgt := 40) rfl ?_
      refine v_aload_0 hG dX6_law_40 (q := 41) rfl ?_
      refine v_ldc hG kc_RX6_59 dX6_law_41 (q := 43) rfl ?_
      obtain ⟨r_6, hr_6, h⟩ := bnd h
      refine v_cV1I hG cvX6_found ml_RX6_60 rfl kk_0 (w_X6_found hr_6) (Nat.le_of_ble_eq_true rfl) dX6_law_43 (q := 46) rfl ?_
      exact v_iret hG hR rfl rfl (sp2t h) dX6_law_46
  | some a_2 =>
    obtain ⟨c_3, h⟩ := ck_some h
    refine v_astore_4 hG rfl dX6_law_11 (q := 13) rfl ?_
    refine v_aload_0 hG dX6_law_13 (q := 14) rfl ?_
    refine gt_RX6_12 hG rfl kk_0 dX6_law_14 (q := 17) rfl ?_
    refine gt_RX6_64 hG rfl kk_1 dX6_law_17 (q := 20) rfl ?_
    refine v_iload_1 hG dX6_law_20 (q := 21) rfl ?_
    obtain ⟨r_7, hr_7, h⟩ := bnd h
    refine v_cV1I hG cvX5_has ml_RX6_78 rfl kk_2 (w_X5_has kk_2 hr_7) (Nat.le_of_ble_eq_true rfl) dX6_law_21 (q := 24) rfl ?_
    refine v_if_eq hG dX6_law_24 (tgt := 40) rfl (q := 27) rfl (fun hc => ?_) (fun hc => ?_)
    · replace h := ifp hc h
      refine v_aload_0 hG dX6_law_40 (q := 41) rfl ?_
      refine v_ldc hG kc_RX6_59 dX6_law_41 (q := 43) rfl ?_
      obtain ⟨r_8, hr_8, h⟩ := bnd h
      refine v_cV1I hG cvX6_found ml_RX6_60 rfl kk_0 (w_X6_found hr_8) (Nat.le_of_ble_eq_true rfl) dX6_law_43 (q := 46) rfl ?_
      exact v_iret hG hR rfl rfl (sp2t h) dX6_law_46
    · replace h := ifn hc h
      refine v_aload_4 hG dX6_law_27 (q := 29) rfl ?_
      refine v_ifnull_r hG dX6_law_29 (q := 32) rfl ?_
      refine v_iload_2 hG dX6_law_32 (q := 33) rfl ?_
      refine v_iload_3 hG dX6_law_33 (q := 34) rfl ?_
      obtain ⟨r_9, hr_9, h⟩ := bnd h
      refine v_cS2I hG csX6_isLaw ml_RX6_81 rfl (w_X6_isLaw hr_9) (Nat.le_of_ble_eq_true rfl) dX6_law_34 (q := 37) rfl ?_
      refine v_if_ne hG dX6_law_37 (tgt := 47) rfl (q := 40) rfl (fun hc => ?_) (fun hc => ?_)
      · replace h := ifn hc h
        refine v_aload_4 hG dX6_law_47 (q := 49) rfl ?_
        refine v_iload_1 hG dX6_law_49 (q := 50) rfl ?_
        obtain ⟨c_10, h⟩ := ck_some h
        refine v_iald hG c_3 rfl c_10 dX6_law_50 (q := 51) rfl ?_
        refine v_topi (fun x5_11 hy => ?_)
        replace h := letv_at hy h
        clear hy
        refine v_istore_5 hG rfl dX6_law_51 (q := 53) rfl ?_
        refine v_aload_4 hG dX6_law_53 (q := 55) rfl ?_
        refine v_iload_1 hG dX6_law_55 (q := 56) rfl ?_
        refine v_iload_3 hG dX6_law_56 (q := 57) rfl ?_
        obtain ⟨c_12, h⟩ := ck_some h
        refine v_iast hG c_3 rfl c_12 dX6_law_57 (q := 58) rfl ?_
        refine v_topM (fun M_13 hy => ?_)
        replace h := letv_at hy h
        clear hy
        refine v_iload_5 hG dX6_law_58 (q := 60) rfl ?_
        exact v_iret hG hR rfl rfl (sp2t h) dX6_law_60
      · replace h := ifp hc h
        refine v_aload_0 hG dX6_law_40 (q := 41) rfl ?_
        refine v_ldc hG kc_RX6_59 dX6_law_41 (q := 43) rfl ?_
        obtain ⟨r_14, hr_14, h⟩ := bnd h
        refine v_cV1I hG cvX6_found ml_RX6_60 rfl kk_0 (w_X6_found hr_14) (Nat.le_of_ble_eq_true rfl) dX6_law_43 (q := 46) rfl ?_
        exact v_iret hG hR rfl rfl (sp2t h) dX6_law_46
theorem cvX6_law : CVo mX6_law 3 6 := ⟨moX6_law, mvX6_law, by decide, _, _, rfl⟩
theorem w_X6_person {E : EB} {x1 : Int32} {M : Mem} {R : Int32 × Mem} (h : f_X6_person x1 M = some R) : Mt E mX6_person [.ref 0, .int x1] M (PI R.1 R.2) := by
  refine mt_of (L0 := [some (.ref 0), some (.int x1), none]) (by decide) rfl rfl (fun G hG hR => ?_)
  unfold f_X6_person at h
  refine v_aload_0 hG dX6_person_0 (q := 1) rfl ?_
  refine gt_RX6_12 hG rfl kk_0 dX6_person_1 (q := 4) rfl ?_
  refine gt_RX6_64 hG rfl kk_1 dX6_person_4 (q := 7) rfl ?_
  refine v_iload_1 hG dX6_person_7 (q := 8) rfl ?_
  obtain ⟨r_1, hr_1, h⟩ := bnd h
  refine v_cV1I hG cvX5_has ml_RX6_78 rfl kk_2 (w_X5_has kk_2 hr_1) (Nat.le_of_ble_eq_true rfl) dX6_person_8 (q := 11) rfl ?_
  refine v_if_ne hG dX6_person_11 (tgt := 21) rfl (q := 14) rfl (fun hc => ?_) (fun hc => ?_)
  · replace h := ifn hc h
    refine v_aload_0 hG dX6_person_21 (q := 22) rfl ?_
    refine gt_RX6_12 hG rfl kk_0 dX6_person_22 (q := 25) rfl ?_
    refine gt_RX6_85 hG rfl kk_1 dX6_person_25 (q := 28) rfl ?_
    refine v_iload_1 hG dX6_person_28 (q := 29) rfl ?_
    obtain ⟨r_2, hr_2, h⟩ := bnd h
    refine v_cV1I hG cvX0_addOne ml_RX6_89 rfl kk_9 (w_X0_addOne kk_9 hr_2) (Nat.le_of_ble_eq_true rfl) dX6_person_29 (q := 32) rfl ?_
    refine v_istore_2 hG rfl dX6_person_32 (q := 33) rfl ?_
    refine v_iload_2 hG dX6_person_33 (q := 34) rfl ?_
    refine v_if_ge hG dX6_person_34 (tgt := 46) rfl (q := 37) rfl (fun hc => ?_) (fun hc => ?_)
    · replace h := ifp hc h
      refine v_iload_2 hG dX6_person_46 (q := 47) rfl ?_
      exact v_iret hG hR rfl rfl (sp2t h) dX6_person_47
    · replace h := ifn hc h
      refine v_aload_0 hG dX6_person_37 (q := 38) rfl ?_
      refine v_ldc hG kc_RX6_73 dX6_person_38 (q := 40) rfl ?_
      obtain ⟨r_3, hr_3, h⟩ := bnd h
      refine v_cV1I hG cvX6_found ml_RX6_60 rfl kk_0 (w_X6_found hr_3) (Nat.le_of_ble_eq_true rfl) dX6_person_40 (q := 43) rfl ?_
      refine v_goto hG dX6_person_43 (tgt := 47) rfl ?_
      exact v_iret hG hR rfl rfl (sp2t h) dX6_person_47
  · replace h := ifp hc h
    refine v_aload_0 hG dX6_person_14 (q := 15) rfl ?_
    refine v_ldc hG kc_RX6_59 dX6_person_15 (q := 17) rfl ?_
    obtain ⟨r_4, hr_4, h⟩ := bnd h
    refine v_cV1I hG cvX6_found ml_RX6_60 rfl kk_0 (w_X6_found hr_4) (Nat.le_of_ble_eq_true rfl) dX6_person_17 (q := 20) rfl ?_
    exact v_iret hG hR rfl rfl (sp2t h) dX6_person_20
theorem cvX6_person : CVo mX6_person 1 6 := ⟨moX6_person, mvX6_person, by decide, _, _, rfl⟩
theorem w_X6_of {E : EB} {x1 : Int32} {x2 : Int32} {M : Mem} {R : Int32 × Mem} (h : f_X6_of x1 x2 M = some R) : Mt E mX6_of [.ref 0, .int x1, .int x2] M (PI R.1 R.2) := by
  refine mt_of (L0 := [some (.ref 0), some (.int x1), some (.int x2), none]) (by decide) rfl rfl (fun G hG hR => ?_)
  unfold f_X6_of at h
  refine v_aload_0 hG dX6_of_0 (q := 1) rfl ?_
  refine gt_RX6_12 hG rfl kk_0 dX6_of_1 (q := 4) rfl ?_
  refine gt_RX6_85 hG rfl kk_1 dX6_of_4 (q := 7) rfl ?_
  refine v_iload_1 hG dX6_of_7 (q := 8) rfl ?_
  obtain ⟨r_1, hr_1, h⟩ := bnd h
  refine v_cV1I hG cvX0_has ml_RX6_92 rfl kk_9 (w_X0_has kk_9 hr_1) (Nat.le_of_ble_eq_true rfl) dX6_of_8 (q := 11) rfl ?_
  refine v_if_ne hG dX6_of_11 (tgt := 21) rfl (q := 14) rfl (fun hc => ?_) (fun hc => ?_)
  · replace h := ifn hc h
    refine v_iload_2 hG dX6_of_21 (q := 22) rfl ?_
    refine v_iconst hG ci_5 dX6_of_22 (q := 23) rfl ?_
    refine v_icmp_ne hG dX6_of_23 (tgt := 38) rfl (q := 26) rfl (fun hc => ?_) (fun hc => ?_)
    · replace h := ifn hc h
      refine v_aload_0 hG dX6_of_38 (q := 39) rfl ?_
      refine gt_RX6_12 hG rfl kk_0 dX6_of_39 (q := 42) rfl ?_
      refine gt_RX6_85 hG rfl kk_1 dX6_of_42 (q := 45) rfl ?_
      refine v_iload_2 hG dX6_of_45 (q := 46) rfl ?_
      obtain ⟨r_2, hr_2, h⟩ := bnd h
      refine v_cV1R hG cvX0_row ml_RX6_96 rfl kk_9 (w_X0_row kk_9 hr_2) (Nat.le_of_ble_eq_true rfl) dX6_of_46 (q := 49) rfl ?_
      clear hr_2
      cases r_2 with
      | none =>
        refine v_astoreN_3 hG rfl dX6_of_49 (q := 50) rfl ?_
        refine v_aloadN_3 hG dX6_of_50 (q := 51) rfl ?_
        refine v_ifnonnull_n hG dX6_of_51 (q := 54) rfl ?_
        refine v_aload_0 hG dX6_of_54 (q := 55) rfl ?_
        refine v_ldc hG kc_RX6_59 dX6_of_55 (q := 57) rfl ?_
        obtain ⟨r_5, hr_5, h⟩ := bnd h
        refine v_cV1I hG cvX6_found ml_RX6_60 rfl kk_0 (w_X6_found hr_5) (Nat.le_of_ble_eq_true rfl) dX6_of_57 (q := 60) rfl ?_
        refine v_goto hG dX6_of_60 (tgt := 66) rfl ?_
        exact v_iret hG hR rfl rfl (sp2t h) dX6_of_66
      | some a_3 =>
        obtain ⟨c_4, h⟩ := ck_some h
        refine v_astore_3 hG rfl dX6_of_49 (q := 50) rfl ?_
        refine v_aload_3 hG dX6_of_50 (q := 51) rfl ?_
        refine v_ifnonnull_r hG dX6_of_51 (tgt := 63) rfl ?_
        refine v_aload_3 hG dX6_of_63 (q := 64) rfl ?_
        refine v_iload_1 hG dX6_of_64 (q := 65) rfl ?_
        obtain ⟨c_6, h⟩ := ck_some h
        refine v_iald hG c_4 rfl c_6 dX6_of_65 (q := 66) rfl ?_
        exact v_iret hG hR rfl rfl (sp2t h) dX6_of_66
    · replace h := ifp hc h
      refine v_aload_0 hG dX6_of_26 (q := 27) rfl ?_
      refine gt_RX6_12 hG rfl kk_0 dX6_of_27 (q := 30) rfl ?_
      refine gt_RX6_85 hG rfl kk_1 dX6_of_30 (q := 33) rfl ?_
      refine v_iload_1 hG dX6_of_33 (q := 34) rfl ?_
      obtain ⟨r_7, hr_7, h⟩ := bnd h
      refine v_cV1I hG cvX0_lies ml_RX6_93 rfl kk_9 (w_X0_lies kk_9 hr_7) (Nat.le_of_ble_eq_true rfl) dX6_of_34 (q := 37) rfl ?_
      exact v_iret hG hR rfl rfl (sp2t h) dX6_of_37
  · replace h := ifp hc h
    refine v_aload_0 hG dX6_of_14 (q := 15) rfl ?_
    refine v_ldc hG kc_RX6_59 dX6_of_15 (q := 17) rfl ?_
    obtain ⟨r_8, hr_8, h⟩ := bnd h
    refine v_cV1I hG cvX6_found ml_RX6_60 rfl kk_0 (w_X6_found hr_8) (Nat.le_of_ble_eq_true rfl) dX6_of_17 (q := 20) rfl ?_
    exact v_iret hG hR rfl rfl (sp2t h) dX6_of_20
theorem cvX6_of : CVo mX6_of 2 6 := ⟨moX6_of, mvX6_of, by decide, _, _, rfl⟩
theorem w_X6_isOfPerson {E : EB} {x1 : Int32} {x2 : Int32} {M : Mem} {R : Bool} (h : f_X6_isOfPerson x1 x2 M = some R) : Mt E mX6_isOfPerson [.ref 0, .int x1, .int x2] M (PI (b2i R) M) := by
  refine mt_of (L0 := [some (.ref 0), some (.int x1), some (.int x2)]) (by decide) rfl rfl (fun G hG hR => ?_)
  unfold f_X6_isOfPerson at h
  refine v_iload_1 hG dX6_isOfPerson_0 (q := 1) rfl ?_
  by_cases e0 : x1 = (0 : Int32)
  · refine v_tabIn hG dX6_isOfPerson_1 (tgt := 36) (by rw [e0]; decide) (by rw [e0]; decide) (by rw [e0]; rfl) rfl ?_
    replace h := ifp e0 h
    refine v_iload_2 hG dX6_isOfPerson_36 (q := 37) rfl ?_
    obtain ⟨r_1, hr_1, h⟩ := bnd h
    refine v_cS1I hG csX6_isSaying ml_RX6_113 rfl (w_X6_isSaying hr_1) (Nat.le_of_ble_eq_true rfl) dX6_isOfPerson_37 (q := 40) rfl ?_
    exact v_iret hG hR rfl (b2i_nar _) (sp1b h) dX6_isOfPerson_40
  replace h := ifn e0 h
  by_cases e1 : x1 = (1 : Int32)
  · refine v_tabIn hG dX6_isOfPerson_1 (tgt := 36) (by rw [e1]; decide) (by rw [e1]; decide) (by rw [e1]; rfl) rfl ?_
    replace h := ifp e1 h
    refine v_iload_2 hG dX6_isOfPerson_36 (q := 37) rfl ?_
    obtain ⟨r_2, hr_2, h⟩ := bnd h
    refine v_cS1I hG csX6_isSaying ml_RX6_113 rfl (w_X6_isSaying hr_2) (Nat.le_of_ble_eq_true rfl) dX6_isOfPerson_37 (q := 40) rfl ?_
    exact v_iret hG hR rfl (b2i_nar _) (sp1b h) dX6_isOfPerson_40
  replace h := ifn e1 h
  by_cases e2 : x1 = (2 : Int32)
  · refine v_tabIn hG dX6_isOfPerson_1 (tgt := 41) (by rw [e2]; decide) (by rw [e2]; decide) (by rw [e2]; rfl) rfl ?_
    replace h := ifp e2 h
    refine v_aload_0 hG dX6_isOfPerson_41 (q := 42) rfl ?_
    refine gt_RX6_12 hG rfl kk_0 dX6_isOfPerson_42 (q := 45) rfl ?_
    refine gt_RX6_64 hG rfl kk_1 dX6_isOfPerson_45 (q := 48) rfl ?_
    refine v_iload_2 hG dX6_isOfPerson_48 (q := 49) rfl ?_
    obtain ⟨r_3, hr_3, h⟩ := bnd h
    refine v_cV1I hG cvX5_has ml_RX6_78 rfl kk_2 (w_X5_has kk_2 hr_3) (Nat.le_of_ble_eq_true rfl) dX6_isOfPerson_49 (q := 52) rfl ?_
    exact v_iret hG hR rfl (b2i_nar _) (sp1b h) dX6_isOfPerson_52
  replace h := ifn e2 h
  by_cases e3 : x1 = (3 : Int32)
  · refine v_tabIn hG dX6_isOfPerson_1 (tgt := 53) (by rw [e3]; decide) (by rw [e3]; decide) (by rw [e3]; rfl) rfl ?_
    replace h := ifp e3 h
    refine v_iload_2 hG dX6_isOfPerson_53 (q := 54) rfl ?_
    refine v_if_lt hG dX6_isOfPerson_54 (tgt := 68) rfl (q := 57) rfl (fun hc => ?_) (fun hc => ?_)
    · replace h := ifp hc h
      refine v_iconst hG ci_0 dX6_isOfPerson_68 (q := 69) rfl ?_
      exact v_iret hG hR rfl rfl (sp1b h) dX6_isOfPerson_69
    · replace h := ifn hc h
      refine v_iload_2 hG dX6_isOfPerson_57 (q := 58) rfl ?_
      refine v_ldcw hG kc_RX6_308 dX6_isOfPerson_58 (q := 61) rfl ?_
      refine v_icmp_gt hG dX6_isOfPerson_61 (tgt := 68) rfl (q := 64) rfl (fun hc => ?_) (fun hc => ?_)
      · replace h := ifp hc h
        refine v_iconst hG ci_0 dX6_isOfPerson_68 (q := 69) rfl ?_
        exact v_iret hG hR rfl rfl (sp1b h) dX6_isOfPerson_69
      · replace h := ifn hc h
        refine v_iconst hG ci_1 dX6_isOfPerson_64 (q := 65) rfl ?_
        refine v_goto hG dX6_isOfPerson_65 (tgt := 69) rfl ?_
        exact v_iret hG hR rfl rfl (sp1b h) dX6_isOfPerson_69
  replace h := ifn e3 h
  by_cases e4 : x1 = (4 : Int32)
  · refine v_tabIn hG dX6_isOfPerson_1 (tgt := 70) (by rw [e4]; decide) (by rw [e4]; decide) (by rw [e4]; rfl) rfl ?_
    replace h := ifp e4 h
    refine v_iload_2 hG dX6_isOfPerson_70 (q := 71) rfl ?_
    refine v_if_eq hG dX6_isOfPerson_71 (tgt := 79) rfl (q := 74) rfl (fun hc => ?_) (fun hc => ?_)
    · replace h := ifp hc h
      refine v_iconst hG ci_1 dX6_isOfPerson_79 (q := 80) rfl ?_
      refine v_goto hG dX6_isOfPerson_80 (tgt := 84) rfl ?_
      exact v_iret hG hR rfl rfl (sp1b h) dX6_isOfPerson_84
    · replace h := ifn hc h
      refine v_iload_2 hG dX6_isOfPerson_74 (q := 75) rfl ?_
      refine v_iconst hG ci_1 dX6_isOfPerson_75 (q := 76) rfl ?_
      refine v_icmp_ne hG dX6_isOfPerson_76 (tgt := 83) rfl (q := 79) rfl (fun hc => ?_) (fun hc => ?_)
      · replace h := ifn hc h
        refine v_iconst hG ci_0 dX6_isOfPerson_83 (q := 84) rfl ?_
        exact v_iret hG hR rfl rfl (sp1b h) dX6_isOfPerson_84
      · replace h := ifp hc h
        refine v_iconst hG ci_1 dX6_isOfPerson_79 (q := 80) rfl ?_
        refine v_goto hG dX6_isOfPerson_80 (tgt := 84) rfl ?_
        exact v_iret hG hR rfl rfl (sp1b h) dX6_isOfPerson_84
  replace h := ifn e4 h
  have u0 := sw_ne (n := 0) e0
  have u1 := sw_ne (n := 1) e1
  have u2 := sw_ne (n := 2) e2
  have u3 := sw_ne (n := 3) e3
  have u4 := sw_ne (n := 4) e4
  refine v_tabOut hG dX6_isOfPerson_1 (tgt := 85) (by omega) rfl ?_
  refine v_iconst hG ci_0 dX6_isOfPerson_85 (q := 86) rfl ?_
  exact v_iret hG hR rfl rfl (sp1b h) dX6_isOfPerson_86
theorem cvX6_isOfPerson : CVo mX6_isOfPerson 2 6 := ⟨moX6_isOfPerson, mvX6_isOfPerson, by decide, _, _, rfl⟩
theorem w_X6_change {E : EB} {x1 : Int32} {x2 : Int32} {x3 : Int32} {M : Mem} {R : Int32 × Mem} (h : f_X6_change x1 x2 x3 M = some R) : Mt E mX6_change [.ref 0, .int x1, .int x2, .int x3] M (PI R.1 R.2) := by
  refine mt_of (L0 := [some (.ref 0), some (.int x1), some (.int x2), some (.int x3), none, none]) (by decide) rfl rfl (fun G hG hR => ?_)
  unfold f_X6_change at h
  refine v_aload_0 hG dX6_change_0 (q := 1) rfl ?_
  refine gt_RX6_12 hG rfl kk_0 dX6_change_1 (q := 4) rfl ?_
  refine gt_RX6_85 hG rfl kk_1 dX6_change_4 (q := 7) rfl ?_
  refine v_iload_2 hG dX6_change_7 (q := 8) rfl ?_
  obtain ⟨r_1, hr_1, h⟩ := bnd h
  refine v_cV1R hG cvX0_row ml_RX6_96 rfl kk_9 (w_X0_row kk_9 hr_1) (Nat.le_of_ble_eq_true rfl) dX6_change_8 (q := 11) rfl ?_
  clear hr_1
  cases r_1 with
  | none =>
    refine v_astoreN_4 hG rfl dX6_change_11 (q := 13) rfl ?_
    refine v_aload_0 hG dX6_change_13 (q := 14) rfl ?_
    refine gt_RX6_12 hG rfl kk_0 dX6_change_14 (q := 17) rfl ?_
    refine gt_RX6_85 hG rfl kk_1 dX6_change_17 (q := 20) rfl ?_
    refine v_iload_1 hG dX6_change_20 (q := 21) rfl ?_
    obtain ⟨r_4, hr_4, h⟩ := bnd h
    refine v_cV1I hG cvX0_has ml_RX6_92 rfl kk_9 (w_X0_has kk_9 hr_4) (Nat.le_of_ble_eq_true rfl) dX6_change_21 (q := 24) rfl ?_
    refine v_if_eq hG dX6_change_24 (tgt := 41) rfl (q := 27) rfl (fun hc => ?_) (fun hc => ?_)
    · replace h := ifp hc h
      refine v_aload_0 hG dX6_change_41 (q := 42) rfl ?_
      refine v_ldc hG kc_RX6_59 dX6_change_42 (q := 44) rfl ?_
      obtain ⟨r_5, hr_5, h⟩ := bnd h
      refine v_cV1I hG cvX6_found ml_RX6_60 rfl kk_0 (w_X6_found hr_5) (Nat.le_of_ble_eq_true rfl) dX6_change_44 (q := 47) rfl ?_
      exact v_iret hG hR rfl rfl (sp2t h) dX6_change_47
    · replace h := ifn hc h
      refine v_aloadN_4 hG dX6_change_27 (q := 29) rfl ?_
      refine v_ifnull_n hG dX6_change_29 (tgt := 41) rfl ?_
      refine v_aload_0 hG dX6_change_41 (q := 42) rfl ?_
      refine v_ldc hG kc_RX6_59 dX6_change_42 (q := 44) rfl ?_
      obtain ⟨r_6, hr_6, h⟩ := bnd h
      refine v_cV1I hG cvX6_found ml_RX6_60 rfl kk_0 (w_X6_found hr_6) (Nat.le_of_ble_eq_true rfl) dX6_change_44 (q := 47) rfl ?_
      exact v_iret hG hR rfl rfl (sp2t h) dX6_change_47
  | some a_2 =>
    obtain ⟨c_3, h⟩ := ck_some h
    refine v_astore_4 hG rfl dX6_change_11 (q := 13) rfl ?_
    refine v_aload_0 hG dX6_change_13 (q := 14) rfl ?_
    refine gt_RX6_12 hG rfl kk_0 dX6_change_14 (q := 17) rfl ?_
    refine gt_RX6_85 hG rfl kk_1 dX6_change_17 (q := 20) rfl ?_
    refine v_iload_1 hG dX6_change_20 (q := 21) rfl ?_
    obtain ⟨r_7, hr_7, h⟩ := bnd h
    refine v_cV1I hG cvX0_has ml_RX6_92 rfl kk_9 (w_X0_has kk_9 hr_7) (Nat.le_of_ble_eq_true rfl) dX6_change_21 (q := 24) rfl ?_
    refine v_if_eq hG dX6_change_24 (tgt := 41) rfl (q := 27) rfl (fun hc => ?_) (fun hc => ?_)
    · replace h := ifp hc h
      refine v_aload_0 hG dX6_change_41 (q := 42) rfl ?_
      refine v_ldc hG kc_RX6_59 dX6_change_42 (q := 44) rfl ?_
      obtain ⟨r_8, hr_8, h⟩ := bnd h
      refine v_cV1I hG cvX6_found ml_RX6_60 rfl kk_0 (w_X6_found hr_8) (Nat.le_of_ble_eq_true rfl) dX6_change_44 (q := 47) rfl ?_
      exact v_iret hG hR rfl rfl (sp2t h) dX6_change_47
    · replace h := ifn hc h
      refine v_aload_4 hG dX6_change_27 (q := 29) rfl ?_
      refine v_ifnull_r hG dX6_change_29 (q := 32) rfl ?_
      refine v_aload_0 hG dX6_change_32 (q := 33) rfl ?_
      refine v_iload_2 hG dX6_change_33 (q := 34) rfl ?_
      refine v_iload_3 hG dX6_change_34 (q := 35) rfl ?_
      obtain ⟨r_9, hr_9, h⟩ := bnd h
      refine v_cV2I hG cvX6_isOfPerson ml_RX6_97 rfl kk_0 (w_X6_isOfPerson hr_9) (Nat.le_of_ble_eq_true rfl) dX6_change_35 (q := 38) rfl ?_
      refine v_if_ne hG dX6_change_38 (tgt := 48) rfl (q := 41) rfl (fun hc => ?_) (fun hc => ?_)
      · replace h := ifn hc h
        refine v_aload_4 hG dX6_change_48 (q := 50) rfl ?_
        refine v_iload_1 hG dX6_change_50 (q := 51) rfl ?_
        obtain ⟨c_10, h⟩ := ck_some h
        refine v_iald hG c_3 rfl c_10 dX6_change_51 (q := 52) rfl ?_
        refine v_topi (fun x5_11 hy => ?_)
        replace h := letv_at hy h
        clear hy
        refine v_istore_5 hG rfl dX6_change_52 (q := 54) rfl ?_
        refine v_aload_4 hG dX6_change_54 (q := 56) rfl ?_
        refine v_iload_1 hG dX6_change_56 (q := 57) rfl ?_
        refine v_iload_3 hG dX6_change_57 (q := 58) rfl ?_
        obtain ⟨c_12, h⟩ := ck_some h
        refine v_iast hG c_3 rfl c_12 dX6_change_58 (q := 59) rfl ?_
        refine v_topM (fun M_13 hy => ?_)
        replace h := letv_at hy h
        clear hy
        refine v_iload_5 hG dX6_change_59 (q := 61) rfl ?_
        exact v_iret hG hR rfl rfl (sp2t h) dX6_change_61
      · replace h := ifp hc h
        refine v_aload_0 hG dX6_change_41 (q := 42) rfl ?_
        refine v_ldc hG kc_RX6_59 dX6_change_42 (q := 44) rfl ?_
        obtain ⟨r_14, hr_14, h⟩ := bnd h
        refine v_cV1I hG cvX6_found ml_RX6_60 rfl kk_0 (w_X6_found hr_14) (Nat.le_of_ble_eq_true rfl) dX6_change_44 (q := 47) rfl ?_
        exact v_iret hG hR rfl rfl (sp2t h) dX6_change_47
theorem cvX6_change : CVo mX6_change 3 6 := ⟨moX6_change, mvX6_change, by decide, _, _, rfl⟩
theorem w_X6_tie {E : EB} {x1 : Int32} {x2 : Int32} {x3 : Int32} {M : Mem} {R : Int32 × Mem} (h : f_X6_tie x1 x2 x3 M = some R) : Mt E mX6_tie [.ref 0, .int x1, .int x2, .int x3] M (PI R.1 R.2) := by
  refine mt_of (L0 := [some (.ref 0), some (.int x1), some (.int x2), some (.int x3), none]) (by decide) rfl rfl (fun G hG hR => ?_)
  unfold f_X6_tie at h
  refine v_aload_0 hG dX6_tie_0 (q := 1) rfl ?_
  refine gt_RX6_12 hG rfl kk_0 dX6_tie_1 (q := 4) rfl ?_
  refine gt_RX6_85 hG rfl kk_1 dX6_tie_4 (q := 7) rfl ?_
  refine v_iload_1 hG dX6_tie_7 (q := 8) rfl ?_
  refine v_iload_2 hG dX6_tie_8 (q := 9) rfl ?_
  obtain ⟨r_1, hr_1, h⟩ := bnd h
  refine v_cV2I hG cvX0_areTwo ml_RX6_100 rfl kk_9 (w_X0_areTwo kk_9 hr_1) (Nat.le_of_ble_eq_true rfl) dX6_tie_9 (q := 12) rfl ?_
  refine v_if_ne hG dX6_tie_12 (tgt := 22) rfl (q := 15) rfl (fun hc => ?_) (fun hc => ?_)
  · replace h := ifn hc h
    refine v_aload_0 hG dX6_tie_22 (q := 23) rfl ?_
    refine gt_RX6_12 hG rfl kk_0 dX6_tie_23 (q := 26) rfl ?_
    refine gt_RX6_85 hG rfl kk_1 dX6_tie_26 (q := 29) rfl ?_
    refine v_iload_1 hG dX6_tie_29 (q := 30) rfl ?_
    refine v_iload_2 hG dX6_tie_30 (q := 31) rfl ?_
    obtain ⟨r_2, hr_2, h⟩ := bnd h
    refine v_cV2I hG cvX0_isTied ml_RX6_103 rfl kk_9 (w_X0_isTied kk_9 hr_2) (Nat.le_of_ble_eq_true rfl) dX6_tie_31 (q := 34) rfl ?_
    refine v_if_eq hG dX6_tie_34 (tgt := 41) rfl (q := 37) rfl (fun hc => ?_) (fun hc => ?_)
    · replace h := ifp hc h
      refine v_iconst hG ci_0 dX6_tie_41 (q := 42) rfl ?_
      refine v_istore_4 hG rfl dX6_tie_42 (q := 44) rfl ?_
      refine v_aload_0 hG dX6_tie_44 (q := 45) rfl ?_
      refine gt_RX6_12 hG rfl kk_0 dX6_tie_45 (q := 48) rfl ?_
      refine gt_RX6_85 hG rfl kk_1 dX6_tie_48 (q := 51) rfl ?_
      refine v_iload_1 hG dX6_tie_51 (q := 52) rfl ?_
      refine v_iload_2 hG dX6_tie_52 (q := 53) rfl ?_
      refine v_iload_3 hG dX6_tie_53 (q := 54) rfl ?_
      obtain ⟨r_3, hr_3, h⟩ := bnd h
      refine v_cV3V hG cvX0_bind ml_RX6_106 rfl kk_9 (w_X0_bind kk_9 hr_3) (Nat.le_of_ble_eq_true rfl) dX6_tie_54 (q := 57) rfl ?_
      refine v_iload_4 hG dX6_tie_57 (q := 59) rfl ?_
      exact v_iret hG hR rfl rfl (sp2t h) dX6_tie_59
    · replace h := ifn hc h
      refine v_iconst hG ci_1 dX6_tie_37 (q := 38) rfl ?_
      refine v_goto hG dX6_tie_38 (tgt := 42) rfl ?_
      refine v_istore_4 hG rfl dX6_tie_42 (q := 44) rfl ?_
      refine v_aload_0 hG dX6_tie_44 (q := 45) rfl ?_
      refine gt_RX6_12 hG rfl kk_0 dX6_tie_45 (q := 48) rfl ?_
      refine gt_RX6_85 hG rfl kk_1 dX6_tie_48 (q := 51) rfl ?_
      refine v_iload_1 hG dX6_tie_51 (q := 52) rfl ?_
      refine v_iload_2 hG dX6_tie_52 (q := 53) rfl ?_
      refine v_iload_3 hG dX6_tie_53 (q := 54) rfl ?_
      obtain ⟨r_4, hr_4, h⟩ := bnd h
      refine v_cV3V hG cvX0_bind ml_RX6_106 rfl kk_9 (w_X0_bind kk_9 hr_4) (Nat.le_of_ble_eq_true rfl) dX6_tie_54 (q := 57) rfl ?_
      refine v_iload_4 hG dX6_tie_57 (q := 59) rfl ?_
      exact v_iret hG hR rfl rfl (sp2t h) dX6_tie_59
  · replace h := ifp hc h
    refine v_aload_0 hG dX6_tie_15 (q := 16) rfl ?_
    refine v_ldc hG kc_RX6_59 dX6_tie_16 (q := 18) rfl ?_
    obtain ⟨r_5, hr_5, h⟩ := bnd h
    refine v_cV1I hG cvX6_found ml_RX6_60 rfl kk_0 (w_X6_found hr_5) (Nat.le_of_ble_eq_true rfl) dX6_tie_18 (q := 21) rfl ?_
    exact v_iret hG hR rfl rfl (sp2t h) dX6_tie_21
theorem cvX6_tie : CVo mX6_tie 3 6 := ⟨moX6_tie, mvX6_tie, by decide, _, _, rfl⟩
theorem w_X6_ties {E : EB} {x1 : Int32} {M : Mem} {R : Int32 × Mem} (h : f_X6_ties x1 M = some R) : Mt E mX6_ties [.ref 0, .int x1] M (PI R.1 R.2) := by
  refine mt_of (L0 := [some (.ref 0), some (.int x1)]) (by decide) rfl rfl (fun G hG hR => ?_)
  unfold f_X6_ties at h
  refine v_aload_0 hG dX6_ties_0 (q := 1) rfl ?_
  refine gt_RX6_12 hG rfl kk_0 dX6_ties_1 (q := 4) rfl ?_
  refine gt_RX6_85 hG rfl kk_1 dX6_ties_4 (q := 7) rfl ?_
  refine v_iload_1 hG dX6_ties_7 (q := 8) rfl ?_
  obtain ⟨r_1, hr_1, h⟩ := bnd h
  refine v_cV1I hG cvX0_has ml_RX6_92 rfl kk_9 (w_X0_has kk_9 hr_1) (Nat.le_of_ble_eq_true rfl) dX6_ties_8 (q := 11) rfl ?_
  refine v_if_ne hG dX6_ties_11 (tgt := 21) rfl (q := 14) rfl (fun hc => ?_) (fun hc => ?_)
  · replace h := ifn hc h
    refine v_aload_0 hG dX6_ties_21 (q := 22) rfl ?_
    refine gt_RX6_12 hG rfl kk_0 dX6_ties_22 (q := 25) rfl ?_
    refine gt_RX6_85 hG rfl kk_1 dX6_ties_25 (q := 28) rfl ?_
    refine gt_RX6_110 hG rfl kk_9 dX6_ties_28 (q := 31) rfl ?_
    refine v_iload_1 hG dX6_ties_31 (q := 32) rfl ?_
    obtain ⟨c_2, h⟩ := ck_some h
    refine v_iald hG kk_15 rfl c_2 dX6_ties_32 (q := 33) rfl ?_
    exact v_iret hG hR rfl rfl (sp2t h) dX6_ties_33
  · replace h := ifp hc h
    refine v_aload_0 hG dX6_ties_14 (q := 15) rfl ?_
    refine v_ldc hG kc_RX6_59 dX6_ties_15 (q := 17) rfl ?_
    obtain ⟨r_3, hr_3, h⟩ := bnd h
    refine v_cV1I hG cvX6_found ml_RX6_60 rfl kk_0 (w_X6_found hr_3) (Nat.le_of_ble_eq_true rfl) dX6_ties_17 (q := 20) rfl ?_
    exact v_iret hG hR rfl rfl (sp2t h) dX6_ties_20
theorem cvX6_ties : CVo mX6_ties 1 6 := ⟨moX6_ties, mvX6_ties, by decide, _, _, rfl⟩
theorem w_X6_puts {E : EB} {x1 : Int32} {x2 : Int32} {M : Mem} {R : Int32 × Mem} (h : f_X6_puts x1 x2 M = some R) : Mt E mX6_puts [.ref 0, .int x1, .int x2] M (PI R.1 R.2) := by
  refine mt_of (L0 := [some (.ref 0), some (.int x1), some (.int x2)]) (by decide) rfl rfl (fun G hG hR => ?_)
  unfold f_X6_puts at h
  refine v_aload_0 hG dX6_puts_0 (q := 1) rfl ?_
  refine gt_RX6_12 hG rfl kk_0 dX6_puts_1 (q := 4) rfl ?_
  refine gt_RX6_64 hG rfl kk_1 dX6_puts_4 (q := 7) rfl ?_
  refine v_iload_1 hG dX6_puts_7 (q := 8) rfl ?_
  obtain ⟨r_1, hr_1, h⟩ := bnd h
  refine v_cV1I hG cvX5_has ml_RX6_78 rfl kk_2 (w_X5_has kk_2 hr_1) (Nat.le_of_ble_eq_true rfl) dX6_puts_8 (q := 11) rfl ?_
  refine v_if_eq hG dX6_puts_11 (tgt := 21) rfl (q := 14) rfl (fun hc => ?_) (fun hc => ?_)
  · replace h := ifp hc h
    refine v_aload_0 hG dX6_puts_21 (q := 22) rfl ?_
    refine v_ldc hG kc_RX6_59 dX6_puts_22 (q := 24) rfl ?_
    obtain ⟨r_2, hr_2, h⟩ := bnd h
    refine v_cV1I hG cvX6_found ml_RX6_60 rfl kk_0 (w_X6_found hr_2) (Nat.le_of_ble_eq_true rfl) dX6_puts_24 (q := 27) rfl ?_
    exact v_iret hG hR rfl rfl (sp2t h) dX6_puts_27
  · replace h := ifn hc h
    refine v_iload_2 hG dX6_puts_14 (q := 15) rfl ?_
    obtain ⟨r_3, hr_3, h⟩ := bnd h
    refine v_cS1I hG csX6_isSaying ml_RX6_113 rfl (w_X6_isSaying hr_3) (Nat.le_of_ble_eq_true rfl) dX6_puts_15 (q := 18) rfl ?_
    refine v_if_ne hG dX6_puts_18 (tgt := 28) rfl (q := 21) rfl (fun hc => ?_) (fun hc => ?_)
    · replace h := ifn hc h
      refine v_aload_0 hG dX6_puts_28 (q := 29) rfl ?_
      refine gt_RX6_12 hG rfl kk_0 dX6_puts_29 (q := 32) rfl ?_
      refine gt_RX6_64 hG rfl kk_1 dX6_puts_32 (q := 35) rfl ?_
      refine v_iload_1 hG dX6_puts_35 (q := 36) rfl ?_
      refine v_iload_2 hG dX6_puts_36 (q := 37) rfl ?_
      obtain ⟨r_4, hr_4, h⟩ := bnd h
      refine v_cV2I hG cvX5_make ml_RX6_116 rfl kk_2 (w_X5_make kk_2 hr_4) (Nat.le_of_ble_eq_true rfl) dX6_puts_37 (q := 40) rfl ?_
      exact v_iret hG hR rfl rfl (sp2t h) dX6_puts_40
    · replace h := ifp hc h
      refine v_aload_0 hG dX6_puts_21 (q := 22) rfl ?_
      refine v_ldc hG kc_RX6_59 dX6_puts_22 (q := 24) rfl ?_
      obtain ⟨r_5, hr_5, h⟩ := bnd h
      refine v_cV1I hG cvX6_found ml_RX6_60 rfl kk_0 (w_X6_found hr_5) (Nat.le_of_ble_eq_true rfl) dX6_puts_24 (q := 27) rfl ?_
      exact v_iret hG hR rfl rfl (sp2t h) dX6_puts_27
theorem cvX6_puts : CVo mX6_puts 2 6 := ⟨moX6_puts, mvX6_puts, by decide, _, _, rfl⟩
theorem w_X6_says {E : EB} {x1 : Int32} {M : Mem} {R : Int32 × Mem} (h : f_X6_says x1 M = some R) : Mt E mX6_says [.ref 0, .int x1] M (PI R.1 R.2) := by
  refine mt_of (L0 := [some (.ref 0), some (.int x1)]) (by decide) rfl rfl (fun G hG hR => ?_)
  unfold f_X6_says at h
  refine v_aload_0 hG dX6_says_0 (q := 1) rfl ?_
  refine gt_RX6_12 hG rfl kk_0 dX6_says_1 (q := 4) rfl ?_
  refine gt_RX6_85 hG rfl kk_1 dX6_says_4 (q := 7) rfl ?_
  refine v_iload_1 hG dX6_says_7 (q := 8) rfl ?_
  obtain ⟨r_1, hr_1, h⟩ := bnd h
  refine v_cV1I hG cvX0_has ml_RX6_92 rfl kk_9 (w_X0_has kk_9 hr_1) (Nat.le_of_ble_eq_true rfl) dX6_says_8 (q := 11) rfl ?_
  refine v_if_ne hG dX6_says_11 (tgt := 21) rfl (q := 14) rfl (fun hc => ?_) (fun hc => ?_)
  · replace h := ifn hc h
    refine v_aload_0 hG dX6_says_21 (q := 22) rfl ?_
    refine gt_RX6_12 hG rfl kk_0 dX6_says_22 (q := 25) rfl ?_
    refine gt_RX6_85 hG rfl kk_1 dX6_says_25 (q := 28) rfl ?_
    refine v_iload_1 hG dX6_says_28 (q := 29) rfl ?_
    obtain ⟨r_2, hr_2, h⟩ := bnd h
    refine v_cV1I hG cvX0_ownWords ml_RX6_120 rfl kk_9 (w_X0_ownWords kk_9 hr_2) (Nat.le_of_ble_eq_true rfl) dX6_says_29 (q := 32) rfl ?_
    exact v_iret hG hR rfl rfl (sp2t h) dX6_says_32
  · replace h := ifp hc h
    refine v_aload_0 hG dX6_says_14 (q := 15) rfl ?_
    refine v_ldc hG kc_RX6_59 dX6_says_15 (q := 17) rfl ?_
    obtain ⟨r_3, hr_3, h⟩ := bnd h
    refine v_cV1I hG cvX6_found ml_RX6_60 rfl kk_0 (w_X6_found hr_3) (Nat.le_of_ble_eq_true rfl) dX6_says_17 (q := 20) rfl ?_
    exact v_iret hG hR rfl rfl (sp2t h) dX6_says_20
theorem cvX6_says : CVo mX6_says 1 6 := ⟨moX6_says, mvX6_says, by decide, _, _, rfl⟩
theorem w_X6_read {E : EB} {x1 : Int32} {x2 : Int32} {x3 : Int32} {M : Mem} {R : Int32 × Mem} (h : f_X6_read x1 x2 x3 M = some R) : Mt E mX6_read [.ref 0, .int x1, .int x2, .int x3] M (PI R.1 R.2) := by
  refine mt_of (L0 := [some (.ref 0), some (.int x1), some (.int x2), some (.int x3)]) (by decide) rfl rfl (fun G hG hR => ?_)
  unfold f_X6_read at h
  refine v_aload_0 hG dX6_read_0 (q := 1) rfl ?_
  refine gt_RX6_12 hG rfl kk_0 dX6_read_1 (q := 4) rfl ?_
  refine gt_RX6_85 hG rfl kk_1 dX6_read_4 (q := 7) rfl ?_
  refine v_iload_1 hG dX6_read_7 (q := 8) rfl ?_
  refine v_iload_2 hG dX6_read_8 (q := 9) rfl ?_
  obtain ⟨r_1, hr_1, h⟩ := bnd h
  refine v_cV2I hG cvX0_areTwo ml_RX6_100 rfl kk_9 (w_X0_areTwo kk_9 hr_1) (Nat.le_of_ble_eq_true rfl) dX6_read_9 (q := 12) rfl ?_
  refine v_if_eq hG dX6_read_12 (tgt := 22) rfl (q := 15) rfl (fun hc => ?_) (fun hc => ?_)
  · replace h := ifp hc h
    refine v_aload_0 hG dX6_read_22 (q := 23) rfl ?_
    refine v_ldc hG kc_RX6_59 dX6_read_23 (q := 25) rfl ?_
    obtain ⟨r_2, hr_2, h⟩ := bnd h
    refine v_cV1I hG cvX6_found ml_RX6_60 rfl kk_0 (w_X6_found hr_2) (Nat.le_of_ble_eq_true rfl) dX6_read_25 (q := 28) rfl ?_
    exact v_iret hG hR rfl rfl (sp2t h) dX6_read_28
  · replace h := ifn hc h
    refine v_iload_3 hG dX6_read_15 (q := 16) rfl ?_
    obtain ⟨r_3, hr_3, h⟩ := bnd h
    refine v_cS1I hG csX6_isSaying ml_RX6_113 rfl (w_X6_isSaying hr_3) (Nat.le_of_ble_eq_true rfl) dX6_read_16 (q := 19) rfl ?_
    refine v_if_ne hG dX6_read_19 (tgt := 29) rfl (q := 22) rfl (fun hc => ?_) (fun hc => ?_)
    · replace h := ifn hc h
      refine v_aload_0 hG dX6_read_29 (q := 30) rfl ?_
      refine gt_RX6_12 hG rfl kk_0 dX6_read_30 (q := 33) rfl ?_
      refine v_iload_2 hG dX6_read_33 (q := 34) rfl ?_
      refine v_aload_0 hG dX6_read_34 (q := 35) rfl ?_
      refine gt_RX6_12 hG rfl kk_0 dX6_read_35 (q := 38) rfl ?_
      refine v_iload_1 hG dX6_read_38 (q := 39) rfl ?_
      refine v_iload_3 hG dX6_read_39 (q := 40) rfl ?_
      obtain ⟨r_4, hr_4, h⟩ := bnd h
      refine v_cV2I hG cvX4_heard ml_RX6_123 rfl kk_1 (w_X4_heard kk_1 hr_4) (Nat.le_of_ble_eq_true rfl) dX6_read_40 (q := 43) rfl ?_
      obtain ⟨r_5, hr_5, h⟩ := bnd h
      refine v_cV2I hG cvX4_heard ml_RX6_123 rfl kk_1 (w_X4_heard kk_1 hr_5) (Nat.le_of_ble_eq_true rfl) dX6_read_43 (q := 46) rfl ?_
      exact v_iret hG hR rfl rfl (sp2t h) dX6_read_46
    · replace h := ifp hc h
      refine v_aload_0 hG dX6_read_22 (q := 23) rfl ?_
      refine v_ldc hG kc_RX6_59 dX6_read_23 (q := 25) rfl ?_
      obtain ⟨r_6, hr_6, h⟩ := bnd h
      refine v_cV1I hG cvX6_found ml_RX6_60 rfl kk_0 (w_X6_found hr_6) (Nat.le_of_ble_eq_true rfl) dX6_read_25 (q := 28) rfl ?_
      exact v_iret hG hR rfl rfl (sp2t h) dX6_read_28
theorem cvX6_read : CVo mX6_read 3 6 := ⟨moX6_read, mvX6_read, by decide, _, _, rfl⟩
theorem w_X6_send {E : EB} {x1 : Int32} {x2 : Int32} {x3 : Int32} {M : Mem} {R : Int32 × Mem} (h : f_X6_send x1 x2 x3 M = some R) : Mt E mX6_send [.ref 0, .int x1, .int x2, .int x3] M (PI R.1 R.2) := by
  refine mt_of (L0 := [some (.ref 0), some (.int x1), some (.int x2), some (.int x3), none]) (by decide) rfl rfl (fun G hG hR => ?_)
  unfold f_X6_send at h
  refine v_aload_0 hG dX6_send_0 (q := 1) rfl ?_
  refine gt_RX6_12 hG rfl kk_0 dX6_send_1 (q := 4) rfl ?_
  refine gt_RX6_85 hG rfl kk_1 dX6_send_4 (q := 7) rfl ?_
  refine v_iload_1 hG dX6_send_7 (q := 8) rfl ?_
  refine v_iload_2 hG dX6_send_8 (q := 9) rfl ?_
  obtain ⟨r_1, hr_1, h⟩ := bnd h
  refine v_cV2I hG cvX0_areTwo ml_RX6_100 rfl kk_9 (w_X0_areTwo kk_9 hr_1) (Nat.le_of_ble_eq_true rfl) dX6_send_9 (q := 12) rfl ?_
  refine v_if_eq hG dX6_send_12 (tgt := 22) rfl (q := 15) rfl (fun hc => ?_) (fun hc => ?_)
  · replace h := ifp hc h
    refine v_aload_0 hG dX6_send_22 (q := 23) rfl ?_
    refine v_ldc hG kc_RX6_59 dX6_send_23 (q := 25) rfl ?_
    obtain ⟨r_2, hr_2, h⟩ := bnd h
    refine v_cV1I hG cvX6_found ml_RX6_60 rfl kk_0 (w_X6_found hr_2) (Nat.le_of_ble_eq_true rfl) dX6_send_25 (q := 28) rfl ?_
    exact v_iret hG hR rfl rfl (sp2t h) dX6_send_28
  · replace h := ifn hc h
    refine v_iload_3 hG dX6_send_15 (q := 16) rfl ?_
    obtain ⟨r_3, hr_3, h⟩ := bnd h
    refine v_cS1I hG csX6_isSaying ml_RX6_113 rfl (w_X6_isSaying hr_3) (Nat.le_of_ble_eq_true rfl) dX6_send_16 (q := 19) rfl ?_
    refine v_if_ne hG dX6_send_19 (tgt := 29) rfl (q := 22) rfl (fun hc => ?_) (fun hc => ?_)
    · replace h := ifn hc h
      refine v_aload_0 hG dX6_send_29 (q := 30) rfl ?_
      refine gt_RX6_12 hG rfl kk_0 dX6_send_30 (q := 33) rfl ?_
      refine v_iload_1 hG dX6_send_33 (q := 34) rfl ?_
      refine v_iload_2 hG dX6_send_34 (q := 35) rfl ?_
      refine v_iload_3 hG dX6_send_35 (q := 36) rfl ?_
      obtain ⟨r_4, hr_4, h⟩ := bnd h
      refine v_cV3I hG cvX4_letter ml_RX6_126 rfl kk_1 (w_X4_letter kk_1 hr_4) (Nat.le_of_ble_eq_true rfl) dX6_send_36 (q := 39) rfl ?_
      refine v_istore_4 hG rfl dX6_send_39 (q := 41) rfl ?_
      refine v_iload_4 hG dX6_send_41 (q := 43) rfl ?_
      refine v_if_ge hG dX6_send_43 (tgt := 55) rfl (q := 46) rfl (fun hc => ?_) (fun hc => ?_)
      · replace h := ifp hc h
        refine v_iload_4 hG dX6_send_55 (q := 57) rfl ?_
        exact v_iret hG hR rfl rfl (sp2t h) dX6_send_57
      · replace h := ifn hc h
        refine v_aload_0 hG dX6_send_46 (q := 47) rfl ?_
        refine v_ldc hG kc_RX6_130 dX6_send_47 (q := 49) rfl ?_
        obtain ⟨r_5, hr_5, h⟩ := bnd h
        refine v_cV1I hG cvX6_found ml_RX6_60 rfl kk_0 (w_X6_found hr_5) (Nat.le_of_ble_eq_true rfl) dX6_send_49 (q := 52) rfl ?_
        refine v_goto hG dX6_send_52 (tgt := 57) rfl ?_
        exact v_iret hG hR rfl rfl (sp2t h) dX6_send_57
    · replace h := ifp hc h
      refine v_aload_0 hG dX6_send_22 (q := 23) rfl ?_
      refine v_ldc hG kc_RX6_59 dX6_send_23 (q := 25) rfl ?_
      obtain ⟨r_6, hr_6, h⟩ := bnd h
      refine v_cV1I hG cvX6_found ml_RX6_60 rfl kk_0 (w_X6_found hr_6) (Nat.le_of_ble_eq_true rfl) dX6_send_25 (q := 28) rfl ?_
      exact v_iret hG hR rfl rfl (sp2t h) dX6_send_28
theorem cvX6_send : CVo mX6_send 3 6 := ⟨moX6_send, mvX6_send, by decide, _, _, rfl⟩
theorem w_X6_years {E : EB} {x1 : Int32} {M : Mem} {R : Int32 × Mem} (h : f_X6_years x1 M = some R) : Mt E mX6_years [.ref 0, .int x1] M (PI R.1 R.2) := by
  refine mt_of (L0 := [some (.ref 0), some (.int x1), none]) (by decide) rfl rfl (fun G hG hR => ?_)
  unfold f_X6_years at h
  refine v_iload_1 hG dX6_years_0 (q := 1) rfl ?_
  refine v_iconst hG ci_1 dX6_years_1 (q := 2) rfl ?_
  refine v_icmp_lt hG dX6_years_2 (tgt := 11) rfl (q := 5) rfl (fun hc => ?_) (fun hc => ?_)
  · replace h := ifp hc h
    refine v_aload_0 hG dX6_years_11 (q := 12) rfl ?_
    refine v_ldc hG kc_RX6_59 dX6_years_12 (q := 14) rfl ?_
    obtain ⟨r_1, hr_1, h⟩ := bnd h
    refine v_cV1I hG cvX6_found ml_RX6_60 rfl kk_0 (w_X6_found hr_1) (Nat.le_of_ble_eq_true rfl) dX6_years_14 (q := 17) rfl ?_
    exact v_iret hG hR rfl rfl (sp2t h) dX6_years_17
  · replace h := ifn hc h
    refine v_iload_1 hG dX6_years_5 (q := 6) rfl ?_
    refine v_bipush hG cb_30 dX6_years_6 (q := 8) rfl ?_
    refine v_icmp_le hG dX6_years_8 (tgt := 18) rfl (q := 11) rfl (fun hc => ?_) (fun hc => ?_)
    · replace h := ifp hc h
      refine v_aload_0 hG dX6_years_18 (q := 19) rfl ?_
      refine gt_RX6_12 hG rfl kk_0 dX6_years_19 (q := 22) rfl ?_
      refine v_iload_1 hG dX6_years_22 (q := 23) rfl ?_
      obtain ⟨r_2, hr_2, h⟩ := bnd h
      refine v_cV1I hG cvX4_hasYears ml_RX6_131 rfl kk_1 (w_X4_hasYears kk_1 hr_2) (Nat.le_of_ble_eq_true rfl) dX6_years_23 (q := 26) rfl ?_
      refine v_if_ne hG dX6_years_26 (tgt := 36) rfl (q := 29) rfl (fun hc => ?_) (fun hc => ?_)
      · replace h := ifn hc h
        refine v_aload_0 hG dX6_years_36 (q := 37) rfl ?_
        refine gt_RX6_12 hG rfl kk_0 dX6_years_37 (q := 40) rfl ?_
        refine gt_RX6_134 hG rfl kk_1 dX6_years_40 (q := 43) rfl ?_
        refine v_topi (fun x2_3 hy => ?_)
        replace h := letv_at hy h
        clear hy
        refine v_istore_2 hG rfl dX6_years_43 (q := 44) rfl ?_
        refine v_aload_0 hG dX6_years_44 (q := 45) rfl ?_
        refine gt_RX6_12 hG rfl kk_0 dX6_years_45 (q := 48) rfl ?_
        refine v_iload_1 hG dX6_years_48 (q := 49) rfl ?_
        obtain ⟨r_4, hr_4, h⟩ := bnd h
        refine v_cV1V hG cvX4_passYears ml_RX6_138 rfl kk_1 (w_X4_passYears kk_1 hr_4) (Nat.le_of_ble_eq_true rfl) dX6_years_49 (q := 52) rfl ?_
        refine v_aload_0 hG dX6_years_52 (q := 53) rfl ?_
        refine gt_RX6_12 hG rfl kk_0 dX6_years_53 (q := 56) rfl ?_
        refine gt_RX6_134 hG rfl kk_1 dX6_years_56 (q := 59) rfl ?_
        refine v_iload_2 hG dX6_years_59 (q := 60) rfl ?_
        refine v_isub hG dX6_years_60 (q := 61) rfl ?_
        exact v_iret hG hR rfl rfl (sp2t h) dX6_years_61
      · replace h := ifp hc h
        refine v_aload_0 hG dX6_years_29 (q := 30) rfl ?_
        refine v_ldc hG kc_RX6_130 dX6_years_30 (q := 32) rfl ?_
        obtain ⟨r_5, hr_5, h⟩ := bnd h
        refine v_cV1I hG cvX6_found ml_RX6_60 rfl kk_0 (w_X6_found hr_5) (Nat.le_of_ble_eq_true rfl) dX6_years_32 (q := 35) rfl ?_
        exact v_iret hG hR rfl rfl (sp2t h) dX6_years_35
    · replace h := ifn hc h
      refine v_aload_0 hG dX6_years_11 (q := 12) rfl ?_
      refine v_ldc hG kc_RX6_59 dX6_years_12 (q := 14) rfl ?_
      obtain ⟨r_6, hr_6, h⟩ := bnd h
      refine v_cV1I hG cvX6_found ml_RX6_60 rfl kk_0 (w_X6_found hr_6) (Nat.le_of_ble_eq_true rfl) dX6_years_14 (q := 17) rfl ?_
      exact v_iret hG hR rfl rfl (sp2t h) dX6_years_17
theorem cvX6_years : CVo mX6_years 1 6 := ⟨moX6_years, mvX6_years, by decide, _, _, rfl⟩
theorem w_X6_now {E : EB} {x1 : Int32} {M : Mem} {R : Int32 × Mem} (h : f_X6_now x1 M = some R) : Mt E mX6_now [.ref 0, .int x1] M (PI R.1 R.2) := by
  refine mt_of (L0 := [some (.ref 0), some (.int x1)]) (by decide) rfl rfl (fun G hG hR => ?_)
  unfold f_X6_now at h
  refine v_iload_1 hG dX6_now_0 (q := 1) rfl ?_
  by_cases e0 : x1 = (0 : Int32)
  · refine v_tabIn hG dX6_now_1 (tgt := 40) (by rw [e0]; decide) (by rw [e0]; decide) (by rw [e0]; rfl) rfl ?_
    replace h := ifp e0 h
    refine v_aload_0 hG dX6_now_40 (q := 41) rfl ?_
    refine gt_RX6_12 hG rfl kk_0 dX6_now_41 (q := 44) rfl ?_
    refine gt_RX6_142 hG rfl kk_1 dX6_now_44 (q := 47) rfl ?_
    exact v_iret hG hR rfl rfl (sp2t h) dX6_now_47
  replace h := ifn e0 h
  by_cases e1 : x1 = (1 : Int32)
  · refine v_tabIn hG dX6_now_1 (tgt := 48) (by rw [e1]; decide) (by rw [e1]; decide) (by rw [e1]; rfl) rfl ?_
    replace h := ifp e1 h
    refine v_aload_0 hG dX6_now_48 (q := 49) rfl ?_
    refine gt_RX6_12 hG rfl kk_0 dX6_now_49 (q := 52) rfl ?_
    refine gt_RX6_134 hG rfl kk_1 dX6_now_52 (q := 55) rfl ?_
    exact v_iret hG hR rfl rfl (sp2t h) dX6_now_55
  replace h := ifn e1 h
  by_cases e2 : x1 = (2 : Int32)
  · refine v_tabIn hG dX6_now_1 (tgt := 56) (by rw [e2]; decide) (by rw [e2]; decide) (by rw [e2]; rfl) rfl ?_
    replace h := ifp e2 h
    refine v_aload_0 hG dX6_now_56 (q := 57) rfl ?_
    refine gt_RX6_12 hG rfl kk_0 dX6_now_57 (q := 60) rfl ?_
    refine gt_RX6_85 hG rfl kk_1 dX6_now_60 (q := 63) rfl ?_
    obtain ⟨r_1, hr_1, h⟩ := bnd h
    refine v_cV0I hG cvX0_howManyTies ml_RX6_145 rfl kk_9 (w_X0_howManyTies kk_9 hr_1) (Nat.le_of_ble_eq_true rfl) dX6_now_63 (q := 66) rfl ?_
    exact v_iret hG hR rfl rfl (sp2t h) dX6_now_66
  replace h := ifn e2 h
  by_cases e3 : x1 = (3 : Int32)
  · refine v_tabIn hG dX6_now_1 (tgt := 67) (by rw [e3]; decide) (by rw [e3]; decide) (by rw [e3]; rfl) rfl ?_
    replace h := ifp e3 h
    refine v_aload_0 hG dX6_now_67 (q := 68) rfl ?_
    refine gt_RX6_12 hG rfl kk_0 dX6_now_68 (q := 71) rfl ?_
    refine gt_RX6_85 hG rfl kk_1 dX6_now_71 (q := 74) rfl ?_
    refine v_aload_0 hG dX6_now_74 (q := 75) rfl ?_
    refine gt_RX6_12 hG rfl kk_0 dX6_now_75 (q := 78) rfl ?_
    refine gt_RX6_85 hG rfl kk_1 dX6_now_78 (q := 81) rfl ?_
    refine gt_RX6_149 hG rfl kk_9 dX6_now_81 (q := 84) rfl ?_
    obtain ⟨r_2, hr_2, h⟩ := bnd h
    refine v_cV1I hG cvX0_anyOf ml_RX6_152 rfl kk_9 (w_X0_anyOf kk_9 kk_10 hr_2) (Nat.le_of_ble_eq_true rfl) dX6_now_84 (q := 87) rfl ?_
    exact v_iret hG hR rfl rfl (sp2t h) dX6_now_87
  replace h := ifn e3 h
  by_cases e4 : x1 = (4 : Int32)
  · refine v_tabIn hG dX6_now_1 (tgt := 88) (by rw [e4]; decide) (by rw [e4]; decide) (by rw [e4]; rfl) rfl ?_
    replace h := ifp e4 h
    refine v_aload_0 hG dX6_now_88 (q := 89) rfl ?_
    refine gt_RX6_12 hG rfl kk_0 dX6_now_89 (q := 92) rfl ?_
    refine gt_RX6_85 hG rfl kk_1 dX6_now_92 (q := 95) rfl ?_
    refine v_aload_0 hG dX6_now_95 (q := 96) rfl ?_
    refine gt_RX6_12 hG rfl kk_0 dX6_now_96 (q := 99) rfl ?_
    refine gt_RX6_85 hG rfl kk_1 dX6_now_99 (q := 102) rfl ?_
    refine gt_RX6_156 hG rfl kk_9 dX6_now_102 (q := 105) rfl ?_
    obtain ⟨r_3, hr_3, h⟩ := bnd h
    refine v_cV1I hG cvX0_anyOf ml_RX6_152 rfl kk_9 (w_X0_anyOf kk_9 kk_11 hr_3) (Nat.le_of_ble_eq_true rfl) dX6_now_105 (q := 108) rfl ?_
    exact v_iret hG hR rfl rfl (sp2t h) dX6_now_108
  replace h := ifn e4 h
  by_cases e5 : x1 = (5 : Int32)
  · refine v_tabIn hG dX6_now_1 (tgt := 109) (by rw [e5]; decide) (by rw [e5]; decide) (by rw [e5]; rfl) rfl ?_
    replace h := ifp e5 h
    refine v_aload_0 hG dX6_now_109 (q := 110) rfl ?_
    refine gt_RX6_12 hG rfl kk_0 dX6_now_110 (q := 113) rfl ?_
    refine gt_RX6_85 hG rfl kk_1 dX6_now_113 (q := 116) rfl ?_
    obtain ⟨r_4, hr_4, h⟩ := bnd h
    refine v_cV0I hG cvX0_allPence ml_RX6_159 rfl kk_9 (w_X0_allPence kk_9 hr_4) (Nat.le_of_ble_eq_true rfl) dX6_now_116 (q := 119) rfl ?_
    refine v_aload_0 hG dX6_now_119 (q := 120) rfl ?_
    refine gt_RX6_12 hG rfl kk_0 dX6_now_120 (q := 123) rfl ?_
    refine gt_RX6_64 hG rfl kk_1 dX6_now_123 (q := 126) rfl ?_
    obtain ⟨r_5, hr_5, h⟩ := bnd h
    refine v_cV0I hG cvX5_allPurses ml_RX6_162 rfl kk_2 (w_X5_allPurses kk_2 hr_5) (Nat.le_of_ble_eq_true rfl) dX6_now_126 (q := 129) rfl ?_
    refine v_iadd hG dX6_now_129 (q := 130) rfl ?_
    exact v_iret hG hR rfl rfl (sp2t h) dX6_now_130
  replace h := ifn e5 h
  have u0 := sw_ne (n := 0) e0
  have u1 := sw_ne (n := 1) e1
  have u2 := sw_ne (n := 2) e2
  have u3 := sw_ne (n := 3) e3
  have u4 := sw_ne (n := 4) e4
  have u5 := sw_ne (n := 5) e5
  refine v_tabOut hG dX6_now_1 (tgt := 131) (by omega) rfl ?_
  refine v_aload_0 hG dX6_now_131 (q := 132) rfl ?_
  refine v_ldc hG kc_RX6_59 dX6_now_132 (q := 134) rfl ?_
  obtain ⟨r_6, hr_6, h⟩ := bnd h
  refine v_cV1I hG cvX6_found ml_RX6_60 rfl kk_0 (w_X6_found hr_6) (Nat.le_of_ble_eq_true rfl) dX6_now_134 (q := 137) rfl ?_
  exact v_iret hG hR rfl rfl (sp2t h) dX6_now_137
theorem cvX6_now : CVo mX6_now 1 6 := ⟨moX6_now, mvX6_now, by decide, _, _, rfl⟩
theorem w_X6_isMark {E : EB} {x0 : Int32} {M : Mem} {R : Bool} (h : f_X6_isMark x0 M = some R) : Mt E mX6_isMark [.int x0] M (PI (b2i R) M) := by
  refine mt_of (L0 := [some (.int x0)]) (by decide) rfl rfl (fun G hG hR => ?_)
  unfold f_X6_isMark at h
  refine v_iload_0 hG dX6_isMark_0 (q := 1) rfl ?_
  refine v_if_lt hG dX6_isMark_1 (tgt := 14) rfl (q := 4) rfl (fun hc => ?_) (fun hc => ?_)
  · replace h := ifp hc h
    refine v_iconst hG ci_0 dX6_isMark_14 (q := 15) rfl ?_
    exact v_iret hG hR rfl rfl (sp1b h) dX6_isMark_15
  · replace h := ifn hc h
    refine v_iload_0 hG dX6_isMark_4 (q := 5) rfl ?_
    refine v_bipush hG cb_12 dX6_isMark_5 (q := 7) rfl ?_
    refine v_icmp_ge hG dX6_isMark_7 (tgt := 14) rfl (q := 10) rfl (fun hc => ?_) (fun hc => ?_)
    · replace h := ifp hc h
      refine v_iconst hG ci_0 dX6_isMark_14 (q := 15) rfl ?_
      exact v_iret hG hR rfl rfl (sp1b h) dX6_isMark_15
    · replace h := ifn hc h
      refine v_iconst hG ci_1 dX6_isMark_10 (q := 11) rfl ?_
      refine v_goto hG dX6_isMark_11 (tgt := 15) rfl ?_
      exact v_iret hG hR rfl rfl (sp1b h) dX6_isMark_15
theorem csX6_isMark : CSo mX6_isMark 1 := ⟨moX6_isMark, msX6_isMark⟩
theorem w_X6_who {E : EB} {x1 : Int32} {M : Mem} {R : Int32 × Mem} (h : f_X6_who x1 M = some R) : Mt E mX6_who [.ref 0, .int x1] M (PI R.1 R.2) := by
  refine mt_of (L0 := [some (.ref 0), some (.int x1)]) (by decide) rfl rfl (fun G hG hR => ?_)
  unfold f_X6_who at h
  refine v_iload_1 hG dX6_who_0 (q := 1) rfl ?_
  obtain ⟨r_1, hr_1, h⟩ := bnd h
  refine v_cS1I hG csX6_isMark ml_RX6_165 rfl (w_X6_isMark hr_1) (Nat.le_of_ble_eq_true rfl) dX6_who_1 (q := 4) rfl ?_
  refine v_if_ne hG dX6_who_4 (tgt := 14) rfl (q := 7) rfl (fun hc => ?_) (fun hc => ?_)
  · replace h := ifn hc h
    refine v_aload_0 hG dX6_who_14 (q := 15) rfl ?_
    refine gt_RX6_12 hG rfl kk_0 dX6_who_15 (q := 18) rfl ?_
    refine gt_RX6_85 hG rfl kk_1 dX6_who_18 (q := 21) rfl ?_
    refine v_iload_1 hG dX6_who_21 (q := 22) rfl ?_
    obtain ⟨r_2, hr_2, h⟩ := bnd h
    refine v_cV1I hG cvX0_believers ml_RX6_168 rfl kk_9 (w_X0_believers kk_9 hr_2) (Nat.le_of_ble_eq_true rfl) dX6_who_22 (q := 25) rfl ?_
    exact v_iret hG hR rfl rfl (sp2t h) dX6_who_25
  · replace h := ifp hc h
    refine v_aload_0 hG dX6_who_7 (q := 8) rfl ?_
    refine v_ldc hG kc_RX6_59 dX6_who_8 (q := 10) rfl ?_
    obtain ⟨r_3, hr_3, h⟩ := bnd h
    refine v_cV1I hG cvX6_found ml_RX6_60 rfl kk_0 (w_X6_found hr_3) (Nat.le_of_ble_eq_true rfl) dX6_who_10 (q := 13) rfl ?_
    exact v_iret hG hR rfl rfl (sp2t h) dX6_who_13
theorem cvX6_who : CVo mX6_who 1 6 := ⟨moX6_who, mvX6_who, by decide, _, _, rfl⟩
theorem w_X6_isAhead {E : EB} {x0 : Int32} {M : Mem} {R : Bool} (h : f_X6_isAhead x0 M = some R) : Mt E mX6_isAhead [.int x0] M (PI (b2i R) M) := by
  refine mt_of (L0 := [some (.int x0)]) (by decide) rfl rfl (fun G hG hR => ?_)
  unfold f_X6_isAhead at h
  refine v_iload_0 hG dX6_isAhead_0 (q := 1) rfl ?_
  refine v_if_lt hG dX6_isAhead_1 (tgt := 14) rfl (q := 4) rfl (fun hc => ?_) (fun hc => ?_)
  · replace h := ifp hc h
    refine v_iconst hG ci_0 dX6_isAhead_14 (q := 15) rfl ?_
    exact v_iret hG hR rfl rfl (sp1b h) dX6_isAhead_15
  · replace h := ifn hc h
    refine v_iload_0 hG dX6_isAhead_4 (q := 5) rfl ?_
    refine v_bipush hG cb_60 dX6_isAhead_5 (q := 7) rfl ?_
    refine v_icmp_gt hG dX6_isAhead_7 (tgt := 14) rfl (q := 10) rfl (fun hc => ?_) (fun hc => ?_)
    · replace h := ifp hc h
      refine v_iconst hG ci_0 dX6_isAhead_14 (q := 15) rfl ?_
      exact v_iret hG hR rfl rfl (sp1b h) dX6_isAhead_15
    · replace h := ifn hc h
      refine v_iconst hG ci_1 dX6_isAhead_10 (q := 11) rfl ?_
      refine v_goto hG dX6_isAhead_11 (tgt := 15) rfl ?_
      exact v_iret hG hR rfl rfl (sp1b h) dX6_isAhead_15
theorem csX6_isAhead : CSo mX6_isAhead 1 := ⟨moX6_isAhead, msX6_isAhead⟩
theorem w_X6_ahead {E : EB} {x1 : Int32} {x2 : Int32} {M : Mem} {R : Int32 × Mem} (h : f_X6_ahead x1 x2 M = some R) : Mt E mX6_ahead [.ref 0, .int x1, .int x2] M (PI R.1 R.2) := by
  refine mt_of (L0 := [some (.ref 0), some (.int x1), some (.int x2)]) (by decide) rfl rfl (fun G hG hR => ?_)
  unfold f_X6_ahead at h
  refine v_iload_1 hG dX6_ahead_0 (q := 1) rfl ?_
  obtain ⟨r_1, hr_1, h⟩ := bnd h
  refine v_cS1I hG csX6_isAhead ml_RX6_171 rfl (w_X6_isAhead hr_1) (Nat.le_of_ble_eq_true rfl) dX6_ahead_1 (q := 4) rfl ?_
  refine v_if_eq hG dX6_ahead_4 (tgt := 27) rfl (q := 7) rfl (fun hc => ?_) (fun hc => ?_)
  · replace h := ifp hc h
    refine v_aload_0 hG dX6_ahead_27 (q := 28) rfl ?_
    refine v_ldc hG kc_RX6_59 dX6_ahead_28 (q := 30) rfl ?_
    obtain ⟨r_2, hr_2, h⟩ := bnd h
    refine v_cV1I hG cvX6_found ml_RX6_60 rfl kk_0 (w_X6_found hr_2) (Nat.le_of_ble_eq_true rfl) dX6_ahead_30 (q := 33) rfl ?_
    exact v_iret hG hR rfl rfl (sp2t h) dX6_ahead_33
  · replace h := ifn hc h
    refine v_iload_2 hG dX6_ahead_7 (q := 8) rfl ?_
    refine v_if_lt hG dX6_ahead_8 (tgt := 27) rfl (q := 11) rfl (fun hc => ?_) (fun hc => ?_)
    · replace h := ifp hc h
      refine v_aload_0 hG dX6_ahead_27 (q := 28) rfl ?_
      refine v_ldc hG kc_RX6_59 dX6_ahead_28 (q := 30) rfl ?_
      obtain ⟨r_3, hr_3, h⟩ := bnd h
      refine v_cV1I hG cvX6_found ml_RX6_60 rfl kk_0 (w_X6_found hr_3) (Nat.le_of_ble_eq_true rfl) dX6_ahead_30 (q := 33) rfl ?_
      exact v_iret hG hR rfl rfl (sp2t h) dX6_ahead_33
    · replace h := ifn hc h
      refine v_iload_2 hG dX6_ahead_11 (q := 12) rfl ?_
      refine v_iconst hG ci_3 dX6_ahead_12 (q := 13) rfl ?_
      refine v_aload_0 hG dX6_ahead_13 (q := 14) rfl ?_
      refine gt_RX6_12 hG rfl kk_0 dX6_ahead_14 (q := 17) rfl ?_
      refine gt_RX6_85 hG rfl kk_1 dX6_ahead_17 (q := 20) rfl ?_
      refine gt_RX6_174 hG rfl kk_9 dX6_ahead_20 (q := 23) rfl ?_
      refine v_iadd hG dX6_ahead_23 (q := 24) rfl ?_
      refine v_icmp_lt hG dX6_ahead_24 (tgt := 34) rfl (q := 27) rfl (fun hc => ?_) (fun hc => ?_)
      · replace h := ifp hc h
        refine v_aload_0 hG dX6_ahead_34 (q := 35) rfl ?_
        refine gt_RX6_12 hG rfl kk_0 dX6_ahead_35 (q := 38) rfl ?_
        refine v_iload_1 hG dX6_ahead_38 (q := 39) rfl ?_
        obtain ⟨r_4, hr_4, h⟩ := bnd h
        refine v_cV1I hG cvX4_hasYears ml_RX6_131 rfl kk_1 (w_X4_hasYears kk_1 hr_4) (Nat.le_of_ble_eq_true rfl) dX6_ahead_39 (q := 42) rfl ?_
        refine v_if_ne hG dX6_ahead_42 (tgt := 52) rfl (q := 45) rfl (fun hc => ?_) (fun hc => ?_)
        · replace h := ifn hc h
          refine v_aload_0 hG dX6_ahead_52 (q := 53) rfl ?_
          refine gt_RX6_16 hG rfl kk_0 dX6_ahead_53 (q := 56) rfl ?_
          refine v_aload_0 hG dX6_ahead_56 (q := 57) rfl ?_
          refine gt_RX6_12 hG rfl kk_0 dX6_ahead_57 (q := 60) rfl ?_
          obtain ⟨r_5, hr_5, h⟩ := bnd h
          refine v_cV1V hG cvX4_become ml_RX6_177 rfl kk_17 (w_X4_become kk_17 kk_1 hr_5) (Nat.le_of_ble_eq_true rfl) dX6_ahead_60 (q := 63) rfl ?_
          refine v_aload_0 hG dX6_ahead_63 (q := 64) rfl ?_
          refine gt_RX6_16 hG rfl kk_0 dX6_ahead_64 (q := 67) rfl ?_
          refine v_iload_1 hG dX6_ahead_67 (q := 68) rfl ?_
          obtain ⟨r_6, hr_6, h⟩ := bnd h
          refine v_cV1V hG cvX4_passYears ml_RX6_138 rfl kk_17 (w_X4_passYears kk_17 hr_6) (Nat.le_of_ble_eq_true rfl) dX6_ahead_68 (q := 71) rfl ?_
          refine v_iload_2 hG dX6_ahead_71 (q := 72) rfl ?_
          by_cases e0 : x2 = (0 : Int32)
          · refine v_tabIn hG dX6_ahead_72 (tgt := 100) (by rw [e0]; decide) (by rw [e0]; decide) (by rw [e0]; rfl) rfl ?_
            replace h := ifp e0 h
            refine v_aload_0 hG dX6_ahead_100 (q := 101) rfl ?_
            refine gt_RX6_16 hG rfl kk_0 dX6_ahead_101 (q := 104) rfl ?_
            refine gt_RX6_134 hG rfl kk_17 dX6_ahead_104 (q := 107) rfl ?_
            refine v_aload_0 hG dX6_ahead_107 (q := 108) rfl ?_
            refine gt_RX6_12 hG rfl kk_0 dX6_ahead_108 (q := 111) rfl ?_
            refine gt_RX6_134 hG rfl kk_1 dX6_ahead_111 (q := 114) rfl ?_
            refine v_isub hG dX6_ahead_114 (q := 115) rfl ?_
            exact v_iret hG hR rfl rfl (sp2t h) dX6_ahead_115
          replace h := ifn e0 h
          by_cases e1 : x2 = (1 : Int32)
          · refine v_tabIn hG dX6_ahead_72 (tgt := 116) (by rw [e1]; decide) (by rw [e1]; decide) (by rw [e1]; rfl) rfl ?_
            replace h := ifp e1 h
            refine v_aload_0 hG dX6_ahead_116 (q := 117) rfl ?_
            refine gt_RX6_16 hG rfl kk_0 dX6_ahead_117 (q := 120) rfl ?_
            obtain ⟨r_7, hr_7, h⟩ := bnd h
            refine v_cV0I hG cvX4_poor ml_RX6_181 rfl kk_17 (w_X4_poor kk_17 hr_7) (Nat.le_of_ble_eq_true rfl) dX6_ahead_120 (q := 123) rfl ?_
            exact v_iret hG hR rfl rfl (sp2t h) dX6_ahead_123
          replace h := ifn e1 h
          by_cases e2 : x2 = (2 : Int32)
          · refine v_tabIn hG dX6_ahead_72 (tgt := 124) (by rw [e2]; decide) (by rw [e2]; decide) (by rw [e2]; rfl) rfl ?_
            replace h := ifp e2 h
            refine v_aload_0 hG dX6_ahead_124 (q := 125) rfl ?_
            refine gt_RX6_16 hG rfl kk_0 dX6_ahead_125 (q := 128) rfl ?_
            refine gt_RX6_85 hG rfl kk_17 dX6_ahead_128 (q := 131) rfl ?_
            obtain ⟨r_8, hr_8, h⟩ := bnd h
            refine v_cV0I hG cvX0_believedByAll ml_RX6_184 rfl kk_25 (w_X0_believedByAll kk_25 hr_8) (Nat.le_of_ble_eq_true rfl) dX6_ahead_131 (q := 134) rfl ?_
            exact v_iret hG hR rfl rfl (sp2t h) dX6_ahead_134
          replace h := ifn e2 h
          have u0 := sw_ne (n := 0) e0
          have u1 := sw_ne (n := 1) e1
          have u2 := sw_ne (n := 2) e2
          refine v_tabOut hG dX6_ahead_72 (tgt := 135) (by omega) rfl ?_
          refine v_aload_0 hG dX6_ahead_135 (q := 136) rfl ?_
          refine gt_RX6_16 hG rfl kk_0 dX6_ahead_136 (q := 139) rfl ?_
          refine gt_RX6_85 hG rfl kk_17 dX6_ahead_139 (q := 142) rfl ?_
          refine gt_RX6_156 hG rfl kk_25 dX6_ahead_142 (q := 145) rfl ?_
          refine v_iload_2 hG dX6_ahead_145 (q := 146) rfl ?_
          refine v_iconst hG ci_3 dX6_ahead_146 (q := 147) rfl ?_
          refine v_isub hG dX6_ahead_147 (q := 148) rfl ?_
          obtain ⟨c_9, h⟩ := ck_some h
          refine v_iald hG kk_27 rfl c_9 dX6_ahead_148 (q := 149) rfl ?_
          exact v_iret hG hR rfl rfl (sp2t h) dX6_ahead_149
        · replace h := ifp hc h
          refine v_aload_0 hG dX6_ahead_45 (q := 46) rfl ?_
          refine v_ldc hG kc_RX6_130 dX6_ahead_46 (q := 48) rfl ?_
          obtain ⟨r_10, hr_10, h⟩ := bnd h
          refine v_cV1I hG cvX6_found ml_RX6_60 rfl kk_0 (w_X6_found hr_10) (Nat.le_of_ble_eq_true rfl) dX6_ahead_48 (q := 51) rfl ?_
          exact v_iret hG hR rfl rfl (sp2t h) dX6_ahead_51
      · replace h := ifn hc h
        refine v_aload_0 hG dX6_ahead_27 (q := 28) rfl ?_
        refine v_ldc hG kc_RX6_59 dX6_ahead_28 (q := 30) rfl ?_
        obtain ⟨r_11, hr_11, h⟩ := bnd h
        refine v_cV1I hG cvX6_found ml_RX6_60 rfl kk_0 (w_X6_found hr_11) (Nat.le_of_ble_eq_true rfl) dX6_ahead_30 (q := 33) rfl ?_
        exact v_iret hG hR rfl rfl (sp2t h) dX6_ahead_33
theorem cvX6_ahead : CVo mX6_ahead 2 6 := ⟨moX6_ahead, mvX6_ahead, by decide, _, _, rfl⟩
theorem w_X6_when_b60 {E : EB} {G : GB} (hG : Gd E mX6_when G) {M : Mem} {R : Int32 × Mem} (hR : Rt E mX6_when (PI R.1 R.2) G) {k60 : Int32 → Int32 → Int32 → Mem → Option (Int32 × Mem)} (hk60 : ∀ (x1 : Int32) (x2 : Int32) (x3 : Int32) (M : Mem), k60 x1 x2 x3 M = some R → V E G 60 [some (.ref 0), some (.int x1), some (.int x2), some (.int x3)] [] M) {x1 : Int32} {x2 : Int32} {x3 : Int32} (h : f_X6_when_b60 k60 x1 x2 x3 M = some R) : V E G 60 [some (.ref 0), some (.int x1), some (.int x2), some (.int x3)] [] M := by
  unfold f_X6_when_b60 at h
  refine v_iload_3 hG dX6_when_60 (q := 61) rfl ?_
  refine v_bipush hG cb_60 dX6_when_61 (q := 63) rfl ?_
  refine v_icmp_gt hG dX6_when_63 (tgt := 101) rfl (q := 66) rfl (fun hc => ?_) (fun hc => ?_)
  · replace h := ifp hc h
    refine v_aload_0 hG dX6_when_101 (q := 102) rfl ?_
    refine v_ldc hG kc_RX6_187 dX6_when_102 (q := 104) rfl ?_
    obtain ⟨r_8, hr_8, h⟩ := bnd h
    refine v_cV1I hG cvX6_found ml_RX6_60 rfl kk_0 (w_X6_found hr_8) (Nat.le_of_ble_eq_true rfl) dX6_when_104 (q := 107) rfl ?_
    exact v_iret hG hR rfl rfl (sp2t h) dX6_when_107
  · replace h := ifn hc h
    refine v_aload_0 hG dX6_when_66 (q := 67) rfl ?_
    refine gt_RX6_16 hG rfl kk_0 dX6_when_67 (q := 70) rfl ?_
    refine gt_RX6_85 hG rfl kk_17 dX6_when_70 (q := 73) rfl ?_
    refine gt_RX6_156 hG rfl kk_25 dX6_when_73 (q := 76) rfl ?_
    refine v_iload_1 hG dX6_when_76 (q := 77) rfl ?_
    obtain ⟨c_9, h⟩ := ck_some h
    refine v_iald hG kk_27 rfl c_9 dX6_when_77 (q := 78) rfl ?_
    refine v_iconst hG ci_1 dX6_when_78 (q := 79) rfl ?_
    refine v_iload_2 hG dX6_when_79 (q := 80) rfl ?_
    refine v_ishl hG dX6_when_80 (q := 81) rfl ?_
    refine v_iand hG dX6_when_81 (q := 82) rfl ?_
    refine v_if_eq hG dX6_when_82 (tgt := 87) rfl (q := 85) rfl (fun hc => ?_) (fun hc => ?_)
    · replace h := ifp hc h
      refine v_aload_0 hG dX6_when_87 (q := 88) rfl ?_
      refine gt_RX6_16 hG rfl kk_0 dX6_when_88 (q := 91) rfl ?_
      refine v_iconst hG ci_1 dX6_when_91 (q := 92) rfl ?_
      obtain ⟨r_10, hr_10, h⟩ := bnd h
      refine v_cV1V hG cvX4_passYears ml_RX6_138 rfl kk_17 (w_X4_passYears kk_17 hr_10) (Nat.le_of_ble_eq_true rfl) dX6_when_92 (q := 95) rfl ?_
      refine v_iinc_3 hG rfl dX6_when_95 (congrArg _ ci_1) (q := 98) rfl ?_
      refine v_goto hG dX6_when_98 (tgt := 60) rfl ?_
      exact hk60 _ _ _ _ h
    · replace h := ifn hc h
      refine v_iload_3 hG dX6_when_85 (q := 86) rfl ?_
      exact v_iret hG hR rfl rfl (sp2t h) dX6_when_86
theorem w_X6_when_l60 {E : EB} {G : GB} (hG : Gd E mX6_when G) {R : Int32 × Mem} (hR : Rt E mX6_when (PI R.1 R.2) G) : ∀ (n : Nat) (x1 : Int32) (x2 : Int32) (x3 : Int32) (M : Mem), f_X6_when_l60 n x1 x2 x3 M = some R → V E G 60 [some (.ref 0), some (.int x1), some (.int x2), some (.int x3)] [] M := by
  intro n
  induction n with
  | zero => intro x1 x2 x3 M h; cases h
  | succ n ih => intro x1 x2 x3 M h; exact w_X6_when_b60 hG hR ih h
theorem w_X6_when {E : EB} {x1 : Int32} {x2 : Int32} {M : Mem} {R : Int32 × Mem} (h : f_X6_when x1 x2 M = some R) : Mt E mX6_when [.ref 0, .int x1, .int x2] M (PI R.1 R.2) := by
  refine mt_of (L0 := [some (.ref 0), some (.int x1), some (.int x2), none]) (by decide) rfl rfl (fun G hG hR => ?_)
  unfold f_X6_when at h
  refine v_aload_0 hG dX6_when_0 (q := 1) rfl ?_
  refine gt_RX6_12 hG rfl kk_0 dX6_when_1 (q := 4) rfl ?_
  refine gt_RX6_85 hG rfl kk_1 dX6_when_4 (q := 7) rfl ?_
  refine v_iload_1 hG dX6_when_7 (q := 8) rfl ?_
  obtain ⟨r_1, hr_1, h⟩ := bnd h
  refine v_cV1I hG cvX0_has ml_RX6_92 rfl kk_9 (w_X0_has kk_9 hr_1) (Nat.le_of_ble_eq_true rfl) dX6_when_8 (q := 11) rfl ?_
  refine v_if_eq hG dX6_when_11 (tgt := 21) rfl (q := 14) rfl (fun hc => ?_) (fun hc => ?_)
  · replace h := ifp hc h
    refine v_aload_0 hG dX6_when_21 (q := 22) rfl ?_
    refine v_ldc hG kc_RX6_59 dX6_when_22 (q := 24) rfl ?_
    obtain ⟨r_2, hr_2, h⟩ := bnd h
    refine v_cV1I hG cvX6_found ml_RX6_60 rfl kk_0 (w_X6_found hr_2) (Nat.le_of_ble_eq_true rfl) dX6_when_24 (q := 27) rfl ?_
    exact v_iret hG hR rfl rfl (sp2t h) dX6_when_27
  · replace h := ifn hc h
    refine v_iload_2 hG dX6_when_14 (q := 15) rfl ?_
    obtain ⟨r_3, hr_3, h⟩ := bnd h
    refine v_cS1I hG csX6_isMark ml_RX6_165 rfl (w_X6_isMark hr_3) (Nat.le_of_ble_eq_true rfl) dX6_when_15 (q := 18) rfl ?_
    refine v_if_ne hG dX6_when_18 (tgt := 28) rfl (q := 21) rfl (fun hc => ?_) (fun hc => ?_)
    · replace h := ifn hc h
      refine v_aload_0 hG dX6_when_28 (q := 29) rfl ?_
      refine gt_RX6_12 hG rfl kk_0 dX6_when_29 (q := 32) rfl ?_
      refine v_bipush hG cb_60 dX6_when_32 (q := 34) rfl ?_
      obtain ⟨r_4, hr_4, h⟩ := bnd h
      refine v_cV1I hG cvX4_hasYears ml_RX6_131 rfl kk_1 (w_X4_hasYears kk_1 hr_4) (Nat.le_of_ble_eq_true rfl) dX6_when_34 (q := 37) rfl ?_
      refine v_if_ne hG dX6_when_37 (tgt := 47) rfl (q := 40) rfl (fun hc => ?_) (fun hc => ?_)
      · replace h := ifn hc h
        refine v_aload_0 hG dX6_when_47 (q := 48) rfl ?_
        refine gt_RX6_16 hG rfl kk_0 dX6_when_48 (q := 51) rfl ?_
        refine v_aload_0 hG dX6_when_51 (q := 52) rfl ?_
        refine gt_RX6_12 hG rfl kk_0 dX6_when_52 (q := 55) rfl ?_
        obtain ⟨r_5, hr_5, h⟩ := bnd h
        refine v_cV1V hG cvX4_become ml_RX6_177 rfl kk_17 (w_X4_become kk_17 kk_1 hr_5) (Nat.le_of_ble_eq_true rfl) dX6_when_55 (q := 58) rfl ?_
        refine v_iconst hG ci_0 dX6_when_58 (q := 59) rfl ?_
        refine v_istore_3 hG rfl dX6_when_59 (q := 60) rfl ?_
        exact w_X6_when_l60 hG hR FU _ _ _ _ h
      · replace h := ifp hc h
        refine v_aload_0 hG dX6_when_40 (q := 41) rfl ?_
        refine v_ldc hG kc_RX6_130 dX6_when_41 (q := 43) rfl ?_
        obtain ⟨r_6, hr_6, h⟩ := bnd h
        refine v_cV1I hG cvX6_found ml_RX6_60 rfl kk_0 (w_X6_found hr_6) (Nat.le_of_ble_eq_true rfl) dX6_when_43 (q := 46) rfl ?_
        exact v_iret hG hR rfl rfl (sp2t h) dX6_when_46
    · replace h := ifp hc h
      refine v_aload_0 hG dX6_when_21 (q := 22) rfl ?_
      refine v_ldc hG kc_RX6_59 dX6_when_22 (q := 24) rfl ?_
      obtain ⟨r_7, hr_7, h⟩ := bnd h
      refine v_cV1I hG cvX6_found ml_RX6_60 rfl kk_0 (w_X6_found hr_7) (Nat.le_of_ble_eq_true rfl) dX6_when_24 (q := 27) rfl ?_
      exact v_iret hG hR rfl rfl (sp2t h) dX6_when_27
theorem cvX6_when : CVo mX6_when 2 6 := ⟨moX6_when, mvX6_when, by decide, _, _, rfl⟩
theorem w_X6_believersWithout {E : EB} {x1 : Int32} {x2 : Int32} {x3 : Int32} {M : Mem} {R : Int32 × Mem} (h : f_X6_believersWithout x1 x2 x3 M = some R) : Mt E mX6_believersWithout [.ref 0, .int x1, .int x2, .int x3] M (PI R.1 R.2) := by
  refine mt_of (L0 := [some (.ref 0), some (.int x1), some (.int x2), some (.int x3)]) (by decide) rfl rfl (fun G hG hR => ?_)
  unfold f_X6_believersWithout at h
  refine v_aload_0 hG dX6_believersWithout_0 (q := 1) rfl ?_
  refine gt_RX6_16 hG rfl kk_0 dX6_believersWithout_1 (q := 4) rfl ?_
  refine v_aload_0 hG dX6_believersWithout_4 (q := 5) rfl ?_
  refine gt_RX6_12 hG rfl kk_0 dX6_believersWithout_5 (q := 8) rfl ?_
  obtain ⟨r_1, hr_1, h⟩ := bnd h
  refine v_cV1V hG cvX4_become ml_RX6_177 rfl kk_17 (w_X4_become kk_17 kk_1 hr_1) (Nat.le_of_ble_eq_true rfl) dX6_believersWithout_8 (q := 11) rfl ?_
  refine v_aload_0 hG dX6_believersWithout_11 (q := 12) rfl ?_
  refine gt_RX6_16 hG rfl kk_0 dX6_believersWithout_12 (q := 15) rfl ?_
  refine gt_RX6_64 hG rfl kk_17 dX6_believersWithout_15 (q := 18) rfl ?_
  refine gt_RX6_305 hG rfl kk_18 dX6_believersWithout_18 (q := 21) rfl ?_
  refine v_iload_1 hG dX6_believersWithout_21 (q := 22) rfl ?_
  refine v_iconst hG ci_0 dX6_believersWithout_22 (q := 23) rfl ?_
  obtain ⟨c_2, h⟩ := ck_some h
  refine v_iast hG kk_21 rfl c_2 dX6_believersWithout_23 (q := 24) rfl ?_
  refine v_topM (fun M_3 hy => ?_)
  replace h := letv_at hy h
  clear hy
  refine v_aload_0 hG dX6_believersWithout_24 (q := 25) rfl ?_
  refine gt_RX6_16 hG rfl kk_0 dX6_believersWithout_25 (q := 28) rfl ?_
  refine v_iload_3 hG dX6_believersWithout_28 (q := 29) rfl ?_
  obtain ⟨r_4, hr_4, h⟩ := bnd h
  refine v_cV1V hG cvX4_passYears ml_RX6_138 rfl kk_17 (w_X4_passYears kk_17 hr_4) (Nat.le_of_ble_eq_true rfl) dX6_believersWithout_29 (q := 32) rfl ?_
  refine v_aload_0 hG dX6_believersWithout_32 (q := 33) rfl ?_
  refine gt_RX6_16 hG rfl kk_0 dX6_believersWithout_33 (q := 36) rfl ?_
  refine gt_RX6_85 hG rfl kk_17 dX6_believersWithout_36 (q := 39) rfl ?_
  refine v_iload_2 hG dX6_believersWithout_39 (q := 40) rfl ?_
  obtain ⟨r_5, hr_5, h⟩ := bnd h
  refine v_cV1I hG cvX0_believers ml_RX6_168 rfl kk_25 (w_X0_believers kk_25 hr_5) (Nat.le_of_ble_eq_true rfl) dX6_believersWithout_40 (q := 43) rfl ?_
  exact v_iret hG hR rfl rfl (sp2t h) dX6_believersWithout_43
theorem cvX6_believersWithout : CVo mX6_believersWithout 3 6 := ⟨moX6_believersWithout, mvX6_believersWithout, by decide, _, _, rfl⟩
theorem w_X6_without {E : EB} {x1 : Int32} {x2 : Int32} {x3 : Int32} {M : Mem} {R : Int32 × Mem} (h : f_X6_without x1 x2 x3 M = some R) : Mt E mX6_without [.ref 0, .int x1, .int x2, .int x3] M (PI R.1 R.2) := by
  refine mt_of (L0 := [some (.ref 0), some (.int x1), some (.int x2), some (.int x3)]) (by decide) rfl rfl (fun G hG hR => ?_)
  unfold f_X6_without at h
  refine v_aload_0 hG dX6_without_0 (q := 1) rfl ?_
  refine gt_RX6_12 hG rfl kk_0 dX6_without_1 (q := 4) rfl ?_
  refine gt_RX6_64 hG rfl kk_1 dX6_without_4 (q := 7) rfl ?_
  refine v_iload_1 hG dX6_without_7 (q := 8) rfl ?_
  obtain ⟨r_1, hr_1, h⟩ := bnd h
  refine v_cV1I hG cvX5_has ml_RX6_78 rfl kk_2 (w_X5_has kk_2 hr_1) (Nat.le_of_ble_eq_true rfl) dX6_without_8 (q := 11) rfl ?_
  refine v_if_eq hG dX6_without_11 (tgt := 28) rfl (q := 14) rfl (fun hc => ?_) (fun hc => ?_)
  · replace h := ifp hc h
    refine v_aload_0 hG dX6_without_28 (q := 29) rfl ?_
    refine v_ldc hG kc_RX6_59 dX6_without_29 (q := 31) rfl ?_
    obtain ⟨r_2, hr_2, h⟩ := bnd h
    refine v_cV1I hG cvX6_found ml_RX6_60 rfl kk_0 (w_X6_found hr_2) (Nat.le_of_ble_eq_true rfl) dX6_without_31 (q := 34) rfl ?_
    exact v_iret hG hR rfl rfl (sp2t h) dX6_without_34
  · replace h := ifn hc h
    refine v_iload_2 hG dX6_without_14 (q := 15) rfl ?_
    obtain ⟨r_3, hr_3, h⟩ := bnd h
    refine v_cS1I hG csX6_isMark ml_RX6_165 rfl (w_X6_isMark hr_3) (Nat.le_of_ble_eq_true rfl) dX6_without_15 (q := 18) rfl ?_
    refine v_if_eq hG dX6_without_18 (tgt := 28) rfl (q := 21) rfl (fun hc => ?_) (fun hc => ?_)
    · replace h := ifp hc h
      refine v_aload_0 hG dX6_without_28 (q := 29) rfl ?_
      refine v_ldc hG kc_RX6_59 dX6_without_29 (q := 31) rfl ?_
      obtain ⟨r_4, hr_4, h⟩ := bnd h
      refine v_cV1I hG cvX6_found ml_RX6_60 rfl kk_0 (w_X6_found hr_4) (Nat.le_of_ble_eq_true rfl) dX6_without_31 (q := 34) rfl ?_
      exact v_iret hG hR rfl rfl (sp2t h) dX6_without_34
    · replace h := ifn hc h
      refine v_iload_3 hG dX6_without_21 (q := 22) rfl ?_
      obtain ⟨r_5, hr_5, h⟩ := bnd h
      refine v_cS1I hG csX6_isAhead ml_RX6_171 rfl (w_X6_isAhead hr_5) (Nat.le_of_ble_eq_true rfl) dX6_without_22 (q := 25) rfl ?_
      refine v_if_ne hG dX6_without_25 (tgt := 35) rfl (q := 28) rfl (fun hc => ?_) (fun hc => ?_)
      · replace h := ifn hc h
        refine v_aload_0 hG dX6_without_35 (q := 36) rfl ?_
        refine gt_RX6_12 hG rfl kk_0 dX6_without_36 (q := 39) rfl ?_
        refine v_iload_3 hG dX6_without_39 (q := 40) rfl ?_
        obtain ⟨r_6, hr_6, h⟩ := bnd h
        refine v_cV1I hG cvX4_hasYears ml_RX6_131 rfl kk_1 (w_X4_hasYears kk_1 hr_6) (Nat.le_of_ble_eq_true rfl) dX6_without_40 (q := 43) rfl ?_
        refine v_if_ne hG dX6_without_43 (tgt := 53) rfl (q := 46) rfl (fun hc => ?_) (fun hc => ?_)
        · replace h := ifn hc h
          refine v_aload_0 hG dX6_without_53 (q := 54) rfl ?_
          refine v_iload_1 hG dX6_without_54 (q := 55) rfl ?_
          refine v_iload_2 hG dX6_without_55 (q := 56) rfl ?_
          refine v_iload_3 hG dX6_without_56 (q := 57) rfl ?_
          obtain ⟨r_7, hr_7, h⟩ := bnd h
          refine v_cV3I hG cvX6_believersWithout ml_RX6_188 rfl kk_0 (w_X6_believersWithout hr_7) (Nat.le_of_ble_eq_true rfl) dX6_without_57 (q := 60) rfl ?_
          exact v_iret hG hR rfl rfl (sp2t h) dX6_without_60
        · replace h := ifp hc h
          refine v_aload_0 hG dX6_without_46 (q := 47) rfl ?_
          refine v_ldc hG kc_RX6_130 dX6_without_47 (q := 49) rfl ?_
          obtain ⟨r_8, hr_8, h⟩ := bnd h
          refine v_cV1I hG cvX6_found ml_RX6_60 rfl kk_0 (w_X6_found hr_8) (Nat.le_of_ble_eq_true rfl) dX6_without_49 (q := 52) rfl ?_
          exact v_iret hG hR rfl rfl (sp2t h) dX6_without_52
      · replace h := ifp hc h
        refine v_aload_0 hG dX6_without_28 (q := 29) rfl ?_
        refine v_ldc hG kc_RX6_59 dX6_without_29 (q := 31) rfl ?_
        obtain ⟨r_9, hr_9, h⟩ := bnd h
        refine v_cV1I hG cvX6_found ml_RX6_60 rfl kk_0 (w_X6_found hr_9) (Nat.le_of_ble_eq_true rfl) dX6_without_31 (q := 34) rfl ?_
        exact v_iret hG hR rfl rfl (sp2t h) dX6_without_34
theorem cvX6_without : CVo mX6_without 3 6 := ⟨moX6_without, mvX6_without, by decide, _, _, rfl⟩
theorem w_X6_added_b79 {E : EB} {G : GB} (hG : Gd E mX6_added G) {M : Mem} {R : Int32 × Mem} (hR : Rt E mX6_added (PI R.1 R.2) G) {k79 : Int32 → Int32 → Int32 → Int32 → Int32 → Mem → Option (Int32 × Mem)} (hk79 : ∀ (x1 : Int32) (x2 : Int32) (x3 : Int32) (x4 : Int32) (x5 : Int32) (M : Mem), k79 x1 x2 x3 x4 x5 M = some R → V E G 79 [some (.ref 0), some (.int x1), some (.int x2), some (.int x3), some (.int x4), some (.int x5)] [] M) {x1 : Int32} {x2 : Int32} {x3 : Int32} {x4 : Int32} {x5 : Int32} (h : f_X6_added_b79 k79 x1 x2 x3 x4 x5 M = some R) : V E G 79 [some (.ref 0), some (.int x1), some (.int x2), some (.int x3), some (.int x4), some (.int x5)] [] M := by
  unfold f_X6_added_b79 at h
  refine v_iload_5 hG dX6_added_79 (q := 81) rfl ?_
  refine v_aload_0 hG dX6_added_81 (q := 82) rfl ?_
  refine gt_RX6_12 hG rfl kk_0 dX6_added_82 (q := 85) rfl ?_
  refine gt_RX6_64 hG rfl kk_1 dX6_added_85 (q := 88) rfl ?_
  refine gt_RX6_196 hG rfl kk_2 dX6_added_88 (q := 91) rfl ?_
  refine v_icmp_ge hG dX6_added_91 (tgt := 124) rfl (q := 94) rfl (fun hc => ?_) (fun hc => ?_)
  · replace h := ifp hc h
    refine v_iload_4 hG dX6_added_124 (q := 126) rfl ?_
    exact v_iret hG hR rfl rfl (sp2t h) dX6_added_126
  · replace h := ifn hc h
    refine v_aload_0 hG dX6_added_94 (q := 95) rfl ?_
    refine v_iload_5 hG dX6_added_95 (q := 97) rfl ?_
    refine v_iload_1 hG dX6_added_97 (q := 98) rfl ?_
    refine v_iload_2 hG dX6_added_98 (q := 99) rfl ?_
    obtain ⟨r_11, hr_11, h⟩ := bnd h
    refine v_cV3I hG cvX6_believersWithout ml_RX6_188 rfl kk_0 (w_X6_believersWithout hr_11) (Nat.le_of_ble_eq_true rfl) dX6_added_99 (q := 102) rfl ?_
    obtain ⟨r_12, hr_12, h⟩ := bnd h
    refine v_cS1I hG csJ6_bitCount_0f7a4 ml_RX6_191 rfl (w_J6_bitCount_0f7a4 hr_12) (Nat.le_of_ble_eq_true rfl) dX6_added_102 (q := 105) rfl ?_
    refine v_iload_3 hG dX6_added_105 (q := 106) rfl ?_
    refine v_icmp_ge hG dX6_added_106 (tgt := 118) rfl (q := 109) rfl (fun hc => ?_) (fun hc => ?_)
    · replace h := ifp hc h
      refine v_iinc_5 hG rfl dX6_added_118 (congrArg _ ci_1) (q := 121) rfl ?_
      refine v_goto hG dX6_added_121 (tgt := 79) rfl ?_
      exact hk79 _ _ _ _ _ _ h
    · replace h := ifn hc h
      refine v_iload_4 hG dX6_added_109 (q := 111) rfl ?_
      refine v_iconst hG ci_1 dX6_added_111 (q := 112) rfl ?_
      refine v_iload_5 hG dX6_added_112 (q := 114) rfl ?_
      refine v_ishl hG dX6_added_114 (q := 115) rfl ?_
      refine v_ior hG dX6_added_115 (q := 116) rfl ?_
      refine v_topi (fun x4_13 hy => ?_)
      replace h := letv_at hy h
      clear hy
      refine v_istore_4 hG rfl dX6_added_116 (q := 118) rfl ?_
      refine v_iinc_5 hG rfl dX6_added_118 (congrArg _ ci_1) (q := 121) rfl ?_
      refine v_goto hG dX6_added_121 (tgt := 79) rfl ?_
      exact hk79 _ _ _ _ _ _ h
theorem w_X6_added_l79 {E : EB} {G : GB} (hG : Gd E mX6_added G) {R : Int32 × Mem} (hR : Rt E mX6_added (PI R.1 R.2) G) : ∀ (n : Nat) (x1 : Int32) (x2 : Int32) (x3 : Int32) (x4 : Int32) (x5 : Int32) (M : Mem), f_X6_added_l79 n x1 x2 x3 x4 x5 M = some R → V E G 79 [some (.ref 0), some (.int x1), some (.int x2), some (.int x3), some (.int x4), some (.int x5)] [] M := by
  intro n
  induction n with
  | zero => intro x1 x2 x3 x4 x5 M h; cases h
  | succ n ih => intro x1 x2 x3 x4 x5 M h; exact w_X6_added_b79 hG hR ih h
theorem w_X6_added {E : EB} {x1 : Int32} {x2 : Int32} {M : Mem} {R : Int32 × Mem} (h : f_X6_added x1 x2 M = some R) : Mt E mX6_added [.ref 0, .int x1, .int x2] M (PI R.1 R.2) := by
  refine mt_of (L0 := [some (.ref 0), some (.int x1), some (.int x2), none, none, none]) (by decide) rfl rfl (fun G hG hR => ?_)
  unfold f_X6_added at h
  refine v_iload_1 hG dX6_added_0 (q := 1) rfl ?_
  obtain ⟨r_1, hr_1, h⟩ := bnd h
  refine v_cS1I hG csX6_isMark ml_RX6_165 rfl (w_X6_isMark hr_1) (Nat.le_of_ble_eq_true rfl) dX6_added_1 (q := 4) rfl ?_
  refine v_if_eq hG dX6_added_4 (tgt := 14) rfl (q := 7) rfl (fun hc => ?_) (fun hc => ?_)
  · replace h := ifp hc h
    refine v_aload_0 hG dX6_added_14 (q := 15) rfl ?_
    refine v_ldc hG kc_RX6_59 dX6_added_15 (q := 17) rfl ?_
    obtain ⟨r_2, hr_2, h⟩ := bnd h
    refine v_cV1I hG cvX6_found ml_RX6_60 rfl kk_0 (w_X6_found hr_2) (Nat.le_of_ble_eq_true rfl) dX6_added_17 (q := 20) rfl ?_
    exact v_iret hG hR rfl rfl (sp2t h) dX6_added_20
  · replace h := ifn hc h
    refine v_iload_2 hG dX6_added_7 (q := 8) rfl ?_
    obtain ⟨r_3, hr_3, h⟩ := bnd h
    refine v_cS1I hG csX6_isAhead ml_RX6_171 rfl (w_X6_isAhead hr_3) (Nat.le_of_ble_eq_true rfl) dX6_added_8 (q := 11) rfl ?_
    refine v_if_ne hG dX6_added_11 (tgt := 21) rfl (q := 14) rfl (fun hc => ?_) (fun hc => ?_)
    · replace h := ifn hc h
      refine v_aload_0 hG dX6_added_21 (q := 22) rfl ?_
      refine gt_RX6_12 hG rfl kk_0 dX6_added_22 (q := 25) rfl ?_
      refine v_iload_2 hG dX6_added_25 (q := 26) rfl ?_
      obtain ⟨r_4, hr_4, h⟩ := bnd h
      refine v_cV1I hG cvX4_hasYears ml_RX6_131 rfl kk_1 (w_X4_hasYears kk_1 hr_4) (Nat.le_of_ble_eq_true rfl) dX6_added_26 (q := 29) rfl ?_
      refine v_if_ne hG dX6_added_29 (tgt := 39) rfl (q := 32) rfl (fun hc => ?_) (fun hc => ?_)
      · replace h := ifn hc h
        refine v_aload_0 hG dX6_added_39 (q := 40) rfl ?_
        refine gt_RX6_16 hG rfl kk_0 dX6_added_40 (q := 43) rfl ?_
        refine v_aload_0 hG dX6_added_43 (q := 44) rfl ?_
        refine gt_RX6_12 hG rfl kk_0 dX6_added_44 (q := 47) rfl ?_
        obtain ⟨r_5, hr_5, h⟩ := bnd h
        refine v_cV1V hG cvX4_become ml_RX6_177 rfl kk_17 (w_X4_become kk_17 kk_1 hr_5) (Nat.le_of_ble_eq_true rfl) dX6_added_47 (q := 50) rfl ?_
        refine v_aload_0 hG dX6_added_50 (q := 51) rfl ?_
        refine gt_RX6_16 hG rfl kk_0 dX6_added_51 (q := 54) rfl ?_
        refine v_iload_2 hG dX6_added_54 (q := 55) rfl ?_
        obtain ⟨r_6, hr_6, h⟩ := bnd h
        refine v_cV1V hG cvX4_passYears ml_RX6_138 rfl kk_17 (w_X4_passYears kk_17 hr_6) (Nat.le_of_ble_eq_true rfl) dX6_added_55 (q := 58) rfl ?_
        refine v_aload_0 hG dX6_added_58 (q := 59) rfl ?_
        refine gt_RX6_16 hG rfl kk_0 dX6_added_59 (q := 62) rfl ?_
        refine gt_RX6_85 hG rfl kk_17 dX6_added_62 (q := 65) rfl ?_
        refine v_iload_1 hG dX6_added_65 (q := 66) rfl ?_
        obtain ⟨r_7, hr_7, h⟩ := bnd h
        refine v_cV1I hG cvX0_believers ml_RX6_168 rfl kk_25 (w_X0_believers kk_25 hr_7) (Nat.le_of_ble_eq_true rfl) dX6_added_66 (q := 69) rfl ?_
        obtain ⟨r_8, hr_8, h⟩ := bnd h
        refine v_cS1I hG csJ6_bitCount_0f7a4 ml_RX6_191 rfl (w_J6_bitCount_0f7a4 hr_8) (Nat.le_of_ble_eq_true rfl) dX6_added_69 (q := 72) rfl ?_
        refine v_istore_3 hG rfl dX6_added_72 (q := 73) rfl ?_
        refine v_iconst hG ci_0 dX6_added_73 (q := 74) rfl ?_
        refine v_istore_4 hG rfl dX6_added_74 (q := 76) rfl ?_
        refine v_iconst hG ci_0 dX6_added_76 (q := 77) rfl ?_
        refine v_istore_5 hG rfl dX6_added_77 (q := 79) rfl ?_
        exact w_X6_added_l79 hG hR FU _ _ _ _ _ _ h
      · replace h := ifp hc h
        refine v_aload_0 hG dX6_added_32 (q := 33) rfl ?_
        refine v_ldc hG kc_RX6_130 dX6_added_33 (q := 35) rfl ?_
        obtain ⟨r_9, hr_9, h⟩ := bnd h
        refine v_cV1I hG cvX6_found ml_RX6_60 rfl kk_0 (w_X6_found hr_9) (Nat.le_of_ble_eq_true rfl) dX6_added_35 (q := 38) rfl ?_
        exact v_iret hG hR rfl rfl (sp2t h) dX6_added_38
    · replace h := ifp hc h
      refine v_aload_0 hG dX6_added_14 (q := 15) rfl ?_
      refine v_ldc hG kc_RX6_59 dX6_added_15 (q := 17) rfl ?_
      obtain ⟨r_10, hr_10, h⟩ := bnd h
      refine v_cV1I hG cvX6_found ml_RX6_60 rfl kk_0 (w_X6_found hr_10) (Nat.le_of_ble_eq_true rfl) dX6_added_17 (q := 20) rfl ?_
      exact v_iret hG hR rfl rfl (sp2t h) dX6_added_20
theorem cvX6_added : CVo mX6_added 2 6 := ⟨moX6_added, mvX6_added, by decide, _, _, rfl⟩
theorem w_X6_best_b56 {E : EB} {G : GB} (hG : Gd E mX6_best G) {M : Mem} {R : Int32 × Mem} (hR : Rt E mX6_best (PI R.1 R.2) G) {k56 : Int32 → Int32 → Int32 → Int32 → Int32 → Int32 → Mem → Option (Int32 × Mem)} (hk56 : ∀ (x1 : Int32) (x2 : Int32) (x3 : Int32) (x4 : Int32) (x5 : Int32) (x6 : Int32) (M : Mem), k56 x1 x2 x3 x4 x5 x6 M = some R → V E G 56 [some (.ref 0), some (.int x1), some (.int x2), some (.int x3), some (.int x4), some (.int x5), some (.int x6), none] [] M) {x1 : Int32} {x2 : Int32} {x3 : Int32} {x4 : Int32} {x5 : Int32} {x6 : Int32} (h : f_X6_best_b56 k56 x1 x2 x3 x4 x5 x6 M = some R) : V E G 56 [some (.ref 0), some (.int x1), some (.int x2), some (.int x3), some (.int x4), some (.int x5), some (.int x6), none] [] M := by
  unfold f_X6_best_b56 at h
  refine v_iload_6 hG dX6_best_56 (q := 58) rfl ?_
  refine v_aload_0 hG dX6_best_58 (q := 59) rfl ?_
  refine gt_RX6_12 hG rfl kk_0 dX6_best_59 (q := 62) rfl ?_
  refine gt_RX6_64 hG rfl kk_1 dX6_best_62 (q := 65) rfl ?_
  refine gt_RX6_196 hG rfl kk_2 dX6_best_65 (q := 68) rfl ?_
  refine v_icmp_ge hG dX6_best_68 (tgt := 155) rfl (q := 71) rfl (fun hc => ?_) (fun hc => ?_)
  · replace h := ifp hc h
    refine v_iload_4 hG dX6_best_155 (q := 157) rfl ?_
    exact v_iret hG hR rfl rfl (sp2t h) dX6_best_157
  · replace h := ifn hc h
    refine v_aload_0 hG dX6_best_71 (q := 72) rfl ?_
    refine gt_RX6_16 hG rfl kk_0 dX6_best_72 (q := 75) rfl ?_
    refine v_aload_0 hG dX6_best_75 (q := 76) rfl ?_
    refine gt_RX6_12 hG rfl kk_0 dX6_best_76 (q := 79) rfl ?_
    obtain ⟨r_7, hr_7, h⟩ := bnd h
    refine v_cV1V hG cvX4_become ml_RX6_177 rfl kk_17 (w_X4_become kk_17 kk_1 hr_7) (Nat.le_of_ble_eq_true rfl) dX6_best_79 (q := 82) rfl ?_
    refine v_aload_0 hG dX6_best_82 (q := 83) rfl ?_
    refine gt_RX6_16 hG rfl kk_0 dX6_best_83 (q := 86) rfl ?_
    refine gt_RX6_85 hG rfl kk_17 dX6_best_86 (q := 89) rfl ?_
    refine gt_RX6_197 hG rfl kk_25 dX6_best_89 (q := 92) rfl ?_
    refine v_iload_1 hG dX6_best_92 (q := 93) rfl ?_
    refine v_iload_6 hG dX6_best_93 (q := 95) rfl ?_
    obtain ⟨c_8, h⟩ := ck_some h
    refine v_iast hG kk_28 rfl c_8 dX6_best_95 (q := 96) rfl ?_
    refine v_topM (fun M_9 hy => ?_)
    replace h := letv_at hy h
    clear hy
    refine v_aload_0 hG dX6_best_96 (q := 97) rfl ?_
    refine gt_RX6_16 hG rfl kk_0 dX6_best_97 (q := 100) rfl ?_
    refine v_iload_3 hG dX6_best_100 (q := 101) rfl ?_
    obtain ⟨r_10, hr_10, h⟩ := bnd h
    refine v_cV1V hG cvX4_passYears ml_RX6_138 rfl kk_17 (w_X4_passYears kk_17 hr_10) (Nat.le_of_ble_eq_true rfl) dX6_best_101 (q := 104) rfl ?_
    refine v_aload_0 hG dX6_best_104 (q := 105) rfl ?_
    refine gt_RX6_16 hG rfl kk_0 dX6_best_105 (q := 108) rfl ?_
    refine gt_RX6_85 hG rfl kk_17 dX6_best_108 (q := 111) rfl ?_
    refine gt_RX6_149 hG rfl kk_25 dX6_best_111 (q := 114) rfl ?_
    refine v_iload_1 hG dX6_best_114 (q := 115) rfl ?_
    obtain ⟨c_11, h⟩ := ck_some h
    refine v_iald hG kk_26 rfl c_11 dX6_best_115 (q := 116) rfl ?_
    refine v_aload_0 hG dX6_best_116 (q := 117) rfl ?_
    refine gt_RX6_16 hG rfl kk_0 dX6_best_117 (q := 120) rfl ?_
    refine gt_RX6_85 hG rfl kk_17 dX6_best_120 (q := 123) rfl ?_
    refine gt_RX6_156 hG rfl kk_25 dX6_best_123 (q := 126) rfl ?_
    refine v_iload_2 hG dX6_best_126 (q := 127) rfl ?_
    obtain ⟨c_12, h⟩ := ck_some h
    refine v_iald hG kk_27 rfl c_12 dX6_best_127 (q := 128) rfl ?_
    refine v_iand hG dX6_best_128 (q := 129) rfl ?_
    obtain ⟨r_13, hr_13, h⟩ := bnd h
    refine v_cS1I hG csJ6_bitCount_0f7a4 ml_RX6_191 rfl (w_J6_bitCount_0f7a4 hr_13) (Nat.le_of_ble_eq_true rfl) dX6_best_129 (q := 132) rfl ?_
    refine v_istore_7 hG rfl dX6_best_132 (q := 134) rfl ?_
    refine v_iload_7 hG dX6_best_134 (q := 136) rfl ?_
    refine v_iload_5 hG dX6_best_136 (q := 138) rfl ?_
    refine v_icmp_le hG dX6_best_138 (tgt := 149) rfl (q := 141) rfl (fun hc => ?_) (fun hc => ?_)
    · replace h := ifp hc h
      refine v_iinc_6 hG rfl dX6_best_149 (congrArg _ ci_1) (q := 152) rfl ?_
      refine v_goto hG dX6_best_152 (tgt := 56) rfl ?_
      refine v_drop (n := 7) (L' := [some (.ref 0), some (.int x1), some (.int x2), some (.int x3), some (.int x4), some (.int x5), some (.int (x6 + (1 : Int32))), none]) rfl ?_
      exact hk56 _ _ _ _ _ _ _ h
    · replace h := ifn hc h
      refine v_iload_7 hG dX6_best_141 (q := 143) rfl ?_
      refine v_istore_5 hG rfl dX6_best_143 (q := 145) rfl ?_
      refine v_iload_6 hG dX6_best_145 (q := 147) rfl ?_
      refine v_istore_4 hG rfl dX6_best_147 (q := 149) rfl ?_
      refine v_iinc_6 hG rfl dX6_best_149 (congrArg _ ci_1) (q := 152) rfl ?_
      refine v_goto hG dX6_best_152 (tgt := 56) rfl ?_
      refine v_drop (n := 7) (L' := [some (.ref 0), some (.int x1), some (.int x2), some (.int x3), some (.int x6), some (.int r_13), some (.int (x6 + (1 : Int32))), none]) rfl ?_
      exact hk56 _ _ _ _ _ _ _ h
theorem w_X6_best_l56 {E : EB} {G : GB} (hG : Gd E mX6_best G) {R : Int32 × Mem} (hR : Rt E mX6_best (PI R.1 R.2) G) : ∀ (n : Nat) (x1 : Int32) (x2 : Int32) (x3 : Int32) (x4 : Int32) (x5 : Int32) (x6 : Int32) (M : Mem), f_X6_best_l56 n x1 x2 x3 x4 x5 x6 M = some R → V E G 56 [some (.ref 0), some (.int x1), some (.int x2), some (.int x3), some (.int x4), some (.int x5), some (.int x6), none] [] M := by
  intro n
  induction n with
  | zero => intro x1 x2 x3 x4 x5 x6 M h; cases h
  | succ n ih => intro x1 x2 x3 x4 x5 x6 M h; exact w_X6_best_b56 hG hR ih h
theorem w_X6_best {E : EB} {x1 : Int32} {x2 : Int32} {x3 : Int32} {M : Mem} {R : Int32 × Mem} (h : f_X6_best x1 x2 x3 M = some R) : Mt E mX6_best [.ref 0, .int x1, .int x2, .int x3] M (PI R.1 R.2) := by
  refine mt_of (L0 := [some (.ref 0), some (.int x1), some (.int x2), some (.int x3), none, none, none, none]) (by decide) rfl rfl (fun G hG hR => ?_)
  unfold f_X6_best at h
  refine v_aload_0 hG dX6_best_0 (q := 1) rfl ?_
  refine gt_RX6_12 hG rfl kk_0 dX6_best_1 (q := 4) rfl ?_
  refine gt_RX6_85 hG rfl kk_1 dX6_best_4 (q := 7) rfl ?_
  refine v_iload_1 hG dX6_best_7 (q := 8) rfl ?_
  refine v_iload_2 hG dX6_best_8 (q := 9) rfl ?_
  obtain ⟨r_1, hr_1, h⟩ := bnd h
  refine v_cV2I hG cvX0_areTwo ml_RX6_100 rfl kk_9 (w_X0_areTwo kk_9 hr_1) (Nat.le_of_ble_eq_true rfl) dX6_best_9 (q := 12) rfl ?_
  refine v_if_eq hG dX6_best_12 (tgt := 22) rfl (q := 15) rfl (fun hc => ?_) (fun hc => ?_)
  · replace h := ifp hc h
    refine v_aload_0 hG dX6_best_22 (q := 23) rfl ?_
    refine v_ldc hG kc_RX6_59 dX6_best_23 (q := 25) rfl ?_
    obtain ⟨r_2, hr_2, h⟩ := bnd h
    refine v_cV1I hG cvX6_found ml_RX6_60 rfl kk_0 (w_X6_found hr_2) (Nat.le_of_ble_eq_true rfl) dX6_best_25 (q := 28) rfl ?_
    exact v_iret hG hR rfl rfl (sp2t h) dX6_best_28
  · replace h := ifn hc h
    refine v_iload_3 hG dX6_best_15 (q := 16) rfl ?_
    obtain ⟨r_3, hr_3, h⟩ := bnd h
    refine v_cS1I hG csX6_isAhead ml_RX6_171 rfl (w_X6_isAhead hr_3) (Nat.le_of_ble_eq_true rfl) dX6_best_16 (q := 19) rfl ?_
    refine v_if_ne hG dX6_best_19 (tgt := 29) rfl (q := 22) rfl (fun hc => ?_) (fun hc => ?_)
    · replace h := ifn hc h
      refine v_aload_0 hG dX6_best_29 (q := 30) rfl ?_
      refine gt_RX6_12 hG rfl kk_0 dX6_best_30 (q := 33) rfl ?_
      refine v_iload_3 hG dX6_best_33 (q := 34) rfl ?_
      obtain ⟨r_4, hr_4, h⟩ := bnd h
      refine v_cV1I hG cvX4_hasYears ml_RX6_131 rfl kk_1 (w_X4_hasYears kk_1 hr_4) (Nat.le_of_ble_eq_true rfl) dX6_best_34 (q := 37) rfl ?_
      refine v_if_ne hG dX6_best_37 (tgt := 47) rfl (q := 40) rfl (fun hc => ?_) (fun hc => ?_)
      · replace h := ifn hc h
        refine v_iconst hG ci_0 dX6_best_47 (q := 48) rfl ?_
        refine v_istore_4 hG rfl dX6_best_48 (q := 50) rfl ?_
        refine v_iconst hG ci_m1 dX6_best_50 (q := 51) rfl ?_
        refine v_istore_5 hG rfl dX6_best_51 (q := 53) rfl ?_
        refine v_iconst hG ci_0 dX6_best_53 (q := 54) rfl ?_
        refine v_istore_6 hG rfl dX6_best_54 (q := 56) rfl ?_
        exact w_X6_best_l56 hG hR FU _ _ _ _ _ _ _ h
      · replace h := ifp hc h
        refine v_aload_0 hG dX6_best_40 (q := 41) rfl ?_
        refine v_ldc hG kc_RX6_130 dX6_best_41 (q := 43) rfl ?_
        obtain ⟨r_5, hr_5, h⟩ := bnd h
        refine v_cV1I hG cvX6_found ml_RX6_60 rfl kk_0 (w_X6_found hr_5) (Nat.le_of_ble_eq_true rfl) dX6_best_43 (q := 46) rfl ?_
        exact v_iret hG hR rfl rfl (sp2t h) dX6_best_46
    · replace h := ifp hc h
      refine v_aload_0 hG dX6_best_22 (q := 23) rfl ?_
      refine v_ldc hG kc_RX6_59 dX6_best_23 (q := 25) rfl ?_
      obtain ⟨r_6, hr_6, h⟩ := bnd h
      refine v_cV1I hG cvX6_found ml_RX6_60 rfl kk_0 (w_X6_found hr_6) (Nat.le_of_ble_eq_true rfl) dX6_best_25 (q := 28) rfl ?_
      exact v_iret hG hR rfl rfl (sp2t h) dX6_best_28
theorem cvX6_best : CVo mX6_best 3 6 := ⟨moX6_best, mvX6_best, by decide, _, _, rfl⟩
theorem w_X6_howManyWithTie {E : EB} {x1 : Int32} {x2 : Int32} {x3 : Int32} {x4 : Int32} {M : Mem} {R : Int32 × Mem} (h : f_X6_howManyWithTie x1 x2 x3 x4 M = some R) : Mt E mX6_howManyWithTie [.ref 0, .int x1, .int x2, .int x3, .int x4] M (PI R.1 R.2) := by
  refine mt_of (L0 := [some (.ref 0), some (.int x1), some (.int x2), some (.int x3), some (.int x4)]) (by decide) rfl rfl (fun G hG hR => ?_)
  unfold f_X6_howManyWithTie at h
  refine v_aload_0 hG dX6_howManyWithTie_0 (q := 1) rfl ?_
  refine gt_RX6_16 hG rfl kk_0 dX6_howManyWithTie_1 (q := 4) rfl ?_
  refine v_aload_0 hG dX6_howManyWithTie_4 (q := 5) rfl ?_
  refine gt_RX6_12 hG rfl kk_0 dX6_howManyWithTie_5 (q := 8) rfl ?_
  obtain ⟨r_1, hr_1, h⟩ := bnd h
  refine v_cV1V hG cvX4_become ml_RX6_177 rfl kk_17 (w_X4_become kk_17 kk_1 hr_1) (Nat.le_of_ble_eq_true rfl) dX6_howManyWithTie_8 (q := 11) rfl ?_
  refine v_aload_0 hG dX6_howManyWithTie_11 (q := 12) rfl ?_
  refine gt_RX6_16 hG rfl kk_0 dX6_howManyWithTie_12 (q := 15) rfl ?_
  refine gt_RX6_85 hG rfl kk_17 dX6_howManyWithTie_15 (q := 18) rfl ?_
  refine v_iload_1 hG dX6_howManyWithTie_18 (q := 19) rfl ?_
  refine v_iload_2 hG dX6_howManyWithTie_19 (q := 20) rfl ?_
  refine v_iconst hG ci_1 dX6_howManyWithTie_20 (q := 21) rfl ?_
  obtain ⟨r_2, hr_2, h⟩ := bnd h
  refine v_cV3V hG cvX0_bind ml_RX6_106 rfl kk_25 (w_X0_bind kk_25 hr_2) (Nat.le_of_ble_eq_true rfl) dX6_howManyWithTie_21 (q := 24) rfl ?_
  refine v_aload_0 hG dX6_howManyWithTie_24 (q := 25) rfl ?_
  refine gt_RX6_16 hG rfl kk_0 dX6_howManyWithTie_25 (q := 28) rfl ?_
  refine v_iload_4 hG dX6_howManyWithTie_28 (q := 30) rfl ?_
  obtain ⟨r_3, hr_3, h⟩ := bnd h
  refine v_cV1V hG cvX4_passYears ml_RX6_138 rfl kk_17 (w_X4_passYears kk_17 hr_3) (Nat.le_of_ble_eq_true rfl) dX6_howManyWithTie_30 (q := 33) rfl ?_
  refine v_aload_0 hG dX6_howManyWithTie_33 (q := 34) rfl ?_
  refine gt_RX6_16 hG rfl kk_0 dX6_howManyWithTie_34 (q := 37) rfl ?_
  refine gt_RX6_85 hG rfl kk_17 dX6_howManyWithTie_37 (q := 40) rfl ?_
  refine v_iload_3 hG dX6_howManyWithTie_40 (q := 41) rfl ?_
  obtain ⟨r_4, hr_4, h⟩ := bnd h
  refine v_cV1I hG cvX0_believers ml_RX6_168 rfl kk_25 (w_X0_believers kk_25 hr_4) (Nat.le_of_ble_eq_true rfl) dX6_howManyWithTie_41 (q := 44) rfl ?_
  obtain ⟨r_5, hr_5, h⟩ := bnd h
  refine v_cS1I hG csJ6_bitCount_0f7a4 ml_RX6_191 rfl (w_J6_bitCount_0f7a4 hr_5) (Nat.le_of_ble_eq_true rfl) dX6_howManyWithTie_44 (q := 47) rfl ?_
  exact v_iret hG hR rfl rfl (sp2t h) dX6_howManyWithTie_47
theorem cvX6_howManyWithTie : CVo mX6_howManyWithTie 4 6 := ⟨moX6_howManyWithTie, mvX6_howManyWithTie, by decide, _, _, rfl⟩
theorem w_X6_bridge_b68 {E : EB} {G : GB} (hG : Gd E mX6_bridge G) {M : Mem} {R : Int32 × Mem} (hR : Rt E mX6_bridge (PI R.1 R.2) G) {k47 : Int32 → Int32 → Int32 → Int32 → Int32 → Mem → Option (Int32 × Mem)} {k68 : Int32 → Int32 → Int32 → Int32 → Int32 → Int32 → Mem → Option (Int32 × Mem)} (hk47 : ∀ (x1 : Int32) (x2 : Int32) (x3 : Int32) (x4 : Int32) (x5 : Int32) (M : Mem), k47 x1 x2 x3 x4 x5 M = some R → V E G 47 [some (.ref 0), some (.int x1), some (.int x2), some (.int x3), some (.int x4), some (.int x5), none, none] [] M) (hk68 : ∀ (x1 : Int32) (x2 : Int32) (x3 : Int32) (x4 : Int32) (x5 : Int32) (x6 : Int32) (M : Mem), k68 x1 x2 x3 x4 x5 x6 M = some R → V E G 68 [some (.ref 0), some (.int x1), some (.int x2), some (.int x3), some (.int x4), some (.int x5), some (.int x6), none] [] M) {x1 : Int32} {x2 : Int32} {x3 : Int32} {x4 : Int32} {x5 : Int32} {x6 : Int32} (h : f_X6_bridge_b68 k47 k68 x1 x2 x3 x4 x5 x6 M = some R) : V E G 68 [some (.ref 0), some (.int x1), some (.int x2), some (.int x3), some (.int x4), some (.int x5), some (.int x6), none] [] M := by
  unfold f_X6_bridge_b68 at h
  refine v_iload_6 hG dX6_bridge_68 (q := 70) rfl ?_
  refine v_aload_0 hG dX6_bridge_70 (q := 71) rfl ?_
  refine gt_RX6_12 hG rfl kk_0 dX6_bridge_71 (q := 74) rfl ?_
  refine gt_RX6_85 hG rfl kk_1 dX6_bridge_74 (q := 77) rfl ?_
  refine gt_RX6_174 hG rfl kk_9 dX6_bridge_77 (q := 80) rfl ?_
  refine v_icmp_ge hG dX6_bridge_80 (tgt := 141) rfl (q := 83) rfl (fun hc => ?_) (fun hc => ?_)
  · replace h := ifp hc h
    refine v_iinc_5 hG rfl dX6_bridge_141 (congrArg _ ci_1) (q := 144) rfl ?_
    refine v_goto hG dX6_bridge_144 (tgt := 47) rfl ?_
    refine v_drop (n := 6) (L' := [some (.ref 0), some (.int x1), some (.int x2), some (.int x3), some (.int x4), some (.int (x5 + (1 : Int32))), none, none]) rfl ?_
    exact hk47 _ _ _ _ _ _ h
  · replace h := ifn hc h
    refine v_aload_0 hG dX6_bridge_83 (q := 84) rfl ?_
    refine gt_RX6_12 hG rfl kk_0 dX6_bridge_84 (q := 87) rfl ?_
    refine gt_RX6_85 hG rfl kk_1 dX6_bridge_87 (q := 90) rfl ?_
    refine v_iload_5 hG dX6_bridge_90 (q := 92) rfl ?_
    refine v_iload_6 hG dX6_bridge_92 (q := 94) rfl ?_
    obtain ⟨r_9, hr_9, h⟩ := bnd h
    refine v_cV2I hG cvX0_isTied ml_RX6_103 rfl kk_9 (w_X0_isTied kk_9 hr_9) (Nat.le_of_ble_eq_true rfl) dX6_bridge_94 (q := 97) rfl ?_
    refine v_if_eq hG dX6_bridge_97 (tgt := 103) rfl (q := 100) rfl (fun hc => ?_) (fun hc => ?_)
    · replace h := ifp hc h
      refine v_aload_0 hG dX6_bridge_103 (q := 104) rfl ?_
      refine v_iload_5 hG dX6_bridge_104 (q := 106) rfl ?_
      refine v_iload_6 hG dX6_bridge_106 (q := 108) rfl ?_
      refine v_iload_1 hG dX6_bridge_108 (q := 109) rfl ?_
      refine v_iload_2 hG dX6_bridge_109 (q := 110) rfl ?_
      obtain ⟨r_10, hr_10, h⟩ := bnd h
      refine v_cV4I hG cvX6_howManyWithTie ml_RX6_200 rfl kk_0 (w_X6_howManyWithTie hr_10) (Nat.le_of_ble_eq_true rfl) dX6_bridge_110 (q := 113) rfl ?_
      refine v_istore_7 hG rfl dX6_bridge_113 (q := 115) rfl ?_
      refine v_iload_7 hG dX6_bridge_115 (q := 117) rfl ?_
      refine v_iload_4 hG dX6_bridge_117 (q := 119) rfl ?_
      refine v_icmp_le hG dX6_bridge_119 (tgt := 135) rfl (q := 122) rfl (fun hc => ?_) (fun hc => ?_)
      · replace h := ifp hc h
        refine v_iinc_6 hG rfl dX6_bridge_135 (congrArg _ ci_1) (q := 138) rfl ?_
        refine v_goto hG dX6_bridge_138 (tgt := 68) rfl ?_
        refine v_drop (n := 7) (L' := [some (.ref 0), some (.int x1), some (.int x2), some (.int x3), some (.int x4), some (.int x5), some (.int (x6 + (1 : Int32))), none]) rfl ?_
        exact hk68 _ _ _ _ _ _ _ h
      · replace h := ifn hc h
        refine v_iload_7 hG dX6_bridge_122 (q := 124) rfl ?_
        refine v_istore_4 hG rfl dX6_bridge_124 (q := 126) rfl ?_
        refine v_bipush hG cb_10 dX6_bridge_126 (q := 128) rfl ?_
        refine v_iload_5 hG dX6_bridge_128 (q := 130) rfl ?_
        refine v_imul hG dX6_bridge_130 (q := 131) rfl ?_
        refine v_iload_6 hG dX6_bridge_131 (q := 133) rfl ?_
        refine v_iadd hG dX6_bridge_133 (q := 134) rfl ?_
        refine v_topi (fun x3_11 hy => ?_)
        replace h := letv_at hy h
        clear hy
        refine v_istore_3 hG rfl dX6_bridge_134 (q := 135) rfl ?_
        refine v_iinc_6 hG rfl dX6_bridge_135 (congrArg _ ci_1) (q := 138) rfl ?_
        refine v_goto hG dX6_bridge_138 (tgt := 68) rfl ?_
        refine v_drop (n := 7) (L' := [some (.ref 0), some (.int x1), some (.int x2), some (.int x3_11), some (.int r_10.1), some (.int x5), some (.int (x6 + (1 : Int32))), none]) rfl ?_
        exact hk68 _ _ _ _ _ _ _ h
    · replace h := ifn hc h
      refine v_goto hG dX6_bridge_100 (tgt := 135) rfl ?_
      refine v_iinc_6 hG rfl dX6_bridge_135 (congrArg _ ci_1) (q := 138) rfl ?_
      refine v_goto hG dX6_bridge_138 (tgt := 68) rfl ?_
      exact hk68 _ _ _ _ _ _ _ h
theorem w_X6_bridge_l68 {E : EB} {G : GB} (hG : Gd E mX6_bridge G) {R : Int32 × Mem} (hR : Rt E mX6_bridge (PI R.1 R.2) G) {k47 : Int32 → Int32 → Int32 → Int32 → Int32 → Mem → Option (Int32 × Mem)} (hk47 : ∀ (x1 : Int32) (x2 : Int32) (x3 : Int32) (x4 : Int32) (x5 : Int32) (M : Mem), k47 x1 x2 x3 x4 x5 M = some R → V E G 47 [some (.ref 0), some (.int x1), some (.int x2), some (.int x3), some (.int x4), some (.int x5), none, none] [] M) : ∀ (n : Nat) (x1 : Int32) (x2 : Int32) (x3 : Int32) (x4 : Int32) (x5 : Int32) (x6 : Int32) (M : Mem), f_X6_bridge_l68 k47 n x1 x2 x3 x4 x5 x6 M = some R → V E G 68 [some (.ref 0), some (.int x1), some (.int x2), some (.int x3), some (.int x4), some (.int x5), some (.int x6), none] [] M := by
  intro n
  induction n with
  | zero => intro x1 x2 x3 x4 x5 x6 M h; cases h
  | succ n ih => intro x1 x2 x3 x4 x5 x6 M h; exact w_X6_bridge_b68 hG hR hk47 ih h
theorem w_X6_bridge_b47 {E : EB} {G : GB} (hG : Gd E mX6_bridge G) {M : Mem} {R : Int32 × Mem} (hR : Rt E mX6_bridge (PI R.1 R.2) G) {k47 : Int32 → Int32 → Int32 → Int32 → Int32 → Mem → Option (Int32 × Mem)} (hk47 : ∀ (x1 : Int32) (x2 : Int32) (x3 : Int32) (x4 : Int32) (x5 : Int32) (M : Mem), k47 x1 x2 x3 x4 x5 M = some R → V E G 47 [some (.ref 0), some (.int x1), some (.int x2), some (.int x3), some (.int x4), some (.int x5), none, none] [] M) {x1 : Int32} {x2 : Int32} {x3 : Int32} {x4 : Int32} {x5 : Int32} (h : f_X6_bridge_b47 k47 x1 x2 x3 x4 x5 M = some R) : V E G 47 [some (.ref 0), some (.int x1), some (.int x2), some (.int x3), some (.int x4), some (.int x5), none, none] [] M := by
  unfold f_X6_bridge_b47 at h
  refine v_iload_5 hG dX6_bridge_47 (q := 49) rfl ?_
  refine v_aload_0 hG dX6_bridge_49 (q := 50) rfl ?_
  refine gt_RX6_12 hG rfl kk_0 dX6_bridge_50 (q := 53) rfl ?_
  refine gt_RX6_85 hG rfl kk_1 dX6_bridge_53 (q := 56) rfl ?_
  refine gt_RX6_174 hG rfl kk_9 dX6_bridge_56 (q := 59) rfl ?_
  refine v_icmp_ge hG dX6_bridge_59 (tgt := 147) rfl (q := 62) rfl (fun hc => ?_) (fun hc => ?_)
  · replace h := ifp hc h
    refine v_iload_3 hG dX6_bridge_147 (q := 148) rfl ?_
    refine v_if_ge hG dX6_bridge_148 (tgt := 160) rfl (q := 151) rfl (fun hc => ?_) (fun hc => ?_)
    · replace h := ifp hc h
      refine v_iload_3 hG dX6_bridge_160 (q := 161) rfl ?_
      exact v_iret hG hR rfl rfl (sp2t h) dX6_bridge_161
    · replace h := ifn hc h
      refine v_aload_0 hG dX6_bridge_151 (q := 152) rfl ?_
      refine v_ldc hG kc_RX6_187 dX6_bridge_152 (q := 154) rfl ?_
      obtain ⟨r_7, hr_7, h⟩ := bnd h
      refine v_cV1I hG cvX6_found ml_RX6_60 rfl kk_0 (w_X6_found hr_7) (Nat.le_of_ble_eq_true rfl) dX6_bridge_154 (q := 157) rfl ?_
      refine v_goto hG dX6_bridge_157 (tgt := 161) rfl ?_
      exact v_iret hG hR rfl rfl (sp2t h) dX6_bridge_161
  · replace h := ifn hc h
    refine v_iload_5 hG dX6_bridge_62 (q := 64) rfl ?_
    refine v_iconst hG ci_1 dX6_bridge_64 (q := 65) rfl ?_
    refine v_iadd hG dX6_bridge_65 (q := 66) rfl ?_
    refine v_topi (fun x6_8 hy => ?_)
    replace h := letv_at hy h
    clear hy
    refine v_istore_6 hG rfl dX6_bridge_66 (q := 68) rfl ?_
    exact w_X6_bridge_l68 hG hR hk47 FU _ _ _ _ _ _ _ h
theorem w_X6_bridge_l47 {E : EB} {G : GB} (hG : Gd E mX6_bridge G) {R : Int32 × Mem} (hR : Rt E mX6_bridge (PI R.1 R.2) G) : ∀ (n : Nat) (x1 : Int32) (x2 : Int32) (x3 : Int32) (x4 : Int32) (x5 : Int32) (M : Mem), f_X6_bridge_l47 n x1 x2 x3 x4 x5 M = some R → V E G 47 [some (.ref 0), some (.int x1), some (.int x2), some (.int x3), some (.int x4), some (.int x5), none, none] [] M := by
  intro n
  induction n with
  | zero => intro x1 x2 x3 x4 x5 M h; cases h
  | succ n ih => intro x1 x2 x3 x4 x5 M h; exact w_X6_bridge_b47 hG hR ih h
theorem w_X6_bridge {E : EB} {x1 : Int32} {x2 : Int32} {M : Mem} {R : Int32 × Mem} (h : f_X6_bridge x1 x2 M = some R) : Mt E mX6_bridge [.ref 0, .int x1, .int x2] M (PI R.1 R.2) := by
  refine mt_of (L0 := [some (.ref 0), some (.int x1), some (.int x2), none, none, none, none, none]) (by decide) rfl rfl (fun G hG hR => ?_)
  unfold f_X6_bridge at h
  refine v_iload_1 hG dX6_bridge_0 (q := 1) rfl ?_
  obtain ⟨r_1, hr_1, h⟩ := bnd h
  refine v_cS1I hG csX6_isMark ml_RX6_165 rfl (w_X6_isMark hr_1) (Nat.le_of_ble_eq_true rfl) dX6_bridge_1 (q := 4) rfl ?_
  refine v_if_eq hG dX6_bridge_4 (tgt := 14) rfl (q := 7) rfl (fun hc => ?_) (fun hc => ?_)
  · replace h := ifp hc h
    refine v_aload_0 hG dX6_bridge_14 (q := 15) rfl ?_
    refine v_ldc hG kc_RX6_59 dX6_bridge_15 (q := 17) rfl ?_
    obtain ⟨r_2, hr_2, h⟩ := bnd h
    refine v_cV1I hG cvX6_found ml_RX6_60 rfl kk_0 (w_X6_found hr_2) (Nat.le_of_ble_eq_true rfl) dX6_bridge_17 (q := 20) rfl ?_
    exact v_iret hG hR rfl rfl (sp2t h) dX6_bridge_20
  · replace h := ifn hc h
    refine v_iload_2 hG dX6_bridge_7 (q := 8) rfl ?_
    obtain ⟨r_3, hr_3, h⟩ := bnd h
    refine v_cS1I hG csX6_isAhead ml_RX6_171 rfl (w_X6_isAhead hr_3) (Nat.le_of_ble_eq_true rfl) dX6_bridge_8 (q := 11) rfl ?_
    refine v_if_ne hG dX6_bridge_11 (tgt := 21) rfl (q := 14) rfl (fun hc => ?_) (fun hc => ?_)
    · replace h := ifn hc h
      refine v_aload_0 hG dX6_bridge_21 (q := 22) rfl ?_
      refine gt_RX6_12 hG rfl kk_0 dX6_bridge_22 (q := 25) rfl ?_
      refine v_iload_2 hG dX6_bridge_25 (q := 26) rfl ?_
      obtain ⟨r_4, hr_4, h⟩ := bnd h
      refine v_cV1I hG cvX4_hasYears ml_RX6_131 rfl kk_1 (w_X4_hasYears kk_1 hr_4) (Nat.le_of_ble_eq_true rfl) dX6_bridge_26 (q := 29) rfl ?_
      refine v_if_ne hG dX6_bridge_29 (tgt := 39) rfl (q := 32) rfl (fun hc => ?_) (fun hc => ?_)
      · replace h := ifn hc h
        refine v_iconst hG ci_m1 dX6_bridge_39 (q := 40) rfl ?_
        refine v_istore_3 hG rfl dX6_bridge_40 (q := 41) rfl ?_
        refine v_iconst hG ci_m1 dX6_bridge_41 (q := 42) rfl ?_
        refine v_istore_4 hG rfl dX6_bridge_42 (q := 44) rfl ?_
        refine v_iconst hG ci_0 dX6_bridge_44 (q := 45) rfl ?_
        refine v_istore_5 hG rfl dX6_bridge_45 (q := 47) rfl ?_
        exact w_X6_bridge_l47 hG hR FU _ _ _ _ _ _ h
      · replace h := ifp hc h
        refine v_aload_0 hG dX6_bridge_32 (q := 33) rfl ?_
        refine v_ldc hG kc_RX6_130 dX6_bridge_33 (q := 35) rfl ?_
        obtain ⟨r_5, hr_5, h⟩ := bnd h
        refine v_cV1I hG cvX6_found ml_RX6_60 rfl kk_0 (w_X6_found hr_5) (Nat.le_of_ble_eq_true rfl) dX6_bridge_35 (q := 38) rfl ?_
        exact v_iret hG hR rfl rfl (sp2t h) dX6_bridge_38
    · replace h := ifp hc h
      refine v_aload_0 hG dX6_bridge_14 (q := 15) rfl ?_
      refine v_ldc hG kc_RX6_59 dX6_bridge_15 (q := 17) rfl ?_
      obtain ⟨r_6, hr_6, h⟩ := bnd h
      refine v_cV1I hG cvX6_found ml_RX6_60 rfl kk_0 (w_X6_found hr_6) (Nat.le_of_ble_eq_true rfl) dX6_bridge_17 (q := 20) rfl ?_
      exact v_iret hG hR rfl rfl (sp2t h) dX6_bridge_20
theorem cvX6_bridge : CVo mX6_bridge 2 6 := ⟨moX6_bridge, mvX6_bridge, by decide, _, _, rfl⟩
theorem w_X6_many {E : EB} {x1 : Int32} {x2 : Int32} {M : Mem} {R : Int32 × Mem} (h : f_X6_many x1 x2 M = some R) : Mt E mX6_many [.ref 0, .int x1, .int x2] M (PI R.1 R.2) := by
  refine mt_of (L0 := [some (.ref 0), some (.int x1), some (.int x2)]) (by decide) rfl rfl (fun G hG hR => ?_)
  unfold f_X6_many at h
  refine v_aload_0 hG dX6_many_0 (q := 1) rfl ?_
  refine gt_RX6_12 hG rfl kk_0 dX6_many_1 (q := 4) rfl ?_
  refine gt_RX6_64 hG rfl kk_1 dX6_many_4 (q := 7) rfl ?_
  refine v_iload_1 hG dX6_many_7 (q := 8) rfl ?_
  obtain ⟨r_1, hr_1, h⟩ := bnd h
  refine v_cV1I hG cvX5_has ml_RX6_78 rfl kk_2 (w_X5_has kk_2 hr_1) (Nat.le_of_ble_eq_true rfl) dX6_many_8 (q := 11) rfl ?_
  refine v_if_eq hG dX6_many_11 (tgt := 21) rfl (q := 14) rfl (fun hc => ?_) (fun hc => ?_)
  · replace h := ifp hc h
    refine v_aload_0 hG dX6_many_21 (q := 22) rfl ?_
    refine v_ldc hG kc_RX6_59 dX6_many_22 (q := 24) rfl ?_
    obtain ⟨r_2, hr_2, h⟩ := bnd h
    refine v_cV1I hG cvX6_found ml_RX6_60 rfl kk_0 (w_X6_found hr_2) (Nat.le_of_ble_eq_true rfl) dX6_many_24 (q := 27) rfl ?_
    exact v_iret hG hR rfl rfl (sp2t h) dX6_many_27
  · replace h := ifn hc h
    refine v_iload_2 hG dX6_many_14 (q := 15) rfl ?_
    obtain ⟨r_3, hr_3, h⟩ := bnd h
    refine v_cS1I hG csX6_isSaying ml_RX6_113 rfl (w_X6_isSaying hr_3) (Nat.le_of_ble_eq_true rfl) dX6_many_15 (q := 18) rfl ?_
    refine v_if_ne hG dX6_many_18 (tgt := 28) rfl (q := 21) rfl (fun hc => ?_) (fun hc => ?_)
    · replace h := ifn hc h
      refine v_aload_0 hG dX6_many_28 (q := 29) rfl ?_
      refine gt_RX6_12 hG rfl kk_0 dX6_many_29 (q := 32) rfl ?_
      refine gt_RX6_64 hG rfl kk_1 dX6_many_32 (q := 35) rfl ?_
      refine v_iload_1 hG dX6_many_35 (q := 36) rfl ?_
      refine v_iload_2 hG dX6_many_36 (q := 37) rfl ?_
      obtain ⟨r_4, hr_4, h⟩ := bnd h
      refine v_cV2I hG cvX5_waysTo ml_RX6_204 rfl kk_2 (w_X5_waysTo kk_2 hr_4) (Nat.le_of_ble_eq_true rfl) dX6_many_37 (q := 40) rfl ?_
      exact v_iret hG hR rfl rfl (sp2t h) dX6_many_40
    · replace h := ifp hc h
      refine v_aload_0 hG dX6_many_21 (q := 22) rfl ?_
      refine v_ldc hG kc_RX6_59 dX6_many_22 (q := 24) rfl ?_
      obtain ⟨r_5, hr_5, h⟩ := bnd h
      refine v_cV1I hG cvX6_found ml_RX6_60 rfl kk_0 (w_X6_found hr_5) (Nat.le_of_ble_eq_true rfl) dX6_many_24 (q := 27) rfl ?_
      exact v_iret hG hR rfl rfl (sp2t h) dX6_many_27
theorem cvX6_many : CVo mX6_many 2 6 := ⟨moX6_many, mvX6_many, by decide, _, _, rfl⟩
theorem w_X6_said_b51 {E : EB} {G : GB} (hG : Gd E mX6_said G) {M : Mem} {R : Int32 × Mem} (hR : Rt E mX6_said (PI R.1 R.2) G) {k51 : Int32 → Int32 → Int32 → Int32 → Int32 → Int32 → Int32 → Mem → Option (Int32 × Mem)} (hk51 : ∀ (x1 : Int32) (x2 : Int32) (x3 : Int32) (x4 : Int32) (x5 : Int32) (x6 : Int32) (x7 : Int32) (M : Mem), k51 x1 x2 x3 x4 x5 x6 x7 M = some R → V E G 51 [some (.ref 0), some (.int x1), some (.int x2), some (.int x3), some (.int x4), some (.int x5), some (.int x6), some (.int x7)] [] M) {x1 : Int32} {x2 : Int32} {x3 : Int32} {x4 : Int32} {x5 : Int32} {x6 : Int32} {x7 : Int32} (h : f_X6_said_b51 k51 x1 x2 x3 x4 x5 x6 x7 M = some R) : V E G 51 [some (.ref 0), some (.int x1), some (.int x2), some (.int x3), some (.int x4), some (.int x5), some (.int x6), some (.int x7)] [] M := by
  unfold f_X6_said_b51 at h
  refine v_iload_7 hG dX6_said_51 (q := 53) rfl ?_
  refine v_sipush hG cs_4096 dX6_said_53 (q := 56) rfl ?_
  refine v_icmp_ge hG dX6_said_56 (tgt := 108) rfl (q := 59) rfl (fun hc => ?_) (fun hc => ?_)
  · replace h := ifp hc h
    refine v_iload_4 hG dX6_said_108 (q := 110) rfl ?_
    refine v_if_ge hG dX6_said_110 (tgt := 120) rfl (q := 113) rfl (fun hc => ?_) (fun hc => ?_)
    · replace h := ifp hc h
      refine v_iload_3 hG dX6_said_120 (q := 121) rfl ?_
      refine v_if_ne hG dX6_said_121 (tgt := 127) rfl (q := 124) rfl (fun hc => ?_) (fun hc => ?_)
      · replace h := ifn hc h
        refine v_iload_3 hG dX6_said_127 (q := 128) rfl ?_
        refine v_iconst hG ci_1 dX6_said_128 (q := 129) rfl ?_
        refine v_icmp_ne hG dX6_said_129 (tgt := 137) rfl (q := 132) rfl (fun hc => ?_) (fun hc => ?_)
        · replace h := ifn hc h
          refine v_iload_6 hG dX6_said_137 (q := 139) rfl ?_
          exact v_iret hG hR rfl rfl (sp2t h) dX6_said_139
        · replace h := ifp hc h
          refine v_iload_5 hG dX6_said_132 (q := 134) rfl ?_
          refine v_goto hG dX6_said_134 (tgt := 139) rfl ?_
          exact v_iret hG hR rfl rfl (sp2t h) dX6_said_139
      · replace h := ifp hc h
        refine v_iload_4 hG dX6_said_124 (q := 126) rfl ?_
        exact v_iret hG hR rfl rfl (sp2t h) dX6_said_126
    · replace h := ifn hc h
      refine v_aload_0 hG dX6_said_113 (q := 114) rfl ?_
      refine v_ldc hG kc_RX6_187 dX6_said_114 (q := 116) rfl ?_
      obtain ⟨r_7, hr_7, h⟩ := bnd h
      refine v_cV1I hG cvX6_found ml_RX6_60 rfl kk_0 (w_X6_found hr_7) (Nat.le_of_ble_eq_true rfl) dX6_said_116 (q := 119) rfl ?_
      exact v_iret hG hR rfl rfl (sp2t h) dX6_said_119
  · replace h := ifn hc h
    refine v_aload_0 hG dX6_said_59 (q := 60) rfl ?_
    refine gt_RX6_12 hG rfl kk_0 dX6_said_60 (q := 63) rfl ?_
    refine gt_RX6_64 hG rfl kk_1 dX6_said_63 (q := 66) rfl ?_
    refine v_iload_1 hG dX6_said_66 (q := 67) rfl ?_
    refine v_iload_7 hG dX6_said_67 (q := 69) rfl ?_
    obtain ⟨r_8, hr_8, h⟩ := bnd h
    refine v_cV2I hG cvX5_make ml_RX6_116 rfl kk_2 (w_X5_make kk_2 hr_8) (Nat.le_of_ble_eq_true rfl) dX6_said_69 (q := 72) rfl ?_
    refine v_iload_2 hG dX6_said_72 (q := 73) rfl ?_
    refine v_icmp_eq hG dX6_said_73 (tgt := 79) rfl (q := 76) rfl (fun hc => ?_) (fun hc => ?_)
    · replace h := ifp hc h
      refine v_iload_4 hG dX6_said_79 (q := 81) rfl ?_
      refine v_if_ge hG dX6_said_81 (tgt := 88) rfl (q := 84) rfl (fun hc => ?_) (fun hc => ?_)
      · replace h := ifp hc h
        refine v_iload_5 hG dX6_said_88 (q := 90) rfl ?_
        refine v_iload_7 hG dX6_said_90 (q := 92) rfl ?_
        refine v_iand hG dX6_said_92 (q := 93) rfl ?_
        refine v_topi (fun x5_9 hy => ?_)
        replace h := letv_at hy h
        clear hy
        refine v_istore_5 hG rfl dX6_said_93 (q := 95) rfl ?_
        refine v_iload_6 hG dX6_said_95 (q := 97) rfl ?_
        refine v_iload_7 hG dX6_said_97 (q := 99) rfl ?_
        refine v_ior hG dX6_said_99 (q := 100) rfl ?_
        refine v_topi (fun x6_10 hy => ?_)
        replace h := letv_at hy h
        clear hy
        refine v_istore_6 hG rfl dX6_said_100 (q := 102) rfl ?_
        refine v_iinc_7 hG rfl dX6_said_102 (congrArg _ ci_1) (q := 105) rfl ?_
        refine v_goto hG dX6_said_105 (tgt := 51) rfl ?_
        exact hk51 _ _ _ _ _ _ _ _ h
      · replace h := ifn hc h
        refine v_iload_7 hG dX6_said_84 (q := 86) rfl ?_
        refine v_istore_4 hG rfl dX6_said_86 (q := 88) rfl ?_
        refine v_iload_5 hG dX6_said_88 (q := 90) rfl ?_
        refine v_iload_7 hG dX6_said_90 (q := 92) rfl ?_
        refine v_iand hG dX6_said_92 (q := 93) rfl ?_
        refine v_topi (fun x5_11 hy => ?_)
        replace h := letv_at hy h
        clear hy
        refine v_istore_5 hG rfl dX6_said_93 (q := 95) rfl ?_
        refine v_iload_6 hG dX6_said_95 (q := 97) rfl ?_
        refine v_iload_7 hG dX6_said_97 (q := 99) rfl ?_
        refine v_ior hG dX6_said_99 (q := 100) rfl ?_
        refine v_topi (fun x6_12 hy => ?_)
        replace h := letv_at hy h
        clear hy
        refine v_istore_6 hG rfl dX6_said_100 (q := 102) rfl ?_
        refine v_iinc_7 hG rfl dX6_said_102 (congrArg _ ci_1) (q := 105) rfl ?_
        refine v_goto hG dX6_said_105 (tgt := 51) rfl ?_
        exact hk51 _ _ _ _ _ _ _ _ h
    · replace h := ifn hc h
      refine v_goto hG dX6_said_76 (tgt := 102) rfl ?_
      refine v_iinc_7 hG rfl dX6_said_102 (congrArg _ ci_1) (q := 105) rfl ?_
      refine v_goto hG dX6_said_105 (tgt := 51) rfl ?_
      exact hk51 _ _ _ _ _ _ _ _ h
theorem w_X6_said_l51 {E : EB} {G : GB} (hG : Gd E mX6_said G) {R : Int32 × Mem} (hR : Rt E mX6_said (PI R.1 R.2) G) : ∀ (n : Nat) (x1 : Int32) (x2 : Int32) (x3 : Int32) (x4 : Int32) (x5 : Int32) (x6 : Int32) (x7 : Int32) (M : Mem), f_X6_said_l51 n x1 x2 x3 x4 x5 x6 x7 M = some R → V E G 51 [some (.ref 0), some (.int x1), some (.int x2), some (.int x3), some (.int x4), some (.int x5), some (.int x6), some (.int x7)] [] M := by
  intro n
  induction n with
  | zero => intro x1 x2 x3 x4 x5 x6 x7 M h; cases h
  | succ n ih => intro x1 x2 x3 x4 x5 x6 x7 M h; exact w_X6_said_b51 hG hR ih h
theorem w_X6_said {E : EB} {x1 : Int32} {x2 : Int32} {x3 : Int32} {M : Mem} {R : Int32 × Mem} (h : f_X6_said x1 x2 x3 M = some R) : Mt E mX6_said [.ref 0, .int x1, .int x2, .int x3] M (PI R.1 R.2) := by
  refine mt_of (L0 := [some (.ref 0), some (.int x1), some (.int x2), some (.int x3), none, none, none, none]) (by decide) rfl rfl (fun G hG hR => ?_)
  unfold f_X6_said at h
  refine v_aload_0 hG dX6_said_0 (q := 1) rfl ?_
  refine gt_RX6_12 hG rfl kk_0 dX6_said_1 (q := 4) rfl ?_
  refine gt_RX6_64 hG rfl kk_1 dX6_said_4 (q := 7) rfl ?_
  refine v_iload_1 hG dX6_said_7 (q := 8) rfl ?_
  obtain ⟨r_1, hr_1, h⟩ := bnd h
  refine v_cV1I hG cvX5_has ml_RX6_78 rfl kk_2 (w_X5_has kk_2 hr_1) (Nat.le_of_ble_eq_true rfl) dX6_said_8 (q := 11) rfl ?_
  refine v_if_eq hG dX6_said_11 (tgt := 30) rfl (q := 14) rfl (fun hc => ?_) (fun hc => ?_)
  · replace h := ifp hc h
    refine v_aload_0 hG dX6_said_30 (q := 31) rfl ?_
    refine v_ldc hG kc_RX6_59 dX6_said_31 (q := 33) rfl ?_
    obtain ⟨r_2, hr_2, h⟩ := bnd h
    refine v_cV1I hG cvX6_found ml_RX6_60 rfl kk_0 (w_X6_found hr_2) (Nat.le_of_ble_eq_true rfl) dX6_said_33 (q := 36) rfl ?_
    exact v_iret hG hR rfl rfl (sp2t h) dX6_said_36
  · replace h := ifn hc h
    refine v_iload_2 hG dX6_said_14 (q := 15) rfl ?_
    obtain ⟨r_3, hr_3, h⟩ := bnd h
    refine v_cS1I hG csX6_isSaying ml_RX6_113 rfl (w_X6_isSaying hr_3) (Nat.le_of_ble_eq_true rfl) dX6_said_15 (q := 18) rfl ?_
    refine v_if_eq hG dX6_said_18 (tgt := 30) rfl (q := 21) rfl (fun hc => ?_) (fun hc => ?_)
    · replace h := ifp hc h
      refine v_aload_0 hG dX6_said_30 (q := 31) rfl ?_
      refine v_ldc hG kc_RX6_59 dX6_said_31 (q := 33) rfl ?_
      obtain ⟨r_4, hr_4, h⟩ := bnd h
      refine v_cV1I hG cvX6_found ml_RX6_60 rfl kk_0 (w_X6_found hr_4) (Nat.le_of_ble_eq_true rfl) dX6_said_33 (q := 36) rfl ?_
      exact v_iret hG hR rfl rfl (sp2t h) dX6_said_36
    · replace h := ifn hc h
      refine v_iload_3 hG dX6_said_21 (q := 22) rfl ?_
      refine v_if_lt hG dX6_said_22 (tgt := 30) rfl (q := 25) rfl (fun hc => ?_) (fun hc => ?_)
      · replace h := ifp hc h
        refine v_aload_0 hG dX6_said_30 (q := 31) rfl ?_
        refine v_ldc hG kc_RX6_59 dX6_said_31 (q := 33) rfl ?_
        obtain ⟨r_5, hr_5, h⟩ := bnd h
        refine v_cV1I hG cvX6_found ml_RX6_60 rfl kk_0 (w_X6_found hr_5) (Nat.le_of_ble_eq_true rfl) dX6_said_33 (q := 36) rfl ?_
        exact v_iret hG hR rfl rfl (sp2t h) dX6_said_36
      · replace h := ifn hc h
        refine v_iload_3 hG dX6_said_25 (q := 26) rfl ?_
        refine v_iconst hG ci_2 dX6_said_26 (q := 27) rfl ?_
        refine v_icmp_le hG dX6_said_27 (tgt := 37) rfl (q := 30) rfl (fun hc => ?_) (fun hc => ?_)
        · replace h := ifp hc h
          refine v_iconst hG ci_m1 dX6_said_37 (q := 38) rfl ?_
          refine v_istore_4 hG rfl dX6_said_38 (q := 40) rfl ?_
          refine v_sipush hG cs_4095 dX6_said_40 (q := 43) rfl ?_
          refine v_istore_5 hG rfl dX6_said_43 (q := 45) rfl ?_
          refine v_iconst hG ci_0 dX6_said_45 (q := 46) rfl ?_
          refine v_istore_6 hG rfl dX6_said_46 (q := 48) rfl ?_
          refine v_iconst hG ci_0 dX6_said_48 (q := 49) rfl ?_
          refine v_istore_7 hG rfl dX6_said_49 (q := 51) rfl ?_
          exact w_X6_said_l51 hG hR FU _ _ _ _ _ _ _ _ h
        · replace h := ifn hc h
          refine v_aload_0 hG dX6_said_30 (q := 31) rfl ?_
          refine v_ldc hG kc_RX6_59 dX6_said_31 (q := 33) rfl ?_
          obtain ⟨r_6, hr_6, h⟩ := bnd h
          refine v_cV1I hG cvX6_found ml_RX6_60 rfl kk_0 (w_X6_found hr_6) (Nat.le_of_ble_eq_true rfl) dX6_said_33 (q := 36) rfl ?_
          exact v_iret hG hR rfl rfl (sp2t h) dX6_said_36
theorem cvX6_said : CVo mX6_said 3 6 := ⟨moX6_said, mvX6_said, by decide, _, _, rfl⟩
theorem w_X6_hands_b18 {E : EB} {G : GB} (hG : Gd E mX6_hands G) {M : Mem} {R : Int32 × Mem} (hR : Rt E mX6_hands (PI R.1 R.2) G) {k18 : Int32 → Int32 → Int32 → Mem → Option (Int32 × Mem)} (hk18 : ∀ (x1 : Int32) (x2 : Int32) (x3 : Int32) (M : Mem), k18 x1 x2 x3 M = some R → V E G 18 [some (.ref 0), some (.int x1), some (.int x2), some (.int x3)] [] M) {x1 : Int32} {x2 : Int32} {x3 : Int32} (h : f_X6_hands_b18 k18 x1 x2 x3 M = some R) : V E G 18 [some (.ref 0), some (.int x1), some (.int x2), some (.int x3)] [] M := by
  unfold f_X6_hands_b18 at h
  refine v_iload_3 hG dX6_hands_18 (q := 19) rfl ?_
  refine v_aload_0 hG dX6_hands_19 (q := 20) rfl ?_
  refine gt_RX6_12 hG rfl kk_0 dX6_hands_20 (q := 23) rfl ?_
  refine gt_RX6_64 hG rfl kk_1 dX6_hands_23 (q := 26) rfl ?_
  refine gt_RX6_196 hG rfl kk_2 dX6_hands_26 (q := 29) rfl ?_
  refine v_icmp_ge hG dX6_hands_29 (tgt := 59) rfl (q := 32) rfl (fun hc => ?_) (fun hc => ?_)
  · replace h := ifp hc h
    refine v_iload_2 hG dX6_hands_59 (q := 60) rfl ?_
    exact v_iret hG hR rfl rfl (sp2t h) dX6_hands_60
  · replace h := ifn hc h
    refine v_aload_0 hG dX6_hands_32 (q := 33) rfl ?_
    refine gt_RX6_12 hG rfl kk_0 dX6_hands_33 (q := 36) rfl ?_
    refine gt_RX6_64 hG rfl kk_1 dX6_hands_36 (q := 39) rfl ?_
    refine v_iload_3 hG dX6_hands_39 (q := 40) rfl ?_
    refine v_iload_1 hG dX6_hands_40 (q := 41) rfl ?_
    obtain ⟨r_3, hr_3, h⟩ := bnd h
    refine v_cV2I hG cvX5_waysTo ml_RX6_204 rfl kk_2 (w_X5_waysTo kk_2 hr_3) (Nat.le_of_ble_eq_true rfl) dX6_hands_41 (q := 44) rfl ?_
    refine v_if_le hG dX6_hands_44 (tgt := 53) rfl (q := 47) rfl (fun hc => ?_) (fun hc => ?_)
    · replace h := ifp hc h
      refine v_iinc_3 hG rfl dX6_hands_53 (congrArg _ ci_1) (q := 56) rfl ?_
      refine v_goto hG dX6_hands_56 (tgt := 18) rfl ?_
      exact hk18 _ _ _ _ h
    · replace h := ifn hc h
      refine v_iload_2 hG dX6_hands_47 (q := 48) rfl ?_
      refine v_iconst hG ci_1 dX6_hands_48 (q := 49) rfl ?_
      refine v_iload_3 hG dX6_hands_49 (q := 50) rfl ?_
      refine v_ishl hG dX6_hands_50 (q := 51) rfl ?_
      refine v_ior hG dX6_hands_51 (q := 52) rfl ?_
      refine v_topi (fun x2_4 hy => ?_)
      replace h := letv_at hy h
      clear hy
      refine v_istore_2 hG rfl dX6_hands_52 (q := 53) rfl ?_
      refine v_iinc_3 hG rfl dX6_hands_53 (congrArg _ ci_1) (q := 56) rfl ?_
      refine v_goto hG dX6_hands_56 (tgt := 18) rfl ?_
      exact hk18 _ _ _ _ h
theorem w_X6_hands_l18 {E : EB} {G : GB} (hG : Gd E mX6_hands G) {R : Int32 × Mem} (hR : Rt E mX6_hands (PI R.1 R.2) G) : ∀ (n : Nat) (x1 : Int32) (x2 : Int32) (x3 : Int32) (M : Mem), f_X6_hands_l18 n x1 x2 x3 M = some R → V E G 18 [some (.ref 0), some (.int x1), some (.int x2), some (.int x3)] [] M := by
  intro n
  induction n with
  | zero => intro x1 x2 x3 M h; cases h
  | succ n ih => intro x1 x2 x3 M h; exact w_X6_hands_b18 hG hR ih h
theorem w_X6_hands {E : EB} {x1 : Int32} {M : Mem} {R : Int32 × Mem} (h : f_X6_hands x1 M = some R) : Mt E mX6_hands [.ref 0, .int x1] M (PI R.1 R.2) := by
  refine mt_of (L0 := [some (.ref 0), some (.int x1), none, none]) (by decide) rfl rfl (fun G hG hR => ?_)
  unfold f_X6_hands at h
  refine v_iload_1 hG dX6_hands_0 (q := 1) rfl ?_
  obtain ⟨r_1, hr_1, h⟩ := bnd h
  refine v_cS1I hG csX6_isSaying ml_RX6_113 rfl (w_X6_isSaying hr_1) (Nat.le_of_ble_eq_true rfl) dX6_hands_1 (q := 4) rfl ?_
  refine v_if_ne hG dX6_hands_4 (tgt := 14) rfl (q := 7) rfl (fun hc => ?_) (fun hc => ?_)
  · replace h := ifn hc h
    refine v_iconst hG ci_0 dX6_hands_14 (q := 15) rfl ?_
    refine v_istore_2 hG rfl dX6_hands_15 (q := 16) rfl ?_
    refine v_iconst hG ci_0 dX6_hands_16 (q := 17) rfl ?_
    refine v_istore_3 hG rfl dX6_hands_17 (q := 18) rfl ?_
    exact w_X6_hands_l18 hG hR FU _ _ _ _ h
  · replace h := ifp hc h
    refine v_aload_0 hG dX6_hands_7 (q := 8) rfl ?_
    refine v_ldc hG kc_RX6_59 dX6_hands_8 (q := 10) rfl ?_
    obtain ⟨r_2, hr_2, h⟩ := bnd h
    refine v_cV1I hG cvX6_found ml_RX6_60 rfl kk_0 (w_X6_found hr_2) (Nat.le_of_ble_eq_true rfl) dX6_hands_10 (q := 13) rfl ?_
    exact v_iret hG hR rfl rfl (sp2t h) dX6_hands_13
theorem cvX6_hands : CVo mX6_hands 1 6 := ⟨moX6_hands, mvX6_hands, by decide, _, _, rfl⟩
theorem w_X6_likeliest_b21 {E : EB} {G : GB} (hG : Gd E mX6_likeliest G) {M : Mem} {R : Int32 × Mem} (hR : Rt E mX6_likeliest (PI R.1 R.2) G) {k21 : Int32 → Int32 → Int32 → Int32 → Mem → Option (Int32 × Mem)} (hk21 : ∀ (x1 : Int32) (x2 : Int32) (x3 : Int32) (x4 : Int32) (M : Mem), k21 x1 x2 x3 x4 M = some R → V E G 21 [some (.ref 0), some (.int x1), some (.int x2), some (.int x3), some (.int x4), none] [] M) {x1 : Int32} {x2 : Int32} {x3 : Int32} {x4 : Int32} (h : f_X6_likeliest_b21 k21 x1 x2 x3 x4 M = some R) : V E G 21 [some (.ref 0), some (.int x1), some (.int x2), some (.int x3), some (.int x4), none] [] M := by
  unfold f_X6_likeliest_b21 at h
  refine v_iload_4 hG dX6_likeliest_21 (q := 23) rfl ?_
  refine v_aload_0 hG dX6_likeliest_23 (q := 24) rfl ?_
  refine gt_RX6_12 hG rfl kk_0 dX6_likeliest_24 (q := 27) rfl ?_
  refine gt_RX6_64 hG rfl kk_1 dX6_likeliest_27 (q := 30) rfl ?_
  refine gt_RX6_196 hG rfl kk_2 dX6_likeliest_30 (q := 33) rfl ?_
  refine v_icmp_ge hG dX6_likeliest_33 (tgt := 69) rfl (q := 36) rfl (fun hc => ?_) (fun hc => ?_)
  · replace h := ifp hc h
    refine v_iload_2 hG dX6_likeliest_69 (q := 70) rfl ?_
    refine v_if_ge hG dX6_likeliest_70 (tgt := 82) rfl (q := 73) rfl (fun hc => ?_) (fun hc => ?_)
    · replace h := ifp hc h
      refine v_iload_2 hG dX6_likeliest_82 (q := 83) rfl ?_
      exact v_iret hG hR rfl rfl (sp2t h) dX6_likeliest_83
    · replace h := ifn hc h
      refine v_aload_0 hG dX6_likeliest_73 (q := 74) rfl ?_
      refine v_ldc hG kc_RX6_187 dX6_likeliest_74 (q := 76) rfl ?_
      obtain ⟨r_3, hr_3, h⟩ := bnd h
      refine v_cV1I hG cvX6_found ml_RX6_60 rfl kk_0 (w_X6_found hr_3) (Nat.le_of_ble_eq_true rfl) dX6_likeliest_76 (q := 79) rfl ?_
      refine v_goto hG dX6_likeliest_79 (tgt := 83) rfl ?_
      exact v_iret hG hR rfl rfl (sp2t h) dX6_likeliest_83
  · replace h := ifn hc h
    refine v_aload_0 hG dX6_likeliest_36 (q := 37) rfl ?_
    refine gt_RX6_12 hG rfl kk_0 dX6_likeliest_37 (q := 40) rfl ?_
    refine gt_RX6_64 hG rfl kk_1 dX6_likeliest_40 (q := 43) rfl ?_
    refine v_iload_4 hG dX6_likeliest_43 (q := 45) rfl ?_
    refine v_iload_1 hG dX6_likeliest_45 (q := 46) rfl ?_
    obtain ⟨r_4, hr_4, h⟩ := bnd h
    refine v_cV2I hG cvX5_waysTo ml_RX6_204 rfl kk_2 (w_X5_waysTo kk_2 hr_4) (Nat.le_of_ble_eq_true rfl) dX6_likeliest_46 (q := 49) rfl ?_
    refine v_istore_5 hG rfl dX6_likeliest_49 (q := 51) rfl ?_
    refine v_iload_5 hG dX6_likeliest_51 (q := 53) rfl ?_
    refine v_iload_3 hG dX6_likeliest_53 (q := 54) rfl ?_
    refine v_icmp_le hG dX6_likeliest_54 (tgt := 63) rfl (q := 57) rfl (fun hc => ?_) (fun hc => ?_)
    · replace h := ifp hc h
      refine v_iinc_4 hG rfl dX6_likeliest_63 (congrArg _ ci_1) (q := 66) rfl ?_
      refine v_goto hG dX6_likeliest_66 (tgt := 21) rfl ?_
      refine v_drop (n := 5) (L' := [some (.ref 0), some (.int x1), some (.int x2), some (.int x3), some (.int (x4 + (1 : Int32))), none]) rfl ?_
      exact hk21 _ _ _ _ _ h
    · replace h := ifn hc h
      refine v_iload_5 hG dX6_likeliest_57 (q := 59) rfl ?_
      refine v_istore_3 hG rfl dX6_likeliest_59 (q := 60) rfl ?_
      refine v_iload_4 hG dX6_likeliest_60 (q := 62) rfl ?_
      refine v_istore_2 hG rfl dX6_likeliest_62 (q := 63) rfl ?_
      refine v_iinc_4 hG rfl dX6_likeliest_63 (congrArg _ ci_1) (q := 66) rfl ?_
      refine v_goto hG dX6_likeliest_66 (tgt := 21) rfl ?_
      refine v_drop (n := 5) (L' := [some (.ref 0), some (.int x1), some (.int x4), some (.int r_4), some (.int (x4 + (1 : Int32))), none]) rfl ?_
      exact hk21 _ _ _ _ _ h
theorem w_X6_likeliest_l21 {E : EB} {G : GB} (hG : Gd E mX6_likeliest G) {R : Int32 × Mem} (hR : Rt E mX6_likeliest (PI R.1 R.2) G) : ∀ (n : Nat) (x1 : Int32) (x2 : Int32) (x3 : Int32) (x4 : Int32) (M : Mem), f_X6_likeliest_l21 n x1 x2 x3 x4 M = some R → V E G 21 [some (.ref 0), some (.int x1), some (.int x2), some (.int x3), some (.int x4), none] [] M := by
  intro n
  induction n with
  | zero => intro x1 x2 x3 x4 M h; cases h
  | succ n ih => intro x1 x2 x3 x4 M h; exact w_X6_likeliest_b21 hG hR ih h
theorem w_X6_likeliest {E : EB} {x1 : Int32} {M : Mem} {R : Int32 × Mem} (h : f_X6_likeliest x1 M = some R) : Mt E mX6_likeliest [.ref 0, .int x1] M (PI R.1 R.2) := by
  refine mt_of (L0 := [some (.ref 0), some (.int x1), none, none, none, none]) (by decide) rfl rfl (fun G hG hR => ?_)
  unfold f_X6_likeliest at h
  refine v_iload_1 hG dX6_likeliest_0 (q := 1) rfl ?_
  obtain ⟨r_1, hr_1, h⟩ := bnd h
  refine v_cS1I hG csX6_isSaying ml_RX6_113 rfl (w_X6_isSaying hr_1) (Nat.le_of_ble_eq_true rfl) dX6_likeliest_1 (q := 4) rfl ?_
  refine v_if_ne hG dX6_likeliest_4 (tgt := 14) rfl (q := 7) rfl (fun hc => ?_) (fun hc => ?_)
  · replace h := ifn hc h
    refine v_iconst hG ci_m1 dX6_likeliest_14 (q := 15) rfl ?_
    refine v_istore_2 hG rfl dX6_likeliest_15 (q := 16) rfl ?_
    refine v_iconst hG ci_0 dX6_likeliest_16 (q := 17) rfl ?_
    refine v_istore_3 hG rfl dX6_likeliest_17 (q := 18) rfl ?_
    refine v_iconst hG ci_0 dX6_likeliest_18 (q := 19) rfl ?_
    refine v_istore_4 hG rfl dX6_likeliest_19 (q := 21) rfl ?_
    exact w_X6_likeliest_l21 hG hR FU _ _ _ _ _ h
  · replace h := ifp hc h
    refine v_aload_0 hG dX6_likeliest_7 (q := 8) rfl ?_
    refine v_ldc hG kc_RX6_59 dX6_likeliest_8 (q := 10) rfl ?_
    obtain ⟨r_2, hr_2, h⟩ := bnd h
    refine v_cV1I hG cvX6_found ml_RX6_60 rfl kk_0 (w_X6_found hr_2) (Nat.le_of_ble_eq_true rfl) dX6_likeliest_10 (q := 13) rfl ?_
    exact v_iret hG hR rfl rfl (sp2t h) dX6_likeliest_13
theorem cvX6_likeliest : CVo mX6_likeliest 1 6 := ⟨moX6_likeliest, mvX6_likeliest, by decide, _, _, rfl⟩
theorem w_X6_near_b42 {E : EB} {G : GB} (hG : Gd E mX6_near G) {M : Mem} {R : Int32 × Mem} (hR : Rt E mX6_near (PI R.1 R.2) G) {k42 : Int32 → Int32 → Int32 → Int32 → Int32 → Mem → Option (Int32 × Mem)} (hk42 : ∀ (x1 : Int32) (x2 : Int32) (x3 : Int32) (x4 : Int32) (x5 : Int32) (M : Mem), k42 x1 x2 x3 x4 x5 M = some R → V E G 42 [some (.ref 0), some (.int x1), some (.int x2), some (.int x3), some (.int x4), some (.int x5)] [] M) {x1 : Int32} {x2 : Int32} {x3 : Int32} {x4 : Int32} {x5 : Int32} (h : f_X6_near_b42 k42 x1 x2 x3 x4 x5 M = some R) : V E G 42 [some (.ref 0), some (.int x1), some (.int x2), some (.int x3), some (.int x4), some (.int x5)] [] M := by
  unfold f_X6_near_b42 at h
  refine v_iload_5 hG dX6_near_42 (q := 44) rfl ?_
  refine v_sipush hG cs_4096 dX6_near_44 (q := 47) rfl ?_
  refine v_icmp_ge hG dX6_near_47 (tgt := 87) rfl (q := 50) rfl (fun hc => ?_) (fun hc => ?_)
  · replace h := ifp hc h
    refine v_iload_4 hG dX6_near_87 (q := 89) rfl ?_
    refine v_bipush hG cb_12 dX6_near_89 (q := 91) rfl ?_
    refine v_icmp_le hG dX6_near_91 (tgt := 103) rfl (q := 94) rfl (fun hc => ?_) (fun hc => ?_)
    · replace h := ifp hc h
      refine v_iload_4 hG dX6_near_103 (q := 105) rfl ?_
      exact v_iret hG hR rfl rfl (sp2t h) dX6_near_105
    · replace h := ifn hc h
      refine v_aload_0 hG dX6_near_94 (q := 95) rfl ?_
      refine v_ldc hG kc_RX6_187 dX6_near_95 (q := 97) rfl ?_
      obtain ⟨r_7, hr_7, h⟩ := bnd h
      refine v_cV1I hG cvX6_found ml_RX6_60 rfl kk_0 (w_X6_found hr_7) (Nat.le_of_ble_eq_true rfl) dX6_near_97 (q := 100) rfl ?_
      refine v_goto hG dX6_near_100 (tgt := 105) rfl ?_
      exact v_iret hG hR rfl rfl (sp2t h) dX6_near_105
  · replace h := ifn hc h
    refine v_aload_0 hG dX6_near_50 (q := 51) rfl ?_
    refine gt_RX6_12 hG rfl kk_0 dX6_near_51 (q := 54) rfl ?_
    refine gt_RX6_64 hG rfl kk_1 dX6_near_54 (q := 57) rfl ?_
    refine v_iload_1 hG dX6_near_57 (q := 58) rfl ?_
    refine v_iload_5 hG dX6_near_58 (q := 60) rfl ?_
    obtain ⟨r_8, hr_8, h⟩ := bnd h
    refine v_cV2I hG cvX5_make ml_RX6_116 rfl kk_2 (w_X5_make kk_2 hr_8) (Nat.le_of_ble_eq_true rfl) dX6_near_60 (q := 63) rfl ?_
    refine v_iload_3 hG dX6_near_63 (q := 64) rfl ?_
    refine v_icmp_ne hG dX6_near_64 (tgt := 81) rfl (q := 67) rfl (fun hc => ?_) (fun hc => ?_)
    · replace h := ifn hc h
      refine v_iinc_5 hG rfl dX6_near_81 (congrArg _ ci_1) (q := 84) rfl ?_
      refine v_goto hG dX6_near_84 (tgt := 42) rfl ?_
      exact hk42 _ _ _ _ _ _ h
    · replace h := ifp hc h
      refine v_iload_4 hG dX6_near_67 (q := 69) rfl ?_
      refine v_iload_5 hG dX6_near_69 (q := 71) rfl ?_
      refine v_iload_2 hG dX6_near_71 (q := 72) rfl ?_
      refine v_ixor hG dX6_near_72 (q := 73) rfl ?_
      obtain ⟨r_9, hr_9, h⟩ := bnd h
      refine v_cS1I hG csJ6_bitCount_0f7a4 ml_RX6_191 rfl (w_J6_bitCount_0f7a4 hr_9) (Nat.le_of_ble_eq_true rfl) dX6_near_73 (q := 76) rfl ?_
      refine v_mmin hG ml_RX6_207 rfl rfl (Nat.le_of_ble_eq_true rfl) dX6_near_76 (q := 79) rfl ?_
      refine v_topi (fun x4_10 hy => ?_)
      replace h := letv_at hy h
      clear hy
      refine v_istore_4 hG rfl dX6_near_79 (q := 81) rfl ?_
      refine v_iinc_5 hG rfl dX6_near_81 (congrArg _ ci_1) (q := 84) rfl ?_
      refine v_goto hG dX6_near_84 (tgt := 42) rfl ?_
      exact hk42 _ _ _ _ _ _ h
theorem w_X6_near_l42 {E : EB} {G : GB} (hG : Gd E mX6_near G) {R : Int32 × Mem} (hR : Rt E mX6_near (PI R.1 R.2) G) : ∀ (n : Nat) (x1 : Int32) (x2 : Int32) (x3 : Int32) (x4 : Int32) (x5 : Int32) (M : Mem), f_X6_near_l42 n x1 x2 x3 x4 x5 M = some R → V E G 42 [some (.ref 0), some (.int x1), some (.int x2), some (.int x3), some (.int x4), some (.int x5)] [] M := by
  intro n
  induction n with
  | zero => intro x1 x2 x3 x4 x5 M h; cases h
  | succ n ih => intro x1 x2 x3 x4 x5 M h; exact w_X6_near_b42 hG hR ih h
theorem w_X6_near {E : EB} {x1 : Int32} {x2 : Int32} {x3 : Int32} {M : Mem} {R : Int32 × Mem} (h : f_X6_near x1 x2 x3 M = some R) : Mt E mX6_near [.ref 0, .int x1, .int x2, .int x3] M (PI R.1 R.2) := by
  refine mt_of (L0 := [some (.ref 0), some (.int x1), some (.int x2), some (.int x3), none, none]) (by decide) rfl rfl (fun G hG hR => ?_)
  unfold f_X6_near at h
  refine v_aload_0 hG dX6_near_0 (q := 1) rfl ?_
  refine gt_RX6_12 hG rfl kk_0 dX6_near_1 (q := 4) rfl ?_
  refine gt_RX6_64 hG rfl kk_1 dX6_near_4 (q := 7) rfl ?_
  refine v_iload_1 hG dX6_near_7 (q := 8) rfl ?_
  obtain ⟨r_1, hr_1, h⟩ := bnd h
  refine v_cV1I hG cvX5_has ml_RX6_78 rfl kk_2 (w_X5_has kk_2 hr_1) (Nat.le_of_ble_eq_true rfl) dX6_near_8 (q := 11) rfl ?_
  refine v_if_eq hG dX6_near_11 (tgt := 28) rfl (q := 14) rfl (fun hc => ?_) (fun hc => ?_)
  · replace h := ifp hc h
    refine v_aload_0 hG dX6_near_28 (q := 29) rfl ?_
    refine v_ldc hG kc_RX6_59 dX6_near_29 (q := 31) rfl ?_
    obtain ⟨r_2, hr_2, h⟩ := bnd h
    refine v_cV1I hG cvX6_found ml_RX6_60 rfl kk_0 (w_X6_found hr_2) (Nat.le_of_ble_eq_true rfl) dX6_near_31 (q := 34) rfl ?_
    exact v_iret hG hR rfl rfl (sp2t h) dX6_near_34
  · replace h := ifn hc h
    refine v_iload_2 hG dX6_near_14 (q := 15) rfl ?_
    obtain ⟨r_3, hr_3, h⟩ := bnd h
    refine v_cS1I hG csX6_isSaying ml_RX6_113 rfl (w_X6_isSaying hr_3) (Nat.le_of_ble_eq_true rfl) dX6_near_15 (q := 18) rfl ?_
    refine v_if_eq hG dX6_near_18 (tgt := 28) rfl (q := 21) rfl (fun hc => ?_) (fun hc => ?_)
    · replace h := ifp hc h
      refine v_aload_0 hG dX6_near_28 (q := 29) rfl ?_
      refine v_ldc hG kc_RX6_59 dX6_near_29 (q := 31) rfl ?_
      obtain ⟨r_4, hr_4, h⟩ := bnd h
      refine v_cV1I hG cvX6_found ml_RX6_60 rfl kk_0 (w_X6_found hr_4) (Nat.le_of_ble_eq_true rfl) dX6_near_31 (q := 34) rfl ?_
      exact v_iret hG hR rfl rfl (sp2t h) dX6_near_34
    · replace h := ifn hc h
      refine v_iload_3 hG dX6_near_21 (q := 22) rfl ?_
      obtain ⟨r_5, hr_5, h⟩ := bnd h
      refine v_cS1I hG csX6_isSaying ml_RX6_113 rfl (w_X6_isSaying hr_5) (Nat.le_of_ble_eq_true rfl) dX6_near_22 (q := 25) rfl ?_
      refine v_if_ne hG dX6_near_25 (tgt := 35) rfl (q := 28) rfl (fun hc => ?_) (fun hc => ?_)
      · replace h := ifn hc h
        refine v_bipush hG cb_13 dX6_near_35 (q := 37) rfl ?_
        refine v_istore_4 hG rfl dX6_near_37 (q := 39) rfl ?_
        refine v_iconst hG ci_0 dX6_near_39 (q := 40) rfl ?_
        refine v_istore_5 hG rfl dX6_near_40 (q := 42) rfl ?_
        exact w_X6_near_l42 hG hR FU _ _ _ _ _ _ h
      · replace h := ifp hc h
        refine v_aload_0 hG dX6_near_28 (q := 29) rfl ?_
        refine v_ldc hG kc_RX6_59 dX6_near_29 (q := 31) rfl ?_
        obtain ⟨r_6, hr_6, h⟩ := bnd h
        refine v_cV1I hG cvX6_found ml_RX6_60 rfl kk_0 (w_X6_found hr_6) (Nat.le_of_ble_eq_true rfl) dX6_near_31 (q := 34) rfl ?_
        exact v_iret hG hR rfl rfl (sp2t h) dX6_near_34
theorem cvX6_near : CVo mX6_near 3 6 := ⟨moX6_near, mvX6_near, by decide, _, _, rfl⟩
theorem w_X6_honest_b25 {E : EB} {G : GB} (hG : Gd E mX6_honest G) {M : Mem} {R : Int32 × Mem} (hR : Rt E mX6_honest (PI R.1 R.2) G) {k25 : Int32 → Int32 → Int32 → Mem → Option (Int32 × Mem)} (hk25 : ∀ (x1 : Int32) (x2 : Int32) (x3 : Int32) (M : Mem), k25 x1 x2 x3 M = some R → V E G 25 [some (.ref 0), some (.int x1), some (.int x2), some (.int x3)] [] M) {x1 : Int32} {x2 : Int32} {x3 : Int32} (h : f_X6_honest_b25 k25 x1 x2 x3 M = some R) : V E G 25 [some (.ref 0), some (.int x1), some (.int x2), some (.int x3)] [] M := by
  unfold f_X6_honest_b25 at h
  refine v_iload_3 hG dX6_honest_25 (q := 26) rfl ?_
  refine v_sipush hG cs_4096 dX6_honest_26 (q := 29) rfl ?_
  refine v_icmp_ge hG dX6_honest_29 (tgt := 57) rfl (q := 32) rfl (fun hc => ?_) (fun hc => ?_)
  · replace h := ifp hc h
    refine v_iload_2 hG dX6_honest_57 (q := 58) rfl ?_
    exact v_iret hG hR rfl rfl (sp2t h) dX6_honest_58
  · replace h := ifn hc h
    refine v_aload_0 hG dX6_honest_32 (q := 33) rfl ?_
    refine gt_RX6_12 hG rfl kk_0 dX6_honest_33 (q := 36) rfl ?_
    refine gt_RX6_64 hG rfl kk_1 dX6_honest_36 (q := 39) rfl ?_
    refine v_iload_1 hG dX6_honest_39 (q := 40) rfl ?_
    refine v_iload_3 hG dX6_honest_40 (q := 41) rfl ?_
    obtain ⟨r_3, hr_3, h⟩ := bnd h
    refine v_cV2I hG cvX5_make ml_RX6_116 rfl kk_2 (w_X5_make kk_2 hr_3) (Nat.le_of_ble_eq_true rfl) dX6_honest_41 (q := 44) rfl ?_
    refine v_iload_3 hG dX6_honest_44 (q := 45) rfl ?_
    refine v_icmp_ne hG dX6_honest_45 (tgt := 51) rfl (q := 48) rfl (fun hc => ?_) (fun hc => ?_)
    · replace h := ifn hc h
      refine v_iinc_3 hG rfl dX6_honest_51 (congrArg _ ci_1) (q := 54) rfl ?_
      refine v_goto hG dX6_honest_54 (tgt := 25) rfl ?_
      exact hk25 _ _ _ _ h
    · replace h := ifp hc h
      refine v_iinc_2 hG rfl dX6_honest_48 (congrArg _ ci_1) (q := 51) rfl ?_
      refine v_iinc_3 hG rfl dX6_honest_51 (congrArg _ ci_1) (q := 54) rfl ?_
      refine v_goto hG dX6_honest_54 (tgt := 25) rfl ?_
      exact hk25 _ _ _ _ h
theorem w_X6_honest_l25 {E : EB} {G : GB} (hG : Gd E mX6_honest G) {R : Int32 × Mem} (hR : Rt E mX6_honest (PI R.1 R.2) G) : ∀ (n : Nat) (x1 : Int32) (x2 : Int32) (x3 : Int32) (M : Mem), f_X6_honest_l25 n x1 x2 x3 M = some R → V E G 25 [some (.ref 0), some (.int x1), some (.int x2), some (.int x3)] [] M := by
  intro n
  induction n with
  | zero => intro x1 x2 x3 M h; cases h
  | succ n ih => intro x1 x2 x3 M h; exact w_X6_honest_b25 hG hR ih h
theorem w_X6_honest {E : EB} {x1 : Int32} {M : Mem} {R : Int32 × Mem} (h : f_X6_honest x1 M = some R) : Mt E mX6_honest [.ref 0, .int x1] M (PI R.1 R.2) := by
  refine mt_of (L0 := [some (.ref 0), some (.int x1), none, none]) (by decide) rfl rfl (fun G hG hR => ?_)
  unfold f_X6_honest at h
  refine v_aload_0 hG dX6_honest_0 (q := 1) rfl ?_
  refine gt_RX6_12 hG rfl kk_0 dX6_honest_1 (q := 4) rfl ?_
  refine gt_RX6_64 hG rfl kk_1 dX6_honest_4 (q := 7) rfl ?_
  refine v_iload_1 hG dX6_honest_7 (q := 8) rfl ?_
  obtain ⟨r_1, hr_1, h⟩ := bnd h
  refine v_cV1I hG cvX5_has ml_RX6_78 rfl kk_2 (w_X5_has kk_2 hr_1) (Nat.le_of_ble_eq_true rfl) dX6_honest_8 (q := 11) rfl ?_
  refine v_if_ne hG dX6_honest_11 (tgt := 21) rfl (q := 14) rfl (fun hc => ?_) (fun hc => ?_)
  · replace h := ifn hc h
    refine v_iconst hG ci_0 dX6_honest_21 (q := 22) rfl ?_
    refine v_istore_2 hG rfl dX6_honest_22 (q := 23) rfl ?_
    refine v_iconst hG ci_0 dX6_honest_23 (q := 24) rfl ?_
    refine v_istore_3 hG rfl dX6_honest_24 (q := 25) rfl ?_
    exact w_X6_honest_l25 hG hR FU _ _ _ _ h
  · replace h := ifp hc h
    refine v_aload_0 hG dX6_honest_14 (q := 15) rfl ?_
    refine v_ldc hG kc_RX6_59 dX6_honest_15 (q := 17) rfl ?_
    obtain ⟨r_2, hr_2, h⟩ := bnd h
    refine v_cV1I hG cvX6_found ml_RX6_60 rfl kk_0 (w_X6_found hr_2) (Nat.le_of_ble_eq_true rfl) dX6_honest_17 (q := 20) rfl ?_
    exact v_iret hG hR rfl rfl (sp2t h) dX6_honest_20
theorem cvX6_honest : CVo mX6_honest 1 6 := ⟨moX6_honest, mvX6_honest, by decide, _, _, rfl⟩
theorem w_X6_round_b29 {E : EB} {G : GB} (hG : Gd E mX6_round G) {M : Mem} {R : Int32 × Mem} (hR : Rt E mX6_round (PI R.1 R.2) G) {k29 : Int32 → Int32 → Int32 → Mem → Option (Int32 × Mem)} (hk29 : ∀ (x2 : Int32) (x3 : Int32) (x4 : Int32) (M : Mem), k29 x2 x3 x4 M = some R → V E G 29 [some (.ref 0), none, some (.int x2), some (.int x3), some (.int x4)] [] M) {x2 : Int32} {x3 : Int32} {x4 : Int32} (h : f_X6_round_b29 k29 x2 x3 x4 M = some R) : V E G 29 [some (.ref 0), none, some (.int x2), some (.int x3), some (.int x4)] [] M := by
  unfold f_X6_round_b29 at h
  refine v_iload_4 hG dX6_round_29 (q := 31) rfl ?_
  refine v_iload_2 hG dX6_round_31 (q := 32) rfl ?_
  refine v_icmp_ge hG dX6_round_32 (tgt := 53) rfl (q := 35) rfl (fun hc => ?_) (fun hc => ?_)
  · replace h := ifp hc h
    refine v_iload_3 hG dX6_round_53 (q := 54) rfl ?_
    exact v_iret hG hR rfl rfl (sp2t h) dX6_round_54
  · replace h := ifn hc h
    refine v_aload_0 hG dX6_round_35 (q := 36) rfl ?_
    refine gt_RX6_12 hG rfl kk_0 dX6_round_36 (q := 39) rfl ?_
    refine gt_RX6_64 hG rfl kk_1 dX6_round_39 (q := 42) rfl ?_
    refine v_iload_3 hG dX6_round_42 (q := 43) rfl ?_
    obtain ⟨r_5, hr_5, h⟩ := bnd h
    refine v_cV1I hG cvX5_onceRound ml_RX6_212 rfl kk_2 (w_X5_onceRound kk_2 hr_5) (Nat.le_of_ble_eq_true rfl) dX6_round_43 (q := 46) rfl ?_
    refine v_istore_3 hG rfl dX6_round_46 (q := 47) rfl ?_
    refine v_iinc_4 hG rfl dX6_round_47 (congrArg _ ci_1) (q := 50) rfl ?_
    refine v_goto hG dX6_round_50 (tgt := 29) rfl ?_
    exact hk29 _ _ _ _ h
theorem w_X6_round_l29 {E : EB} {G : GB} (hG : Gd E mX6_round G) {R : Int32 × Mem} (hR : Rt E mX6_round (PI R.1 R.2) G) : ∀ (n : Nat) (x2 : Int32) (x3 : Int32) (x4 : Int32) (M : Mem), f_X6_round_l29 n x2 x3 x4 M = some R → V E G 29 [some (.ref 0), none, some (.int x2), some (.int x3), some (.int x4)] [] M := by
  intro n
  induction n with
  | zero => intro x2 x3 x4 M h; cases h
  | succ n ih => intro x2 x3 x4 M h; exact w_X6_round_b29 hG hR ih h
theorem w_X6_round {E : EB} {x1 : Int32} {x2 : Int32} {M : Mem} {R : Int32 × Mem} (h : f_X6_round x1 x2 M = some R) : Mt E mX6_round [.ref 0, .int x1, .int x2] M (PI R.1 R.2) := by
  refine mt_of (L0 := [some (.ref 0), some (.int x1), some (.int x2), none, none]) (by decide) rfl rfl (fun G hG hR => ?_)
  unfold f_X6_round at h
  refine v_iload_1 hG dX6_round_0 (q := 1) rfl ?_
  obtain ⟨r_1, hr_1, h⟩ := bnd h
  refine v_cS1I hG csX6_isSaying ml_RX6_113 rfl (w_X6_isSaying hr_1) (Nat.le_of_ble_eq_true rfl) dX6_round_1 (q := 4) rfl ?_
  refine v_if_eq hG dX6_round_4 (tgt := 17) rfl (q := 7) rfl (fun hc => ?_) (fun hc => ?_)
  · replace h := ifp hc h
    refine v_aload_0 hG dX6_round_17 (q := 18) rfl ?_
    refine v_ldc hG kc_RX6_59 dX6_round_18 (q := 20) rfl ?_
    obtain ⟨r_2, hr_2, h⟩ := bnd h
    refine v_cV1I hG cvX6_found ml_RX6_60 rfl kk_0 (w_X6_found hr_2) (Nat.le_of_ble_eq_true rfl) dX6_round_20 (q := 23) rfl ?_
    exact v_iret hG hR rfl rfl (sp2t h) dX6_round_23
  · replace h := ifn hc h
    refine v_iload_2 hG dX6_round_7 (q := 8) rfl ?_
    refine v_if_lt hG dX6_round_8 (tgt := 17) rfl (q := 11) rfl (fun hc => ?_) (fun hc => ?_)
    · replace h := ifp hc h
      refine v_aload_0 hG dX6_round_17 (q := 18) rfl ?_
      refine v_ldc hG kc_RX6_59 dX6_round_18 (q := 20) rfl ?_
      obtain ⟨r_3, hr_3, h⟩ := bnd h
      refine v_cV1I hG cvX6_found ml_RX6_60 rfl kk_0 (w_X6_found hr_3) (Nat.le_of_ble_eq_true rfl) dX6_round_20 (q := 23) rfl ?_
      exact v_iret hG hR rfl rfl (sp2t h) dX6_round_23
    · replace h := ifn hc h
      refine v_iload_2 hG dX6_round_11 (q := 12) rfl ?_
      refine v_bipush hG cb_20 dX6_round_12 (q := 14) rfl ?_
      refine v_icmp_le hG dX6_round_14 (tgt := 24) rfl (q := 17) rfl (fun hc => ?_) (fun hc => ?_)
      · replace h := ifp hc h
        refine v_iload_1 hG dX6_round_24 (q := 25) rfl ?_
        refine v_istore_3 hG rfl dX6_round_25 (q := 26) rfl ?_
        refine v_iconst hG ci_0 dX6_round_26 (q := 27) rfl ?_
        refine v_istore_4 hG rfl dX6_round_27 (q := 29) rfl ?_
        refine v_drop (n := 1) (L' := [some (.ref 0), none, some (.int x2), some (.int x1), some (.int (0 : Int32))]) rfl ?_
        exact w_X6_round_l29 hG hR FU _ _ _ _ h
      · replace h := ifn hc h
        refine v_aload_0 hG dX6_round_17 (q := 18) rfl ?_
        refine v_ldc hG kc_RX6_59 dX6_round_18 (q := 20) rfl ?_
        obtain ⟨r_4, hr_4, h⟩ := bnd h
        refine v_cV1I hG cvX6_found ml_RX6_60 rfl kk_0 (w_X6_found hr_4) (Nat.le_of_ble_eq_true rfl) dX6_round_20 (q := 23) rfl ?_
        exact v_iret hG hR rfl rfl (sp2t h) dX6_round_23
theorem cvX6_round : CVo mX6_round 2 6 := ⟨moX6_round, mvX6_round, by decide, _, _, rfl⟩
theorem w_X6_settles_b46 {E : EB} {G : GB} (hG : Gd E mX6_settles G) {M : Mem} {R : Int32 × Mem} (hR : Rt E mX6_settles (PI R.1 R.2) G) {k25 : Int32 → Int32 → Mem → Option (Int32 × Mem)} {k46 : Int32 → Int32 → Int32 → Mem → Option (Int32 × Mem)} (hk25 : ∀ (x2 : Int32) (x3 : Int32) (M : Mem), k25 x2 x3 M = some R → V E G 25 [some (.ref 0), none, some (.int x2), some (.int x3), none] [] M) (hk46 : ∀ (x2 : Int32) (x3 : Int32) (x4 : Int32) (M : Mem), k46 x2 x3 x4 M = some R → V E G 46 [some (.ref 0), none, some (.int x2), some (.int x3), some (.int x4)] [] M) {x2 : Int32} {x3 : Int32} {x4 : Int32} (h : f_X6_settles_b46 k25 k46 x2 x3 x4 M = some R) : V E G 46 [some (.ref 0), none, some (.int x2), some (.int x3), some (.int x4)] [] M := by
  unfold f_X6_settles_b46 at h
  refine v_iload_4 hG dX6_settles_46 (q := 48) rfl ?_
  refine v_iload_3 hG dX6_settles_48 (q := 49) rfl ?_
  refine v_icmp_ge hG dX6_settles_49 (tgt := 71) rfl (q := 52) rfl (fun hc => ?_) (fun hc => ?_)
  · replace h := ifp hc h
    refine v_aload_0 hG dX6_settles_71 (q := 72) rfl ?_
    refine gt_RX6_49 hG rfl kk_0 dX6_settles_72 (q := 75) rfl ?_
    refine v_iload_3 hG dX6_settles_75 (q := 76) rfl ?_
    refine v_iload_2 hG dX6_settles_76 (q := 77) rfl ?_
    obtain ⟨c_7, h⟩ := ck_some h
    refine v_iast hG kk_57 rfl c_7 dX6_settles_77 (q := 78) rfl ?_
    refine v_topM (fun M_8 hy => ?_)
    replace h := letv_at hy h
    clear hy
    refine v_iinc_3 hG rfl dX6_settles_78 (congrArg _ ci_1) (q := 81) rfl ?_
    refine v_goto hG dX6_settles_81 (tgt := 25) rfl ?_
    refine v_drop (n := 4) (L' := [some (.ref 0), none, some (.int x2), some (.int (x3 + (1 : Int32))), none]) rfl ?_
    exact hk25 _ _ _ h
  · replace h := ifn hc h
    refine v_aload_0 hG dX6_settles_52 (q := 53) rfl ?_
    refine gt_RX6_49 hG rfl kk_0 dX6_settles_53 (q := 56) rfl ?_
    refine v_iload_4 hG dX6_settles_56 (q := 58) rfl ?_
    obtain ⟨c_9, h⟩ := ck_some h
    refine v_iald hG kk_57 rfl c_9 dX6_settles_58 (q := 59) rfl ?_
    refine v_iload_2 hG dX6_settles_59 (q := 60) rfl ?_
    refine v_icmp_ne hG dX6_settles_60 (tgt := 65) rfl (q := 63) rfl (fun hc => ?_) (fun hc => ?_)
    · replace h := ifn hc h
      refine v_iinc_4 hG rfl dX6_settles_65 (congrArg _ ci_1) (q := 68) rfl ?_
      refine v_goto hG dX6_settles_68 (tgt := 46) rfl ?_
      exact hk46 _ _ _ _ h
    · replace h := ifp hc h
      refine v_iload_3 hG dX6_settles_63 (q := 64) rfl ?_
      exact v_iret hG hR rfl rfl (sp2t h) dX6_settles_64
theorem w_X6_settles_l46 {E : EB} {G : GB} (hG : Gd E mX6_settles G) {R : Int32 × Mem} (hR : Rt E mX6_settles (PI R.1 R.2) G) {k25 : Int32 → Int32 → Mem → Option (Int32 × Mem)} (hk25 : ∀ (x2 : Int32) (x3 : Int32) (M : Mem), k25 x2 x3 M = some R → V E G 25 [some (.ref 0), none, some (.int x2), some (.int x3), none] [] M) : ∀ (n : Nat) (x2 : Int32) (x3 : Int32) (x4 : Int32) (M : Mem), f_X6_settles_l46 k25 n x2 x3 x4 M = some R → V E G 46 [some (.ref 0), none, some (.int x2), some (.int x3), some (.int x4)] [] M := by
  intro n
  induction n with
  | zero => intro x2 x3 x4 M h; cases h
  | succ n ih => intro x2 x3 x4 M h; exact w_X6_settles_b46 hG hR hk25 ih h
theorem w_X6_settles_b25 {E : EB} {G : GB} (hG : Gd E mX6_settles G) {M : Mem} {R : Int32 × Mem} (hR : Rt E mX6_settles (PI R.1 R.2) G) {k25 : Int32 → Int32 → Mem → Option (Int32 × Mem)} (hk25 : ∀ (x2 : Int32) (x3 : Int32) (M : Mem), k25 x2 x3 M = some R → V E G 25 [some (.ref 0), none, some (.int x2), some (.int x3), none] [] M) {x2 : Int32} {x3 : Int32} (h : f_X6_settles_b25 k25 x2 x3 M = some R) : V E G 25 [some (.ref 0), none, some (.int x2), some (.int x3), none] [] M := by
  unfold f_X6_settles_b25 at h
  refine v_iload_3 hG dX6_settles_25 (q := 26) rfl ?_
  refine v_bipush hG cb_100 dX6_settles_26 (q := 28) rfl ?_
  refine v_icmp_gt hG dX6_settles_28 (tgt := 84) rfl (q := 31) rfl (fun hc => ?_) (fun hc => ?_)
  · replace h := ifp hc h
    refine v_aload_0 hG dX6_settles_84 (q := 85) rfl ?_
    refine v_ldc hG kc_RX6_187 dX6_settles_85 (q := 87) rfl ?_
    obtain ⟨r_5, hr_5, h⟩ := bnd h
    refine v_cV1I hG cvX6_found ml_RX6_60 rfl kk_0 (w_X6_found hr_5) (Nat.le_of_ble_eq_true rfl) dX6_settles_87 (q := 90) rfl ?_
    exact v_iret hG hR rfl rfl (sp2t h) dX6_settles_90
  · replace h := ifn hc h
    refine v_aload_0 hG dX6_settles_31 (q := 32) rfl ?_
    refine gt_RX6_12 hG rfl kk_0 dX6_settles_32 (q := 35) rfl ?_
    refine gt_RX6_64 hG rfl kk_1 dX6_settles_35 (q := 38) rfl ?_
    refine v_iload_2 hG dX6_settles_38 (q := 39) rfl ?_
    obtain ⟨r_6, hr_6, h⟩ := bnd h
    refine v_cV1I hG cvX5_onceRound ml_RX6_212 rfl kk_2 (w_X5_onceRound kk_2 hr_6) (Nat.le_of_ble_eq_true rfl) dX6_settles_39 (q := 42) rfl ?_
    refine v_istore_2 hG rfl dX6_settles_42 (q := 43) rfl ?_
    refine v_iconst hG ci_0 dX6_settles_43 (q := 44) rfl ?_
    refine v_istore_4 hG rfl dX6_settles_44 (q := 46) rfl ?_
    exact w_X6_settles_l46 hG hR hk25 FU _ _ _ _ h
theorem w_X6_settles_l25 {E : EB} {G : GB} (hG : Gd E mX6_settles G) {R : Int32 × Mem} (hR : Rt E mX6_settles (PI R.1 R.2) G) : ∀ (n : Nat) (x2 : Int32) (x3 : Int32) (M : Mem), f_X6_settles_l25 n x2 x3 M = some R → V E G 25 [some (.ref 0), none, some (.int x2), some (.int x3), none] [] M := by
  intro n
  induction n with
  | zero => intro x2 x3 M h; cases h
  | succ n ih => intro x2 x3 M h; exact w_X6_settles_b25 hG hR ih h
theorem w_X6_settles {E : EB} {x1 : Int32} {M : Mem} {R : Int32 × Mem} (h : f_X6_settles x1 M = some R) : Mt E mX6_settles [.ref 0, .int x1] M (PI R.1 R.2) := by
  refine mt_of (L0 := [some (.ref 0), some (.int x1), none, none, none]) (by decide) rfl rfl (fun G hG hR => ?_)
  unfold f_X6_settles at h
  refine v_iload_1 hG dX6_settles_0 (q := 1) rfl ?_
  obtain ⟨r_1, hr_1, h⟩ := bnd h
  refine v_cS1I hG csX6_isSaying ml_RX6_113 rfl (w_X6_isSaying hr_1) (Nat.le_of_ble_eq_true rfl) dX6_settles_1 (q := 4) rfl ?_
  refine v_if_ne hG dX6_settles_4 (tgt := 14) rfl (q := 7) rfl (fun hc => ?_) (fun hc => ?_)
  · replace h := ifn hc h
    refine v_iload_1 hG dX6_settles_14 (q := 15) rfl ?_
    refine v_istore_2 hG rfl dX6_settles_15 (q := 16) rfl ?_
    refine v_aload_0 hG dX6_settles_16 (q := 17) rfl ?_
    refine gt_RX6_49 hG rfl kk_0 dX6_settles_17 (q := 20) rfl ?_
    refine v_iconst hG ci_0 dX6_settles_20 (q := 21) rfl ?_
    refine v_iload_2 hG dX6_settles_21 (q := 22) rfl ?_
    obtain ⟨c_2, h⟩ := ck_some h
    refine v_iast hG kk_57 rfl c_2 dX6_settles_22 (q := 23) rfl ?_
    refine v_topM (fun M_3 hy => ?_)
    replace h := letv_at hy h
    clear hy
    refine v_iconst hG ci_1 dX6_settles_23 (q := 24) rfl ?_
    refine v_istore_3 hG rfl dX6_settles_24 (q := 25) rfl ?_
    refine v_drop (n := 1) (L' := [some (.ref 0), none, some (.int x1), some (.int (1 : Int32)), none]) rfl ?_
    exact w_X6_settles_l25 hG hR FU _ _ _ h
  · replace h := ifp hc h
    refine v_aload_0 hG dX6_settles_7 (q := 8) rfl ?_
    refine v_ldc hG kc_RX6_59 dX6_settles_8 (q := 10) rfl ?_
    obtain ⟨r_4, hr_4, h⟩ := bnd h
    refine v_cV1I hG cvX6_found ml_RX6_60 rfl kk_0 (w_X6_found hr_4) (Nat.le_of_ble_eq_true rfl) dX6_settles_10 (q := 13) rfl ?_
    exact v_iret hG hR rfl rfl (sp2t h) dX6_settles_13
theorem cvX6_settles : CVo mX6_settles 1 6 := ⟨moX6_settles, mvX6_settles, by decide, _, _, rfl⟩
theorem w_X6_court {E : EB} {x1 : Int32} {x2 : Int32} {x3 : Int32} {M : Mem} {R : Int32 × Mem} (h : f_X6_court x1 x2 x3 M = some R) : Mt E mX6_court [.ref 0, .int x1, .int x2, .int x3] M (PI R.1 R.2) := by
  refine mt_of (L0 := [some (.ref 0), some (.int x1), some (.int x2), some (.int x3), none]) (by decide) rfl rfl (fun G hG hR => ?_)
  unfold f_X6_court at h
  refine v_aload_0 hG dX6_court_0 (q := 1) rfl ?_
  refine gt_RX6_12 hG rfl kk_0 dX6_court_1 (q := 4) rfl ?_
  refine gt_RX6_64 hG rfl kk_1 dX6_court_4 (q := 7) rfl ?_
  refine v_iload_1 hG dX6_court_7 (q := 8) rfl ?_
  obtain ⟨r_1, hr_1, h⟩ := bnd h
  refine v_cV1I hG cvX5_has ml_RX6_78 rfl kk_2 (w_X5_has kk_2 hr_1) (Nat.le_of_ble_eq_true rfl) dX6_court_8 (q := 11) rfl ?_
  refine v_if_eq hG dX6_court_11 (tgt := 35) rfl (q := 14) rfl (fun hc => ?_) (fun hc => ?_)
  · replace h := ifp hc h
    refine v_aload_0 hG dX6_court_35 (q := 36) rfl ?_
    refine v_ldc hG kc_RX6_59 dX6_court_36 (q := 38) rfl ?_
    obtain ⟨r_2, hr_2, h⟩ := bnd h
    refine v_cV1I hG cvX6_found ml_RX6_60 rfl kk_0 (w_X6_found hr_2) (Nat.le_of_ble_eq_true rfl) dX6_court_38 (q := 41) rfl ?_
    exact v_iret hG hR rfl rfl (sp2t h) dX6_court_41
  · replace h := ifn hc h
    refine v_aload_0 hG dX6_court_14 (q := 15) rfl ?_
    refine gt_RX6_12 hG rfl kk_0 dX6_court_15 (q := 18) rfl ?_
    refine gt_RX6_64 hG rfl kk_1 dX6_court_18 (q := 21) rfl ?_
    refine v_iload_2 hG dX6_court_21 (q := 22) rfl ?_
    obtain ⟨r_3, hr_3, h⟩ := bnd h
    refine v_cV1I hG cvX5_has ml_RX6_78 rfl kk_2 (w_X5_has kk_2 hr_3) (Nat.le_of_ble_eq_true rfl) dX6_court_22 (q := 25) rfl ?_
    refine v_if_eq hG dX6_court_25 (tgt := 35) rfl (q := 28) rfl (fun hc => ?_) (fun hc => ?_)
    · replace h := ifp hc h
      refine v_aload_0 hG dX6_court_35 (q := 36) rfl ?_
      refine v_ldc hG kc_RX6_59 dX6_court_36 (q := 38) rfl ?_
      obtain ⟨r_4, hr_4, h⟩ := bnd h
      refine v_cV1I hG cvX6_found ml_RX6_60 rfl kk_0 (w_X6_found hr_4) (Nat.le_of_ble_eq_true rfl) dX6_court_38 (q := 41) rfl ?_
      exact v_iret hG hR rfl rfl (sp2t h) dX6_court_41
    · replace h := ifn hc h
      refine v_iload_3 hG dX6_court_28 (q := 29) rfl ?_
      obtain ⟨r_5, hr_5, h⟩ := bnd h
      refine v_cS1I hG csX6_isSaying ml_RX6_113 rfl (w_X6_isSaying hr_5) (Nat.le_of_ble_eq_true rfl) dX6_court_29 (q := 32) rfl ?_
      refine v_if_ne hG dX6_court_32 (tgt := 42) rfl (q := 35) rfl (fun hc => ?_) (fun hc => ?_)
      · replace h := ifn hc h
        refine v_aload_0 hG dX6_court_42 (q := 43) rfl ?_
        refine gt_RX6_12 hG rfl kk_0 dX6_court_43 (q := 46) rfl ?_
        refine gt_RX6_64 hG rfl kk_1 dX6_court_46 (q := 49) rfl ?_
        refine v_iload_2 hG dX6_court_49 (q := 50) rfl ?_
        refine v_aload_0 hG dX6_court_50 (q := 51) rfl ?_
        refine gt_RX6_12 hG rfl kk_0 dX6_court_51 (q := 54) rfl ?_
        refine gt_RX6_64 hG rfl kk_1 dX6_court_54 (q := 57) rfl ?_
        refine v_iload_1 hG dX6_court_57 (q := 58) rfl ?_
        refine v_iload_3 hG dX6_court_58 (q := 59) rfl ?_
        obtain ⟨r_6, hr_6, h⟩ := bnd h
        refine v_cV2I hG cvX5_make ml_RX6_116 rfl kk_2 (w_X5_make kk_2 hr_6) (Nat.le_of_ble_eq_true rfl) dX6_court_59 (q := 62) rfl ?_
        obtain ⟨r_7, hr_7, h⟩ := bnd h
        refine v_cV2I hG cvX5_make ml_RX6_116 rfl kk_2 (w_X5_make kk_2 hr_7) (Nat.le_of_ble_eq_true rfl) dX6_court_62 (q := 65) rfl ?_
        refine v_istore_4 hG rfl dX6_court_65 (q := 67) rfl ?_
        refine v_iload_3 hG dX6_court_67 (q := 68) rfl ?_
        refine v_iload_4 hG dX6_court_68 (q := 70) rfl ?_
        refine v_iconst hG ci_m1 dX6_court_70 (q := 71) rfl ?_
        refine v_ixor hG dX6_court_71 (q := 72) rfl ?_
        refine v_iand hG dX6_court_72 (q := 73) rfl ?_
        obtain ⟨r_8, hr_8, h⟩ := bnd h
        refine v_cS1I hG csJ6_bitCount_0f7a4 ml_RX6_191 rfl (w_J6_bitCount_0f7a4 hr_8) (Nat.le_of_ble_eq_true rfl) dX6_court_73 (q := 76) rfl ?_
        refine v_bipush hG cb_100 dX6_court_76 (q := 78) rfl ?_
        refine v_iload_4 hG dX6_court_78 (q := 80) rfl ?_
        refine v_iload_3 hG dX6_court_80 (q := 81) rfl ?_
        refine v_iconst hG ci_m1 dX6_court_81 (q := 82) rfl ?_
        refine v_ixor hG dX6_court_82 (q := 83) rfl ?_
        refine v_iand hG dX6_court_83 (q := 84) rfl ?_
        obtain ⟨r_9, hr_9, h⟩ := bnd h
        refine v_cS1I hG csJ6_bitCount_0f7a4 ml_RX6_191 rfl (w_J6_bitCount_0f7a4 hr_9) (Nat.le_of_ble_eq_true rfl) dX6_court_84 (q := 87) rfl ?_
        refine v_imul hG dX6_court_87 (q := 88) rfl ?_
        refine v_iadd hG dX6_court_88 (q := 89) rfl ?_
        exact v_iret hG hR rfl rfl (sp2t h) dX6_court_89
      · replace h := ifp hc h
        refine v_aload_0 hG dX6_court_35 (q := 36) rfl ?_
        refine v_ldc hG kc_RX6_59 dX6_court_36 (q := 38) rfl ?_
        obtain ⟨r_10, hr_10, h⟩ := bnd h
        refine v_cV1I hG cvX6_found ml_RX6_60 rfl kk_0 (w_X6_found hr_10) (Nat.le_of_ble_eq_true rfl) dX6_court_38 (q := 41) rfl ?_
        exact v_iret hG hR rfl rfl (sp2t h) dX6_court_41
theorem cvX6_court : CVo mX6_court 3 6 := ⟨moX6_court, mvX6_court, by decide, _, _, rfl⟩
theorem w_X6_witness_b51 {E : EB} {G : GB} (hG : Gd E mX6_witness G) {M : Mem} {R : Int32 × Mem} (hR : Rt E mX6_witness (PI R.1 R.2) G) {k30 : Int32 → Int32 → Int32 → Int32 → Mem → Option (Int32 × Mem)} {k51 : Int32 → Int32 → Int32 → Int32 → Int32 → Int32 → Mem → Option (Int32 × Mem)} (hk30 : ∀ (x1 : Int32) (x2 : Int32) (x3 : Int32) (x4 : Int32) (M : Mem), k30 x1 x2 x3 x4 M = some R → V E G 30 [some (.ref 0), some (.int x1), some (.int x2), some (.int x3), some (.int x4), none, none] [] M) (hk51 : ∀ (x1 : Int32) (x2 : Int32) (x3 : Int32) (x4 : Int32) (x5 : Int32) (x6 : Int32) (M : Mem), k51 x1 x2 x3 x4 x5 x6 M = some R → V E G 51 [some (.ref 0), some (.int x1), some (.int x2), some (.int x3), some (.int x4), some (.int x5), some (.int x6)] [] M) {x1 : Int32} {x2 : Int32} {x3 : Int32} {x4 : Int32} {x5 : Int32} {x6 : Int32} (h : f_X6_witness_b51 k30 k51 x1 x2 x3 x4 x5 x6 M = some R) : V E G 51 [some (.ref 0), some (.int x1), some (.int x2), some (.int x3), some (.int x4), some (.int x5), some (.int x6)] [] M := by
  unfold f_X6_witness_b51 at h
  refine v_iload_6 hG dX6_witness_51 (q := 53) rfl ?_
  refine v_sipush hG cs_4096 dX6_witness_53 (q := 56) rfl ?_
  refine v_icmp_ge hG dX6_witness_56 (tgt := 98) rfl (q := 59) rfl (fun hc => ?_) (fun hc => ?_)
  · replace h := ifp hc h
    refine v_iload_5 hG dX6_witness_98 (q := 100) rfl ?_
    refine v_iload_3 hG dX6_witness_100 (q := 101) rfl ?_
    refine v_icmp_ge hG dX6_witness_101 (tgt := 110) rfl (q := 104) rfl (fun hc => ?_) (fun hc => ?_)
    · replace h := ifp hc h
      refine v_iinc_4 hG rfl dX6_witness_110 (congrArg _ ci_1) (q := 113) rfl ?_
      refine v_goto hG dX6_witness_113 (tgt := 30) rfl ?_
      refine v_drop (n := 5) (L' := [some (.ref 0), some (.int x1), some (.int x2), some (.int x3), some (.int (x4 + (1 : Int32))), none, some (.int x6)]) rfl ?_
      refine v_drop (n := 6) (L' := [some (.ref 0), some (.int x1), some (.int x2), some (.int x3), some (.int (x4 + (1 : Int32))), none, none]) rfl ?_
      exact hk30 _ _ _ _ _ h
    · replace h := ifn hc h
      refine v_iload_5 hG dX6_witness_104 (q := 106) rfl ?_
      refine v_istore_3 hG rfl dX6_witness_106 (q := 107) rfl ?_
      refine v_iload_4 hG dX6_witness_107 (q := 109) rfl ?_
      refine v_istore_2 hG rfl dX6_witness_109 (q := 110) rfl ?_
      refine v_iinc_4 hG rfl dX6_witness_110 (congrArg _ ci_1) (q := 113) rfl ?_
      refine v_goto hG dX6_witness_113 (tgt := 30) rfl ?_
      refine v_drop (n := 5) (L' := [some (.ref 0), some (.int x1), some (.int x4), some (.int x5), some (.int (x4 + (1 : Int32))), none, some (.int x6)]) rfl ?_
      refine v_drop (n := 6) (L' := [some (.ref 0), some (.int x1), some (.int x4), some (.int x5), some (.int (x4 + (1 : Int32))), none, none]) rfl ?_
      exact hk30 _ _ _ _ _ h
  · replace h := ifn hc h
    refine v_aload_0 hG dX6_witness_59 (q := 60) rfl ?_
    refine gt_RX6_12 hG rfl kk_0 dX6_witness_60 (q := 63) rfl ?_
    refine gt_RX6_64 hG rfl kk_1 dX6_witness_63 (q := 66) rfl ?_
    refine v_iload_4 hG dX6_witness_66 (q := 68) rfl ?_
    refine v_aload_0 hG dX6_witness_68 (q := 69) rfl ?_
    refine gt_RX6_12 hG rfl kk_0 dX6_witness_69 (q := 72) rfl ?_
    refine gt_RX6_64 hG rfl kk_1 dX6_witness_72 (q := 75) rfl ?_
    refine v_iload_1 hG dX6_witness_75 (q := 76) rfl ?_
    refine v_iload_6 hG dX6_witness_76 (q := 78) rfl ?_
    obtain ⟨r_3, hr_3, h⟩ := bnd h
    refine v_cV2I hG cvX5_make ml_RX6_116 rfl kk_2 (w_X5_make kk_2 hr_3) (Nat.le_of_ble_eq_true rfl) dX6_witness_78 (q := 81) rfl ?_
    obtain ⟨r_4, hr_4, h⟩ := bnd h
    refine v_cV2I hG cvX5_make ml_RX6_116 rfl kk_2 (w_X5_make kk_2 hr_4) (Nat.le_of_ble_eq_true rfl) dX6_witness_81 (q := 84) rfl ?_
    refine v_iload_6 hG dX6_witness_84 (q := 86) rfl ?_
    refine v_icmp_eq hG dX6_witness_86 (tgt := 92) rfl (q := 89) rfl (fun hc => ?_) (fun hc => ?_)
    · replace h := ifp hc h
      refine v_iinc_6 hG rfl dX6_witness_92 (congrArg _ ci_1) (q := 95) rfl ?_
      refine v_goto hG dX6_witness_95 (tgt := 51) rfl ?_
      exact hk51 _ _ _ _ _ _ _ h
    · replace h := ifn hc h
      refine v_iinc_5 hG rfl dX6_witness_89 (congrArg _ ci_1) (q := 92) rfl ?_
      refine v_iinc_6 hG rfl dX6_witness_92 (congrArg _ ci_1) (q := 95) rfl ?_
      refine v_goto hG dX6_witness_95 (tgt := 51) rfl ?_
      exact hk51 _ _ _ _ _ _ _ h
theorem w_X6_witness_l51 {E : EB} {G : GB} (hG : Gd E mX6_witness G) {R : Int32 × Mem} (hR : Rt E mX6_witness (PI R.1 R.2) G) {k30 : Int32 → Int32 → Int32 → Int32 → Mem → Option (Int32 × Mem)} (hk30 : ∀ (x1 : Int32) (x2 : Int32) (x3 : Int32) (x4 : Int32) (M : Mem), k30 x1 x2 x3 x4 M = some R → V E G 30 [some (.ref 0), some (.int x1), some (.int x2), some (.int x3), some (.int x4), none, none] [] M) : ∀ (n : Nat) (x1 : Int32) (x2 : Int32) (x3 : Int32) (x4 : Int32) (x5 : Int32) (x6 : Int32) (M : Mem), f_X6_witness_l51 k30 n x1 x2 x3 x4 x5 x6 M = some R → V E G 51 [some (.ref 0), some (.int x1), some (.int x2), some (.int x3), some (.int x4), some (.int x5), some (.int x6)] [] M := by
  intro n
  induction n with
  | zero => intro x1 x2 x3 x4 x5 x6 M h; cases h
  | succ n ih => intro x1 x2 x3 x4 x5 x6 M h; exact w_X6_witness_b51 hG hR hk30 ih h
theorem w_X6_witness_b30 {E : EB} {G : GB} (hG : Gd E mX6_witness G) {M : Mem} {R : Int32 × Mem} (hR : Rt E mX6_witness (PI R.1 R.2) G) {k30 : Int32 → Int32 → Int32 → Int32 → Mem → Option (Int32 × Mem)} (hk30 : ∀ (x1 : Int32) (x2 : Int32) (x3 : Int32) (x4 : Int32) (M : Mem), k30 x1 x2 x3 x4 M = some R → V E G 30 [some (.ref 0), some (.int x1), some (.int x2), some (.int x3), some (.int x4), none, none] [] M) {x1 : Int32} {x2 : Int32} {x3 : Int32} {x4 : Int32} (h : f_X6_witness_b30 k30 x1 x2 x3 x4 M = some R) : V E G 30 [some (.ref 0), some (.int x1), some (.int x2), some (.int x3), some (.int x4), none, none] [] M := by
  unfold f_X6_witness_b30 at h
  refine v_iload_4 hG dX6_witness_30 (q := 32) rfl ?_
  refine v_aload_0 hG dX6_witness_32 (q := 33) rfl ?_
  refine gt_RX6_12 hG rfl kk_0 dX6_witness_33 (q := 36) rfl ?_
  refine gt_RX6_64 hG rfl kk_1 dX6_witness_36 (q := 39) rfl ?_
  refine gt_RX6_196 hG rfl kk_2 dX6_witness_39 (q := 42) rfl ?_
  refine v_icmp_ge hG dX6_witness_42 (tgt := 116) rfl (q := 45) rfl (fun hc => ?_) (fun hc => ?_)
  · replace h := ifp hc h
    refine v_iload_2 hG dX6_witness_116 (q := 117) rfl ?_
    exact v_iret hG hR rfl rfl (sp2t h) dX6_witness_117
  · replace h := ifn hc h
    refine v_iconst hG ci_0 dX6_witness_45 (q := 46) rfl ?_
    refine v_istore_5 hG rfl dX6_witness_46 (q := 48) rfl ?_
    refine v_iconst hG ci_0 dX6_witness_48 (q := 49) rfl ?_
    refine v_istore_6 hG rfl dX6_witness_49 (q := 51) rfl ?_
    exact w_X6_witness_l51 hG hR hk30 FU _ _ _ _ _ _ _ h
theorem w_X6_witness_l30 {E : EB} {G : GB} (hG : Gd E mX6_witness G) {R : Int32 × Mem} (hR : Rt E mX6_witness (PI R.1 R.2) G) : ∀ (n : Nat) (x1 : Int32) (x2 : Int32) (x3 : Int32) (x4 : Int32) (M : Mem), f_X6_witness_l30 n x1 x2 x3 x4 M = some R → V E G 30 [some (.ref 0), some (.int x1), some (.int x2), some (.int x3), some (.int x4), none, none] [] M := by
  intro n
  induction n with
  | zero => intro x1 x2 x3 x4 M h; cases h
  | succ n ih => intro x1 x2 x3 x4 M h; exact w_X6_witness_b30 hG hR ih h
theorem w_X6_witness {E : EB} {x1 : Int32} {M : Mem} {R : Int32 × Mem} (h : f_X6_witness x1 M = some R) : Mt E mX6_witness [.ref 0, .int x1] M (PI R.1 R.2) := by
  refine mt_of (L0 := [some (.ref 0), some (.int x1), none, none, none, none, none]) (by decide) rfl rfl (fun G hG hR => ?_)
  unfold f_X6_witness at h
  refine v_aload_0 hG dX6_witness_0 (q := 1) rfl ?_
  refine gt_RX6_12 hG rfl kk_0 dX6_witness_1 (q := 4) rfl ?_
  refine gt_RX6_64 hG rfl kk_1 dX6_witness_4 (q := 7) rfl ?_
  refine v_iload_1 hG dX6_witness_7 (q := 8) rfl ?_
  obtain ⟨r_1, hr_1, h⟩ := bnd h
  refine v_cV1I hG cvX5_has ml_RX6_78 rfl kk_2 (w_X5_has kk_2 hr_1) (Nat.le_of_ble_eq_true rfl) dX6_witness_8 (q := 11) rfl ?_
  refine v_if_ne hG dX6_witness_11 (tgt := 21) rfl (q := 14) rfl (fun hc => ?_) (fun hc => ?_)
  · replace h := ifn hc h
    refine v_iconst hG ci_0 dX6_witness_21 (q := 22) rfl ?_
    refine v_istore_2 hG rfl dX6_witness_22 (q := 23) rfl ?_
    refine v_sipush hG cs_4097 dX6_witness_23 (q := 26) rfl ?_
    refine v_istore_3 hG rfl dX6_witness_26 (q := 27) rfl ?_
    refine v_iconst hG ci_0 dX6_witness_27 (q := 28) rfl ?_
    refine v_istore_4 hG rfl dX6_witness_28 (q := 30) rfl ?_
    exact w_X6_witness_l30 hG hR FU _ _ _ _ _ h
  · replace h := ifp hc h
    refine v_aload_0 hG dX6_witness_14 (q := 15) rfl ?_
    refine v_ldc hG kc_RX6_59 dX6_witness_15 (q := 17) rfl ?_
    obtain ⟨r_2, hr_2, h⟩ := bnd h
    refine v_cV1I hG cvX6_found ml_RX6_60 rfl kk_0 (w_X6_found hr_2) (Nat.le_of_ble_eq_true rfl) dX6_witness_17 (q := 20) rfl ?_
    exact v_iret hG hR rfl rfl (sp2t h) dX6_witness_20
theorem cvX6_witness : CVo mX6_witness 1 6 := ⟨moX6_witness, mvX6_witness, by decide, _, _, rfl⟩
theorem w_X6_price_b58 {E : EB} {G : GB} (hG : Gd E mX6_price G) {M : Mem} {R : Int32 × Mem} (hR : Rt E mX6_price (PI R.1 R.2) G) {k58 : Int32 → Int32 → Int32 → Int32 → Int32 → Mem → Option (Int32 × Mem)} (hk58 : ∀ (x1 : Int32) (x2 : Int32) (x3 : Int32) (x4 : Int32) (x5 : Int32) (M : Mem), k58 x1 x2 x3 x4 x5 M = some R → V E G 58 [some (.ref 0), some (.int x1), some (.int x2), some (.int x3), some (.int x4), some (.int x5)] [] M) {x1 : Int32} {x2 : Int32} {x3 : Int32} {x4 : Int32} {x5 : Int32} (h : f_X6_price_b58 k58 x1 x2 x3 x4 x5 M = some R) : V E G 58 [some (.ref 0), some (.int x1), some (.int x2), some (.int x3), some (.int x4), some (.int x5)] [] M := by
  unfold f_X6_price_b58 at h
  refine v_iload_5 hG dX6_price_58 (q := 60) rfl ?_
  refine v_bipush hG cb_99 dX6_price_60 (q := 62) rfl ?_
  refine v_icmp_gt hG dX6_price_62 (tgt := 138) rfl (q := 65) rfl (fun hc => ?_) (fun hc => ?_)
  · replace h := ifp hc h
    refine v_iload_3 hG dX6_price_138 (q := 139) rfl ?_
    exact v_iret hG hR rfl rfl (sp2t h) dX6_price_139
  · replace h := ifn hc h
    refine v_aload_0 hG dX6_price_65 (q := 66) rfl ?_
    refine gt_RX6_16 hG rfl kk_0 dX6_price_66 (q := 69) rfl ?_
    refine v_aload_0 hG dX6_price_69 (q := 70) rfl ?_
    refine gt_RX6_12 hG rfl kk_0 dX6_price_70 (q := 73) rfl ?_
    obtain ⟨r_7, hr_7, h⟩ := bnd h
    refine v_cV1V hG cvX4_become ml_RX6_177 rfl kk_17 (w_X4_become kk_17 kk_1 hr_7) (Nat.le_of_ble_eq_true rfl) dX6_price_73 (q := 76) rfl ?_
    refine v_aload_0 hG dX6_price_76 (q := 77) rfl ?_
    refine gt_RX6_16 hG rfl kk_0 dX6_price_77 (q := 80) rfl ?_
    refine gt_RX6_64 hG rfl kk_17 dX6_price_80 (q := 83) rfl ?_
    refine gt_RX6_215 hG rfl kk_18 dX6_price_83 (q := 86) rfl ?_
    refine v_iload_1 hG dX6_price_86 (q := 87) rfl ?_
    refine v_iload_5 hG dX6_price_87 (q := 89) rfl ?_
    obtain ⟨c_8, h⟩ := ck_some h
    refine v_iast hG kk_23 rfl c_8 dX6_price_89 (q := 90) rfl ?_
    refine v_topM (fun M_9 hy => ?_)
    replace h := letv_at hy h
    clear hy
    refine v_aload_0 hG dX6_price_90 (q := 91) rfl ?_
    refine gt_RX6_16 hG rfl kk_0 dX6_price_91 (q := 94) rfl ?_
    refine v_iload_2 hG dX6_price_94 (q := 95) rfl ?_
    obtain ⟨r_10, hr_10, h⟩ := bnd h
    refine v_cV1V hG cvX4_passYears ml_RX6_138 rfl kk_17 (w_X4_passYears kk_17 hr_10) (Nat.le_of_ble_eq_true rfl) dX6_price_95 (q := 98) rfl ?_
    refine v_aload_0 hG dX6_price_98 (q := 99) rfl ?_
    refine gt_RX6_16 hG rfl kk_0 dX6_price_99 (q := 102) rfl ?_
    refine gt_RX6_64 hG rfl kk_17 dX6_price_102 (q := 105) rfl ?_
    refine gt_RX6_218 hG rfl kk_18 dX6_price_105 (q := 108) rfl ?_
    refine v_iload_1 hG dX6_price_108 (q := 109) rfl ?_
    obtain ⟨c_11, h⟩ := ck_some h
    refine v_iald hG kk_24 rfl c_11 dX6_price_109 (q := 110) rfl ?_
    refine v_iload_4 hG dX6_price_110 (q := 112) rfl ?_
    refine v_icmp_le hG dX6_price_112 (tgt := 132) rfl (q := 115) rfl (fun hc => ?_) (fun hc => ?_)
    · replace h := ifp hc h
      refine v_iinc_5 hG rfl dX6_price_132 (congrArg _ ci_1) (q := 135) rfl ?_
      refine v_goto hG dX6_price_135 (tgt := 58) rfl ?_
      exact hk58 _ _ _ _ _ _ h
    · replace h := ifn hc h
      refine v_aload_0 hG dX6_price_115 (q := 116) rfl ?_
      refine gt_RX6_16 hG rfl kk_0 dX6_price_116 (q := 119) rfl ?_
      refine gt_RX6_64 hG rfl kk_17 dX6_price_119 (q := 122) rfl ?_
      refine gt_RX6_218 hG rfl kk_18 dX6_price_122 (q := 125) rfl ?_
      refine v_iload_1 hG dX6_price_125 (q := 126) rfl ?_
      obtain ⟨c_12, h⟩ := ck_some h
      refine v_iald hG kk_24 rfl c_12 dX6_price_126 (q := 127) rfl ?_
      refine v_topi (fun x4_13 hy => ?_)
      replace h := letv_at hy h
      clear hy
      refine v_istore_4 hG rfl dX6_price_127 (q := 129) rfl ?_
      refine v_iload_5 hG dX6_price_129 (q := 131) rfl ?_
      refine v_istore_3 hG rfl dX6_price_131 (q := 132) rfl ?_
      refine v_iinc_5 hG rfl dX6_price_132 (congrArg _ ci_1) (q := 135) rfl ?_
      refine v_goto hG dX6_price_135 (tgt := 58) rfl ?_
      exact hk58 _ _ _ _ _ _ h
theorem w_X6_price_l58 {E : EB} {G : GB} (hG : Gd E mX6_price G) {R : Int32 × Mem} (hR : Rt E mX6_price (PI R.1 R.2) G) : ∀ (n : Nat) (x1 : Int32) (x2 : Int32) (x3 : Int32) (x4 : Int32) (x5 : Int32) (M : Mem), f_X6_price_l58 n x1 x2 x3 x4 x5 M = some R → V E G 58 [some (.ref 0), some (.int x1), some (.int x2), some (.int x3), some (.int x4), some (.int x5)] [] M := by
  intro n
  induction n with
  | zero => intro x1 x2 x3 x4 x5 M h; cases h
  | succ n ih => intro x1 x2 x3 x4 x5 M h; exact w_X6_price_b58 hG hR ih h
theorem w_X6_price {E : EB} {x1 : Int32} {x2 : Int32} {M : Mem} {R : Int32 × Mem} (h : f_X6_price x1 x2 M = some R) : Mt E mX6_price [.ref 0, .int x1, .int x2] M (PI R.1 R.2) := by
  refine mt_of (L0 := [some (.ref 0), some (.int x1), some (.int x2), none, none, none]) (by decide) rfl rfl (fun G hG hR => ?_)
  unfold f_X6_price at h
  refine v_aload_0 hG dX6_price_0 (q := 1) rfl ?_
  refine gt_RX6_12 hG rfl kk_0 dX6_price_1 (q := 4) rfl ?_
  refine gt_RX6_64 hG rfl kk_1 dX6_price_4 (q := 7) rfl ?_
  refine v_iload_1 hG dX6_price_7 (q := 8) rfl ?_
  obtain ⟨r_1, hr_1, h⟩ := bnd h
  refine v_cV1I hG cvX5_has ml_RX6_78 rfl kk_2 (w_X5_has kk_2 hr_1) (Nat.le_of_ble_eq_true rfl) dX6_price_8 (q := 11) rfl ?_
  refine v_if_eq hG dX6_price_11 (tgt := 25) rfl (q := 14) rfl (fun hc => ?_) (fun hc => ?_)
  · replace h := ifp hc h
    refine v_aload_0 hG dX6_price_25 (q := 26) rfl ?_
    refine v_ldc hG kc_RX6_59 dX6_price_26 (q := 28) rfl ?_
    obtain ⟨r_2, hr_2, h⟩ := bnd h
    refine v_cV1I hG cvX6_found ml_RX6_60 rfl kk_0 (w_X6_found hr_2) (Nat.le_of_ble_eq_true rfl) dX6_price_28 (q := 31) rfl ?_
    exact v_iret hG hR rfl rfl (sp2t h) dX6_price_31
  · replace h := ifn hc h
    refine v_iload_2 hG dX6_price_14 (q := 15) rfl ?_
    refine v_iconst hG ci_1 dX6_price_15 (q := 16) rfl ?_
    refine v_icmp_lt hG dX6_price_16 (tgt := 25) rfl (q := 19) rfl (fun hc => ?_) (fun hc => ?_)
    · replace h := ifp hc h
      refine v_aload_0 hG dX6_price_25 (q := 26) rfl ?_
      refine v_ldc hG kc_RX6_59 dX6_price_26 (q := 28) rfl ?_
      obtain ⟨r_3, hr_3, h⟩ := bnd h
      refine v_cV1I hG cvX6_found ml_RX6_60 rfl kk_0 (w_X6_found hr_3) (Nat.le_of_ble_eq_true rfl) dX6_price_28 (q := 31) rfl ?_
      exact v_iret hG hR rfl rfl (sp2t h) dX6_price_31
    · replace h := ifn hc h
      refine v_iload_2 hG dX6_price_19 (q := 20) rfl ?_
      refine v_bipush hG cb_20 dX6_price_20 (q := 22) rfl ?_
      refine v_icmp_le hG dX6_price_22 (tgt := 32) rfl (q := 25) rfl (fun hc => ?_) (fun hc => ?_)
      · replace h := ifp hc h
        refine v_aload_0 hG dX6_price_32 (q := 33) rfl ?_
        refine gt_RX6_12 hG rfl kk_0 dX6_price_33 (q := 36) rfl ?_
        refine v_iload_2 hG dX6_price_36 (q := 37) rfl ?_
        obtain ⟨r_4, hr_4, h⟩ := bnd h
        refine v_cV1I hG cvX4_hasYears ml_RX6_131 rfl kk_1 (w_X4_hasYears kk_1 hr_4) (Nat.le_of_ble_eq_true rfl) dX6_price_37 (q := 40) rfl ?_
        refine v_if_ne hG dX6_price_40 (tgt := 50) rfl (q := 43) rfl (fun hc => ?_) (fun hc => ?_)
        · replace h := ifn hc h
          refine v_iconst hG ci_0 dX6_price_50 (q := 51) rfl ?_
          refine v_istore_3 hG rfl dX6_price_51 (q := 52) rfl ?_
          refine v_iconst hG ci_m1 dX6_price_52 (q := 53) rfl ?_
          refine v_istore_4 hG rfl dX6_price_53 (q := 55) rfl ?_
          refine v_iconst hG ci_0 dX6_price_55 (q := 56) rfl ?_
          refine v_istore_5 hG rfl dX6_price_56 (q := 58) rfl ?_
          exact w_X6_price_l58 hG hR FU _ _ _ _ _ _ h
        · replace h := ifp hc h
          refine v_aload_0 hG dX6_price_43 (q := 44) rfl ?_
          refine v_ldc hG kc_RX6_130 dX6_price_44 (q := 46) rfl ?_
          obtain ⟨r_5, hr_5, h⟩ := bnd h
          refine v_cV1I hG cvX6_found ml_RX6_60 rfl kk_0 (w_X6_found hr_5) (Nat.le_of_ble_eq_true rfl) dX6_price_46 (q := 49) rfl ?_
          exact v_iret hG hR rfl rfl (sp2t h) dX6_price_49
      · replace h := ifn hc h
        refine v_aload_0 hG dX6_price_25 (q := 26) rfl ?_
        refine v_ldc hG kc_RX6_59 dX6_price_26 (q := 28) rfl ?_
        obtain ⟨r_6, hr_6, h⟩ := bnd h
        refine v_cV1I hG cvX6_found ml_RX6_60 rfl kk_0 (w_X6_found hr_6) (Nat.le_of_ble_eq_true rfl) dX6_price_28 (q := 31) rfl ?_
        exact v_iret hG hR rfl rfl (sp2t h) dX6_price_31
theorem cvX6_price : CVo mX6_price 2 6 := ⟨moX6_price, mvX6_price, by decide, _, _, rfl⟩
theorem w_X6_school_b76 {E : EB} {G : GB} (hG : Gd E mX6_school G) {M : Mem} {R : Int32 × Mem} (hR : Rt E mX6_school (PI R.1 R.2) G) {k76 : Int32 → Int32 → Int32 → Mem → Option (Int32 × Mem)} (hk76 : ∀ (x1 : Int32) (x2 : Int32) (x3 : Int32) (M : Mem), k76 x1 x2 x3 M = some R → V E G 76 [some (.ref 0), some (.int x1), some (.int x2), some (.int x3)] [] M) {x1 : Int32} {x2 : Int32} {x3 : Int32} (h : f_X6_school_b76 k76 x1 x2 x3 M = some R) : V E G 76 [some (.ref 0), some (.int x1), some (.int x2), some (.int x3)] [] M := by
  unfold f_X6_school_b76 at h
  refine v_iload_3 hG dX6_school_76 (q := 77) rfl ?_
  refine v_aload_0 hG dX6_school_77 (q := 78) rfl ?_
  refine gt_RX6_16 hG rfl kk_0 dX6_school_78 (q := 81) rfl ?_
  refine gt_RX6_85 hG rfl kk_17 dX6_school_81 (q := 84) rfl ?_
  refine gt_RX6_174 hG rfl kk_25 dX6_school_84 (q := 87) rfl ?_
  refine v_icmp_ge hG dX6_school_87 (tgt := 110) rfl (q := 90) rfl (fun hc => ?_) (fun hc => ?_)
  · replace h := ifp hc h
    refine v_aload_0 hG dX6_school_110 (q := 111) rfl ?_
    refine gt_RX6_16 hG rfl kk_0 dX6_school_111 (q := 114) rfl ?_
    refine v_iconst hG ci_1 dX6_school_114 (q := 115) rfl ?_
    obtain ⟨r_9, hr_9, h⟩ := bnd h
    refine v_cV1V hG cvX4_passYears ml_RX6_138 rfl kk_17 (w_X4_passYears kk_17 hr_9) (Nat.le_of_ble_eq_true rfl) dX6_school_115 (q := 118) rfl ?_
    refine v_iload_2 hG dX6_school_118 (q := 119) rfl ?_
    refine v_aload_0 hG dX6_school_119 (q := 120) rfl ?_
    refine gt_RX6_16 hG rfl kk_0 dX6_school_120 (q := 123) rfl ?_
    refine gt_RX6_221 hG rfl kk_17 dX6_school_123 (q := 126) rfl ?_
    refine v_isub hG dX6_school_126 (q := 127) rfl ?_
    exact v_iret hG hR rfl rfl (sp2t h) dX6_school_127
  · replace h := ifn hc h
    refine v_aload_0 hG dX6_school_90 (q := 91) rfl ?_
    refine gt_RX6_16 hG rfl kk_0 dX6_school_91 (q := 94) rfl ?_
    refine gt_RX6_85 hG rfl kk_17 dX6_school_94 (q := 97) rfl ?_
    refine gt_RX6_224 hG rfl kk_25 dX6_school_97 (q := 100) rfl ?_
    refine v_iload_3 hG dX6_school_100 (q := 101) rfl ?_
    refine v_iconst hG ci_1 dX6_school_101 (q := 102) rfl ?_
    obtain ⟨c_10, h⟩ := ck_some h
    refine v_iast hG kk_30 rfl c_10 dX6_school_102 (q := 103) rfl ?_
    refine v_topM (fun M_11 hy => ?_)
    replace h := letv_at hy h
    clear hy
    refine v_iload_3 hG dX6_school_103 (q := 104) rfl ?_
    refine v_iload_1 hG dX6_school_104 (q := 105) rfl ?_
    refine v_iadd hG dX6_school_105 (q := 106) rfl ?_
    refine v_topi (fun x3_12 hy => ?_)
    replace h := letv_at hy h
    clear hy
    refine v_istore_3 hG rfl dX6_school_106 (q := 107) rfl ?_
    refine v_goto hG dX6_school_107 (tgt := 76) rfl ?_
    exact hk76 _ _ _ _ h
theorem w_X6_school_l76 {E : EB} {G : GB} (hG : Gd E mX6_school G) {R : Int32 × Mem} (hR : Rt E mX6_school (PI R.1 R.2) G) : ∀ (n : Nat) (x1 : Int32) (x2 : Int32) (x3 : Int32) (M : Mem), f_X6_school_l76 n x1 x2 x3 M = some R → V E G 76 [some (.ref 0), some (.int x1), some (.int x2), some (.int x3)] [] M := by
  intro n
  induction n with
  | zero => intro x1 x2 x3 M h; cases h
  | succ n ih => intro x1 x2 x3 M h; exact w_X6_school_b76 hG hR ih h
theorem w_X6_school {E : EB} {x1 : Int32} {M : Mem} {R : Int32 × Mem} (h : f_X6_school x1 M = some R) : Mt E mX6_school [.ref 0, .int x1] M (PI R.1 R.2) := by
  refine mt_of (L0 := [some (.ref 0), some (.int x1), none, none]) (by decide) rfl rfl (fun G hG hR => ?_)
  unfold f_X6_school at h
  refine v_iload_1 hG dX6_school_0 (q := 1) rfl ?_
  refine v_iconst hG ci_2 dX6_school_1 (q := 2) rfl ?_
  refine v_icmp_lt hG dX6_school_2 (tgt := 11) rfl (q := 5) rfl (fun hc => ?_) (fun hc => ?_)
  · replace h := ifp hc h
    refine v_aload_0 hG dX6_school_11 (q := 12) rfl ?_
    refine v_ldc hG kc_RX6_59 dX6_school_12 (q := 14) rfl ?_
    obtain ⟨r_1, hr_1, h⟩ := bnd h
    refine v_cV1I hG cvX6_found ml_RX6_60 rfl kk_0 (w_X6_found hr_1) (Nat.le_of_ble_eq_true rfl) dX6_school_14 (q := 17) rfl ?_
    exact v_iret hG hR rfl rfl (sp2t h) dX6_school_17
  · replace h := ifn hc h
    refine v_iload_1 hG dX6_school_5 (q := 6) rfl ?_
    refine v_bipush hG cb_8 dX6_school_6 (q := 8) rfl ?_
    refine v_icmp_le hG dX6_school_8 (tgt := 18) rfl (q := 11) rfl (fun hc => ?_) (fun hc => ?_)
    · replace h := ifp hc h
      refine v_aload_0 hG dX6_school_18 (q := 19) rfl ?_
      refine gt_RX6_12 hG rfl kk_0 dX6_school_19 (q := 22) rfl ?_
      refine v_iconst hG ci_1 dX6_school_22 (q := 23) rfl ?_
      obtain ⟨r_2, hr_2, h⟩ := bnd h
      refine v_cV1I hG cvX4_hasYears ml_RX6_131 rfl kk_1 (w_X4_hasYears kk_1 hr_2) (Nat.le_of_ble_eq_true rfl) dX6_school_23 (q := 26) rfl ?_
      refine v_if_ne hG dX6_school_26 (tgt := 36) rfl (q := 29) rfl (fun hc => ?_) (fun hc => ?_)
      · replace h := ifn hc h
        refine v_aload_0 hG dX6_school_36 (q := 37) rfl ?_
        refine gt_RX6_16 hG rfl kk_0 dX6_school_37 (q := 40) rfl ?_
        refine v_aload_0 hG dX6_school_40 (q := 41) rfl ?_
        refine gt_RX6_12 hG rfl kk_0 dX6_school_41 (q := 44) rfl ?_
        obtain ⟨r_3, hr_3, h⟩ := bnd h
        refine v_cV1V hG cvX4_become ml_RX6_177 rfl kk_17 (w_X4_become kk_17 kk_1 hr_3) (Nat.le_of_ble_eq_true rfl) dX6_school_44 (q := 47) rfl ?_
        refine v_aload_0 hG dX6_school_47 (q := 48) rfl ?_
        refine gt_RX6_16 hG rfl kk_0 dX6_school_48 (q := 51) rfl ?_
        refine v_iconst hG ci_1 dX6_school_51 (q := 52) rfl ?_
        obtain ⟨r_4, hr_4, h⟩ := bnd h
        refine v_cV1V hG cvX4_passYears ml_RX6_138 rfl kk_17 (w_X4_passYears kk_17 hr_4) (Nat.le_of_ble_eq_true rfl) dX6_school_52 (q := 55) rfl ?_
        refine v_aload_0 hG dX6_school_55 (q := 56) rfl ?_
        refine gt_RX6_16 hG rfl kk_0 dX6_school_56 (q := 59) rfl ?_
        refine gt_RX6_221 hG rfl kk_17 dX6_school_59 (q := 62) rfl ?_
        refine v_topi (fun x2_5 hy => ?_)
        replace h := letv_at hy h
        clear hy
        refine v_istore_2 hG rfl dX6_school_62 (q := 63) rfl ?_
        refine v_aload_0 hG dX6_school_63 (q := 64) rfl ?_
        refine gt_RX6_16 hG rfl kk_0 dX6_school_64 (q := 67) rfl ?_
        refine v_aload_0 hG dX6_school_67 (q := 68) rfl ?_
        refine gt_RX6_12 hG rfl kk_0 dX6_school_68 (q := 71) rfl ?_
        obtain ⟨r_6, hr_6, h⟩ := bnd h
        refine v_cV1V hG cvX4_become ml_RX6_177 rfl kk_17 (w_X4_become kk_17 kk_1 hr_6) (Nat.le_of_ble_eq_true rfl) dX6_school_71 (q := 74) rfl ?_
        refine v_iconst hG ci_0 dX6_school_74 (q := 75) rfl ?_
        refine v_istore_3 hG rfl dX6_school_75 (q := 76) rfl ?_
        exact w_X6_school_l76 hG hR FU _ _ _ _ h
      · replace h := ifp hc h
        refine v_aload_0 hG dX6_school_29 (q := 30) rfl ?_
        refine v_ldc hG kc_RX6_130 dX6_school_30 (q := 32) rfl ?_
        obtain ⟨r_7, hr_7, h⟩ := bnd h
        refine v_cV1I hG cvX6_found ml_RX6_60 rfl kk_0 (w_X6_found hr_7) (Nat.le_of_ble_eq_true rfl) dX6_school_32 (q := 35) rfl ?_
        exact v_iret hG hR rfl rfl (sp2t h) dX6_school_35
    · replace h := ifn hc h
      refine v_aload_0 hG dX6_school_11 (q := 12) rfl ?_
      refine v_ldc hG kc_RX6_59 dX6_school_12 (q := 14) rfl ?_
      obtain ⟨r_8, hr_8, h⟩ := bnd h
      refine v_cV1I hG cvX6_found ml_RX6_60 rfl kk_0 (w_X6_found hr_8) (Nat.le_of_ble_eq_true rfl) dX6_school_14 (q := 17) rfl ?_
      exact v_iret hG hR rfl rfl (sp2t h) dX6_school_17
theorem cvX6_school : CVo mX6_school 1 6 := ⟨moX6_school, mvX6_school, by decide, _, _, rfl⟩
theorem w_X6_gossip_b43 {E : EB} {G : GB} (hG : Gd E mX6_gossip G) {M : Mem} {R : Int32 × Mem} (hR : Rt E mX6_gossip (PI R.1 R.2) G) {k43 : Int32 → Int32 → Int32 → Mem → Option (Int32 × Mem)} (hk43 : ∀ (x1 : Int32) (x2 : Int32) (x3 : Int32) (M : Mem), k43 x1 x2 x3 M = some R → V E G 43 [some (.ref 0), some (.int x1), some (.int x2), some (.int x3), none] [] M) {x1 : Int32} {x2 : Int32} {x3 : Int32} (h : f_X6_gossip_b43 k43 x1 x2 x3 M = some R) : V E G 43 [some (.ref 0), some (.int x1), some (.int x2), some (.int x3), none] [] M := by
  unfold f_X6_gossip_b43 at h
  refine v_iload_3 hG dX6_gossip_43 (q := 44) rfl ?_
  refine v_iload_1 hG dX6_gossip_44 (q := 45) rfl ?_
  refine v_icmp_ge hG dX6_gossip_45 (tgt := 93) rfl (q := 48) rfl (fun hc => ?_) (fun hc => ?_)
  · replace h := ifp hc h
    refine v_aload_0 hG dX6_gossip_93 (q := 94) rfl ?_
    refine gt_RX6_12 hG rfl kk_0 dX6_gossip_94 (q := 97) rfl ?_
    refine gt_RX6_85 hG rfl kk_1 dX6_gossip_97 (q := 100) rfl ?_
    refine v_aload_0 hG dX6_gossip_100 (q := 101) rfl ?_
    refine gt_RX6_12 hG rfl kk_0 dX6_gossip_101 (q := 104) rfl ?_
    refine gt_RX6_85 hG rfl kk_1 dX6_gossip_104 (q := 107) rfl ?_
    refine gt_RX6_156 hG rfl kk_9 dX6_gossip_107 (q := 110) rfl ?_
    obtain ⟨r_5, hr_5, h⟩ := bnd h
    refine v_cV1I hG cvX0_anyOf ml_RX6_152 rfl kk_9 (w_X0_anyOf kk_9 kk_11 hr_5) (Nat.le_of_ble_eq_true rfl) dX6_gossip_110 (q := 113) rfl ?_
    exact v_iret hG hR rfl rfl (sp2t h) dX6_gossip_113
  · replace h := ifn hc h
    refine v_aload_0 hG dX6_gossip_48 (q := 49) rfl ?_
    refine gt_RX6_12 hG rfl kk_0 dX6_gossip_49 (q := 52) rfl ?_
    obtain ⟨r_6, hr_6, h⟩ := bnd h
    refine v_cV0I hG cvX4_draw ml_RX6_227 rfl kk_1 (w_X4_draw kk_1 hr_6) (Nat.le_of_ble_eq_true rfl) dX6_gossip_52 (q := 55) rfl ?_
    refine v_iload_2 hG dX6_gossip_55 (q := 56) rfl ?_
    obtain ⟨c_7, h⟩ := ck_some h
    refine v_irem hG c_7 dX6_gossip_56 (q := 57) rfl ?_
    refine v_topi (fun x4_8 hy => ?_)
    replace h := letv_at hy h
    clear hy
    refine v_istore_4 hG rfl dX6_gossip_57 (q := 59) rfl ?_
    refine v_aload_0 hG dX6_gossip_59 (q := 60) rfl ?_
    refine gt_RX6_12 hG rfl kk_0 dX6_gossip_60 (q := 63) rfl ?_
    refine gt_RX6_85 hG rfl kk_1 dX6_gossip_63 (q := 66) rfl ?_
    refine gt_RX6_156 hG rfl kk_9 dX6_gossip_66 (q := 69) rfl ?_
    refine v_iload_4 hG dX6_gossip_69 (q := 71) rfl ?_
    refine v_dup2 hG rfl rfl dX6_gossip_71 (q := 72) rfl ?_
    obtain ⟨c_9, h⟩ := ck_some h
    refine v_iald hG kk_11 rfl c_9 dX6_gossip_72 (q := 73) rfl ?_
    refine v_iconst hG ci_1 dX6_gossip_73 (q := 74) rfl ?_
    refine v_aload_0 hG dX6_gossip_74 (q := 75) rfl ?_
    refine gt_RX6_12 hG rfl kk_0 dX6_gossip_75 (q := 78) rfl ?_
    obtain ⟨r_10, hr_10, h⟩ := bnd h
    refine v_cV0I hG cvX4_draw ml_RX6_227 rfl kk_1 (w_X4_draw kk_1 hr_10) (Nat.le_of_ble_eq_true rfl) dX6_gossip_78 (q := 81) rfl ?_
    refine v_bipush hG cb_12 dX6_gossip_81 (q := 83) rfl ?_
    refine v_irem hG (by decide) dX6_gossip_83 (q := 84) rfl ?_
    refine v_ishl hG dX6_gossip_84 (q := 85) rfl ?_
    refine v_ior hG dX6_gossip_85 (q := 86) rfl ?_
    obtain ⟨c_11, h⟩ := ck_some h
    refine v_iast hG kk_11 rfl c_11 dX6_gossip_86 (q := 87) rfl ?_
    refine v_topM (fun M_12 hy => ?_)
    replace h := letv_at hy h
    clear hy
    refine v_iinc_3 hG rfl dX6_gossip_87 (congrArg _ ci_1) (q := 90) rfl ?_
    refine v_goto hG dX6_gossip_90 (tgt := 43) rfl ?_
    refine v_drop (n := 4) (L' := [some (.ref 0), some (.int x1), some (.int x2), some (.int (x3 + (1 : Int32))), none]) rfl ?_
    exact hk43 _ _ _ _ h
theorem w_X6_gossip_l43 {E : EB} {G : GB} (hG : Gd E mX6_gossip G) {R : Int32 × Mem} (hR : Rt E mX6_gossip (PI R.1 R.2) G) : ∀ (n : Nat) (x1 : Int32) (x2 : Int32) (x3 : Int32) (M : Mem), f_X6_gossip_l43 n x1 x2 x3 M = some R → V E G 43 [some (.ref 0), some (.int x1), some (.int x2), some (.int x3), none] [] M := by
  intro n
  induction n with
  | zero => intro x1 x2 x3 M h; cases h
  | succ n ih => intro x1 x2 x3 M h; exact w_X6_gossip_b43 hG hR ih h
theorem w_X6_gossip {E : EB} {x1 : Int32} {M : Mem} {R : Int32 × Mem} (h : f_X6_gossip x1 M = some R) : Mt E mX6_gossip [.ref 0, .int x1] M (PI R.1 R.2) := by
  refine mt_of (L0 := [some (.ref 0), some (.int x1), none, none, none]) (by decide) rfl rfl (fun G hG hR => ?_)
  unfold f_X6_gossip at h
  refine v_iload_1 hG dX6_gossip_0 (q := 1) rfl ?_
  refine v_iconst hG ci_1 dX6_gossip_1 (q := 2) rfl ?_
  refine v_icmp_lt hG dX6_gossip_2 (tgt := 11) rfl (q := 5) rfl (fun hc => ?_) (fun hc => ?_)
  · replace h := ifp hc h
    refine v_aload_0 hG dX6_gossip_11 (q := 12) rfl ?_
    refine v_ldc hG kc_RX6_59 dX6_gossip_12 (q := 14) rfl ?_
    obtain ⟨r_1, hr_1, h⟩ := bnd h
    refine v_cV1I hG cvX6_found ml_RX6_60 rfl kk_0 (w_X6_found hr_1) (Nat.le_of_ble_eq_true rfl) dX6_gossip_14 (q := 17) rfl ?_
    exact v_iret hG hR rfl rfl (sp2t h) dX6_gossip_17
  · replace h := ifn hc h
    refine v_iload_1 hG dX6_gossip_5 (q := 6) rfl ?_
    refine v_bipush hG cb_12 dX6_gossip_6 (q := 8) rfl ?_
    refine v_icmp_le hG dX6_gossip_8 (tgt := 18) rfl (q := 11) rfl (fun hc => ?_) (fun hc => ?_)
    · replace h := ifp hc h
      refine v_aload_0 hG dX6_gossip_18 (q := 19) rfl ?_
      refine gt_RX6_12 hG rfl kk_0 dX6_gossip_19 (q := 22) rfl ?_
      refine gt_RX6_85 hG rfl kk_1 dX6_gossip_22 (q := 25) rfl ?_
      refine gt_RX6_174 hG rfl kk_9 dX6_gossip_25 (q := 28) rfl ?_
      refine v_topi (fun x2_2 hy => ?_)
      replace h := letv_at hy h
      clear hy
      refine v_istore_2 hG rfl dX6_gossip_28 (q := 29) rfl ?_
      refine v_iload_2 hG dX6_gossip_29 (q := 30) rfl ?_
      refine v_iconst hG ci_1 dX6_gossip_30 (q := 31) rfl ?_
      refine v_icmp_ge hG dX6_gossip_31 (tgt := 41) rfl (q := 34) rfl (fun hc => ?_) (fun hc => ?_)
      · replace h := ifp hc h
        refine v_iconst hG ci_0 dX6_gossip_41 (q := 42) rfl ?_
        refine v_istore_3 hG rfl dX6_gossip_42 (q := 43) rfl ?_
        exact w_X6_gossip_l43 hG hR FU _ _ _ _ h
      · replace h := ifn hc h
        refine v_aload_0 hG dX6_gossip_34 (q := 35) rfl ?_
        refine v_ldc hG kc_RX6_130 dX6_gossip_35 (q := 37) rfl ?_
        obtain ⟨r_3, hr_3, h⟩ := bnd h
        refine v_cV1I hG cvX6_found ml_RX6_60 rfl kk_0 (w_X6_found hr_3) (Nat.le_of_ble_eq_true rfl) dX6_gossip_37 (q := 40) rfl ?_
        exact v_iret hG hR rfl rfl (sp2t h) dX6_gossip_40
    · replace h := ifn hc h
      refine v_aload_0 hG dX6_gossip_11 (q := 12) rfl ?_
      refine v_ldc hG kc_RX6_59 dX6_gossip_12 (q := 14) rfl ?_
      obtain ⟨r_4, hr_4, h⟩ := bnd h
      refine v_cV1I hG cvX6_found ml_RX6_60 rfl kk_0 (w_X6_found hr_4) (Nat.le_of_ble_eq_true rfl) dX6_gossip_14 (q := 17) rfl ?_
      exact v_iret hG hR rfl rfl (sp2t h) dX6_gossip_17
theorem cvX6_gossip : CVo mX6_gossip 1 6 := ⟨moX6_gossip, mvX6_gossip, by decide, _, _, rfl⟩
theorem w_X6_seed {E : EB} {x1 : Int32} {M : Mem} {R : Int32 × Mem} (h : f_X6_seed x1 M = some R) : Mt E mX6_seed [.ref 0, .int x1] M (PI R.1 R.2) := by
  refine mt_of (L0 := [some (.ref 0), some (.int x1), none]) (by decide) rfl rfl (fun G hG hR => ?_)
  unfold f_X6_seed at h
  refine v_aload_0 hG dX6_seed_0 (q := 1) rfl ?_
  refine gt_RX6_12 hG rfl kk_0 dX6_seed_1 (q := 4) rfl ?_
  refine gt_RX6_230 hG rfl kk_1 dX6_seed_4 (q := 7) rfl ?_
  refine v_topi (fun x2_1 hy => ?_)
  replace h := letv_at hy h
  clear hy
  refine v_istore_2 hG rfl dX6_seed_7 (q := 8) rfl ?_
  refine v_aload_0 hG dX6_seed_8 (q := 9) rfl ?_
  refine gt_RX6_12 hG rfl kk_0 dX6_seed_9 (q := 12) rfl ?_
  refine v_iload_1 hG dX6_seed_12 (q := 13) rfl ?_
  refine pt_RX6_230 hG rfl kk_1 dX6_seed_13 (q := 16) rfl ?_
  refine v_topM (fun M_2 hy => ?_)
  replace h := letv_at hy h
  clear hy
  refine v_iload_2 hG dX6_seed_16 (q := 17) rfl ?_
  exact v_iret hG hR rfl rfl (sp2t h) dX6_seed_17
theorem cvX6_seed : CVo mX6_seed 1 6 := ⟨moX6_seed, mvX6_seed, by decide, _, _, rfl⟩
theorem w_X6_feed {E : EB} {x1 : Int32} {x2 : Int32} {M : Mem} {R : Int32 × Mem} (h : f_X6_feed x1 x2 M = some R) : Mt E mX6_feed [.ref 0, .int x1, .int x2] M (PI R.1 R.2) := by
  refine mt_of (L0 := [some (.ref 0), some (.int x1), some (.int x2)]) (by decide) rfl rfl (fun G hG hR => ?_)
  unfold f_X6_feed at h
  refine v_iload_2 hG dX6_feed_0 (q := 1) rfl ?_
  refine v_iconst hG ci_1 dX6_feed_1 (q := 2) rfl ?_
  refine v_icmp_lt hG dX6_feed_2 (tgt := 10) rfl (q := 5) rfl (fun hc => ?_) (fun hc => ?_)
  · replace h := ifp hc h
    refine v_aload_0 hG dX6_feed_10 (q := 11) rfl ?_
    refine v_ldc hG kc_RX6_59 dX6_feed_11 (q := 13) rfl ?_
    obtain ⟨r_1, hr_1, h⟩ := bnd h
    refine v_cV1I hG cvX6_found ml_RX6_60 rfl kk_0 (w_X6_found hr_1) (Nat.le_of_ble_eq_true rfl) dX6_feed_13 (q := 16) rfl ?_
    exact v_iret hG hR rfl rfl (sp2t h) dX6_feed_16
  · replace h := ifn hc h
    refine v_iload_2 hG dX6_feed_5 (q := 6) rfl ?_
    refine v_iconst hG ci_4 dX6_feed_6 (q := 7) rfl ?_
    refine v_icmp_le hG dX6_feed_7 (tgt := 17) rfl (q := 10) rfl (fun hc => ?_) (fun hc => ?_)
    · replace h := ifp hc h
      refine v_aload_0 hG dX6_feed_17 (q := 18) rfl ?_
      refine gt_RX6_25 hG rfl kk_0 dX6_feed_18 (q := 21) rfl ?_
      refine gt_RX6_233 hG rfl kk_49 dX6_feed_21 (q := 24) rfl ?_
      refine v_iload_2 hG dX6_feed_24 (q := 25) rfl ?_
      refine v_iadd hG dX6_feed_25 (q := 26) rfl ?_
      refine v_bipush hG cb_120 dX6_feed_26 (q := 28) rfl ?_
      refine v_icmp_le hG dX6_feed_28 (tgt := 38) rfl (q := 31) rfl (fun hc => ?_) (fun hc => ?_)
      · replace h := ifp hc h
        refine v_aload_0 hG dX6_feed_38 (q := 39) rfl ?_
        refine gt_RX6_25 hG rfl kk_0 dX6_feed_39 (q := 42) rfl ?_
        refine v_iload_1 hG dX6_feed_42 (q := 43) rfl ?_
        refine v_iload_2 hG dX6_feed_43 (q := 44) rfl ?_
        obtain ⟨r_2, hr_2, h⟩ := bnd h
        refine v_cV2V hG cvX2_take ml_RX6_234 rfl kk_49 (w_X2_take hr_2) (Nat.le_of_ble_eq_true rfl) dX6_feed_44 (q := 47) rfl ?_
        refine v_aload_0 hG dX6_feed_47 (q := 48) rfl ?_
        refine gt_RX6_25 hG rfl kk_0 dX6_feed_48 (q := 51) rfl ?_
        refine gt_RX6_233 hG rfl kk_49 dX6_feed_51 (q := 54) rfl ?_
        exact v_iret hG hR rfl rfl (sp2t h) dX6_feed_54
      · replace h := ifn hc h
        refine v_aload_0 hG dX6_feed_31 (q := 32) rfl ?_
        refine v_ldc hG kc_RX6_73 dX6_feed_32 (q := 34) rfl ?_
        obtain ⟨r_3, hr_3, h⟩ := bnd h
        refine v_cV1I hG cvX6_found ml_RX6_60 rfl kk_0 (w_X6_found hr_3) (Nat.le_of_ble_eq_true rfl) dX6_feed_34 (q := 37) rfl ?_
        exact v_iret hG hR rfl rfl (sp2t h) dX6_feed_37
    · replace h := ifn hc h
      refine v_aload_0 hG dX6_feed_10 (q := 11) rfl ?_
      refine v_ldc hG kc_RX6_59 dX6_feed_11 (q := 13) rfl ?_
      obtain ⟨r_4, hr_4, h⟩ := bnd h
      refine v_cV1I hG cvX6_found ml_RX6_60 rfl kk_0 (w_X6_found hr_4) (Nat.le_of_ble_eq_true rfl) dX6_feed_13 (q := 16) rfl ?_
      exact v_iret hG hR rfl rfl (sp2t h) dX6_feed_16
theorem cvX6_feed : CVo mX6_feed 2 6 := ⟨moX6_feed, mvX6_feed, by decide, _, _, rfl⟩
theorem w_X6_wipe {E : EB} {M : Mem} {R : Int32 × Mem} (h : f_X6_wipe M = some R) : Mt E mX6_wipe [.ref 0] M (PI R.1 R.2) := by
  refine mt_of (L0 := [some (.ref 0), none]) (by decide) rfl rfl (fun G hG hR => ?_)
  unfold f_X6_wipe at h
  refine v_aload_0 hG dX6_wipe_0 (q := 1) rfl ?_
  refine gt_RX6_25 hG rfl kk_0 dX6_wipe_1 (q := 4) rfl ?_
  refine gt_RX6_233 hG rfl kk_49 dX6_wipe_4 (q := 7) rfl ?_
  refine v_topi (fun x1_1 hy => ?_)
  replace h := letv_at hy h
  clear hy
  refine v_istore_1 hG rfl dX6_wipe_7 (q := 8) rfl ?_
  refine v_aload_0 hG dX6_wipe_8 (q := 9) rfl ?_
  refine gt_RX6_25 hG rfl kk_0 dX6_wipe_9 (q := 12) rfl ?_
  refine v_iconst hG ci_0 dX6_wipe_12 (q := 13) rfl ?_
  refine pt_RX6_233 hG rfl kk_49 dX6_wipe_13 (q := 16) rfl ?_
  refine v_topM (fun M_2 hy => ?_)
  replace h := letv_at hy h
  clear hy
  refine v_iload_1 hG dX6_wipe_16 (q := 17) rfl ?_
  exact v_iret hG hR rfl rfl (sp2t h) dX6_wipe_17
theorem cvX6_wipe : CVo mX6_wipe 0 6 := ⟨moX6_wipe, mvX6_wipe, by decide, _, _, rfl⟩
theorem w_X6_text {E : EB} {M : Mem} {R : Int32 × Mem} (h : f_X6_text M = some R) : Mt E mX6_text [.ref 0] M (PI R.1 R.2) := by
  refine mt_of (L0 := [some (.ref 0), none]) (by decide) rfl rfl (fun G hG hR => ?_)
  unfold f_X6_text at h
  refine v_aload_0 hG dX6_text_0 (q := 1) rfl ?_
  refine gt_RX6_16 hG rfl kk_0 dX6_text_1 (q := 4) rfl ?_
  refine v_aload_0 hG dX6_text_4 (q := 5) rfl ?_
  refine gt_RX6_12 hG rfl kk_0 dX6_text_5 (q := 8) rfl ?_
  obtain ⟨r_1, hr_1, h⟩ := bnd h
  refine v_cV1V hG cvX4_become ml_RX6_177 rfl kk_17 (w_X4_become kk_17 kk_1 hr_1) (Nat.le_of_ble_eq_true rfl) dX6_text_8 (q := 11) rfl ?_
  refine v_aload_0 hG dX6_text_11 (q := 12) rfl ?_
  refine gt_RX6_34 hG rfl kk_0 dX6_text_12 (q := 15) rfl ?_
  obtain ⟨r_2, hr_2, h⟩ := bnd h
  refine v_cV0I hG cvX3_wholeText ml_RX6_238 rfl kk_51 (w_X3_wholeText hr_2) (Nat.le_of_ble_eq_true rfl) dX6_text_15 (q := 18) rfl ?_
  refine v_istore_1 hG rfl dX6_text_18 (q := 19) rfl ?_
  refine v_iload_1 hG dX6_text_19 (q := 20) rfl ?_
  refine v_if_lt hG dX6_text_20 (tgt := 34) rfl (q := 23) rfl (fun hc => ?_) (fun hc => ?_)
  · replace h := ifp hc h
    refine v_aload_0 hG dX6_text_34 (q := 35) rfl ?_
    refine gt_RX6_25 hG rfl kk_0 dX6_text_35 (q := 38) rfl ?_
    refine v_iconst hG ci_0 dX6_text_38 (q := 39) rfl ?_
    refine pt_RX6_233 hG rfl kk_49 dX6_text_39 (q := 42) rfl ?_
    refine v_topM (fun M_3 hy => ?_)
    replace h := letv_at hy h
    clear hy
    refine v_iload_1 hG dX6_text_42 (q := 43) rfl ?_
    exact v_iret hG hR rfl rfl (sp2t h) dX6_text_43
  · replace h := ifn hc h
    refine v_aload_0 hG dX6_text_23 (q := 24) rfl ?_
    refine gt_RX6_12 hG rfl kk_0 dX6_text_24 (q := 27) rfl ?_
    refine v_aload_0 hG dX6_text_27 (q := 28) rfl ?_
    refine gt_RX6_16 hG rfl kk_0 dX6_text_28 (q := 31) rfl ?_
    obtain ⟨r_4, hr_4, h⟩ := bnd h
    refine v_cV1V hG cvX4_become ml_RX6_177 rfl kk_1 (w_X4_become kk_1 kk_17 hr_4) (Nat.le_of_ble_eq_true rfl) dX6_text_31 (q := 34) rfl ?_
    refine v_aload_0 hG dX6_text_34 (q := 35) rfl ?_
    refine gt_RX6_25 hG rfl kk_0 dX6_text_35 (q := 38) rfl ?_
    refine v_iconst hG ci_0 dX6_text_38 (q := 39) rfl ?_
    refine pt_RX6_233 hG rfl kk_49 dX6_text_39 (q := 42) rfl ?_
    refine v_topM (fun M_5 hy => ?_)
    replace h := letv_at hy h
    clear hy
    refine v_iload_1 hG dX6_text_42 (q := 43) rfl ?_
    exact v_iret hG hR rfl rfl (sp2t h) dX6_text_43
theorem cvX6_text : CVo mX6_text 0 6 := ⟨moX6_text, mvX6_text, by decide, _, _, rfl⟩
theorem w_X6_isSpot {E : EB} {x0 : Int32} {M : Mem} {R : Bool} (h : f_X6_isSpot x0 M = some R) : Mt E mX6_isSpot [.int x0] M (PI (b2i R) M) := by
  refine mt_of (L0 := [some (.int x0)]) (by decide) rfl rfl (fun G hG hR => ?_)
  unfold f_X6_isSpot at h
  refine v_iload_0 hG dX6_isSpot_0 (q := 1) rfl ?_
  refine v_if_lt hG dX6_isSpot_1 (tgt := 14) rfl (q := 4) rfl (fun hc => ?_) (fun hc => ?_)
  · replace h := ifp hc h
    refine v_iconst hG ci_0 dX6_isSpot_14 (q := 15) rfl ?_
    exact v_iret hG hR rfl rfl (sp1b h) dX6_isSpot_15
  · replace h := ifn hc h
    refine v_iload_0 hG dX6_isSpot_4 (q := 5) rfl ?_
    refine v_bipush hG cb_10 dX6_isSpot_5 (q := 7) rfl ?_
    refine v_icmp_ge hG dX6_isSpot_7 (tgt := 14) rfl (q := 10) rfl (fun hc => ?_) (fun hc => ?_)
    · replace h := ifp hc h
      refine v_iconst hG ci_0 dX6_isSpot_14 (q := 15) rfl ?_
      exact v_iret hG hR rfl rfl (sp1b h) dX6_isSpot_15
    · replace h := ifn hc h
      refine v_iconst hG ci_1 dX6_isSpot_10 (q := 11) rfl ?_
      refine v_goto hG dX6_isSpot_11 (tgt := 15) rfl ?_
      exact v_iret hG hR rfl rfl (sp1b h) dX6_isSpot_15
theorem csX6_isSpot : CSo mX6_isSpot 1 := ⟨moX6_isSpot, msX6_isSpot⟩
theorem w_X6_hold {E : EB} {x1 : Int32} {x2 : Int32} {M : Mem} {R : Int32 × Mem} (h : f_X6_hold x1 x2 M = some R) : Mt E mX6_hold [.ref 0, .int x1, .int x2] M (PI R.1 R.2) := by
  refine mt_of (L0 := [some (.ref 0), some (.int x1), some (.int x2)]) (by decide) rfl rfl (fun G hG hR => ?_)
  unfold f_X6_hold at h
  refine v_iload_1 hG dX6_hold_0 (q := 1) rfl ?_
  obtain ⟨r_1, hr_1, h⟩ := bnd h
  refine v_cS1I hG csX6_isSpot ml_RX6_241 rfl (w_X6_isSpot hr_1) (Nat.le_of_ble_eq_true rfl) dX6_hold_1 (q := 4) rfl ?_
  refine v_if_eq hG dX6_hold_4 (tgt := 26) rfl (q := 7) rfl (fun hc => ?_) (fun hc => ?_)
  · replace h := ifp hc h
    refine v_aload_0 hG dX6_hold_26 (q := 27) rfl ?_
    refine v_ldc hG kc_RX6_59 dX6_hold_27 (q := 29) rfl ?_
    obtain ⟨r_2, hr_2, h⟩ := bnd h
    refine v_cV1I hG cvX6_found ml_RX6_60 rfl kk_0 (w_X6_found hr_2) (Nat.le_of_ble_eq_true rfl) dX6_hold_29 (q := 32) rfl ?_
    exact v_iret hG hR rfl rfl (sp2t h) dX6_hold_32
  · replace h := ifn hc h
    refine v_iload_2 hG dX6_hold_7 (q := 8) rfl ?_
    refine v_iconst hG ci_m1 dX6_hold_8 (q := 9) rfl ?_
    refine v_icmp_eq hG dX6_hold_9 (tgt := 33) rfl (q := 12) rfl (fun hc => ?_) (fun hc => ?_)
    · replace h := ifp hc h
      refine v_aload_0 hG dX6_hold_33 (q := 34) rfl ?_
      refine gt_RX6_12 hG rfl kk_0 dX6_hold_34 (q := 37) rfl ?_
      refine gt_RX6_244 hG rfl kk_1 dX6_hold_37 (q := 40) rfl ?_
      refine v_iload_1 hG dX6_hold_40 (q := 41) rfl ?_
      refine v_iload_2 hG dX6_hold_41 (q := 42) rfl ?_
      obtain ⟨c_3, h⟩ := ck_some h
      refine v_iast hG kk_16 rfl c_3 dX6_hold_42 (q := 43) rfl ?_
      refine v_topM (fun M_4 hy => ?_)
      replace h := letv_at hy h
      clear hy
      refine v_iconst hG ci_1 dX6_hold_43 (q := 44) rfl ?_
      exact v_iret hG hR rfl rfl (sp2t h) dX6_hold_44
    · replace h := ifn hc h
      refine v_aload_0 hG dX6_hold_12 (q := 13) rfl ?_
      refine gt_RX6_12 hG rfl kk_0 dX6_hold_13 (q := 16) rfl ?_
      refine gt_RX6_64 hG rfl kk_1 dX6_hold_16 (q := 19) rfl ?_
      refine v_iload_2 hG dX6_hold_19 (q := 20) rfl ?_
      obtain ⟨r_5, hr_5, h⟩ := bnd h
      refine v_cV1I hG cvX5_has ml_RX6_78 rfl kk_2 (w_X5_has kk_2 hr_5) (Nat.le_of_ble_eq_true rfl) dX6_hold_20 (q := 23) rfl ?_
      refine v_if_ne hG dX6_hold_23 (tgt := 33) rfl (q := 26) rfl (fun hc => ?_) (fun hc => ?_)
      · replace h := ifn hc h
        refine v_aload_0 hG dX6_hold_33 (q := 34) rfl ?_
        refine gt_RX6_12 hG rfl kk_0 dX6_hold_34 (q := 37) rfl ?_
        refine gt_RX6_244 hG rfl kk_1 dX6_hold_37 (q := 40) rfl ?_
        refine v_iload_1 hG dX6_hold_40 (q := 41) rfl ?_
        refine v_iload_2 hG dX6_hold_41 (q := 42) rfl ?_
        obtain ⟨c_6, h⟩ := ck_some h
        refine v_iast hG kk_16 rfl c_6 dX6_hold_42 (q := 43) rfl ?_
        refine v_topM (fun M_7 hy => ?_)
        replace h := letv_at hy h
        clear hy
        refine v_iconst hG ci_1 dX6_hold_43 (q := 44) rfl ?_
        exact v_iret hG hR rfl rfl (sp2t h) dX6_hold_44
      · replace h := ifp hc h
        refine v_aload_0 hG dX6_hold_26 (q := 27) rfl ?_
        refine v_ldc hG kc_RX6_59 dX6_hold_27 (q := 29) rfl ?_
        obtain ⟨r_8, hr_8, h⟩ := bnd h
        refine v_cV1I hG cvX6_found ml_RX6_60 rfl kk_0 (w_X6_found hr_8) (Nat.le_of_ble_eq_true rfl) dX6_hold_29 (q := 32) rfl ?_
        exact v_iret hG hR rfl rfl (sp2t h) dX6_hold_32
theorem cvX6_hold : CVo mX6_hold 2 6 := ⟨moX6_hold, mvX6_hold, by decide, _, _, rfl⟩
theorem w_X6_isUnder_b4 {E : EB} {G : GB} (hG : Gd E mX6_isUnder G) {M : Mem} {R : Bool} (hR : Rt E mX6_isUnder (PI (b2i R) M) G) {k4 : Int32 → Int32 → Int32 → Mem → Option (Bool)} (hk4 : ∀ (x1 : Int32) (x2 : Int32) (x3 : Int32) (M' : Mem), k4 x1 x2 x3 M' = some R → M' = M → V E G 4 [none, some (.int x1), some (.int x2), some (.int x3)] [] M') {x1 : Int32} {x2 : Int32} {x3 : Int32} (h : f_X6_isUnder_b4 k4 x1 x2 x3 M = some R) : V E G 4 [none, some (.int x1), some (.int x2), some (.int x3)] [] M := by
  unfold f_X6_isUnder_b4 at h
  refine v_iload_3 hG dX6_isUnder_4 (q := 5) rfl ?_
  refine v_bipush hG cb_7 dX6_isUnder_5 (q := 7) rfl ?_
  refine v_icmp_ge hG dX6_isUnder_7 (tgt := 36) rfl (q := 10) rfl (fun hc => ?_) (fun hc => ?_)
  · replace h := ifp hc h
    refine v_iconst hG ci_0 dX6_isUnder_36 (q := 37) rfl ?_
    exact v_iret hG hR rfl rfl (sp1b h) dX6_isUnder_37
  · replace h := ifn hc h
    refine v_iload_2 hG dX6_isUnder_10 (q := 11) rfl ?_
    obtain ⟨r_1, hr_1, h⟩ := bnd h
    refine v_cS1I hG csX6_isKind ml_RX6_55 rfl (w_X6_isKind hr_1) (Nat.le_of_ble_eq_true rfl) dX6_isUnder_11 (q := 14) rfl ?_
    refine v_if_eq hG dX6_isUnder_14 (tgt := 36) rfl (q := 17) rfl (fun hc => ?_) (fun hc => ?_)
    · replace h := ifp hc h
      refine v_iconst hG ci_0 dX6_isUnder_36 (q := 37) rfl ?_
      exact v_iret hG hR rfl rfl (sp1b h) dX6_isUnder_37
    · replace h := ifn hc h
      refine v_iload_2 hG dX6_isUnder_17 (q := 18) rfl ?_
      refine v_iload_1 hG dX6_isUnder_18 (q := 19) rfl ?_
      refine v_icmp_ne hG dX6_isUnder_19 (tgt := 24) rfl (q := 22) rfl (fun hc => ?_) (fun hc => ?_)
      · replace h := ifn hc h
        refine v_gsU hG rfl dX6_isUnder_24 (q := 27) rfl ?_
        refine v_iload_2 hG dX6_isUnder_27 (q := 28) rfl ?_
        obtain ⟨c_2, h⟩ := ck_some h
        refine v_ildU hG c_2 dX6_isUnder_28 (q := 29) rfl ?_
        refine v_topi (fun x2_3 hy => ?_)
        replace h := letv_at hy h
        clear hy
        refine v_istore_2 hG rfl dX6_isUnder_29 (q := 30) rfl ?_
        refine v_iinc_3 hG rfl dX6_isUnder_30 (congrArg _ ci_1) (q := 33) rfl ?_
        refine v_goto hG dX6_isUnder_33 (tgt := 4) rfl ?_
        exact hk4 _ _ _ _ h rfl
      · replace h := ifp hc h
        refine v_iconst hG ci_1 dX6_isUnder_22 (q := 23) rfl ?_
        exact v_iret hG hR rfl rfl (sp1b h) dX6_isUnder_23
theorem w_X6_isUnder_l4 {E : EB} {G : GB} (hG : Gd E mX6_isUnder G) {M : Mem} {R : Bool} (hR : Rt E mX6_isUnder (PI (b2i R) M) G) : ∀ (n : Nat) (x1 : Int32) (x2 : Int32) (x3 : Int32) (M' : Mem), f_X6_isUnder_l4 n x1 x2 x3 M' = some R → M' = M → V E G 4 [none, some (.int x1), some (.int x2), some (.int x3)] [] M' := by
  intro n
  induction n with
  | zero => intro x1 x2 x3 M' h; cases h
  | succ n ih => intro x1 x2 x3 M' h e; subst e; exact w_X6_isUnder_b4 hG hR ih h
theorem w_X6_isUnder {E : EB} {x0 : Int32} {x1 : Int32} {M : Mem} {R : Bool} (h : f_X6_isUnder x0 x1 M = some R) : Mt E mX6_isUnder [.int x0, .int x1] M (PI (b2i R) M) := by
  refine mt_of (L0 := [some (.int x0), some (.int x1), none, none]) (by decide) rfl rfl (fun G hG hR => ?_)
  unfold f_X6_isUnder at h
  refine v_iload_0 hG dX6_isUnder_0 (q := 1) rfl ?_
  refine v_istore_2 hG rfl dX6_isUnder_1 (q := 2) rfl ?_
  refine v_iconst hG ci_0 dX6_isUnder_2 (q := 3) rfl ?_
  refine v_istore_3 hG rfl dX6_isUnder_3 (q := 4) rfl ?_
  refine v_drop (n := 0) (L' := [none, some (.int x1), some (.int x0), some (.int (0 : Int32))]) rfl ?_
  exact w_X6_isUnder_l4 hG hR FU _ _ _ _ h rfl
theorem csX6_isUnder : CSo mX6_isUnder 2 := ⟨moX6_isUnder, msX6_isUnder⟩
theorem w_X6_as {E : EB} {x1 : Int32} {x2 : Int32} {M : Mem} {R : Int32 × Mem} (h : f_X6_as x1 x2 M = some R) : Mt E mX6_as [.ref 0, .int x1, .int x2] M (PI R.1 R.2) := by
  refine mt_of (L0 := [some (.ref 0), some (.int x1), some (.int x2), none]) (by decide) rfl rfl (fun G hG hR => ?_)
  unfold f_X6_as at h
  refine v_iload_1 hG dX6_as_0 (q := 1) rfl ?_
  obtain ⟨r_1, hr_1, h⟩ := bnd h
  refine v_cS1I hG csX6_isSpot ml_RX6_241 rfl (w_X6_isSpot hr_1) (Nat.le_of_ble_eq_true rfl) dX6_as_1 (q := 4) rfl ?_
  refine v_if_eq hG dX6_as_4 (tgt := 14) rfl (q := 7) rfl (fun hc => ?_) (fun hc => ?_)
  · replace h := ifp hc h
    refine v_aload_0 hG dX6_as_14 (q := 15) rfl ?_
    refine v_ldc hG kc_RX6_59 dX6_as_15 (q := 17) rfl ?_
    obtain ⟨r_2, hr_2, h⟩ := bnd h
    refine v_cV1I hG cvX6_found ml_RX6_60 rfl kk_0 (w_X6_found hr_2) (Nat.le_of_ble_eq_true rfl) dX6_as_17 (q := 20) rfl ?_
    exact v_iret hG hR rfl rfl (sp2t h) dX6_as_20
  · replace h := ifn hc h
    refine v_iload_2 hG dX6_as_7 (q := 8) rfl ?_
    obtain ⟨r_3, hr_3, h⟩ := bnd h
    refine v_cS1I hG csX6_isKind ml_RX6_55 rfl (w_X6_isKind hr_3) (Nat.le_of_ble_eq_true rfl) dX6_as_8 (q := 11) rfl ?_
    refine v_if_ne hG dX6_as_11 (tgt := 21) rfl (q := 14) rfl (fun hc => ?_) (fun hc => ?_)
    · replace h := ifn hc h
      refine v_aload_0 hG dX6_as_21 (q := 22) rfl ?_
      refine gt_RX6_12 hG rfl kk_0 dX6_as_22 (q := 25) rfl ?_
      refine gt_RX6_244 hG rfl kk_1 dX6_as_25 (q := 28) rfl ?_
      refine v_iload_1 hG dX6_as_28 (q := 29) rfl ?_
      obtain ⟨c_4, h⟩ := ck_some h
      refine v_iald hG kk_16 rfl c_4 dX6_as_29 (q := 30) rfl ?_
      refine v_topi (fun x3_5 hy => ?_)
      replace h := letv_at hy h
      clear hy
      refine v_istore_3 hG rfl dX6_as_30 (q := 31) rfl ?_
      refine v_aload_0 hG dX6_as_31 (q := 32) rfl ?_
      refine gt_RX6_12 hG rfl kk_0 dX6_as_32 (q := 35) rfl ?_
      refine gt_RX6_64 hG rfl kk_1 dX6_as_35 (q := 38) rfl ?_
      refine v_iload_3 hG dX6_as_38 (q := 39) rfl ?_
      obtain ⟨r_6, hr_6, h⟩ := bnd h
      refine v_cV1I hG cvX5_has ml_RX6_78 rfl kk_2 (w_X5_has kk_2 hr_6) (Nat.le_of_ble_eq_true rfl) dX6_as_39 (q := 42) rfl ?_
      refine v_if_ne hG dX6_as_42 (tgt := 52) rfl (q := 45) rfl (fun hc => ?_) (fun hc => ?_)
      · replace h := ifn hc h
        refine v_aload_0 hG dX6_as_52 (q := 53) rfl ?_
        refine gt_RX6_12 hG rfl kk_0 dX6_as_53 (q := 56) rfl ?_
        refine gt_RX6_64 hG rfl kk_1 dX6_as_56 (q := 59) rfl ?_
        refine gt_RX6_248 hG rfl kk_2 dX6_as_59 (q := 62) rfl ?_
        refine v_iload_3 hG dX6_as_62 (q := 63) rfl ?_
        obtain ⟨c_7, h⟩ := ck_some h
        refine v_iald hG kk_3 rfl c_7 dX6_as_63 (q := 64) rfl ?_
        refine v_iload_2 hG dX6_as_64 (q := 65) rfl ?_
        obtain ⟨r_8, hr_8, h⟩ := bnd h
        refine v_cS2I hG csX6_isUnder ml_RX6_251 rfl (w_X6_isUnder hr_8) (Nat.le_of_ble_eq_true rfl) dX6_as_65 (q := 68) rfl ?_
        refine v_if_eq hG dX6_as_68 (tgt := 75) rfl (q := 71) rfl (fun hc => ?_) (fun hc => ?_)
        · replace h := ifp hc h
          refine v_aload_0 hG dX6_as_75 (q := 76) rfl ?_
          refine v_ldc hG kc_RX6_254 dX6_as_76 (q := 78) rfl ?_
          obtain ⟨r_9, hr_9, h⟩ := bnd h
          refine v_cV1I hG cvX6_found ml_RX6_60 rfl kk_0 (w_X6_found hr_9) (Nat.le_of_ble_eq_true rfl) dX6_as_78 (q := 81) rfl ?_
          exact v_iret hG hR rfl rfl (sp2t h) dX6_as_81
        · replace h := ifn hc h
          refine v_iload_3 hG dX6_as_71 (q := 72) rfl ?_
          refine v_goto hG dX6_as_72 (tgt := 81) rfl ?_
          exact v_iret hG hR rfl rfl (sp2t h) dX6_as_81
      · replace h := ifp hc h
        refine v_aload_0 hG dX6_as_45 (q := 46) rfl ?_
        refine v_ldc hG kc_RX6_247 dX6_as_46 (q := 48) rfl ?_
        obtain ⟨r_10, hr_10, h⟩ := bnd h
        refine v_cV1I hG cvX6_found ml_RX6_60 rfl kk_0 (w_X6_found hr_10) (Nat.le_of_ble_eq_true rfl) dX6_as_48 (q := 51) rfl ?_
        exact v_iret hG hR rfl rfl (sp2t h) dX6_as_51
    · replace h := ifp hc h
      refine v_aload_0 hG dX6_as_14 (q := 15) rfl ?_
      refine v_ldc hG kc_RX6_59 dX6_as_15 (q := 17) rfl ?_
      obtain ⟨r_11, hr_11, h⟩ := bnd h
      refine v_cV1I hG cvX6_found ml_RX6_60 rfl kk_0 (w_X6_found hr_11) (Nat.le_of_ble_eq_true rfl) dX6_as_17 (q := 20) rfl ?_
      exact v_iret hG hR rfl rfl (sp2t h) dX6_as_20
theorem cvX6_as : CVo mX6_as 2 6 := ⟨moX6_as, mvX6_as, by decide, _, _, rfl⟩
theorem w_X6_isSheet {E : EB} {x0 : Int32} {M : Mem} {R : Bool} (h : f_X6_isSheet x0 M = some R) : Mt E mX6_isSheet [.int x0] M (PI (b2i R) M) := by
  refine mt_of (L0 := [some (.int x0)]) (by decide) rfl rfl (fun G hG hR => ?_)
  unfold f_X6_isSheet at h
  refine v_iload_0 hG dX6_isSheet_0 (q := 1) rfl ?_
  refine v_if_lt hG dX6_isSheet_1 (tgt := 13) rfl (q := 4) rfl (fun hc => ?_) (fun hc => ?_)
  · replace h := ifp hc h
    refine v_iconst hG ci_0 dX6_isSheet_13 (q := 14) rfl ?_
    exact v_iret hG hR rfl rfl (sp1b h) dX6_isSheet_14
  · replace h := ifn hc h
    refine v_iload_0 hG dX6_isSheet_4 (q := 5) rfl ?_
    refine v_iconst hG ci_4 dX6_isSheet_5 (q := 6) rfl ?_
    refine v_icmp_ge hG dX6_isSheet_6 (tgt := 13) rfl (q := 9) rfl (fun hc => ?_) (fun hc => ?_)
    · replace h := ifp hc h
      refine v_iconst hG ci_0 dX6_isSheet_13 (q := 14) rfl ?_
      exact v_iret hG hR rfl rfl (sp1b h) dX6_isSheet_14
    · replace h := ifn hc h
      refine v_iconst hG ci_1 dX6_isSheet_9 (q := 10) rfl ?_
      refine v_goto hG dX6_isSheet_10 (tgt := 14) rfl ?_
      exact v_iret hG hR rfl rfl (sp1b h) dX6_isSheet_14
theorem csX6_isSheet : CSo mX6_isSheet 1 := ⟨moX6_isSheet, msX6_isSheet⟩
theorem w_X6_isWidth {E : EB} {x0 : Int32} {M : Mem} {R : Bool} (h : f_X6_isWidth x0 M = some R) : Mt E mX6_isWidth [.int x0] M (PI (b2i R) M) := by
  refine mt_of (L0 := [some (.int x0)]) (by decide) rfl rfl (fun G hG hR => ?_)
  unfold f_X6_isWidth at h
  refine v_iload_0 hG dX6_isWidth_0 (q := 1) rfl ?_
  refine v_if_eq hG dX6_isWidth_1 (tgt := 22) rfl (q := 4) rfl (fun hc => ?_) (fun hc => ?_)
  · replace h := ifp hc h
    refine v_iconst hG ci_1 dX6_isWidth_22 (q := 23) rfl ?_
    refine v_goto hG dX6_isWidth_23 (tgt := 27) rfl ?_
    exact v_iret hG hR rfl rfl (sp1b h) dX6_isWidth_27
  · replace h := ifn hc h
    refine v_iload_0 hG dX6_isWidth_4 (q := 5) rfl ?_
    refine v_bipush hG cb_8 dX6_isWidth_5 (q := 7) rfl ?_
    refine v_icmp_eq hG dX6_isWidth_7 (tgt := 22) rfl (q := 10) rfl (fun hc => ?_) (fun hc => ?_)
    · replace h := ifp hc h
      refine v_iconst hG ci_1 dX6_isWidth_22 (q := 23) rfl ?_
      refine v_goto hG dX6_isWidth_23 (tgt := 27) rfl ?_
      exact v_iret hG hR rfl rfl (sp1b h) dX6_isWidth_27
    · replace h := ifn hc h
      refine v_iload_0 hG dX6_isWidth_10 (q := 11) rfl ?_
      refine v_bipush hG cb_16 dX6_isWidth_11 (q := 13) rfl ?_
      refine v_icmp_eq hG dX6_isWidth_13 (tgt := 22) rfl (q := 16) rfl (fun hc => ?_) (fun hc => ?_)
      · replace h := ifp hc h
        refine v_iconst hG ci_1 dX6_isWidth_22 (q := 23) rfl ?_
        refine v_goto hG dX6_isWidth_23 (tgt := 27) rfl ?_
        exact v_iret hG hR rfl rfl (sp1b h) dX6_isWidth_27
      · replace h := ifn hc h
        refine v_iload_0 hG dX6_isWidth_16 (q := 17) rfl ?_
        refine v_bipush hG cb_32 dX6_isWidth_17 (q := 19) rfl ?_
        refine v_icmp_ne hG dX6_isWidth_19 (tgt := 26) rfl (q := 22) rfl (fun hc => ?_) (fun hc => ?_)
        · replace h := ifn hc h
          refine v_iconst hG ci_0 dX6_isWidth_26 (q := 27) rfl ?_
          exact v_iret hG hR rfl rfl (sp1b h) dX6_isWidth_27
        · replace h := ifp hc h
          refine v_iconst hG ci_1 dX6_isWidth_22 (q := 23) rfl ?_
          refine v_goto hG dX6_isWidth_23 (tgt := 27) rfl ?_
          exact v_iret hG hR rfl rfl (sp1b h) dX6_isWidth_27
theorem csX6_isWidth : CSo mX6_isWidth 1 := ⟨moX6_isWidth, msX6_isWidth⟩
theorem w_X6_sheet {E : EB} {x1 : Int32} {x2 : Int32} {x3 : Int32} {M : Mem} {R : Int32 × Mem} (h : f_X6_sheet x1 x2 x3 M = some R) : Mt E mX6_sheet [.ref 0, .int x1, .int x2, .int x3] M (PI R.1 R.2) := by
  refine mt_of (L0 := [some (.ref 0), some (.int x1), some (.int x2), some (.int x3)]) (by decide) rfl rfl (fun G hG hR => ?_)
  unfold f_X6_sheet at h
  refine v_iload_1 hG dX6_sheet_0 (q := 1) rfl ?_
  obtain ⟨r_1, hr_1, h⟩ := bnd h
  refine v_cS1I hG csX6_isSheet ml_RX6_255 rfl (w_X6_isSheet hr_1) (Nat.le_of_ble_eq_true rfl) dX6_sheet_1 (q := 4) rfl ?_
  refine v_if_eq hG dX6_sheet_4 (tgt := 14) rfl (q := 7) rfl (fun hc => ?_) (fun hc => ?_)
  · replace h := ifp hc h
    refine v_aload_0 hG dX6_sheet_14 (q := 15) rfl ?_
    refine v_ldc hG kc_RX6_59 dX6_sheet_15 (q := 17) rfl ?_
    obtain ⟨r_2, hr_2, h⟩ := bnd h
    refine v_cV1I hG cvX6_found ml_RX6_60 rfl kk_0 (w_X6_found hr_2) (Nat.le_of_ble_eq_true rfl) dX6_sheet_17 (q := 20) rfl ?_
    exact v_iret hG hR rfl rfl (sp2t h) dX6_sheet_20
  · replace h := ifn hc h
    refine v_iload_2 hG dX6_sheet_7 (q := 8) rfl ?_
    obtain ⟨r_3, hr_3, h⟩ := bnd h
    refine v_cS1I hG csX6_isWidth ml_RX6_258 rfl (w_X6_isWidth hr_3) (Nat.le_of_ble_eq_true rfl) dX6_sheet_8 (q := 11) rfl ?_
    refine v_if_ne hG dX6_sheet_11 (tgt := 21) rfl (q := 14) rfl (fun hc => ?_) (fun hc => ?_)
    · replace h := ifn hc h
      refine v_iload_3 hG dX6_sheet_21 (q := 22) rfl ?_
      refine v_if_ge hG dX6_sheet_22 (tgt := 33) rfl (q := 25) rfl (fun hc => ?_) (fun hc => ?_)
      · replace h := ifp hc h
        refine v_iload_3 hG dX6_sheet_33 (q := 34) rfl ?_
        refine v_bipush hG cb_40 dX6_sheet_34 (q := 36) rfl ?_
        refine v_icmp_le hG dX6_sheet_36 (tgt := 46) rfl (q := 39) rfl (fun hc => ?_) (fun hc => ?_)
        · replace h := ifp hc h
          refine v_aload_0 hG dX6_sheet_46 (q := 47) rfl ?_
          refine gt_RX6_41 hG rfl kk_0 dX6_sheet_47 (q := 50) rfl ?_
          refine v_iload_1 hG dX6_sheet_50 (q := 51) rfl ?_
          refine v_iload_2 hG dX6_sheet_51 (q := 52) rfl ?_
          refine v_iload_3 hG dX6_sheet_52 (q := 53) rfl ?_
          obtain ⟨r_4, hr_4, h⟩ := bnd h
          refine v_cV3I hG cvX1_lay ml_RX6_262 rfl kk_52 (w_X1_lay hr_4) (Nat.le_of_ble_eq_true rfl) dX6_sheet_53 (q := 56) rfl ?_
          exact v_iret hG hR rfl rfl (sp2t h) dX6_sheet_56
        · replace h := ifn hc h
          refine v_aload_0 hG dX6_sheet_39 (q := 40) rfl ?_
          refine v_ldc hG kc_RX6_59 dX6_sheet_40 (q := 42) rfl ?_
          obtain ⟨r_5, hr_5, h⟩ := bnd h
          refine v_cV1I hG cvX6_found ml_RX6_60 rfl kk_0 (w_X6_found hr_5) (Nat.le_of_ble_eq_true rfl) dX6_sheet_42 (q := 45) rfl ?_
          exact v_iret hG hR rfl rfl (sp2t h) dX6_sheet_45
      · replace h := ifn hc h
        refine v_aload_0 hG dX6_sheet_25 (q := 26) rfl ?_
        refine v_ldcw hG kc_RX6_261 dX6_sheet_26 (q := 29) rfl ?_
        obtain ⟨r_6, hr_6, h⟩ := bnd h
        refine v_cV1I hG cvX6_found ml_RX6_60 rfl kk_0 (w_X6_found hr_6) (Nat.le_of_ble_eq_true rfl) dX6_sheet_29 (q := 32) rfl ?_
        exact v_iret hG hR rfl rfl (sp2t h) dX6_sheet_32
    · replace h := ifp hc h
      refine v_aload_0 hG dX6_sheet_14 (q := 15) rfl ?_
      refine v_ldc hG kc_RX6_59 dX6_sheet_15 (q := 17) rfl ?_
      obtain ⟨r_7, hr_7, h⟩ := bnd h
      refine v_cV1I hG cvX6_found ml_RX6_60 rfl kk_0 (w_X6_found hr_7) (Nat.le_of_ble_eq_true rfl) dX6_sheet_17 (q := 20) rfl ?_
      exact v_iret hG hR rfl rfl (sp2t h) dX6_sheet_20
theorem cvX6_sheet : CVo mX6_sheet 3 6 := ⟨moX6_sheet, mvX6_sheet, by decide, _, _, rfl⟩
theorem w_X6_write {E : EB} {x1 : Int32} {x2 : Int32} {x3 : Int32} {M : Mem} {R : Int32 × Mem} (h : f_X6_write x1 x2 x3 M = some R) : Mt E mX6_write [.ref 0, .int x1, .int x2, .int x3] M (PI R.1 R.2) := by
  refine mt_of (L0 := [some (.ref 0), some (.int x1), some (.int x2), some (.int x3)]) (by decide) rfl rfl (fun G hG hR => ?_)
  unfold f_X6_write at h
  refine v_iload_1 hG dX6_write_0 (q := 1) rfl ?_
  obtain ⟨r_1, hr_1, h⟩ := bnd h
  refine v_cS1I hG csX6_isSheet ml_RX6_255 rfl (w_X6_isSheet hr_1) (Nat.le_of_ble_eq_true rfl) dX6_write_1 (q := 4) rfl ?_
  refine v_if_ne hG dX6_write_4 (tgt := 14) rfl (q := 7) rfl (fun hc => ?_) (fun hc => ?_)
  · replace h := ifn hc h
    refine v_aload_0 hG dX6_write_14 (q := 15) rfl ?_
    refine gt_RX6_41 hG rfl kk_0 dX6_write_15 (q := 18) rfl ?_
    refine v_iload_1 hG dX6_write_18 (q := 19) rfl ?_
    obtain ⟨r_2, hr_2, h⟩ := bnd h
    refine v_cV1I hG cvX1_isMissing ml_RX6_265 rfl kk_52 (w_X1_isMissing hr_2) (Nat.le_of_ble_eq_true rfl) dX6_write_19 (q := 22) rfl ?_
    refine v_if_eq hG dX6_write_22 (tgt := 32) rfl (q := 25) rfl (fun hc => ?_) (fun hc => ?_)
    · replace h := ifp hc h
      refine v_iload_2 hG dX6_write_32 (q := 33) rfl ?_
      refine v_if_lt hG dX6_write_33 (tgt := 49) rfl (q := 36) rfl (fun hc => ?_) (fun hc => ?_)
      · replace h := ifp hc h
        refine v_aload_0 hG dX6_write_49 (q := 50) rfl ?_
        refine v_ldc hG kc_RX6_59 dX6_write_50 (q := 52) rfl ?_
        obtain ⟨r_3, hr_3, h⟩ := bnd h
        refine v_cV1I hG cvX6_found ml_RX6_60 rfl kk_0 (w_X6_found hr_3) (Nat.le_of_ble_eq_true rfl) dX6_write_52 (q := 55) rfl ?_
        exact v_iret hG hR rfl rfl (sp2t h) dX6_write_55
      · replace h := ifn hc h
        refine v_iload_2 hG dX6_write_36 (q := 37) rfl ?_
        refine v_aload_0 hG dX6_write_37 (q := 38) rfl ?_
        refine gt_RX6_41 hG rfl kk_0 dX6_write_38 (q := 41) rfl ?_
        refine gt_RX6_268 hG rfl kk_52 dX6_write_41 (q := 44) rfl ?_
        refine v_iload_1 hG dX6_write_44 (q := 45) rfl ?_
        obtain ⟨c_4, h⟩ := ck_some h
        refine v_iald hG kk_54 rfl c_4 dX6_write_45 (q := 46) rfl ?_
        refine v_icmp_lt hG dX6_write_46 (tgt := 56) rfl (q := 49) rfl (fun hc => ?_) (fun hc => ?_)
        · replace h := ifp hc h
          refine v_aload_0 hG dX6_write_56 (q := 57) rfl ?_
          refine gt_RX6_41 hG rfl kk_0 dX6_write_57 (q := 60) rfl ?_
          refine v_iload_1 hG dX6_write_60 (q := 61) rfl ?_
          refine v_iload_2 hG dX6_write_61 (q := 62) rfl ?_
          refine v_iload_3 hG dX6_write_62 (q := 63) rfl ?_
          obtain ⟨r_5, hr_5, h⟩ := bnd h
          refine v_cV3V hG cvX1_note ml_RX6_270 rfl kk_52 (w_X1_note hr_5) (Nat.le_of_ble_eq_true rfl) dX6_write_63 (q := 66) rfl ?_
          refine v_iconst hG ci_1 dX6_write_66 (q := 67) rfl ?_
          exact v_iret hG hR rfl rfl (sp2t h) dX6_write_67
        · replace h := ifn hc h
          refine v_aload_0 hG dX6_write_49 (q := 50) rfl ?_
          refine v_ldc hG kc_RX6_59 dX6_write_50 (q := 52) rfl ?_
          obtain ⟨r_6, hr_6, h⟩ := bnd h
          refine v_cV1I hG cvX6_found ml_RX6_60 rfl kk_0 (w_X6_found hr_6) (Nat.le_of_ble_eq_true rfl) dX6_write_52 (q := 55) rfl ?_
          exact v_iret hG hR rfl rfl (sp2t h) dX6_write_55
    · replace h := ifn hc h
      refine v_aload_0 hG dX6_write_25 (q := 26) rfl ?_
      refine v_ldc hG kc_RX6_247 dX6_write_26 (q := 28) rfl ?_
      obtain ⟨r_7, hr_7, h⟩ := bnd h
      refine v_cV1I hG cvX6_found ml_RX6_60 rfl kk_0 (w_X6_found hr_7) (Nat.le_of_ble_eq_true rfl) dX6_write_28 (q := 31) rfl ?_
      exact v_iret hG hR rfl rfl (sp2t h) dX6_write_31
  · replace h := ifp hc h
    refine v_aload_0 hG dX6_write_7 (q := 8) rfl ?_
    refine v_ldc hG kc_RX6_59 dX6_write_8 (q := 10) rfl ?_
    obtain ⟨r_8, hr_8, h⟩ := bnd h
    refine v_cV1I hG cvX6_found ml_RX6_60 rfl kk_0 (w_X6_found hr_8) (Nat.le_of_ble_eq_true rfl) dX6_write_10 (q := 13) rfl ?_
    exact v_iret hG hR rfl rfl (sp2t h) dX6_write_13
theorem cvX6_write : CVo mX6_write 3 6 := ⟨moX6_write, mvX6_write, by decide, _, _, rfl⟩
theorem w_X6_copy {E : EB} {x1 : Int32} {x2 : Int32} {x3 : Int32} {x4 : Int32} {x5 : Int32} {M : Mem} {R : Int32 × Mem} (h : f_X6_copy x1 x2 x3 x4 x5 M = some R) : Mt E mX6_copy [.ref 0, .int x1, .int x2, .int x3, .int x4, .int x5] M (PI R.1 R.2) := by
  refine mt_of (L0 := [some (.ref 0), some (.int x1), some (.int x2), some (.int x3), some (.int x4), some (.int x5)]) (by decide) rfl rfl (fun G hG hR => ?_)
  unfold f_X6_copy at h
  refine v_iload_1 hG dX6_copy_0 (q := 1) rfl ?_
  obtain ⟨r_1, hr_1, h⟩ := bnd h
  refine v_cS1I hG csX6_isSheet ml_RX6_255 rfl (w_X6_isSheet hr_1) (Nat.le_of_ble_eq_true rfl) dX6_copy_1 (q := 4) rfl ?_
  refine v_if_eq hG dX6_copy_4 (tgt := 14) rfl (q := 7) rfl (fun hc => ?_) (fun hc => ?_)
  · replace h := ifp hc h
    refine v_aload_0 hG dX6_copy_14 (q := 15) rfl ?_
    refine v_ldc hG kc_RX6_59 dX6_copy_15 (q := 17) rfl ?_
    obtain ⟨r_2, hr_2, h⟩ := bnd h
    refine v_cV1I hG cvX6_found ml_RX6_60 rfl kk_0 (w_X6_found hr_2) (Nat.le_of_ble_eq_true rfl) dX6_copy_17 (q := 20) rfl ?_
    exact v_iret hG hR rfl rfl (sp2t h) dX6_copy_20
  · replace h := ifn hc h
    refine v_iload_3 hG dX6_copy_7 (q := 8) rfl ?_
    obtain ⟨r_3, hr_3, h⟩ := bnd h
    refine v_cS1I hG csX6_isSheet ml_RX6_255 rfl (w_X6_isSheet hr_3) (Nat.le_of_ble_eq_true rfl) dX6_copy_8 (q := 11) rfl ?_
    refine v_if_ne hG dX6_copy_11 (tgt := 21) rfl (q := 14) rfl (fun hc => ?_) (fun hc => ?_)
    · replace h := ifn hc h
      refine v_aload_0 hG dX6_copy_21 (q := 22) rfl ?_
      refine gt_RX6_41 hG rfl kk_0 dX6_copy_22 (q := 25) rfl ?_
      refine v_iload_1 hG dX6_copy_25 (q := 26) rfl ?_
      obtain ⟨r_4, hr_4, h⟩ := bnd h
      refine v_cV1I hG cvX1_isMissing ml_RX6_265 rfl kk_52 (w_X1_isMissing hr_4) (Nat.le_of_ble_eq_true rfl) dX6_copy_26 (q := 29) rfl ?_
      refine v_if_ne hG dX6_copy_29 (tgt := 43) rfl (q := 32) rfl (fun hc => ?_) (fun hc => ?_)
      · replace h := ifn hc h
        refine v_aload_0 hG dX6_copy_43 (q := 44) rfl ?_
        refine v_ldc hG kc_RX6_247 dX6_copy_44 (q := 46) rfl ?_
        obtain ⟨r_5, hr_5, h⟩ := bnd h
        refine v_cV1I hG cvX6_found ml_RX6_60 rfl kk_0 (w_X6_found hr_5) (Nat.le_of_ble_eq_true rfl) dX6_copy_46 (q := 49) rfl ?_
        exact v_iret hG hR rfl rfl (sp2t h) dX6_copy_49
      · replace h := ifp hc h
        refine v_aload_0 hG dX6_copy_32 (q := 33) rfl ?_
        refine gt_RX6_41 hG rfl kk_0 dX6_copy_33 (q := 36) rfl ?_
        refine v_iload_3 hG dX6_copy_36 (q := 37) rfl ?_
        obtain ⟨r_6, hr_6, h⟩ := bnd h
        refine v_cV1I hG cvX1_isMissing ml_RX6_265 rfl kk_52 (w_X1_isMissing hr_6) (Nat.le_of_ble_eq_true rfl) dX6_copy_37 (q := 40) rfl ?_
        refine v_if_eq hG dX6_copy_40 (tgt := 50) rfl (q := 43) rfl (fun hc => ?_) (fun hc => ?_)
        · replace h := ifp hc h
          refine v_aload_0 hG dX6_copy_50 (q := 51) rfl ?_
          refine gt_RX6_41 hG rfl kk_0 dX6_copy_51 (q := 54) rfl ?_
          refine gt_RX6_274 hG rfl kk_52 dX6_copy_54 (q := 57) rfl ?_
          refine v_iload_1 hG dX6_copy_57 (q := 58) rfl ?_
          obtain ⟨c_7, h⟩ := ck_some h
          refine v_iald hG kk_53 rfl c_7 dX6_copy_58 (q := 59) rfl ?_
          refine v_aload_0 hG dX6_copy_59 (q := 60) rfl ?_
          refine gt_RX6_41 hG rfl kk_0 dX6_copy_60 (q := 63) rfl ?_
          refine gt_RX6_274 hG rfl kk_52 dX6_copy_63 (q := 66) rfl ?_
          refine v_iload_3 hG dX6_copy_66 (q := 67) rfl ?_
          obtain ⟨c_8, h⟩ := ck_some h
          refine v_iald hG kk_53 rfl c_8 dX6_copy_67 (q := 68) rfl ?_
          refine v_icmp_eq hG dX6_copy_68 (tgt := 78) rfl (q := 71) rfl (fun hc => ?_) (fun hc => ?_)
          · replace h := ifp hc h
            refine v_aload_0 hG dX6_copy_78 (q := 79) rfl ?_
            refine gt_RX6_41 hG rfl kk_0 dX6_copy_79 (q := 82) rfl ?_
            refine v_iload_1 hG dX6_copy_82 (q := 83) rfl ?_
            refine v_iload_2 hG dX6_copy_83 (q := 84) rfl ?_
            refine v_iload_5 hG dX6_copy_84 (q := 86) rfl ?_
            obtain ⟨r_9, hr_9, h⟩ := bnd h
            refine v_cV3I hG cvX1_hasFrom ml_RX6_277 rfl kk_52 (w_X1_hasFrom hr_9) (Nat.le_of_ble_eq_true rfl) dX6_copy_86 (q := 89) rfl ?_
            refine v_if_eq hG dX6_copy_89 (tgt := 107) rfl (q := 92) rfl (fun hc => ?_) (fun hc => ?_)
            · replace h := ifp hc h
              refine v_aload_0 hG dX6_copy_107 (q := 108) rfl ?_
              refine v_ldc hG kc_RX6_59 dX6_copy_108 (q := 110) rfl ?_
              obtain ⟨r_10, hr_10, h⟩ := bnd h
              refine v_cV1I hG cvX6_found ml_RX6_60 rfl kk_0 (w_X6_found hr_10) (Nat.le_of_ble_eq_true rfl) dX6_copy_110 (q := 113) rfl ?_
              exact v_iret hG hR rfl rfl (sp2t h) dX6_copy_113
            · replace h := ifn hc h
              refine v_aload_0 hG dX6_copy_92 (q := 93) rfl ?_
              refine gt_RX6_41 hG rfl kk_0 dX6_copy_93 (q := 96) rfl ?_
              refine v_iload_3 hG dX6_copy_96 (q := 97) rfl ?_
              refine v_iload_4 hG dX6_copy_97 (q := 99) rfl ?_
              refine v_iload_5 hG dX6_copy_99 (q := 101) rfl ?_
              obtain ⟨r_11, hr_11, h⟩ := bnd h
              refine v_cV3I hG cvX1_hasFrom ml_RX6_277 rfl kk_52 (w_X1_hasFrom hr_11) (Nat.le_of_ble_eq_true rfl) dX6_copy_101 (q := 104) rfl ?_
              refine v_if_ne hG dX6_copy_104 (tgt := 114) rfl (q := 107) rfl (fun hc => ?_) (fun hc => ?_)
              · replace h := ifn hc h
                refine v_aload_0 hG dX6_copy_114 (q := 115) rfl ?_
                refine gt_RX6_41 hG rfl kk_0 dX6_copy_115 (q := 118) rfl ?_
                refine v_iload_1 hG dX6_copy_118 (q := 119) rfl ?_
                refine v_iload_2 hG dX6_copy_119 (q := 120) rfl ?_
                refine v_iload_3 hG dX6_copy_120 (q := 121) rfl ?_
                refine v_iload_4 hG dX6_copy_121 (q := 123) rfl ?_
                refine v_iload_5 hG dX6_copy_123 (q := 125) rfl ?_
                obtain ⟨r_12, hr_12, h⟩ := bnd h
                refine v_cV5V hG cvX1_move ml_RX6_281 rfl kk_52 (w_X1_move hr_12) (Nat.le_of_ble_eq_true rfl) dX6_copy_125 (q := 128) rfl ?_
                refine v_iload_5 hG dX6_copy_128 (q := 130) rfl ?_
                exact v_iret hG hR rfl rfl (sp2t h) dX6_copy_130
              · replace h := ifp hc h
                refine v_aload_0 hG dX6_copy_107 (q := 108) rfl ?_
                refine v_ldc hG kc_RX6_59 dX6_copy_108 (q := 110) rfl ?_
                obtain ⟨r_13, hr_13, h⟩ := bnd h
                refine v_cV1I hG cvX6_found ml_RX6_60 rfl kk_0 (w_X6_found hr_13) (Nat.le_of_ble_eq_true rfl) dX6_copy_110 (q := 113) rfl ?_
                exact v_iret hG hR rfl rfl (sp2t h) dX6_copy_113
          · replace h := ifn hc h
            refine v_aload_0 hG dX6_copy_71 (q := 72) rfl ?_
            refine v_ldc hG kc_RX6_254 dX6_copy_72 (q := 74) rfl ?_
            obtain ⟨r_14, hr_14, h⟩ := bnd h
            refine v_cV1I hG cvX6_found ml_RX6_60 rfl kk_0 (w_X6_found hr_14) (Nat.le_of_ble_eq_true rfl) dX6_copy_74 (q := 77) rfl ?_
            exact v_iret hG hR rfl rfl (sp2t h) dX6_copy_77
        · replace h := ifn hc h
          refine v_aload_0 hG dX6_copy_43 (q := 44) rfl ?_
          refine v_ldc hG kc_RX6_247 dX6_copy_44 (q := 46) rfl ?_
          obtain ⟨r_15, hr_15, h⟩ := bnd h
          refine v_cV1I hG cvX6_found ml_RX6_60 rfl kk_0 (w_X6_found hr_15) (Nat.le_of_ble_eq_true rfl) dX6_copy_46 (q := 49) rfl ?_
          exact v_iret hG hR rfl rfl (sp2t h) dX6_copy_49
    · replace h := ifp hc h
      refine v_aload_0 hG dX6_copy_14 (q := 15) rfl ?_
      refine v_ldc hG kc_RX6_59 dX6_copy_15 (q := 17) rfl ?_
      obtain ⟨r_16, hr_16, h⟩ := bnd h
      refine v_cV1I hG cvX6_found ml_RX6_60 rfl kk_0 (w_X6_found hr_16) (Nat.le_of_ble_eq_true rfl) dX6_copy_17 (q := 20) rfl ?_
      exact v_iret hG hR rfl rfl (sp2t h) dX6_copy_20
theorem cvX6_copy : CVo mX6_copy 5 6 := ⟨moX6_copy, mvX6_copy, by decide, _, _, rfl⟩
theorem w_X6_load_b57 {E : EB} {G : GB} (hG : Gd E mX6_load G) {M : Mem} {R : Int32 × Mem} (hR : Rt E mX6_load (PI R.1 R.2) G) {k57 : Int32 → Int32 → Int32 → Mem → Option (Int32 × Mem)} (hk57 : ∀ (x1 : Int32) (x2 : Int32) (x3 : Int32) (M : Mem), k57 x1 x2 x3 M = some R → V E G 57 [some (.ref 0), some (.int x1), some (.int x2), some (.int x3), none] [] M) {x1 : Int32} {x2 : Int32} {x3 : Int32} (h : f_X6_load_b57 k57 x1 x2 x3 M = some R) : V E G 57 [some (.ref 0), some (.int x1), some (.int x2), some (.int x3), none] [] M := by
  unfold f_X6_load_b57 at h
  refine v_iload_3 hG dX6_load_57 (q := 58) rfl ?_
  refine v_iload_2 hG dX6_load_58 (q := 59) rfl ?_
  refine v_icmp_ge hG dX6_load_59 (tgt := 103) rfl (q := 62) rfl (fun hc => ?_) (fun hc => ?_)
  · replace h := ifp hc h
    refine v_iload_2 hG dX6_load_103 (q := 104) rfl ?_
    exact v_iret hG hR rfl rfl (sp2t h) dX6_load_104
  · replace h := ifn hc h
    refine v_aload_0 hG dX6_load_62 (q := 63) rfl ?_
    refine gt_RX6_41 hG rfl kk_0 dX6_load_63 (q := 66) rfl ?_
    refine v_iload_1 hG dX6_load_66 (q := 67) rfl ?_
    refine v_iload_3 hG dX6_load_67 (q := 68) rfl ?_
    obtain ⟨r_7, hr_7, h⟩ := bnd h
    refine v_cV2I hG cvX1_number ml_RX6_285 rfl kk_52 (w_X1_number hr_7) (Nat.le_of_ble_eq_true rfl) dX6_load_68 (q := 71) rfl ?_
    refine v_istore_4 hG rfl dX6_load_71 (q := 73) rfl ?_
    refine v_iload_4 hG dX6_load_73 (q := 75) rfl ?_
    obtain ⟨r_8, hr_8, h⟩ := bnd h
    refine v_cS1I hG csX6_isSaying ml_RX6_113 rfl (w_X6_isSaying hr_8) (Nat.le_of_ble_eq_true rfl) dX6_load_75 (q := 78) rfl ?_
    refine v_if_ne hG dX6_load_78 (tgt := 83) rfl (q := 81) rfl (fun hc => ?_) (fun hc => ?_)
    · replace h := ifn hc h
      refine v_aload_0 hG dX6_load_83 (q := 84) rfl ?_
      refine gt_RX6_12 hG rfl kk_0 dX6_load_84 (q := 87) rfl ?_
      refine gt_RX6_85 hG rfl kk_1 dX6_load_87 (q := 90) rfl ?_
      refine gt_RX6_149 hG rfl kk_9 dX6_load_90 (q := 93) rfl ?_
      refine v_iload_3 hG dX6_load_93 (q := 94) rfl ?_
      refine v_iload_4 hG dX6_load_94 (q := 96) rfl ?_
      obtain ⟨c_9, h⟩ := ck_some h
      refine v_iast hG kk_10 rfl c_9 dX6_load_96 (q := 97) rfl ?_
      refine v_topM (fun M_10 hy => ?_)
      replace h := letv_at hy h
      clear hy
      refine v_iinc_3 hG rfl dX6_load_97 (congrArg _ ci_1) (q := 100) rfl ?_
      refine v_goto hG dX6_load_100 (tgt := 57) rfl ?_
      refine v_drop (n := 4) (L' := [some (.ref 0), some (.int x1), some (.int x2), some (.int (x3 + (1 : Int32))), none]) rfl ?_
      exact hk57 _ _ _ _ h
    · replace h := ifp hc h
      refine v_iload_3 hG dX6_load_81 (q := 82) rfl ?_
      exact v_iret hG hR rfl rfl (sp2t h) dX6_load_82
theorem w_X6_load_l57 {E : EB} {G : GB} (hG : Gd E mX6_load G) {R : Int32 × Mem} (hR : Rt E mX6_load (PI R.1 R.2) G) : ∀ (n : Nat) (x1 : Int32) (x2 : Int32) (x3 : Int32) (M : Mem), f_X6_load_l57 n x1 x2 x3 M = some R → V E G 57 [some (.ref 0), some (.int x1), some (.int x2), some (.int x3), none] [] M := by
  intro n
  induction n with
  | zero => intro x1 x2 x3 M h; cases h
  | succ n ih => intro x1 x2 x3 M h; exact w_X6_load_b57 hG hR ih h
theorem w_X6_load {E : EB} {x1 : Int32} {M : Mem} {R : Int32 × Mem} (h : f_X6_load x1 M = some R) : Mt E mX6_load [.ref 0, .int x1] M (PI R.1 R.2) := by
  refine mt_of (L0 := [some (.ref 0), some (.int x1), none, none, none]) (by decide) rfl rfl (fun G hG hR => ?_)
  unfold f_X6_load at h
  refine v_iload_1 hG dX6_load_0 (q := 1) rfl ?_
  obtain ⟨r_1, hr_1, h⟩ := bnd h
  refine v_cS1I hG csX6_isSheet ml_RX6_255 rfl (w_X6_isSheet hr_1) (Nat.le_of_ble_eq_true rfl) dX6_load_1 (q := 4) rfl ?_
  refine v_if_ne hG dX6_load_4 (tgt := 14) rfl (q := 7) rfl (fun hc => ?_) (fun hc => ?_)
  · replace h := ifn hc h
    refine v_aload_0 hG dX6_load_14 (q := 15) rfl ?_
    refine gt_RX6_41 hG rfl kk_0 dX6_load_15 (q := 18) rfl ?_
    refine v_iload_1 hG dX6_load_18 (q := 19) rfl ?_
    obtain ⟨r_2, hr_2, h⟩ := bnd h
    refine v_cV1I hG cvX1_isMissing ml_RX6_265 rfl kk_52 (w_X1_isMissing hr_2) (Nat.le_of_ble_eq_true rfl) dX6_load_19 (q := 22) rfl ?_
    refine v_if_eq hG dX6_load_22 (tgt := 32) rfl (q := 25) rfl (fun hc => ?_) (fun hc => ?_)
    · replace h := ifp hc h
      refine v_aload_0 hG dX6_load_32 (q := 33) rfl ?_
      refine gt_RX6_41 hG rfl kk_0 dX6_load_33 (q := 36) rfl ?_
      refine gt_RX6_268 hG rfl kk_52 dX6_load_36 (q := 39) rfl ?_
      refine v_iload_1 hG dX6_load_39 (q := 40) rfl ?_
      obtain ⟨c_3, h⟩ := ck_some h
      refine v_iald hG kk_54 rfl c_3 dX6_load_40 (q := 41) rfl ?_
      refine v_aload_0 hG dX6_load_41 (q := 42) rfl ?_
      refine gt_RX6_12 hG rfl kk_0 dX6_load_42 (q := 45) rfl ?_
      refine gt_RX6_85 hG rfl kk_1 dX6_load_45 (q := 48) rfl ?_
      refine gt_RX6_174 hG rfl kk_9 dX6_load_48 (q := 51) rfl ?_
      refine v_mmin hG ml_RX6_207 rfl rfl (Nat.le_of_ble_eq_true rfl) dX6_load_51 (q := 54) rfl ?_
      refine v_topi (fun x2_4 hy => ?_)
      replace h := letv_at hy h
      clear hy
      refine v_istore_2 hG rfl dX6_load_54 (q := 55) rfl ?_
      refine v_iconst hG ci_0 dX6_load_55 (q := 56) rfl ?_
      refine v_istore_3 hG rfl dX6_load_56 (q := 57) rfl ?_
      exact w_X6_load_l57 hG hR FU _ _ _ _ h
    · replace h := ifn hc h
      refine v_aload_0 hG dX6_load_25 (q := 26) rfl ?_
      refine v_ldc hG kc_RX6_247 dX6_load_26 (q := 28) rfl ?_
      obtain ⟨r_5, hr_5, h⟩ := bnd h
      refine v_cV1I hG cvX6_found ml_RX6_60 rfl kk_0 (w_X6_found hr_5) (Nat.le_of_ble_eq_true rfl) dX6_load_28 (q := 31) rfl ?_
      exact v_iret hG hR rfl rfl (sp2t h) dX6_load_31
  · replace h := ifp hc h
    refine v_aload_0 hG dX6_load_7 (q := 8) rfl ?_
    refine v_ldc hG kc_RX6_59 dX6_load_8 (q := 10) rfl ?_
    obtain ⟨r_6, hr_6, h⟩ := bnd h
    refine v_cV1I hG cvX6_found ml_RX6_60 rfl kk_0 (w_X6_found hr_6) (Nat.le_of_ble_eq_true rfl) dX6_load_10 (q := 13) rfl ?_
    exact v_iret hG hR rfl rfl (sp2t h) dX6_load_13
theorem cvX6_load : CVo mX6_load 1 6 := ⟨moX6_load, mvX6_load, by decide, _, _, rfl⟩
theorem w_X6_judge_b70 {E : EB} {G : GB} (hG : Gd E mX6_judge G) {M : Mem} {R : Int32 × Mem} (hR : Rt E mX6_judge (PI R.1 R.2) G) {k70 : Int32 → Int32 → Mem → Option (Int32 × Mem)} (hk70 : ∀ (x1 : Int32) (x3 : Int32) (M : Mem), k70 x1 x3 M = some R → V E G 70 [some (.ref 0), some (.int x1), none, some (.int x3), none] [] M) {x1 : Int32} {x3 : Int32} (h : f_X6_judge_b70 k70 x1 x3 M = some R) : V E G 70 [some (.ref 0), some (.int x1), none, some (.int x3), none] [] M := by
  unfold f_X6_judge_b70 at h
  refine v_iload_3 hG dX6_judge_70 (q := 71) rfl ?_
  refine v_aload_0 hG dX6_judge_71 (q := 72) rfl ?_
  refine gt_RX6_41 hG rfl kk_0 dX6_judge_72 (q := 75) rfl ?_
  refine gt_RX6_268 hG rfl kk_52 dX6_judge_75 (q := 78) rfl ?_
  refine v_iload_1 hG dX6_judge_78 (q := 79) rfl ?_
  obtain ⟨c_8, h⟩ := ck_some h
  refine v_iald hG kk_54 rfl c_8 dX6_judge_79 (q := 80) rfl ?_
  refine v_icmp_ge hG dX6_judge_80 (tgt := 132) rfl (q := 83) rfl (fun hc => ?_) (fun hc => ?_)
  · replace h := ifp hc h
    refine v_iconst hG ci_0 dX6_judge_132 (q := 133) rfl ?_
    exact v_iret hG hR rfl rfl (sp2t h) dX6_judge_133
  · replace h := ifn hc h
    refine v_aload_0 hG dX6_judge_83 (q := 84) rfl ?_
    refine gt_RX6_41 hG rfl kk_0 dX6_judge_84 (q := 87) rfl ?_
    refine v_iload_1 hG dX6_judge_87 (q := 88) rfl ?_
    refine v_iload_3 hG dX6_judge_88 (q := 89) rfl ?_
    obtain ⟨r_9, hr_9, h⟩ := bnd h
    refine v_cV2I hG cvX1_number ml_RX6_285 rfl kk_52 (w_X1_number hr_9) (Nat.le_of_ble_eq_true rfl) dX6_judge_89 (q := 92) rfl ?_
    refine v_istore_4 hG rfl dX6_judge_92 (q := 94) rfl ?_
    refine v_iload_4 hG dX6_judge_94 (q := 96) rfl ?_
    obtain ⟨r_10, hr_10, h⟩ := bnd h
    refine v_cS1I hG csX6_isSaying ml_RX6_113 rfl (w_X6_isSaying hr_10) (Nat.le_of_ble_eq_true rfl) dX6_judge_96 (q := 99) rfl ?_
    refine v_if_eq hG dX6_judge_99 (tgt := 122) rfl (q := 102) rfl (fun hc => ?_) (fun hc => ?_)
    · replace h := ifp hc h
      refine v_iconst hG ci_1 dX6_judge_122 (q := 123) rfl ?_
      refine v_iload_3 hG dX6_judge_123 (q := 124) rfl ?_
      refine v_iadd hG dX6_judge_124 (q := 125) rfl ?_
      exact v_iret hG hR rfl rfl (sp2t h) dX6_judge_125
    · replace h := ifn hc h
      refine v_aload_0 hG dX6_judge_102 (q := 103) rfl ?_
      refine gt_RX6_52 hG rfl kk_0 dX6_judge_103 (q := 106) rfl ?_
      refine v_iload_4 hG dX6_judge_106 (q := 108) rfl ?_
      refine v_iconst hG ci_5 dX6_judge_108 (q := 109) rfl ?_
      refine v_ishr hG dX6_judge_109 (q := 110) rfl ?_
      obtain ⟨c_11, h⟩ := ck_some h
      refine v_iald hG kk_58 rfl c_11 dX6_judge_110 (q := 111) rfl ?_
      refine v_iconst hG ci_1 dX6_judge_111 (q := 112) rfl ?_
      refine v_iload_4 hG dX6_judge_112 (q := 114) rfl ?_
      refine v_bipush hG cb_31 dX6_judge_114 (q := 116) rfl ?_
      refine v_iand hG dX6_judge_116 (q := 117) rfl ?_
      refine v_ishl hG dX6_judge_117 (q := 118) rfl ?_
      refine v_iand hG dX6_judge_118 (q := 119) rfl ?_
      refine v_if_ne hG dX6_judge_119 (tgt := 126) rfl (q := 122) rfl (fun hc => ?_) (fun hc => ?_)
      · replace h := ifn hc h
        refine v_iinc_3 hG rfl dX6_judge_126 (congrArg _ ci_1) (q := 129) rfl ?_
        refine v_goto hG dX6_judge_129 (tgt := 70) rfl ?_
        refine v_drop (n := 4) (L' := [some (.ref 0), some (.int x1), none, some (.int (x3 + (1 : Int32))), none]) rfl ?_
        exact hk70 _ _ _ h
      · replace h := ifp hc h
        refine v_iconst hG ci_1 dX6_judge_122 (q := 123) rfl ?_
        refine v_iload_3 hG dX6_judge_123 (q := 124) rfl ?_
        refine v_iadd hG dX6_judge_124 (q := 125) rfl ?_
        exact v_iret hG hR rfl rfl (sp2t h) dX6_judge_125
theorem w_X6_judge_l70 {E : EB} {G : GB} (hG : Gd E mX6_judge G) {R : Int32 × Mem} (hR : Rt E mX6_judge (PI R.1 R.2) G) : ∀ (n : Nat) (x1 : Int32) (x3 : Int32) (M : Mem), f_X6_judge_l70 n x1 x3 M = some R → V E G 70 [some (.ref 0), some (.int x1), none, some (.int x3), none] [] M := by
  intro n
  induction n with
  | zero => intro x1 x3 M h; cases h
  | succ n ih => intro x1 x3 M h; exact w_X6_judge_b70 hG hR ih h
theorem w_X6_judge {E : EB} {x1 : Int32} {x2 : Int32} {M : Mem} {R : Int32 × Mem} (h : f_X6_judge x1 x2 M = some R) : Mt E mX6_judge [.ref 0, .int x1, .int x2] M (PI R.1 R.2) := by
  refine mt_of (L0 := [some (.ref 0), some (.int x1), some (.int x2), none, none]) (by decide) rfl rfl (fun G hG hR => ?_)
  unfold f_X6_judge at h
  refine v_iload_1 hG dX6_judge_0 (q := 1) rfl ?_
  obtain ⟨r_1, hr_1, h⟩ := bnd h
  refine v_cS1I hG csX6_isSheet ml_RX6_255 rfl (w_X6_isSheet hr_1) (Nat.le_of_ble_eq_true rfl) dX6_judge_1 (q := 4) rfl ?_
  refine v_if_ne hG dX6_judge_4 (tgt := 14) rfl (q := 7) rfl (fun hc => ?_) (fun hc => ?_)
  · replace h := ifn hc h
    refine v_aload_0 hG dX6_judge_14 (q := 15) rfl ?_
    refine gt_RX6_41 hG rfl kk_0 dX6_judge_15 (q := 18) rfl ?_
    refine v_iload_1 hG dX6_judge_18 (q := 19) rfl ?_
    obtain ⟨r_2, hr_2, h⟩ := bnd h
    refine v_cV1I hG cvX1_isMissing ml_RX6_265 rfl kk_52 (w_X1_isMissing hr_2) (Nat.le_of_ble_eq_true rfl) dX6_judge_19 (q := 22) rfl ?_
    refine v_if_eq hG dX6_judge_22 (tgt := 32) rfl (q := 25) rfl (fun hc => ?_) (fun hc => ?_)
    · replace h := ifp hc h
      refine v_aload_0 hG dX6_judge_32 (q := 33) rfl ?_
      refine gt_RX6_12 hG rfl kk_0 dX6_judge_33 (q := 36) rfl ?_
      refine gt_RX6_64 hG rfl kk_1 dX6_judge_36 (q := 39) rfl ?_
      refine v_iload_2 hG dX6_judge_39 (q := 40) rfl ?_
      obtain ⟨r_3, hr_3, h⟩ := bnd h
      refine v_cV1I hG cvX5_has ml_RX6_78 rfl kk_2 (w_X5_has kk_2 hr_3) (Nat.le_of_ble_eq_true rfl) dX6_judge_40 (q := 43) rfl ?_
      refine v_if_ne hG dX6_judge_43 (tgt := 53) rfl (q := 46) rfl (fun hc => ?_) (fun hc => ?_)
      · replace h := ifn hc h
        refine v_aload_0 hG dX6_judge_53 (q := 54) rfl ?_
        refine gt_RX6_12 hG rfl kk_0 dX6_judge_54 (q := 57) rfl ?_
        refine gt_RX6_64 hG rfl kk_1 dX6_judge_57 (q := 60) rfl ?_
        refine v_iload_2 hG dX6_judge_60 (q := 61) rfl ?_
        refine v_aload_0 hG dX6_judge_61 (q := 62) rfl ?_
        refine gt_RX6_52 hG rfl kk_0 dX6_judge_62 (q := 65) rfl ?_
        obtain ⟨r_4, hr_4, h⟩ := bnd h
        refine v_cV2V hG cvX5_reach ml_RX6_288 rfl kk_2 (w_X5_reach kk_2 kk_58 hr_4) (Nat.le_of_ble_eq_true rfl) dX6_judge_65 (q := 68) rfl ?_
        refine v_iconst hG ci_0 dX6_judge_68 (q := 69) rfl ?_
        refine v_istore_3 hG rfl dX6_judge_69 (q := 70) rfl ?_
        refine v_drop (n := 2) (L' := [some (.ref 0), some (.int x1), none, some (.int (0 : Int32)), none]) rfl ?_
        exact w_X6_judge_l70 hG hR FU _ _ _ h
      · replace h := ifp hc h
        refine v_aload_0 hG dX6_judge_46 (q := 47) rfl ?_
        refine v_ldc hG kc_RX6_59 dX6_judge_47 (q := 49) rfl ?_
        obtain ⟨r_5, hr_5, h⟩ := bnd h
        refine v_cV1I hG cvX6_found ml_RX6_60 rfl kk_0 (w_X6_found hr_5) (Nat.le_of_ble_eq_true rfl) dX6_judge_49 (q := 52) rfl ?_
        exact v_iret hG hR rfl rfl (sp2t h) dX6_judge_52
    · replace h := ifn hc h
      refine v_aload_0 hG dX6_judge_25 (q := 26) rfl ?_
      refine v_ldc hG kc_RX6_247 dX6_judge_26 (q := 28) rfl ?_
      obtain ⟨r_6, hr_6, h⟩ := bnd h
      refine v_cV1I hG cvX6_found ml_RX6_60 rfl kk_0 (w_X6_found hr_6) (Nat.le_of_ble_eq_true rfl) dX6_judge_28 (q := 31) rfl ?_
      exact v_iret hG hR rfl rfl (sp2t h) dX6_judge_31
  · replace h := ifp hc h
    refine v_aload_0 hG dX6_judge_7 (q := 8) rfl ?_
    refine v_ldc hG kc_RX6_59 dX6_judge_8 (q := 10) rfl ?_
    obtain ⟨r_7, hr_7, h⟩ := bnd h
    refine v_cV1I hG cvX6_found ml_RX6_60 rfl kk_0 (w_X6_found hr_7) (Nat.le_of_ble_eq_true rfl) dX6_judge_10 (q := 13) rfl ?_
    exact v_iret hG hR rfl rfl (sp2t h) dX6_judge_13
theorem cvX6_judge : CVo mX6_judge 2 6 := ⟨moX6_judge, mvX6_judge, by decide, _, _, rfl⟩
theorem w_X6_image {E : EB} {M : Mem} {R : Int32 × Mem} (h : f_X6_image M = some R) : Mt E mX6_image [.ref 0] M (PI R.1 R.2) := by
  refine mt_of (L0 := [some (.ref 0)]) (by decide) rfl rfl (fun G hG hR => ?_)
  unfold f_X6_image at h
  refine v_aload_0 hG dX6_image_0 (q := 1) rfl ?_
  refine gt_RX6_19 hG rfl kk_0 dX6_image_1 (q := 4) rfl ?_
  refine v_aload_0 hG dX6_image_4 (q := 5) rfl ?_
  refine gt_RX6_12 hG rfl kk_0 dX6_image_5 (q := 8) rfl ?_
  obtain ⟨r_1, hr_1, h⟩ := bnd h
  refine v_cV1V hG cvX4_become ml_RX6_177 rfl kk_33 (w_X4_become kk_33 kk_1 hr_1) (Nat.le_of_ble_eq_true rfl) dX6_image_8 (q := 11) rfl ?_
  refine v_aload_0 hG dX6_image_11 (q := 12) rfl ?_
  refine v_iconst hG ci_1 dX6_image_12 (q := 13) rfl ?_
  refine pt_RX6_292 hG rfl kk_0 (Or.inr rfl) dX6_image_13 (q := 16) rfl ?_
  refine v_topM (fun M_2 hy => ?_)
  replace h := letv_at hy h
  clear hy
  refine v_iconst hG ci_1 dX6_image_16 (q := 17) rfl ?_
  exact v_iret hG hR rfl rfl (sp2t h) dX6_image_17
theorem cvX6_image : CVo mX6_image 0 6 := ⟨moX6_image, mvX6_image, by decide, _, _, rfl⟩
theorem w_X6_undo {E : EB} {M : Mem} {R : Int32 × Mem} (h : f_X6_undo M = some R) : Mt E mX6_undo [.ref 0] M (PI R.1 R.2) := by
  refine mt_of (L0 := [some (.ref 0)]) (by decide) rfl rfl (fun G hG hR => ?_)
  unfold f_X6_undo at h
  refine v_aload_0 hG dX6_undo_0 (q := 1) rfl ?_
  refine gt_RX6_292 hG rfl kk_0 dX6_undo_1 (q := 4) rfl ?_
  refine v_if_ne hG dX6_undo_4 (tgt := 14) rfl (q := 7) rfl (fun hc => ?_) (fun hc => ?_)
  · replace h := ifn hc h
    refine v_aload_0 hG dX6_undo_14 (q := 15) rfl ?_
    refine gt_RX6_12 hG rfl kk_0 dX6_undo_15 (q := 18) rfl ?_
    refine v_aload_0 hG dX6_undo_18 (q := 19) rfl ?_
    refine gt_RX6_19 hG rfl kk_0 dX6_undo_19 (q := 22) rfl ?_
    obtain ⟨r_1, hr_1, h⟩ := bnd h
    refine v_cV1V hG cvX4_become ml_RX6_177 rfl kk_1 (w_X4_become kk_1 kk_33 hr_1) (Nat.le_of_ble_eq_true rfl) dX6_undo_22 (q := 25) rfl ?_
    refine v_aload_0 hG dX6_undo_25 (q := 26) rfl ?_
    refine gt_RX6_12 hG rfl kk_0 dX6_undo_26 (q := 29) rfl ?_
    refine gt_RX6_142 hG rfl kk_1 dX6_undo_29 (q := 32) rfl ?_
    exact v_iret hG hR rfl rfl (sp2t h) dX6_undo_32
  · replace h := ifp hc h
    refine v_aload_0 hG dX6_undo_7 (q := 8) rfl ?_
    refine v_ldc hG kc_RX6_187 dX6_undo_8 (q := 10) rfl ?_
    obtain ⟨r_2, hr_2, h⟩ := bnd h
    refine v_cV1I hG cvX6_found ml_RX6_60 rfl kk_0 (w_X6_found hr_2) (Nat.le_of_ble_eq_true rfl) dX6_undo_10 (q := 13) rfl ?_
    exact v_iret hG hR rfl rfl (sp2t h) dX6_undo_13
theorem cvX6_undo : CVo mX6_undo 0 6 := ⟨moX6_undo, mvX6_undo, by decide, _, _, rfl⟩
theorem w_X6_tear {E : EB} {M : Mem} {R : Int32 × Mem} (h : f_X6_tear M = some R) : Mt E mX6_tear [.ref 0] M (PI R.1 R.2) := by
  refine mt_of (L0 := [some (.ref 0), none]) (by decide) rfl rfl (fun G hG hR => ?_)
  unfold f_X6_tear at h
  refine v_aload_0 hG dX6_tear_0 (q := 1) rfl ?_
  refine gt_RX6_292 hG rfl kk_0 dX6_tear_1 (q := 4) rfl ?_
  refine v_if_eq hG dX6_tear_4 (tgt := 11) rfl (q := 7) rfl (fun hc => ?_) (fun hc => ?_)
  · replace h := ifp hc h
    refine v_iconst hG ci_0 dX6_tear_11 (q := 12) rfl ?_
    refine v_istore_1 hG rfl dX6_tear_12 (q := 13) rfl ?_
    refine v_aload_0 hG dX6_tear_13 (q := 14) rfl ?_
    refine v_iconst hG ci_0 dX6_tear_14 (q := 15) rfl ?_
    refine pt_RX6_292 hG rfl kk_0 (Or.inl rfl) dX6_tear_15 (q := 18) rfl ?_
    refine v_topM (fun M_1 hy => ?_)
    replace h := letv_at hy h
    clear hy
    refine v_iload_1 hG dX6_tear_18 (q := 19) rfl ?_
    exact v_iret hG hR rfl rfl (sp2t h) dX6_tear_19
  · replace h := ifn hc h
    refine v_iconst hG ci_1 dX6_tear_7 (q := 8) rfl ?_
    refine v_goto hG dX6_tear_8 (tgt := 12) rfl ?_
    refine v_istore_1 hG rfl dX6_tear_12 (q := 13) rfl ?_
    refine v_aload_0 hG dX6_tear_13 (q := 14) rfl ?_
    refine v_iconst hG ci_0 dX6_tear_14 (q := 15) rfl ?_
    refine pt_RX6_292 hG rfl kk_0 (Or.inl rfl) dX6_tear_15 (q := 18) rfl ?_
    refine v_topM (fun M_2 hy => ?_)
    replace h := letv_at hy h
    clear hy
    refine v_iload_1 hG dX6_tear_18 (q := 19) rfl ?_
    exact v_iret hG hR rfl rfl (sp2t h) dX6_tear_19
theorem cvX6_tear : CVo mX6_tear 0 6 := ⟨moX6_tear, mvX6_tear, by decide, _, _, rfl⟩
theorem w_X6_count {E : EB} {x1 : Int32} {M : Mem} {R : Int32 × Mem} (h : f_X6_count x1 M = some R) : Mt E mX6_count [.ref 0, .int x1] M (PI R.1 R.2) := by
  refine mt_of (L0 := [some (.ref 0), some (.int x1)]) (by decide) rfl rfl (fun G hG hR => ?_)
  unfold f_X6_count at h
  refine v_iload_1 hG dX6_count_0 (q := 1) rfl ?_
  by_cases e0 : x1 = (0 : Int32)
  · refine v_tabIn hG dX6_count_1 (tgt := 48) (by rw [e0]; decide) (by rw [e0]; decide) (by rw [e0]; rfl) rfl ?_
    replace h := ifp e0 h
    refine v_aload_0 hG dX6_count_48 (q := 49) rfl ?_
    refine gt_RX6_12 hG rfl kk_0 dX6_count_49 (q := 52) rfl ?_
    refine gt_RX6_64 hG rfl kk_1 dX6_count_52 (q := 55) rfl ?_
    refine gt_RX6_196 hG rfl kk_2 dX6_count_55 (q := 58) rfl ?_
    exact v_iret hG hR rfl rfl (sp2t h) dX6_count_58
  replace h := ifn e0 h
  by_cases e1 : x1 = (1 : Int32)
  · refine v_tabIn hG dX6_count_1 (tgt := 59) (by rw [e1]; decide) (by rw [e1]; decide) (by rw [e1]; rfl) rfl ?_
    replace h := ifp e1 h
    refine v_aload_0 hG dX6_count_59 (q := 60) rfl ?_
    refine gt_RX6_12 hG rfl kk_0 dX6_count_60 (q := 63) rfl ?_
    refine gt_RX6_85 hG rfl kk_1 dX6_count_63 (q := 66) rfl ?_
    refine gt_RX6_174 hG rfl kk_9 dX6_count_66 (q := 69) rfl ?_
    exact v_iret hG hR rfl rfl (sp2t h) dX6_count_69
  replace h := ifn e1 h
  by_cases e2 : x1 = (2 : Int32)
  · refine v_tabIn hG dX6_count_1 (tgt := 70) (by rw [e2]; decide) (by rw [e2]; decide) (by rw [e2]; rfl) rfl ?_
    replace h := ifp e2 h
    refine v_aload_0 hG dX6_count_70 (q := 71) rfl ?_
    refine gt_RX6_12 hG rfl kk_0 dX6_count_71 (q := 74) rfl ?_
    refine gt_RX6_85 hG rfl kk_1 dX6_count_74 (q := 77) rfl ?_
    obtain ⟨r_1, hr_1, h⟩ := bnd h
    refine v_cV0I hG cvX0_howManyLettered ml_RX6_296 rfl kk_9 (w_X0_howManyLettered kk_9 hr_1) (Nat.le_of_ble_eq_true rfl) dX6_count_77 (q := 80) rfl ?_
    exact v_iret hG hR rfl rfl (sp2t h) dX6_count_80
  replace h := ifn e2 h
  by_cases e3 : x1 = (3 : Int32)
  · refine v_tabIn hG dX6_count_1 (tgt := 81) (by rw [e3]; decide) (by rw [e3]; decide) (by rw [e3]; rfl) rfl ?_
    replace h := ifp e3 h
    refine v_aload_0 hG dX6_count_81 (q := 82) rfl ?_
    refine gt_RX6_12 hG rfl kk_0 dX6_count_82 (q := 85) rfl ?_
    refine gt_RX6_64 hG rfl kk_1 dX6_count_85 (q := 88) rfl ?_
    obtain ⟨r_2, hr_2, h⟩ := bnd h
    refine v_cV0I hG cvX5_allPurses ml_RX6_162 rfl kk_2 (w_X5_allPurses kk_2 hr_2) (Nat.le_of_ble_eq_true rfl) dX6_count_88 (q := 91) rfl ?_
    exact v_iret hG hR rfl rfl (sp2t h) dX6_count_91
  replace h := ifn e3 h
  by_cases e4 : x1 = (4 : Int32)
  · refine v_tabIn hG dX6_count_1 (tgt := 92) (by rw [e4]; decide) (by rw [e4]; decide) (by rw [e4]; rfl) rfl ?_
    replace h := ifp e4 h
    refine v_aload_0 hG dX6_count_92 (q := 93) rfl ?_
    refine gt_RX6_12 hG rfl kk_0 dX6_count_93 (q := 96) rfl ?_
    refine gt_RX6_85 hG rfl kk_1 dX6_count_96 (q := 99) rfl ?_
    obtain ⟨r_3, hr_3, h⟩ := bnd h
    refine v_cV0I hG cvX0_howManyLies ml_RX6_299 rfl kk_9 (w_X0_howManyLies kk_9 hr_3) (Nat.le_of_ble_eq_true rfl) dX6_count_99 (q := 102) rfl ?_
    exact v_iret hG hR rfl rfl (sp2t h) dX6_count_102
  replace h := ifn e4 h
  by_cases e5 : x1 = (5 : Int32)
  · refine v_tabIn hG dX6_count_1 (tgt := 103) (by rw [e5]; decide) (by rw [e5]; decide) (by rw [e5]; rfl) rfl ?_
    replace h := ifp e5 h
    refine v_aload_0 hG dX6_count_103 (q := 104) rfl ?_
    refine gt_RX6_25 hG rfl kk_0 dX6_count_104 (q := 107) rfl ?_
    refine gt_RX6_233 hG rfl kk_49 dX6_count_107 (q := 110) rfl ?_
    exact v_iret hG hR rfl rfl (sp2t h) dX6_count_110
  replace h := ifn e5 h
  by_cases e6 : x1 = (6 : Int32)
  · refine v_tabIn hG dX6_count_1 (tgt := 111) (by rw [e6]; decide) (by rw [e6]; decide) (by rw [e6]; rfl) rfl ?_
    replace h := ifp e6 h
    refine v_aload_0 hG dX6_count_111 (q := 112) rfl ?_
    refine gt_RX6_12 hG rfl kk_0 dX6_count_112 (q := 115) rfl ?_
    refine gt_RX6_230 hG rfl kk_1 dX6_count_115 (q := 118) rfl ?_
    exact v_iret hG hR rfl rfl (sp2t h) dX6_count_118
  replace h := ifn e6 h
  by_cases e7 : x1 = (7 : Int32)
  · refine v_tabIn hG dX6_count_1 (tgt := 119) (by rw [e7]; decide) (by rw [e7]; decide) (by rw [e7]; rfl) rfl ?_
    replace h := ifp e7 h
    refine v_aload_0 hG dX6_count_119 (q := 120) rfl ?_
    refine gt_RX6_12 hG rfl kk_0 dX6_count_120 (q := 123) rfl ?_
    obtain ⟨r_4, hr_4, h⟩ := bnd h
    refine v_cV0I hG cvX4_howManySpots ml_RX6_302 rfl kk_1 (w_X4_howManySpots kk_1 hr_4) (Nat.le_of_ble_eq_true rfl) dX6_count_123 (q := 126) rfl ?_
    exact v_iret hG hR rfl rfl (sp2t h) dX6_count_126
  replace h := ifn e7 h
  have u0 := sw_ne (n := 0) e0
  have u1 := sw_ne (n := 1) e1
  have u2 := sw_ne (n := 2) e2
  have u3 := sw_ne (n := 3) e3
  have u4 := sw_ne (n := 4) e4
  have u5 := sw_ne (n := 5) e5
  have u6 := sw_ne (n := 6) e6
  have u7 := sw_ne (n := 7) e7
  refine v_tabOut hG dX6_count_1 (tgt := 127) (by omega) rfl ?_
  refine v_aload_0 hG dX6_count_127 (q := 128) rfl ?_
  refine v_ldc hG kc_RX6_59 dX6_count_128 (q := 130) rfl ?_
  obtain ⟨r_5, hr_5, h⟩ := bnd h
  refine v_cV1I hG cvX6_found ml_RX6_60 rfl kk_0 (w_X6_found hr_5) (Nat.le_of_ble_eq_true rfl) dX6_count_130 (q := 133) rfl ?_
  exact v_iret hG hR rfl rfl (sp2t h) dX6_count_133
theorem cvX6_count : CVo mX6_count 1 6 := ⟨moX6_count, mvX6_count, by decide, _, _, rfl⟩
theorem w_X6_status_b33 {E : EB} {G : GB} (hG : Gd E mX6_status G) {M : Mem} {R : Int32 × Mem} (hR : Rt E mX6_status (PI R.1 R.2) G) {k33 : Int32 → Int32 → Mem → Option (Int32 × Mem)} (hk33 : ∀ (x2 : Int32) (x3 : Int32) (M : Mem), k33 x2 x3 M = some R → V E G 33 [some (.ref 0), none, some (.int x2), some (.int x3)] [] M) {x2 : Int32} {x3 : Int32} (h : f_X6_status_b33 k33 x2 x3 M = some R) : V E G 33 [some (.ref 0), none, some (.int x2), some (.int x3)] [] M := by
  unfold f_X6_status_b33 at h
  refine v_iload_3 hG dX6_status_33 (q := 34) rfl ?_
  refine v_bipush hG cb_7 dX6_status_34 (q := 36) rfl ?_
  refine v_icmp_ge hG dX6_status_36 (tgt := 54) rfl (q := 39) rfl (fun hc => ?_) (fun hc => ?_)
  · replace h := ifp hc h
    refine v_iload_2 hG dX6_status_54 (q := 55) rfl ?_
    exact v_iret hG hR rfl rfl (sp2t h) dX6_status_55
  · replace h := ifn hc h
    refine v_iload_2 hG dX6_status_39 (q := 40) rfl ?_
    refine v_aload_0 hG dX6_status_40 (q := 41) rfl ?_
    refine gt_RX6_45 hG rfl kk_0 dX6_status_41 (q := 44) rfl ?_
    refine v_iload_3 hG dX6_status_44 (q := 45) rfl ?_
    obtain ⟨c_4, h⟩ := ck_some h
    refine v_iald hG kk_56 rfl c_4 dX6_status_45 (q := 46) rfl ?_
    refine v_iadd hG dX6_status_46 (q := 47) rfl ?_
    refine v_topi (fun x2_5 hy => ?_)
    replace h := letv_at hy h
    clear hy
    refine v_istore_2 hG rfl dX6_status_47 (q := 48) rfl ?_
    refine v_iinc_3 hG rfl dX6_status_48 (congrArg _ ci_1) (q := 51) rfl ?_
    refine v_goto hG dX6_status_51 (tgt := 33) rfl ?_
    exact hk33 _ _ _ h
theorem w_X6_status_l33 {E : EB} {G : GB} (hG : Gd E mX6_status G) {R : Int32 × Mem} (hR : Rt E mX6_status (PI R.1 R.2) G) : ∀ (n : Nat) (x2 : Int32) (x3 : Int32) (M : Mem), f_X6_status_l33 n x2 x3 M = some R → V E G 33 [some (.ref 0), none, some (.int x2), some (.int x3)] [] M := by
  intro n
  induction n with
  | zero => intro x2 x3 M h; cases h
  | succ n ih => intro x2 x3 M h; exact w_X6_status_b33 hG hR ih h
theorem w_X6_status {E : EB} {x1 : Int32} {M : Mem} {R : Int32 × Mem} (h : f_X6_status x1 M = some R) : Mt E mX6_status [.ref 0, .int x1] M (PI R.1 R.2) := by
  refine mt_of (L0 := [some (.ref 0), some (.int x1), none, none]) (by decide) rfl rfl (fun G hG hR => ?_)
  unfold f_X6_status at h
  refine v_iload_1 hG dX6_status_0 (q := 1) rfl ?_
  refine v_if_lt hG dX6_status_1 (tgt := 17) rfl (q := 4) rfl (fun hc => ?_) (fun hc => ?_)
  · replace h := ifp hc h
    refine v_iload_1 hG dX6_status_17 (q := 18) rfl ?_
    refine v_iconst hG ci_m1 dX6_status_18 (q := 19) rfl ?_
    refine v_icmp_eq hG dX6_status_19 (tgt := 29) rfl (q := 22) rfl (fun hc => ?_) (fun hc => ?_)
    · replace h := ifp hc h
      refine v_iconst hG ci_0 dX6_status_29 (q := 30) rfl ?_
      refine v_istore_2 hG rfl dX6_status_30 (q := 31) rfl ?_
      refine v_iconst hG ci_0 dX6_status_31 (q := 32) rfl ?_
      refine v_istore_3 hG rfl dX6_status_32 (q := 33) rfl ?_
      refine v_drop (n := 1) (L' := [some (.ref 0), none, some (.int (0 : Int32)), some (.int (0 : Int32))]) rfl ?_
      exact w_X6_status_l33 hG hR FU _ _ _ h
    · replace h := ifn hc h
      refine v_aload_0 hG dX6_status_22 (q := 23) rfl ?_
      refine v_ldc hG kc_RX6_59 dX6_status_23 (q := 25) rfl ?_
      obtain ⟨r_1, hr_1, h⟩ := bnd h
      refine v_cV1I hG cvX6_found ml_RX6_60 rfl kk_0 (w_X6_found hr_1) (Nat.le_of_ble_eq_true rfl) dX6_status_25 (q := 28) rfl ?_
      exact v_iret hG hR rfl rfl (sp2t h) dX6_status_28
  · replace h := ifn hc h
    refine v_iload_1 hG dX6_status_4 (q := 5) rfl ?_
    refine v_bipush hG cb_7 dX6_status_5 (q := 7) rfl ?_
    refine v_icmp_ge hG dX6_status_7 (tgt := 17) rfl (q := 10) rfl (fun hc => ?_) (fun hc => ?_)
    · replace h := ifp hc h
      refine v_iload_1 hG dX6_status_17 (q := 18) rfl ?_
      refine v_iconst hG ci_m1 dX6_status_18 (q := 19) rfl ?_
      refine v_icmp_eq hG dX6_status_19 (tgt := 29) rfl (q := 22) rfl (fun hc => ?_) (fun hc => ?_)
      · replace h := ifp hc h
        refine v_iconst hG ci_0 dX6_status_29 (q := 30) rfl ?_
        refine v_istore_2 hG rfl dX6_status_30 (q := 31) rfl ?_
        refine v_iconst hG ci_0 dX6_status_31 (q := 32) rfl ?_
        refine v_istore_3 hG rfl dX6_status_32 (q := 33) rfl ?_
        refine v_drop (n := 1) (L' := [some (.ref 0), none, some (.int (0 : Int32)), some (.int (0 : Int32))]) rfl ?_
        exact w_X6_status_l33 hG hR FU _ _ _ h
      · replace h := ifn hc h
        refine v_aload_0 hG dX6_status_22 (q := 23) rfl ?_
        refine v_ldc hG kc_RX6_59 dX6_status_23 (q := 25) rfl ?_
        obtain ⟨r_2, hr_2, h⟩ := bnd h
        refine v_cV1I hG cvX6_found ml_RX6_60 rfl kk_0 (w_X6_found hr_2) (Nat.le_of_ble_eq_true rfl) dX6_status_25 (q := 28) rfl ?_
        exact v_iret hG hR rfl rfl (sp2t h) dX6_status_28
    · replace h := ifn hc h
      refine v_aload_0 hG dX6_status_10 (q := 11) rfl ?_
      refine gt_RX6_45 hG rfl kk_0 dX6_status_11 (q := 14) rfl ?_
      refine v_iload_1 hG dX6_status_14 (q := 15) rfl ?_
      obtain ⟨c_3, h⟩ := ck_some h
      refine v_iald hG kk_56 rfl c_3 dX6_status_15 (q := 16) rfl ?_
      exact v_iret hG hR rfl rfl (sp2t h) dX6_status_16
theorem cvX6_status : CVo mX6_status 1 6 := ⟨moX6_status, mvX6_status, by decide, _, _, rfl⟩

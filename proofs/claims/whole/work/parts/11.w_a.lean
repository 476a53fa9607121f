theorem w_X0_become {E : EB} {r0 : Nat} {r1 : Nat} (k0 : IsK r0 0) (k1 : IsK r1 0) {M : Mem} {R : Mem} (h : f_X0_become r0 r1 M = some R) : Mt E mX0_become [.ref r0, .ref r1] M (PV R) := by
  refine mt_of (L0 := [some (.ref r0), some (.ref r1)]) (by decide) rfl rfl (fun G hG hR => ?_)
  unfold f_X0_become at h
  refine v_aload_0 hG dX0_become_0 (q := 1) rfl ?_
  refine v_aload_1 hG dX0_become_1 (q := 2) rfl ?_
  refine gt_RX0_30 hG rfl k1 dX0_become_2 (q := 5) rfl ?_
  refine pt_RX0_30 hG rfl k0 dX0_become_5 (q := 8) rfl ?_
  refine v_topM (fun M_1 hy => ?_)
  replace h := letv_at hy h
  clear hy
  refine v_aload_1 hG dX0_become_8 (q := 9) rfl ?_
  refine gt_RX0_9 hG rfl k1 dX0_become_9 (q := 12) rfl ?_
  refine v_iconst hG ci_0 dX0_become_12 (q := 13) rfl ?_
  refine v_aload_0 hG dX0_become_13 (q := 14) rfl ?_
  refine gt_RX0_9 hG rfl k0 dX0_become_14 (q := 17) rfl ?_
  refine v_iconst hG ci_0 dX0_become_17 (q := 18) rfl ?_
  refine v_bipush hG cb_8 dX0_become_18 (q := 20) rfl ?_
  obtain ⟨c_3, h⟩ := ck_some h
  refine v_copy hG ac_RX0_34 rfl rfl ((k1).p1) ((k1).pl1) ((k0).p1) ((k0).pl1) c_3 (Nat.le_of_ble_eq_true rfl) dX0_become_20 (q := 23) rfl ?_
  refine v_topM (fun M_2 hy => ?_)
  replace h := letv_at hy h
  clear hy
  refine v_aload_1 hG dX0_become_23 (q := 24) rfl ?_
  refine gt_RX0_15 hG rfl k1 dX0_become_24 (q := 27) rfl ?_
  refine v_iconst hG ci_0 dX0_become_27 (q := 28) rfl ?_
  refine v_aload_0 hG dX0_become_28 (q := 29) rfl ?_
  refine gt_RX0_15 hG rfl k0 dX0_become_29 (q := 32) rfl ?_
  refine v_iconst hG ci_0 dX0_become_32 (q := 33) rfl ?_
  refine v_bipush hG cb_8 dX0_become_33 (q := 35) rfl ?_
  obtain ⟨c_5, h⟩ := ck_some h
  refine v_copy hG ac_RX0_34 rfl rfl ((k1).p2) ((k1).pl2) ((k0).p2) ((k0).pl2) c_5 (Nat.le_of_ble_eq_true rfl) dX0_become_35 (q := 38) rfl ?_
  refine v_topM (fun M_4 hy => ?_)
  replace h := letv_at hy h
  clear hy
  refine v_aload_1 hG dX0_become_38 (q := 39) rfl ?_
  refine gt_RX0_18 hG rfl k1 dX0_become_39 (q := 42) rfl ?_
  refine v_iconst hG ci_0 dX0_become_42 (q := 43) rfl ?_
  refine v_aload_0 hG dX0_become_43 (q := 44) rfl ?_
  refine gt_RX0_18 hG rfl k0 dX0_become_44 (q := 47) rfl ?_
  refine v_iconst hG ci_0 dX0_become_47 (q := 48) rfl ?_
  refine v_bipush hG cb_8 dX0_become_48 (q := 50) rfl ?_
  obtain ⟨c_7, h⟩ := ck_some h
  refine v_copy hG ac_RX0_34 rfl rfl ((k1).p3) ((k1).pl3) ((k0).p3) ((k0).pl3) c_7 (Nat.le_of_ble_eq_true rfl) dX0_become_50 (q := 53) rfl ?_
  refine v_topM (fun M_6 hy => ?_)
  replace h := letv_at hy h
  clear hy
  refine v_aload_1 hG dX0_become_53 (q := 54) rfl ?_
  refine gt_RX0_21 hG rfl k1 dX0_become_54 (q := 57) rfl ?_
  refine v_iconst hG ci_0 dX0_become_57 (q := 58) rfl ?_
  refine v_aload_0 hG dX0_become_58 (q := 59) rfl ?_
  refine gt_RX0_21 hG rfl k0 dX0_become_59 (q := 62) rfl ?_
  refine v_iconst hG ci_0 dX0_become_62 (q := 63) rfl ?_
  refine v_bipush hG cb_8 dX0_become_63 (q := 65) rfl ?_
  obtain ⟨c_9, h⟩ := ck_some h
  refine v_copy hG ac_RX0_34 rfl rfl ((k1).p4) ((k1).pl4) ((k0).p4) ((k0).pl4) c_9 (Nat.le_of_ble_eq_true rfl) dX0_become_65 (q := 68) rfl ?_
  refine v_topM (fun M_8 hy => ?_)
  replace h := letv_at hy h
  clear hy
  refine v_aload_1 hG dX0_become_68 (q := 69) rfl ?_
  refine gt_RX0_24 hG rfl k1 dX0_become_69 (q := 72) rfl ?_
  refine v_iconst hG ci_0 dX0_become_72 (q := 73) rfl ?_
  refine v_aload_0 hG dX0_become_73 (q := 74) rfl ?_
  refine gt_RX0_24 hG rfl k0 dX0_become_74 (q := 77) rfl ?_
  refine v_iconst hG ci_0 dX0_become_77 (q := 78) rfl ?_
  refine v_bipush hG cb_8 dX0_become_78 (q := 80) rfl ?_
  obtain ⟨c_11, h⟩ := ck_some h
  refine v_copy hG ac_RX0_34 rfl rfl ((k1).p5) ((k1).pl5) ((k0).p5) ((k0).pl5) c_11 (Nat.le_of_ble_eq_true rfl) dX0_become_80 (q := 83) rfl ?_
  refine v_topM (fun M_10 hy => ?_)
  replace h := letv_at hy h
  clear hy
  refine v_aload_1 hG dX0_become_83 (q := 84) rfl ?_
  refine gt_RX0_27 hG rfl k1 dX0_become_84 (q := 87) rfl ?_
  refine v_iconst hG ci_0 dX0_become_87 (q := 88) rfl ?_
  refine v_aload_0 hG dX0_become_88 (q := 89) rfl ?_
  refine gt_RX0_27 hG rfl k0 dX0_become_89 (q := 92) rfl ?_
  refine v_iconst hG ci_0 dX0_become_92 (q := 93) rfl ?_
  refine v_bipush hG cb_8 dX0_become_93 (q := 95) rfl ?_
  obtain ⟨c_13, h⟩ := ck_some h
  refine v_copy hG ac_RX0_34 rfl rfl ((k1).p6) ((k1).pl6) ((k0).p6) ((k0).pl6) c_13 (Nat.le_of_ble_eq_true rfl) dX0_become_95 (q := 98) rfl ?_
  refine v_topM (fun M_12 hy => ?_)
  replace h := letv_at hy h
  clear hy
  exact v_vret hG hR rfl (spv h) dX0_become_98
theorem cvX0_become : CVo mX0_become 1 0 := ⟨moX0_become, mvX0_become, by decide, _, _, rfl⟩
theorem w_X0_has {E : EB} {r0 : Nat} {x1 : Int32} (k0 : IsK r0 0) {M : Mem} {R : Bool} (h : f_X0_has r0 x1 M = some R) : Mt E mX0_has [.ref r0, .int x1] M (PI (b2i R) M) := by
  refine mt_of (L0 := [some (.ref r0), some (.int x1)]) (by decide) rfl rfl (fun G hG hR => ?_)
  unfold f_X0_has at h
  refine v_iload_1 hG dX0_has_0 (q := 1) rfl ?_
  refine v_if_lt hG dX0_has_1 (tgt := 16) rfl (q := 4) rfl (fun hc => ?_) (fun hc => ?_)
  · replace h := ifp hc h
    refine v_iconst hG ci_0 dX0_has_16 (q := 17) rfl ?_
    exact v_iret hG hR rfl rfl (sp1b h) dX0_has_17
  · replace h := ifn hc h
    refine v_iload_1 hG dX0_has_4 (q := 5) rfl ?_
    refine v_aload_0 hG dX0_has_5 (q := 6) rfl ?_
    refine gt_RX0_30 hG rfl k0 dX0_has_6 (q := 9) rfl ?_
    refine v_icmp_ge hG dX0_has_9 (tgt := 16) rfl (q := 12) rfl (fun hc => ?_) (fun hc => ?_)
    · replace h := ifp hc h
      refine v_iconst hG ci_0 dX0_has_16 (q := 17) rfl ?_
      exact v_iret hG hR rfl rfl (sp1b h) dX0_has_17
    · replace h := ifn hc h
      refine v_iconst hG ci_1 dX0_has_12 (q := 13) rfl ?_
      refine v_goto hG dX0_has_13 (tgt := 17) rfl ?_
      exact v_iret hG hR rfl rfl (sp1b h) dX0_has_17
theorem cvX0_has : CVo mX0_has 1 0 := ⟨moX0_has, mvX0_has, by decide, _, _, rfl⟩
theorem w_X0_areTwo {E : EB} {r0 : Nat} {x1 : Int32} {x2 : Int32} (k0 : IsK r0 0) {M : Mem} {R : Bool} (h : f_X0_areTwo r0 x1 x2 M = some R) : Mt E mX0_areTwo [.ref r0, .int x1, .int x2] M (PI (b2i R) M) := by
  refine mt_of (L0 := [some (.ref r0), some (.int x1), some (.int x2)]) (by decide) rfl rfl (fun G hG hR => ?_)
  unfold f_X0_areTwo at h
  refine v_aload_0 hG dX0_areTwo_0 (q := 1) rfl ?_
  refine v_iload_1 hG dX0_areTwo_1 (q := 2) rfl ?_
  obtain ⟨r_1, hr_1, h⟩ := bnd h
  refine v_cV1I hG cvX0_has ml_RX0_40 rfl k0 (w_X0_has k0 hr_1) (Nat.le_of_ble_eq_true rfl) dX0_areTwo_2 (q := 5) rfl ?_
  refine v_if_eq hG dX0_areTwo_5 (tgt := 25) rfl (q := 8) rfl (fun hc => ?_) (fun hc => ?_)
  · replace h := ifp hc h
    refine v_iconst hG ci_0 dX0_areTwo_25 (q := 26) rfl ?_
    exact v_iret hG hR rfl rfl (sp1b h) dX0_areTwo_26
  · replace h := ifn hc h
    refine v_aload_0 hG dX0_areTwo_8 (q := 9) rfl ?_
    refine v_iload_2 hG dX0_areTwo_9 (q := 10) rfl ?_
    obtain ⟨r_2, hr_2, h⟩ := bnd h
    refine v_cV1I hG cvX0_has ml_RX0_40 rfl k0 (w_X0_has k0 hr_2) (Nat.le_of_ble_eq_true rfl) dX0_areTwo_10 (q := 13) rfl ?_
    refine v_if_eq hG dX0_areTwo_13 (tgt := 25) rfl (q := 16) rfl (fun hc => ?_) (fun hc => ?_)
    · replace h := ifp hc h
      refine v_iconst hG ci_0 dX0_areTwo_25 (q := 26) rfl ?_
      exact v_iret hG hR rfl rfl (sp1b h) dX0_areTwo_26
    · replace h := ifn hc h
      refine v_iload_1 hG dX0_areTwo_16 (q := 17) rfl ?_
      refine v_iload_2 hG dX0_areTwo_17 (q := 18) rfl ?_
      refine v_icmp_eq hG dX0_areTwo_18 (tgt := 25) rfl (q := 21) rfl (fun hc => ?_) (fun hc => ?_)
      · replace h := ifp hc h
        refine v_iconst hG ci_0 dX0_areTwo_25 (q := 26) rfl ?_
        exact v_iret hG hR rfl rfl (sp1b h) dX0_areTwo_26
      · replace h := ifn hc h
        refine v_iconst hG ci_1 dX0_areTwo_21 (q := 22) rfl ?_
        refine v_goto hG dX0_areTwo_22 (tgt := 26) rfl ?_
        exact v_iret hG hR rfl rfl (sp1b h) dX0_areTwo_26
theorem cvX0_areTwo : CVo mX0_areTwo 2 0 := ⟨moX0_areTwo, mvX0_areTwo, by decide, _, _, rfl⟩
theorem w_X0_addOne {E : EB} {r0 : Nat} {x1 : Int32} (k0 : IsK r0 0) {M : Mem} {R : Int32 × Mem} (h : f_X0_addOne r0 x1 M = some R) : Mt E mX0_addOne [.ref r0, .int x1] M (PI R.1 R.2) := by
  refine mt_of (L0 := [some (.ref r0), some (.int x1), none]) (by decide) rfl rfl (fun G hG hR => ?_)
  unfold f_X0_addOne at h
  refine v_aload_0 hG dX0_addOne_0 (q := 1) rfl ?_
  refine gt_RX0_30 hG rfl k0 dX0_addOne_1 (q := 4) rfl ?_
  refine v_bipush hG cb_8 dX0_addOne_4 (q := 6) rfl ?_
  refine v_icmp_lt hG dX0_addOne_6 (tgt := 11) rfl (q := 9) rfl (fun hc => ?_) (fun hc => ?_)
  · replace h := ifp hc h
    refine v_aload_0 hG dX0_addOne_11 (q := 12) rfl ?_
    refine gt_RX0_30 hG rfl k0 dX0_addOne_12 (q := 15) rfl ?_
    refine v_topi (fun x2_1 hy => ?_)
    replace h := letv_at hy h
    clear hy
    refine v_istore_2 hG rfl dX0_addOne_15 (q := 16) rfl ?_
    refine v_aload_0 hG dX0_addOne_16 (q := 17) rfl ?_
    refine v_dup hG rfl dX0_addOne_17 (q := 18) rfl ?_
    refine gt_RX0_30 hG rfl k0 dX0_addOne_18 (q := 21) rfl ?_
    refine v_iconst hG ci_1 dX0_addOne_21 (q := 22) rfl ?_
    refine v_iadd hG dX0_addOne_22 (q := 23) rfl ?_
    refine pt_RX0_30 hG rfl k0 dX0_addOne_23 (q := 26) rfl ?_
    refine v_topM (fun M_2 hy => ?_)
    replace h := letv_at hy h
    clear hy
    refine v_aload_0 hG dX0_addOne_26 (q := 27) rfl ?_
    refine gt_RX0_9 hG rfl k0 dX0_addOne_27 (q := 30) rfl ?_
    refine v_iload_2 hG dX0_addOne_30 (q := 31) rfl ?_
    refine v_iconst hG ci_0 dX0_addOne_31 (q := 32) rfl ?_
    obtain ⟨c_3, h⟩ := ck_some h
    refine v_iast hG ((k0).p1) ((k0).pl1) c_3 dX0_addOne_32 (q := 33) rfl ?_
    refine v_topM (fun M_4 hy => ?_)
    replace h := letv_at hy h
    clear hy
    refine v_aload_0 hG dX0_addOne_33 (q := 34) rfl ?_
    refine gt_RX0_15 hG rfl k0 dX0_addOne_34 (q := 37) rfl ?_
    refine v_iload_2 hG dX0_addOne_37 (q := 38) rfl ?_
    refine v_iconst hG ci_0 dX0_addOne_38 (q := 39) rfl ?_
    obtain ⟨c_5, h⟩ := ck_some h
    refine v_iast hG ((k0).p2) ((k0).pl2) c_5 dX0_addOne_39 (q := 40) rfl ?_
    refine v_topM (fun M_6 hy => ?_)
    replace h := letv_at hy h
    clear hy
    refine v_aload_0 hG dX0_addOne_40 (q := 41) rfl ?_
    refine gt_RX0_18 hG rfl k0 dX0_addOne_41 (q := 44) rfl ?_
    refine v_iload_2 hG dX0_addOne_44 (q := 45) rfl ?_
    refine v_iload_1 hG dX0_addOne_45 (q := 46) rfl ?_
    obtain ⟨c_7, h⟩ := ck_some h
    refine v_iast hG ((k0).p3) ((k0).pl3) c_7 dX0_addOne_46 (q := 47) rfl ?_
    refine v_topM (fun M_8 hy => ?_)
    replace h := letv_at hy h
    clear hy
    refine v_aload_0 hG dX0_addOne_47 (q := 48) rfl ?_
    refine gt_RX0_21 hG rfl k0 dX0_addOne_48 (q := 51) rfl ?_
    refine v_iload_2 hG dX0_addOne_51 (q := 52) rfl ?_
    refine v_bipush hG cb_100 dX0_addOne_52 (q := 54) rfl ?_
    obtain ⟨c_9, h⟩ := ck_some h
    refine v_iast hG ((k0).p4) ((k0).pl4) c_9 dX0_addOne_54 (q := 55) rfl ?_
    refine v_topM (fun M_10 hy => ?_)
    replace h := letv_at hy h
    clear hy
    refine v_aload_0 hG dX0_addOne_55 (q := 56) rfl ?_
    refine gt_RX0_24 hG rfl k0 dX0_addOne_56 (q := 59) rfl ?_
    refine v_iload_2 hG dX0_addOne_59 (q := 60) rfl ?_
    refine v_iconst hG ci_0 dX0_addOne_60 (q := 61) rfl ?_
    obtain ⟨c_11, h⟩ := ck_some h
    refine v_iast hG ((k0).p5) ((k0).pl5) c_11 dX0_addOne_61 (q := 62) rfl ?_
    refine v_topM (fun M_12 hy => ?_)
    replace h := letv_at hy h
    clear hy
    refine v_aload_0 hG dX0_addOne_62 (q := 63) rfl ?_
    refine gt_RX0_27 hG rfl k0 dX0_addOne_63 (q := 66) rfl ?_
    refine v_iload_2 hG dX0_addOne_66 (q := 67) rfl ?_
    refine v_iconst hG ci_0 dX0_addOne_67 (q := 68) rfl ?_
    obtain ⟨c_13, h⟩ := ck_some h
    refine v_iast hG ((k0).p6) ((k0).pl6) c_13 dX0_addOne_68 (q := 69) rfl ?_
    refine v_topM (fun M_14 hy => ?_)
    replace h := letv_at hy h
    clear hy
    refine v_iload_2 hG dX0_addOne_69 (q := 70) rfl ?_
    exact v_iret hG hR rfl rfl (sp2t h) dX0_addOne_70
  · replace h := ifn hc h
    refine v_iconst hG ci_m1 dX0_addOne_9 (q := 10) rfl ?_
    exact v_iret hG hR rfl rfl (sp2t h) dX0_addOne_10
theorem cvX0_addOne : CVo mX0_addOne 1 0 := ⟨moX0_addOne, mvX0_addOne, by decide, _, _, rfl⟩
theorem w_X0_row {E : EB} {r0 : Nat} {x1 : Int32} (k0 : IsK r0 0) {M : Mem} {R : (Option Nat)} (h : f_X0_row r0 x1 M = some R) : Mt E mX0_row [.ref r0, .int x1] M (PR R M) := by
  refine mt_of (L0 := [some (.ref r0), some (.int x1)]) (by decide) rfl rfl (fun G hG hR => ?_)
  unfold f_X0_row at h
  refine v_iload_1 hG dX0_row_0 (q := 1) rfl ?_
  by_cases e0 : x1 = (0 : Int32)
  · refine v_tabIn hG dX0_row_1 (tgt := 36) (by rw [e0]; decide) (by rw [e0]; decide) (by rw [e0]; rfl) rfl ?_
    replace h := ifp e0 h
    refine v_aload_0 hG dX0_row_36 (q := 37) rfl ?_
    refine gt_RX0_9 hG rfl k0 dX0_row_37 (q := 40) rfl ?_
    exact v_aret hG hR rfl (Or.inr ⟨_, rfl⟩) (Or.inr ⟨_, rfl⟩) ⟨congrArg oref (Option.some.inj h), rfl⟩ dX0_row_40
  replace h := ifn e0 h
  by_cases e1 : x1 = (1 : Int32)
  · refine v_tabIn hG dX0_row_1 (tgt := 41) (by rw [e1]; decide) (by rw [e1]; decide) (by rw [e1]; rfl) rfl ?_
    replace h := ifp e1 h
    refine v_aload_0 hG dX0_row_41 (q := 42) rfl ?_
    refine gt_RX0_15 hG rfl k0 dX0_row_42 (q := 45) rfl ?_
    exact v_aret hG hR rfl (Or.inr ⟨_, rfl⟩) (Or.inr ⟨_, rfl⟩) ⟨congrArg oref (Option.some.inj h), rfl⟩ dX0_row_45
  replace h := ifn e1 h
  by_cases e2 : x1 = (2 : Int32)
  · refine v_tabIn hG dX0_row_1 (tgt := 46) (by rw [e2]; decide) (by rw [e2]; decide) (by rw [e2]; rfl) rfl ?_
    replace h := ifp e2 h
    refine v_aload_0 hG dX0_row_46 (q := 47) rfl ?_
    refine gt_RX0_18 hG rfl k0 dX0_row_47 (q := 50) rfl ?_
    exact v_aret hG hR rfl (Or.inr ⟨_, rfl⟩) (Or.inr ⟨_, rfl⟩) ⟨congrArg oref (Option.some.inj h), rfl⟩ dX0_row_50
  replace h := ifn e2 h
  by_cases e3 : x1 = (3 : Int32)
  · refine v_tabIn hG dX0_row_1 (tgt := 51) (by rw [e3]; decide) (by rw [e3]; decide) (by rw [e3]; rfl) rfl ?_
    replace h := ifp e3 h
    refine v_aload_0 hG dX0_row_51 (q := 52) rfl ?_
    refine gt_RX0_21 hG rfl k0 dX0_row_52 (q := 55) rfl ?_
    exact v_aret hG hR rfl (Or.inr ⟨_, rfl⟩) (Or.inr ⟨_, rfl⟩) ⟨congrArg oref (Option.some.inj h), rfl⟩ dX0_row_55
  replace h := ifn e3 h
  by_cases e4 : x1 = (4 : Int32)
  · refine v_tabIn hG dX0_row_1 (tgt := 56) (by rw [e4]; decide) (by rw [e4]; decide) (by rw [e4]; rfl) rfl ?_
    replace h := ifp e4 h
    refine v_aload_0 hG dX0_row_56 (q := 57) rfl ?_
    refine gt_RX0_24 hG rfl k0 dX0_row_57 (q := 60) rfl ?_
    exact v_aret hG hR rfl (Or.inr ⟨_, rfl⟩) (Or.inr ⟨_, rfl⟩) ⟨congrArg oref (Option.some.inj h), rfl⟩ dX0_row_60
  replace h := ifn e4 h
  have u0 := sw_ne (n := 0) e0
  have u1 := sw_ne (n := 1) e1
  have u2 := sw_ne (n := 2) e2
  have u3 := sw_ne (n := 3) e3
  have u4 := sw_ne (n := 4) e4
  refine v_tabOut hG dX0_row_1 (tgt := 61) (by omega) rfl ?_
  refine v_null hG dX0_row_61 (q := 62) rfl ?_
  exact v_aret hG hR rfl (Or.inr ⟨_, rfl⟩) (Or.inl rfl) ⟨congrArg oref (Option.some.inj h), rfl⟩ dX0_row_62
theorem cvX0_row : CVo mX0_row 1 0 := ⟨moX0_row, mvX0_row, by decide, _, _, rfl⟩
theorem w_X0_isTied {E : EB} {r0 : Nat} {x1 : Int32} {x2 : Int32} (k0 : IsK r0 0) {M : Mem} {R : Bool} (h : f_X0_isTied r0 x1 x2 M = some R) : Mt E mX0_isTied [.ref r0, .int x1, .int x2] M (PI (b2i R) M) := by
  refine mt_of (L0 := [some (.ref r0), some (.int x1), some (.int x2)]) (by decide) rfl rfl (fun G hG hR => ?_)
  unfold f_X0_isTied at h
  refine v_aload_0 hG dX0_isTied_0 (q := 1) rfl ?_
  refine gt_RX0_27 hG rfl k0 dX0_isTied_1 (q := 4) rfl ?_
  refine v_iload_1 hG dX0_isTied_4 (q := 5) rfl ?_
  obtain ⟨c_1, h⟩ := ck_some h
  refine v_iald hG ((k0).p6) ((k0).pl6) c_1 dX0_isTied_5 (q := 6) rfl ?_
  refine v_iconst hG ci_1 dX0_isTied_6 (q := 7) rfl ?_
  refine v_iload_2 hG dX0_isTied_7 (q := 8) rfl ?_
  refine v_ishl hG dX0_isTied_8 (q := 9) rfl ?_
  refine v_iand hG dX0_isTied_9 (q := 10) rfl ?_
  refine v_if_eq hG dX0_isTied_10 (tgt := 17) rfl (q := 13) rfl (fun hc => ?_) (fun hc => ?_)
  · replace h := ifp hc h
    refine v_iconst hG ci_0 dX0_isTied_17 (q := 18) rfl ?_
    exact v_iret hG hR rfl rfl (sp1b h) dX0_isTied_18
  · replace h := ifn hc h
    refine v_iconst hG ci_1 dX0_isTied_13 (q := 14) rfl ?_
    refine v_goto hG dX0_isTied_14 (tgt := 18) rfl ?_
    exact v_iret hG hR rfl rfl (sp1b h) dX0_isTied_18
theorem cvX0_isTied : CVo mX0_isTied 2 0 := ⟨moX0_isTied, mvX0_isTied, by decide, _, _, rfl⟩
theorem w_X0_bind {E : EB} {r0 : Nat} {x1 : Int32} {x2 : Int32} {x3 : Int32} (k0 : IsK r0 0) {M : Mem} {R : Mem} (h : f_X0_bind r0 x1 x2 x3 M = some R) : Mt E mX0_bind [.ref r0, .int x1, .int x2, .int x3] M (PV R) := by
  refine mt_of (L0 := [some (.ref r0), some (.int x1), some (.int x2), some (.int x3)]) (by decide) rfl rfl (fun G hG hR => ?_)
  unfold f_X0_bind at h
  refine v_iload_3 hG dX0_bind_0 (q := 1) rfl ?_
  refine v_if_eq hG dX0_bind_1 (tgt := 31) rfl (q := 4) rfl (fun hc => ?_) (fun hc => ?_)
  · replace h := ifp hc h
    refine v_aload_0 hG dX0_bind_31 (q := 32) rfl ?_
    refine gt_RX0_27 hG rfl k0 dX0_bind_32 (q := 35) rfl ?_
    refine v_iload_1 hG dX0_bind_35 (q := 36) rfl ?_
    refine v_dup2 hG rfl rfl dX0_bind_36 (q := 37) rfl ?_
    obtain ⟨c_1, h⟩ := ck_some h
    refine v_iald hG ((k0).p6) ((k0).pl6) c_1 dX0_bind_37 (q := 38) rfl ?_
    refine v_iconst hG ci_1 dX0_bind_38 (q := 39) rfl ?_
    refine v_iload_2 hG dX0_bind_39 (q := 40) rfl ?_
    refine v_ishl hG dX0_bind_40 (q := 41) rfl ?_
    refine v_iconst hG ci_m1 dX0_bind_41 (q := 42) rfl ?_
    refine v_ixor hG dX0_bind_42 (q := 43) rfl ?_
    refine v_iand hG dX0_bind_43 (q := 44) rfl ?_
    obtain ⟨c_2, h⟩ := ck_some h
    refine v_iast hG ((k0).p6) ((k0).pl6) c_2 dX0_bind_44 (q := 45) rfl ?_
    refine v_topM (fun M_3 hy => ?_)
    replace h := letv_at hy h
    clear hy
    refine v_aload_0 hG dX0_bind_45 (q := 46) rfl ?_
    refine gt_RX0_27 hG rfl k0 dX0_bind_46 (q := 49) rfl ?_
    refine v_iload_2 hG dX0_bind_49 (q := 50) rfl ?_
    refine v_dup2 hG rfl rfl dX0_bind_50 (q := 51) rfl ?_
    obtain ⟨c_4, h⟩ := ck_some h
    refine v_iald hG ((k0).p6) ((k0).pl6) c_4 dX0_bind_51 (q := 52) rfl ?_
    refine v_iconst hG ci_1 dX0_bind_52 (q := 53) rfl ?_
    refine v_iload_1 hG dX0_bind_53 (q := 54) rfl ?_
    refine v_ishl hG dX0_bind_54 (q := 55) rfl ?_
    refine v_iconst hG ci_m1 dX0_bind_55 (q := 56) rfl ?_
    refine v_ixor hG dX0_bind_56 (q := 57) rfl ?_
    refine v_iand hG dX0_bind_57 (q := 58) rfl ?_
    obtain ⟨c_5, h⟩ := ck_some h
    refine v_iast hG ((k0).p6) ((k0).pl6) c_5 dX0_bind_58 (q := 59) rfl ?_
    refine v_topM (fun M_6 hy => ?_)
    replace h := letv_at hy h
    clear hy
    exact v_vret hG hR rfl (spv h) dX0_bind_59
  · replace h := ifn hc h
    refine v_aload_0 hG dX0_bind_4 (q := 5) rfl ?_
    refine gt_RX0_27 hG rfl k0 dX0_bind_5 (q := 8) rfl ?_
    refine v_iload_1 hG dX0_bind_8 (q := 9) rfl ?_
    refine v_dup2 hG rfl rfl dX0_bind_9 (q := 10) rfl ?_
    obtain ⟨c_7, h⟩ := ck_some h
    refine v_iald hG ((k0).p6) ((k0).pl6) c_7 dX0_bind_10 (q := 11) rfl ?_
    refine v_iconst hG ci_1 dX0_bind_11 (q := 12) rfl ?_
    refine v_iload_2 hG dX0_bind_12 (q := 13) rfl ?_
    refine v_ishl hG dX0_bind_13 (q := 14) rfl ?_
    refine v_ior hG dX0_bind_14 (q := 15) rfl ?_
    obtain ⟨c_8, h⟩ := ck_some h
    refine v_iast hG ((k0).p6) ((k0).pl6) c_8 dX0_bind_15 (q := 16) rfl ?_
    refine v_topM (fun M_9 hy => ?_)
    replace h := letv_at hy h
    clear hy
    refine v_aload_0 hG dX0_bind_16 (q := 17) rfl ?_
    refine gt_RX0_27 hG rfl k0 dX0_bind_17 (q := 20) rfl ?_
    refine v_iload_2 hG dX0_bind_20 (q := 21) rfl ?_
    refine v_dup2 hG rfl rfl dX0_bind_21 (q := 22) rfl ?_
    obtain ⟨c_10, h⟩ := ck_some h
    refine v_iald hG ((k0).p6) ((k0).pl6) c_10 dX0_bind_22 (q := 23) rfl ?_
    refine v_iconst hG ci_1 dX0_bind_23 (q := 24) rfl ?_
    refine v_iload_1 hG dX0_bind_24 (q := 25) rfl ?_
    refine v_ishl hG dX0_bind_25 (q := 26) rfl ?_
    refine v_ior hG dX0_bind_26 (q := 27) rfl ?_
    obtain ⟨c_11, h⟩ := ck_some h
    refine v_iast hG ((k0).p6) ((k0).pl6) c_11 dX0_bind_27 (q := 28) rfl ?_
    refine v_topM (fun M_12 hy => ?_)
    replace h := letv_at hy h
    clear hy
    refine v_goto hG dX0_bind_28 (tgt := 59) rfl ?_
    exact v_vret hG hR rfl (spv h) dX0_bind_59
theorem cvX0_bind : CVo mX0_bind 3 0 := ⟨moX0_bind, mvX0_bind, by decide, _, _, rfl⟩
theorem w_J6_bitCount_0f7a4 {E : EB} {x0 : Int32} {M : Mem} {R : Int32} (h : f_J6_bitCount_0f7a4 x0 M = some R) : Mt E mJ6_bitCount_0f7a4 [.int x0] M (PI R M) := by
  refine mt_of (L0 := [some (.int x0)]) (by decide) rfl rfl (fun G hG hR => ?_)
  unfold f_J6_bitCount_0f7a4 at h
  refine v_iload_0 hG dJ6_bitCount_0f7a4_0 (q := 1) rfl ?_
  refine v_iload_0 hG dJ6_bitCount_0f7a4_1 (q := 2) rfl ?_
  refine v_iconst hG ci_1 dJ6_bitCount_0f7a4_2 (q := 3) rfl ?_
  refine v_iushr hG dJ6_bitCount_0f7a4_3 (q := 4) rfl ?_
  refine v_ldcw hG kc_RJ6_265 dJ6_bitCount_0f7a4_4 (q := 7) rfl ?_
  refine v_iand hG dJ6_bitCount_0f7a4_7 (q := 8) rfl ?_
  refine v_isub hG dJ6_bitCount_0f7a4_8 (q := 9) rfl ?_
  refine v_topi (fun x0_1 hy => ?_)
  replace h := letv_at hy h
  clear hy
  refine v_istore_0 hG dJ6_bitCount_0f7a4_9 (q := 10) rfl ?_
  refine v_iload_0 hG dJ6_bitCount_0f7a4_10 (q := 11) rfl ?_
  refine v_ldcw hG kc_RJ6_266 dJ6_bitCount_0f7a4_11 (q := 14) rfl ?_
  refine v_iand hG dJ6_bitCount_0f7a4_14 (q := 15) rfl ?_
  refine v_iload_0 hG dJ6_bitCount_0f7a4_15 (q := 16) rfl ?_
  refine v_iconst hG ci_2 dJ6_bitCount_0f7a4_16 (q := 17) rfl ?_
  refine v_iushr hG dJ6_bitCount_0f7a4_17 (q := 18) rfl ?_
  refine v_ldcw hG kc_RJ6_266 dJ6_bitCount_0f7a4_18 (q := 21) rfl ?_
  refine v_iand hG dJ6_bitCount_0f7a4_21 (q := 22) rfl ?_
  refine v_iadd hG dJ6_bitCount_0f7a4_22 (q := 23) rfl ?_
  refine v_topi (fun x0_2 hy => ?_)
  replace h := letv_at hy h
  clear hy
  refine v_istore_0 hG dJ6_bitCount_0f7a4_23 (q := 24) rfl ?_
  refine v_iload_0 hG dJ6_bitCount_0f7a4_24 (q := 25) rfl ?_
  refine v_iload_0 hG dJ6_bitCount_0f7a4_25 (q := 26) rfl ?_
  refine v_iconst hG ci_4 dJ6_bitCount_0f7a4_26 (q := 27) rfl ?_
  refine v_iushr hG dJ6_bitCount_0f7a4_27 (q := 28) rfl ?_
  refine v_iadd hG dJ6_bitCount_0f7a4_28 (q := 29) rfl ?_
  refine v_ldcw hG kc_RJ6_267 dJ6_bitCount_0f7a4_29 (q := 32) rfl ?_
  refine v_iand hG dJ6_bitCount_0f7a4_32 (q := 33) rfl ?_
  refine v_topi (fun x0_3 hy => ?_)
  replace h := letv_at hy h
  clear hy
  refine v_istore_0 hG dJ6_bitCount_0f7a4_33 (q := 34) rfl ?_
  refine v_iload_0 hG dJ6_bitCount_0f7a4_34 (q := 35) rfl ?_
  refine v_iload_0 hG dJ6_bitCount_0f7a4_35 (q := 36) rfl ?_
  refine v_bipush hG cb_8 dJ6_bitCount_0f7a4_36 (q := 38) rfl ?_
  refine v_iushr hG dJ6_bitCount_0f7a4_38 (q := 39) rfl ?_
  refine v_iadd hG dJ6_bitCount_0f7a4_39 (q := 40) rfl ?_
  refine v_topi (fun x0_4 hy => ?_)
  replace h := letv_at hy h
  clear hy
  refine v_istore_0 hG dJ6_bitCount_0f7a4_40 (q := 41) rfl ?_
  refine v_iload_0 hG dJ6_bitCount_0f7a4_41 (q := 42) rfl ?_
  refine v_iload_0 hG dJ6_bitCount_0f7a4_42 (q := 43) rfl ?_
  refine v_bipush hG cb_16 dJ6_bitCount_0f7a4_43 (q := 45) rfl ?_
  refine v_iushr hG dJ6_bitCount_0f7a4_45 (q := 46) rfl ?_
  refine v_iadd hG dJ6_bitCount_0f7a4_46 (q := 47) rfl ?_
  refine v_topi (fun x0_5 hy => ?_)
  replace h := letv_at hy h
  clear hy
  refine v_istore_0 hG dJ6_bitCount_0f7a4_47 (q := 48) rfl ?_
  refine v_iload_0 hG dJ6_bitCount_0f7a4_48 (q := 49) rfl ?_
  refine v_bipush hG cb_63 dJ6_bitCount_0f7a4_49 (q := 51) rfl ?_
  refine v_iand hG dJ6_bitCount_0f7a4_51 (q := 52) rfl ?_
  exact v_iret hG hR rfl rfl (sp1 h) dJ6_bitCount_0f7a4_52
theorem csJ6_bitCount_0f7a4 : CSo mJ6_bitCount_0f7a4 1 := ⟨moJ6_bitCount_0f7a4, msJ6_bitCount_0f7a4⟩
theorem w_X0_howManyTies_b4 {E : EB} {G : GB} (hG : Gd E mX0_howManyTies G) {r0 : Nat} {M : Mem} {R : Int32} (hR : Rt E mX0_howManyTies (PI R M) G) (k0 : IsK r0 0) {k4 : Int32 → Int32 → Mem → Option (Int32)} (hk4 : ∀ (x1 : Int32) (x2 : Int32) (M' : Mem), k4 x1 x2 M' = some R → M' = M → V E G 4 [some (.ref r0), some (.int x1), some (.int x2)] [] M') {x1 : Int32} {x2 : Int32} (h : f_X0_howManyTies_b4 r0 k4 x1 x2 M = some R) : V E G 4 [some (.ref r0), some (.int x1), some (.int x2)] [] M := by
  unfold f_X0_howManyTies_b4 at h
  refine v_iload_2 hG dX0_howManyTies_4 (q := 5) rfl ?_
  refine v_aload_0 hG dX0_howManyTies_5 (q := 6) rfl ?_
  refine gt_RX0_30 hG rfl k0 dX0_howManyTies_6 (q := 9) rfl ?_
  refine v_icmp_ge hG dX0_howManyTies_9 (tgt := 30) rfl (q := 12) rfl (fun hc => ?_) (fun hc => ?_)
  · replace h := ifp hc h
    refine v_iload_1 hG dX0_howManyTies_30 (q := 31) rfl ?_
    refine v_iconst hG ci_2 dX0_howManyTies_31 (q := 32) rfl ?_
    refine v_idiv hG (by decide) dX0_howManyTies_32 (q := 33) rfl ?_
    exact v_iret hG hR rfl rfl (sp1 h) dX0_howManyTies_33
  · replace h := ifn hc h
    refine v_iload_1 hG dX0_howManyTies_12 (q := 13) rfl ?_
    refine v_aload_0 hG dX0_howManyTies_13 (q := 14) rfl ?_
    refine gt_RX0_27 hG rfl k0 dX0_howManyTies_14 (q := 17) rfl ?_
    refine v_iload_2 hG dX0_howManyTies_17 (q := 18) rfl ?_
    obtain ⟨c_1, h⟩ := ck_some h
    refine v_iald hG ((k0).p6) ((k0).pl6) c_1 dX0_howManyTies_18 (q := 19) rfl ?_
    obtain ⟨r_2, hr_2, h⟩ := bnd h
    refine v_cS1I hG csJ6_bitCount_0f7a4 ml_RX0_44 rfl (w_J6_bitCount_0f7a4 hr_2) (Nat.le_of_ble_eq_true rfl) dX0_howManyTies_19 (q := 22) rfl ?_
    refine v_iadd hG dX0_howManyTies_22 (q := 23) rfl ?_
    refine v_topi (fun x1_3 hy => ?_)
    replace h := letv_at hy h
    clear hy
    refine v_istore_1 hG rfl dX0_howManyTies_23 (q := 24) rfl ?_
    refine v_iinc_2 hG rfl dX0_howManyTies_24 (congrArg _ ci_1) (q := 27) rfl ?_
    refine v_goto hG dX0_howManyTies_27 (tgt := 4) rfl ?_
    exact hk4 _ _ _ h rfl
theorem w_X0_howManyTies_l4 {E : EB} {G : GB} (hG : Gd E mX0_howManyTies G) {r0 : Nat} {M : Mem} {R : Int32} (hR : Rt E mX0_howManyTies (PI R M) G) (k0 : IsK r0 0) : ∀ (n : Nat) (x1 : Int32) (x2 : Int32) (M' : Mem), f_X0_howManyTies_l4 r0 n x1 x2 M' = some R → M' = M → V E G 4 [some (.ref r0), some (.int x1), some (.int x2)] [] M' := by
  intro n
  induction n with
  | zero => intro x1 x2 M' h; cases h
  | succ n ih => intro x1 x2 M' h e; subst e; exact w_X0_howManyTies_b4 hG hR k0 ih h
theorem w_X0_howManyTies {E : EB} {r0 : Nat} (k0 : IsK r0 0) {M : Mem} {R : Int32} (h : f_X0_howManyTies r0 M = some R) : Mt E mX0_howManyTies [.ref r0] M (PI R M) := by
  refine mt_of (L0 := [some (.ref r0), none, none]) (by decide) rfl rfl (fun G hG hR => ?_)
  unfold f_X0_howManyTies at h
  refine v_iconst hG ci_0 dX0_howManyTies_0 (q := 1) rfl ?_
  refine v_istore_1 hG rfl dX0_howManyTies_1 (q := 2) rfl ?_
  refine v_iconst hG ci_0 dX0_howManyTies_2 (q := 3) rfl ?_
  refine v_istore_2 hG rfl dX0_howManyTies_3 (q := 4) rfl ?_
  exact w_X0_howManyTies_l4 hG hR k0 FU _ _ _ h rfl
theorem cvX0_howManyTies : CVo mX0_howManyTies 0 0 := ⟨moX0_howManyTies, mvX0_howManyTies, by decide, _, _, rfl⟩
theorem w_X0_ownWords {E : EB} {r0 : Nat} {x1 : Int32} (k0 : IsK r0 0) {M : Mem} {R : Int32} (h : f_X0_ownWords r0 x1 M = some R) : Mt E mX0_ownWords [.ref r0, .int x1] M (PI R M) := by
  refine mt_of (L0 := [some (.ref r0), some (.int x1)]) (by decide) rfl rfl (fun G hG hR => ?_)
  unfold f_X0_ownWords at h
  refine v_aload_0 hG dX0_ownWords_0 (q := 1) rfl ?_
  refine gt_RX0_9 hG rfl k0 dX0_ownWords_1 (q := 4) rfl ?_
  refine v_iload_1 hG dX0_ownWords_4 (q := 5) rfl ?_
  obtain ⟨c_1, h⟩ := ck_some h
  refine v_iald hG ((k0).p1) ((k0).pl1) c_1 dX0_ownWords_5 (q := 6) rfl ?_
  refine v_aload_0 hG dX0_ownWords_6 (q := 7) rfl ?_
  refine gt_RX0_15 hG rfl k0 dX0_ownWords_7 (q := 10) rfl ?_
  refine v_iload_1 hG dX0_ownWords_10 (q := 11) rfl ?_
  obtain ⟨c_2, h⟩ := ck_some h
  refine v_iald hG ((k0).p2) ((k0).pl2) c_2 dX0_ownWords_11 (q := 12) rfl ?_
  refine v_ior hG dX0_ownWords_12 (q := 13) rfl ?_
  exact v_iret hG hR rfl rfl (sp1 h) dX0_ownWords_13
theorem cvX0_ownWords : CVo mX0_ownWords 1 0 := ⟨moX0_ownWords, mvX0_ownWords, by decide, _, _, rfl⟩
theorem w_X0_anyOf_b4 {E : EB} {G : GB} (hG : Gd E mX0_anyOf G) {r0 r1 : Nat} {M : Mem} {R : Int32} (hR : Rt E mX0_anyOf (PI R M) G) (k0 : IsK r0 0) (k1 : IsK r1 8) {k4 : Int32 → Int32 → Mem → Option (Int32)} (hk4 : ∀ (x2 : Int32) (x3 : Int32) (M' : Mem), k4 x2 x3 M' = some R → M' = M → V E G 4 [some (.ref r0), some (.ref r1), some (.int x2), some (.int x3)] [] M') {x2 : Int32} {x3 : Int32} (h : f_X0_anyOf_b4 r0 r1 k4 x2 x3 M = some R) : V E G 4 [some (.ref r0), some (.ref r1), some (.int x2), some (.int x3)] [] M := by
  unfold f_X0_anyOf_b4 at h
  refine v_iload_3 hG dX0_anyOf_4 (q := 5) rfl ?_
  refine v_aload_0 hG dX0_anyOf_5 (q := 6) rfl ?_
  refine gt_RX0_30 hG rfl k0 dX0_anyOf_6 (q := 9) rfl ?_
  refine v_icmp_ge hG dX0_anyOf_9 (tgt := 30) rfl (q := 12) rfl (fun hc => ?_) (fun hc => ?_)
  · replace h := ifp hc h
    refine v_iload_2 hG dX0_anyOf_30 (q := 31) rfl ?_
    exact v_iret hG hR rfl rfl (sp1 h) dX0_anyOf_31
  · replace h := ifn hc h
    refine v_iload_3 hG dX0_anyOf_12 (q := 13) rfl ?_
    refine v_aload_1 hG dX0_anyOf_13 (q := 14) rfl ?_
    refine v_alen hG k1 rfl rfl dX0_anyOf_14 (q := 15) rfl ?_
    refine v_icmp_ge hG dX0_anyOf_15 (tgt := 30) rfl (q := 18) rfl (fun hc => ?_) (fun hc => ?_)
    · replace h := ifp hc h
      refine v_iload_2 hG dX0_anyOf_30 (q := 31) rfl ?_
      exact v_iret hG hR rfl rfl (sp1 h) dX0_anyOf_31
    · replace h := ifn hc h
      refine v_iload_2 hG dX0_anyOf_18 (q := 19) rfl ?_
      refine v_aload_1 hG dX0_anyOf_19 (q := 20) rfl ?_
      refine v_iload_3 hG dX0_anyOf_20 (q := 21) rfl ?_
      obtain ⟨c_1, h⟩ := ck_some h
      refine v_iald hG k1 rfl c_1 dX0_anyOf_21 (q := 22) rfl ?_
      refine v_ior hG dX0_anyOf_22 (q := 23) rfl ?_
      refine v_topi (fun x2_2 hy => ?_)
      replace h := letv_at hy h
      clear hy
      refine v_istore_2 hG rfl dX0_anyOf_23 (q := 24) rfl ?_
      refine v_iinc_3 hG rfl dX0_anyOf_24 (congrArg _ ci_1) (q := 27) rfl ?_
      refine v_goto hG dX0_anyOf_27 (tgt := 4) rfl ?_
      exact hk4 _ _ _ h rfl
theorem w_X0_anyOf_l4 {E : EB} {G : GB} (hG : Gd E mX0_anyOf G) {r0 r1 : Nat} {M : Mem} {R : Int32} (hR : Rt E mX0_anyOf (PI R M) G) (k0 : IsK r0 0) (k1 : IsK r1 8) : ∀ (n : Nat) (x2 : Int32) (x3 : Int32) (M' : Mem), f_X0_anyOf_l4 r0 r1 n x2 x3 M' = some R → M' = M → V E G 4 [some (.ref r0), some (.ref r1), some (.int x2), some (.int x3)] [] M' := by
  intro n
  induction n with
  | zero => intro x2 x3 M' h; cases h
  | succ n ih => intro x2 x3 M' h e; subst e; exact w_X0_anyOf_b4 hG hR k0 k1 ih h
theorem w_X0_anyOf {E : EB} {r0 : Nat} {r1 : Nat} (k0 : IsK r0 0) (k1 : IsK r1 8) {M : Mem} {R : Int32} (h : f_X0_anyOf r0 r1 M = some R) : Mt E mX0_anyOf [.ref r0, .ref r1] M (PI R M) := by
  refine mt_of (L0 := [some (.ref r0), some (.ref r1), none, none]) (by decide) rfl rfl (fun G hG hR => ?_)
  unfold f_X0_anyOf at h
  refine v_iconst hG ci_0 dX0_anyOf_0 (q := 1) rfl ?_
  refine v_istore_2 hG rfl dX0_anyOf_1 (q := 2) rfl ?_
  refine v_iconst hG ci_0 dX0_anyOf_2 (q := 3) rfl ?_
  refine v_istore_3 hG rfl dX0_anyOf_3 (q := 4) rfl ?_
  exact w_X0_anyOf_l4 hG hR k0 k1 FU _ _ _ h rfl
theorem cvX0_anyOf : CVo mX0_anyOf 1 0 := ⟨moX0_anyOf, mvX0_anyOf, by decide, _, _, rfl⟩
theorem w_X0_believedByAll_b15 {E : EB} {G : GB} (hG : Gd E mX0_believedByAll G) {r0 : Nat} {M : Mem} {R : Int32} (hR : Rt E mX0_believedByAll (PI R M) G) (k0 : IsK r0 0) {k15 : Int32 → Int32 → Mem → Option (Int32)} (hk15 : ∀ (x1 : Int32) (x2 : Int32) (M' : Mem), k15 x1 x2 M' = some R → M' = M → V E G 15 [some (.ref r0), some (.int x1), some (.int x2)] [] M') {x1 : Int32} {x2 : Int32} (h : f_X0_believedByAll_b15 r0 k15 x1 x2 M = some R) : V E G 15 [some (.ref r0), some (.int x1), some (.int x2)] [] M := by
  unfold f_X0_believedByAll_b15 at h
  refine v_iload_2 hG dX0_believedByAll_15 (q := 16) rfl ?_
  refine v_aload_0 hG dX0_believedByAll_16 (q := 17) rfl ?_
  refine gt_RX0_30 hG rfl k0 dX0_believedByAll_17 (q := 20) rfl ?_
  refine v_icmp_ge hG dX0_believedByAll_20 (tgt := 38) rfl (q := 23) rfl (fun hc => ?_) (fun hc => ?_)
  · replace h := ifp hc h
    refine v_iload_1 hG dX0_believedByAll_38 (q := 39) rfl ?_
    exact v_iret hG hR rfl rfl (sp1 h) dX0_believedByAll_39
  · replace h := ifn hc h
    refine v_iload_1 hG dX0_believedByAll_23 (q := 24) rfl ?_
    refine v_aload_0 hG dX0_believedByAll_24 (q := 25) rfl ?_
    refine gt_RX0_15 hG rfl k0 dX0_believedByAll_25 (q := 28) rfl ?_
    refine v_iload_2 hG dX0_believedByAll_28 (q := 29) rfl ?_
    obtain ⟨c_1, h⟩ := ck_some h
    refine v_iald hG ((k0).p2) ((k0).pl2) c_1 dX0_believedByAll_29 (q := 30) rfl ?_
    refine v_iand hG dX0_believedByAll_30 (q := 31) rfl ?_
    refine v_topi (fun x1_2 hy => ?_)
    replace h := letv_at hy h
    clear hy
    refine v_istore_1 hG rfl dX0_believedByAll_31 (q := 32) rfl ?_
    refine v_iinc_2 hG rfl dX0_believedByAll_32 (congrArg _ ci_1) (q := 35) rfl ?_
    refine v_goto hG dX0_believedByAll_35 (tgt := 15) rfl ?_
    exact hk15 _ _ _ h rfl
theorem w_X0_believedByAll_l15 {E : EB} {G : GB} (hG : Gd E mX0_believedByAll G) {r0 : Nat} {M : Mem} {R : Int32} (hR : Rt E mX0_believedByAll (PI R M) G) (k0 : IsK r0 0) : ∀ (n : Nat) (x1 : Int32) (x2 : Int32) (M' : Mem), f_X0_believedByAll_l15 r0 n x1 x2 M' = some R → M' = M → V E G 15 [some (.ref r0), some (.int x1), some (.int x2)] [] M' := by
  intro n
  induction n with
  | zero => intro x1 x2 M' h; cases h
  | succ n ih => intro x1 x2 M' h e; subst e; exact w_X0_believedByAll_b15 hG hR k0 ih h
theorem w_X0_believedByAll {E : EB} {r0 : Nat} (k0 : IsK r0 0) {M : Mem} {R : Int32} (h : f_X0_believedByAll r0 M = some R) : Mt E mX0_believedByAll [.ref r0] M (PI R M) := by
  refine mt_of (L0 := [some (.ref r0), none, none]) (by decide) rfl rfl (fun G hG hR => ?_)
  unfold f_X0_believedByAll at h
  refine v_aload_0 hG dX0_believedByAll_0 (q := 1) rfl ?_
  refine gt_RX0_30 hG rfl k0 dX0_believedByAll_1 (q := 4) rfl ?_
  refine v_if_ne hG dX0_believedByAll_4 (tgt := 9) rfl (q := 7) rfl (fun hc => ?_) (fun hc => ?_)
  · replace h := ifn hc h
    refine v_sipush hG cs_4095 dX0_believedByAll_9 (q := 12) rfl ?_
    refine v_istore_1 hG rfl dX0_believedByAll_12 (q := 13) rfl ?_
    refine v_iconst hG ci_0 dX0_believedByAll_13 (q := 14) rfl ?_
    refine v_istore_2 hG rfl dX0_believedByAll_14 (q := 15) rfl ?_
    exact w_X0_believedByAll_l15 hG hR k0 FU _ _ _ h rfl
  · replace h := ifp hc h
    refine v_iconst hG ci_0 dX0_believedByAll_7 (q := 8) rfl ?_
    exact v_iret hG hR rfl rfl (sp1 h) dX0_believedByAll_8
theorem cvX0_believedByAll : CVo mX0_believedByAll 0 0 := ⟨moX0_believedByAll, mvX0_believedByAll, by decide, _, _, rfl⟩
theorem w_X0_believers_b4 {E : EB} {G : GB} (hG : Gd E mX0_believers G) {r0 : Nat} {M : Mem} {R : Int32} (hR : Rt E mX0_believers (PI R M) G) (k0 : IsK r0 0) {k4 : Int32 → Int32 → Int32 → Mem → Option (Int32)} (hk4 : ∀ (x1 : Int32) (x2 : Int32) (x3 : Int32) (M' : Mem), k4 x1 x2 x3 M' = some R → M' = M → V E G 4 [some (.ref r0), some (.int x1), some (.int x2), some (.int x3)] [] M') {x1 : Int32} {x2 : Int32} {x3 : Int32} (h : f_X0_believers_b4 r0 k4 x1 x2 x3 M = some R) : V E G 4 [some (.ref r0), some (.int x1), some (.int x2), some (.int x3)] [] M := by
  unfold f_X0_believers_b4 at h
  refine v_iload_3 hG dX0_believers_4 (q := 5) rfl ?_
  refine v_aload_0 hG dX0_believers_5 (q := 6) rfl ?_
  refine gt_RX0_30 hG rfl k0 dX0_believers_6 (q := 9) rfl ?_
  refine v_icmp_ge hG dX0_believers_9 (tgt := 37) rfl (q := 12) rfl (fun hc => ?_) (fun hc => ?_)
  · replace h := ifp hc h
    refine v_iload_2 hG dX0_believers_37 (q := 38) rfl ?_
    exact v_iret hG hR rfl rfl (sp1 h) dX0_believers_38
  · replace h := ifn hc h
    refine v_aload_0 hG dX0_believers_12 (q := 13) rfl ?_
    refine gt_RX0_15 hG rfl k0 dX0_believers_13 (q := 16) rfl ?_
    refine v_iload_3 hG dX0_believers_16 (q := 17) rfl ?_
    obtain ⟨c_1, h⟩ := ck_some h
    refine v_iald hG ((k0).p2) ((k0).pl2) c_1 dX0_believers_17 (q := 18) rfl ?_
    refine v_iconst hG ci_1 dX0_believers_18 (q := 19) rfl ?_
    refine v_iload_1 hG dX0_believers_19 (q := 20) rfl ?_
    refine v_ishl hG dX0_believers_20 (q := 21) rfl ?_
    refine v_iand hG dX0_believers_21 (q := 22) rfl ?_
    refine v_if_eq hG dX0_believers_22 (tgt := 31) rfl (q := 25) rfl (fun hc => ?_) (fun hc => ?_)
    · replace h := ifp hc h
      refine v_iinc_3 hG rfl dX0_believers_31 (congrArg _ ci_1) (q := 34) rfl ?_
      refine v_goto hG dX0_believers_34 (tgt := 4) rfl ?_
      exact hk4 _ _ _ _ h rfl
    · replace h := ifn hc h
      refine v_iload_2 hG dX0_believers_25 (q := 26) rfl ?_
      refine v_iconst hG ci_1 dX0_believers_26 (q := 27) rfl ?_
      refine v_iload_3 hG dX0_believers_27 (q := 28) rfl ?_
      refine v_ishl hG dX0_believers_28 (q := 29) rfl ?_
      refine v_ior hG dX0_believers_29 (q := 30) rfl ?_
      refine v_topi (fun x2_2 hy => ?_)
      replace h := letv_at hy h
      clear hy
      refine v_istore_2 hG rfl dX0_believers_30 (q := 31) rfl ?_
      refine v_iinc_3 hG rfl dX0_believers_31 (congrArg _ ci_1) (q := 34) rfl ?_
      refine v_goto hG dX0_believers_34 (tgt := 4) rfl ?_
      exact hk4 _ _ _ _ h rfl
theorem w_X0_believers_l4 {E : EB} {G : GB} (hG : Gd E mX0_believers G) {r0 : Nat} {M : Mem} {R : Int32} (hR : Rt E mX0_believers (PI R M) G) (k0 : IsK r0 0) : ∀ (n : Nat) (x1 : Int32) (x2 : Int32) (x3 : Int32) (M' : Mem), f_X0_believers_l4 r0 n x1 x2 x3 M' = some R → M' = M → V E G 4 [some (.ref r0), some (.int x1), some (.int x2), some (.int x3)] [] M' := by
  intro n
  induction n with
  | zero => intro x1 x2 x3 M' h; cases h
  | succ n ih => intro x1 x2 x3 M' h e; subst e; exact w_X0_believers_b4 hG hR k0 ih h
theorem w_X0_believers {E : EB} {r0 : Nat} {x1 : Int32} (k0 : IsK r0 0) {M : Mem} {R : Int32} (h : f_X0_believers r0 x1 M = some R) : Mt E mX0_believers [.ref r0, .int x1] M (PI R M) := by
  refine mt_of (L0 := [some (.ref r0), some (.int x1), none, none]) (by decide) rfl rfl (fun G hG hR => ?_)
  unfold f_X0_believers at h
  refine v_iconst hG ci_0 dX0_believers_0 (q := 1) rfl ?_
  refine v_istore_2 hG rfl dX0_believers_1 (q := 2) rfl ?_
  refine v_iconst hG ci_0 dX0_believers_2 (q := 3) rfl ?_
  refine v_istore_3 hG rfl dX0_believers_3 (q := 4) rfl ?_
  exact w_X0_believers_l4 hG hR k0 FU _ _ _ _ h rfl
theorem cvX0_believers : CVo mX0_believers 1 0 := ⟨moX0_believers, mvX0_believers, by decide, _, _, rfl⟩
theorem w_X0_lies {E : EB} {r0 : Nat} {x1 : Int32} (k0 : IsK r0 0) {M : Mem} {R : Int32} (h : f_X0_lies r0 x1 M = some R) : Mt E mX0_lies [.ref r0, .int x1] M (PI R M) := by
  refine mt_of (L0 := [some (.ref r0), some (.int x1)]) (by decide) rfl rfl (fun G hG hR => ?_)
  unfold f_X0_lies at h
  refine v_aload_0 hG dX0_lies_0 (q := 1) rfl ?_
  refine gt_RX0_15 hG rfl k0 dX0_lies_1 (q := 4) rfl ?_
  refine v_iload_1 hG dX0_lies_4 (q := 5) rfl ?_
  obtain ⟨c_1, h⟩ := ck_some h
  refine v_iald hG ((k0).p2) ((k0).pl2) c_1 dX0_lies_5 (q := 6) rfl ?_
  refine v_aload_0 hG dX0_lies_6 (q := 7) rfl ?_
  refine v_aload_0 hG dX0_lies_7 (q := 8) rfl ?_
  refine gt_RX0_9 hG rfl k0 dX0_lies_8 (q := 11) rfl ?_
  obtain ⟨r_2, hr_2, h⟩ := bnd h
  refine v_cV1I hG cvX0_anyOf ml_RX0_50 rfl k0 (w_X0_anyOf k0 ((k0).p1) hr_2) (Nat.le_of_ble_eq_true rfl) dX0_lies_11 (q := 14) rfl ?_
  refine v_iconst hG ci_m1 dX0_lies_14 (q := 15) rfl ?_
  refine v_ixor hG dX0_lies_15 (q := 16) rfl ?_
  refine v_iand hG dX0_lies_16 (q := 17) rfl ?_
  exact v_iret hG hR rfl rfl (sp1 h) dX0_lies_17
theorem cvX0_lies : CVo mX0_lies 1 0 := ⟨moX0_lies, mvX0_lies, by decide, _, _, rfl⟩
theorem w_X0_howManyLies_b13 {E : EB} {G : GB} (hG : Gd E mX0_howManyLies G) {r0 : Nat} {M : Mem} {R : Int32} (hR : Rt E mX0_howManyLies (PI R M) G) (k0 : IsK r0 0) {k13 : Int32 → Int32 → Int32 → Mem → Option (Int32)} (hk13 : ∀ (x1 : Int32) (x2 : Int32) (x3 : Int32) (M' : Mem), k13 x1 x2 x3 M' = some R → M' = M → V E G 13 [some (.ref r0), some (.int x1), some (.int x2), some (.int x3)] [] M') {x1 : Int32} {x2 : Int32} {x3 : Int32} (h : f_X0_howManyLies_b13 r0 k13 x1 x2 x3 M = some R) : V E G 13 [some (.ref r0), some (.int x1), some (.int x2), some (.int x3)] [] M := by
  unfold f_X0_howManyLies_b13 at h
  refine v_iload_3 hG dX0_howManyLies_13 (q := 14) rfl ?_
  refine v_aload_0 hG dX0_howManyLies_14 (q := 15) rfl ?_
  refine gt_RX0_30 hG rfl k0 dX0_howManyLies_15 (q := 18) rfl ?_
  refine v_icmp_ge hG dX0_howManyLies_18 (tgt := 43) rfl (q := 21) rfl (fun hc => ?_) (fun hc => ?_)
  · replace h := ifp hc h
    refine v_iload_2 hG dX0_howManyLies_43 (q := 44) rfl ?_
    exact v_iret hG hR rfl rfl (sp1 h) dX0_howManyLies_44
  · replace h := ifn hc h
    refine v_iload_2 hG dX0_howManyLies_21 (q := 22) rfl ?_
    refine v_aload_0 hG dX0_howManyLies_22 (q := 23) rfl ?_
    refine gt_RX0_15 hG rfl k0 dX0_howManyLies_23 (q := 26) rfl ?_
    refine v_iload_3 hG dX0_howManyLies_26 (q := 27) rfl ?_
    obtain ⟨c_2, h⟩ := ck_some h
    refine v_iald hG ((k0).p2) ((k0).pl2) c_2 dX0_howManyLies_27 (q := 28) rfl ?_
    refine v_iload_1 hG dX0_howManyLies_28 (q := 29) rfl ?_
    refine v_iconst hG ci_m1 dX0_howManyLies_29 (q := 30) rfl ?_
    refine v_ixor hG dX0_howManyLies_30 (q := 31) rfl ?_
    refine v_iand hG dX0_howManyLies_31 (q := 32) rfl ?_
    obtain ⟨r_3, hr_3, h⟩ := bnd h
    refine v_cS1I hG csJ6_bitCount_0f7a4 ml_RX0_44 rfl (w_J6_bitCount_0f7a4 hr_3) (Nat.le_of_ble_eq_true rfl) dX0_howManyLies_32 (q := 35) rfl ?_
    refine v_iadd hG dX0_howManyLies_35 (q := 36) rfl ?_
    refine v_topi (fun x2_4 hy => ?_)
    replace h := letv_at hy h
    clear hy
    refine v_istore_2 hG rfl dX0_howManyLies_36 (q := 37) rfl ?_
    refine v_iinc_3 hG rfl dX0_howManyLies_37 (congrArg _ ci_1) (q := 40) rfl ?_
    refine v_goto hG dX0_howManyLies_40 (tgt := 13) rfl ?_
    exact hk13 _ _ _ _ h rfl
theorem w_X0_howManyLies_l13 {E : EB} {G : GB} (hG : Gd E mX0_howManyLies G) {r0 : Nat} {M : Mem} {R : Int32} (hR : Rt E mX0_howManyLies (PI R M) G) (k0 : IsK r0 0) : ∀ (n : Nat) (x1 : Int32) (x2 : Int32) (x3 : Int32) (M' : Mem), f_X0_howManyLies_l13 r0 n x1 x2 x3 M' = some R → M' = M → V E G 13 [some (.ref r0), some (.int x1), some (.int x2), some (.int x3)] [] M' := by
  intro n
  induction n with
  | zero => intro x1 x2 x3 M' h; cases h
  | succ n ih => intro x1 x2 x3 M' h e; subst e; exact w_X0_howManyLies_b13 hG hR k0 ih h
theorem w_X0_howManyLies {E : EB} {r0 : Nat} (k0 : IsK r0 0) {M : Mem} {R : Int32} (h : f_X0_howManyLies r0 M = some R) : Mt E mX0_howManyLies [.ref r0] M (PI R M) := by
  refine mt_of (L0 := [some (.ref r0), none, none, none]) (by decide) rfl rfl (fun G hG hR => ?_)
  unfold f_X0_howManyLies at h
  refine v_aload_0 hG dX0_howManyLies_0 (q := 1) rfl ?_
  refine v_aload_0 hG dX0_howManyLies_1 (q := 2) rfl ?_
  refine gt_RX0_9 hG rfl k0 dX0_howManyLies_2 (q := 5) rfl ?_
  obtain ⟨r_1, hr_1, h⟩ := bnd h
  refine v_cV1I hG cvX0_anyOf ml_RX0_50 rfl k0 (w_X0_anyOf k0 ((k0).p1) hr_1) (Nat.le_of_ble_eq_true rfl) dX0_howManyLies_5 (q := 8) rfl ?_
  refine v_istore_1 hG rfl dX0_howManyLies_8 (q := 9) rfl ?_
  refine v_iconst hG ci_0 dX0_howManyLies_9 (q := 10) rfl ?_
  refine v_istore_2 hG rfl dX0_howManyLies_10 (q := 11) rfl ?_
  refine v_iconst hG ci_0 dX0_howManyLies_11 (q := 12) rfl ?_
  refine v_istore_3 hG rfl dX0_howManyLies_12 (q := 13) rfl ?_
  exact w_X0_howManyLies_l13 hG hR k0 FU _ _ _ _ h rfl
theorem cvX0_howManyLies : CVo mX0_howManyLies 0 0 := ⟨moX0_howManyLies, mvX0_howManyLies, by decide, _, _, rfl⟩
theorem w_X0_howManyLettered_b4 {E : EB} {G : GB} (hG : Gd E mX0_howManyLettered G) {r0 : Nat} {M : Mem} {R : Int32} (hR : Rt E mX0_howManyLettered (PI R M) G) (k0 : IsK r0 0) {k4 : Int32 → Int32 → Mem → Option (Int32)} (hk4 : ∀ (x1 : Int32) (x2 : Int32) (M' : Mem), k4 x1 x2 M' = some R → M' = M → V E G 4 [some (.ref r0), some (.int x1), some (.int x2)] [] M') {x1 : Int32} {x2 : Int32} (h : f_X0_howManyLettered_b4 r0 k4 x1 x2 M = some R) : V E G 4 [some (.ref r0), some (.int x1), some (.int x2)] [] M := by
  unfold f_X0_howManyLettered_b4 at h
  refine v_iload_2 hG dX0_howManyLettered_4 (q := 5) rfl ?_
  refine v_aload_0 hG dX0_howManyLettered_5 (q := 6) rfl ?_
  refine gt_RX0_30 hG rfl k0 dX0_howManyLettered_6 (q := 9) rfl ?_
  refine v_icmp_ge hG dX0_howManyLettered_9 (tgt := 27) rfl (q := 12) rfl (fun hc => ?_) (fun hc => ?_)
  · replace h := ifp hc h
    refine v_iload_1 hG dX0_howManyLettered_27 (q := 28) rfl ?_
    exact v_iret hG hR rfl rfl (sp1 h) dX0_howManyLettered_28
  · replace h := ifn hc h
    refine v_iload_1 hG dX0_howManyLettered_12 (q := 13) rfl ?_
    refine v_aload_0 hG dX0_howManyLettered_13 (q := 14) rfl ?_
    refine gt_RX0_24 hG rfl k0 dX0_howManyLettered_14 (q := 17) rfl ?_
    refine v_iload_2 hG dX0_howManyLettered_17 (q := 18) rfl ?_
    obtain ⟨c_1, h⟩ := ck_some h
    refine v_iald hG ((k0).p5) ((k0).pl5) c_1 dX0_howManyLettered_18 (q := 19) rfl ?_
    refine v_iadd hG dX0_howManyLettered_19 (q := 20) rfl ?_
    refine v_topi (fun x1_2 hy => ?_)
    replace h := letv_at hy h
    clear hy
    refine v_istore_1 hG rfl dX0_howManyLettered_20 (q := 21) rfl ?_
    refine v_iinc_2 hG rfl dX0_howManyLettered_21 (congrArg _ ci_1) (q := 24) rfl ?_
    refine v_goto hG dX0_howManyLettered_24 (tgt := 4) rfl ?_
    exact hk4 _ _ _ h rfl
theorem w_X0_howManyLettered_l4 {E : EB} {G : GB} (hG : Gd E mX0_howManyLettered G) {r0 : Nat} {M : Mem} {R : Int32} (hR : Rt E mX0_howManyLettered (PI R M) G) (k0 : IsK r0 0) : ∀ (n : Nat) (x1 : Int32) (x2 : Int32) (M' : Mem), f_X0_howManyLettered_l4 r0 n x1 x2 M' = some R → M' = M → V E G 4 [some (.ref r0), some (.int x1), some (.int x2)] [] M' := by
  intro n
  induction n with
  | zero => intro x1 x2 M' h; cases h
  | succ n ih => intro x1 x2 M' h e; subst e; exact w_X0_howManyLettered_b4 hG hR k0 ih h
theorem w_X0_howManyLettered {E : EB} {r0 : Nat} (k0 : IsK r0 0) {M : Mem} {R : Int32} (h : f_X0_howManyLettered r0 M = some R) : Mt E mX0_howManyLettered [.ref r0] M (PI R M) := by
  refine mt_of (L0 := [some (.ref r0), none, none]) (by decide) rfl rfl (fun G hG hR => ?_)
  unfold f_X0_howManyLettered at h
  refine v_iconst hG ci_0 dX0_howManyLettered_0 (q := 1) rfl ?_
  refine v_istore_1 hG rfl dX0_howManyLettered_1 (q := 2) rfl ?_
  refine v_iconst hG ci_0 dX0_howManyLettered_2 (q := 3) rfl ?_
  refine v_istore_2 hG rfl dX0_howManyLettered_3 (q := 4) rfl ?_
  exact w_X0_howManyLettered_l4 hG hR k0 FU _ _ _ h rfl
theorem cvX0_howManyLettered : CVo mX0_howManyLettered 0 0 := ⟨moX0_howManyLettered, mvX0_howManyLettered, by decide, _, _, rfl⟩
theorem w_X0_allPence_b4 {E : EB} {G : GB} (hG : Gd E mX0_allPence G) {r0 : Nat} {M : Mem} {R : Int32} (hR : Rt E mX0_allPence (PI R M) G) (k0 : IsK r0 0) {k4 : Int32 → Int32 → Mem → Option (Int32)} (hk4 : ∀ (x1 : Int32) (x2 : Int32) (M' : Mem), k4 x1 x2 M' = some R → M' = M → V E G 4 [some (.ref r0), some (.int x1), some (.int x2)] [] M') {x1 : Int32} {x2 : Int32} (h : f_X0_allPence_b4 r0 k4 x1 x2 M = some R) : V E G 4 [some (.ref r0), some (.int x1), some (.int x2)] [] M := by
  unfold f_X0_allPence_b4 at h
  refine v_iload_2 hG dX0_allPence_4 (q := 5) rfl ?_
  refine v_aload_0 hG dX0_allPence_5 (q := 6) rfl ?_
  refine gt_RX0_30 hG rfl k0 dX0_allPence_6 (q := 9) rfl ?_
  refine v_icmp_ge hG dX0_allPence_9 (tgt := 27) rfl (q := 12) rfl (fun hc => ?_) (fun hc => ?_)
  · replace h := ifp hc h
    refine v_iload_1 hG dX0_allPence_27 (q := 28) rfl ?_
    exact v_iret hG hR rfl rfl (sp1 h) dX0_allPence_28
  · replace h := ifn hc h
    refine v_iload_1 hG dX0_allPence_12 (q := 13) rfl ?_
    refine v_aload_0 hG dX0_allPence_13 (q := 14) rfl ?_
    refine gt_RX0_21 hG rfl k0 dX0_allPence_14 (q := 17) rfl ?_
    refine v_iload_2 hG dX0_allPence_17 (q := 18) rfl ?_
    obtain ⟨c_1, h⟩ := ck_some h
    refine v_iald hG ((k0).p4) ((k0).pl4) c_1 dX0_allPence_18 (q := 19) rfl ?_
    refine v_iadd hG dX0_allPence_19 (q := 20) rfl ?_
    refine v_topi (fun x1_2 hy => ?_)
    replace h := letv_at hy h
    clear hy
    refine v_istore_1 hG rfl dX0_allPence_20 (q := 21) rfl ?_
    refine v_iinc_2 hG rfl dX0_allPence_21 (congrArg _ ci_1) (q := 24) rfl ?_
    refine v_goto hG dX0_allPence_24 (tgt := 4) rfl ?_
    exact hk4 _ _ _ h rfl
theorem w_X0_allPence_l4 {E : EB} {G : GB} (hG : Gd E mX0_allPence G) {r0 : Nat} {M : Mem} {R : Int32} (hR : Rt E mX0_allPence (PI R M) G) (k0 : IsK r0 0) : ∀ (n : Nat) (x1 : Int32) (x2 : Int32) (M' : Mem), f_X0_allPence_l4 r0 n x1 x2 M' = some R → M' = M → V E G 4 [some (.ref r0), some (.int x1), some (.int x2)] [] M' := by
  intro n
  induction n with
  | zero => intro x1 x2 M' h; cases h
  | succ n ih => intro x1 x2 M' h e; subst e; exact w_X0_allPence_b4 hG hR k0 ih h
theorem w_X0_allPence {E : EB} {r0 : Nat} (k0 : IsK r0 0) {M : Mem} {R : Int32} (h : f_X0_allPence r0 M = some R) : Mt E mX0_allPence [.ref r0] M (PI R M) := by
  refine mt_of (L0 := [some (.ref r0), none, none]) (by decide) rfl rfl (fun G hG hR => ?_)
  unfold f_X0_allPence at h
  refine v_iconst hG ci_0 dX0_allPence_0 (q := 1) rfl ?_
  refine v_istore_1 hG rfl dX0_allPence_1 (q := 2) rfl ?_
  refine v_iconst hG ci_0 dX0_allPence_2 (q := 3) rfl ?_
  refine v_istore_2 hG rfl dX0_allPence_3 (q := 4) rfl ?_
  exact w_X0_allPence_l4 hG hR k0 FU _ _ _ h rfl
theorem cvX0_allPence : CVo mX0_allPence 0 0 := ⟨moX0_allPence, mvX0_allPence, by decide, _, _, rfl⟩
theorem w_X1_isMissing {E : EB} {x1 : Int32} {M : Mem} {R : Bool} (h : f_X1_isMissing x1 M = some R) : Mt E mX1_isMissing [.ref 52, .int x1] M (PI (b2i R) M) := by
  refine mt_of (L0 := [some (.ref 52), some (.int x1)]) (by decide) rfl rfl (fun G hG hR => ?_)
  unfold f_X1_isMissing at h
  refine v_aload_0 hG dX1_isMissing_0 (q := 1) rfl ?_
  refine gt_RX1_9 hG rfl kk_52 dX1_isMissing_1 (q := 4) rfl ?_
  refine v_iload_1 hG dX1_isMissing_4 (q := 5) rfl ?_
  obtain ⟨c_1, h⟩ := ck_some h
  refine v_iald hG kk_53 rfl c_1 dX1_isMissing_5 (q := 6) rfl ?_
  refine v_if_ne hG dX1_isMissing_6 (tgt := 13) rfl (q := 9) rfl (fun hc => ?_) (fun hc => ?_)
  · replace h := ifn hc h
    refine v_iconst hG ci_0 dX1_isMissing_13 (q := 14) rfl ?_
    exact v_iret hG hR rfl rfl (sp1b h) dX1_isMissing_14
  · replace h := ifp hc h
    refine v_iconst hG ci_1 dX1_isMissing_9 (q := 10) rfl ?_
    refine v_goto hG dX1_isMissing_10 (tgt := 14) rfl ?_
    exact v_iret hG hR rfl rfl (sp1b h) dX1_isMissing_14
theorem cvX1_isMissing : CVo mX1_isMissing 1 1 := ⟨moX1_isMissing, mvX1_isMissing, by decide, _, _, rfl⟩
theorem w_X1_lay_b25 {E : EB} {G : GB} (hG : Gd E mX1_lay G) {M : Mem} {R : Int32 × Mem} (hR : Rt E mX1_lay (PI R.1 R.2) G) {k25 : Int32 → Int32 → Mem → Option (Int32 × Mem)} (hk25 : ∀ (x1 : Int32) (x4 : Int32) (M : Mem), k25 x1 x4 M = some R → V E G 25 [some (.ref 52), some (.int x1), none, none, some (.int x4)] [] M) {x1 : Int32} {x4 : Int32} (h : f_X1_lay_b25 k25 x1 x4 M = some R) : V E G 25 [some (.ref 52), some (.int x1), none, none, some (.int x4)] [] M := by
  unfold f_X1_lay_b25 at h
  refine v_iload_4 hG dX1_lay_25 (q := 27) rfl ?_
  refine v_bipush hG cb_40 dX1_lay_27 (q := 29) rfl ?_
  refine v_icmp_ge hG dX1_lay_29 (tgt := 51) rfl (q := 32) rfl (fun hc => ?_) (fun hc => ?_)
  · replace h := ifp hc h
    refine v_aload_0 hG dX1_lay_51 (q := 52) rfl ?_
    refine gt_RX1_15 hG rfl kk_52 dX1_lay_52 (q := 55) rfl ?_
    refine v_iload_1 hG dX1_lay_55 (q := 56) rfl ?_
    obtain ⟨c_7, h⟩ := ck_some h
    refine v_iald hG kk_54 rfl c_7 dX1_lay_56 (q := 57) rfl ?_
    exact v_iret hG hR rfl rfl (sp2t h) dX1_lay_57
  · replace h := ifn hc h
    refine v_aload_0 hG dX1_lay_32 (q := 33) rfl ?_
    refine gt_RX1_18 hG rfl kk_52 dX1_lay_33 (q := 36) rfl ?_
    refine v_iload_1 hG dX1_lay_36 (q := 37) rfl ?_
    refine v_bipush hG cb_40 dX1_lay_37 (q := 39) rfl ?_
    refine v_imul hG dX1_lay_39 (q := 40) rfl ?_
    refine v_iload_4 hG dX1_lay_40 (q := 42) rfl ?_
    refine v_iadd hG dX1_lay_42 (q := 43) rfl ?_
    refine v_iconst hG ci_0 dX1_lay_43 (q := 44) rfl ?_
    obtain ⟨c_8, h⟩ := ck_some h
    refine v_iast hG kk_55 rfl c_8 dX1_lay_44 (q := 45) rfl ?_
    refine v_topM (fun M_9 hy => ?_)
    replace h := letv_at hy h
    clear hy
    refine v_iinc_4 hG rfl dX1_lay_45 (congrArg _ ci_1) (q := 48) rfl ?_
    refine v_goto hG dX1_lay_48 (tgt := 25) rfl ?_
    exact hk25 _ _ _ h
theorem w_X1_lay_l25 {E : EB} {G : GB} (hG : Gd E mX1_lay G) {R : Int32 × Mem} (hR : Rt E mX1_lay (PI R.1 R.2) G) : ∀ (n : Nat) (x1 : Int32) (x4 : Int32) (M : Mem), f_X1_lay_l25 n x1 x4 M = some R → V E G 25 [some (.ref 52), some (.int x1), none, none, some (.int x4)] [] M := by
  intro n
  induction n with
  | zero => intro x1 x4 M h; cases h
  | succ n ih => intro x1 x4 M h; exact w_X1_lay_b25 hG hR ih h
theorem w_X1_lay {E : EB} {x1 : Int32} {x2 : Int32} {x3 : Int32} {M : Mem} {R : Int32 × Mem} (h : f_X1_lay x1 x2 x3 M = some R) : Mt E mX1_lay [.ref 52, .int x1, .int x2, .int x3] M (PI R.1 R.2) := by
  refine mt_of (L0 := [some (.ref 52), some (.int x1), some (.int x2), some (.int x3), none]) (by decide) rfl rfl (fun G hG hR => ?_)
  unfold f_X1_lay at h
  refine v_aload_0 hG dX1_lay_0 (q := 1) rfl ?_
  refine gt_RX1_9 hG rfl kk_52 dX1_lay_1 (q := 4) rfl ?_
  refine v_iload_1 hG dX1_lay_4 (q := 5) rfl ?_
  refine v_iload_2 hG dX1_lay_5 (q := 6) rfl ?_
  obtain ⟨c_1, h⟩ := ck_some h
  refine v_iast hG kk_53 rfl c_1 dX1_lay_6 (q := 7) rfl ?_
  refine v_topM (fun M_2 hy => ?_)
  replace h := letv_at hy h
  clear hy
  refine v_aload_0 hG dX1_lay_7 (q := 8) rfl ?_
  refine gt_RX1_15 hG rfl kk_52 dX1_lay_8 (q := 11) rfl ?_
  refine v_iload_1 hG dX1_lay_11 (q := 12) rfl ?_
  refine v_iload_2 hG dX1_lay_12 (q := 13) rfl ?_
  refine v_if_ne hG dX1_lay_13 (tgt := 20) rfl (q := 16) rfl (fun hc => ?_) (fun hc => ?_)
  · replace h := ifn hc h
    refine v_iload_3 hG dX1_lay_20 (q := 21) rfl ?_
    obtain ⟨c_3, h⟩ := ck_some h
    refine v_iast hG kk_54 rfl c_3 dX1_lay_21 (q := 22) rfl ?_
    refine v_topM (fun M_4 hy => ?_)
    replace h := letv_at hy h
    clear hy
    refine v_iconst hG ci_0 dX1_lay_22 (q := 23) rfl ?_
    refine v_istore_4 hG rfl dX1_lay_23 (q := 25) rfl ?_
    refine v_drop (n := 2) (L' := [some (.ref 52), some (.int x1), none, some (.int x3), some (.int (0 : Int32))]) rfl ?_
    refine v_drop (n := 3) (L' := [some (.ref 52), some (.int x1), none, none, some (.int (0 : Int32))]) rfl ?_
    exact w_X1_lay_l25 hG hR FU _ _ _ h
  · replace h := ifp hc h
    refine v_iconst hG ci_0 dX1_lay_16 (q := 17) rfl ?_
    refine v_goto hG dX1_lay_17 (tgt := 21) rfl ?_
    obtain ⟨c_5, h⟩ := ck_some h
    refine v_iast hG kk_54 rfl c_5 dX1_lay_21 (q := 22) rfl ?_
    refine v_topM (fun M_6 hy => ?_)
    replace h := letv_at hy h
    clear hy
    refine v_iconst hG ci_0 dX1_lay_22 (q := 23) rfl ?_
    refine v_istore_4 hG rfl dX1_lay_23 (q := 25) rfl ?_
    refine v_drop (n := 2) (L' := [some (.ref 52), some (.int x1), none, some (.int x3), some (.int (0 : Int32))]) rfl ?_
    refine v_drop (n := 3) (L' := [some (.ref 52), some (.int x1), none, none, some (.int (0 : Int32))]) rfl ?_
    exact w_X1_lay_l25 hG hR FU _ _ _ h
theorem cvX1_lay : CVo mX1_lay 3 1 := ⟨moX1_lay, mvX1_lay, by decide, _, _, rfl⟩
theorem w_X1_number {E : EB} {x1 : Int32} {x2 : Int32} {M : Mem} {R : Int32} (h : f_X1_number x1 x2 M = some R) : Mt E mX1_number [.ref 52, .int x1, .int x2] M (PI R M) := by
  refine mt_of (L0 := [some (.ref 52), some (.int x1), some (.int x2)]) (by decide) rfl rfl (fun G hG hR => ?_)
  unfold f_X1_number at h
  refine v_aload_0 hG dX1_number_0 (q := 1) rfl ?_
  refine gt_RX1_18 hG rfl kk_52 dX1_number_1 (q := 4) rfl ?_
  refine v_iload_1 hG dX1_number_4 (q := 5) rfl ?_
  refine v_bipush hG cb_40 dX1_number_5 (q := 7) rfl ?_
  refine v_imul hG dX1_number_7 (q := 8) rfl ?_
  refine v_iload_2 hG dX1_number_8 (q := 9) rfl ?_
  refine v_iadd hG dX1_number_9 (q := 10) rfl ?_
  obtain ⟨c_1, h⟩ := ck_some h
  refine v_iald hG kk_55 rfl c_1 dX1_number_10 (q := 11) rfl ?_
  exact v_iret hG hR rfl rfl (sp1 h) dX1_number_11
theorem cvX1_number : CVo mX1_number 2 1 := ⟨moX1_number, mvX1_number, by decide, _, _, rfl⟩
theorem w_X1_note_j18 {E : EB} {G : GB} (hG : Gd E mX1_note G) {M : Mem} {R : Mem} (hR : Rt E mX1_note (PV R) G) {x1 : Int32} {x2 : Int32} {x3 : Int32} {x4 : Int32} (h : f_X1_note_j18 x1 x2 x3 x4 M = some R) : V E G 18 [some (.ref 52), some (.int x1), some (.int x2), some (.int x3), some (.int x4)] [] M := by
  unfold f_X1_note_j18 at h
  refine v_aload_0 hG dX1_note_18 (q := 19) rfl ?_
  refine gt_RX1_9 hG rfl kk_52 dX1_note_19 (q := 22) rfl ?_
  refine v_iload_1 hG dX1_note_22 (q := 23) rfl ?_
  obtain ⟨c_3, h⟩ := ck_some h
  refine v_iald hG kk_53 rfl c_3 dX1_note_23 (q := 24) rfl ?_
  refine v_bipush hG cb_16 dX1_note_24 (q := 26) rfl ?_
  refine v_icmp_ne hG dX1_note_26 (tgt := 33) rfl (q := 29) rfl (fun hc => ?_) (fun hc => ?_)
  · replace h := ifn hc h
    refine v_aload_0 hG dX1_note_33 (q := 34) rfl ?_
    refine gt_RX1_18 hG rfl kk_52 dX1_note_34 (q := 37) rfl ?_
    refine v_iload_1 hG dX1_note_37 (q := 38) rfl ?_
    refine v_bipush hG cb_40 dX1_note_38 (q := 40) rfl ?_
    refine v_imul hG dX1_note_40 (q := 41) rfl ?_
    refine v_iload_2 hG dX1_note_41 (q := 42) rfl ?_
    refine v_iadd hG dX1_note_42 (q := 43) rfl ?_
    refine v_iload_4 hG dX1_note_43 (q := 45) rfl ?_
    obtain ⟨c_4, h⟩ := ck_some h
    refine v_iast hG kk_55 rfl c_4 dX1_note_45 (q := 46) rfl ?_
    refine v_topM (fun M_5 hy => ?_)
    replace h := letv_at hy h
    clear hy
    exact v_vret hG hR rfl (spv h) dX1_note_46
  · replace h := ifp hc h
    refine v_iload_3 hG dX1_note_29 (q := 30) rfl ?_
    refine v_i2s hG dX1_note_30 (q := 31) rfl ?_
    refine v_topi (fun x4_6 hy => ?_)
    replace h := letv_at hy h
    clear hy
    refine v_istore_4 hG rfl dX1_note_31 (q := 33) rfl ?_
    refine v_aload_0 hG dX1_note_33 (q := 34) rfl ?_
    refine gt_RX1_18 hG rfl kk_52 dX1_note_34 (q := 37) rfl ?_
    refine v_iload_1 hG dX1_note_37 (q := 38) rfl ?_
    refine v_bipush hG cb_40 dX1_note_38 (q := 40) rfl ?_
    refine v_imul hG dX1_note_40 (q := 41) rfl ?_
    refine v_iload_2 hG dX1_note_41 (q := 42) rfl ?_
    refine v_iadd hG dX1_note_42 (q := 43) rfl ?_
    refine v_iload_4 hG dX1_note_43 (q := 45) rfl ?_
    obtain ⟨c_7, h⟩ := ck_some h
    refine v_iast hG kk_55 rfl c_7 dX1_note_45 (q := 46) rfl ?_
    refine v_topM (fun M_8 hy => ?_)
    replace h := letv_at hy h
    clear hy
    exact v_vret hG hR rfl (spv h) dX1_note_46
theorem w_X1_note {E : EB} {x1 : Int32} {x2 : Int32} {x3 : Int32} {M : Mem} {R : Mem} (h : f_X1_note x1 x2 x3 M = some R) : Mt E mX1_note [.ref 52, .int x1, .int x2, .int x3] M (PV R) := by
  refine mt_of (L0 := [some (.ref 52), some (.int x1), some (.int x2), some (.int x3), none]) (by decide) rfl rfl (fun G hG hR => ?_)
  unfold f_X1_note at h
  refine v_iload_3 hG dX1_note_0 (q := 1) rfl ?_
  refine v_istore_4 hG rfl dX1_note_1 (q := 3) rfl ?_
  refine v_aload_0 hG dX1_note_3 (q := 4) rfl ?_
  refine gt_RX1_9 hG rfl kk_52 dX1_note_4 (q := 7) rfl ?_
  refine v_iload_1 hG dX1_note_7 (q := 8) rfl ?_
  obtain ⟨c_1, h⟩ := ck_some h
  refine v_iald hG kk_53 rfl c_1 dX1_note_8 (q := 9) rfl ?_
  refine v_bipush hG cb_8 dX1_note_9 (q := 11) rfl ?_
  refine v_icmp_ne hG dX1_note_11 (tgt := 18) rfl (q := 14) rfl (fun hc => ?_) (fun hc => ?_)
  · replace h := ifn hc h
    exact w_X1_note_j18 hG hR h
  · replace h := ifp hc h
    refine v_iload_3 hG dX1_note_14 (q := 15) rfl ?_
    refine v_i2b hG dX1_note_15 (q := 16) rfl ?_
    refine v_topi (fun x4_2 hy => ?_)
    replace h := letv_at hy h
    clear hy
    refine v_istore_4 hG rfl dX1_note_16 (q := 18) rfl ?_
    exact w_X1_note_j18 hG hR h
theorem cvX1_note : CVo mX1_note 3 1 := ⟨moX1_note, mvX1_note, by decide, _, _, rfl⟩
theorem w_X1_hasFrom {E : EB} {x1 : Int32} {x2 : Int32} {x3 : Int32} {M : Mem} {R : Bool} (h : f_X1_hasFrom x1 x2 x3 M = some R) : Mt E mX1_hasFrom [.ref 52, .int x1, .int x2, .int x3] M (PI (b2i R) M) := by
  refine mt_of (L0 := [some (.ref 52), some (.int x1), some (.int x2), some (.int x3)]) (by decide) rfl rfl (fun G hG hR => ?_)
  unfold f_X1_hasFrom at h
  refine v_iload_2 hG dX1_hasFrom_0 (q := 1) rfl ?_
  refine v_if_lt hG dX1_hasFrom_1 (tgt := 34) rfl (q := 4) rfl (fun hc => ?_) (fun hc => ?_)
  · replace h := ifp hc h
    refine v_iconst hG ci_0 dX1_hasFrom_34 (q := 35) rfl ?_
    exact v_iret hG hR rfl rfl (sp1b h) dX1_hasFrom_35
  · replace h := ifn hc h
    refine v_iload_3 hG dX1_hasFrom_4 (q := 5) rfl ?_
    refine v_if_lt hG dX1_hasFrom_5 (tgt := 34) rfl (q := 8) rfl (fun hc => ?_) (fun hc => ?_)
    · replace h := ifp hc h
      refine v_iconst hG ci_0 dX1_hasFrom_34 (q := 35) rfl ?_
      exact v_iret hG hR rfl rfl (sp1b h) dX1_hasFrom_35
    · replace h := ifn hc h
      refine v_iload_3 hG dX1_hasFrom_8 (q := 9) rfl ?_
      refine v_aload_0 hG dX1_hasFrom_9 (q := 10) rfl ?_
      refine gt_RX1_15 hG rfl kk_52 dX1_hasFrom_10 (q := 13) rfl ?_
      refine v_iload_1 hG dX1_hasFrom_13 (q := 14) rfl ?_
      obtain ⟨c_1, h⟩ := ck_some h
      refine v_iald hG kk_54 rfl c_1 dX1_hasFrom_14 (q := 15) rfl ?_
      refine v_icmp_gt hG dX1_hasFrom_15 (tgt := 34) rfl (q := 18) rfl (fun hc => ?_) (fun hc => ?_)
      · replace h := ifp hc h
        refine v_iconst hG ci_0 dX1_hasFrom_34 (q := 35) rfl ?_
        exact v_iret hG hR rfl rfl (sp1b h) dX1_hasFrom_35
      · replace h := ifn hc h
        refine v_iload_2 hG dX1_hasFrom_18 (q := 19) rfl ?_
        refine v_aload_0 hG dX1_hasFrom_19 (q := 20) rfl ?_
        refine gt_RX1_15 hG rfl kk_52 dX1_hasFrom_20 (q := 23) rfl ?_
        refine v_iload_1 hG dX1_hasFrom_23 (q := 24) rfl ?_
        obtain ⟨c_2, h⟩ := ck_some h
        refine v_iald hG kk_54 rfl c_2 dX1_hasFrom_24 (q := 25) rfl ?_
        refine v_iload_3 hG dX1_hasFrom_25 (q := 26) rfl ?_
        refine v_isub hG dX1_hasFrom_26 (q := 27) rfl ?_
        refine v_icmp_gt hG dX1_hasFrom_27 (tgt := 34) rfl (q := 30) rfl (fun hc => ?_) (fun hc => ?_)
        · replace h := ifp hc h
          refine v_iconst hG ci_0 dX1_hasFrom_34 (q := 35) rfl ?_
          exact v_iret hG hR rfl rfl (sp1b h) dX1_hasFrom_35
        · replace h := ifn hc h
          refine v_iconst hG ci_1 dX1_hasFrom_30 (q := 31) rfl ?_
          refine v_goto hG dX1_hasFrom_31 (tgt := 35) rfl ?_
          exact v_iret hG hR rfl rfl (sp1b h) dX1_hasFrom_35
theorem cvX1_hasFrom : CVo mX1_hasFrom 3 1 := ⟨moX1_hasFrom, mvX1_hasFrom, by decide, _, _, rfl⟩
theorem w_X1_move {E : EB} {x1 : Int32} {x2 : Int32} {x3 : Int32} {x4 : Int32} {x5 : Int32} {M : Mem} {R : Mem} (h : f_X1_move x1 x2 x3 x4 x5 M = some R) : Mt E mX1_move [.ref 52, .int x1, .int x2, .int x3, .int x4, .int x5] M (PV R) := by
  refine mt_of (L0 := [some (.ref 52), some (.int x1), some (.int x2), some (.int x3), some (.int x4), some (.int x5)]) (by decide) rfl rfl (fun G hG hR => ?_)
  unfold f_X1_move at h
  refine v_aload_0 hG dX1_move_0 (q := 1) rfl ?_
  refine gt_RX1_18 hG rfl kk_52 dX1_move_1 (q := 4) rfl ?_
  refine v_iload_1 hG dX1_move_4 (q := 5) rfl ?_
  refine v_bipush hG cb_40 dX1_move_5 (q := 7) rfl ?_
  refine v_imul hG dX1_move_7 (q := 8) rfl ?_
  refine v_iload_2 hG dX1_move_8 (q := 9) rfl ?_
  refine v_iadd hG dX1_move_9 (q := 10) rfl ?_
  refine v_aload_0 hG dX1_move_10 (q := 11) rfl ?_
  refine gt_RX1_18 hG rfl kk_52 dX1_move_11 (q := 14) rfl ?_
  refine v_iload_3 hG dX1_move_14 (q := 15) rfl ?_
  refine v_bipush hG cb_40 dX1_move_15 (q := 17) rfl ?_
  refine v_imul hG dX1_move_17 (q := 18) rfl ?_
  refine v_iload_4 hG dX1_move_18 (q := 20) rfl ?_
  refine v_iadd hG dX1_move_20 (q := 21) rfl ?_
  refine v_iload_5 hG dX1_move_21 (q := 23) rfl ?_
  obtain ⟨c_2, h⟩ := ck_some h
  refine v_copy hG ac_RX1_21 rfl rfl kk_55 rfl kk_55 rfl c_2 (Nat.le_of_ble_eq_true rfl) dX1_move_23 (q := 26) rfl ?_
  refine v_topM (fun M_1 hy => ?_)
  replace h := letv_at hy h
  clear hy
  exact v_vret hG hR rfl (spv h) dX1_move_26
theorem cvX1_move : CVo mX1_move 5 1 := ⟨moX1_move, mvX1_move, by decide, _, _, rfl⟩
theorem w_X5_addOne {E : EB} {r0 : Nat} {x1 : Int32} (k0 : IsK r0 5) {M : Mem} {R : Int32 × Mem} (h : f_X5_addOne r0 x1 M = some R) : Mt E mX5_addOne [.ref r0, .int x1] M (PI R.1 R.2) := by
  refine mt_of (L0 := [some (.ref r0), some (.int x1), none]) (by decide) rfl rfl (fun G hG hR => ?_)
  unfold f_X5_addOne at h
  refine v_aload_0 hG dX5_addOne_0 (q := 1) rfl ?_
  refine gt_RX5_30 hG rfl k0 dX5_addOne_1 (q := 4) rfl ?_
  refine v_bipush hG cb_6 dX5_addOne_4 (q := 6) rfl ?_
  refine v_icmp_lt hG dX5_addOne_6 (tgt := 11) rfl (q := 9) rfl (fun hc => ?_) (fun hc => ?_)
  · replace h := ifp hc h
    refine v_aload_0 hG dX5_addOne_11 (q := 12) rfl ?_
    refine gt_RX5_30 hG rfl k0 dX5_addOne_12 (q := 15) rfl ?_
    refine v_topi (fun x2_1 hy => ?_)
    replace h := letv_at hy h
    clear hy
    refine v_istore_2 hG rfl dX5_addOne_15 (q := 16) rfl ?_
    refine v_aload_0 hG dX5_addOne_16 (q := 17) rfl ?_
    refine v_dup hG rfl dX5_addOne_17 (q := 18) rfl ?_
    refine gt_RX5_30 hG rfl k0 dX5_addOne_18 (q := 21) rfl ?_
    refine v_iconst hG ci_1 dX5_addOne_21 (q := 22) rfl ?_
    refine v_iadd hG dX5_addOne_22 (q := 23) rfl ?_
    refine pt_RX5_30 hG rfl k0 dX5_addOne_23 (q := 26) rfl ?_
    refine v_topM (fun M_2 hy => ?_)
    replace h := letv_at hy h
    clear hy
    refine v_aload_0 hG dX5_addOne_26 (q := 27) rfl ?_
    refine gt_RX5_9 hG rfl k0 dX5_addOne_27 (q := 30) rfl ?_
    refine v_iload_2 hG dX5_addOne_30 (q := 31) rfl ?_
    refine v_iload_1 hG dX5_addOne_31 (q := 32) rfl ?_
    obtain ⟨c_3, h⟩ := ck_some h
    refine v_iast hG ((k0).w1) ((k0).wl1) c_3 dX5_addOne_32 (q := 33) rfl ?_
    refine v_topM (fun M_4 hy => ?_)
    replace h := letv_at hy h
    clear hy
    refine v_aload_0 hG dX5_addOne_33 (q := 34) rfl ?_
    refine gt_RX5_15 hG rfl k0 dX5_addOne_34 (q := 37) rfl ?_
    refine v_iload_2 hG dX5_addOne_37 (q := 38) rfl ?_
    refine v_iconst hG ci_0 dX5_addOne_38 (q := 39) rfl ?_
    obtain ⟨c_5, h⟩ := ck_some h
    refine v_iast hG ((k0).w2) ((k0).wl2) c_5 dX5_addOne_39 (q := 40) rfl ?_
    refine v_topM (fun M_6 hy => ?_)
    replace h := letv_at hy h
    clear hy
    refine v_aload_0 hG dX5_addOne_40 (q := 41) rfl ?_
    refine gt_RX5_18 hG rfl k0 dX5_addOne_41 (q := 44) rfl ?_
    refine v_iload_2 hG dX5_addOne_44 (q := 45) rfl ?_
    refine v_iconst hG ci_0 dX5_addOne_45 (q := 46) rfl ?_
    obtain ⟨c_7, h⟩ := ck_some h
    refine v_iast hG ((k0).w3) ((k0).wl3) c_7 dX5_addOne_46 (q := 47) rfl ?_
    refine v_topM (fun M_8 hy => ?_)
    replace h := letv_at hy h
    clear hy
    refine v_aload_0 hG dX5_addOne_47 (q := 48) rfl ?_
    refine gt_RX5_21 hG rfl k0 dX5_addOne_48 (q := 51) rfl ?_
    refine v_iload_2 hG dX5_addOne_51 (q := 52) rfl ?_
    refine v_iconst hG ci_0 dX5_addOne_52 (q := 53) rfl ?_
    obtain ⟨c_9, h⟩ := ck_some h
    refine v_iast hG ((k0).w4) ((k0).wl4) c_9 dX5_addOne_53 (q := 54) rfl ?_
    refine v_topM (fun M_10 hy => ?_)
    replace h := letv_at hy h
    clear hy
    refine v_aload_0 hG dX5_addOne_54 (q := 55) rfl ?_
    refine gt_RX5_24 hG rfl k0 dX5_addOne_55 (q := 58) rfl ?_
    refine v_iload_2 hG dX5_addOne_58 (q := 59) rfl ?_
    refine v_iconst hG ci_4 dX5_addOne_59 (q := 60) rfl ?_
    obtain ⟨c_11, h⟩ := ck_some h
    refine v_iast hG ((k0).w5) ((k0).wl5) c_11 dX5_addOne_60 (q := 61) rfl ?_
    refine v_topM (fun M_12 hy => ?_)
    replace h := letv_at hy h
    clear hy
    refine v_aload_0 hG dX5_addOne_61 (q := 62) rfl ?_
    refine gt_RX5_27 hG rfl k0 dX5_addOne_62 (q := 65) rfl ?_
    refine v_iload_2 hG dX5_addOne_65 (q := 66) rfl ?_
    refine v_iconst hG ci_0 dX5_addOne_66 (q := 67) rfl ?_
    obtain ⟨c_13, h⟩ := ck_some h
    refine v_iast hG ((k0).w6) ((k0).wl6) c_13 dX5_addOne_67 (q := 68) rfl ?_
    refine v_topM (fun M_14 hy => ?_)
    replace h := letv_at hy h
    clear hy
    refine v_iload_2 hG dX5_addOne_68 (q := 69) rfl ?_
    exact v_iret hG hR rfl rfl (sp2t h) dX5_addOne_69
  · replace h := ifn hc h
    refine v_iconst hG ci_m1 dX5_addOne_9 (q := 10) rfl ?_
    exact v_iret hG hR rfl rfl (sp2t h) dX5_addOne_10
theorem cvX5_addOne : CVo mX5_addOne 1 5 := ⟨moX5_addOne, mvX5_addOne, by decide, _, _, rfl⟩
theorem w_X5_become {E : EB} {r0 : Nat} {r1 : Nat} (k0 : IsK r0 5) (k1 : IsK r1 5) {M : Mem} {R : Mem} (h : f_X5_become r0 r1 M = some R) : Mt E mX5_become [.ref r0, .ref r1] M (PV R) := by
  refine mt_of (L0 := [some (.ref r0), some (.ref r1)]) (by decide) rfl rfl (fun G hG hR => ?_)
  unfold f_X5_become at h
  refine v_aload_0 hG dX5_become_0 (q := 1) rfl ?_
  refine v_aload_1 hG dX5_become_1 (q := 2) rfl ?_
  refine gt_RX5_30 hG rfl k1 dX5_become_2 (q := 5) rfl ?_
  refine pt_RX5_30 hG rfl k0 dX5_become_5 (q := 8) rfl ?_
  refine v_topM (fun M_1 hy => ?_)
  replace h := letv_at hy h
  clear hy
  refine v_aload_1 hG dX5_become_8 (q := 9) rfl ?_
  refine gt_RX5_9 hG rfl k1 dX5_become_9 (q := 12) rfl ?_
  refine v_iconst hG ci_0 dX5_become_12 (q := 13) rfl ?_
  refine v_aload_0 hG dX5_become_13 (q := 14) rfl ?_
  refine gt_RX5_9 hG rfl k0 dX5_become_14 (q := 17) rfl ?_
  refine v_iconst hG ci_0 dX5_become_17 (q := 18) rfl ?_
  refine v_bipush hG cb_6 dX5_become_18 (q := 20) rfl ?_
  obtain ⟨c_3, h⟩ := ck_some h
  refine v_copy hG ac_RX5_34 rfl rfl ((k1).w1) ((k1).wl1) ((k0).w1) ((k0).wl1) c_3 (Nat.le_of_ble_eq_true rfl) dX5_become_20 (q := 23) rfl ?_
  refine v_topM (fun M_2 hy => ?_)
  replace h := letv_at hy h
  clear hy
  refine v_aload_1 hG dX5_become_23 (q := 24) rfl ?_
  refine gt_RX5_15 hG rfl k1 dX5_become_24 (q := 27) rfl ?_
  refine v_iconst hG ci_0 dX5_become_27 (q := 28) rfl ?_
  refine v_aload_0 hG dX5_become_28 (q := 29) rfl ?_
  refine gt_RX5_15 hG rfl k0 dX5_become_29 (q := 32) rfl ?_
  refine v_iconst hG ci_0 dX5_become_32 (q := 33) rfl ?_
  refine v_bipush hG cb_6 dX5_become_33 (q := 35) rfl ?_
  obtain ⟨c_5, h⟩ := ck_some h
  refine v_copy hG ac_RX5_34 rfl rfl ((k1).w2) ((k1).wl2) ((k0).w2) ((k0).wl2) c_5 (Nat.le_of_ble_eq_true rfl) dX5_become_35 (q := 38) rfl ?_
  refine v_topM (fun M_4 hy => ?_)
  replace h := letv_at hy h
  clear hy
  refine v_aload_1 hG dX5_become_38 (q := 39) rfl ?_
  refine gt_RX5_18 hG rfl k1 dX5_become_39 (q := 42) rfl ?_
  refine v_iconst hG ci_0 dX5_become_42 (q := 43) rfl ?_
  refine v_aload_0 hG dX5_become_43 (q := 44) rfl ?_
  refine gt_RX5_18 hG rfl k0 dX5_become_44 (q := 47) rfl ?_
  refine v_iconst hG ci_0 dX5_become_47 (q := 48) rfl ?_
  refine v_bipush hG cb_6 dX5_become_48 (q := 50) rfl ?_
  obtain ⟨c_7, h⟩ := ck_some h
  refine v_copy hG ac_RX5_34 rfl rfl ((k1).w3) ((k1).wl3) ((k0).w3) ((k0).wl3) c_7 (Nat.le_of_ble_eq_true rfl) dX5_become_50 (q := 53) rfl ?_
  refine v_topM (fun M_6 hy => ?_)
  replace h := letv_at hy h
  clear hy
  refine v_aload_1 hG dX5_become_53 (q := 54) rfl ?_
  refine gt_RX5_21 hG rfl k1 dX5_become_54 (q := 57) rfl ?_
  refine v_iconst hG ci_0 dX5_become_57 (q := 58) rfl ?_
  refine v_aload_0 hG dX5_become_58 (q := 59) rfl ?_
  refine gt_RX5_21 hG rfl k0 dX5_become_59 (q := 62) rfl ?_
  refine v_iconst hG ci_0 dX5_become_62 (q := 63) rfl ?_
  refine v_bipush hG cb_6 dX5_become_63 (q := 65) rfl ?_
  obtain ⟨c_9, h⟩ := ck_some h
  refine v_copy hG ac_RX5_34 rfl rfl ((k1).w4) ((k1).wl4) ((k0).w4) ((k0).wl4) c_9 (Nat.le_of_ble_eq_true rfl) dX5_become_65 (q := 68) rfl ?_
  refine v_topM (fun M_8 hy => ?_)
  replace h := letv_at hy h
  clear hy
  refine v_aload_1 hG dX5_become_68 (q := 69) rfl ?_
  refine gt_RX5_24 hG rfl k1 dX5_become_69 (q := 72) rfl ?_
  refine v_iconst hG ci_0 dX5_become_72 (q := 73) rfl ?_
  refine v_aload_0 hG dX5_become_73 (q := 74) rfl ?_
  refine gt_RX5_24 hG rfl k0 dX5_become_74 (q := 77) rfl ?_
  refine v_iconst hG ci_0 dX5_become_77 (q := 78) rfl ?_
  refine v_bipush hG cb_6 dX5_become_78 (q := 80) rfl ?_
  obtain ⟨c_11, h⟩ := ck_some h
  refine v_copy hG ac_RX5_34 rfl rfl ((k1).w5) ((k1).wl5) ((k0).w5) ((k0).wl5) c_11 (Nat.le_of_ble_eq_true rfl) dX5_become_80 (q := 83) rfl ?_
  refine v_topM (fun M_10 hy => ?_)
  replace h := letv_at hy h
  clear hy
  refine v_aload_1 hG dX5_become_83 (q := 84) rfl ?_
  refine gt_RX5_27 hG rfl k1 dX5_become_84 (q := 87) rfl ?_
  refine v_iconst hG ci_0 dX5_become_87 (q := 88) rfl ?_
  refine v_aload_0 hG dX5_become_88 (q := 89) rfl ?_
  refine gt_RX5_27 hG rfl k0 dX5_become_89 (q := 92) rfl ?_
  refine v_iconst hG ci_0 dX5_become_92 (q := 93) rfl ?_
  refine v_bipush hG cb_6 dX5_become_93 (q := 95) rfl ?_
  obtain ⟨c_13, h⟩ := ck_some h
  refine v_copy hG ac_RX5_34 rfl rfl ((k1).w6) ((k1).wl6) ((k0).w6) ((k0).wl6) c_13 (Nat.le_of_ble_eq_true rfl) dX5_become_95 (q := 98) rfl ?_
  refine v_topM (fun M_12 hy => ?_)
  replace h := letv_at hy h
  clear hy
  exact v_vret hG hR rfl (spv h) dX5_become_98
theorem cvX5_become : CVo mX5_become 1 5 := ⟨moX5_become, mvX5_become, by decide, _, _, rfl⟩
theorem w_X5_has {E : EB} {r0 : Nat} {x1 : Int32} (k0 : IsK r0 5) {M : Mem} {R : Bool} (h : f_X5_has r0 x1 M = some R) : Mt E mX5_has [.ref r0, .int x1] M (PI (b2i R) M) := by
  refine mt_of (L0 := [some (.ref r0), some (.int x1)]) (by decide) rfl rfl (fun G hG hR => ?_)
  unfold f_X5_has at h
  refine v_iload_1 hG dX5_has_0 (q := 1) rfl ?_
  refine v_if_lt hG dX5_has_1 (tgt := 16) rfl (q := 4) rfl (fun hc => ?_) (fun hc => ?_)
  · replace h := ifp hc h
    refine v_iconst hG ci_0 dX5_has_16 (q := 17) rfl ?_
    exact v_iret hG hR rfl rfl (sp1b h) dX5_has_17
  · replace h := ifn hc h
    refine v_iload_1 hG dX5_has_4 (q := 5) rfl ?_
    refine v_aload_0 hG dX5_has_5 (q := 6) rfl ?_
    refine gt_RX5_30 hG rfl k0 dX5_has_6 (q := 9) rfl ?_
    refine v_icmp_ge hG dX5_has_9 (tgt := 16) rfl (q := 12) rfl (fun hc => ?_) (fun hc => ?_)
    · replace h := ifp hc h
      refine v_iconst hG ci_0 dX5_has_16 (q := 17) rfl ?_
      exact v_iret hG hR rfl rfl (sp1b h) dX5_has_17
    · replace h := ifn hc h
      refine v_iconst hG ci_1 dX5_has_12 (q := 13) rfl ?_
      refine v_goto hG dX5_has_13 (tgt := 17) rfl ?_
      exact v_iret hG hR rfl rfl (sp1b h) dX5_has_17
theorem cvX5_has : CVo mX5_has 1 5 := ⟨moX5_has, mvX5_has, by decide, _, _, rfl⟩
theorem w_X5_least_b4 {E : EB} {G : GB} (hG : Gd E mX5_least G) {M : Mem} {R : Int32} (hR : Rt E mX5_least (PI R M) G) {k4 : Int32 → Int32 → Int32 → Int32 → Mem → Option (Int32)} (hk4 : ∀ (x0 : Int32) (x1 : Int32) (x2 : Int32) (x3 : Int32) (M' : Mem), k4 x0 x1 x2 x3 M' = some R → M' = M → V E G 4 [some (.int x0), some (.int x1), some (.int x2), some (.int x3)] [] M') {x0 : Int32} {x1 : Int32} {x2 : Int32} {x3 : Int32} (h : f_X5_least_b4 k4 x0 x1 x2 x3 M = some R) : V E G 4 [some (.int x0), some (.int x1), some (.int x2), some (.int x3)] [] M := by
  unfold f_X5_least_b4 at h
  refine v_iload_3 hG dX5_least_4 (q := 5) rfl ?_
  refine v_iload_1 hG dX5_least_5 (q := 6) rfl ?_
  refine v_icmp_ge hG dX5_least_6 (tgt := 21) rfl (q := 9) rfl (fun hc => ?_) (fun hc => ?_)
  · replace h := ifp hc h
    refine v_iload_0 hG dX5_least_21 (q := 22) rfl ?_
    refine v_iload_2 hG dX5_least_22 (q := 23) rfl ?_
    refine v_iconst hG ci_m1 dX5_least_23 (q := 24) rfl ?_
    refine v_ixor hG dX5_least_24 (q := 25) rfl ?_
    refine v_iand hG dX5_least_25 (q := 26) rfl ?_
    exact v_iret hG hR rfl rfl (sp1 h) dX5_least_26
  · replace h := ifn hc h
    refine v_iload_2 hG dX5_least_9 (q := 10) rfl ?_
    refine v_iload_2 hG dX5_least_10 (q := 11) rfl ?_
    refine v_iconst hG ci_1 dX5_least_11 (q := 12) rfl ?_
    refine v_isub hG dX5_least_12 (q := 13) rfl ?_
    refine v_iand hG dX5_least_13 (q := 14) rfl ?_
    refine v_topi (fun x2_1 hy => ?_)
    replace h := letv_at hy h
    clear hy
    refine v_istore_2 hG rfl dX5_least_14 (q := 15) rfl ?_
    refine v_iinc_3 hG rfl dX5_least_15 (congrArg _ ci_1) (q := 18) rfl ?_
    refine v_goto hG dX5_least_18 (tgt := 4) rfl ?_
    exact hk4 _ _ _ _ _ h rfl
theorem w_X5_least_l4 {E : EB} {G : GB} (hG : Gd E mX5_least G) {M : Mem} {R : Int32} (hR : Rt E mX5_least (PI R M) G) : ∀ (n : Nat) (x0 : Int32) (x1 : Int32) (x2 : Int32) (x3 : Int32) (M' : Mem), f_X5_least_l4 n x0 x1 x2 x3 M' = some R → M' = M → V E G 4 [some (.int x0), some (.int x1), some (.int x2), some (.int x3)] [] M' := by
  intro n
  induction n with
  | zero => intro x0 x1 x2 x3 M' h; cases h
  | succ n ih => intro x0 x1 x2 x3 M' h e; subst e; exact w_X5_least_b4 hG hR ih h
theorem w_X5_least {E : EB} {x0 : Int32} {x1 : Int32} {M : Mem} {R : Int32} (h : f_X5_least x0 x1 M = some R) : Mt E mX5_least [.int x0, .int x1] M (PI R M) := by
  refine mt_of (L0 := [some (.int x0), some (.int x1), none, none]) (by decide) rfl rfl (fun G hG hR => ?_)
  unfold f_X5_least at h
  refine v_iload_0 hG dX5_least_0 (q := 1) rfl ?_
  refine v_istore_2 hG rfl dX5_least_1 (q := 2) rfl ?_
  refine v_iconst hG ci_0 dX5_least_2 (q := 3) rfl ?_
  refine v_istore_3 hG rfl dX5_least_3 (q := 4) rfl ?_
  exact w_X5_least_l4 hG hR FU _ _ _ _ _ h rfl
theorem csX5_least : CSo mX5_least 2 := ⟨moX5_least, msX5_least⟩
theorem w_X5_plain {E : EB} {r0 : Nat} {x1 : Int32} {x2 : Int32} (k0 : IsK r0 5) {M : Mem} {R : Int32} (h : f_X5_plain r0 x1 x2 M = some R) : Mt E mX5_plain [.ref r0, .int x1, .int x2] M (PI R M) := by
  refine mt_of (L0 := [some (.ref r0), some (.int x1), some (.int x2), none]) (by decide) rfl rfl (fun G hG hR => ?_)
  unfold f_X5_plain at h
  refine v_iload_2 hG dX5_plain_0 (q := 1) rfl ?_
  refine v_aload_0 hG dX5_plain_1 (q := 2) rfl ?_
  refine gt_RX5_15 hG rfl k0 dX5_plain_2 (q := 5) rfl ?_
  refine v_iload_1 hG dX5_plain_5 (q := 6) rfl ?_
  obtain ⟨c_1, h⟩ := ck_some h
  refine v_iald hG ((k0).w2) ((k0).wl2) c_1 dX5_plain_6 (q := 7) rfl ?_
  refine v_iconst hG ci_m1 dX5_plain_7 (q := 8) rfl ?_
  refine v_ixor hG dX5_plain_8 (q := 9) rfl ?_
  refine v_iand hG dX5_plain_9 (q := 10) rfl ?_
  refine v_topi (fun x3_2 hy => ?_)
  replace h := letv_at hy h
  clear hy
  refine v_istore_3 hG rfl dX5_plain_10 (q := 11) rfl ?_
  refine v_iload_2 hG dX5_plain_11 (q := 12) rfl ?_
  refine v_aload_0 hG dX5_plain_12 (q := 13) rfl ?_
  refine gt_RX5_21 hG rfl k0 dX5_plain_13 (q := 16) rfl ?_
  refine v_iload_1 hG dX5_plain_16 (q := 17) rfl ?_
  obtain ⟨c_3, h⟩ := ck_some h
  refine v_iald hG ((k0).w4) ((k0).wl4) c_3 dX5_plain_17 (q := 18) rfl ?_
  refine v_iand hG dX5_plain_18 (q := 19) rfl ?_
  refine v_if_eq hG dX5_plain_19 (tgt := 33) rfl (q := 22) rfl (fun hc => ?_) (fun hc => ?_)
  · replace h := ifp hc h
    refine v_iload_3 hG dX5_plain_33 (q := 34) rfl ?_
    exact v_iret hG hR rfl rfl (sp1 h) dX5_plain_34
  · replace h := ifn hc h
    refine v_iload_3 hG dX5_plain_22 (q := 23) rfl ?_
    refine v_aload_0 hG dX5_plain_23 (q := 24) rfl ?_
    refine gt_RX5_18 hG rfl k0 dX5_plain_24 (q := 27) rfl ?_
    refine v_iload_1 hG dX5_plain_27 (q := 28) rfl ?_
    obtain ⟨c_4, h⟩ := ck_some h
    refine v_iald hG ((k0).w3) ((k0).wl3) c_4 dX5_plain_28 (q := 29) rfl ?_
    refine v_ior hG dX5_plain_29 (q := 30) rfl ?_
    refine v_goto hG dX5_plain_30 (tgt := 34) rfl ?_
    exact v_iret hG hR rfl rfl (sp1 h) dX5_plain_34
theorem cvX5_plain : CVo mX5_plain 2 5 := ⟨moX5_plain, mvX5_plain, by decide, _, _, rfl⟩
theorem w_X5_softened {E : EB} {x0 : Int32} {M : Mem} {R : Int32} (h : f_X5_softened x0 M = some R) : Mt E mX5_softened [.int x0] M (PI R M) := by
  refine mt_of (L0 := [some (.int x0)]) (by decide) rfl rfl (fun G hG hR => ?_)
  unfold f_X5_softened at h
  refine v_iload_0 hG dX5_softened_0 (q := 1) rfl ?_
  refine v_sipush hG cs_m3841 dX5_softened_1 (q := 4) rfl ?_
  refine v_iand hG dX5_softened_4 (q := 5) rfl ?_
  refine v_iload_0 hG dX5_softened_5 (q := 6) rfl ?_
  refine v_sipush hG cs_3840 dX5_softened_6 (q := 9) rfl ?_
  refine v_iand hG dX5_softened_9 (q := 10) rfl ?_
  refine v_iconst hG ci_4 dX5_softened_10 (q := 11) rfl ?_
  refine v_ishr hG dX5_softened_11 (q := 12) rfl ?_
  refine v_ior hG dX5_softened_12 (q := 13) rfl ?_
  exact v_iret hG hR rfl rfl (sp1 h) dX5_softened_13
theorem csX5_softened : CSo mX5_softened 1 := ⟨moX5_softened, msX5_softened⟩
theorem w_X5_make {E : EB} {r0 : Nat} {x1 : Int32} {x2 : Int32} (k0 : IsK r0 5) {M : Mem} {R : Int32} (h : f_X5_make r0 x1 x2 M = some R) : Mt E mX5_make [.ref r0, .int x1, .int x2] M (PI R M) := by
  refine mt_of (L0 := [some (.ref r0), some (.int x1), some (.int x2)]) (by decide) rfl rfl (fun G hG hR => ?_)
  unfold f_X5_make at h
  refine v_aload_0 hG dX5_make_0 (q := 1) rfl ?_
  refine v_iload_1 hG dX5_make_1 (q := 2) rfl ?_
  obtain ⟨r_1, hr_1, h⟩ := bnd h
  refine v_cV1I hG cvX5_has ml_RX5_40 rfl k0 (w_X5_has k0 hr_1) (Nat.le_of_ble_eq_true rfl) dX5_make_2 (q := 5) rfl ?_
  refine v_if_ne hG dX5_make_5 (tgt := 10) rfl (q := 8) rfl (fun hc => ?_) (fun hc => ?_)
  · replace h := ifn hc h
    refine v_aload_0 hG dX5_make_10 (q := 11) rfl ?_
    refine gt_RX5_9 hG rfl k0 dX5_make_11 (q := 14) rfl ?_
    refine v_iload_1 hG dX5_make_14 (q := 15) rfl ?_
    obtain ⟨c_2, h⟩ := ck_some h
    refine v_iald hG ((k0).w1) ((k0).wl1) c_2 dX5_make_15 (q := 16) rfl ?_
    by_cases e0 : (M (r0 + 1) (ix x1)) = (1 : Int32)
    · refine v_tabIn hG dX5_make_16 (tgt := 56) (by rw [e0]; decide) (by rw [e0]; decide) (by rw [e0]; rfl) rfl ?_
      replace h := ifp e0 h
      refine v_aload_0 hG dX5_make_56 (q := 57) rfl ?_
      refine v_iload_1 hG dX5_make_57 (q := 58) rfl ?_
      refine v_iload_2 hG dX5_make_58 (q := 59) rfl ?_
      obtain ⟨r_3, hr_3, h⟩ := bnd h
      refine v_cV2I hG cvX5_plain ml_RX5_44 rfl k0 (w_X5_plain k0 hr_3) (Nat.le_of_ble_eq_true rfl) dX5_make_59 (q := 62) rfl ?_
      obtain ⟨r_4, hr_4, h⟩ := bnd h
      refine v_cS1I hG csX5_softened ml_RX5_48 rfl (w_X5_softened hr_4) (Nat.le_of_ble_eq_true rfl) dX5_make_62 (q := 65) rfl ?_
      exact v_iret hG hR rfl rfl (sp1 h) dX5_make_65
    replace h := ifn e0 h
    by_cases e1 : (M (r0 + 1) (ix x1)) = (2 : Int32)
    · refine v_tabIn hG dX5_make_16 (tgt := 66) (by rw [e1]; decide) (by rw [e1]; decide) (by rw [e1]; rfl) rfl ?_
      replace h := ifp e1 h
      refine v_aload_0 hG dX5_make_66 (q := 67) rfl ?_
      refine v_iload_1 hG dX5_make_67 (q := 68) rfl ?_
      refine v_iload_2 hG dX5_make_68 (q := 69) rfl ?_
      obtain ⟨r_5, hr_5, h⟩ := bnd h
      refine v_cV2I hG cvX5_plain ml_RX5_44 rfl k0 (w_X5_plain k0 hr_5) (Nat.le_of_ble_eq_true rfl) dX5_make_69 (q := 72) rfl ?_
      refine v_iconst hG ci_4 dX5_make_72 (q := 73) rfl ?_
      obtain ⟨r_6, hr_6, h⟩ := bnd h
      refine v_cS2I hG csX5_least ml_RX5_52 rfl (w_X5_least hr_6) (Nat.le_of_ble_eq_true rfl) dX5_make_73 (q := 76) rfl ?_
      exact v_iret hG hR rfl rfl (sp1 h) dX5_make_76
    replace h := ifn e1 h
    by_cases e2 : (M (r0 + 1) (ix x1)) = (3 : Int32)
    · refine v_tabIn hG dX5_make_16 (tgt := 77) (by rw [e2]; decide) (by rw [e2]; decide) (by rw [e2]; rfl) rfl ?_
      replace h := ifp e2 h
      refine v_aload_0 hG dX5_make_77 (q := 78) rfl ?_
      refine v_iload_1 hG dX5_make_78 (q := 79) rfl ?_
      refine v_iload_2 hG dX5_make_79 (q := 80) rfl ?_
      obtain ⟨r_7, hr_7, h⟩ := bnd h
      refine v_cV2I hG cvX5_plain ml_RX5_44 rfl k0 (w_X5_plain k0 hr_7) (Nat.le_of_ble_eq_true rfl) dX5_make_80 (q := 83) rfl ?_
      obtain ⟨r_8, hr_8, h⟩ := bnd h
      refine v_cS1I hG csX5_softened ml_RX5_48 rfl (w_X5_softened hr_8) (Nat.le_of_ble_eq_true rfl) dX5_make_83 (q := 86) rfl ?_
      refine v_aload_0 hG dX5_make_86 (q := 87) rfl ?_
      refine gt_RX5_18 hG rfl k0 dX5_make_87 (q := 90) rfl ?_
      refine v_iload_1 hG dX5_make_90 (q := 91) rfl ?_
      obtain ⟨c_9, h⟩ := ck_some h
      refine v_iald hG ((k0).w3) ((k0).wl3) c_9 dX5_make_91 (q := 92) rfl ?_
      refine v_ior hG dX5_make_92 (q := 93) rfl ?_
      exact v_iret hG hR rfl rfl (sp1 h) dX5_make_93
    replace h := ifn e2 h
    by_cases e3 : (M (r0 + 1) (ix x1)) = (4 : Int32)
    · refine v_tabIn hG dX5_make_16 (tgt := 94) (by rw [e3]; decide) (by rw [e3]; decide) (by rw [e3]; rfl) rfl ?_
      replace h := ifp e3 h
      refine v_aload_0 hG dX5_make_94 (q := 95) rfl ?_
      refine v_iload_1 hG dX5_make_95 (q := 96) rfl ?_
      refine v_iload_2 hG dX5_make_96 (q := 97) rfl ?_
      obtain ⟨r_10, hr_10, h⟩ := bnd h
      refine v_cV2I hG cvX5_plain ml_RX5_44 rfl k0 (w_X5_plain k0 hr_10) (Nat.le_of_ble_eq_true rfl) dX5_make_97 (q := 100) rfl ?_
      refine v_iconst hG ci_4 dX5_make_100 (q := 101) rfl ?_
      obtain ⟨r_11, hr_11, h⟩ := bnd h
      refine v_cS2I hG csX5_least ml_RX5_52 rfl (w_X5_least hr_11) (Nat.le_of_ble_eq_true rfl) dX5_make_101 (q := 104) rfl ?_
      refine v_iconst hG ci_1 dX5_make_104 (q := 105) rfl ?_
      refine v_ior hG dX5_make_105 (q := 106) rfl ?_
      exact v_iret hG hR rfl rfl (sp1 h) dX5_make_106
    replace h := ifn e3 h
    by_cases e4 : (M (r0 + 1) (ix x1)) = (5 : Int32)
    · refine v_tabIn hG dX5_make_16 (tgt := 107) (by rw [e4]; decide) (by rw [e4]; decide) (by rw [e4]; rfl) rfl ?_
      replace h := ifp e4 h
      refine v_aload_0 hG dX5_make_107 (q := 108) rfl ?_
      refine v_iload_1 hG dX5_make_108 (q := 109) rfl ?_
      refine v_iload_2 hG dX5_make_109 (q := 110) rfl ?_
      refine v_sipush hG cs_1365 dX5_make_110 (q := 113) rfl ?_
      refine v_iand hG dX5_make_113 (q := 114) rfl ?_
      obtain ⟨r_12, hr_12, h⟩ := bnd h
      refine v_cV2I hG cvX5_plain ml_RX5_44 rfl k0 (w_X5_plain k0 hr_12) (Nat.le_of_ble_eq_true rfl) dX5_make_114 (q := 117) rfl ?_
      exact v_iret hG hR rfl rfl (sp1 h) dX5_make_117
    replace h := ifn e4 h
    by_cases e5 : (M (r0 + 1) (ix x1)) = (6 : Int32)
    · refine v_tabIn hG dX5_make_16 (tgt := 118) (by rw [e5]; decide) (by rw [e5]; decide) (by rw [e5]; rfl) rfl ?_
      replace h := ifp e5 h
      refine v_aload_0 hG dX5_make_118 (q := 119) rfl ?_
      refine v_iload_1 hG dX5_make_119 (q := 120) rfl ?_
      refine v_iload_2 hG dX5_make_120 (q := 121) rfl ?_
      obtain ⟨r_13, hr_13, h⟩ := bnd h
      refine v_cV2I hG cvX5_plain ml_RX5_44 rfl k0 (w_X5_plain k0 hr_13) (Nat.le_of_ble_eq_true rfl) dX5_make_121 (q := 124) rfl ?_
      refine v_iconst hG ci_2 dX5_make_124 (q := 125) rfl ?_
      obtain ⟨r_14, hr_14, h⟩ := bnd h
      refine v_cS2I hG csX5_least ml_RX5_52 rfl (w_X5_least hr_14) (Nat.le_of_ble_eq_true rfl) dX5_make_125 (q := 128) rfl ?_
      exact v_iret hG hR rfl rfl (sp1 h) dX5_make_128
    replace h := ifn e5 h
    have u0 := sw_ne (n := 1) e0
    have u1 := sw_ne (n := 2) e1
    have u2 := sw_ne (n := 3) e2
    have u3 := sw_ne (n := 4) e3
    have u4 := sw_ne (n := 5) e4
    have u5 := sw_ne (n := 6) e5
    refine v_tabOut hG dX5_make_16 (tgt := 129) (by omega) rfl ?_
    refine v_aload_0 hG dX5_make_129 (q := 130) rfl ?_
    refine v_iload_1 hG dX5_make_130 (q := 131) rfl ?_
    refine v_iload_2 hG dX5_make_131 (q := 132) rfl ?_
    obtain ⟨r_15, hr_15, h⟩ := bnd h
    refine v_cV2I hG cvX5_plain ml_RX5_44 rfl k0 (w_X5_plain k0 hr_15) (Nat.le_of_ble_eq_true rfl) dX5_make_132 (q := 135) rfl ?_
    exact v_iret hG hR rfl rfl (sp1 h) dX5_make_135
  · replace h := ifp hc h
    refine v_iload_2 hG dX5_make_8 (q := 9) rfl ?_
    exact v_iret hG hR rfl rfl (sp1 h) dX5_make_9
theorem cvX5_make : CVo mX5_make 2 5 := ⟨moX5_make, mvX5_make, by decide, _, _, rfl⟩
theorem w_X5_row {E : EB} {r0 : Nat} {x1 : Int32} (k0 : IsK r0 5) {M : Mem} {R : (Option Nat)} (h : f_X5_row r0 x1 M = some R) : Mt E mX5_row [.ref r0, .int x1] M (PR R M) := by
  refine mt_of (L0 := [some (.ref r0), some (.int x1)]) (by decide) rfl rfl (fun G hG hR => ?_)
  unfold f_X5_row at h
  refine v_iload_1 hG dX5_row_0 (q := 1) rfl ?_
  by_cases e0 : x1 = (0 : Int32)
  · refine v_tabIn hG dX5_row_1 (tgt := 40) (by rw [e0]; decide) (by rw [e0]; decide) (by rw [e0]; rfl) rfl ?_
    replace h := ifp e0 h
    refine v_aload_0 hG dX5_row_40 (q := 41) rfl ?_
    refine gt_RX5_9 hG rfl k0 dX5_row_41 (q := 44) rfl ?_
    exact v_aret hG hR rfl (Or.inr ⟨_, rfl⟩) (Or.inr ⟨_, rfl⟩) ⟨congrArg oref (Option.some.inj h), rfl⟩ dX5_row_44
  replace h := ifn e0 h
  by_cases e1 : x1 = (1 : Int32)
  · refine v_tabIn hG dX5_row_1 (tgt := 45) (by rw [e1]; decide) (by rw [e1]; decide) (by rw [e1]; rfl) rfl ?_
    replace h := ifp e1 h
    refine v_aload_0 hG dX5_row_45 (q := 46) rfl ?_
    refine gt_RX5_15 hG rfl k0 dX5_row_46 (q := 49) rfl ?_
    exact v_aret hG hR rfl (Or.inr ⟨_, rfl⟩) (Or.inr ⟨_, rfl⟩) ⟨congrArg oref (Option.some.inj h), rfl⟩ dX5_row_49
  replace h := ifn e1 h
  by_cases e2 : x1 = (2 : Int32)
  · refine v_tabIn hG dX5_row_1 (tgt := 50) (by rw [e2]; decide) (by rw [e2]; decide) (by rw [e2]; rfl) rfl ?_
    replace h := ifp e2 h
    refine v_aload_0 hG dX5_row_50 (q := 51) rfl ?_
    refine gt_RX5_18 hG rfl k0 dX5_row_51 (q := 54) rfl ?_
    exact v_aret hG hR rfl (Or.inr ⟨_, rfl⟩) (Or.inr ⟨_, rfl⟩) ⟨congrArg oref (Option.some.inj h), rfl⟩ dX5_row_54
  replace h := ifn e2 h
  by_cases e3 : x1 = (3 : Int32)
  · refine v_tabIn hG dX5_row_1 (tgt := 55) (by rw [e3]; decide) (by rw [e3]; decide) (by rw [e3]; rfl) rfl ?_
    replace h := ifp e3 h
    refine v_aload_0 hG dX5_row_55 (q := 56) rfl ?_
    refine gt_RX5_21 hG rfl k0 dX5_row_56 (q := 59) rfl ?_
    exact v_aret hG hR rfl (Or.inr ⟨_, rfl⟩) (Or.inr ⟨_, rfl⟩) ⟨congrArg oref (Option.some.inj h), rfl⟩ dX5_row_59
  replace h := ifn e3 h
  by_cases e4 : x1 = (4 : Int32)
  · refine v_tabIn hG dX5_row_1 (tgt := 60) (by rw [e4]; decide) (by rw [e4]; decide) (by rw [e4]; rfl) rfl ?_
    replace h := ifp e4 h
    refine v_aload_0 hG dX5_row_60 (q := 61) rfl ?_
    refine gt_RX5_24 hG rfl k0 dX5_row_61 (q := 64) rfl ?_
    exact v_aret hG hR rfl (Or.inr ⟨_, rfl⟩) (Or.inr ⟨_, rfl⟩) ⟨congrArg oref (Option.some.inj h), rfl⟩ dX5_row_64
  replace h := ifn e4 h
  by_cases e5 : x1 = (5 : Int32)
  · refine v_tabIn hG dX5_row_1 (tgt := 65) (by rw [e5]; decide) (by rw [e5]; decide) (by rw [e5]; rfl) rfl ?_
    replace h := ifp e5 h
    refine v_aload_0 hG dX5_row_65 (q := 66) rfl ?_
    refine gt_RX5_27 hG rfl k0 dX5_row_66 (q := 69) rfl ?_
    exact v_aret hG hR rfl (Or.inr ⟨_, rfl⟩) (Or.inr ⟨_, rfl⟩) ⟨congrArg oref (Option.some.inj h), rfl⟩ dX5_row_69
  replace h := ifn e5 h
  have u0 := sw_ne (n := 0) e0
  have u1 := sw_ne (n := 1) e1
  have u2 := sw_ne (n := 2) e2
  have u3 := sw_ne (n := 3) e3
  have u4 := sw_ne (n := 4) e4
  have u5 := sw_ne (n := 5) e5
  refine v_tabOut hG dX5_row_1 (tgt := 70) (by omega) rfl ?_
  refine v_null hG dX5_row_70 (q := 71) rfl ?_
  exact v_aret hG hR rfl (Or.inr ⟨_, rfl⟩) (Or.inl rfl) ⟨congrArg oref (Option.some.inj h), rfl⟩ dX5_row_71
theorem cvX5_row : CVo mX5_row 1 5 := ⟨moX5_row, mvX5_row, by decide, _, _, rfl⟩
theorem w_X5_onceRound_b4 {E : EB} {G : GB} (hG : Gd E mX5_onceRound G) {r0 : Nat} {M : Mem} {R : Int32} (hR : Rt E mX5_onceRound (PI R M) G) (k0 : IsK r0 5) {k4 : Int32 → Int32 → Mem → Option (Int32)} (hk4 : ∀ (x2 : Int32) (x3 : Int32) (M' : Mem), k4 x2 x3 M' = some R → M' = M → V E G 4 [some (.ref r0), none, some (.int x2), some (.int x3)] [] M') {x2 : Int32} {x3 : Int32} (h : f_X5_onceRound_b4 r0 k4 x2 x3 M = some R) : V E G 4 [some (.ref r0), none, some (.int x2), some (.int x3)] [] M := by
  unfold f_X5_onceRound_b4 at h
  refine v_iload_3 hG dX5_onceRound_4 (q := 5) rfl ?_
  refine v_aload_0 hG dX5_onceRound_5 (q := 6) rfl ?_
  refine gt_RX5_30 hG rfl k0 dX5_onceRound_6 (q := 9) rfl ?_
  refine v_icmp_ge hG dX5_onceRound_9 (tgt := 25) rfl (q := 12) rfl (fun hc => ?_) (fun hc => ?_)
  · replace h := ifp hc h
    refine v_iload_2 hG dX5_onceRound_25 (q := 26) rfl ?_
    exact v_iret hG hR rfl rfl (sp1 h) dX5_onceRound_26
  · replace h := ifn hc h
    refine v_aload_0 hG dX5_onceRound_12 (q := 13) rfl ?_
    refine v_iload_3 hG dX5_onceRound_13 (q := 14) rfl ?_
    refine v_iload_2 hG dX5_onceRound_14 (q := 15) rfl ?_
    obtain ⟨r_1, hr_1, h⟩ := bnd h
    refine v_cV2I hG cvX5_make ml_RX5_55 rfl k0 (w_X5_make k0 hr_1) (Nat.le_of_ble_eq_true rfl) dX5_onceRound_15 (q := 18) rfl ?_
    refine v_istore_2 hG rfl dX5_onceRound_18 (q := 19) rfl ?_
    refine v_iinc_3 hG rfl dX5_onceRound_19 (congrArg _ ci_1) (q := 22) rfl ?_
    refine v_goto hG dX5_onceRound_22 (tgt := 4) rfl ?_
    exact hk4 _ _ _ h rfl
theorem w_X5_onceRound_l4 {E : EB} {G : GB} (hG : Gd E mX5_onceRound G) {r0 : Nat} {M : Mem} {R : Int32} (hR : Rt E mX5_onceRound (PI R M) G) (k0 : IsK r0 5) : ∀ (n : Nat) (x2 : Int32) (x3 : Int32) (M' : Mem), f_X5_onceRound_l4 r0 n x2 x3 M' = some R → M' = M → V E G 4 [some (.ref r0), none, some (.int x2), some (.int x3)] [] M' := by
  intro n
  induction n with
  | zero => intro x2 x3 M' h; cases h
  | succ n ih => intro x2 x3 M' h e; subst e; exact w_X5_onceRound_b4 hG hR k0 ih h
theorem w_X5_onceRound {E : EB} {r0 : Nat} {x1 : Int32} (k0 : IsK r0 5) {M : Mem} {R : Int32} (h : f_X5_onceRound r0 x1 M = some R) : Mt E mX5_onceRound [.ref r0, .int x1] M (PI R M) := by
  refine mt_of (L0 := [some (.ref r0), some (.int x1), none, none]) (by decide) rfl rfl (fun G hG hR => ?_)
  unfold f_X5_onceRound at h
  refine v_iload_1 hG dX5_onceRound_0 (q := 1) rfl ?_
  refine v_istore_2 hG rfl dX5_onceRound_1 (q := 2) rfl ?_
  refine v_iconst hG ci_0 dX5_onceRound_2 (q := 3) rfl ?_
  refine v_istore_3 hG rfl dX5_onceRound_3 (q := 4) rfl ?_
  refine v_drop (n := 1) (L' := [some (.ref r0), none, some (.int x1), some (.int (0 : Int32))]) rfl ?_
  exact w_X5_onceRound_l4 hG hR k0 FU _ _ _ h rfl
theorem cvX5_onceRound : CVo mX5_onceRound 1 5 := ⟨moX5_onceRound, mvX5_onceRound, by decide, _, _, rfl⟩
theorem w_X5_waysTo_b5 {E : EB} {G : GB} (hG : Gd E mX5_waysTo G) {r0 : Nat} {M : Mem} {R : Int32} (hR : Rt E mX5_waysTo (PI R M) G) (k0 : IsK r0 5) {k5 : Int32 → Int32 → Int32 → Int32 → Mem → Option (Int32)} (hk5 : ∀ (x1 : Int32) (x2 : Int32) (x3 : Int32) (x4 : Int32) (M' : Mem), k5 x1 x2 x3 x4 M' = some R → M' = M → V E G 5 [some (.ref r0), some (.int x1), some (.int x2), some (.int x3), some (.int x4)] [] M') {x1 : Int32} {x2 : Int32} {x3 : Int32} {x4 : Int32} (h : f_X5_waysTo_b5 r0 k5 x1 x2 x3 x4 M = some R) : V E G 5 [some (.ref r0), some (.int x1), some (.int x2), some (.int x3), some (.int x4)] [] M := by
  unfold f_X5_waysTo_b5 at h
  refine v_iload_4 hG dX5_waysTo_5 (q := 7) rfl ?_
  refine v_sipush hG cs_4096 dX5_waysTo_7 (q := 10) rfl ?_
  refine v_icmp_ge hG dX5_waysTo_10 (tgt := 33) rfl (q := 13) rfl (fun hc => ?_) (fun hc => ?_)
  · replace h := ifp hc h
    refine v_iload_3 hG dX5_waysTo_33 (q := 34) rfl ?_
    exact v_iret hG hR rfl rfl (sp1 h) dX5_waysTo_34
  · replace h := ifn hc h
    refine v_aload_0 hG dX5_waysTo_13 (q := 14) rfl ?_
    refine v_iload_1 hG dX5_waysTo_14 (q := 15) rfl ?_
    refine v_iload_4 hG dX5_waysTo_15 (q := 17) rfl ?_
    obtain ⟨r_1, hr_1, h⟩ := bnd h
    refine v_cV2I hG cvX5_make ml_RX5_55 rfl k0 (w_X5_make k0 hr_1) (Nat.le_of_ble_eq_true rfl) dX5_waysTo_17 (q := 20) rfl ?_
    refine v_iload_2 hG dX5_waysTo_20 (q := 21) rfl ?_
    refine v_icmp_ne hG dX5_waysTo_21 (tgt := 27) rfl (q := 24) rfl (fun hc => ?_) (fun hc => ?_)
    · replace h := ifn hc h
      refine v_iinc_4 hG rfl dX5_waysTo_27 (congrArg _ ci_1) (q := 30) rfl ?_
      refine v_goto hG dX5_waysTo_30 (tgt := 5) rfl ?_
      exact hk5 _ _ _ _ _ h rfl
    · replace h := ifp hc h
      refine v_iinc_3 hG rfl dX5_waysTo_24 (congrArg _ ci_1) (q := 27) rfl ?_
      refine v_iinc_4 hG rfl dX5_waysTo_27 (congrArg _ ci_1) (q := 30) rfl ?_
      refine v_goto hG dX5_waysTo_30 (tgt := 5) rfl ?_
      exact hk5 _ _ _ _ _ h rfl
theorem w_X5_waysTo_l5 {E : EB} {G : GB} (hG : Gd E mX5_waysTo G) {r0 : Nat} {M : Mem} {R : Int32} (hR : Rt E mX5_waysTo (PI R M) G) (k0 : IsK r0 5) : ∀ (n : Nat) (x1 : Int32) (x2 : Int32) (x3 : Int32) (x4 : Int32) (M' : Mem), f_X5_waysTo_l5 r0 n x1 x2 x3 x4 M' = some R → M' = M → V E G 5 [some (.ref r0), some (.int x1), some (.int x2), some (.int x3), some (.int x4)] [] M' := by
  intro n
  induction n with
  | zero => intro x1 x2 x3 x4 M' h; cases h
  | succ n ih => intro x1 x2 x3 x4 M' h e; subst e; exact w_X5_waysTo_b5 hG hR k0 ih h
theorem w_X5_waysTo {E : EB} {r0 : Nat} {x1 : Int32} {x2 : Int32} (k0 : IsK r0 5) {M : Mem} {R : Int32} (h : f_X5_waysTo r0 x1 x2 M = some R) : Mt E mX5_waysTo [.ref r0, .int x1, .int x2] M (PI R M) := by
  refine mt_of (L0 := [some (.ref r0), some (.int x1), some (.int x2), none, none]) (by decide) rfl rfl (fun G hG hR => ?_)
  unfold f_X5_waysTo at h
  refine v_iconst hG ci_0 dX5_waysTo_0 (q := 1) rfl ?_
  refine v_istore_3 hG rfl dX5_waysTo_1 (q := 2) rfl ?_
  refine v_iconst hG ci_0 dX5_waysTo_2 (q := 3) rfl ?_
  refine v_istore_4 hG rfl dX5_waysTo_3 (q := 5) rfl ?_
  exact w_X5_waysTo_l5 hG hR k0 FU _ _ _ _ _ h rfl
theorem cvX5_waysTo : CVo mX5_waysTo 2 5 := ⟨moX5_waysTo, mvX5_waysTo, by decide, _, _, rfl⟩
theorem w_J7_fill_53178_b5 {E : EB} {G : GB} (hG : Gd E mJ7_fill_53178 G) {r0 : Nat} {M : Mem} {R : Mem} (hR : Rt E mJ7_fill_53178 (PV R) G) (k0 : IsK r0 8) {k5 : Int32 → Int32 → Int32 → Mem → Option (Mem)} (hk5 : ∀ (x1 : Int32) (x2 : Int32) (x3 : Int32) (M : Mem), k5 x1 x2 x3 M = some R → V E G 5 [some (.ref r0), some (.int x1), some (.int x2), some (.int x3)] [] M) {x1 : Int32} {x2 : Int32} {x3 : Int32} (h : f_J7_fill_53178_b5 r0 k5 x1 x2 x3 M = some R) : V E G 5 [some (.ref r0), some (.int x1), some (.int x2), some (.int x3)] [] M := by
  unfold f_J7_fill_53178_b5 at h
  refine v_iload_2 hG dJ7_fill_53178_5 (q := 6) rfl ?_
  refine v_iload_3 hG dJ7_fill_53178_6 (q := 7) rfl ?_
  refine v_icmp_ge hG dJ7_fill_53178_7 (tgt := 20) rfl (q := 10) rfl (fun hc => ?_) (fun hc => ?_)
  · replace h := ifp hc h
    exact v_vret hG hR rfl (spv h) dJ7_fill_53178_20
  · replace h := ifn hc h
    refine v_aload_0 hG dJ7_fill_53178_10 (q := 11) rfl ?_
    refine v_iload_2 hG dJ7_fill_53178_11 (q := 12) rfl ?_
    refine v_iload_1 hG dJ7_fill_53178_12 (q := 13) rfl ?_
    obtain ⟨c_2, h⟩ := ck_some h
    refine v_iast hG k0 rfl c_2 dJ7_fill_53178_13 (q := 14) rfl ?_
    refine v_topM (fun M_3 hy => ?_)
    replace h := letv_at hy h
    clear hy
    refine v_iinc_2 hG rfl dJ7_fill_53178_14 (congrArg _ ci_1) (q := 17) rfl ?_
    refine v_goto hG dJ7_fill_53178_17 (tgt := 5) rfl ?_
    exact hk5 _ _ _ _ h
theorem w_J7_fill_53178_l5 {E : EB} {G : GB} (hG : Gd E mJ7_fill_53178 G) {r0 : Nat} {R : Mem} (hR : Rt E mJ7_fill_53178 (PV R) G) (k0 : IsK r0 8) : ∀ (n : Nat) (x1 : Int32) (x2 : Int32) (x3 : Int32) (M : Mem), f_J7_fill_53178_l5 r0 n x1 x2 x3 M = some R → V E G 5 [some (.ref r0), some (.int x1), some (.int x2), some (.int x3)] [] M := by
  intro n
  induction n with
  | zero => intro x1 x2 x3 M h; cases h
  | succ n ih => intro x1 x2 x3 M h; exact w_J7_fill_53178_b5 hG hR k0 ih h
theorem w_J7_fill_53178 {E : EB} {r0 : Nat} {x1 : Int32} (k0 : IsK r0 8) {M : Mem} {R : Mem} (h : f_J7_fill_53178 r0 x1 M = some R) : Mt E mJ7_fill_53178 [.ref r0, .int x1] M (PV R) := by
  refine mt_of (L0 := [some (.ref r0), some (.int x1), none, none]) (by decide) rfl rfl (fun G hG hR => ?_)
  unfold f_J7_fill_53178 at h
  refine v_iconst hG ci_0 dJ7_fill_53178_0 (q := 1) rfl ?_
  refine v_istore_2 hG rfl dJ7_fill_53178_1 (q := 2) rfl ?_
  refine v_aload_0 hG dJ7_fill_53178_2 (q := 3) rfl ?_
  refine v_alen hG k0 rfl rfl dJ7_fill_53178_3 (q := 4) rfl ?_
  refine v_topi (fun x3_1 hy => ?_)
  replace h := letv_at hy h
  clear hy
  refine v_istore_3 hG rfl dJ7_fill_53178_4 (q := 5) rfl ?_
  exact w_J7_fill_53178_l5 hG hR k0 FU _ _ _ _ h
theorem csJ7_fill_53178 : CSo mJ7_fill_53178 2 := ⟨moJ7_fill_53178, msJ7_fill_53178⟩
theorem w_X5_reach_b7 {E : EB} {G : GB} (hG : Gd E mX5_reach G) {r0 r2 : Nat} {M : Mem} {R : Mem} (hR : Rt E mX5_reach (PV R) G) (k0 : IsK r0 5) (k2 : IsK r2 8) {k7 : Int32 → Int32 → Mem → Option (Mem)} (hk7 : ∀ (x1 : Int32) (x3 : Int32) (M : Mem), k7 x1 x3 M = some R → V E G 7 [some (.ref r0), some (.int x1), some (.ref r2), some (.int x3), none, none] [] M) {x1 : Int32} {x3 : Int32} (h : f_X5_reach_b7 r0 r2 k7 x1 x3 M = some R) : V E G 7 [some (.ref r0), some (.int x1), some (.ref r2), some (.int x3), none, none] [] M := by
  unfold f_X5_reach_b7 at h
  refine v_iload_3 hG dX5_reach_7 (q := 8) rfl ?_
  refine v_sipush hG cs_4096 dX5_reach_8 (q := 11) rfl ?_
  refine v_icmp_ge hG dX5_reach_11 (tgt := 60) rfl (q := 14) rfl (fun hc => ?_) (fun hc => ?_)
  · replace h := ifp hc h
    exact v_vret hG hR rfl (spv h) dX5_reach_60
  · replace h := ifn hc h
    refine v_aload_0 hG dX5_reach_14 (q := 15) rfl ?_
    refine v_iload_1 hG dX5_reach_15 (q := 16) rfl ?_
    refine v_iload_3 hG dX5_reach_16 (q := 17) rfl ?_
    obtain ⟨r_2, hr_2, h⟩ := bnd h
    refine v_cV2I hG cvX5_make ml_RX5_55 rfl k0 (w_X5_make k0 hr_2) (Nat.le_of_ble_eq_true rfl) dX5_reach_17 (q := 20) rfl ?_
    refine v_istore_4 hG rfl dX5_reach_20 (q := 22) rfl ?_
    refine v_iload_4 hG dX5_reach_22 (q := 24) rfl ?_
    refine v_iconst hG ci_5 dX5_reach_24 (q := 25) rfl ?_
    refine v_ishr hG dX5_reach_25 (q := 26) rfl ?_
    refine v_topi (fun x5_3 hy => ?_)
    replace h := letv_at hy h
    clear hy
    refine v_istore_5 hG rfl dX5_reach_26 (q := 28) rfl ?_
    refine v_iload_5 hG dX5_reach_28 (q := 30) rfl ?_
    refine v_if_lt hG dX5_reach_30 (tgt := 54) rfl (q := 33) rfl (fun hc => ?_) (fun hc => ?_)
    · replace h := ifp hc h
      refine v_iinc_3 hG rfl dX5_reach_54 (congrArg _ ci_1) (q := 57) rfl ?_
      refine v_goto hG dX5_reach_57 (tgt := 7) rfl ?_
      refine v_drop (n := 4) (L' := [some (.ref r0), some (.int x1), some (.ref r2), some (.int (x3 + (1 : Int32))), none, some (.int x5_3)]) rfl ?_
      refine v_drop (n := 5) (L' := [some (.ref r0), some (.int x1), some (.ref r2), some (.int (x3 + (1 : Int32))), none, none]) rfl ?_
      exact hk7 _ _ _ h
    · replace h := ifn hc h
      refine v_iload_5 hG dX5_reach_33 (q := 35) rfl ?_
      refine v_aload_2 hG dX5_reach_35 (q := 36) rfl ?_
      refine v_alen hG k2 rfl rfl dX5_reach_36 (q := 37) rfl ?_
      refine v_icmp_ge hG dX5_reach_37 (tgt := 54) rfl (q := 40) rfl (fun hc => ?_) (fun hc => ?_)
      · replace h := ifp hc h
        refine v_iinc_3 hG rfl dX5_reach_54 (congrArg _ ci_1) (q := 57) rfl ?_
        refine v_goto hG dX5_reach_57 (tgt := 7) rfl ?_
        refine v_drop (n := 4) (L' := [some (.ref r0), some (.int x1), some (.ref r2), some (.int (x3 + (1 : Int32))), none, some (.int x5_3)]) rfl ?_
        refine v_drop (n := 5) (L' := [some (.ref r0), some (.int x1), some (.ref r2), some (.int (x3 + (1 : Int32))), none, none]) rfl ?_
        exact hk7 _ _ _ h
      · replace h := ifn hc h
        refine v_aload_2 hG dX5_reach_40 (q := 41) rfl ?_
        refine v_iload_5 hG dX5_reach_41 (q := 43) rfl ?_
        refine v_dup2 hG rfl rfl dX5_reach_43 (q := 44) rfl ?_
        obtain ⟨c_4, h⟩ := ck_some h
        refine v_iald hG k2 rfl c_4 dX5_reach_44 (q := 45) rfl ?_
        refine v_iconst hG ci_1 dX5_reach_45 (q := 46) rfl ?_
        refine v_iload_4 hG dX5_reach_46 (q := 48) rfl ?_
        refine v_bipush hG cb_31 dX5_reach_48 (q := 50) rfl ?_
        refine v_iand hG dX5_reach_50 (q := 51) rfl ?_
        refine v_ishl hG dX5_reach_51 (q := 52) rfl ?_
        refine v_ior hG dX5_reach_52 (q := 53) rfl ?_
        obtain ⟨c_5, h⟩ := ck_some h
        refine v_iast hG k2 rfl c_5 dX5_reach_53 (q := 54) rfl ?_
        refine v_topM (fun M_6 hy => ?_)
        replace h := letv_at hy h
        clear hy
        refine v_iinc_3 hG rfl dX5_reach_54 (congrArg _ ci_1) (q := 57) rfl ?_
        refine v_goto hG dX5_reach_57 (tgt := 7) rfl ?_
        refine v_drop (n := 4) (L' := [some (.ref r0), some (.int x1), some (.ref r2), some (.int (x3 + (1 : Int32))), none, some (.int x5_3)]) rfl ?_
        refine v_drop (n := 5) (L' := [some (.ref r0), some (.int x1), some (.ref r2), some (.int (x3 + (1 : Int32))), none, none]) rfl ?_
        exact hk7 _ _ _ h
theorem w_X5_reach_l7 {E : EB} {G : GB} (hG : Gd E mX5_reach G) {r0 r2 : Nat} {R : Mem} (hR : Rt E mX5_reach (PV R) G) (k0 : IsK r0 5) (k2 : IsK r2 8) : ∀ (n : Nat) (x1 : Int32) (x3 : Int32) (M : Mem), f_X5_reach_l7 r0 r2 n x1 x3 M = some R → V E G 7 [some (.ref r0), some (.int x1), some (.ref r2), some (.int x3), none, none] [] M := by
  intro n
  induction n with
  | zero => intro x1 x3 M h; cases h
  | succ n ih => intro x1 x3 M h; exact w_X5_reach_b7 hG hR k0 k2 ih h
theorem w_X5_reach {E : EB} {r0 : Nat} {x1 : Int32} {r2 : Nat} (k0 : IsK r0 5) (k2 : IsK r2 8) {M : Mem} {R : Mem} (h : f_X5_reach r0 x1 r2 M = some R) : Mt E mX5_reach [.ref r0, .int x1, .ref r2] M (PV R) := by
  refine mt_of (L0 := [some (.ref r0), some (.int x1), some (.ref r2), none, none, none]) (by decide) rfl rfl (fun G hG hR => ?_)
  unfold f_X5_reach at h
  refine v_aload_2 hG dX5_reach_0 (q := 1) rfl ?_
  refine v_iconst hG ci_0 dX5_reach_1 (q := 2) rfl ?_
  obtain ⟨r_1, hr_1, h⟩ := bnd h
  refine v_cS2V hG csJ7_fill_53178 ml_RX5_58 rfl (w_J7_fill_53178 k2 hr_1) (Nat.le_of_ble_eq_true rfl) dX5_reach_2 (q := 5) rfl ?_
  refine v_iconst hG ci_0 dX5_reach_5 (q := 6) rfl ?_
  refine v_istore_3 hG rfl dX5_reach_6 (q := 7) rfl ?_
  exact w_X5_reach_l7 hG hR k0 k2 FU _ _ _ h
theorem cvX5_reach : CVo mX5_reach 2 5 := ⟨moX5_reach, mvX5_reach, by decide, _, _, rfl⟩
theorem w_X5_allPurses_b4 {E : EB} {G : GB} (hG : Gd E mX5_allPurses G) {r0 : Nat} {M : Mem} {R : Int32} (hR : Rt E mX5_allPurses (PI R M) G) (k0 : IsK r0 5) {k4 : Int32 → Int32 → Mem → Option (Int32)} (hk4 : ∀ (x1 : Int32) (x2 : Int32) (M' : Mem), k4 x1 x2 M' = some R → M' = M → V E G 4 [some (.ref r0), some (.int x1), some (.int x2)] [] M') {x1 : Int32} {x2 : Int32} (h : f_X5_allPurses_b4 r0 k4 x1 x2 M = some R) : V E G 4 [some (.ref r0), some (.int x1), some (.int x2)] [] M := by
  unfold f_X5_allPurses_b4 at h
  refine v_iload_2 hG dX5_allPurses_4 (q := 5) rfl ?_
  refine v_aload_0 hG dX5_allPurses_5 (q := 6) rfl ?_
  refine gt_RX5_30 hG rfl k0 dX5_allPurses_6 (q := 9) rfl ?_
  refine v_icmp_ge hG dX5_allPurses_9 (tgt := 27) rfl (q := 12) rfl (fun hc => ?_) (fun hc => ?_)
  · replace h := ifp hc h
    refine v_iload_1 hG dX5_allPurses_27 (q := 28) rfl ?_
    exact v_iret hG hR rfl rfl (sp1 h) dX5_allPurses_28
  · replace h := ifn hc h
    refine v_iload_1 hG dX5_allPurses_12 (q := 13) rfl ?_
    refine v_aload_0 hG dX5_allPurses_13 (q := 14) rfl ?_
    refine gt_RX5_27 hG rfl k0 dX5_allPurses_14 (q := 17) rfl ?_
    refine v_iload_2 hG dX5_allPurses_17 (q := 18) rfl ?_
    obtain ⟨c_1, h⟩ := ck_some h
    refine v_iald hG ((k0).w6) ((k0).wl6) c_1 dX5_allPurses_18 (q := 19) rfl ?_
    refine v_iadd hG dX5_allPurses_19 (q := 20) rfl ?_
    refine v_topi (fun x1_2 hy => ?_)
    replace h := letv_at hy h
    clear hy
    refine v_istore_1 hG rfl dX5_allPurses_20 (q := 21) rfl ?_
    refine v_iinc_2 hG rfl dX5_allPurses_21 (congrArg _ ci_1) (q := 24) rfl ?_
    refine v_goto hG dX5_allPurses_24 (tgt := 4) rfl ?_
    exact hk4 _ _ _ h rfl
theorem w_X5_allPurses_l4 {E : EB} {G : GB} (hG : Gd E mX5_allPurses G) {r0 : Nat} {M : Mem} {R : Int32} (hR : Rt E mX5_allPurses (PI R M) G) (k0 : IsK r0 5) : ∀ (n : Nat) (x1 : Int32) (x2 : Int32) (M' : Mem), f_X5_allPurses_l4 r0 n x1 x2 M' = some R → M' = M → V E G 4 [some (.ref r0), some (.int x1), some (.int x2)] [] M' := by
  intro n
  induction n with
  | zero => intro x1 x2 M' h; cases h
  | succ n ih => intro x1 x2 M' h e; subst e; exact w_X5_allPurses_b4 hG hR k0 ih h
theorem w_X5_allPurses {E : EB} {r0 : Nat} (k0 : IsK r0 5) {M : Mem} {R : Int32} (h : f_X5_allPurses r0 M = some R) : Mt E mX5_allPurses [.ref r0] M (PI R M) := by
  refine mt_of (L0 := [some (.ref r0), none, none]) (by decide) rfl rfl (fun G hG hR => ?_)
  unfold f_X5_allPurses at h
  refine v_iconst hG ci_0 dX5_allPurses_0 (q := 1) rfl ?_
  refine v_istore_1 hG rfl dX5_allPurses_1 (q := 2) rfl ?_
  refine v_iconst hG ci_0 dX5_allPurses_2 (q := 3) rfl ?_
  refine v_istore_2 hG rfl dX5_allPurses_3 (q := 4) rfl ?_
  exact w_X5_allPurses_l4 hG hR k0 FU _ _ _ h rfl
theorem cvX5_allPurses : CVo mX5_allPurses 0 5 := ⟨moX5_allPurses, mvX5_allPurses, by decide, _, _, rfl⟩

theorem w_X7_when_b44 {E : EB} {G : GB} (hG : Gd E mX7_when G) {M : Mem} {R : Int32 × Mem} (hR : Rt E mX7_when (PI R.1 R.2) G) {k44 : Int32 → Int32 → Int32 → Mem → Option (Int32 × Mem)} (hk44 : ∀ (x1 : Int32) (x2 : Int32) (x3 : Int32) (M : Mem), k44 x1 x2 x3 M = some R → V E G 44 [some (.ref 59), some (.int x1), some (.int x2), some (.int x3)] [] M) {x1 : Int32} {x2 : Int32} {x3 : Int32} (h : f_X7_when_b44 k44 x1 x2 x3 M = some R) : V E G 44 [some (.ref 59), some (.int x1), some (.int x2), some (.int x3)] [] M := by
  unfold f_X7_when_b44 at h
  refine v_iload_3 hG dX7_when_44 (q := 45) rfl ?_
  refine v_bipush hG cb_61 dX7_when_45 (q := 47) rfl ?_
  refine v_icmp_ge hG dX7_when_47 (tgt := 73) rfl (q := 50) rfl (fun hc => ?_) (fun hc => ?_)
  · replace h := ifp hc h
    refine v_aload_0 hG dX7_when_73 (q := 74) rfl ?_
    obtain ⟨r_8, hr_8, h⟩ := bnd h
    refine v_cV0V hG cvX7_putsBack ml_RX7_192 rfl kk_59 (w_X7_putsBack hr_8) (Nat.le_of_ble_eq_true rfl) dX7_when_74 (q := 77) rfl ?_
    refine v_iload_3 hG dX7_when_77 (q := 78) rfl ?_
    refine v_bipush hG cb_60 dX7_when_78 (q := 80) rfl ?_
    refine v_icmp_le hG dX7_when_80 (tgt := 92) rfl (q := 83) rfl (fun hc => ?_) (fun hc => ?_)
    · replace h := ifp hc h
      refine v_iload_3 hG dX7_when_92 (q := 93) rfl ?_
      exact v_iret hG hR rfl rfl (sp2t h) dX7_when_93
    · replace h := ifn hc h
      refine v_aload_0 hG dX7_when_83 (q := 84) rfl ?_
      refine v_ldc hG kc_RX7_195 dX7_when_84 (q := 86) rfl ?_
      obtain ⟨r_9, hr_9, h⟩ := bnd h
      refine v_cV1I hG cvX7_finds ml_RX7_68 rfl kk_59 (w_X7_finds hr_9) (Nat.le_of_ble_eq_true rfl) dX7_when_86 (q := 89) rfl ?_
      refine v_goto hG dX7_when_89 (tgt := 93) rfl ?_
      exact v_iret hG hR rfl rfl (sp2t h) dX7_when_93
  · replace h := ifn hc h
    refine v_aload_0 hG dX7_when_50 (q := 51) rfl ?_
    refine v_iload_1 hG dX7_when_51 (q := 52) rfl ?_
    refine v_iconst hG ci_1 dX7_when_52 (q := 53) rfl ?_
    obtain ⟨r_10, hr_10, h⟩ := bnd h
    refine v_cV2I hG cvX7_told ml_RX7_90 rfl kk_59 (w_X7_told hr_10) (Nat.le_of_ble_eq_true rfl) dX7_when_53 (q := 56) rfl ?_
    refine v_iload_2 hG dX7_when_56 (q := 57) rfl ?_
    obtain ⟨r_11, hr_11, h⟩ := bnd h
    refine v_cS2I hG csX7_has ml_RX7_110 rfl (w_X7_has hr_11) (Nat.le_of_ble_eq_true rfl) dX7_when_57 (q := 60) rfl ?_
    refine v_if_ne hG dX7_when_60 (tgt := 73) rfl (q := 63) rfl (fun hc => ?_) (fun hc => ?_)
    · replace h := ifn hc h
      refine v_aload_0 hG dX7_when_73 (q := 74) rfl ?_
      obtain ⟨r_12, hr_12, h⟩ := bnd h
      refine v_cV0V hG cvX7_putsBack ml_RX7_192 rfl kk_59 (w_X7_putsBack hr_12) (Nat.le_of_ble_eq_true rfl) dX7_when_74 (q := 77) rfl ?_
      refine v_iload_3 hG dX7_when_77 (q := 78) rfl ?_
      refine v_bipush hG cb_60 dX7_when_78 (q := 80) rfl ?_
      refine v_icmp_le hG dX7_when_80 (tgt := 92) rfl (q := 83) rfl (fun hc => ?_) (fun hc => ?_)
      · replace h := ifp hc h
        refine v_iload_3 hG dX7_when_92 (q := 93) rfl ?_
        exact v_iret hG hR rfl rfl (sp2t h) dX7_when_93
      · replace h := ifn hc h
        refine v_aload_0 hG dX7_when_83 (q := 84) rfl ?_
        refine v_ldc hG kc_RX7_195 dX7_when_84 (q := 86) rfl ?_
        obtain ⟨r_13, hr_13, h⟩ := bnd h
        refine v_cV1I hG cvX7_finds ml_RX7_68 rfl kk_59 (w_X7_finds hr_13) (Nat.le_of_ble_eq_true rfl) dX7_when_86 (q := 89) rfl ?_
        refine v_goto hG dX7_when_89 (tgt := 93) rfl ?_
        exact v_iret hG hR rfl rfl (sp2t h) dX7_when_93
    · replace h := ifp hc h
      refine v_aload_0 hG dX7_when_63 (q := 64) rfl ?_
      obtain ⟨r_14, hr_14, h⟩ := bnd h
      refine v_cV0V hG cvX7_year ml_RX7_151 rfl kk_59 (w_X7_year hr_14) (Nat.le_of_ble_eq_true rfl) dX7_when_64 (q := 67) rfl ?_
      refine v_iinc_3 hG rfl dX7_when_67 (congrArg _ ci_1) (q := 70) rfl ?_
      refine v_goto hG dX7_when_70 (tgt := 44) rfl ?_
      exact hk44 _ _ _ _ h
theorem w_X7_when_l44 {E : EB} {G : GB} (hG : Gd E mX7_when G) {R : Int32 × Mem} (hR : Rt E mX7_when (PI R.1 R.2) G) : ∀ (n : Nat) (x1 : Int32) (x2 : Int32) (x3 : Int32) (M : Mem), f_X7_when_l44 n x1 x2 x3 M = some R → V E G 44 [some (.ref 59), some (.int x1), some (.int x2), some (.int x3)] [] M := by
  intro n
  induction n with
  | zero => intro x1 x2 x3 M h; cases h
  | succ n ih => intro x1 x2 x3 M h; exact w_X7_when_b44 hG hR ih h
theorem w_X7_when {E : EB} {x1 : Int32} {x2 : Int32} {M : Mem} {R : Int32 × Mem} (h : f_X7_when x1 x2 M = some R) : Mt E mX7_when [.ref 59, .int x1, .int x2] M (PI R.1 R.2) := by
  refine mt_of (L0 := [some (.ref 59), some (.int x1), some (.int x2), none]) (by decide) rfl rfl (fun G hG hR => ?_)
  unfold f_X7_when at h
  refine v_aload_0 hG dX7_when_0 (q := 1) rfl ?_
  refine v_iload_1 hG dX7_when_1 (q := 2) rfl ?_
  obtain ⟨r_1, hr_1, h⟩ := bnd h
  refine v_cV1I hG cvX7_isPerson ml_RX7_96 rfl kk_59 (w_X7_isPerson hr_1) (Nat.le_of_ble_eq_true rfl) dX7_when_2 (q := 5) rfl ?_
  refine v_if_eq hG dX7_when_5 (tgt := 15) rfl (q := 8) rfl (fun hc => ?_) (fun hc => ?_)
  · replace h := ifp hc h
    refine v_aload_0 hG dX7_when_15 (q := 16) rfl ?_
    refine v_ldc hG kc_RX7_40 dX7_when_16 (q := 18) rfl ?_
    obtain ⟨r_2, hr_2, h⟩ := bnd h
    refine v_cV1I hG cvX7_finds ml_RX7_68 rfl kk_59 (w_X7_finds hr_2) (Nat.le_of_ble_eq_true rfl) dX7_when_18 (q := 21) rfl ?_
    exact v_iret hG hR rfl rfl (sp2t h) dX7_when_21
  · replace h := ifn hc h
    refine v_iload_2 hG dX7_when_8 (q := 9) rfl ?_
    obtain ⟨r_3, hr_3, h⟩ := bnd h
    refine v_cS1I hG csX7_isMark ml_RX7_172 rfl (w_X7_isMark hr_3) (Nat.le_of_ble_eq_true rfl) dX7_when_9 (q := 12) rfl ?_
    refine v_if_ne hG dX7_when_12 (tgt := 22) rfl (q := 15) rfl (fun hc => ?_) (fun hc => ?_)
    · replace h := ifn hc h
      refine v_aload_0 hG dX7_when_22 (q := 23) rfl ?_
      refine v_bipush hG cb_60 dX7_when_23 (q := 25) rfl ?_
      obtain ⟨r_4, hr_4, h⟩ := bnd h
      refine v_cV1I hG cvX7_isTooLate ml_RX7_156 rfl kk_59 (w_X7_isTooLate hr_4) (Nat.le_of_ble_eq_true rfl) dX7_when_25 (q := 28) rfl ?_
      refine v_if_eq hG dX7_when_28 (tgt := 38) rfl (q := 31) rfl (fun hc => ?_) (fun hc => ?_)
      · replace h := ifp hc h
        refine v_aload_0 hG dX7_when_38 (q := 39) rfl ?_
        obtain ⟨r_5, hr_5, h⟩ := bnd h
        refine v_cV0V hG cvX7_saves ml_RX7_183 rfl kk_59 (w_X7_saves hr_5) (Nat.le_of_ble_eq_true rfl) dX7_when_39 (q := 42) rfl ?_
        refine v_iconst hG ci_0 dX7_when_42 (q := 43) rfl ?_
        refine v_istore_3 hG rfl dX7_when_43 (q := 44) rfl ?_
        exact w_X7_when_l44 hG hR FU _ _ _ _ h
      · replace h := ifn hc h
        refine v_aload_0 hG dX7_when_31 (q := 32) rfl ?_
        refine v_ldc hG kc_RX7_150 dX7_when_32 (q := 34) rfl ?_
        obtain ⟨r_6, hr_6, h⟩ := bnd h
        refine v_cV1I hG cvX7_finds ml_RX7_68 rfl kk_59 (w_X7_finds hr_6) (Nat.le_of_ble_eq_true rfl) dX7_when_34 (q := 37) rfl ?_
        exact v_iret hG hR rfl rfl (sp2t h) dX7_when_37
    · replace h := ifp hc h
      refine v_aload_0 hG dX7_when_15 (q := 16) rfl ?_
      refine v_ldc hG kc_RX7_40 dX7_when_16 (q := 18) rfl ?_
      obtain ⟨r_7, hr_7, h⟩ := bnd h
      refine v_cV1I hG cvX7_finds ml_RX7_68 rfl kk_59 (w_X7_finds hr_7) (Nat.le_of_ble_eq_true rfl) dX7_when_18 (q := 21) rfl ?_
      exact v_iret hG hR rfl rfl (sp2t h) dX7_when_21
theorem cvX7_when : CVo mX7_when 2 7 := ⟨moX7_when, mvX7_when, by decide, _, _, rfl⟩
theorem w_X7_believers {E : EB} {x1 : Int32} {x2 : Int32} {x3 : Int32} {M : Mem} {R : Int32 × Mem} (h : f_X7_believers x1 x2 x3 M = some R) : Mt E mX7_believers [.ref 59, .int x1, .int x2, .int x3] M (PI R.1 R.2) := by
  refine mt_of (L0 := [some (.ref 59), some (.int x1), some (.int x2), some (.int x3), none, none]) (by decide) rfl rfl (fun G hG hR => ?_)
  unfold f_X7_believers at h
  refine v_aload_0 hG dX7_believers_0 (q := 1) rfl ?_
  obtain ⟨r_1, hr_1, h⟩ := bnd h
  refine v_cV0V hG cvX7_saves ml_RX7_183 rfl kk_59 (w_X7_saves hr_1) (Nat.le_of_ble_eq_true rfl) dX7_believers_1 (q := 4) rfl ?_
  refine v_iload_1 hG dX7_believers_4 (q := 5) rfl ?_
  refine v_if_lt hG dX7_believers_5 (tgt := 19) rfl (q := 8) rfl (fun hc => ?_) (fun hc => ?_)
  · replace h := ifp hc h
    refine v_aload_0 hG dX7_believers_19 (q := 20) rfl ?_
    refine v_iload_3 hG dX7_believers_20 (q := 21) rfl ?_
    obtain ⟨r_2, hr_2, h⟩ := bnd h
    refine v_cV1I hG cvX7_yearsGo ml_RX7_159 rfl kk_59 (w_X7_yearsGo hr_2) (Nat.le_of_ble_eq_true rfl) dX7_believers_21 (q := 24) rfl ?_
    refine v_istore_4 hG rfl dX7_believers_24 (q := 26) rfl ?_
    refine v_aload_0 hG dX7_believers_26 (q := 27) rfl ?_
    refine v_iload_2 hG dX7_believers_27 (q := 28) rfl ?_
    obtain ⟨r_3, hr_3, h⟩ := bnd h
    refine v_cV1I hG cvX7_whoBelieves ml_RX7_175 rfl kk_59 (w_X7_whoBelieves hr_3) (Nat.le_of_ble_eq_true rfl) dX7_believers_28 (q := 31) rfl ?_
    refine v_istore_5 hG rfl dX7_believers_31 (q := 33) rfl ?_
    refine v_aload_0 hG dX7_believers_33 (q := 34) rfl ?_
    obtain ⟨r_4, hr_4, h⟩ := bnd h
    refine v_cV0V hG cvX7_putsBack ml_RX7_192 rfl kk_59 (w_X7_putsBack hr_4) (Nat.le_of_ble_eq_true rfl) dX7_believers_34 (q := 37) rfl ?_
    refine v_iload_5 hG dX7_believers_37 (q := 39) rfl ?_
    exact v_iret hG hR rfl rfl (sp2t h) dX7_believers_39
  · replace h := ifn hc h
    refine v_aload_0 hG dX7_believers_8 (q := 9) rfl ?_
    refine gt_RX7_7 hG rfl kk_59 dX7_believers_9 (q := 12) rfl ?_
    refine v_iload_1 hG dX7_believers_12 (q := 13) rfl ?_
    refine v_iconst hG ci_2 dX7_believers_13 (q := 14) rfl ?_
    obtain ⟨r_5, hr_5, h⟩ := bnd h
    refine v_cS2I hG csX7_at ml_RX7_50 rfl (w_X7_at hr_5) (Nat.le_of_ble_eq_true rfl) dX7_believers_14 (q := 17) rfl ?_
    refine v_iconst hG ci_0 dX7_believers_17 (q := 18) rfl ?_
    obtain ⟨c_6, h⟩ := ck_some h
    refine v_iast hG kk_60 rfl c_6 dX7_believers_18 (q := 19) rfl ?_
    refine v_topM (fun M_7 hy => ?_)
    replace h := letv_at hy h
    clear hy
    refine v_aload_0 hG dX7_believers_19 (q := 20) rfl ?_
    refine v_iload_3 hG dX7_believers_20 (q := 21) rfl ?_
    obtain ⟨r_8, hr_8, h⟩ := bnd h
    refine v_cV1I hG cvX7_yearsGo ml_RX7_159 rfl kk_59 (w_X7_yearsGo hr_8) (Nat.le_of_ble_eq_true rfl) dX7_believers_21 (q := 24) rfl ?_
    refine v_istore_4 hG rfl dX7_believers_24 (q := 26) rfl ?_
    refine v_aload_0 hG dX7_believers_26 (q := 27) rfl ?_
    refine v_iload_2 hG dX7_believers_27 (q := 28) rfl ?_
    obtain ⟨r_9, hr_9, h⟩ := bnd h
    refine v_cV1I hG cvX7_whoBelieves ml_RX7_175 rfl kk_59 (w_X7_whoBelieves hr_9) (Nat.le_of_ble_eq_true rfl) dX7_believers_28 (q := 31) rfl ?_
    refine v_istore_5 hG rfl dX7_believers_31 (q := 33) rfl ?_
    refine v_aload_0 hG dX7_believers_33 (q := 34) rfl ?_
    obtain ⟨r_10, hr_10, h⟩ := bnd h
    refine v_cV0V hG cvX7_putsBack ml_RX7_192 rfl kk_59 (w_X7_putsBack hr_10) (Nat.le_of_ble_eq_true rfl) dX7_believers_34 (q := 37) rfl ?_
    refine v_iload_5 hG dX7_believers_37 (q := 39) rfl ?_
    exact v_iret hG hR rfl rfl (sp2t h) dX7_believers_39
theorem cvX7_believers : CVo mX7_believers 3 7 := ⟨moX7_believers, mvX7_believers, by decide, _, _, rfl⟩
theorem w_X7_without {E : EB} {x1 : Int32} {x2 : Int32} {x3 : Int32} {M : Mem} {R : Int32 × Mem} (h : f_X7_without x1 x2 x3 M = some R) : Mt E mX7_without [.ref 59, .int x1, .int x2, .int x3] M (PI R.1 R.2) := by
  refine mt_of (L0 := [some (.ref 59), some (.int x1), some (.int x2), some (.int x3)]) (by decide) rfl rfl (fun G hG hR => ?_)
  unfold f_X7_without at h
  refine v_aload_0 hG dX7_without_0 (q := 1) rfl ?_
  refine v_iload_1 hG dX7_without_1 (q := 2) rfl ?_
  obtain ⟨r_1, hr_1, h⟩ := bnd h
  refine v_cV1I hG cvX7_isWriter ml_RX7_76 rfl kk_59 (w_X7_isWriter hr_1) (Nat.le_of_ble_eq_true rfl) dX7_without_2 (q := 5) rfl ?_
  refine v_if_eq hG dX7_without_5 (tgt := 22) rfl (q := 8) rfl (fun hc => ?_) (fun hc => ?_)
  · replace h := ifp hc h
    refine v_aload_0 hG dX7_without_22 (q := 23) rfl ?_
    refine v_ldc hG kc_RX7_40 dX7_without_23 (q := 25) rfl ?_
    obtain ⟨r_2, hr_2, h⟩ := bnd h
    refine v_cV1I hG cvX7_finds ml_RX7_68 rfl kk_59 (w_X7_finds hr_2) (Nat.le_of_ble_eq_true rfl) dX7_without_25 (q := 28) rfl ?_
    exact v_iret hG hR rfl rfl (sp2t h) dX7_without_28
  · replace h := ifn hc h
    refine v_iload_2 hG dX7_without_8 (q := 9) rfl ?_
    obtain ⟨r_3, hr_3, h⟩ := bnd h
    refine v_cS1I hG csX7_isMark ml_RX7_172 rfl (w_X7_isMark hr_3) (Nat.le_of_ble_eq_true rfl) dX7_without_9 (q := 12) rfl ?_
    refine v_if_eq hG dX7_without_12 (tgt := 22) rfl (q := 15) rfl (fun hc => ?_) (fun hc => ?_)
    · replace h := ifp hc h
      refine v_aload_0 hG dX7_without_22 (q := 23) rfl ?_
      refine v_ldc hG kc_RX7_40 dX7_without_23 (q := 25) rfl ?_
      obtain ⟨r_4, hr_4, h⟩ := bnd h
      refine v_cV1I hG cvX7_finds ml_RX7_68 rfl kk_59 (w_X7_finds hr_4) (Nat.le_of_ble_eq_true rfl) dX7_without_25 (q := 28) rfl ?_
      exact v_iret hG hR rfl rfl (sp2t h) dX7_without_28
    · replace h := ifn hc h
      refine v_iload_3 hG dX7_without_15 (q := 16) rfl ?_
      obtain ⟨r_5, hr_5, h⟩ := bnd h
      refine v_cS1I hG csX7_isSpan ml_RX7_180 rfl (w_X7_isSpan hr_5) (Nat.le_of_ble_eq_true rfl) dX7_without_16 (q := 19) rfl ?_
      refine v_if_ne hG dX7_without_19 (tgt := 29) rfl (q := 22) rfl (fun hc => ?_) (fun hc => ?_)
      · replace h := ifn hc h
        refine v_aload_0 hG dX7_without_29 (q := 30) rfl ?_
        refine v_iload_3 hG dX7_without_30 (q := 31) rfl ?_
        obtain ⟨r_6, hr_6, h⟩ := bnd h
        refine v_cV1I hG cvX7_isTooLate ml_RX7_156 rfl kk_59 (w_X7_isTooLate hr_6) (Nat.le_of_ble_eq_true rfl) dX7_without_31 (q := 34) rfl ?_
        refine v_if_eq hG dX7_without_34 (tgt := 46) rfl (q := 37) rfl (fun hc => ?_) (fun hc => ?_)
        · replace h := ifp hc h
          refine v_aload_0 hG dX7_without_46 (q := 47) rfl ?_
          refine v_iload_1 hG dX7_without_47 (q := 48) rfl ?_
          refine v_iload_2 hG dX7_without_48 (q := 49) rfl ?_
          refine v_iload_3 hG dX7_without_49 (q := 50) rfl ?_
          obtain ⟨r_7, hr_7, h⟩ := bnd h
          refine v_cV3I hG cvX7_believers ml_RX7_196 rfl kk_59 (w_X7_believers hr_7) (Nat.le_of_ble_eq_true rfl) dX7_without_50 (q := 53) rfl ?_
          exact v_iret hG hR rfl rfl (sp2t h) dX7_without_53
        · replace h := ifn hc h
          refine v_aload_0 hG dX7_without_37 (q := 38) rfl ?_
          refine v_ldc hG kc_RX7_150 dX7_without_38 (q := 40) rfl ?_
          obtain ⟨r_8, hr_8, h⟩ := bnd h
          refine v_cV1I hG cvX7_finds ml_RX7_68 rfl kk_59 (w_X7_finds hr_8) (Nat.le_of_ble_eq_true rfl) dX7_without_40 (q := 43) rfl ?_
          refine v_goto hG dX7_without_43 (tgt := 53) rfl ?_
          exact v_iret hG hR rfl rfl (sp2t h) dX7_without_53
      · replace h := ifp hc h
        refine v_aload_0 hG dX7_without_22 (q := 23) rfl ?_
        refine v_ldc hG kc_RX7_40 dX7_without_23 (q := 25) rfl ?_
        obtain ⟨r_9, hr_9, h⟩ := bnd h
        refine v_cV1I hG cvX7_finds ml_RX7_68 rfl kk_59 (w_X7_finds hr_9) (Nat.le_of_ble_eq_true rfl) dX7_without_25 (q := 28) rfl ?_
        exact v_iret hG hR rfl rfl (sp2t h) dX7_without_28
theorem cvX7_without : CVo mX7_without 3 7 := ⟨moX7_without, mvX7_without, by decide, _, _, rfl⟩
theorem w_X7_added_b53 {E : EB} {G : GB} (hG : Gd E mX7_added G) {M : Mem} {R : Int32 × Mem} (hR : Rt E mX7_added (PI R.1 R.2) G) {k53 : Int32 → Int32 → Int32 → Int32 → Int32 → Mem → Option (Int32 × Mem)} (hk53 : ∀ (x1 : Int32) (x2 : Int32) (x3 : Int32) (x4 : Int32) (x5 : Int32) (M : Mem), k53 x1 x2 x3 x4 x5 M = some R → V E G 53 [some (.ref 59), some (.int x1), some (.int x2), some (.int x3), some (.int x4), some (.int x5)] [] M) {x1 : Int32} {x2 : Int32} {x3 : Int32} {x4 : Int32} {x5 : Int32} (h : f_X7_added_b53 k53 x1 x2 x3 x4 x5 M = some R) : V E G 53 [some (.ref 59), some (.int x1), some (.int x2), some (.int x3), some (.int x4), some (.int x5)] [] M := by
  unfold f_X7_added_b53 at h
  refine v_iload_5 hG dX7_added_53 (q := 55) rfl ?_
  refine v_aload_0 hG dX7_added_55 (q := 56) rfl ?_
  refine gt_RX7_7 hG rfl kk_59 dX7_added_56 (q := 59) rfl ?_
  refine v_iconst hG ci_0 dX7_added_59 (q := 60) rfl ?_
  obtain ⟨c_9, h⟩ := ck_some h
  refine v_iald hG kk_60 rfl c_9 dX7_added_60 (q := 61) rfl ?_
  refine v_icmp_ge hG dX7_added_61 (tgt := 98) rfl (q := 64) rfl (fun hc => ?_) (fun hc => ?_)
  · replace h := ifp hc h
    refine v_iload_4 hG dX7_added_98 (q := 100) rfl ?_
    exact v_iret hG hR rfl rfl (sp2t h) dX7_added_100
  · replace h := ifn hc h
    refine v_iload_4 hG dX7_added_64 (q := 66) rfl ?_
    refine v_aload_0 hG dX7_added_66 (q := 67) rfl ?_
    refine v_iload_5 hG dX7_added_67 (q := 69) rfl ?_
    refine v_iload_1 hG dX7_added_69 (q := 70) rfl ?_
    refine v_iload_2 hG dX7_added_70 (q := 71) rfl ?_
    obtain ⟨r_10, hr_10, h⟩ := bnd h
    refine v_cV3I hG cvX7_believers ml_RX7_196 rfl kk_59 (w_X7_believers hr_10) (Nat.le_of_ble_eq_true rfl) dX7_added_71 (q := 74) rfl ?_
    obtain ⟨r_11, hr_11, h⟩ := bnd h
    refine v_cS1I hG csX7_ones ml_RX7_162 rfl (w_X7_ones hr_11) (Nat.le_of_ble_eq_true rfl) dX7_added_74 (q := 77) rfl ?_
    refine v_iload_3 hG dX7_added_77 (q := 78) rfl ?_
    refine v_icmp_ge hG dX7_added_78 (tgt := 88) rfl (q := 81) rfl (fun hc => ?_) (fun hc => ?_)
    · replace h := ifp hc h
      refine v_iconst hG ci_0 dX7_added_88 (q := 89) rfl ?_
      refine v_ior hG dX7_added_89 (q := 90) rfl ?_
      refine v_topi (fun x4_12 hy => ?_)
      replace h := letv_at hy h
      clear hy
      refine v_istore_4 hG rfl dX7_added_90 (q := 92) rfl ?_
      refine v_iinc_5 hG rfl dX7_added_92 (congrArg _ ci_1) (q := 95) rfl ?_
      refine v_goto hG dX7_added_95 (tgt := 53) rfl ?_
      exact hk53 _ _ _ _ _ _ h
    · replace h := ifn hc h
      refine v_iconst hG ci_1 dX7_added_81 (q := 82) rfl ?_
      refine v_iload_5 hG dX7_added_82 (q := 84) rfl ?_
      refine v_ishl hG dX7_added_84 (q := 85) rfl ?_
      refine v_goto hG dX7_added_85 (tgt := 89) rfl ?_
      refine v_ior hG dX7_added_89 (q := 90) rfl ?_
      refine v_topi (fun x4_13 hy => ?_)
      replace h := letv_at hy h
      clear hy
      refine v_istore_4 hG rfl dX7_added_90 (q := 92) rfl ?_
      refine v_iinc_5 hG rfl dX7_added_92 (congrArg _ ci_1) (q := 95) rfl ?_
      refine v_goto hG dX7_added_95 (tgt := 53) rfl ?_
      exact hk53 _ _ _ _ _ _ h
theorem w_X7_added_l53 {E : EB} {G : GB} (hG : Gd E mX7_added G) {R : Int32 × Mem} (hR : Rt E mX7_added (PI R.1 R.2) G) : ∀ (n : Nat) (x1 : Int32) (x2 : Int32) (x3 : Int32) (x4 : Int32) (x5 : Int32) (M : Mem), f_X7_added_l53 n x1 x2 x3 x4 x5 M = some R → V E G 53 [some (.ref 59), some (.int x1), some (.int x2), some (.int x3), some (.int x4), some (.int x5)] [] M := by
  intro n
  induction n with
  | zero => intro x1 x2 x3 x4 x5 M h; cases h
  | succ n ih => intro x1 x2 x3 x4 x5 M h; exact w_X7_added_b53 hG hR ih h
theorem w_X7_added {E : EB} {x1 : Int32} {x2 : Int32} {M : Mem} {R : Int32 × Mem} (h : f_X7_added x1 x2 M = some R) : Mt E mX7_added [.ref 59, .int x1, .int x2] M (PI R.1 R.2) := by
  refine mt_of (L0 := [some (.ref 59), some (.int x1), some (.int x2), none, none, none]) (by decide) rfl rfl (fun G hG hR => ?_)
  unfold f_X7_added at h
  refine v_iload_1 hG dX7_added_0 (q := 1) rfl ?_
  obtain ⟨r_1, hr_1, h⟩ := bnd h
  refine v_cS1I hG csX7_isMark ml_RX7_172 rfl (w_X7_isMark hr_1) (Nat.le_of_ble_eq_true rfl) dX7_added_1 (q := 4) rfl ?_
  refine v_if_eq hG dX7_added_4 (tgt := 14) rfl (q := 7) rfl (fun hc => ?_) (fun hc => ?_)
  · replace h := ifp hc h
    refine v_aload_0 hG dX7_added_14 (q := 15) rfl ?_
    refine v_ldc hG kc_RX7_40 dX7_added_15 (q := 17) rfl ?_
    obtain ⟨r_2, hr_2, h⟩ := bnd h
    refine v_cV1I hG cvX7_finds ml_RX7_68 rfl kk_59 (w_X7_finds hr_2) (Nat.le_of_ble_eq_true rfl) dX7_added_17 (q := 20) rfl ?_
    exact v_iret hG hR rfl rfl (sp2t h) dX7_added_20
  · replace h := ifn hc h
    refine v_iload_2 hG dX7_added_7 (q := 8) rfl ?_
    obtain ⟨r_3, hr_3, h⟩ := bnd h
    refine v_cS1I hG csX7_isSpan ml_RX7_180 rfl (w_X7_isSpan hr_3) (Nat.le_of_ble_eq_true rfl) dX7_added_8 (q := 11) rfl ?_
    refine v_if_ne hG dX7_added_11 (tgt := 21) rfl (q := 14) rfl (fun hc => ?_) (fun hc => ?_)
    · replace h := ifn hc h
      refine v_aload_0 hG dX7_added_21 (q := 22) rfl ?_
      refine v_iload_2 hG dX7_added_22 (q := 23) rfl ?_
      obtain ⟨r_4, hr_4, h⟩ := bnd h
      refine v_cV1I hG cvX7_isTooLate ml_RX7_156 rfl kk_59 (w_X7_isTooLate hr_4) (Nat.le_of_ble_eq_true rfl) dX7_added_23 (q := 26) rfl ?_
      refine v_if_eq hG dX7_added_26 (tgt := 36) rfl (q := 29) rfl (fun hc => ?_) (fun hc => ?_)
      · replace h := ifp hc h
        refine v_aload_0 hG dX7_added_36 (q := 37) rfl ?_
        refine v_iconst hG ci_m1 dX7_added_37 (q := 38) rfl ?_
        refine v_iload_1 hG dX7_added_38 (q := 39) rfl ?_
        refine v_iload_2 hG dX7_added_39 (q := 40) rfl ?_
        obtain ⟨r_5, hr_5, h⟩ := bnd h
        refine v_cV3I hG cvX7_believers ml_RX7_196 rfl kk_59 (w_X7_believers hr_5) (Nat.le_of_ble_eq_true rfl) dX7_added_40 (q := 43) rfl ?_
        obtain ⟨r_6, hr_6, h⟩ := bnd h
        refine v_cS1I hG csX7_ones ml_RX7_162 rfl (w_X7_ones hr_6) (Nat.le_of_ble_eq_true rfl) dX7_added_43 (q := 46) rfl ?_
        refine v_istore_3 hG rfl dX7_added_46 (q := 47) rfl ?_
        refine v_iconst hG ci_0 dX7_added_47 (q := 48) rfl ?_
        refine v_istore_4 hG rfl dX7_added_48 (q := 50) rfl ?_
        refine v_iconst hG ci_0 dX7_added_50 (q := 51) rfl ?_
        refine v_istore_5 hG rfl dX7_added_51 (q := 53) rfl ?_
        exact w_X7_added_l53 hG hR FU _ _ _ _ _ _ h
      · replace h := ifn hc h
        refine v_aload_0 hG dX7_added_29 (q := 30) rfl ?_
        refine v_ldc hG kc_RX7_150 dX7_added_30 (q := 32) rfl ?_
        obtain ⟨r_7, hr_7, h⟩ := bnd h
        refine v_cV1I hG cvX7_finds ml_RX7_68 rfl kk_59 (w_X7_finds hr_7) (Nat.le_of_ble_eq_true rfl) dX7_added_32 (q := 35) rfl ?_
        exact v_iret hG hR rfl rfl (sp2t h) dX7_added_35
    · replace h := ifp hc h
      refine v_aload_0 hG dX7_added_14 (q := 15) rfl ?_
      refine v_ldc hG kc_RX7_40 dX7_added_15 (q := 17) rfl ?_
      obtain ⟨r_8, hr_8, h⟩ := bnd h
      refine v_cV1I hG cvX7_finds ml_RX7_68 rfl kk_59 (w_X7_finds hr_8) (Nat.le_of_ble_eq_true rfl) dX7_added_17 (q := 20) rfl ?_
      exact v_iret hG hR rfl rfl (sp2t h) dX7_added_20
theorem cvX7_added : CVo mX7_added 2 7 := ⟨moX7_added, mvX7_added, by decide, _, _, rfl⟩
theorem w_X7_best_j117 {E : EB} {G : GB} (hG : Gd E mX7_best G) {M : Mem} {R : Int32 × Mem} (hR : Rt E mX7_best (PI R.1 R.2) G) {k51 : Int32 → Int32 → Int32 → Int32 → Int32 → Int32 → Mem → Option (Int32 × Mem)} (hk51 : ∀ (x1 : Int32) (x2 : Int32) (x3 : Int32) (x4 : Int32) (x5 : Int32) (x6 : Int32) (M : Mem), k51 x1 x2 x3 x4 x5 x6 M = some R → V E G 51 [some (.ref 59), some (.int x1), some (.int x2), some (.int x3), some (.int x4), some (.int x5), some (.int x6), none, none] [] M) {x1 : Int32} {x2 : Int32} {x3 : Int32} {x5 : Int32} {x6 : Int32} {x8 : Int32} {t0 : Int32} (h : f_X7_best_j117 k51 x1 x2 x3 x5 x6 x8 t0 M = some R) : V E G 117 [some (.ref 59), some (.int x1), some (.int x2), some (.int x3), none, some (.int x5), some (.int x6), none, some (.int x8)] [.int t0] M := by
  unfold f_X7_best_j117 at h
  refine v_istore_4 hG rfl dX7_best_117 (q := 119) rfl ?_
  refine v_iload_8 hG dX7_best_119 (q := 121) rfl ?_
  refine v_iload_5 hG dX7_best_121 (q := 123) rfl ?_
  refine v_icmp_le hG dX7_best_123 (tgt := 131) rfl (q := 126) rfl (fun hc => ?_) (fun hc => ?_)
  · replace h := ifp hc h
    refine v_iload_5 hG dX7_best_131 (q := 133) rfl ?_
    refine v_istore_5 hG rfl dX7_best_133 (q := 135) rfl ?_
    refine v_iinc_6 hG rfl dX7_best_135 (congrArg _ ci_1) (q := 138) rfl ?_
    refine v_goto hG dX7_best_138 (tgt := 51) rfl ?_
    refine v_drop (n := 8) (L' := [some (.ref 59), some (.int x1), some (.int x2), some (.int x3), some (.int t0), some (.int x5), some (.int (x6 + (1 : Int32))), none, none]) rfl ?_
    exact hk51 _ _ _ _ _ _ _ h
  · replace h := ifn hc h
    refine v_iload_8 hG dX7_best_126 (q := 128) rfl ?_
    refine v_goto hG dX7_best_128 (tgt := 133) rfl ?_
    refine v_istore_5 hG rfl dX7_best_133 (q := 135) rfl ?_
    refine v_iinc_6 hG rfl dX7_best_135 (congrArg _ ci_1) (q := 138) rfl ?_
    refine v_goto hG dX7_best_138 (tgt := 51) rfl ?_
    refine v_drop (n := 8) (L' := [some (.ref 59), some (.int x1), some (.int x2), some (.int x3), some (.int t0), some (.int x8), some (.int (x6 + (1 : Int32))), none, none]) rfl ?_
    exact hk51 _ _ _ _ _ _ _ h
theorem w_X7_best_b51 {E : EB} {G : GB} (hG : Gd E mX7_best G) {M : Mem} {R : Int32 × Mem} (hR : Rt E mX7_best (PI R.1 R.2) G) {k51 : Int32 → Int32 → Int32 → Int32 → Int32 → Int32 → Mem → Option (Int32 × Mem)} (hk51 : ∀ (x1 : Int32) (x2 : Int32) (x3 : Int32) (x4 : Int32) (x5 : Int32) (x6 : Int32) (M : Mem), k51 x1 x2 x3 x4 x5 x6 M = some R → V E G 51 [some (.ref 59), some (.int x1), some (.int x2), some (.int x3), some (.int x4), some (.int x5), some (.int x6), none, none] [] M) {x1 : Int32} {x2 : Int32} {x3 : Int32} {x4 : Int32} {x5 : Int32} {x6 : Int32} (h : f_X7_best_b51 k51 x1 x2 x3 x4 x5 x6 M = some R) : V E G 51 [some (.ref 59), some (.int x1), some (.int x2), some (.int x3), some (.int x4), some (.int x5), some (.int x6), none, none] [] M := by
  unfold f_X7_best_b51 at h
  refine v_iload_6 hG dX7_best_51 (q := 53) rfl ?_
  refine v_aload_0 hG dX7_best_53 (q := 54) rfl ?_
  refine gt_RX7_7 hG rfl kk_59 dX7_best_54 (q := 57) rfl ?_
  refine v_iconst hG ci_0 dX7_best_57 (q := 58) rfl ?_
  obtain ⟨c_8, h⟩ := ck_some h
  refine v_iald hG kk_60 rfl c_8 dX7_best_58 (q := 59) rfl ?_
  refine v_icmp_ge hG dX7_best_59 (tgt := 141) rfl (q := 62) rfl (fun hc => ?_) (fun hc => ?_)
  · replace h := ifp hc h
    refine v_iload_4 hG dX7_best_141 (q := 143) rfl ?_
    exact v_iret hG hR rfl rfl (sp2t h) dX7_best_143
  · replace h := ifn hc h
    refine v_aload_0 hG dX7_best_62 (q := 63) rfl ?_
    refine gt_RX7_7 hG rfl kk_59 dX7_best_63 (q := 66) rfl ?_
    refine v_iload_1 hG dX7_best_66 (q := 67) rfl ?_
    refine v_iconst hG ci_2 dX7_best_67 (q := 68) rfl ?_
    obtain ⟨r_9, hr_9, h⟩ := bnd h
    refine v_cS2I hG csX7_where ml_RX7_84 rfl (w_X7_where hr_9) (Nat.le_of_ble_eq_true rfl) dX7_best_68 (q := 71) rfl ?_
    refine v_iload_6 hG dX7_best_71 (q := 73) rfl ?_
    obtain ⟨c_10, h⟩ := ck_some h
    refine v_iast hG kk_60 rfl c_10 dX7_best_73 (q := 74) rfl ?_
    refine v_topM (fun M_11 hy => ?_)
    replace h := letv_at hy h
    clear hy
    refine v_aload_0 hG dX7_best_74 (q := 75) rfl ?_
    refine v_iload_3 hG dX7_best_75 (q := 76) rfl ?_
    obtain ⟨r_12, hr_12, h⟩ := bnd h
    refine v_cV1I hG cvX7_yearsGo ml_RX7_159 rfl kk_59 (w_X7_yearsGo hr_12) (Nat.le_of_ble_eq_true rfl) dX7_best_76 (q := 79) rfl ?_
    refine v_istore_7 hG rfl dX7_best_79 (q := 81) rfl ?_
    refine v_aload_0 hG dX7_best_81 (q := 82) rfl ?_
    refine v_iload_1 hG dX7_best_82 (q := 83) rfl ?_
    refine v_iconst hG ci_0 dX7_best_83 (q := 84) rfl ?_
    obtain ⟨r_13, hr_13, h⟩ := bnd h
    refine v_cV2I hG cvX7_told ml_RX7_90 rfl kk_59 (w_X7_told hr_13) (Nat.le_of_ble_eq_true rfl) dX7_best_84 (q := 87) rfl ?_
    refine v_aload_0 hG dX7_best_87 (q := 88) rfl ?_
    refine v_iload_2 hG dX7_best_88 (q := 89) rfl ?_
    refine v_iconst hG ci_1 dX7_best_89 (q := 90) rfl ?_
    obtain ⟨r_14, hr_14, h⟩ := bnd h
    refine v_cV2I hG cvX7_told ml_RX7_90 rfl kk_59 (w_X7_told hr_14) (Nat.le_of_ble_eq_true rfl) dX7_best_90 (q := 93) rfl ?_
    refine v_iand hG dX7_best_93 (q := 94) rfl ?_
    obtain ⟨r_15, hr_15, h⟩ := bnd h
    refine v_cS1I hG csX7_ones ml_RX7_162 rfl (w_X7_ones hr_15) (Nat.le_of_ble_eq_true rfl) dX7_best_94 (q := 97) rfl ?_
    refine v_istore_8 hG rfl dX7_best_97 (q := 99) rfl ?_
    refine v_aload_0 hG dX7_best_99 (q := 100) rfl ?_
    obtain ⟨r_16, hr_16, h⟩ := bnd h
    refine v_cV0V hG cvX7_putsBack ml_RX7_192 rfl kk_59 (w_X7_putsBack hr_16) (Nat.le_of_ble_eq_true rfl) dX7_best_100 (q := 103) rfl ?_
    refine v_iload_8 hG dX7_best_103 (q := 105) rfl ?_
    refine v_iload_5 hG dX7_best_105 (q := 107) rfl ?_
    refine v_icmp_le hG dX7_best_107 (tgt := 115) rfl (q := 110) rfl (fun hc => ?_) (fun hc => ?_)
    · replace h := ifp hc h
      refine v_iload_4 hG dX7_best_115 (q := 117) rfl ?_
      refine v_drop (n := 4) (L' := [some (.ref 59), some (.int x1), some (.int x2), some (.int x3), none, some (.int x5), some (.int x6), some (.int r_12.1), some (.int r_15)]) rfl ?_
      refine v_drop (n := 7) (L' := [some (.ref 59), some (.int x1), some (.int x2), some (.int x3), none, some (.int x5), some (.int x6), none, some (.int r_15)]) rfl ?_
      exact w_X7_best_j117 hG hR hk51 h
    · replace h := ifn hc h
      refine v_iload_6 hG dX7_best_110 (q := 112) rfl ?_
      refine v_goto hG dX7_best_112 (tgt := 117) rfl ?_
      refine v_drop (n := 4) (L' := [some (.ref 59), some (.int x1), some (.int x2), some (.int x3), none, some (.int x5), some (.int x6), some (.int r_12.1), some (.int r_15)]) rfl ?_
      refine v_drop (n := 7) (L' := [some (.ref 59), some (.int x1), some (.int x2), some (.int x3), none, some (.int x5), some (.int x6), none, some (.int r_15)]) rfl ?_
      exact w_X7_best_j117 hG hR hk51 h
theorem w_X7_best_l51 {E : EB} {G : GB} (hG : Gd E mX7_best G) {R : Int32 × Mem} (hR : Rt E mX7_best (PI R.1 R.2) G) : ∀ (n : Nat) (x1 : Int32) (x2 : Int32) (x3 : Int32) (x4 : Int32) (x5 : Int32) (x6 : Int32) (M : Mem), f_X7_best_l51 n x1 x2 x3 x4 x5 x6 M = some R → V E G 51 [some (.ref 59), some (.int x1), some (.int x2), some (.int x3), some (.int x4), some (.int x5), some (.int x6), none, none] [] M := by
  intro n
  induction n with
  | zero => intro x1 x2 x3 x4 x5 x6 M h; cases h
  | succ n ih => intro x1 x2 x3 x4 x5 x6 M h; exact w_X7_best_b51 hG hR ih h
theorem w_X7_best {E : EB} {x1 : Int32} {x2 : Int32} {x3 : Int32} {M : Mem} {R : Int32 × Mem} (h : f_X7_best x1 x2 x3 M = some R) : Mt E mX7_best [.ref 59, .int x1, .int x2, .int x3] M (PI R.1 R.2) := by
  refine mt_of (L0 := [some (.ref 59), some (.int x1), some (.int x2), some (.int x3), none, none, none, none, none]) (by decide) rfl rfl (fun G hG hR => ?_)
  unfold f_X7_best at h
  refine v_aload_0 hG dX7_best_0 (q := 1) rfl ?_
  refine v_iload_1 hG dX7_best_1 (q := 2) rfl ?_
  refine v_iload_2 hG dX7_best_2 (q := 3) rfl ?_
  obtain ⟨r_1, hr_1, h⟩ := bnd h
  refine v_cV2I hG cvX7_isTwo ml_RX7_107 rfl kk_59 (w_X7_isTwo hr_1) (Nat.le_of_ble_eq_true rfl) dX7_best_3 (q := 6) rfl ?_
  refine v_if_eq hG dX7_best_6 (tgt := 16) rfl (q := 9) rfl (fun hc => ?_) (fun hc => ?_)
  · replace h := ifp hc h
    refine v_aload_0 hG dX7_best_16 (q := 17) rfl ?_
    refine v_ldc hG kc_RX7_40 dX7_best_17 (q := 19) rfl ?_
    obtain ⟨r_2, hr_2, h⟩ := bnd h
    refine v_cV1I hG cvX7_finds ml_RX7_68 rfl kk_59 (w_X7_finds hr_2) (Nat.le_of_ble_eq_true rfl) dX7_best_19 (q := 22) rfl ?_
    exact v_iret hG hR rfl rfl (sp2t h) dX7_best_22
  · replace h := ifn hc h
    refine v_iload_3 hG dX7_best_9 (q := 10) rfl ?_
    obtain ⟨r_3, hr_3, h⟩ := bnd h
    refine v_cS1I hG csX7_isSpan ml_RX7_180 rfl (w_X7_isSpan hr_3) (Nat.le_of_ble_eq_true rfl) dX7_best_10 (q := 13) rfl ?_
    refine v_if_ne hG dX7_best_13 (tgt := 23) rfl (q := 16) rfl (fun hc => ?_) (fun hc => ?_)
    · replace h := ifn hc h
      refine v_aload_0 hG dX7_best_23 (q := 24) rfl ?_
      refine v_iload_3 hG dX7_best_24 (q := 25) rfl ?_
      obtain ⟨r_4, hr_4, h⟩ := bnd h
      refine v_cV1I hG cvX7_isTooLate ml_RX7_156 rfl kk_59 (w_X7_isTooLate hr_4) (Nat.le_of_ble_eq_true rfl) dX7_best_25 (q := 28) rfl ?_
      refine v_if_eq hG dX7_best_28 (tgt := 38) rfl (q := 31) rfl (fun hc => ?_) (fun hc => ?_)
      · replace h := ifp hc h
        refine v_aload_0 hG dX7_best_38 (q := 39) rfl ?_
        obtain ⟨r_5, hr_5, h⟩ := bnd h
        refine v_cV0V hG cvX7_saves ml_RX7_183 rfl kk_59 (w_X7_saves hr_5) (Nat.le_of_ble_eq_true rfl) dX7_best_39 (q := 42) rfl ?_
        refine v_iconst hG ci_0 dX7_best_42 (q := 43) rfl ?_
        refine v_istore_4 hG rfl dX7_best_43 (q := 45) rfl ?_
        refine v_iconst hG ci_m1 dX7_best_45 (q := 46) rfl ?_
        refine v_istore_5 hG rfl dX7_best_46 (q := 48) rfl ?_
        refine v_iconst hG ci_0 dX7_best_48 (q := 49) rfl ?_
        refine v_istore_6 hG rfl dX7_best_49 (q := 51) rfl ?_
        exact w_X7_best_l51 hG hR FU _ _ _ _ _ _ _ h
      · replace h := ifn hc h
        refine v_aload_0 hG dX7_best_31 (q := 32) rfl ?_
        refine v_ldc hG kc_RX7_150 dX7_best_32 (q := 34) rfl ?_
        obtain ⟨r_6, hr_6, h⟩ := bnd h
        refine v_cV1I hG cvX7_finds ml_RX7_68 rfl kk_59 (w_X7_finds hr_6) (Nat.le_of_ble_eq_true rfl) dX7_best_34 (q := 37) rfl ?_
        exact v_iret hG hR rfl rfl (sp2t h) dX7_best_37
    · replace h := ifp hc h
      refine v_aload_0 hG dX7_best_16 (q := 17) rfl ?_
      refine v_ldc hG kc_RX7_40 dX7_best_17 (q := 19) rfl ?_
      obtain ⟨r_7, hr_7, h⟩ := bnd h
      refine v_cV1I hG cvX7_finds ml_RX7_68 rfl kk_59 (w_X7_finds hr_7) (Nat.le_of_ble_eq_true rfl) dX7_best_19 (q := 22) rfl ?_
      exact v_iret hG hR rfl rfl (sp2t h) dX7_best_22
theorem cvX7_best : CVo mX7_best 3 7 := ⟨moX7_best, mvX7_best, by decide, _, _, rfl⟩
theorem w_X7_bridge_j139 {E : EB} {G : GB} (hG : Gd E mX7_bridge G) {M : Mem} {R : Int32 × Mem} (hR : Rt E mX7_bridge (PI R.1 R.2) G) {k44 : Int32 → Int32 → Int32 → Int32 → Int32 → Mem → Option (Int32 × Mem)} {k61 : Int32 → Int32 → Int32 → Int32 → Int32 → Int32 → Mem → Option (Int32 × Mem)} (hk44 : ∀ (x1 : Int32) (x2 : Int32) (x3 : Int32) (x4 : Int32) (x5 : Int32) (M : Mem), k44 x1 x2 x3 x4 x5 M = some R → V E G 44 [some (.ref 59), some (.int x1), some (.int x2), some (.int x3), some (.int x4), some (.int x5), none, none] [] M) (hk61 : ∀ (x1 : Int32) (x2 : Int32) (x3 : Int32) (x4 : Int32) (x5 : Int32) (x6 : Int32) (M : Mem), k61 x1 x2 x3 x4 x5 x6 M = some R → V E G 61 [some (.ref 59), some (.int x1), some (.int x2), some (.int x3), some (.int x4), some (.int x5), some (.int x6), none] [] M) {x1 : Int32} {x2 : Int32} {x4 : Int32} {x5 : Int32} {x6 : Int32} {x7 : Int32} {t0 : Int32} (h : f_X7_bridge_j139 k44 k61 x1 x2 x4 x5 x6 x7 t0 M = some R) : V E G 139 [some (.ref 59), some (.int x1), some (.int x2), none, some (.int x4), some (.int x5), some (.int x6), some (.int x7)] [.int t0] M := by
  unfold f_X7_bridge_j139 at h
  refine v_istore_3 hG rfl dX7_bridge_139 (q := 140) rfl ?_
  refine v_iload_7 hG dX7_bridge_140 (q := 142) rfl ?_
  refine v_iload_4 hG dX7_bridge_142 (q := 144) rfl ?_
  refine v_icmp_le hG dX7_bridge_144 (tgt := 152) rfl (q := 147) rfl (fun hc => ?_) (fun hc => ?_)
  · replace h := ifp hc h
    refine v_iload_4 hG dX7_bridge_152 (q := 154) rfl ?_
    refine v_istore_4 hG rfl dX7_bridge_154 (q := 156) rfl ?_
    refine v_iinc_6 hG rfl dX7_bridge_156 (congrArg _ ci_1) (q := 159) rfl ?_
    refine v_goto hG dX7_bridge_159 (tgt := 61) rfl ?_
    refine v_drop (n := 7) (L' := [some (.ref 59), some (.int x1), some (.int x2), some (.int t0), some (.int x4), some (.int x5), some (.int (x6 + (1 : Int32))), none]) rfl ?_
    exact hk61 _ _ _ _ _ _ _ h
  · replace h := ifn hc h
    refine v_iload_7 hG dX7_bridge_147 (q := 149) rfl ?_
    refine v_goto hG dX7_bridge_149 (tgt := 154) rfl ?_
    refine v_istore_4 hG rfl dX7_bridge_154 (q := 156) rfl ?_
    refine v_iinc_6 hG rfl dX7_bridge_156 (congrArg _ ci_1) (q := 159) rfl ?_
    refine v_goto hG dX7_bridge_159 (tgt := 61) rfl ?_
    refine v_drop (n := 7) (L' := [some (.ref 59), some (.int x1), some (.int x2), some (.int t0), some (.int x7), some (.int x5), some (.int (x6 + (1 : Int32))), none]) rfl ?_
    exact hk61 _ _ _ _ _ _ _ h
theorem w_X7_bridge_b61 {E : EB} {G : GB} (hG : Gd E mX7_bridge G) {M : Mem} {R : Int32 × Mem} (hR : Rt E mX7_bridge (PI R.1 R.2) G) {k44 : Int32 → Int32 → Int32 → Int32 → Int32 → Mem → Option (Int32 × Mem)} {k61 : Int32 → Int32 → Int32 → Int32 → Int32 → Int32 → Mem → Option (Int32 × Mem)} (hk44 : ∀ (x1 : Int32) (x2 : Int32) (x3 : Int32) (x4 : Int32) (x5 : Int32) (M : Mem), k44 x1 x2 x3 x4 x5 M = some R → V E G 44 [some (.ref 59), some (.int x1), some (.int x2), some (.int x3), some (.int x4), some (.int x5), none, none] [] M) (hk61 : ∀ (x1 : Int32) (x2 : Int32) (x3 : Int32) (x4 : Int32) (x5 : Int32) (x6 : Int32) (M : Mem), k61 x1 x2 x3 x4 x5 x6 M = some R → V E G 61 [some (.ref 59), some (.int x1), some (.int x2), some (.int x3), some (.int x4), some (.int x5), some (.int x6), none] [] M) {x1 : Int32} {x2 : Int32} {x3 : Int32} {x4 : Int32} {x5 : Int32} {x6 : Int32} (h : f_X7_bridge_b61 k44 k61 x1 x2 x3 x4 x5 x6 M = some R) : V E G 61 [some (.ref 59), some (.int x1), some (.int x2), some (.int x3), some (.int x4), some (.int x5), some (.int x6), none] [] M := by
  unfold f_X7_bridge_b61 at h
  refine v_iload_6 hG dX7_bridge_61 (q := 63) rfl ?_
  refine v_aload_0 hG dX7_bridge_63 (q := 64) rfl ?_
  refine gt_RX7_7 hG rfl kk_59 dX7_bridge_64 (q := 67) rfl ?_
  refine v_iconst hG ci_1 dX7_bridge_67 (q := 68) rfl ?_
  obtain ⟨c_10, h⟩ := ck_some h
  refine v_iald hG kk_60 rfl c_10 dX7_bridge_68 (q := 69) rfl ?_
  refine v_icmp_ge hG dX7_bridge_69 (tgt := 162) rfl (q := 72) rfl (fun hc => ?_) (fun hc => ?_)
  · replace h := ifp hc h
    refine v_iinc_5 hG rfl dX7_bridge_162 (congrArg _ ci_1) (q := 165) rfl ?_
    refine v_goto hG dX7_bridge_165 (tgt := 44) rfl ?_
    refine v_drop (n := 6) (L' := [some (.ref 59), some (.int x1), some (.int x2), some (.int x3), some (.int x4), some (.int (x5 + (1 : Int32))), none, none]) rfl ?_
    exact hk44 _ _ _ _ _ _ h
  · replace h := ifn hc h
    refine v_aload_0 hG dX7_bridge_72 (q := 73) rfl ?_
    refine gt_RX7_7 hG rfl kk_59 dX7_bridge_73 (q := 76) rfl ?_
    refine v_bipush hG cb_81 dX7_bridge_76 (q := 78) rfl ?_
    refine v_iload_5 hG dX7_bridge_78 (q := 80) rfl ?_
    refine v_iadd hG dX7_bridge_80 (q := 81) rfl ?_
    obtain ⟨c_11, h⟩ := ck_some h
    refine v_iald hG kk_60 rfl c_11 dX7_bridge_81 (q := 82) rfl ?_
    refine v_iload_6 hG dX7_bridge_82 (q := 84) rfl ?_
    obtain ⟨r_12, hr_12, h⟩ := bnd h
    refine v_cS2I hG csX7_has ml_RX7_110 rfl (w_X7_has hr_12) (Nat.le_of_ble_eq_true rfl) dX7_bridge_84 (q := 87) rfl ?_
    refine v_if_ne hG dX7_bridge_87 (tgt := 156) rfl (q := 90) rfl (fun hc => ?_) (fun hc => ?_)
    · replace h := ifn hc h
      refine v_iinc_6 hG rfl dX7_bridge_156 (congrArg _ ci_1) (q := 159) rfl ?_
      refine v_goto hG dX7_bridge_159 (tgt := 61) rfl ?_
      exact hk61 _ _ _ _ _ _ _ h
    · replace h := ifp hc h
      refine v_aload_0 hG dX7_bridge_90 (q := 91) rfl ?_
      refine v_iload_5 hG dX7_bridge_91 (q := 93) rfl ?_
      refine v_iload_6 hG dX7_bridge_93 (q := 95) rfl ?_
      refine v_iconst hG ci_1 dX7_bridge_95 (q := 96) rfl ?_
      obtain ⟨r_13, hr_13, h⟩ := bnd h
      refine v_cV3V hG cvX7_joins ml_RX7_113 rfl kk_59 (w_X7_joins hr_13) (Nat.le_of_ble_eq_true rfl) dX7_bridge_96 (q := 99) rfl ?_
      refine v_aload_0 hG dX7_bridge_99 (q := 100) rfl ?_
      refine v_iconst hG ci_m1 dX7_bridge_100 (q := 101) rfl ?_
      refine v_iload_1 hG dX7_bridge_101 (q := 102) rfl ?_
      refine v_iload_2 hG dX7_bridge_102 (q := 103) rfl ?_
      obtain ⟨r_14, hr_14, h⟩ := bnd h
      refine v_cV3I hG cvX7_believers ml_RX7_196 rfl kk_59 (w_X7_believers hr_14) (Nat.le_of_ble_eq_true rfl) dX7_bridge_103 (q := 106) rfl ?_
      obtain ⟨r_15, hr_15, h⟩ := bnd h
      refine v_cS1I hG csX7_ones ml_RX7_162 rfl (w_X7_ones hr_15) (Nat.le_of_ble_eq_true rfl) dX7_bridge_106 (q := 109) rfl ?_
      refine v_istore_7 hG rfl dX7_bridge_109 (q := 111) rfl ?_
      refine v_aload_0 hG dX7_bridge_111 (q := 112) rfl ?_
      refine v_iload_5 hG dX7_bridge_112 (q := 114) rfl ?_
      refine v_iload_6 hG dX7_bridge_114 (q := 116) rfl ?_
      refine v_iconst hG ci_0 dX7_bridge_116 (q := 117) rfl ?_
      obtain ⟨r_16, hr_16, h⟩ := bnd h
      refine v_cV3V hG cvX7_joins ml_RX7_113 rfl kk_59 (w_X7_joins hr_16) (Nat.le_of_ble_eq_true rfl) dX7_bridge_117 (q := 120) rfl ?_
      refine v_iload_7 hG dX7_bridge_120 (q := 122) rfl ?_
      refine v_iload_4 hG dX7_bridge_122 (q := 124) rfl ?_
      refine v_icmp_le hG dX7_bridge_124 (tgt := 138) rfl (q := 127) rfl (fun hc => ?_) (fun hc => ?_)
      · replace h := ifp hc h
        refine v_iload_3 hG dX7_bridge_138 (q := 139) rfl ?_
        refine v_drop (n := 3) (L' := [some (.ref 59), some (.int x1), some (.int x2), none, some (.int x4), some (.int x5), some (.int x6), some (.int r_15)]) rfl ?_
        exact w_X7_bridge_j139 hG hR hk44 hk61 h
      · replace h := ifn hc h
        refine v_bipush hG cb_10 dX7_bridge_127 (q := 129) rfl ?_
        refine v_iload_5 hG dX7_bridge_129 (q := 131) rfl ?_
        refine v_imul hG dX7_bridge_131 (q := 132) rfl ?_
        refine v_iload_6 hG dX7_bridge_132 (q := 134) rfl ?_
        refine v_iadd hG dX7_bridge_134 (q := 135) rfl ?_
        refine v_goto hG dX7_bridge_135 (tgt := 139) rfl ?_
        refine v_drop (n := 3) (L' := [some (.ref 59), some (.int x1), some (.int x2), none, some (.int x4), some (.int x5), some (.int x6), some (.int r_15)]) rfl ?_
        exact w_X7_bridge_j139 hG hR hk44 hk61 h
theorem w_X7_bridge_l61 {E : EB} {G : GB} (hG : Gd E mX7_bridge G) {R : Int32 × Mem} (hR : Rt E mX7_bridge (PI R.1 R.2) G) {k44 : Int32 → Int32 → Int32 → Int32 → Int32 → Mem → Option (Int32 × Mem)} (hk44 : ∀ (x1 : Int32) (x2 : Int32) (x3 : Int32) (x4 : Int32) (x5 : Int32) (M : Mem), k44 x1 x2 x3 x4 x5 M = some R → V E G 44 [some (.ref 59), some (.int x1), some (.int x2), some (.int x3), some (.int x4), some (.int x5), none, none] [] M) : ∀ (n : Nat) (x1 : Int32) (x2 : Int32) (x3 : Int32) (x4 : Int32) (x5 : Int32) (x6 : Int32) (M : Mem), f_X7_bridge_l61 k44 n x1 x2 x3 x4 x5 x6 M = some R → V E G 61 [some (.ref 59), some (.int x1), some (.int x2), some (.int x3), some (.int x4), some (.int x5), some (.int x6), none] [] M := by
  intro n
  induction n with
  | zero => intro x1 x2 x3 x4 x5 x6 M h; cases h
  | succ n ih => intro x1 x2 x3 x4 x5 x6 M h; exact w_X7_bridge_b61 hG hR hk44 ih h
theorem w_X7_bridge_b44 {E : EB} {G : GB} (hG : Gd E mX7_bridge G) {M : Mem} {R : Int32 × Mem} (hR : Rt E mX7_bridge (PI R.1 R.2) G) {k44 : Int32 → Int32 → Int32 → Int32 → Int32 → Mem → Option (Int32 × Mem)} (hk44 : ∀ (x1 : Int32) (x2 : Int32) (x3 : Int32) (x4 : Int32) (x5 : Int32) (M : Mem), k44 x1 x2 x3 x4 x5 M = some R → V E G 44 [some (.ref 59), some (.int x1), some (.int x2), some (.int x3), some (.int x4), some (.int x5), none, none] [] M) {x1 : Int32} {x2 : Int32} {x3 : Int32} {x4 : Int32} {x5 : Int32} (h : f_X7_bridge_b44 k44 x1 x2 x3 x4 x5 M = some R) : V E G 44 [some (.ref 59), some (.int x1), some (.int x2), some (.int x3), some (.int x4), some (.int x5), none, none] [] M := by
  unfold f_X7_bridge_b44 at h
  refine v_iload_5 hG dX7_bridge_44 (q := 46) rfl ?_
  refine v_aload_0 hG dX7_bridge_46 (q := 47) rfl ?_
  refine gt_RX7_7 hG rfl kk_59 dX7_bridge_47 (q := 50) rfl ?_
  refine v_iconst hG ci_1 dX7_bridge_50 (q := 51) rfl ?_
  obtain ⟨c_7, h⟩ := ck_some h
  refine v_iald hG kk_60 rfl c_7 dX7_bridge_51 (q := 52) rfl ?_
  refine v_icmp_ge hG dX7_bridge_52 (tgt := 168) rfl (q := 55) rfl (fun hc => ?_) (fun hc => ?_)
  · replace h := ifp hc h
    refine v_iload_3 hG dX7_bridge_168 (q := 169) rfl ?_
    refine v_if_ge hG dX7_bridge_169 (tgt := 181) rfl (q := 172) rfl (fun hc => ?_) (fun hc => ?_)
    · replace h := ifp hc h
      refine v_iload_3 hG dX7_bridge_181 (q := 182) rfl ?_
      exact v_iret hG hR rfl rfl (sp2t h) dX7_bridge_182
    · replace h := ifn hc h
      refine v_aload_0 hG dX7_bridge_172 (q := 173) rfl ?_
      refine v_ldc hG kc_RX7_195 dX7_bridge_173 (q := 175) rfl ?_
      obtain ⟨r_8, hr_8, h⟩ := bnd h
      refine v_cV1I hG cvX7_finds ml_RX7_68 rfl kk_59 (w_X7_finds hr_8) (Nat.le_of_ble_eq_true rfl) dX7_bridge_175 (q := 178) rfl ?_
      refine v_goto hG dX7_bridge_178 (tgt := 182) rfl ?_
      exact v_iret hG hR rfl rfl (sp2t h) dX7_bridge_182
  · replace h := ifn hc h
    refine v_iload_5 hG dX7_bridge_55 (q := 57) rfl ?_
    refine v_iconst hG ci_1 dX7_bridge_57 (q := 58) rfl ?_
    refine v_iadd hG dX7_bridge_58 (q := 59) rfl ?_
    refine v_topi (fun x6_9 hy => ?_)
    replace h := letv_at hy h
    clear hy
    refine v_istore_6 hG rfl dX7_bridge_59 (q := 61) rfl ?_
    exact w_X7_bridge_l61 hG hR hk44 FU _ _ _ _ _ _ _ h
theorem w_X7_bridge_l44 {E : EB} {G : GB} (hG : Gd E mX7_bridge G) {R : Int32 × Mem} (hR : Rt E mX7_bridge (PI R.1 R.2) G) : ∀ (n : Nat) (x1 : Int32) (x2 : Int32) (x3 : Int32) (x4 : Int32) (x5 : Int32) (M : Mem), f_X7_bridge_l44 n x1 x2 x3 x4 x5 M = some R → V E G 44 [some (.ref 59), some (.int x1), some (.int x2), some (.int x3), some (.int x4), some (.int x5), none, none] [] M := by
  intro n
  induction n with
  | zero => intro x1 x2 x3 x4 x5 M h; cases h
  | succ n ih => intro x1 x2 x3 x4 x5 M h; exact w_X7_bridge_b44 hG hR ih h
theorem w_X7_bridge {E : EB} {x1 : Int32} {x2 : Int32} {M : Mem} {R : Int32 × Mem} (h : f_X7_bridge x1 x2 M = some R) : Mt E mX7_bridge [.ref 59, .int x1, .int x2] M (PI R.1 R.2) := by
  refine mt_of (L0 := [some (.ref 59), some (.int x1), some (.int x2), none, none, none, none, none]) (by decide) rfl rfl (fun G hG hR => ?_)
  unfold f_X7_bridge at h
  refine v_iload_1 hG dX7_bridge_0 (q := 1) rfl ?_
  obtain ⟨r_1, hr_1, h⟩ := bnd h
  refine v_cS1I hG csX7_isMark ml_RX7_172 rfl (w_X7_isMark hr_1) (Nat.le_of_ble_eq_true rfl) dX7_bridge_1 (q := 4) rfl ?_
  refine v_if_eq hG dX7_bridge_4 (tgt := 14) rfl (q := 7) rfl (fun hc => ?_) (fun hc => ?_)
  · replace h := ifp hc h
    refine v_aload_0 hG dX7_bridge_14 (q := 15) rfl ?_
    refine v_ldc hG kc_RX7_40 dX7_bridge_15 (q := 17) rfl ?_
    obtain ⟨r_2, hr_2, h⟩ := bnd h
    refine v_cV1I hG cvX7_finds ml_RX7_68 rfl kk_59 (w_X7_finds hr_2) (Nat.le_of_ble_eq_true rfl) dX7_bridge_17 (q := 20) rfl ?_
    exact v_iret hG hR rfl rfl (sp2t h) dX7_bridge_20
  · replace h := ifn hc h
    refine v_iload_2 hG dX7_bridge_7 (q := 8) rfl ?_
    obtain ⟨r_3, hr_3, h⟩ := bnd h
    refine v_cS1I hG csX7_isSpan ml_RX7_180 rfl (w_X7_isSpan hr_3) (Nat.le_of_ble_eq_true rfl) dX7_bridge_8 (q := 11) rfl ?_
    refine v_if_ne hG dX7_bridge_11 (tgt := 21) rfl (q := 14) rfl (fun hc => ?_) (fun hc => ?_)
    · replace h := ifn hc h
      refine v_aload_0 hG dX7_bridge_21 (q := 22) rfl ?_
      refine v_iload_2 hG dX7_bridge_22 (q := 23) rfl ?_
      obtain ⟨r_4, hr_4, h⟩ := bnd h
      refine v_cV1I hG cvX7_isTooLate ml_RX7_156 rfl kk_59 (w_X7_isTooLate hr_4) (Nat.le_of_ble_eq_true rfl) dX7_bridge_23 (q := 26) rfl ?_
      refine v_if_eq hG dX7_bridge_26 (tgt := 36) rfl (q := 29) rfl (fun hc => ?_) (fun hc => ?_)
      · replace h := ifp hc h
        refine v_iconst hG ci_m1 dX7_bridge_36 (q := 37) rfl ?_
        refine v_istore_3 hG rfl dX7_bridge_37 (q := 38) rfl ?_
        refine v_iconst hG ci_m1 dX7_bridge_38 (q := 39) rfl ?_
        refine v_istore_4 hG rfl dX7_bridge_39 (q := 41) rfl ?_
        refine v_iconst hG ci_0 dX7_bridge_41 (q := 42) rfl ?_
        refine v_istore_5 hG rfl dX7_bridge_42 (q := 44) rfl ?_
        exact w_X7_bridge_l44 hG hR FU _ _ _ _ _ _ h
      · replace h := ifn hc h
        refine v_aload_0 hG dX7_bridge_29 (q := 30) rfl ?_
        refine v_ldc hG kc_RX7_150 dX7_bridge_30 (q := 32) rfl ?_
        obtain ⟨r_5, hr_5, h⟩ := bnd h
        refine v_cV1I hG cvX7_finds ml_RX7_68 rfl kk_59 (w_X7_finds hr_5) (Nat.le_of_ble_eq_true rfl) dX7_bridge_32 (q := 35) rfl ?_
        exact v_iret hG hR rfl rfl (sp2t h) dX7_bridge_35
    · replace h := ifp hc h
      refine v_aload_0 hG dX7_bridge_14 (q := 15) rfl ?_
      refine v_ldc hG kc_RX7_40 dX7_bridge_15 (q := 17) rfl ?_
      obtain ⟨r_6, hr_6, h⟩ := bnd h
      refine v_cV1I hG cvX7_finds ml_RX7_68 rfl kk_59 (w_X7_finds hr_6) (Nat.le_of_ble_eq_true rfl) dX7_bridge_17 (q := 20) rfl ?_
      exact v_iret hG hR rfl rfl (sp2t h) dX7_bridge_20
theorem cvX7_bridge : CVo mX7_bridge 2 7 := ⟨moX7_bridge, mvX7_bridge, by decide, _, _, rfl⟩
theorem w_X7_findSaid_j67 {E : EB} {G : GB} (hG : Gd E mX7_findSaid G) {M : Mem} {R : Mem} (hR : Rt E mX7_findSaid (PV R) G) {k31 : Int32 → Int32 → Int32 → Int32 → Mem → Option (Mem)} (hk31 : ∀ (x1 : Int32) (x2 : Int32) (x3 : Int32) (x4 : Int32) (M : Mem), k31 x1 x2 x3 x4 M = some R → V E G 31 [some (.ref 59), some (.int x1), some (.int x2), some (.int x3), some (.int x4), none] [] M) {x1 : Int32} {x2 : Int32} {x3 : Int32} {x4 : Int32} {t1 : Int32} (h : f_X7_findSaid_j67 k31 x1 x2 x3 x4 t1 M = some R) : V E G 67 [some (.ref 59), some (.int x1), some (.int x2), some (.int x3), some (.int x4), none] [.int t1, .ref 59] M := by
  unfold f_X7_findSaid_j67 at h
  refine pt_RX7_202 hG rfl kk_59 dX7_findSaid_67 (q := 70) rfl ?_
  refine v_topM (fun M_7 hy => ?_)
  replace h := letv_at hy h
  clear hy
  refine v_aload_0 hG dX7_findSaid_70 (q := 71) rfl ?_
  refine v_dup hG rfl dX7_findSaid_71 (q := 72) rfl ?_
  refine gt_RX7_199 hG rfl kk_59 dX7_findSaid_72 (q := 75) rfl ?_
  refine v_iconst hG ci_1 dX7_findSaid_75 (q := 76) rfl ?_
  refine v_iadd hG dX7_findSaid_76 (q := 77) rfl ?_
  refine pt_RX7_199 hG rfl kk_59 dX7_findSaid_77 (q := 80) rfl ?_
  refine v_topM (fun M_8 hy => ?_)
  replace h := letv_at hy h
  clear hy
  refine v_aload_0 hG dX7_findSaid_80 (q := 81) rfl ?_
  refine v_dup hG rfl dX7_findSaid_81 (q := 82) rfl ?_
  refine gt_RX7_205 hG rfl kk_59 dX7_findSaid_82 (q := 85) rfl ?_
  refine v_iload_4 hG dX7_findSaid_85 (q := 87) rfl ?_
  refine v_iand hG dX7_findSaid_87 (q := 88) rfl ?_
  refine pt_RX7_205 hG rfl kk_59 dX7_findSaid_88 (q := 91) rfl ?_
  refine v_topM (fun M_9 hy => ?_)
  replace h := letv_at hy h
  clear hy
  refine v_aload_0 hG dX7_findSaid_91 (q := 92) rfl ?_
  refine v_dup hG rfl dX7_findSaid_92 (q := 93) rfl ?_
  refine gt_RX7_208 hG rfl kk_59 dX7_findSaid_93 (q := 96) rfl ?_
  refine v_iload_4 hG dX7_findSaid_96 (q := 98) rfl ?_
  refine v_ior hG dX7_findSaid_98 (q := 99) rfl ?_
  refine pt_RX7_208 hG rfl kk_59 dX7_findSaid_99 (q := 102) rfl ?_
  refine v_topM (fun M_10 hy => ?_)
  replace h := letv_at hy h
  clear hy
  refine v_iload_4 hG dX7_findSaid_102 (q := 104) rfl ?_
  refine v_iload_3 hG dX7_findSaid_104 (q := 105) rfl ?_
  refine v_ixor hG dX7_findSaid_105 (q := 106) rfl ?_
  obtain ⟨r_11, hr_11, h⟩ := bnd h
  refine v_cS1I hG csX7_ones ml_RX7_162 rfl (w_X7_ones hr_11) (Nat.le_of_ble_eq_true rfl) dX7_findSaid_106 (q := 109) rfl ?_
  refine v_istore_5 hG rfl dX7_findSaid_109 (q := 111) rfl ?_
  refine v_aload_0 hG dX7_findSaid_111 (q := 112) rfl ?_
  refine v_iload_5 hG dX7_findSaid_112 (q := 114) rfl ?_
  refine v_aload_0 hG dX7_findSaid_114 (q := 115) rfl ?_
  refine gt_RX7_211 hG rfl kk_59 dX7_findSaid_115 (q := 118) rfl ?_
  refine v_icmp_ge hG dX7_findSaid_118 (tgt := 126) rfl (q := 121) rfl (fun hc => ?_) (fun hc => ?_)
  · replace h := ifp hc h
    refine v_aload_0 hG dX7_findSaid_126 (q := 127) rfl ?_
    refine gt_RX7_211 hG rfl kk_59 dX7_findSaid_127 (q := 130) rfl ?_
    refine pt_RX7_211 hG rfl kk_59 dX7_findSaid_130 (q := 133) rfl ?_
    refine v_topM (fun M_12 hy => ?_)
    replace h := letv_at hy h
    clear hy
    refine v_iinc_4 hG rfl dX7_findSaid_133 (congrArg _ ci_1) (q := 136) rfl ?_
    refine v_goto hG dX7_findSaid_136 (tgt := 31) rfl ?_
    refine v_drop (n := 5) (L' := [some (.ref 59), some (.int x1), some (.int x2), some (.int x3), some (.int (x4 + (1 : Int32))), none]) rfl ?_
    exact hk31 _ _ _ _ _ h
  · replace h := ifn hc h
    refine v_iload_5 hG dX7_findSaid_121 (q := 123) rfl ?_
    refine v_goto hG dX7_findSaid_123 (tgt := 130) rfl ?_
    refine pt_RX7_211 hG rfl kk_59 dX7_findSaid_130 (q := 133) rfl ?_
    refine v_topM (fun M_13 hy => ?_)
    replace h := letv_at hy h
    clear hy
    refine v_iinc_4 hG rfl dX7_findSaid_133 (congrArg _ ci_1) (q := 136) rfl ?_
    refine v_goto hG dX7_findSaid_136 (tgt := 31) rfl ?_
    refine v_drop (n := 5) (L' := [some (.ref 59), some (.int x1), some (.int x2), some (.int x3), some (.int (x4 + (1 : Int32))), none]) rfl ?_
    exact hk31 _ _ _ _ _ h
theorem w_X7_findSaid_b31 {E : EB} {G : GB} (hG : Gd E mX7_findSaid G) {M : Mem} {R : Mem} (hR : Rt E mX7_findSaid (PV R) G) {k31 : Int32 → Int32 → Int32 → Int32 → Mem → Option (Mem)} (hk31 : ∀ (x1 : Int32) (x2 : Int32) (x3 : Int32) (x4 : Int32) (M : Mem), k31 x1 x2 x3 x4 M = some R → V E G 31 [some (.ref 59), some (.int x1), some (.int x2), some (.int x3), some (.int x4), none] [] M) {x1 : Int32} {x2 : Int32} {x3 : Int32} {x4 : Int32} (h : f_X7_findSaid_b31 k31 x1 x2 x3 x4 M = some R) : V E G 31 [some (.ref 59), some (.int x1), some (.int x2), some (.int x3), some (.int x4), none] [] M := by
  unfold f_X7_findSaid_b31 at h
  refine v_iload_4 hG dX7_findSaid_31 (q := 33) rfl ?_
  refine v_sipush hG cs_4096 dX7_findSaid_33 (q := 36) rfl ?_
  refine v_icmp_ge hG dX7_findSaid_36 (tgt := 139) rfl (q := 39) rfl (fun hc => ?_) (fun hc => ?_)
  · replace h := ifp hc h
    exact v_vret hG hR rfl (spv h) dX7_findSaid_139
  · replace h := ifn hc h
    refine v_aload_0 hG dX7_findSaid_39 (q := 40) rfl ?_
    refine v_iload_1 hG dX7_findSaid_40 (q := 41) rfl ?_
    refine v_iload_4 hG dX7_findSaid_41 (q := 43) rfl ?_
    obtain ⟨r_6, hr_6, h⟩ := bnd h
    refine v_cV2I hG cvX7_putBy ml_RX7_126 rfl kk_59 (w_X7_putBy hr_6) (Nat.le_of_ble_eq_true rfl) dX7_findSaid_43 (q := 46) rfl ?_
    refine v_iload_2 hG dX7_findSaid_46 (q := 47) rfl ?_
    refine v_icmp_ne hG dX7_findSaid_47 (tgt := 133) rfl (q := 50) rfl (fun hc => ?_) (fun hc => ?_)
    · replace h := ifn hc h
      refine v_iinc_4 hG rfl dX7_findSaid_133 (congrArg _ ci_1) (q := 136) rfl ?_
      refine v_goto hG dX7_findSaid_136 (tgt := 31) rfl ?_
      exact hk31 _ _ _ _ _ h
    · replace h := ifp hc h
      refine v_aload_0 hG dX7_findSaid_50 (q := 51) rfl ?_
      refine v_aload_0 hG dX7_findSaid_51 (q := 52) rfl ?_
      refine gt_RX7_199 hG rfl kk_59 dX7_findSaid_52 (q := 55) rfl ?_
      refine v_if_ne hG dX7_findSaid_55 (tgt := 63) rfl (q := 58) rfl (fun hc => ?_) (fun hc => ?_)
      · replace h := ifn hc h
        refine v_aload_0 hG dX7_findSaid_63 (q := 64) rfl ?_
        refine gt_RX7_202 hG rfl kk_59 dX7_findSaid_64 (q := 67) rfl ?_
        exact w_X7_findSaid_j67 hG hR hk31 h
      · replace h := ifp hc h
        refine v_iload_4 hG dX7_findSaid_58 (q := 60) rfl ?_
        refine v_goto hG dX7_findSaid_60 (tgt := 67) rfl ?_
        exact w_X7_findSaid_j67 hG hR hk31 h
theorem w_X7_findSaid_l31 {E : EB} {G : GB} (hG : Gd E mX7_findSaid G) {R : Mem} (hR : Rt E mX7_findSaid (PV R) G) : ∀ (n : Nat) (x1 : Int32) (x2 : Int32) (x3 : Int32) (x4 : Int32) (M : Mem), f_X7_findSaid_l31 n x1 x2 x3 x4 M = some R → V E G 31 [some (.ref 59), some (.int x1), some (.int x2), some (.int x3), some (.int x4), none] [] M := by
  intro n
  induction n with
  | zero => intro x1 x2 x3 x4 M h; cases h
  | succ n ih => intro x1 x2 x3 x4 M h; exact w_X7_findSaid_b31 hG hR ih h
theorem w_X7_findSaid {E : EB} {x1 : Int32} {x2 : Int32} {x3 : Int32} {M : Mem} {R : Mem} (h : f_X7_findSaid x1 x2 x3 M = some R) : Mt E mX7_findSaid [.ref 59, .int x1, .int x2, .int x3] M (PV R) := by
  refine mt_of (L0 := [some (.ref 59), some (.int x1), some (.int x2), some (.int x3), none, none]) (by decide) rfl rfl (fun G hG hR => ?_)
  unfold f_X7_findSaid at h
  refine v_aload_0 hG dX7_findSaid_0 (q := 1) rfl ?_
  refine v_iconst hG ci_0 dX7_findSaid_1 (q := 2) rfl ?_
  refine pt_RX7_199 hG rfl kk_59 dX7_findSaid_2 (q := 5) rfl ?_
  refine v_topM (fun M_1 hy => ?_)
  replace h := letv_at hy h
  clear hy
  refine v_aload_0 hG dX7_findSaid_5 (q := 6) rfl ?_
  refine v_iconst hG ci_m1 dX7_findSaid_6 (q := 7) rfl ?_
  refine pt_RX7_202 hG rfl kk_59 dX7_findSaid_7 (q := 10) rfl ?_
  refine v_topM (fun M_2 hy => ?_)
  replace h := letv_at hy h
  clear hy
  refine v_aload_0 hG dX7_findSaid_10 (q := 11) rfl ?_
  refine v_sipush hG cs_4095 dX7_findSaid_11 (q := 14) rfl ?_
  refine pt_RX7_205 hG rfl kk_59 dX7_findSaid_14 (q := 17) rfl ?_
  refine v_topM (fun M_3 hy => ?_)
  replace h := letv_at hy h
  clear hy
  refine v_aload_0 hG dX7_findSaid_17 (q := 18) rfl ?_
  refine v_iconst hG ci_0 dX7_findSaid_18 (q := 19) rfl ?_
  refine pt_RX7_208 hG rfl kk_59 dX7_findSaid_19 (q := 22) rfl ?_
  refine v_topM (fun M_4 hy => ?_)
  replace h := letv_at hy h
  clear hy
  refine v_aload_0 hG dX7_findSaid_22 (q := 23) rfl ?_
  refine v_bipush hG cb_99 dX7_findSaid_23 (q := 25) rfl ?_
  refine pt_RX7_211 hG rfl kk_59 dX7_findSaid_25 (q := 28) rfl ?_
  refine v_topM (fun M_5 hy => ?_)
  replace h := letv_at hy h
  clear hy
  refine v_iconst hG ci_0 dX7_findSaid_28 (q := 29) rfl ?_
  refine v_istore_4 hG rfl dX7_findSaid_29 (q := 31) rfl ?_
  exact w_X7_findSaid_l31 hG hR FU _ _ _ _ _ h
theorem cvX7_findSaid : CVo mX7_findSaid 3 7 := ⟨moX7_findSaid, mvX7_findSaid, by decide, _, _, rfl⟩
theorem w_X7_many {E : EB} {x1 : Int32} {x2 : Int32} {M : Mem} {R : Int32 × Mem} (h : f_X7_many x1 x2 M = some R) : Mt E mX7_many [.ref 59, .int x1, .int x2] M (PI R.1 R.2) := by
  refine mt_of (L0 := [some (.ref 59), some (.int x1), some (.int x2)]) (by decide) rfl rfl (fun G hG hR => ?_)
  unfold f_X7_many at h
  refine v_aload_0 hG dX7_many_0 (q := 1) rfl ?_
  refine v_iload_1 hG dX7_many_1 (q := 2) rfl ?_
  obtain ⟨r_1, hr_1, h⟩ := bnd h
  refine v_cV1I hG cvX7_isWriter ml_RX7_76 rfl kk_59 (w_X7_isWriter hr_1) (Nat.le_of_ble_eq_true rfl) dX7_many_2 (q := 5) rfl ?_
  refine v_if_eq hG dX7_many_5 (tgt := 15) rfl (q := 8) rfl (fun hc => ?_) (fun hc => ?_)
  · replace h := ifp hc h
    refine v_aload_0 hG dX7_many_15 (q := 16) rfl ?_
    refine v_ldc hG kc_RX7_40 dX7_many_16 (q := 18) rfl ?_
    obtain ⟨r_2, hr_2, h⟩ := bnd h
    refine v_cV1I hG cvX7_finds ml_RX7_68 rfl kk_59 (w_X7_finds hr_2) (Nat.le_of_ble_eq_true rfl) dX7_many_18 (q := 21) rfl ?_
    exact v_iret hG hR rfl rfl (sp2t h) dX7_many_21
  · replace h := ifn hc h
    refine v_iload_2 hG dX7_many_8 (q := 9) rfl ?_
    obtain ⟨r_3, hr_3, h⟩ := bnd h
    refine v_cS1I hG csX7_isSaying ml_RX7_60 rfl (w_X7_isSaying hr_3) (Nat.le_of_ble_eq_true rfl) dX7_many_9 (q := 12) rfl ?_
    refine v_if_ne hG dX7_many_12 (tgt := 22) rfl (q := 15) rfl (fun hc => ?_) (fun hc => ?_)
    · replace h := ifn hc h
      refine v_aload_0 hG dX7_many_22 (q := 23) rfl ?_
      refine v_iload_1 hG dX7_many_23 (q := 24) rfl ?_
      refine v_iload_2 hG dX7_many_24 (q := 25) rfl ?_
      refine v_iconst hG ci_0 dX7_many_25 (q := 26) rfl ?_
      obtain ⟨r_4, hr_4, h⟩ := bnd h
      refine v_cV3V hG cvX7_findSaid ml_RX7_214 rfl kk_59 (w_X7_findSaid hr_4) (Nat.le_of_ble_eq_true rfl) dX7_many_26 (q := 29) rfl ?_
      refine v_aload_0 hG dX7_many_29 (q := 30) rfl ?_
      refine gt_RX7_199 hG rfl kk_59 dX7_many_30 (q := 33) rfl ?_
      exact v_iret hG hR rfl rfl (sp2t h) dX7_many_33
    · replace h := ifp hc h
      refine v_aload_0 hG dX7_many_15 (q := 16) rfl ?_
      refine v_ldc hG kc_RX7_40 dX7_many_16 (q := 18) rfl ?_
      obtain ⟨r_5, hr_5, h⟩ := bnd h
      refine v_cV1I hG cvX7_finds ml_RX7_68 rfl kk_59 (w_X7_finds hr_5) (Nat.le_of_ble_eq_true rfl) dX7_many_18 (q := 21) rfl ?_
      exact v_iret hG hR rfl rfl (sp2t h) dX7_many_21
theorem cvX7_many : CVo mX7_many 2 7 := ⟨moX7_many, mvX7_many, by decide, _, _, rfl⟩
theorem w_X7_said {E : EB} {x1 : Int32} {x2 : Int32} {x3 : Int32} {M : Mem} {R : Int32 × Mem} (h : f_X7_said x1 x2 x3 M = some R) : Mt E mX7_said [.ref 59, .int x1, .int x2, .int x3] M (PI R.1 R.2) := by
  refine mt_of (L0 := [some (.ref 59), some (.int x1), some (.int x2), some (.int x3)]) (by decide) rfl rfl (fun G hG hR => ?_)
  unfold f_X7_said at h
  refine v_aload_0 hG dX7_said_0 (q := 1) rfl ?_
  refine v_iload_1 hG dX7_said_1 (q := 2) rfl ?_
  obtain ⟨r_1, hr_1, h⟩ := bnd h
  refine v_cV1I hG cvX7_isWriter ml_RX7_76 rfl kk_59 (w_X7_isWriter hr_1) (Nat.le_of_ble_eq_true rfl) dX7_said_2 (q := 5) rfl ?_
  refine v_if_eq hG dX7_said_5 (tgt := 27) rfl (q := 8) rfl (fun hc => ?_) (fun hc => ?_)
  · replace h := ifp hc h
    refine v_aload_0 hG dX7_said_27 (q := 28) rfl ?_
    refine v_ldc hG kc_RX7_40 dX7_said_28 (q := 30) rfl ?_
    obtain ⟨r_2, hr_2, h⟩ := bnd h
    refine v_cV1I hG cvX7_finds ml_RX7_68 rfl kk_59 (w_X7_finds hr_2) (Nat.le_of_ble_eq_true rfl) dX7_said_30 (q := 33) rfl ?_
    exact v_iret hG hR rfl rfl (sp2t h) dX7_said_33
  · replace h := ifn hc h
    refine v_iload_2 hG dX7_said_8 (q := 9) rfl ?_
    obtain ⟨r_3, hr_3, h⟩ := bnd h
    refine v_cS1I hG csX7_isSaying ml_RX7_60 rfl (w_X7_isSaying hr_3) (Nat.le_of_ble_eq_true rfl) dX7_said_9 (q := 12) rfl ?_
    refine v_if_eq hG dX7_said_12 (tgt := 27) rfl (q := 15) rfl (fun hc => ?_) (fun hc => ?_)
    · replace h := ifp hc h
      refine v_aload_0 hG dX7_said_27 (q := 28) rfl ?_
      refine v_ldc hG kc_RX7_40 dX7_said_28 (q := 30) rfl ?_
      obtain ⟨r_4, hr_4, h⟩ := bnd h
      refine v_cV1I hG cvX7_finds ml_RX7_68 rfl kk_59 (w_X7_finds hr_4) (Nat.le_of_ble_eq_true rfl) dX7_said_30 (q := 33) rfl ?_
      exact v_iret hG hR rfl rfl (sp2t h) dX7_said_33
    · replace h := ifn hc h
      refine v_iload_3 hG dX7_said_15 (q := 16) rfl ?_
      refine v_i2l hG dX7_said_16 (q := 17) rfl ?_
      refine v_lconst hG cl_0 dX7_said_17 (q := 18) rfl ?_
      refine v_ldc2 hG kl_RX7_218 dX7_said_18 (q := 21) rfl ?_
      obtain ⟨r_5, hr_5, h⟩ := bnd h
      refine v_cS3I hG csX7_in ml_RX7_43 rfl (w_X7_in hr_5) (Nat.le_of_ble_eq_true rfl) dX7_said_21 (q := 24) rfl ?_
      refine v_if_ne hG dX7_said_24 (tgt := 34) rfl (q := 27) rfl (fun hc => ?_) (fun hc => ?_)
      · replace h := ifn hc h
        refine v_aload_0 hG dX7_said_34 (q := 35) rfl ?_
        refine v_iload_1 hG dX7_said_35 (q := 36) rfl ?_
        refine v_iload_2 hG dX7_said_36 (q := 37) rfl ?_
        refine v_iconst hG ci_0 dX7_said_37 (q := 38) rfl ?_
        obtain ⟨r_6, hr_6, h⟩ := bnd h
        refine v_cV3V hG cvX7_findSaid ml_RX7_214 rfl kk_59 (w_X7_findSaid hr_6) (Nat.le_of_ble_eq_true rfl) dX7_said_38 (q := 41) rfl ?_
        refine v_aload_0 hG dX7_said_41 (q := 42) rfl ?_
        refine gt_RX7_199 hG rfl kk_59 dX7_said_42 (q := 45) rfl ?_
        refine v_if_ne hG dX7_said_45 (tgt := 55) rfl (q := 48) rfl (fun hc => ?_) (fun hc => ?_)
        · replace h := ifn hc h
          refine v_iload_3 hG dX7_said_55 (q := 56) rfl ?_
          refine v_if_ne hG dX7_said_56 (tgt := 66) rfl (q := 59) rfl (fun hc => ?_) (fun hc => ?_)
          · replace h := ifn hc h
            refine v_iload_3 hG dX7_said_66 (q := 67) rfl ?_
            refine v_iconst hG ci_1 dX7_said_67 (q := 68) rfl ?_
            refine v_icmp_ne hG dX7_said_68 (tgt := 78) rfl (q := 71) rfl (fun hc => ?_) (fun hc => ?_)
            · replace h := ifn hc h
              refine v_aload_0 hG dX7_said_78 (q := 79) rfl ?_
              refine gt_RX7_208 hG rfl kk_59 dX7_said_79 (q := 82) rfl ?_
              exact v_iret hG hR rfl rfl (sp2t h) dX7_said_82
            · replace h := ifp hc h
              refine v_aload_0 hG dX7_said_71 (q := 72) rfl ?_
              refine gt_RX7_205 hG rfl kk_59 dX7_said_72 (q := 75) rfl ?_
              refine v_goto hG dX7_said_75 (tgt := 82) rfl ?_
              exact v_iret hG hR rfl rfl (sp2t h) dX7_said_82
          · replace h := ifp hc h
            refine v_aload_0 hG dX7_said_59 (q := 60) rfl ?_
            refine gt_RX7_202 hG rfl kk_59 dX7_said_60 (q := 63) rfl ?_
            refine v_goto hG dX7_said_63 (tgt := 82) rfl ?_
            exact v_iret hG hR rfl rfl (sp2t h) dX7_said_82
        · replace h := ifp hc h
          refine v_aload_0 hG dX7_said_48 (q := 49) rfl ?_
          refine v_ldc hG kc_RX7_195 dX7_said_49 (q := 51) rfl ?_
          obtain ⟨r_7, hr_7, h⟩ := bnd h
          refine v_cV1I hG cvX7_finds ml_RX7_68 rfl kk_59 (w_X7_finds hr_7) (Nat.le_of_ble_eq_true rfl) dX7_said_51 (q := 54) rfl ?_
          exact v_iret hG hR rfl rfl (sp2t h) dX7_said_54
      · replace h := ifp hc h
        refine v_aload_0 hG dX7_said_27 (q := 28) rfl ?_
        refine v_ldc hG kc_RX7_40 dX7_said_28 (q := 30) rfl ?_
        obtain ⟨r_8, hr_8, h⟩ := bnd h
        refine v_cV1I hG cvX7_finds ml_RX7_68 rfl kk_59 (w_X7_finds hr_8) (Nat.le_of_ble_eq_true rfl) dX7_said_30 (q := 33) rfl ?_
        exact v_iret hG hR rfl rfl (sp2t h) dX7_said_33
theorem cvX7_said : CVo mX7_said 3 7 := ⟨moX7_said, mvX7_said, by decide, _, _, rfl⟩
theorem w_X7_hands_b18 {E : EB} {G : GB} (hG : Gd E mX7_hands G) {M : Mem} {R : Int32 × Mem} (hR : Rt E mX7_hands (PI R.1 R.2) G) {k18 : Int32 → Int32 → Int32 → Mem → Option (Int32 × Mem)} (hk18 : ∀ (x1 : Int32) (x2 : Int32) (x3 : Int32) (M : Mem), k18 x1 x2 x3 M = some R → V E G 18 [some (.ref 59), some (.int x1), some (.int x2), some (.int x3)] [] M) {x1 : Int32} {x2 : Int32} {x3 : Int32} (h : f_X7_hands_b18 k18 x1 x2 x3 M = some R) : V E G 18 [some (.ref 59), some (.int x1), some (.int x2), some (.int x3)] [] M := by
  unfold f_X7_hands_b18 at h
  refine v_iload_3 hG dX7_hands_18 (q := 19) rfl ?_
  refine v_aload_0 hG dX7_hands_19 (q := 20) rfl ?_
  refine gt_RX7_7 hG rfl kk_59 dX7_hands_20 (q := 23) rfl ?_
  refine v_iconst hG ci_0 dX7_hands_23 (q := 24) rfl ?_
  obtain ⟨c_3, h⟩ := ck_some h
  refine v_iald hG kk_60 rfl c_3 dX7_hands_24 (q := 25) rfl ?_
  refine v_icmp_ge hG dX7_hands_25 (tgt := 58) rfl (q := 28) rfl (fun hc => ?_) (fun hc => ?_)
  · replace h := ifp hc h
    refine v_iload_2 hG dX7_hands_58 (q := 59) rfl ?_
    exact v_iret hG hR rfl rfl (sp2t h) dX7_hands_59
  · replace h := ifn hc h
    refine v_aload_0 hG dX7_hands_28 (q := 29) rfl ?_
    refine v_iload_3 hG dX7_hands_29 (q := 30) rfl ?_
    refine v_iload_1 hG dX7_hands_30 (q := 31) rfl ?_
    refine v_iconst hG ci_0 dX7_hands_31 (q := 32) rfl ?_
    obtain ⟨r_4, hr_4, h⟩ := bnd h
    refine v_cV3V hG cvX7_findSaid ml_RX7_214 rfl kk_59 (w_X7_findSaid hr_4) (Nat.le_of_ble_eq_true rfl) dX7_hands_32 (q := 35) rfl ?_
    refine v_iload_2 hG dX7_hands_35 (q := 36) rfl ?_
    refine v_aload_0 hG dX7_hands_36 (q := 37) rfl ?_
    refine gt_RX7_199 hG rfl kk_59 dX7_hands_37 (q := 40) rfl ?_
    refine v_if_le hG dX7_hands_40 (tgt := 49) rfl (q := 43) rfl (fun hc => ?_) (fun hc => ?_)
    · replace h := ifp hc h
      refine v_iconst hG ci_0 dX7_hands_49 (q := 50) rfl ?_
      refine v_ior hG dX7_hands_50 (q := 51) rfl ?_
      refine v_topi (fun x2_5 hy => ?_)
      replace h := letv_at hy h
      clear hy
      refine v_istore_2 hG rfl dX7_hands_51 (q := 52) rfl ?_
      refine v_iinc_3 hG rfl dX7_hands_52 (congrArg _ ci_1) (q := 55) rfl ?_
      refine v_goto hG dX7_hands_55 (tgt := 18) rfl ?_
      exact hk18 _ _ _ _ h
    · replace h := ifn hc h
      refine v_iconst hG ci_1 dX7_hands_43 (q := 44) rfl ?_
      refine v_iload_3 hG dX7_hands_44 (q := 45) rfl ?_
      refine v_ishl hG dX7_hands_45 (q := 46) rfl ?_
      refine v_goto hG dX7_hands_46 (tgt := 50) rfl ?_
      refine v_ior hG dX7_hands_50 (q := 51) rfl ?_
      refine v_topi (fun x2_6 hy => ?_)
      replace h := letv_at hy h
      clear hy
      refine v_istore_2 hG rfl dX7_hands_51 (q := 52) rfl ?_
      refine v_iinc_3 hG rfl dX7_hands_52 (congrArg _ ci_1) (q := 55) rfl ?_
      refine v_goto hG dX7_hands_55 (tgt := 18) rfl ?_
      exact hk18 _ _ _ _ h
theorem w_X7_hands_l18 {E : EB} {G : GB} (hG : Gd E mX7_hands G) {R : Int32 × Mem} (hR : Rt E mX7_hands (PI R.1 R.2) G) : ∀ (n : Nat) (x1 : Int32) (x2 : Int32) (x3 : Int32) (M : Mem), f_X7_hands_l18 n x1 x2 x3 M = some R → V E G 18 [some (.ref 59), some (.int x1), some (.int x2), some (.int x3)] [] M := by
  intro n
  induction n with
  | zero => intro x1 x2 x3 M h; cases h
  | succ n ih => intro x1 x2 x3 M h; exact w_X7_hands_b18 hG hR ih h
theorem w_X7_hands {E : EB} {x1 : Int32} {M : Mem} {R : Int32 × Mem} (h : f_X7_hands x1 M = some R) : Mt E mX7_hands [.ref 59, .int x1] M (PI R.1 R.2) := by
  refine mt_of (L0 := [some (.ref 59), some (.int x1), none, none]) (by decide) rfl rfl (fun G hG hR => ?_)
  unfold f_X7_hands at h
  refine v_iload_1 hG dX7_hands_0 (q := 1) rfl ?_
  obtain ⟨r_1, hr_1, h⟩ := bnd h
  refine v_cS1I hG csX7_isSaying ml_RX7_60 rfl (w_X7_isSaying hr_1) (Nat.le_of_ble_eq_true rfl) dX7_hands_1 (q := 4) rfl ?_
  refine v_if_ne hG dX7_hands_4 (tgt := 14) rfl (q := 7) rfl (fun hc => ?_) (fun hc => ?_)
  · replace h := ifn hc h
    refine v_iconst hG ci_0 dX7_hands_14 (q := 15) rfl ?_
    refine v_istore_2 hG rfl dX7_hands_15 (q := 16) rfl ?_
    refine v_iconst hG ci_0 dX7_hands_16 (q := 17) rfl ?_
    refine v_istore_3 hG rfl dX7_hands_17 (q := 18) rfl ?_
    exact w_X7_hands_l18 hG hR FU _ _ _ _ h
  · replace h := ifp hc h
    refine v_aload_0 hG dX7_hands_7 (q := 8) rfl ?_
    refine v_ldc hG kc_RX7_40 dX7_hands_8 (q := 10) rfl ?_
    obtain ⟨r_2, hr_2, h⟩ := bnd h
    refine v_cV1I hG cvX7_finds ml_RX7_68 rfl kk_59 (w_X7_finds hr_2) (Nat.le_of_ble_eq_true rfl) dX7_hands_10 (q := 13) rfl ?_
    exact v_iret hG hR rfl rfl (sp2t h) dX7_hands_13
theorem cvX7_hands : CVo mX7_hands 1 7 := ⟨moX7_hands, mvX7_hands, by decide, _, _, rfl⟩
theorem w_X7_likeliest_j54 {E : EB} {G : GB} (hG : Gd E mX7_likeliest G) {M : Mem} {R : Int32 × Mem} (hR : Rt E mX7_likeliest (PI R.1 R.2) G) {k21 : Int32 → Int32 → Int32 → Int32 → Mem → Option (Int32 × Mem)} (hk21 : ∀ (x1 : Int32) (x2 : Int32) (x3 : Int32) (x4 : Int32) (M : Mem), k21 x1 x2 x3 x4 M = some R → V E G 21 [some (.ref 59), some (.int x1), some (.int x2), some (.int x3), some (.int x4)] [] M) {x1 : Int32} {x3 : Int32} {x4 : Int32} {t0 : Int32} (h : f_X7_likeliest_j54 k21 x1 x3 x4 t0 M = some R) : V E G 54 [some (.ref 59), some (.int x1), none, some (.int x3), some (.int x4)] [.int t0] M := by
  unfold f_X7_likeliest_j54 at h
  refine v_istore_2 hG rfl dX7_likeliest_54 (q := 55) rfl ?_
  refine v_aload_0 hG dX7_likeliest_55 (q := 56) rfl ?_
  refine gt_RX7_199 hG rfl kk_59 dX7_likeliest_56 (q := 59) rfl ?_
  refine v_iload_3 hG dX7_likeliest_59 (q := 60) rfl ?_
  refine v_icmp_le hG dX7_likeliest_60 (tgt := 70) rfl (q := 63) rfl (fun hc => ?_) (fun hc => ?_)
  · replace h := ifp hc h
    refine v_iload_3 hG dX7_likeliest_70 (q := 71) rfl ?_
    refine v_istore_3 hG rfl dX7_likeliest_71 (q := 72) rfl ?_
    refine v_iinc_4 hG rfl dX7_likeliest_72 (congrArg _ ci_1) (q := 75) rfl ?_
    refine v_goto hG dX7_likeliest_75 (tgt := 21) rfl ?_
    exact hk21 _ _ _ _ _ h
  · replace h := ifn hc h
    refine v_aload_0 hG dX7_likeliest_63 (q := 64) rfl ?_
    refine gt_RX7_199 hG rfl kk_59 dX7_likeliest_64 (q := 67) rfl ?_
    refine v_goto hG dX7_likeliest_67 (tgt := 71) rfl ?_
    refine v_topi (fun x3_6 hy => ?_)
    replace h := letv_at hy h
    clear hy
    refine v_istore_3 hG rfl dX7_likeliest_71 (q := 72) rfl ?_
    refine v_iinc_4 hG rfl dX7_likeliest_72 (congrArg _ ci_1) (q := 75) rfl ?_
    refine v_goto hG dX7_likeliest_75 (tgt := 21) rfl ?_
    exact hk21 _ _ _ _ _ h
theorem w_X7_likeliest_b21 {E : EB} {G : GB} (hG : Gd E mX7_likeliest G) {M : Mem} {R : Int32 × Mem} (hR : Rt E mX7_likeliest (PI R.1 R.2) G) {k21 : Int32 → Int32 → Int32 → Int32 → Mem → Option (Int32 × Mem)} (hk21 : ∀ (x1 : Int32) (x2 : Int32) (x3 : Int32) (x4 : Int32) (M : Mem), k21 x1 x2 x3 x4 M = some R → V E G 21 [some (.ref 59), some (.int x1), some (.int x2), some (.int x3), some (.int x4)] [] M) {x1 : Int32} {x2 : Int32} {x3 : Int32} {x4 : Int32} (h : f_X7_likeliest_b21 k21 x1 x2 x3 x4 M = some R) : V E G 21 [some (.ref 59), some (.int x1), some (.int x2), some (.int x3), some (.int x4)] [] M := by
  unfold f_X7_likeliest_b21 at h
  refine v_iload_4 hG dX7_likeliest_21 (q := 23) rfl ?_
  refine v_aload_0 hG dX7_likeliest_23 (q := 24) rfl ?_
  refine gt_RX7_7 hG rfl kk_59 dX7_likeliest_24 (q := 27) rfl ?_
  refine v_iconst hG ci_0 dX7_likeliest_27 (q := 28) rfl ?_
  obtain ⟨c_3, h⟩ := ck_some h
  refine v_iald hG kk_60 rfl c_3 dX7_likeliest_28 (q := 29) rfl ?_
  refine v_icmp_ge hG dX7_likeliest_29 (tgt := 78) rfl (q := 32) rfl (fun hc => ?_) (fun hc => ?_)
  · replace h := ifp hc h
    refine v_iload_2 hG dX7_likeliest_78 (q := 79) rfl ?_
    refine v_if_ge hG dX7_likeliest_79 (tgt := 91) rfl (q := 82) rfl (fun hc => ?_) (fun hc => ?_)
    · replace h := ifp hc h
      refine v_iload_2 hG dX7_likeliest_91 (q := 92) rfl ?_
      exact v_iret hG hR rfl rfl (sp2t h) dX7_likeliest_92
    · replace h := ifn hc h
      refine v_aload_0 hG dX7_likeliest_82 (q := 83) rfl ?_
      refine v_ldc hG kc_RX7_195 dX7_likeliest_83 (q := 85) rfl ?_
      obtain ⟨r_4, hr_4, h⟩ := bnd h
      refine v_cV1I hG cvX7_finds ml_RX7_68 rfl kk_59 (w_X7_finds hr_4) (Nat.le_of_ble_eq_true rfl) dX7_likeliest_85 (q := 88) rfl ?_
      refine v_goto hG dX7_likeliest_88 (tgt := 92) rfl ?_
      exact v_iret hG hR rfl rfl (sp2t h) dX7_likeliest_92
  · replace h := ifn hc h
    refine v_aload_0 hG dX7_likeliest_32 (q := 33) rfl ?_
    refine v_iload_4 hG dX7_likeliest_33 (q := 35) rfl ?_
    refine v_iload_1 hG dX7_likeliest_35 (q := 36) rfl ?_
    refine v_iconst hG ci_0 dX7_likeliest_36 (q := 37) rfl ?_
    obtain ⟨r_5, hr_5, h⟩ := bnd h
    refine v_cV3V hG cvX7_findSaid ml_RX7_214 rfl kk_59 (w_X7_findSaid hr_5) (Nat.le_of_ble_eq_true rfl) dX7_likeliest_37 (q := 40) rfl ?_
    refine v_aload_0 hG dX7_likeliest_40 (q := 41) rfl ?_
    refine gt_RX7_199 hG rfl kk_59 dX7_likeliest_41 (q := 44) rfl ?_
    refine v_iload_3 hG dX7_likeliest_44 (q := 45) rfl ?_
    refine v_icmp_le hG dX7_likeliest_45 (tgt := 53) rfl (q := 48) rfl (fun hc => ?_) (fun hc => ?_)
    · replace h := ifp hc h
      refine v_iload_2 hG dX7_likeliest_53 (q := 54) rfl ?_
      refine v_drop (n := 2) (L' := [some (.ref 59), some (.int x1), none, some (.int x3), some (.int x4)]) rfl ?_
      exact w_X7_likeliest_j54 hG hR hk21 h
    · replace h := ifn hc h
      refine v_iload_4 hG dX7_likeliest_48 (q := 50) rfl ?_
      refine v_goto hG dX7_likeliest_50 (tgt := 54) rfl ?_
      refine v_drop (n := 2) (L' := [some (.ref 59), some (.int x1), none, some (.int x3), some (.int x4)]) rfl ?_
      exact w_X7_likeliest_j54 hG hR hk21 h
theorem w_X7_likeliest_l21 {E : EB} {G : GB} (hG : Gd E mX7_likeliest G) {R : Int32 × Mem} (hR : Rt E mX7_likeliest (PI R.1 R.2) G) : ∀ (n : Nat) (x1 : Int32) (x2 : Int32) (x3 : Int32) (x4 : Int32) (M : Mem), f_X7_likeliest_l21 n x1 x2 x3 x4 M = some R → V E G 21 [some (.ref 59), some (.int x1), some (.int x2), some (.int x3), some (.int x4)] [] M := by
  intro n
  induction n with
  | zero => intro x1 x2 x3 x4 M h; cases h
  | succ n ih => intro x1 x2 x3 x4 M h; exact w_X7_likeliest_b21 hG hR ih h
theorem w_X7_likeliest {E : EB} {x1 : Int32} {M : Mem} {R : Int32 × Mem} (h : f_X7_likeliest x1 M = some R) : Mt E mX7_likeliest [.ref 59, .int x1] M (PI R.1 R.2) := by
  refine mt_of (L0 := [some (.ref 59), some (.int x1), none, none, none]) (by decide) rfl rfl (fun G hG hR => ?_)
  unfold f_X7_likeliest at h
  refine v_iload_1 hG dX7_likeliest_0 (q := 1) rfl ?_
  obtain ⟨r_1, hr_1, h⟩ := bnd h
  refine v_cS1I hG csX7_isSaying ml_RX7_60 rfl (w_X7_isSaying hr_1) (Nat.le_of_ble_eq_true rfl) dX7_likeliest_1 (q := 4) rfl ?_
  refine v_if_ne hG dX7_likeliest_4 (tgt := 14) rfl (q := 7) rfl (fun hc => ?_) (fun hc => ?_)
  · replace h := ifn hc h
    refine v_iconst hG ci_m1 dX7_likeliest_14 (q := 15) rfl ?_
    refine v_istore_2 hG rfl dX7_likeliest_15 (q := 16) rfl ?_
    refine v_iconst hG ci_0 dX7_likeliest_16 (q := 17) rfl ?_
    refine v_istore_3 hG rfl dX7_likeliest_17 (q := 18) rfl ?_
    refine v_iconst hG ci_0 dX7_likeliest_18 (q := 19) rfl ?_
    refine v_istore_4 hG rfl dX7_likeliest_19 (q := 21) rfl ?_
    exact w_X7_likeliest_l21 hG hR FU _ _ _ _ _ h
  · replace h := ifp hc h
    refine v_aload_0 hG dX7_likeliest_7 (q := 8) rfl ?_
    refine v_ldc hG kc_RX7_40 dX7_likeliest_8 (q := 10) rfl ?_
    obtain ⟨r_2, hr_2, h⟩ := bnd h
    refine v_cV1I hG cvX7_finds ml_RX7_68 rfl kk_59 (w_X7_finds hr_2) (Nat.le_of_ble_eq_true rfl) dX7_likeliest_10 (q := 13) rfl ?_
    exact v_iret hG hR rfl rfl (sp2t h) dX7_likeliest_13
theorem cvX7_likeliest : CVo mX7_likeliest 1 7 := ⟨moX7_likeliest, mvX7_likeliest, by decide, _, _, rfl⟩
theorem w_X7_near {E : EB} {x1 : Int32} {x2 : Int32} {x3 : Int32} {M : Mem} {R : Int32 × Mem} (h : f_X7_near x1 x2 x3 M = some R) : Mt E mX7_near [.ref 59, .int x1, .int x2, .int x3] M (PI R.1 R.2) := by
  refine mt_of (L0 := [some (.ref 59), some (.int x1), some (.int x2), some (.int x3)]) (by decide) rfl rfl (fun G hG hR => ?_)
  unfold f_X7_near at h
  refine v_aload_0 hG dX7_near_0 (q := 1) rfl ?_
  refine v_iload_1 hG dX7_near_1 (q := 2) rfl ?_
  obtain ⟨r_1, hr_1, h⟩ := bnd h
  refine v_cV1I hG cvX7_isWriter ml_RX7_76 rfl kk_59 (w_X7_isWriter hr_1) (Nat.le_of_ble_eq_true rfl) dX7_near_2 (q := 5) rfl ?_
  refine v_if_eq hG dX7_near_5 (tgt := 22) rfl (q := 8) rfl (fun hc => ?_) (fun hc => ?_)
  · replace h := ifp hc h
    refine v_aload_0 hG dX7_near_22 (q := 23) rfl ?_
    refine v_ldc hG kc_RX7_40 dX7_near_23 (q := 25) rfl ?_
    obtain ⟨r_2, hr_2, h⟩ := bnd h
    refine v_cV1I hG cvX7_finds ml_RX7_68 rfl kk_59 (w_X7_finds hr_2) (Nat.le_of_ble_eq_true rfl) dX7_near_25 (q := 28) rfl ?_
    exact v_iret hG hR rfl rfl (sp2t h) dX7_near_28
  · replace h := ifn hc h
    refine v_iload_2 hG dX7_near_8 (q := 9) rfl ?_
    obtain ⟨r_3, hr_3, h⟩ := bnd h
    refine v_cS1I hG csX7_isSaying ml_RX7_60 rfl (w_X7_isSaying hr_3) (Nat.le_of_ble_eq_true rfl) dX7_near_9 (q := 12) rfl ?_
    refine v_if_eq hG dX7_near_12 (tgt := 22) rfl (q := 15) rfl (fun hc => ?_) (fun hc => ?_)
    · replace h := ifp hc h
      refine v_aload_0 hG dX7_near_22 (q := 23) rfl ?_
      refine v_ldc hG kc_RX7_40 dX7_near_23 (q := 25) rfl ?_
      obtain ⟨r_4, hr_4, h⟩ := bnd h
      refine v_cV1I hG cvX7_finds ml_RX7_68 rfl kk_59 (w_X7_finds hr_4) (Nat.le_of_ble_eq_true rfl) dX7_near_25 (q := 28) rfl ?_
      exact v_iret hG hR rfl rfl (sp2t h) dX7_near_28
    · replace h := ifn hc h
      refine v_iload_3 hG dX7_near_15 (q := 16) rfl ?_
      obtain ⟨r_5, hr_5, h⟩ := bnd h
      refine v_cS1I hG csX7_isSaying ml_RX7_60 rfl (w_X7_isSaying hr_5) (Nat.le_of_ble_eq_true rfl) dX7_near_16 (q := 19) rfl ?_
      refine v_if_ne hG dX7_near_19 (tgt := 29) rfl (q := 22) rfl (fun hc => ?_) (fun hc => ?_)
      · replace h := ifn hc h
        refine v_aload_0 hG dX7_near_29 (q := 30) rfl ?_
        refine v_iload_1 hG dX7_near_30 (q := 31) rfl ?_
        refine v_iload_3 hG dX7_near_31 (q := 32) rfl ?_
        refine v_iload_2 hG dX7_near_32 (q := 33) rfl ?_
        obtain ⟨r_6, hr_6, h⟩ := bnd h
        refine v_cV3V hG cvX7_findSaid ml_RX7_214 rfl kk_59 (w_X7_findSaid hr_6) (Nat.le_of_ble_eq_true rfl) dX7_near_33 (q := 36) rfl ?_
        refine v_aload_0 hG dX7_near_36 (q := 37) rfl ?_
        refine gt_RX7_199 hG rfl kk_59 dX7_near_37 (q := 40) rfl ?_
        refine v_if_ne hG dX7_near_40 (tgt := 52) rfl (q := 43) rfl (fun hc => ?_) (fun hc => ?_)
        · replace h := ifn hc h
          refine v_aload_0 hG dX7_near_52 (q := 53) rfl ?_
          refine gt_RX7_211 hG rfl kk_59 dX7_near_53 (q := 56) rfl ?_
          exact v_iret hG hR rfl rfl (sp2t h) dX7_near_56
        · replace h := ifp hc h
          refine v_aload_0 hG dX7_near_43 (q := 44) rfl ?_
          refine v_ldc hG kc_RX7_195 dX7_near_44 (q := 46) rfl ?_
          obtain ⟨r_7, hr_7, h⟩ := bnd h
          refine v_cV1I hG cvX7_finds ml_RX7_68 rfl kk_59 (w_X7_finds hr_7) (Nat.le_of_ble_eq_true rfl) dX7_near_46 (q := 49) rfl ?_
          refine v_goto hG dX7_near_49 (tgt := 56) rfl ?_
          exact v_iret hG hR rfl rfl (sp2t h) dX7_near_56
      · replace h := ifp hc h
        refine v_aload_0 hG dX7_near_22 (q := 23) rfl ?_
        refine v_ldc hG kc_RX7_40 dX7_near_23 (q := 25) rfl ?_
        obtain ⟨r_8, hr_8, h⟩ := bnd h
        refine v_cV1I hG cvX7_finds ml_RX7_68 rfl kk_59 (w_X7_finds hr_8) (Nat.le_of_ble_eq_true rfl) dX7_near_25 (q := 28) rfl ?_
        exact v_iret hG hR rfl rfl (sp2t h) dX7_near_28
theorem cvX7_near : CVo mX7_near 3 7 := ⟨moX7_near, mvX7_near, by decide, _, _, rfl⟩
theorem w_X7_honest_b19 {E : EB} {G : GB} (hG : Gd E mX7_honest G) {M : Mem} {R : Int32 × Mem} (hR : Rt E mX7_honest (PI R.1 R.2) G) {k19 : Int32 → Int32 → Int32 → Mem → Option (Int32 × Mem)} (hk19 : ∀ (x1 : Int32) (x2 : Int32) (x3 : Int32) (M : Mem), k19 x1 x2 x3 M = some R → V E G 19 [some (.ref 59), some (.int x1), some (.int x2), some (.int x3)] [] M) {x1 : Int32} {x2 : Int32} {x3 : Int32} (h : f_X7_honest_b19 k19 x1 x2 x3 M = some R) : V E G 19 [some (.ref 59), some (.int x1), some (.int x2), some (.int x3)] [] M := by
  unfold f_X7_honest_b19 at h
  refine v_iload_3 hG dX7_honest_19 (q := 20) rfl ?_
  refine v_sipush hG cs_4096 dX7_honest_20 (q := 23) rfl ?_
  refine v_icmp_ge hG dX7_honest_23 (tgt := 50) rfl (q := 26) rfl (fun hc => ?_) (fun hc => ?_)
  · replace h := ifp hc h
    refine v_iload_2 hG dX7_honest_50 (q := 51) rfl ?_
    exact v_iret hG hR rfl rfl (sp2t h) dX7_honest_51
  · replace h := ifn hc h
    refine v_iload_2 hG dX7_honest_26 (q := 27) rfl ?_
    refine v_aload_0 hG dX7_honest_27 (q := 28) rfl ?_
    refine v_iload_1 hG dX7_honest_28 (q := 29) rfl ?_
    refine v_iload_3 hG dX7_honest_29 (q := 30) rfl ?_
    obtain ⟨r_3, hr_3, h⟩ := bnd h
    refine v_cV2I hG cvX7_putBy ml_RX7_126 rfl kk_59 (w_X7_putBy hr_3) (Nat.le_of_ble_eq_true rfl) dX7_honest_30 (q := 33) rfl ?_
    refine v_iload_3 hG dX7_honest_33 (q := 34) rfl ?_
    refine v_icmp_ne hG dX7_honest_34 (tgt := 41) rfl (q := 37) rfl (fun hc => ?_) (fun hc => ?_)
    · replace h := ifn hc h
      refine v_iconst hG ci_0 dX7_honest_41 (q := 42) rfl ?_
      refine v_iadd hG dX7_honest_42 (q := 43) rfl ?_
      refine v_topi (fun x2_4 hy => ?_)
      replace h := letv_at hy h
      clear hy
      refine v_istore_2 hG rfl dX7_honest_43 (q := 44) rfl ?_
      refine v_iinc_3 hG rfl dX7_honest_44 (congrArg _ ci_1) (q := 47) rfl ?_
      refine v_goto hG dX7_honest_47 (tgt := 19) rfl ?_
      exact hk19 _ _ _ _ h
    · replace h := ifp hc h
      refine v_iconst hG ci_1 dX7_honest_37 (q := 38) rfl ?_
      refine v_goto hG dX7_honest_38 (tgt := 42) rfl ?_
      refine v_iadd hG dX7_honest_42 (q := 43) rfl ?_
      refine v_topi (fun x2_5 hy => ?_)
      replace h := letv_at hy h
      clear hy
      refine v_istore_2 hG rfl dX7_honest_43 (q := 44) rfl ?_
      refine v_iinc_3 hG rfl dX7_honest_44 (congrArg _ ci_1) (q := 47) rfl ?_
      refine v_goto hG dX7_honest_47 (tgt := 19) rfl ?_
      exact hk19 _ _ _ _ h
theorem w_X7_honest_l19 {E : EB} {G : GB} (hG : Gd E mX7_honest G) {R : Int32 × Mem} (hR : Rt E mX7_honest (PI R.1 R.2) G) : ∀ (n : Nat) (x1 : Int32) (x2 : Int32) (x3 : Int32) (M : Mem), f_X7_honest_l19 n x1 x2 x3 M = some R → V E G 19 [some (.ref 59), some (.int x1), some (.int x2), some (.int x3)] [] M := by
  intro n
  induction n with
  | zero => intro x1 x2 x3 M h; cases h
  | succ n ih => intro x1 x2 x3 M h; exact w_X7_honest_b19 hG hR ih h
theorem w_X7_honest {E : EB} {x1 : Int32} {M : Mem} {R : Int32 × Mem} (h : f_X7_honest x1 M = some R) : Mt E mX7_honest [.ref 59, .int x1] M (PI R.1 R.2) := by
  refine mt_of (L0 := [some (.ref 59), some (.int x1), none, none]) (by decide) rfl rfl (fun G hG hR => ?_)
  unfold f_X7_honest at h
  refine v_aload_0 hG dX7_honest_0 (q := 1) rfl ?_
  refine v_iload_1 hG dX7_honest_1 (q := 2) rfl ?_
  obtain ⟨r_1, hr_1, h⟩ := bnd h
  refine v_cV1I hG cvX7_isWriter ml_RX7_76 rfl kk_59 (w_X7_isWriter hr_1) (Nat.le_of_ble_eq_true rfl) dX7_honest_2 (q := 5) rfl ?_
  refine v_if_ne hG dX7_honest_5 (tgt := 15) rfl (q := 8) rfl (fun hc => ?_) (fun hc => ?_)
  · replace h := ifn hc h
    refine v_iconst hG ci_0 dX7_honest_15 (q := 16) rfl ?_
    refine v_istore_2 hG rfl dX7_honest_16 (q := 17) rfl ?_
    refine v_iconst hG ci_0 dX7_honest_17 (q := 18) rfl ?_
    refine v_istore_3 hG rfl dX7_honest_18 (q := 19) rfl ?_
    exact w_X7_honest_l19 hG hR FU _ _ _ _ h
  · replace h := ifp hc h
    refine v_aload_0 hG dX7_honest_8 (q := 9) rfl ?_
    refine v_ldc hG kc_RX7_40 dX7_honest_9 (q := 11) rfl ?_
    obtain ⟨r_2, hr_2, h⟩ := bnd h
    refine v_cV1I hG cvX7_finds ml_RX7_68 rfl kk_59 (w_X7_finds hr_2) (Nat.le_of_ble_eq_true rfl) dX7_honest_11 (q := 14) rfl ?_
    exact v_iret hG hR rfl rfl (sp2t h) dX7_honest_14
theorem cvX7_honest : CVo mX7_honest 1 7 := ⟨moX7_honest, mvX7_honest, by decide, _, _, rfl⟩
theorem w_X7_roundOf_b4 {E : EB} {G : GB} (hG : Gd E mX7_roundOf G) {M : Mem} {R : Int32} (hR : Rt E mX7_roundOf (PI R M) G) {k4 : Int32 → Int32 → Mem → Option (Int32)} (hk4 : ∀ (x2 : Int32) (x3 : Int32) (M' : Mem), k4 x2 x3 M' = some R → M' = M → V E G 4 [some (.ref 59), none, some (.int x2), some (.int x3)] [] M') {x2 : Int32} {x3 : Int32} (h : f_X7_roundOf_b4 k4 x2 x3 M = some R) : V E G 4 [some (.ref 59), none, some (.int x2), some (.int x3)] [] M := by
  unfold f_X7_roundOf_b4 at h
  refine v_iload_3 hG dX7_roundOf_4 (q := 5) rfl ?_
  refine v_aload_0 hG dX7_roundOf_5 (q := 6) rfl ?_
  refine gt_RX7_7 hG rfl kk_59 dX7_roundOf_6 (q := 9) rfl ?_
  refine v_iconst hG ci_0 dX7_roundOf_9 (q := 10) rfl ?_
  obtain ⟨c_1, h⟩ := ck_some h
  refine v_iald hG kk_60 rfl c_1 dX7_roundOf_10 (q := 11) rfl ?_
  refine v_icmp_ge hG dX7_roundOf_11 (tgt := 27) rfl (q := 14) rfl (fun hc => ?_) (fun hc => ?_)
  · replace h := ifp hc h
    refine v_iload_2 hG dX7_roundOf_27 (q := 28) rfl ?_
    exact v_iret hG hR rfl rfl (sp1 h) dX7_roundOf_28
  · replace h := ifn hc h
    refine v_aload_0 hG dX7_roundOf_14 (q := 15) rfl ?_
    refine v_iload_3 hG dX7_roundOf_15 (q := 16) rfl ?_
    refine v_iload_2 hG dX7_roundOf_16 (q := 17) rfl ?_
    obtain ⟨r_2, hr_2, h⟩ := bnd h
    refine v_cV2I hG cvX7_putBy ml_RX7_126 rfl kk_59 (w_X7_putBy hr_2) (Nat.le_of_ble_eq_true rfl) dX7_roundOf_17 (q := 20) rfl ?_
    refine v_istore_2 hG rfl dX7_roundOf_20 (q := 21) rfl ?_
    refine v_iinc_3 hG rfl dX7_roundOf_21 (congrArg _ ci_1) (q := 24) rfl ?_
    refine v_goto hG dX7_roundOf_24 (tgt := 4) rfl ?_
    exact hk4 _ _ _ h rfl
theorem w_X7_roundOf_l4 {E : EB} {G : GB} (hG : Gd E mX7_roundOf G) {M : Mem} {R : Int32} (hR : Rt E mX7_roundOf (PI R M) G) : ∀ (n : Nat) (x2 : Int32) (x3 : Int32) (M' : Mem), f_X7_roundOf_l4 n x2 x3 M' = some R → M' = M → V E G 4 [some (.ref 59), none, some (.int x2), some (.int x3)] [] M' := by
  intro n
  induction n with
  | zero => intro x2 x3 M' h; cases h
  | succ n ih => intro x2 x3 M' h e; subst e; exact w_X7_roundOf_b4 hG hR ih h
theorem w_X7_roundOf {E : EB} {x1 : Int32} {M : Mem} {R : Int32} (h : f_X7_roundOf x1 M = some R) : Mt E mX7_roundOf [.ref 59, .int x1] M (PI R M) := by
  refine mt_of (L0 := [some (.ref 59), some (.int x1), none, none]) (by decide) rfl rfl (fun G hG hR => ?_)
  unfold f_X7_roundOf at h
  refine v_iload_1 hG dX7_roundOf_0 (q := 1) rfl ?_
  refine v_istore_2 hG rfl dX7_roundOf_1 (q := 2) rfl ?_
  refine v_iconst hG ci_0 dX7_roundOf_2 (q := 3) rfl ?_
  refine v_istore_3 hG rfl dX7_roundOf_3 (q := 4) rfl ?_
  refine v_drop (n := 1) (L' := [some (.ref 59), none, some (.int x1), some (.int (0 : Int32))]) rfl ?_
  exact w_X7_roundOf_l4 hG hR FU _ _ _ h rfl
theorem cvX7_roundOf : CVo mX7_roundOf 1 7 := ⟨moX7_roundOf, mvX7_roundOf, by decide, _, _, rfl⟩
theorem w_X7_round_b31 {E : EB} {G : GB} (hG : Gd E mX7_round G) {M : Mem} {R : Int32 × Mem} (hR : Rt E mX7_round (PI R.1 R.2) G) {k31 : Int32 → Int32 → Int32 → Mem → Option (Int32 × Mem)} (hk31 : ∀ (x2 : Int32) (x3 : Int32) (x4 : Int32) (M : Mem), k31 x2 x3 x4 M = some R → V E G 31 [some (.ref 59), none, some (.int x2), some (.int x3), some (.int x4)] [] M) {x2 : Int32} {x3 : Int32} {x4 : Int32} (h : f_X7_round_b31 k31 x2 x3 x4 M = some R) : V E G 31 [some (.ref 59), none, some (.int x2), some (.int x3), some (.int x4)] [] M := by
  unfold f_X7_round_b31 at h
  refine v_iload_4 hG dX7_round_31 (q := 33) rfl ?_
  refine v_iload_2 hG dX7_round_33 (q := 34) rfl ?_
  refine v_icmp_ge hG dX7_round_34 (tgt := 49) rfl (q := 37) rfl (fun hc => ?_) (fun hc => ?_)
  · replace h := ifp hc h
    refine v_iload_3 hG dX7_round_49 (q := 50) rfl ?_
    exact v_iret hG hR rfl rfl (sp2t h) dX7_round_50
  · replace h := ifn hc h
    refine v_aload_0 hG dX7_round_37 (q := 38) rfl ?_
    refine v_iload_3 hG dX7_round_38 (q := 39) rfl ?_
    obtain ⟨r_5, hr_5, h⟩ := bnd h
    refine v_cV1I hG cvX7_roundOf ml_RX7_222 rfl kk_59 (w_X7_roundOf hr_5) (Nat.le_of_ble_eq_true rfl) dX7_round_39 (q := 42) rfl ?_
    refine v_istore_3 hG rfl dX7_round_42 (q := 43) rfl ?_
    refine v_iinc_4 hG rfl dX7_round_43 (congrArg _ ci_1) (q := 46) rfl ?_
    refine v_goto hG dX7_round_46 (tgt := 31) rfl ?_
    exact hk31 _ _ _ _ h
theorem w_X7_round_l31 {E : EB} {G : GB} (hG : Gd E mX7_round G) {R : Int32 × Mem} (hR : Rt E mX7_round (PI R.1 R.2) G) : ∀ (n : Nat) (x2 : Int32) (x3 : Int32) (x4 : Int32) (M : Mem), f_X7_round_l31 n x2 x3 x4 M = some R → V E G 31 [some (.ref 59), none, some (.int x2), some (.int x3), some (.int x4)] [] M := by
  intro n
  induction n with
  | zero => intro x2 x3 x4 M h; cases h
  | succ n ih => intro x2 x3 x4 M h; exact w_X7_round_b31 hG hR ih h
theorem w_X7_round {E : EB} {x1 : Int32} {x2 : Int32} {M : Mem} {R : Int32 × Mem} (h : f_X7_round x1 x2 M = some R) : Mt E mX7_round [.ref 59, .int x1, .int x2] M (PI R.1 R.2) := by
  refine mt_of (L0 := [some (.ref 59), some (.int x1), some (.int x2), none, none]) (by decide) rfl rfl (fun G hG hR => ?_)
  unfold f_X7_round at h
  refine v_iload_1 hG dX7_round_0 (q := 1) rfl ?_
  obtain ⟨r_1, hr_1, h⟩ := bnd h
  refine v_cS1I hG csX7_isSaying ml_RX7_60 rfl (w_X7_isSaying hr_1) (Nat.le_of_ble_eq_true rfl) dX7_round_1 (q := 4) rfl ?_
  refine v_if_eq hG dX7_round_4 (tgt := 19) rfl (q := 7) rfl (fun hc => ?_) (fun hc => ?_)
  · replace h := ifp hc h
    refine v_aload_0 hG dX7_round_19 (q := 20) rfl ?_
    refine v_ldc hG kc_RX7_40 dX7_round_20 (q := 22) rfl ?_
    obtain ⟨r_2, hr_2, h⟩ := bnd h
    refine v_cV1I hG cvX7_finds ml_RX7_68 rfl kk_59 (w_X7_finds hr_2) (Nat.le_of_ble_eq_true rfl) dX7_round_22 (q := 25) rfl ?_
    exact v_iret hG hR rfl rfl (sp2t h) dX7_round_25
  · replace h := ifn hc h
    refine v_iload_2 hG dX7_round_7 (q := 8) rfl ?_
    refine v_i2l hG dX7_round_8 (q := 9) rfl ?_
    refine v_lconst hG cl_0 dX7_round_9 (q := 10) rfl ?_
    refine v_ldc2 hG kl_RX7_220 dX7_round_10 (q := 13) rfl ?_
    obtain ⟨r_3, hr_3, h⟩ := bnd h
    refine v_cS3I hG csX7_in ml_RX7_43 rfl (w_X7_in hr_3) (Nat.le_of_ble_eq_true rfl) dX7_round_13 (q := 16) rfl ?_
    refine v_if_ne hG dX7_round_16 (tgt := 26) rfl (q := 19) rfl (fun hc => ?_) (fun hc => ?_)
    · replace h := ifn hc h
      refine v_iload_1 hG dX7_round_26 (q := 27) rfl ?_
      refine v_istore_3 hG rfl dX7_round_27 (q := 28) rfl ?_
      refine v_iconst hG ci_0 dX7_round_28 (q := 29) rfl ?_
      refine v_istore_4 hG rfl dX7_round_29 (q := 31) rfl ?_
      refine v_drop (n := 1) (L' := [some (.ref 59), none, some (.int x2), some (.int x1), some (.int (0 : Int32))]) rfl ?_
      exact w_X7_round_l31 hG hR FU _ _ _ _ h
    · replace h := ifp hc h
      refine v_aload_0 hG dX7_round_19 (q := 20) rfl ?_
      refine v_ldc hG kc_RX7_40 dX7_round_20 (q := 22) rfl ?_
      obtain ⟨r_4, hr_4, h⟩ := bnd h
      refine v_cV1I hG cvX7_finds ml_RX7_68 rfl kk_59 (w_X7_finds hr_4) (Nat.le_of_ble_eq_true rfl) dX7_round_22 (q := 25) rfl ?_
      exact v_iret hG hR rfl rfl (sp2t h) dX7_round_25
theorem cvX7_round : CVo mX7_round 2 7 := ⟨moX7_round, mvX7_round, by decide, _, _, rfl⟩
theorem w_X7_settles_b49 {E : EB} {G : GB} (hG : Gd E mX7_settles G) {M : Mem} {R : Int32 × Mem} (hR : Rt E mX7_settles (PI R.1 R.2) G) {k23 : Int32 → Mem → Option (Int32 × Mem)} {k49 : Int32 → Int32 → Mem → Option (Int32 × Mem)} (hk23 : ∀ (x2 : Int32) (M : Mem), k23 x2 M = some R → V E G 23 [some (.ref 59), none, some (.int x2), none] [] M) (hk49 : ∀ (x2 : Int32) (x3 : Int32) (M : Mem), k49 x2 x3 M = some R → V E G 49 [some (.ref 59), none, some (.int x2), some (.int x3)] [] M) {x2 : Int32} {x3 : Int32} (h : f_X7_settles_b49 k23 k49 x2 x3 M = some R) : V E G 49 [some (.ref 59), none, some (.int x2), some (.int x3)] [] M := by
  unfold f_X7_settles_b49 at h
  refine v_iload_3 hG dX7_settles_49 (q := 50) rfl ?_
  refine v_iload_2 hG dX7_settles_50 (q := 51) rfl ?_
  refine v_icmp_ge hG dX7_settles_51 (tgt := 77) rfl (q := 54) rfl (fun hc => ?_) (fun hc => ?_)
  · replace h := ifp hc h
    refine v_iinc_2 hG rfl dX7_settles_77 (congrArg _ ci_1) (q := 80) rfl ?_
    refine v_goto hG dX7_settles_80 (tgt := 23) rfl ?_
    refine v_drop (n := 3) (L' := [some (.ref 59), none, some (.int (x2 + (1 : Int32))), none]) rfl ?_
    exact hk23 _ _ h
  · replace h := ifn hc h
    refine v_aload_0 hG dX7_settles_54 (q := 55) rfl ?_
    refine gt_RX7_22 hG rfl kk_59 dX7_settles_55 (q := 58) rfl ?_
    refine v_iload_3 hG dX7_settles_58 (q := 59) rfl ?_
    obtain ⟨c_10, h⟩ := ck_some h
    refine v_iald hG kk_64 rfl c_10 dX7_settles_59 (q := 60) rfl ?_
    refine v_aload_0 hG dX7_settles_60 (q := 61) rfl ?_
    refine gt_RX7_22 hG rfl kk_59 dX7_settles_61 (q := 64) rfl ?_
    refine v_iload_2 hG dX7_settles_64 (q := 65) rfl ?_
    obtain ⟨c_11, h⟩ := ck_some h
    refine v_iald hG kk_64 rfl c_11 dX7_settles_65 (q := 66) rfl ?_
    refine v_icmp_ne hG dX7_settles_66 (tgt := 71) rfl (q := 69) rfl (fun hc => ?_) (fun hc => ?_)
    · replace h := ifn hc h
      refine v_iinc_3 hG rfl dX7_settles_71 (congrArg _ ci_1) (q := 74) rfl ?_
      refine v_goto hG dX7_settles_74 (tgt := 49) rfl ?_
      exact hk49 _ _ _ h
    · replace h := ifp hc h
      refine v_iload_2 hG dX7_settles_69 (q := 70) rfl ?_
      exact v_iret hG hR rfl rfl (sp2t h) dX7_settles_70
theorem w_X7_settles_l49 {E : EB} {G : GB} (hG : Gd E mX7_settles G) {R : Int32 × Mem} (hR : Rt E mX7_settles (PI R.1 R.2) G) {k23 : Int32 → Mem → Option (Int32 × Mem)} (hk23 : ∀ (x2 : Int32) (M : Mem), k23 x2 M = some R → V E G 23 [some (.ref 59), none, some (.int x2), none] [] M) : ∀ (n : Nat) (x2 : Int32) (x3 : Int32) (M : Mem), f_X7_settles_l49 k23 n x2 x3 M = some R → V E G 49 [some (.ref 59), none, some (.int x2), some (.int x3)] [] M := by
  intro n
  induction n with
  | zero => intro x2 x3 M h; cases h
  | succ n ih => intro x2 x3 M h; exact w_X7_settles_b49 hG hR hk23 ih h
theorem w_X7_settles_b23 {E : EB} {G : GB} (hG : Gd E mX7_settles G) {M : Mem} {R : Int32 × Mem} (hR : Rt E mX7_settles (PI R.1 R.2) G) {k23 : Int32 → Mem → Option (Int32 × Mem)} (hk23 : ∀ (x2 : Int32) (M : Mem), k23 x2 M = some R → V E G 23 [some (.ref 59), none, some (.int x2), none] [] M) {x2 : Int32} (h : f_X7_settles_b23 k23 x2 M = some R) : V E G 23 [some (.ref 59), none, some (.int x2), none] [] M := by
  unfold f_X7_settles_b23 at h
  refine v_iload_2 hG dX7_settles_23 (q := 24) rfl ?_
  refine v_bipush hG cb_101 dX7_settles_24 (q := 26) rfl ?_
  refine v_icmp_ge hG dX7_settles_26 (tgt := 83) rfl (q := 29) rfl (fun hc => ?_) (fun hc => ?_)
  · replace h := ifp hc h
    refine v_aload_0 hG dX7_settles_83 (q := 84) rfl ?_
    refine v_ldc hG kc_RX7_195 dX7_settles_84 (q := 86) rfl ?_
    obtain ⟨r_5, hr_5, h⟩ := bnd h
    refine v_cV1I hG cvX7_finds ml_RX7_68 rfl kk_59 (w_X7_finds hr_5) (Nat.le_of_ble_eq_true rfl) dX7_settles_86 (q := 89) rfl ?_
    exact v_iret hG hR rfl rfl (sp2t h) dX7_settles_89
  · replace h := ifn hc h
    refine v_aload_0 hG dX7_settles_29 (q := 30) rfl ?_
    refine gt_RX7_22 hG rfl kk_59 dX7_settles_30 (q := 33) rfl ?_
    refine v_iload_2 hG dX7_settles_33 (q := 34) rfl ?_
    refine v_aload_0 hG dX7_settles_34 (q := 35) rfl ?_
    refine v_aload_0 hG dX7_settles_35 (q := 36) rfl ?_
    refine gt_RX7_22 hG rfl kk_59 dX7_settles_36 (q := 39) rfl ?_
    refine v_iload_2 hG dX7_settles_39 (q := 40) rfl ?_
    refine v_iconst hG ci_1 dX7_settles_40 (q := 41) rfl ?_
    refine v_isub hG dX7_settles_41 (q := 42) rfl ?_
    obtain ⟨c_6, h⟩ := ck_some h
    refine v_iald hG kk_64 rfl c_6 dX7_settles_42 (q := 43) rfl ?_
    obtain ⟨r_7, hr_7, h⟩ := bnd h
    refine v_cV1I hG cvX7_roundOf ml_RX7_222 rfl kk_59 (w_X7_roundOf hr_7) (Nat.le_of_ble_eq_true rfl) dX7_settles_43 (q := 46) rfl ?_
    obtain ⟨c_8, h⟩ := ck_some h
    refine v_iast hG kk_64 rfl c_8 dX7_settles_46 (q := 47) rfl ?_
    refine v_topM (fun M_9 hy => ?_)
    replace h := letv_at hy h
    clear hy
    refine v_iconst hG ci_0 dX7_settles_47 (q := 48) rfl ?_
    refine v_istore_3 hG rfl dX7_settles_48 (q := 49) rfl ?_
    exact w_X7_settles_l49 hG hR hk23 FU _ _ _ h
theorem w_X7_settles_l23 {E : EB} {G : GB} (hG : Gd E mX7_settles G) {R : Int32 × Mem} (hR : Rt E mX7_settles (PI R.1 R.2) G) : ∀ (n : Nat) (x2 : Int32) (M : Mem), f_X7_settles_l23 n x2 M = some R → V E G 23 [some (.ref 59), none, some (.int x2), none] [] M := by
  intro n
  induction n with
  | zero => intro x2 M h; cases h
  | succ n ih => intro x2 M h; exact w_X7_settles_b23 hG hR ih h
theorem w_X7_settles {E : EB} {x1 : Int32} {M : Mem} {R : Int32 × Mem} (h : f_X7_settles x1 M = some R) : Mt E mX7_settles [.ref 59, .int x1] M (PI R.1 R.2) := by
  refine mt_of (L0 := [some (.ref 59), some (.int x1), none, none]) (by decide) rfl rfl (fun G hG hR => ?_)
  unfold f_X7_settles at h
  refine v_iload_1 hG dX7_settles_0 (q := 1) rfl ?_
  obtain ⟨r_1, hr_1, h⟩ := bnd h
  refine v_cS1I hG csX7_isSaying ml_RX7_60 rfl (w_X7_isSaying hr_1) (Nat.le_of_ble_eq_true rfl) dX7_settles_1 (q := 4) rfl ?_
  refine v_if_ne hG dX7_settles_4 (tgt := 14) rfl (q := 7) rfl (fun hc => ?_) (fun hc => ?_)
  · replace h := ifn hc h
    refine v_aload_0 hG dX7_settles_14 (q := 15) rfl ?_
    refine gt_RX7_22 hG rfl kk_59 dX7_settles_15 (q := 18) rfl ?_
    refine v_iconst hG ci_0 dX7_settles_18 (q := 19) rfl ?_
    refine v_iload_1 hG dX7_settles_19 (q := 20) rfl ?_
    obtain ⟨c_2, h⟩ := ck_some h
    refine v_iast hG kk_64 rfl c_2 dX7_settles_20 (q := 21) rfl ?_
    refine v_topM (fun M_3 hy => ?_)
    replace h := letv_at hy h
    clear hy
    refine v_iconst hG ci_1 dX7_settles_21 (q := 22) rfl ?_
    refine v_istore_2 hG rfl dX7_settles_22 (q := 23) rfl ?_
    refine v_drop (n := 1) (L' := [some (.ref 59), none, some (.int (1 : Int32)), none]) rfl ?_
    exact w_X7_settles_l23 hG hR FU _ _ h
  · replace h := ifp hc h
    refine v_aload_0 hG dX7_settles_7 (q := 8) rfl ?_
    refine v_ldc hG kc_RX7_40 dX7_settles_8 (q := 10) rfl ?_
    obtain ⟨r_4, hr_4, h⟩ := bnd h
    refine v_cV1I hG cvX7_finds ml_RX7_68 rfl kk_59 (w_X7_finds hr_4) (Nat.le_of_ble_eq_true rfl) dX7_settles_10 (q := 13) rfl ?_
    exact v_iret hG hR rfl rfl (sp2t h) dX7_settles_13
theorem cvX7_settles : CVo mX7_settles 1 7 := ⟨moX7_settles, mvX7_settles, by decide, _, _, rfl⟩
theorem w_X7_court {E : EB} {x1 : Int32} {x2 : Int32} {x3 : Int32} {M : Mem} {R : Int32 × Mem} (h : f_X7_court x1 x2 x3 M = some R) : Mt E mX7_court [.ref 59, .int x1, .int x2, .int x3] M (PI R.1 R.2) := by
  refine mt_of (L0 := [some (.ref 59), some (.int x1), some (.int x2), some (.int x3), none]) (by decide) rfl rfl (fun G hG hR => ?_)
  unfold f_X7_court at h
  refine v_aload_0 hG dX7_court_0 (q := 1) rfl ?_
  refine v_iload_1 hG dX7_court_1 (q := 2) rfl ?_
  obtain ⟨r_1, hr_1, h⟩ := bnd h
  refine v_cV1I hG cvX7_isWriter ml_RX7_76 rfl kk_59 (w_X7_isWriter hr_1) (Nat.le_of_ble_eq_true rfl) dX7_court_2 (q := 5) rfl ?_
  refine v_if_eq hG dX7_court_5 (tgt := 23) rfl (q := 8) rfl (fun hc => ?_) (fun hc => ?_)
  · replace h := ifp hc h
    refine v_aload_0 hG dX7_court_23 (q := 24) rfl ?_
    refine v_ldc hG kc_RX7_40 dX7_court_24 (q := 26) rfl ?_
    obtain ⟨r_2, hr_2, h⟩ := bnd h
    refine v_cV1I hG cvX7_finds ml_RX7_68 rfl kk_59 (w_X7_finds hr_2) (Nat.le_of_ble_eq_true rfl) dX7_court_26 (q := 29) rfl ?_
    exact v_iret hG hR rfl rfl (sp2t h) dX7_court_29
  · replace h := ifn hc h
    refine v_aload_0 hG dX7_court_8 (q := 9) rfl ?_
    refine v_iload_2 hG dX7_court_9 (q := 10) rfl ?_
    obtain ⟨r_3, hr_3, h⟩ := bnd h
    refine v_cV1I hG cvX7_isWriter ml_RX7_76 rfl kk_59 (w_X7_isWriter hr_3) (Nat.le_of_ble_eq_true rfl) dX7_court_10 (q := 13) rfl ?_
    refine v_if_eq hG dX7_court_13 (tgt := 23) rfl (q := 16) rfl (fun hc => ?_) (fun hc => ?_)
    · replace h := ifp hc h
      refine v_aload_0 hG dX7_court_23 (q := 24) rfl ?_
      refine v_ldc hG kc_RX7_40 dX7_court_24 (q := 26) rfl ?_
      obtain ⟨r_4, hr_4, h⟩ := bnd h
      refine v_cV1I hG cvX7_finds ml_RX7_68 rfl kk_59 (w_X7_finds hr_4) (Nat.le_of_ble_eq_true rfl) dX7_court_26 (q := 29) rfl ?_
      exact v_iret hG hR rfl rfl (sp2t h) dX7_court_29
    · replace h := ifn hc h
      refine v_iload_3 hG dX7_court_16 (q := 17) rfl ?_
      obtain ⟨r_5, hr_5, h⟩ := bnd h
      refine v_cS1I hG csX7_isSaying ml_RX7_60 rfl (w_X7_isSaying hr_5) (Nat.le_of_ble_eq_true rfl) dX7_court_17 (q := 20) rfl ?_
      refine v_if_ne hG dX7_court_20 (tgt := 30) rfl (q := 23) rfl (fun hc => ?_) (fun hc => ?_)
      · replace h := ifn hc h
        refine v_aload_0 hG dX7_court_30 (q := 31) rfl ?_
        refine v_iload_2 hG dX7_court_31 (q := 32) rfl ?_
        refine v_aload_0 hG dX7_court_32 (q := 33) rfl ?_
        refine v_iload_1 hG dX7_court_33 (q := 34) rfl ?_
        refine v_iload_3 hG dX7_court_34 (q := 35) rfl ?_
        obtain ⟨r_6, hr_6, h⟩ := bnd h
        refine v_cV2I hG cvX7_putBy ml_RX7_126 rfl kk_59 (w_X7_putBy hr_6) (Nat.le_of_ble_eq_true rfl) dX7_court_35 (q := 38) rfl ?_
        obtain ⟨r_7, hr_7, h⟩ := bnd h
        refine v_cV2I hG cvX7_putBy ml_RX7_126 rfl kk_59 (w_X7_putBy hr_7) (Nat.le_of_ble_eq_true rfl) dX7_court_38 (q := 41) rfl ?_
        refine v_istore_4 hG rfl dX7_court_41 (q := 43) rfl ?_
        refine v_iload_3 hG dX7_court_43 (q := 44) rfl ?_
        refine v_iload_4 hG dX7_court_44 (q := 46) rfl ?_
        refine v_iconst hG ci_m1 dX7_court_46 (q := 47) rfl ?_
        refine v_ixor hG dX7_court_47 (q := 48) rfl ?_
        refine v_iand hG dX7_court_48 (q := 49) rfl ?_
        obtain ⟨r_8, hr_8, h⟩ := bnd h
        refine v_cS1I hG csX7_ones ml_RX7_162 rfl (w_X7_ones hr_8) (Nat.le_of_ble_eq_true rfl) dX7_court_49 (q := 52) rfl ?_
        refine v_bipush hG cb_100 dX7_court_52 (q := 54) rfl ?_
        refine v_iload_4 hG dX7_court_54 (q := 56) rfl ?_
        refine v_iload_3 hG dX7_court_56 (q := 57) rfl ?_
        refine v_iconst hG ci_m1 dX7_court_57 (q := 58) rfl ?_
        refine v_ixor hG dX7_court_58 (q := 59) rfl ?_
        refine v_iand hG dX7_court_59 (q := 60) rfl ?_
        obtain ⟨r_9, hr_9, h⟩ := bnd h
        refine v_cS1I hG csX7_ones ml_RX7_162 rfl (w_X7_ones hr_9) (Nat.le_of_ble_eq_true rfl) dX7_court_60 (q := 63) rfl ?_
        refine v_imul hG dX7_court_63 (q := 64) rfl ?_
        refine v_iadd hG dX7_court_64 (q := 65) rfl ?_
        exact v_iret hG hR rfl rfl (sp2t h) dX7_court_65
      · replace h := ifp hc h
        refine v_aload_0 hG dX7_court_23 (q := 24) rfl ?_
        refine v_ldc hG kc_RX7_40 dX7_court_24 (q := 26) rfl ?_
        obtain ⟨r_10, hr_10, h⟩ := bnd h
        refine v_cV1I hG cvX7_finds ml_RX7_68 rfl kk_59 (w_X7_finds hr_10) (Nat.le_of_ble_eq_true rfl) dX7_court_26 (q := 29) rfl ?_
        exact v_iret hG hR rfl rfl (sp2t h) dX7_court_29
theorem cvX7_court : CVo mX7_court 3 7 := ⟨moX7_court, mvX7_court, by decide, _, _, rfl⟩
theorem w_X7_witness_j95 {E : EB} {G : GB} (hG : Gd E mX7_witness G) {M : Mem} {R : Int32 × Mem} (hR : Rt E mX7_witness (PI R.1 R.2) G) {k24 : Int32 → Int32 → Int32 → Int32 → Mem → Option (Int32 × Mem)} (hk24 : ∀ (x1 : Int32) (x2 : Int32) (x3 : Int32) (x4 : Int32) (M : Mem), k24 x1 x2 x3 x4 M = some R → V E G 24 [some (.ref 59), some (.int x1), some (.int x2), some (.int x3), some (.int x4), none, none] [] M) {x1 : Int32} {x3 : Int32} {x4 : Int32} {x5 : Int32} {t0 : Int32} (h : f_X7_witness_j95 k24 x1 x3 x4 x5 t0 M = some R) : V E G 95 [some (.ref 59), some (.int x1), none, some (.int x3), some (.int x4), some (.int x5), none] [.int t0] M := by
  unfold f_X7_witness_j95 at h
  refine v_istore_2 hG rfl dX7_witness_95 (q := 96) rfl ?_
  refine v_iload_5 hG dX7_witness_96 (q := 98) rfl ?_
  refine v_iload_3 hG dX7_witness_98 (q := 99) rfl ?_
  refine v_icmp_ge hG dX7_witness_99 (tgt := 107) rfl (q := 102) rfl (fun hc => ?_) (fun hc => ?_)
  · replace h := ifp hc h
    refine v_iload_3 hG dX7_witness_107 (q := 108) rfl ?_
    refine v_istore_3 hG rfl dX7_witness_108 (q := 109) rfl ?_
    refine v_iinc_4 hG rfl dX7_witness_109 (congrArg _ ci_1) (q := 112) rfl ?_
    refine v_goto hG dX7_witness_112 (tgt := 24) rfl ?_
    refine v_drop (n := 5) (L' := [some (.ref 59), some (.int x1), some (.int t0), some (.int x3), some (.int (x4 + (1 : Int32))), none, none]) rfl ?_
    exact hk24 _ _ _ _ _ h
  · replace h := ifn hc h
    refine v_iload_5 hG dX7_witness_102 (q := 104) rfl ?_
    refine v_goto hG dX7_witness_104 (tgt := 108) rfl ?_
    refine v_istore_3 hG rfl dX7_witness_108 (q := 109) rfl ?_
    refine v_iinc_4 hG rfl dX7_witness_109 (congrArg _ ci_1) (q := 112) rfl ?_
    refine v_goto hG dX7_witness_112 (tgt := 24) rfl ?_
    refine v_drop (n := 5) (L' := [some (.ref 59), some (.int x1), some (.int t0), some (.int x5), some (.int (x4 + (1 : Int32))), none, none]) rfl ?_
    exact hk24 _ _ _ _ _ h
theorem w_X7_witness_b41 {E : EB} {G : GB} (hG : Gd E mX7_witness G) {M : Mem} {R : Int32 × Mem} (hR : Rt E mX7_witness (PI R.1 R.2) G) {k24 : Int32 → Int32 → Int32 → Int32 → Mem → Option (Int32 × Mem)} {k41 : Int32 → Int32 → Int32 → Int32 → Int32 → Int32 → Mem → Option (Int32 × Mem)} (hk24 : ∀ (x1 : Int32) (x2 : Int32) (x3 : Int32) (x4 : Int32) (M : Mem), k24 x1 x2 x3 x4 M = some R → V E G 24 [some (.ref 59), some (.int x1), some (.int x2), some (.int x3), some (.int x4), none, none] [] M) (hk41 : ∀ (x1 : Int32) (x2 : Int32) (x3 : Int32) (x4 : Int32) (x5 : Int32) (x6 : Int32) (M : Mem), k41 x1 x2 x3 x4 x5 x6 M = some R → V E G 41 [some (.ref 59), some (.int x1), some (.int x2), some (.int x3), some (.int x4), some (.int x5), some (.int x6)] [] M) {x1 : Int32} {x2 : Int32} {x3 : Int32} {x4 : Int32} {x5 : Int32} {x6 : Int32} (h : f_X7_witness_b41 k24 k41 x1 x2 x3 x4 x5 x6 M = some R) : V E G 41 [some (.ref 59), some (.int x1), some (.int x2), some (.int x3), some (.int x4), some (.int x5), some (.int x6)] [] M := by
  unfold f_X7_witness_b41 at h
  refine v_iload_6 hG dX7_witness_41 (q := 43) rfl ?_
  refine v_sipush hG cs_4096 dX7_witness_43 (q := 46) rfl ?_
  refine v_icmp_ge hG dX7_witness_46 (tgt := 83) rfl (q := 49) rfl (fun hc => ?_) (fun hc => ?_)
  · replace h := ifp hc h
    refine v_iload_5 hG dX7_witness_83 (q := 85) rfl ?_
    refine v_iload_3 hG dX7_witness_85 (q := 86) rfl ?_
    refine v_icmp_ge hG dX7_witness_86 (tgt := 94) rfl (q := 89) rfl (fun hc => ?_) (fun hc => ?_)
    · replace h := ifp hc h
      refine v_iload_2 hG dX7_witness_94 (q := 95) rfl ?_
      refine v_drop (n := 2) (L' := [some (.ref 59), some (.int x1), none, some (.int x3), some (.int x4), some (.int x5), some (.int x6)]) rfl ?_
      refine v_drop (n := 6) (L' := [some (.ref 59), some (.int x1), none, some (.int x3), some (.int x4), some (.int x5), none]) rfl ?_
      exact w_X7_witness_j95 hG hR hk24 h
    · replace h := ifn hc h
      refine v_iload_4 hG dX7_witness_89 (q := 91) rfl ?_
      refine v_goto hG dX7_witness_91 (tgt := 95) rfl ?_
      refine v_drop (n := 2) (L' := [some (.ref 59), some (.int x1), none, some (.int x3), some (.int x4), some (.int x5), some (.int x6)]) rfl ?_
      refine v_drop (n := 6) (L' := [some (.ref 59), some (.int x1), none, some (.int x3), some (.int x4), some (.int x5), none]) rfl ?_
      exact w_X7_witness_j95 hG hR hk24 h
  · replace h := ifn hc h
    refine v_iload_5 hG dX7_witness_49 (q := 51) rfl ?_
    refine v_aload_0 hG dX7_witness_51 (q := 52) rfl ?_
    refine v_iload_4 hG dX7_witness_52 (q := 54) rfl ?_
    refine v_aload_0 hG dX7_witness_54 (q := 55) rfl ?_
    refine v_iload_1 hG dX7_witness_55 (q := 56) rfl ?_
    refine v_iload_6 hG dX7_witness_56 (q := 58) rfl ?_
    obtain ⟨r_4, hr_4, h⟩ := bnd h
    refine v_cV2I hG cvX7_putBy ml_RX7_126 rfl kk_59 (w_X7_putBy hr_4) (Nat.le_of_ble_eq_true rfl) dX7_witness_58 (q := 61) rfl ?_
    obtain ⟨r_5, hr_5, h⟩ := bnd h
    refine v_cV2I hG cvX7_putBy ml_RX7_126 rfl kk_59 (w_X7_putBy hr_5) (Nat.le_of_ble_eq_true rfl) dX7_witness_61 (q := 64) rfl ?_
    refine v_iload_6 hG dX7_witness_64 (q := 66) rfl ?_
    refine v_icmp_ne hG dX7_witness_66 (tgt := 73) rfl (q := 69) rfl (fun hc => ?_) (fun hc => ?_)
    · replace h := ifn hc h
      refine v_iconst hG ci_1 dX7_witness_73 (q := 74) rfl ?_
      refine v_iadd hG dX7_witness_74 (q := 75) rfl ?_
      refine v_topi (fun x5_6 hy => ?_)
      replace h := letv_at hy h
      clear hy
      refine v_istore_5 hG rfl dX7_witness_75 (q := 77) rfl ?_
      refine v_iinc_6 hG rfl dX7_witness_77 (congrArg _ ci_1) (q := 80) rfl ?_
      refine v_goto hG dX7_witness_80 (tgt := 41) rfl ?_
      exact hk41 _ _ _ _ _ _ _ h
    · replace h := ifp hc h
      refine v_iconst hG ci_0 dX7_witness_69 (q := 70) rfl ?_
      refine v_goto hG dX7_witness_70 (tgt := 74) rfl ?_
      refine v_iadd hG dX7_witness_74 (q := 75) rfl ?_
      refine v_topi (fun x5_7 hy => ?_)
      replace h := letv_at hy h
      clear hy
      refine v_istore_5 hG rfl dX7_witness_75 (q := 77) rfl ?_
      refine v_iinc_6 hG rfl dX7_witness_77 (congrArg _ ci_1) (q := 80) rfl ?_
      refine v_goto hG dX7_witness_80 (tgt := 41) rfl ?_
      exact hk41 _ _ _ _ _ _ _ h
theorem w_X7_witness_l41 {E : EB} {G : GB} (hG : Gd E mX7_witness G) {R : Int32 × Mem} (hR : Rt E mX7_witness (PI R.1 R.2) G) {k24 : Int32 → Int32 → Int32 → Int32 → Mem → Option (Int32 × Mem)} (hk24 : ∀ (x1 : Int32) (x2 : Int32) (x3 : Int32) (x4 : Int32) (M : Mem), k24 x1 x2 x3 x4 M = some R → V E G 24 [some (.ref 59), some (.int x1), some (.int x2), some (.int x3), some (.int x4), none, none] [] M) : ∀ (n : Nat) (x1 : Int32) (x2 : Int32) (x3 : Int32) (x4 : Int32) (x5 : Int32) (x6 : Int32) (M : Mem), f_X7_witness_l41 k24 n x1 x2 x3 x4 x5 x6 M = some R → V E G 41 [some (.ref 59), some (.int x1), some (.int x2), some (.int x3), some (.int x4), some (.int x5), some (.int x6)] [] M := by
  intro n
  induction n with
  | zero => intro x1 x2 x3 x4 x5 x6 M h; cases h
  | succ n ih => intro x1 x2 x3 x4 x5 x6 M h; exact w_X7_witness_b41 hG hR hk24 ih h
theorem w_X7_witness_b24 {E : EB} {G : GB} (hG : Gd E mX7_witness G) {M : Mem} {R : Int32 × Mem} (hR : Rt E mX7_witness (PI R.1 R.2) G) {k24 : Int32 → Int32 → Int32 → Int32 → Mem → Option (Int32 × Mem)} (hk24 : ∀ (x1 : Int32) (x2 : Int32) (x3 : Int32) (x4 : Int32) (M : Mem), k24 x1 x2 x3 x4 M = some R → V E G 24 [some (.ref 59), some (.int x1), some (.int x2), some (.int x3), some (.int x4), none, none] [] M) {x1 : Int32} {x2 : Int32} {x3 : Int32} {x4 : Int32} (h : f_X7_witness_b24 k24 x1 x2 x3 x4 M = some R) : V E G 24 [some (.ref 59), some (.int x1), some (.int x2), some (.int x3), some (.int x4), none, none] [] M := by
  unfold f_X7_witness_b24 at h
  refine v_iload_4 hG dX7_witness_24 (q := 26) rfl ?_
  refine v_aload_0 hG dX7_witness_26 (q := 27) rfl ?_
  refine gt_RX7_7 hG rfl kk_59 dX7_witness_27 (q := 30) rfl ?_
  refine v_iconst hG ci_0 dX7_witness_30 (q := 31) rfl ?_
  obtain ⟨c_3, h⟩ := ck_some h
  refine v_iald hG kk_60 rfl c_3 dX7_witness_31 (q := 32) rfl ?_
  refine v_icmp_ge hG dX7_witness_32 (tgt := 115) rfl (q := 35) rfl (fun hc => ?_) (fun hc => ?_)
  · replace h := ifp hc h
    refine v_iload_2 hG dX7_witness_115 (q := 116) rfl ?_
    exact v_iret hG hR rfl rfl (sp2t h) dX7_witness_116
  · replace h := ifn hc h
    refine v_iconst hG ci_0 dX7_witness_35 (q := 36) rfl ?_
    refine v_istore_5 hG rfl dX7_witness_36 (q := 38) rfl ?_
    refine v_iconst hG ci_0 dX7_witness_38 (q := 39) rfl ?_
    refine v_istore_6 hG rfl dX7_witness_39 (q := 41) rfl ?_
    exact w_X7_witness_l41 hG hR hk24 FU _ _ _ _ _ _ _ h
theorem w_X7_witness_l24 {E : EB} {G : GB} (hG : Gd E mX7_witness G) {R : Int32 × Mem} (hR : Rt E mX7_witness (PI R.1 R.2) G) : ∀ (n : Nat) (x1 : Int32) (x2 : Int32) (x3 : Int32) (x4 : Int32) (M : Mem), f_X7_witness_l24 n x1 x2 x3 x4 M = some R → V E G 24 [some (.ref 59), some (.int x1), some (.int x2), some (.int x3), some (.int x4), none, none] [] M := by
  intro n
  induction n with
  | zero => intro x1 x2 x3 x4 M h; cases h
  | succ n ih => intro x1 x2 x3 x4 M h; exact w_X7_witness_b24 hG hR ih h
theorem w_X7_witness {E : EB} {x1 : Int32} {M : Mem} {R : Int32 × Mem} (h : f_X7_witness x1 M = some R) : Mt E mX7_witness [.ref 59, .int x1] M (PI R.1 R.2) := by
  refine mt_of (L0 := [some (.ref 59), some (.int x1), none, none, none, none, none]) (by decide) rfl rfl (fun G hG hR => ?_)
  unfold f_X7_witness at h
  refine v_aload_0 hG dX7_witness_0 (q := 1) rfl ?_
  refine v_iload_1 hG dX7_witness_1 (q := 2) rfl ?_
  obtain ⟨r_1, hr_1, h⟩ := bnd h
  refine v_cV1I hG cvX7_isWriter ml_RX7_76 rfl kk_59 (w_X7_isWriter hr_1) (Nat.le_of_ble_eq_true rfl) dX7_witness_2 (q := 5) rfl ?_
  refine v_if_ne hG dX7_witness_5 (tgt := 15) rfl (q := 8) rfl (fun hc => ?_) (fun hc => ?_)
  · replace h := ifn hc h
    refine v_iconst hG ci_0 dX7_witness_15 (q := 16) rfl ?_
    refine v_istore_2 hG rfl dX7_witness_16 (q := 17) rfl ?_
    refine v_sipush hG cs_9999 dX7_witness_17 (q := 20) rfl ?_
    refine v_istore_3 hG rfl dX7_witness_20 (q := 21) rfl ?_
    refine v_iconst hG ci_0 dX7_witness_21 (q := 22) rfl ?_
    refine v_istore_4 hG rfl dX7_witness_22 (q := 24) rfl ?_
    exact w_X7_witness_l24 hG hR FU _ _ _ _ _ h
  · replace h := ifp hc h
    refine v_aload_0 hG dX7_witness_8 (q := 9) rfl ?_
    refine v_ldc hG kc_RX7_40 dX7_witness_9 (q := 11) rfl ?_
    obtain ⟨r_2, hr_2, h⟩ := bnd h
    refine v_cV1I hG cvX7_finds ml_RX7_68 rfl kk_59 (w_X7_finds hr_2) (Nat.le_of_ble_eq_true rfl) dX7_witness_11 (q := 14) rfl ?_
    exact v_iret hG hR rfl rfl (sp2t h) dX7_witness_14
theorem cvX7_witness : CVo mX7_witness 1 7 := ⟨moX7_witness, mvX7_witness, by decide, _, _, rfl⟩
theorem w_X7_price_j105 {E : EB} {G : GB} (hG : Gd E mX7_price G) {M : Mem} {R : Int32 × Mem} (hR : Rt E mX7_price (PI R.1 R.2) G) {k54 : Int32 → Int32 → Int32 → Int32 → Int32 → Mem → Option (Int32 × Mem)} (hk54 : ∀ (x1 : Int32) (x2 : Int32) (x3 : Int32) (x4 : Int32) (x5 : Int32) (M : Mem), k54 x1 x2 x3 x4 x5 M = some R → V E G 54 [some (.ref 59), some (.int x1), some (.int x2), some (.int x3), some (.int x4), some (.int x5), none, none] [] M) {x1 : Int32} {x2 : Int32} {x4 : Int32} {x5 : Int32} {x7 : Int32} {t0 : Int32} (h : f_X7_price_j105 k54 x1 x2 x4 x5 x7 t0 M = some R) : V E G 105 [some (.ref 59), some (.int x1), some (.int x2), none, some (.int x4), some (.int x5), none, some (.int x7)] [.int t0] M := by
  unfold f_X7_price_j105 at h
  refine v_istore_3 hG rfl dX7_price_105 (q := 106) rfl ?_
  refine v_iload_7 hG dX7_price_106 (q := 108) rfl ?_
  refine v_iload_4 hG dX7_price_108 (q := 110) rfl ?_
  refine v_icmp_le hG dX7_price_110 (tgt := 118) rfl (q := 113) rfl (fun hc => ?_) (fun hc => ?_)
  · replace h := ifp hc h
    refine v_iload_4 hG dX7_price_118 (q := 120) rfl ?_
    refine v_istore_4 hG rfl dX7_price_120 (q := 122) rfl ?_
    refine v_iinc_5 hG rfl dX7_price_122 (congrArg _ ci_1) (q := 125) rfl ?_
    refine v_goto hG dX7_price_125 (tgt := 54) rfl ?_
    refine v_drop (n := 7) (L' := [some (.ref 59), some (.int x1), some (.int x2), some (.int t0), some (.int x4), some (.int (x5 + (1 : Int32))), none, none]) rfl ?_
    exact hk54 _ _ _ _ _ _ h
  · replace h := ifn hc h
    refine v_iload_7 hG dX7_price_113 (q := 115) rfl ?_
    refine v_goto hG dX7_price_115 (tgt := 120) rfl ?_
    refine v_istore_4 hG rfl dX7_price_120 (q := 122) rfl ?_
    refine v_iinc_5 hG rfl dX7_price_122 (congrArg _ ci_1) (q := 125) rfl ?_
    refine v_goto hG dX7_price_125 (tgt := 54) rfl ?_
    refine v_drop (n := 7) (L' := [some (.ref 59), some (.int x1), some (.int x2), some (.int t0), some (.int x7), some (.int (x5 + (1 : Int32))), none, none]) rfl ?_
    exact hk54 _ _ _ _ _ _ h
theorem w_X7_price_b54 {E : EB} {G : GB} (hG : Gd E mX7_price G) {M : Mem} {R : Int32 × Mem} (hR : Rt E mX7_price (PI R.1 R.2) G) {k54 : Int32 → Int32 → Int32 → Int32 → Int32 → Mem → Option (Int32 × Mem)} (hk54 : ∀ (x1 : Int32) (x2 : Int32) (x3 : Int32) (x4 : Int32) (x5 : Int32) (M : Mem), k54 x1 x2 x3 x4 x5 M = some R → V E G 54 [some (.ref 59), some (.int x1), some (.int x2), some (.int x3), some (.int x4), some (.int x5), none, none] [] M) {x1 : Int32} {x2 : Int32} {x3 : Int32} {x4 : Int32} {x5 : Int32} (h : f_X7_price_b54 k54 x1 x2 x3 x4 x5 M = some R) : V E G 54 [some (.ref 59), some (.int x1), some (.int x2), some (.int x3), some (.int x4), some (.int x5), none, none] [] M := by
  unfold f_X7_price_b54 at h
  refine v_iload_5 hG dX7_price_54 (q := 56) rfl ?_
  refine v_bipush hG cb_100 dX7_price_56 (q := 58) rfl ?_
  refine v_icmp_ge hG dX7_price_58 (tgt := 128) rfl (q := 61) rfl (fun hc => ?_) (fun hc => ?_)
  · replace h := ifp hc h
    refine v_iload_3 hG dX7_price_128 (q := 129) rfl ?_
    exact v_iret hG hR rfl rfl (sp2t h) dX7_price_129
  · replace h := ifn hc h
    refine v_aload_0 hG dX7_price_61 (q := 62) rfl ?_
    refine gt_RX7_7 hG rfl kk_59 dX7_price_62 (q := 65) rfl ?_
    refine v_iload_1 hG dX7_price_65 (q := 66) rfl ?_
    refine v_iconst hG ci_4 dX7_price_66 (q := 67) rfl ?_
    obtain ⟨r_8, hr_8, h⟩ := bnd h
    refine v_cS2I hG csX7_at ml_RX7_50 rfl (w_X7_at hr_8) (Nat.le_of_ble_eq_true rfl) dX7_price_67 (q := 70) rfl ?_
    refine v_iload_5 hG dX7_price_70 (q := 72) rfl ?_
    obtain ⟨c_9, h⟩ := ck_some h
    refine v_iast hG kk_60 rfl c_9 dX7_price_72 (q := 73) rfl ?_
    refine v_topM (fun M_10 hy => ?_)
    replace h := letv_at hy h
    clear hy
    refine v_aload_0 hG dX7_price_73 (q := 74) rfl ?_
    refine v_iload_2 hG dX7_price_74 (q := 75) rfl ?_
    obtain ⟨r_11, hr_11, h⟩ := bnd h
    refine v_cV1I hG cvX7_yearsGo ml_RX7_159 rfl kk_59 (w_X7_yearsGo hr_11) (Nat.le_of_ble_eq_true rfl) dX7_price_75 (q := 78) rfl ?_
    refine v_istore_6 hG rfl dX7_price_78 (q := 80) rfl ?_
    refine v_aload_0 hG dX7_price_80 (q := 81) rfl ?_
    refine v_iload_1 hG dX7_price_81 (q := 82) rfl ?_
    refine v_iconst hG ci_5 dX7_price_82 (q := 83) rfl ?_
    obtain ⟨r_12, hr_12, h⟩ := bnd h
    refine v_cV2I hG cvX7_its ml_RX7_81 rfl kk_59 (w_X7_its hr_12) (Nat.le_of_ble_eq_true rfl) dX7_price_83 (q := 86) rfl ?_
    refine v_istore_7 hG rfl dX7_price_86 (q := 88) rfl ?_
    refine v_aload_0 hG dX7_price_88 (q := 89) rfl ?_
    obtain ⟨r_13, hr_13, h⟩ := bnd h
    refine v_cV0V hG cvX7_putsBack ml_RX7_192 rfl kk_59 (w_X7_putsBack hr_13) (Nat.le_of_ble_eq_true rfl) dX7_price_89 (q := 92) rfl ?_
    refine v_iload_7 hG dX7_price_92 (q := 94) rfl ?_
    refine v_iload_4 hG dX7_price_94 (q := 96) rfl ?_
    refine v_icmp_le hG dX7_price_96 (tgt := 104) rfl (q := 99) rfl (fun hc => ?_) (fun hc => ?_)
    · replace h := ifp hc h
      refine v_iload_3 hG dX7_price_104 (q := 105) rfl ?_
      refine v_drop (n := 3) (L' := [some (.ref 59), some (.int x1), some (.int x2), none, some (.int x4), some (.int x5), some (.int r_11.1), some (.int r_12)]) rfl ?_
      refine v_drop (n := 6) (L' := [some (.ref 59), some (.int x1), some (.int x2), none, some (.int x4), some (.int x5), none, some (.int r_12)]) rfl ?_
      exact w_X7_price_j105 hG hR hk54 h
    · replace h := ifn hc h
      refine v_iload_5 hG dX7_price_99 (q := 101) rfl ?_
      refine v_goto hG dX7_price_101 (tgt := 105) rfl ?_
      refine v_drop (n := 3) (L' := [some (.ref 59), some (.int x1), some (.int x2), none, some (.int x4), some (.int x5), some (.int r_11.1), some (.int r_12)]) rfl ?_
      refine v_drop (n := 6) (L' := [some (.ref 59), some (.int x1), some (.int x2), none, some (.int x4), some (.int x5), none, some (.int r_12)]) rfl ?_
      exact w_X7_price_j105 hG hR hk54 h
theorem w_X7_price_l54 {E : EB} {G : GB} (hG : Gd E mX7_price G) {R : Int32 × Mem} (hR : Rt E mX7_price (PI R.1 R.2) G) : ∀ (n : Nat) (x1 : Int32) (x2 : Int32) (x3 : Int32) (x4 : Int32) (x5 : Int32) (M : Mem), f_X7_price_l54 n x1 x2 x3 x4 x5 M = some R → V E G 54 [some (.ref 59), some (.int x1), some (.int x2), some (.int x3), some (.int x4), some (.int x5), none, none] [] M := by
  intro n
  induction n with
  | zero => intro x1 x2 x3 x4 x5 M h; cases h
  | succ n ih => intro x1 x2 x3 x4 x5 M h; exact w_X7_price_b54 hG hR ih h
theorem w_X7_price {E : EB} {x1 : Int32} {x2 : Int32} {M : Mem} {R : Int32 × Mem} (h : f_X7_price x1 x2 M = some R) : Mt E mX7_price [.ref 59, .int x1, .int x2] M (PI R.1 R.2) := by
  refine mt_of (L0 := [some (.ref 59), some (.int x1), some (.int x2), none, none, none, none, none]) (by decide) rfl rfl (fun G hG hR => ?_)
  unfold f_X7_price at h
  refine v_aload_0 hG dX7_price_0 (q := 1) rfl ?_
  refine v_iload_1 hG dX7_price_1 (q := 2) rfl ?_
  obtain ⟨r_1, hr_1, h⟩ := bnd h
  refine v_cV1I hG cvX7_isWriter ml_RX7_76 rfl kk_59 (w_X7_isWriter hr_1) (Nat.le_of_ble_eq_true rfl) dX7_price_2 (q := 5) rfl ?_
  refine v_if_eq hG dX7_price_5 (tgt := 20) rfl (q := 8) rfl (fun hc => ?_) (fun hc => ?_)
  · replace h := ifp hc h
    refine v_aload_0 hG dX7_price_20 (q := 21) rfl ?_
    refine v_ldc hG kc_RX7_40 dX7_price_21 (q := 23) rfl ?_
    obtain ⟨r_2, hr_2, h⟩ := bnd h
    refine v_cV1I hG cvX7_finds ml_RX7_68 rfl kk_59 (w_X7_finds hr_2) (Nat.le_of_ble_eq_true rfl) dX7_price_23 (q := 26) rfl ?_
    exact v_iret hG hR rfl rfl (sp2t h) dX7_price_26
  · replace h := ifn hc h
    refine v_iload_2 hG dX7_price_8 (q := 9) rfl ?_
    refine v_i2l hG dX7_price_9 (q := 10) rfl ?_
    refine v_lconst hG cl_1 dX7_price_10 (q := 11) rfl ?_
    refine v_ldc2 hG kl_RX7_220 dX7_price_11 (q := 14) rfl ?_
    obtain ⟨r_3, hr_3, h⟩ := bnd h
    refine v_cS3I hG csX7_in ml_RX7_43 rfl (w_X7_in hr_3) (Nat.le_of_ble_eq_true rfl) dX7_price_14 (q := 17) rfl ?_
    refine v_if_ne hG dX7_price_17 (tgt := 27) rfl (q := 20) rfl (fun hc => ?_) (fun hc => ?_)
    · replace h := ifn hc h
      refine v_aload_0 hG dX7_price_27 (q := 28) rfl ?_
      refine v_iload_2 hG dX7_price_28 (q := 29) rfl ?_
      obtain ⟨r_4, hr_4, h⟩ := bnd h
      refine v_cV1I hG cvX7_isTooLate ml_RX7_156 rfl kk_59 (w_X7_isTooLate hr_4) (Nat.le_of_ble_eq_true rfl) dX7_price_29 (q := 32) rfl ?_
      refine v_if_eq hG dX7_price_32 (tgt := 42) rfl (q := 35) rfl (fun hc => ?_) (fun hc => ?_)
      · replace h := ifp hc h
        refine v_aload_0 hG dX7_price_42 (q := 43) rfl ?_
        obtain ⟨r_5, hr_5, h⟩ := bnd h
        refine v_cV0V hG cvX7_saves ml_RX7_183 rfl kk_59 (w_X7_saves hr_5) (Nat.le_of_ble_eq_true rfl) dX7_price_43 (q := 46) rfl ?_
        refine v_iconst hG ci_0 dX7_price_46 (q := 47) rfl ?_
        refine v_istore_3 hG rfl dX7_price_47 (q := 48) rfl ?_
        refine v_iconst hG ci_m1 dX7_price_48 (q := 49) rfl ?_
        refine v_istore_4 hG rfl dX7_price_49 (q := 51) rfl ?_
        refine v_iconst hG ci_0 dX7_price_51 (q := 52) rfl ?_
        refine v_istore_5 hG rfl dX7_price_52 (q := 54) rfl ?_
        exact w_X7_price_l54 hG hR FU _ _ _ _ _ _ h
      · replace h := ifn hc h
        refine v_aload_0 hG dX7_price_35 (q := 36) rfl ?_
        refine v_ldc hG kc_RX7_150 dX7_price_36 (q := 38) rfl ?_
        obtain ⟨r_6, hr_6, h⟩ := bnd h
        refine v_cV1I hG cvX7_finds ml_RX7_68 rfl kk_59 (w_X7_finds hr_6) (Nat.le_of_ble_eq_true rfl) dX7_price_38 (q := 41) rfl ?_
        exact v_iret hG hR rfl rfl (sp2t h) dX7_price_41
    · replace h := ifp hc h
      refine v_aload_0 hG dX7_price_20 (q := 21) rfl ?_
      refine v_ldc hG kc_RX7_40 dX7_price_21 (q := 23) rfl ?_
      obtain ⟨r_7, hr_7, h⟩ := bnd h
      refine v_cV1I hG cvX7_finds ml_RX7_68 rfl kk_59 (w_X7_finds hr_7) (Nat.le_of_ble_eq_true rfl) dX7_price_23 (q := 26) rfl ?_
      exact v_iret hG hR rfl rfl (sp2t h) dX7_price_26
theorem cvX7_price : CVo mX7_price 2 7 := ⟨moX7_price, mvX7_price, by decide, _, _, rfl⟩
theorem w_X7_school_b60 {E : EB} {G : GB} (hG : Gd E mX7_school G) {M : Mem} {R : Int32 × Mem} (hR : Rt E mX7_school (PI R.1 R.2) G) {k60 : Int32 → Int32 → Int32 → Mem → Option (Int32 × Mem)} (hk60 : ∀ (x1 : Int32) (x2 : Int32) (x3 : Int32) (M : Mem), k60 x1 x2 x3 M = some R → V E G 60 [some (.ref 59), some (.int x1), some (.int x2), some (.int x3)] [] M) {x1 : Int32} {x2 : Int32} {x3 : Int32} (h : f_X7_school_b60 k60 x1 x2 x3 M = some R) : V E G 60 [some (.ref 59), some (.int x1), some (.int x2), some (.int x3)] [] M := by
  unfold f_X7_school_b60 at h
  refine v_iload_3 hG dX7_school_60 (q := 61) rfl ?_
  refine v_aload_0 hG dX7_school_61 (q := 62) rfl ?_
  refine gt_RX7_7 hG rfl kk_59 dX7_school_62 (q := 65) rfl ?_
  refine v_iconst hG ci_1 dX7_school_65 (q := 66) rfl ?_
  obtain ⟨c_10, h⟩ := ck_some h
  refine v_iald hG kk_60 rfl c_10 dX7_school_66 (q := 67) rfl ?_
  refine v_icmp_ge hG dX7_school_67 (tgt := 88) rfl (q := 70) rfl (fun hc => ?_) (fun hc => ?_)
  · replace h := ifp hc h
    refine v_aload_0 hG dX7_school_88 (q := 89) rfl ?_
    refine v_iconst hG ci_0 dX7_school_89 (q := 90) rfl ?_
    refine pt_RX7_142 hG rfl kk_59 dX7_school_90 (q := 93) rfl ?_
    refine v_topM (fun M_11 hy => ?_)
    replace h := letv_at hy h
    clear hy
    refine v_aload_0 hG dX7_school_93 (q := 94) rfl ?_
    obtain ⟨r_12, hr_12, h⟩ := bnd h
    refine v_cV0V hG cvX7_year ml_RX7_151 rfl kk_59 (w_X7_year hr_12) (Nat.le_of_ble_eq_true rfl) dX7_school_94 (q := 97) rfl ?_
    refine v_aload_0 hG dX7_school_97 (q := 98) rfl ?_
    obtain ⟨r_13, hr_13, h⟩ := bnd h
    refine v_cV0V hG cvX7_putsBack ml_RX7_192 rfl kk_59 (w_X7_putsBack hr_13) (Nat.le_of_ble_eq_true rfl) dX7_school_98 (q := 101) rfl ?_
    refine v_iload_2 hG dX7_school_101 (q := 102) rfl ?_
    refine v_aload_0 hG dX7_school_102 (q := 103) rfl ?_
    refine gt_RX7_142 hG rfl kk_59 dX7_school_103 (q := 106) rfl ?_
    refine v_isub hG dX7_school_106 (q := 107) rfl ?_
    exact v_iret hG hR rfl rfl (sp2t h) dX7_school_107
  · replace h := ifn hc h
    refine v_aload_0 hG dX7_school_70 (q := 71) rfl ?_
    refine gt_RX7_7 hG rfl kk_59 dX7_school_71 (q := 74) rfl ?_
    refine v_iload_3 hG dX7_school_74 (q := 75) rfl ?_
    refine v_iconst hG ci_4 dX7_school_75 (q := 76) rfl ?_
    obtain ⟨r_14, hr_14, h⟩ := bnd h
    refine v_cS2I hG csX7_where ml_RX7_84 rfl (w_X7_where hr_14) (Nat.le_of_ble_eq_true rfl) dX7_school_76 (q := 79) rfl ?_
    refine v_iconst hG ci_1 dX7_school_79 (q := 80) rfl ?_
    obtain ⟨c_15, h⟩ := ck_some h
    refine v_iast hG kk_60 rfl c_15 dX7_school_80 (q := 81) rfl ?_
    refine v_topM (fun M_16 hy => ?_)
    replace h := letv_at hy h
    clear hy
    refine v_iload_3 hG dX7_school_81 (q := 82) rfl ?_
    refine v_iload_1 hG dX7_school_82 (q := 83) rfl ?_
    refine v_iadd hG dX7_school_83 (q := 84) rfl ?_
    refine v_topi (fun x3_17 hy => ?_)
    replace h := letv_at hy h
    clear hy
    refine v_istore_3 hG rfl dX7_school_84 (q := 85) rfl ?_
    refine v_goto hG dX7_school_85 (tgt := 60) rfl ?_
    exact hk60 _ _ _ _ h
theorem w_X7_school_l60 {E : EB} {G : GB} (hG : Gd E mX7_school G) {R : Int32 × Mem} (hR : Rt E mX7_school (PI R.1 R.2) G) : ∀ (n : Nat) (x1 : Int32) (x2 : Int32) (x3 : Int32) (M : Mem), f_X7_school_l60 n x1 x2 x3 M = some R → V E G 60 [some (.ref 59), some (.int x1), some (.int x2), some (.int x3)] [] M := by
  intro n
  induction n with
  | zero => intro x1 x2 x3 M h; cases h
  | succ n ih => intro x1 x2 x3 M h; exact w_X7_school_b60 hG hR ih h
theorem w_X7_school {E : EB} {x1 : Int32} {M : Mem} {R : Int32 × Mem} (h : f_X7_school x1 M = some R) : Mt E mX7_school [.ref 59, .int x1] M (PI R.1 R.2) := by
  refine mt_of (L0 := [some (.ref 59), some (.int x1), none, none]) (by decide) rfl rfl (fun G hG hR => ?_)
  unfold f_X7_school at h
  refine v_iload_1 hG dX7_school_0 (q := 1) rfl ?_
  refine v_i2l hG dX7_school_1 (q := 2) rfl ?_
  refine v_ldc2 hG kl_RX7_218 dX7_school_2 (q := 5) rfl ?_
  refine v_ldc2 hG kl_RX7_225 dX7_school_5 (q := 8) rfl ?_
  obtain ⟨r_1, hr_1, h⟩ := bnd h
  refine v_cS3I hG csX7_in ml_RX7_43 rfl (w_X7_in hr_1) (Nat.le_of_ble_eq_true rfl) dX7_school_8 (q := 11) rfl ?_
  refine v_if_ne hG dX7_school_11 (tgt := 21) rfl (q := 14) rfl (fun hc => ?_) (fun hc => ?_)
  · replace h := ifn hc h
    refine v_aload_0 hG dX7_school_21 (q := 22) rfl ?_
    refine v_iconst hG ci_1 dX7_school_22 (q := 23) rfl ?_
    obtain ⟨r_2, hr_2, h⟩ := bnd h
    refine v_cV1I hG cvX7_isTooLate ml_RX7_156 rfl kk_59 (w_X7_isTooLate hr_2) (Nat.le_of_ble_eq_true rfl) dX7_school_23 (q := 26) rfl ?_
    refine v_if_eq hG dX7_school_26 (tgt := 36) rfl (q := 29) rfl (fun hc => ?_) (fun hc => ?_)
    · replace h := ifp hc h
      refine v_aload_0 hG dX7_school_36 (q := 37) rfl ?_
      obtain ⟨r_3, hr_3, h⟩ := bnd h
      refine v_cV0V hG cvX7_saves ml_RX7_183 rfl kk_59 (w_X7_saves hr_3) (Nat.le_of_ble_eq_true rfl) dX7_school_37 (q := 40) rfl ?_
      refine v_aload_0 hG dX7_school_40 (q := 41) rfl ?_
      refine v_iconst hG ci_0 dX7_school_41 (q := 42) rfl ?_
      refine pt_RX7_142 hG rfl kk_59 dX7_school_42 (q := 45) rfl ?_
      refine v_topM (fun M_4 hy => ?_)
      replace h := letv_at hy h
      clear hy
      refine v_aload_0 hG dX7_school_45 (q := 46) rfl ?_
      obtain ⟨r_5, hr_5, h⟩ := bnd h
      refine v_cV0V hG cvX7_year ml_RX7_151 rfl kk_59 (w_X7_year hr_5) (Nat.le_of_ble_eq_true rfl) dX7_school_46 (q := 49) rfl ?_
      refine v_aload_0 hG dX7_school_49 (q := 50) rfl ?_
      refine gt_RX7_142 hG rfl kk_59 dX7_school_50 (q := 53) rfl ?_
      refine v_topi (fun x2_6 hy => ?_)
      replace h := letv_at hy h
      clear hy
      refine v_istore_2 hG rfl dX7_school_53 (q := 54) rfl ?_
      refine v_aload_0 hG dX7_school_54 (q := 55) rfl ?_
      obtain ⟨r_7, hr_7, h⟩ := bnd h
      refine v_cV0V hG cvX7_putsBack ml_RX7_192 rfl kk_59 (w_X7_putsBack hr_7) (Nat.le_of_ble_eq_true rfl) dX7_school_55 (q := 58) rfl ?_
      refine v_iconst hG ci_0 dX7_school_58 (q := 59) rfl ?_
      refine v_istore_3 hG rfl dX7_school_59 (q := 60) rfl ?_
      exact w_X7_school_l60 hG hR FU _ _ _ _ h
    · replace h := ifn hc h
      refine v_aload_0 hG dX7_school_29 (q := 30) rfl ?_
      refine v_ldc hG kc_RX7_150 dX7_school_30 (q := 32) rfl ?_
      obtain ⟨r_8, hr_8, h⟩ := bnd h
      refine v_cV1I hG cvX7_finds ml_RX7_68 rfl kk_59 (w_X7_finds hr_8) (Nat.le_of_ble_eq_true rfl) dX7_school_32 (q := 35) rfl ?_
      exact v_iret hG hR rfl rfl (sp2t h) dX7_school_35
  · replace h := ifp hc h
    refine v_aload_0 hG dX7_school_14 (q := 15) rfl ?_
    refine v_ldc hG kc_RX7_40 dX7_school_15 (q := 17) rfl ?_
    obtain ⟨r_9, hr_9, h⟩ := bnd h
    refine v_cV1I hG cvX7_finds ml_RX7_68 rfl kk_59 (w_X7_finds hr_9) (Nat.le_of_ble_eq_true rfl) dX7_school_17 (q := 20) rfl ?_
    exact v_iret hG hR rfl rfl (sp2t h) dX7_school_20
theorem cvX7_school : CVo mX7_school 1 7 := ⟨moX7_school, mvX7_school, by decide, _, _, rfl⟩
theorem w_X7_gossip_b37 {E : EB} {G : GB} (hG : Gd E mX7_gossip G) {M : Mem} {R : Int32 × Mem} (hR : Rt E mX7_gossip (PI R.1 R.2) G) {k37 : Int32 → Int32 → Mem → Option (Int32 × Mem)} (hk37 : ∀ (x1 : Int32) (x2 : Int32) (M : Mem), k37 x1 x2 M = some R → V E G 37 [some (.ref 59), some (.int x1), some (.int x2), none] [] M) {x1 : Int32} {x2 : Int32} (h : f_X7_gossip_b37 k37 x1 x2 M = some R) : V E G 37 [some (.ref 59), some (.int x1), some (.int x2), none] [] M := by
  unfold f_X7_gossip_b37 at h
  refine v_iload_2 hG dX7_gossip_37 (q := 38) rfl ?_
  refine v_iload_1 hG dX7_gossip_38 (q := 39) rfl ?_
  refine v_icmp_ge hG dX7_gossip_39 (tgt := 82) rfl (q := 42) rfl (fun hc => ?_) (fun hc => ?_)
  · replace h := ifp hc h
    refine v_aload_0 hG dX7_gossip_82 (q := 83) rfl ?_
    refine v_iconst hG ci_1 dX7_gossip_83 (q := 84) rfl ?_
    obtain ⟨r_5, hr_5, h⟩ := bnd h
    refine v_cV1I hG cvX7_anybody ml_RX7_93 rfl kk_59 (w_X7_anybody hr_5) (Nat.le_of_ble_eq_true rfl) dX7_gossip_84 (q := 87) rfl ?_
    exact v_iret hG hR rfl rfl (sp2t h) dX7_gossip_87
  · replace h := ifn hc h
    refine v_aload_0 hG dX7_gossip_42 (q := 43) rfl ?_
    obtain ⟨r_6, hr_6, h⟩ := bnd h
    refine v_cV0I hG cvX7_draw ml_RX7_229 rfl kk_59 (w_X7_draw hr_6) (Nat.le_of_ble_eq_true rfl) dX7_gossip_43 (q := 46) rfl ?_
    refine v_aload_0 hG dX7_gossip_46 (q := 47) rfl ?_
    refine gt_RX7_7 hG rfl kk_59 dX7_gossip_47 (q := 50) rfl ?_
    refine v_iconst hG ci_1 dX7_gossip_50 (q := 51) rfl ?_
    obtain ⟨c_7, h⟩ := ck_some h
    refine v_iald hG kk_60 rfl c_7 dX7_gossip_51 (q := 52) rfl ?_
    obtain ⟨c_8, h⟩ := ck_some h
    refine v_irem hG c_8 dX7_gossip_52 (q := 53) rfl ?_
    refine v_topi (fun x3_9 hy => ?_)
    replace h := letv_at hy h
    clear hy
    refine v_istore_3 hG rfl dX7_gossip_53 (q := 54) rfl ?_
    refine v_aload_0 hG dX7_gossip_54 (q := 55) rfl ?_
    refine gt_RX7_7 hG rfl kk_59 dX7_gossip_55 (q := 58) rfl ?_
    refine v_iload_3 hG dX7_gossip_58 (q := 59) rfl ?_
    refine v_iconst hG ci_1 dX7_gossip_59 (q := 60) rfl ?_
    obtain ⟨r_10, hr_10, h⟩ := bnd h
    refine v_cS2I hG csX7_where ml_RX7_84 rfl (w_X7_where hr_10) (Nat.le_of_ble_eq_true rfl) dX7_gossip_60 (q := 63) rfl ?_
    refine v_dup2 hG rfl rfl dX7_gossip_63 (q := 64) rfl ?_
    obtain ⟨c_11, h⟩ := ck_some h
    refine v_iald hG kk_60 rfl c_11 dX7_gossip_64 (q := 65) rfl ?_
    refine v_iconst hG ci_1 dX7_gossip_65 (q := 66) rfl ?_
    refine v_aload_0 hG dX7_gossip_66 (q := 67) rfl ?_
    obtain ⟨r_12, hr_12, h⟩ := bnd h
    refine v_cV0I hG cvX7_draw ml_RX7_229 rfl kk_59 (w_X7_draw hr_12) (Nat.le_of_ble_eq_true rfl) dX7_gossip_67 (q := 70) rfl ?_
    refine v_bipush hG cb_12 dX7_gossip_70 (q := 72) rfl ?_
    refine v_irem hG (by decide) dX7_gossip_72 (q := 73) rfl ?_
    refine v_ishl hG dX7_gossip_73 (q := 74) rfl ?_
    refine v_ior hG dX7_gossip_74 (q := 75) rfl ?_
    obtain ⟨c_13, h⟩ := ck_some h
    refine v_iast hG kk_60 rfl c_13 dX7_gossip_75 (q := 76) rfl ?_
    refine v_topM (fun M_14 hy => ?_)
    replace h := letv_at hy h
    clear hy
    refine v_iinc_2 hG rfl dX7_gossip_76 (congrArg _ ci_1) (q := 79) rfl ?_
    refine v_goto hG dX7_gossip_79 (tgt := 37) rfl ?_
    refine v_drop (n := 3) (L' := [some (.ref 59), some (.int x1), some (.int (x2 + (1 : Int32))), none]) rfl ?_
    exact hk37 _ _ _ h
theorem w_X7_gossip_l37 {E : EB} {G : GB} (hG : Gd E mX7_gossip G) {R : Int32 × Mem} (hR : Rt E mX7_gossip (PI R.1 R.2) G) : ∀ (n : Nat) (x1 : Int32) (x2 : Int32) (M : Mem), f_X7_gossip_l37 n x1 x2 M = some R → V E G 37 [some (.ref 59), some (.int x1), some (.int x2), none] [] M := by
  intro n
  induction n with
  | zero => intro x1 x2 M h; cases h
  | succ n ih => intro x1 x2 M h; exact w_X7_gossip_b37 hG hR ih h
theorem w_X7_gossip {E : EB} {x1 : Int32} {M : Mem} {R : Int32 × Mem} (h : f_X7_gossip x1 M = some R) : Mt E mX7_gossip [.ref 59, .int x1] M (PI R.1 R.2) := by
  refine mt_of (L0 := [some (.ref 59), some (.int x1), none, none]) (by decide) rfl rfl (fun G hG hR => ?_)
  unfold f_X7_gossip at h
  refine v_iload_1 hG dX7_gossip_0 (q := 1) rfl ?_
  refine v_i2l hG dX7_gossip_1 (q := 2) rfl ?_
  refine v_lconst hG cl_1 dX7_gossip_2 (q := 3) rfl ?_
  refine v_ldc2 hG kl_RX7_227 dX7_gossip_3 (q := 6) rfl ?_
  obtain ⟨r_1, hr_1, h⟩ := bnd h
  refine v_cS3I hG csX7_in ml_RX7_43 rfl (w_X7_in hr_1) (Nat.le_of_ble_eq_true rfl) dX7_gossip_6 (q := 9) rfl ?_
  refine v_if_ne hG dX7_gossip_9 (tgt := 19) rfl (q := 12) rfl (fun hc => ?_) (fun hc => ?_)
  · replace h := ifn hc h
    refine v_aload_0 hG dX7_gossip_19 (q := 20) rfl ?_
    refine gt_RX7_7 hG rfl kk_59 dX7_gossip_20 (q := 23) rfl ?_
    refine v_iconst hG ci_1 dX7_gossip_23 (q := 24) rfl ?_
    obtain ⟨c_2, h⟩ := ck_some h
    refine v_iald hG kk_60 rfl c_2 dX7_gossip_24 (q := 25) rfl ?_
    refine v_if_ne hG dX7_gossip_25 (tgt := 35) rfl (q := 28) rfl (fun hc => ?_) (fun hc => ?_)
    · replace h := ifn hc h
      refine v_iconst hG ci_0 dX7_gossip_35 (q := 36) rfl ?_
      refine v_istore_2 hG rfl dX7_gossip_36 (q := 37) rfl ?_
      exact w_X7_gossip_l37 hG hR FU _ _ _ h
    · replace h := ifp hc h
      refine v_aload_0 hG dX7_gossip_28 (q := 29) rfl ?_
      refine v_ldc hG kc_RX7_150 dX7_gossip_29 (q := 31) rfl ?_
      obtain ⟨r_3, hr_3, h⟩ := bnd h
      refine v_cV1I hG cvX7_finds ml_RX7_68 rfl kk_59 (w_X7_finds hr_3) (Nat.le_of_ble_eq_true rfl) dX7_gossip_31 (q := 34) rfl ?_
      exact v_iret hG hR rfl rfl (sp2t h) dX7_gossip_34
  · replace h := ifp hc h
    refine v_aload_0 hG dX7_gossip_12 (q := 13) rfl ?_
    refine v_ldc hG kc_RX7_40 dX7_gossip_13 (q := 15) rfl ?_
    obtain ⟨r_4, hr_4, h⟩ := bnd h
    refine v_cV1I hG cvX7_finds ml_RX7_68 rfl kk_59 (w_X7_finds hr_4) (Nat.le_of_ble_eq_true rfl) dX7_gossip_15 (q := 18) rfl ?_
    exact v_iret hG hR rfl rfl (sp2t h) dX7_gossip_18
theorem cvX7_gossip : CVo mX7_gossip 1 7 := ⟨moX7_gossip, mvX7_gossip, by decide, _, _, rfl⟩
theorem w_X7_seed {E : EB} {x1 : Int32} {M : Mem} {R : Int32 × Mem} (h : f_X7_seed x1 M = some R) : Mt E mX7_seed [.ref 59, .int x1] M (PI R.1 R.2) := by
  refine mt_of (L0 := [some (.ref 59), some (.int x1), none]) (by decide) rfl rfl (fun G hG hR => ?_)
  unfold f_X7_seed at h
  refine v_aload_0 hG dX7_seed_0 (q := 1) rfl ?_
  refine gt_RX7_7 hG rfl kk_59 dX7_seed_1 (q := 4) rfl ?_
  refine v_iconst hG ci_2 dX7_seed_4 (q := 5) rfl ?_
  obtain ⟨c_1, h⟩ := ck_some h
  refine v_iald hG kk_60 rfl c_1 dX7_seed_5 (q := 6) rfl ?_
  refine v_topi (fun x2_2 hy => ?_)
  replace h := letv_at hy h
  clear hy
  refine v_istore_2 hG rfl dX7_seed_6 (q := 7) rfl ?_
  refine v_aload_0 hG dX7_seed_7 (q := 8) rfl ?_
  refine gt_RX7_7 hG rfl kk_59 dX7_seed_8 (q := 11) rfl ?_
  refine v_iconst hG ci_2 dX7_seed_11 (q := 12) rfl ?_
  refine v_iload_1 hG dX7_seed_12 (q := 13) rfl ?_
  obtain ⟨c_3, h⟩ := ck_some h
  refine v_iast hG kk_60 rfl c_3 dX7_seed_13 (q := 14) rfl ?_
  refine v_topM (fun M_4 hy => ?_)
  replace h := letv_at hy h
  clear hy
  refine v_iload_2 hG dX7_seed_14 (q := 15) rfl ?_
  exact v_iret hG hR rfl rfl (sp2t h) dX7_seed_15
theorem cvX7_seed : CVo mX7_seed 1 7 := ⟨moX7_seed, mvX7_seed, by decide, _, _, rfl⟩
theorem w_X7_feed_b41 {E : EB} {G : GB} (hG : Gd E mX7_feed G) {M : Mem} {R : Int32 × Mem} (hR : Rt E mX7_feed (PI R.1 R.2) G) {k41 : Int32 → Int32 → Mem → Option (Int32 × Mem)} (hk41 : ∀ (x1 : Int32) (x3 : Int32) (M : Mem), k41 x1 x3 M = some R → V E G 41 [some (.ref 59), some (.int x1), none, some (.int x3)] [] M) {x1 : Int32} {x3 : Int32} (h : f_X7_feed_b41 k41 x1 x3 M = some R) : V E G 41 [some (.ref 59), some (.int x1), none, some (.int x3)] [] M := by
  unfold f_X7_feed_b41 at h
  refine v_iload_3 hG dX7_feed_41 (q := 42) rfl ?_
  refine v_if_lt hG dX7_feed_42 (tgt := 80) rfl (q := 45) rfl (fun hc => ?_) (fun hc => ?_)
  · replace h := ifp hc h
    refine v_aload_0 hG dX7_feed_80 (q := 81) rfl ?_
    refine gt_RX7_234 hG rfl kk_59 dX7_feed_81 (q := 84) rfl ?_
    exact v_iret hG hR rfl rfl (sp2t h) dX7_feed_84
  · replace h := ifn hc h
    refine v_aload_0 hG dX7_feed_45 (q := 46) rfl ?_
    refine gt_RX7_25 hG rfl kk_59 dX7_feed_46 (q := 49) rfl ?_
    refine v_aload_0 hG dX7_feed_49 (q := 50) rfl ?_
    refine gt_RX7_234 hG rfl kk_59 dX7_feed_50 (q := 53) rfl ?_
    refine v_iload_1 hG dX7_feed_53 (q := 54) rfl ?_
    refine v_bipush hG cb_8 dX7_feed_54 (q := 56) rfl ?_
    refine v_iload_3 hG dX7_feed_56 (q := 57) rfl ?_
    refine v_imul hG dX7_feed_57 (q := 58) rfl ?_
    refine v_ishr hG dX7_feed_58 (q := 59) rfl ?_
    refine v_sipush hG cs_255 dX7_feed_59 (q := 62) rfl ?_
    refine v_iand hG dX7_feed_62 (q := 63) rfl ?_
    obtain ⟨c_5, h⟩ := ck_some h
    refine v_iast hG kk_65 rfl c_5 dX7_feed_63 (q := 64) rfl ?_
    refine v_topM (fun M_6 hy => ?_)
    replace h := letv_at hy h
    clear hy
    refine v_aload_0 hG dX7_feed_64 (q := 65) rfl ?_
    refine v_dup hG rfl dX7_feed_65 (q := 66) rfl ?_
    refine gt_RX7_234 hG rfl kk_59 dX7_feed_66 (q := 69) rfl ?_
    refine v_iconst hG ci_1 dX7_feed_69 (q := 70) rfl ?_
    refine v_iadd hG dX7_feed_70 (q := 71) rfl ?_
    refine pt_RX7_234 hG rfl kk_59 dX7_feed_71 (q := 74) rfl ?_
    refine v_topM (fun M_7 hy => ?_)
    replace h := letv_at hy h
    clear hy
    refine v_iinc_3 hG rfl dX7_feed_74 (congrArg _ ci_m1) (q := 77) rfl ?_
    refine v_goto hG dX7_feed_77 (tgt := 41) rfl ?_
    exact hk41 _ _ _ h
theorem w_X7_feed_l41 {E : EB} {G : GB} (hG : Gd E mX7_feed G) {R : Int32 × Mem} (hR : Rt E mX7_feed (PI R.1 R.2) G) : ∀ (n : Nat) (x1 : Int32) (x3 : Int32) (M : Mem), f_X7_feed_l41 n x1 x3 M = some R → V E G 41 [some (.ref 59), some (.int x1), none, some (.int x3)] [] M := by
  intro n
  induction n with
  | zero => intro x1 x3 M h; cases h
  | succ n ih => intro x1 x3 M h; exact w_X7_feed_b41 hG hR ih h
theorem w_X7_feed {E : EB} {x1 : Int32} {x2 : Int32} {M : Mem} {R : Int32 × Mem} (h : f_X7_feed x1 x2 M = some R) : Mt E mX7_feed [.ref 59, .int x1, .int x2] M (PI R.1 R.2) := by
  refine mt_of (L0 := [some (.ref 59), some (.int x1), some (.int x2), none]) (by decide) rfl rfl (fun G hG hR => ?_)
  unfold f_X7_feed at h
  refine v_iload_2 hG dX7_feed_0 (q := 1) rfl ?_
  refine v_i2l hG dX7_feed_1 (q := 2) rfl ?_
  refine v_lconst hG cl_1 dX7_feed_2 (q := 3) rfl ?_
  refine v_ldc2 hG kl_RX7_232 dX7_feed_3 (q := 6) rfl ?_
  obtain ⟨r_1, hr_1, h⟩ := bnd h
  refine v_cS3I hG csX7_in ml_RX7_43 rfl (w_X7_in hr_1) (Nat.le_of_ble_eq_true rfl) dX7_feed_6 (q := 9) rfl ?_
  refine v_if_ne hG dX7_feed_9 (tgt := 19) rfl (q := 12) rfl (fun hc => ?_) (fun hc => ?_)
  · replace h := ifn hc h
    refine v_aload_0 hG dX7_feed_19 (q := 20) rfl ?_
    refine gt_RX7_234 hG rfl kk_59 dX7_feed_20 (q := 23) rfl ?_
    refine v_iload_2 hG dX7_feed_23 (q := 24) rfl ?_
    refine v_iadd hG dX7_feed_24 (q := 25) rfl ?_
    refine v_bipush hG cb_120 dX7_feed_25 (q := 27) rfl ?_
    refine v_icmp_le hG dX7_feed_27 (tgt := 37) rfl (q := 30) rfl (fun hc => ?_) (fun hc => ?_)
    · replace h := ifp hc h
      refine v_iload_2 hG dX7_feed_37 (q := 38) rfl ?_
      refine v_iconst hG ci_1 dX7_feed_38 (q := 39) rfl ?_
      refine v_isub hG dX7_feed_39 (q := 40) rfl ?_
      refine v_topi (fun x3_2 hy => ?_)
      replace h := letv_at hy h
      clear hy
      refine v_istore_3 hG rfl dX7_feed_40 (q := 41) rfl ?_
      refine v_drop (n := 2) (L' := [some (.ref 59), some (.int x1), none, some (.int x3_2)]) rfl ?_
      exact w_X7_feed_l41 hG hR FU _ _ _ h
    · replace h := ifn hc h
      refine v_aload_0 hG dX7_feed_30 (q := 31) rfl ?_
      refine v_ldc hG kc_RX7_72 dX7_feed_31 (q := 33) rfl ?_
      obtain ⟨r_3, hr_3, h⟩ := bnd h
      refine v_cV1I hG cvX7_finds ml_RX7_68 rfl kk_59 (w_X7_finds hr_3) (Nat.le_of_ble_eq_true rfl) dX7_feed_33 (q := 36) rfl ?_
      exact v_iret hG hR rfl rfl (sp2t h) dX7_feed_36
  · replace h := ifp hc h
    refine v_aload_0 hG dX7_feed_12 (q := 13) rfl ?_
    refine v_ldc hG kc_RX7_40 dX7_feed_13 (q := 15) rfl ?_
    obtain ⟨r_4, hr_4, h⟩ := bnd h
    refine v_cV1I hG cvX7_finds ml_RX7_68 rfl kk_59 (w_X7_finds hr_4) (Nat.le_of_ble_eq_true rfl) dX7_feed_15 (q := 18) rfl ?_
    exact v_iret hG hR rfl rfl (sp2t h) dX7_feed_18
theorem cvX7_feed : CVo mX7_feed 2 7 := ⟨moX7_feed, mvX7_feed, by decide, _, _, rfl⟩
theorem w_X7_wipe {E : EB} {M : Mem} {R : Int32 × Mem} (h : f_X7_wipe M = some R) : Mt E mX7_wipe [.ref 59] M (PI R.1 R.2) := by
  refine mt_of (L0 := [some (.ref 59), none]) (by decide) rfl rfl (fun G hG hR => ?_)
  unfold f_X7_wipe at h
  refine v_aload_0 hG dX7_wipe_0 (q := 1) rfl ?_
  refine gt_RX7_234 hG rfl kk_59 dX7_wipe_1 (q := 4) rfl ?_
  refine v_topi (fun x1_1 hy => ?_)
  replace h := letv_at hy h
  clear hy
  refine v_istore_1 hG rfl dX7_wipe_4 (q := 5) rfl ?_
  refine v_aload_0 hG dX7_wipe_5 (q := 6) rfl ?_
  refine v_iconst hG ci_0 dX7_wipe_6 (q := 7) rfl ?_
  refine pt_RX7_234 hG rfl kk_59 dX7_wipe_7 (q := 10) rfl ?_
  refine v_topM (fun M_2 hy => ?_)
  replace h := letv_at hy h
  clear hy
  refine v_iload_1 hG dX7_wipe_10 (q := 11) rfl ?_
  exact v_iret hG hR rfl rfl (sp2t h) dX7_wipe_11
theorem cvX7_wipe : CVo mX7_wipe 0 7 := ⟨moX7_wipe, mvX7_wipe, by decide, _, _, rfl⟩
theorem w_X7_byteAt {E : EB} {x1 : Int32} {M : Mem} {R : Int32} (h : f_X7_byteAt x1 M = some R) : Mt E mX7_byteAt [.ref 59, .int x1] M (PI R M) := by
  refine mt_of (L0 := [some (.ref 59), some (.int x1)]) (by decide) rfl rfl (fun G hG hR => ?_)
  unfold f_X7_byteAt at h
  refine v_iload_1 hG dX7_byteAt_0 (q := 1) rfl ?_
  refine v_aload_0 hG dX7_byteAt_1 (q := 2) rfl ?_
  refine gt_RX7_234 hG rfl kk_59 dX7_byteAt_2 (q := 5) rfl ?_
  refine v_icmp_ge hG dX7_byteAt_5 (tgt := 17) rfl (q := 8) rfl (fun hc => ?_) (fun hc => ?_)
  · replace h := ifp hc h
    refine v_iconst hG ci_m1 dX7_byteAt_17 (q := 18) rfl ?_
    exact v_iret hG hR rfl rfl (sp1 h) dX7_byteAt_18
  · replace h := ifn hc h
    refine v_aload_0 hG dX7_byteAt_8 (q := 9) rfl ?_
    refine gt_RX7_25 hG rfl kk_59 dX7_byteAt_9 (q := 12) rfl ?_
    refine v_iload_1 hG dX7_byteAt_12 (q := 13) rfl ?_
    obtain ⟨c_1, h⟩ := ck_some h
    refine v_iald hG kk_65 rfl c_1 dX7_byteAt_13 (q := 14) rfl ?_
    refine v_goto hG dX7_byteAt_14 (tgt := 18) rfl ?_
    exact v_iret hG hR rfl rfl (sp1 h) dX7_byteAt_18
theorem cvX7_byteAt : CVo mX7_byteAt 1 7 := ⟨moX7_byteAt, mvX7_byteAt, by decide, _, _, rfl⟩
theorem w_X7_isLetter {E : EB} {x0 : Int32} {M : Mem} {R : Bool} (h : f_X7_isLetter x0 M = some R) : Mt E mX7_isLetter [.int x0] M (PI (b2i R) M) := by
  refine mt_of (L0 := [some (.int x0)]) (by decide) rfl rfl (fun G hG hR => ?_)
  unfold f_X7_isLetter at h
  refine v_iload_0 hG dX7_isLetter_0 (q := 1) rfl ?_
  refine v_i2l hG dX7_isLetter_1 (q := 2) rfl ?_
  refine v_ldc2 hG kl_RX7_237 dX7_isLetter_2 (q := 5) rfl ?_
  refine v_ldc2 hG kl_RX7_239 dX7_isLetter_5 (q := 8) rfl ?_
  obtain ⟨r_1, hr_1, h⟩ := bnd h
  refine v_cS3I hG csX7_in ml_RX7_43 rfl (w_X7_in hr_1) (Nat.le_of_ble_eq_true rfl) dX7_isLetter_8 (q := 11) rfl ?_
  exact v_iret hG hR rfl (b2i_nar _) (sp1b h) dX7_isLetter_11
theorem csX7_isLetter : CSo mX7_isLetter 1 := ⟨moX7_isLetter, msX7_isLetter⟩
theorem w_X7_isDigit {E : EB} {x0 : Int32} {M : Mem} {R : Bool} (h : f_X7_isDigit x0 M = some R) : Mt E mX7_isDigit [.int x0] M (PI (b2i R) M) := by
  refine mt_of (L0 := [some (.int x0)]) (by decide) rfl rfl (fun G hG hR => ?_)
  unfold f_X7_isDigit at h
  refine v_iload_0 hG dX7_isDigit_0 (q := 1) rfl ?_
  refine v_i2l hG dX7_isDigit_1 (q := 2) rfl ?_
  refine v_ldc2 hG kl_RX7_241 dX7_isDigit_2 (q := 5) rfl ?_
  refine v_ldc2 hG kl_RX7_243 dX7_isDigit_5 (q := 8) rfl ?_
  obtain ⟨r_1, hr_1, h⟩ := bnd h
  refine v_cS3I hG csX7_in ml_RX7_43 rfl (w_X7_in hr_1) (Nat.le_of_ble_eq_true rfl) dX7_isDigit_8 (q := 11) rfl ?_
  exact v_iret hG hR rfl (b2i_nar _) (sp1b h) dX7_isDigit_11
theorem csX7_isDigit : CSo mX7_isDigit 1 := ⟨moX7_isDigit, msX7_isDigit⟩
theorem w_X7_token_j104 {E : EB} {G : GB} (hG : Gd E mX7_token G) {M : Mem} {R : Mem} (hR : Rt E mX7_token (PV R) G) {k86 : Int32 → Int32 → Mem → Option (Mem)} (hk86 : ∀ (x1 : Int32) (x2 : Int32) (M : Mem), k86 x1 x2 M = some R → V E G 86 [some (.ref 59), some (.int x1), some (.int x2)] [] M) {x1 : Int32} {x2 : Int32} (h : f_X7_token_j104 k86 x1 x2 M = some R) : V E G 104 [some (.ref 59), some (.int x1), some (.int x2)] [] M := by
  unfold f_X7_token_j104 at h
  refine v_iload_2 hG dX7_token_104 (q := 105) rfl ?_
  refine v_if_eq hG dX7_token_105 (tgt := 135) rfl (q := 108) rfl (fun hc => ?_) (fun hc => ?_)
  · replace h := ifp hc h
    exact v_vret hG hR rfl (spv h) dX7_token_135
  · replace h := ifn hc h
    refine v_aload_0 hG dX7_token_108 (q := 109) rfl ?_
    refine v_aload_0 hG dX7_token_109 (q := 110) rfl ?_
    refine gt_RX7_245 hG rfl kk_59 dX7_token_110 (q := 113) rfl ?_
    obtain ⟨r_13, hr_13, h⟩ := bnd h
    refine v_cV1I hG cvX7_byteAt ml_RX7_251 rfl kk_59 (w_X7_byteAt hr_13) (Nat.le_of_ble_eq_true rfl) dX7_token_113 (q := 116) rfl ?_
    obtain ⟨r_14, hr_14, h⟩ := bnd h
    refine v_cS1I hG csX7_isDigit ml_RX7_257 rfl (w_X7_isDigit hr_14) (Nat.le_of_ble_eq_true rfl) dX7_token_116 (q := 119) rfl ?_
    refine v_if_eq hG dX7_token_119 (tgt := 135) rfl (q := 122) rfl (fun hc => ?_) (fun hc => ?_)
    · replace h := ifp hc h
      exact v_vret hG hR rfl (spv h) dX7_token_135
    · replace h := ifn hc h
      refine v_aload_0 hG dX7_token_122 (q := 123) rfl ?_
      refine v_dup hG rfl dX7_token_123 (q := 124) rfl ?_
      refine gt_RX7_245 hG rfl kk_59 dX7_token_124 (q := 127) rfl ?_
      refine v_iconst hG ci_1 dX7_token_127 (q := 128) rfl ?_
      refine v_iadd hG dX7_token_128 (q := 129) rfl ?_
      refine pt_RX7_245 hG rfl kk_59 dX7_token_129 (q := 132) rfl ?_
      refine v_topM (fun M_15 hy => ?_)
      replace h := letv_at hy h
      clear hy
      refine v_goto hG dX7_token_132 (tgt := 86) rfl ?_
      exact hk86 _ _ _ h
theorem w_X7_token_b86 {E : EB} {G : GB} (hG : Gd E mX7_token G) {M : Mem} {R : Mem} (hR : Rt E mX7_token (PV R) G) {k86 : Int32 → Int32 → Mem → Option (Mem)} (hk86 : ∀ (x1 : Int32) (x2 : Int32) (M : Mem), k86 x1 x2 M = some R → V E G 86 [some (.ref 59), some (.int x1), some (.int x2)] [] M) {x1 : Int32} {x2 : Int32} (h : f_X7_token_b86 k86 x1 x2 M = some R) : V E G 86 [some (.ref 59), some (.int x1), some (.int x2)] [] M := by
  unfold f_X7_token_b86 at h
  refine v_iload_1 hG dX7_token_86 (q := 87) rfl ?_
  refine v_if_eq hG dX7_token_87 (tgt := 104) rfl (q := 90) rfl (fun hc => ?_) (fun hc => ?_)
  · replace h := ifp hc h
    exact w_X7_token_j104 hG hR hk86 h
  · replace h := ifn hc h
    refine v_aload_0 hG dX7_token_90 (q := 91) rfl ?_
    refine v_aload_0 hG dX7_token_91 (q := 92) rfl ?_
    refine gt_RX7_245 hG rfl kk_59 dX7_token_92 (q := 95) rfl ?_
    obtain ⟨r_10, hr_10, h⟩ := bnd h
    refine v_cV1I hG cvX7_byteAt ml_RX7_251 rfl kk_59 (w_X7_byteAt hr_10) (Nat.le_of_ble_eq_true rfl) dX7_token_95 (q := 98) rfl ?_
    obtain ⟨r_11, hr_11, h⟩ := bnd h
    refine v_cS1I hG csX7_isLetter ml_RX7_254 rfl (w_X7_isLetter hr_11) (Nat.le_of_ble_eq_true rfl) dX7_token_98 (q := 101) rfl ?_
    refine v_if_ne hG dX7_token_101 (tgt := 122) rfl (q := 104) rfl (fun hc => ?_) (fun hc => ?_)
    · replace h := ifn hc h
      refine v_aload_0 hG dX7_token_122 (q := 123) rfl ?_
      refine v_dup hG rfl dX7_token_123 (q := 124) rfl ?_
      refine gt_RX7_245 hG rfl kk_59 dX7_token_124 (q := 127) rfl ?_
      refine v_iconst hG ci_1 dX7_token_127 (q := 128) rfl ?_
      refine v_iadd hG dX7_token_128 (q := 129) rfl ?_
      refine pt_RX7_245 hG rfl kk_59 dX7_token_129 (q := 132) rfl ?_
      refine v_topM (fun M_12 hy => ?_)
      replace h := letv_at hy h
      clear hy
      refine v_goto hG dX7_token_132 (tgt := 86) rfl ?_
      exact hk86 _ _ _ h
    · replace h := ifp hc h
      exact w_X7_token_j104 hG hR hk86 h
theorem w_X7_token_l86 {E : EB} {G : GB} (hG : Gd E mX7_token G) {R : Mem} (hR : Rt E mX7_token (PV R) G) : ∀ (n : Nat) (x1 : Int32) (x2 : Int32) (M : Mem), f_X7_token_l86 n x1 x2 M = some R → V E G 86 [some (.ref 59), some (.int x1), some (.int x2)] [] M := by
  intro n
  induction n with
  | zero => intro x1 x2 M h; cases h
  | succ n ih => intro x1 x2 M h; exact w_X7_token_b86 hG hR ih h
theorem w_X7_token_b8 {E : EB} {G : GB} (hG : Gd E mX7_token G) {M : Mem} {R : Mem} (hR : Rt E mX7_token (PV R) G) {k8 : Mem → Option (Mem)} (hk8 : ∀ (M : Mem), k8 M = some R → V E G 8 [some (.ref 59), none, none] [] M) (h : f_X7_token_b8 k8 M = some R) : V E G 8 [some (.ref 59), none, none] [] M := by
  unfold f_X7_token_b8 at h
  refine v_aload_0 hG dX7_token_8 (q := 9) rfl ?_
  refine v_aload_0 hG dX7_token_9 (q := 10) rfl ?_
  refine gt_RX7_248 hG rfl kk_59 dX7_token_10 (q := 13) rfl ?_
  obtain ⟨r_2, hr_2, h⟩ := bnd h
  refine v_cV1I hG cvX7_byteAt ml_RX7_251 rfl kk_59 (w_X7_byteAt hr_2) (Nat.le_of_ble_eq_true rfl) dX7_token_13 (q := 16) rfl ?_
  refine v_bipush hG cb_32 dX7_token_16 (q := 18) rfl ?_
  refine v_icmp_ne hG dX7_token_18 (tgt := 34) rfl (q := 21) rfl (fun hc => ?_) (fun hc => ?_)
  · replace h := ifn hc h
    refine v_aload_0 hG dX7_token_34 (q := 35) rfl ?_
    refine v_aload_0 hG dX7_token_35 (q := 36) rfl ?_
    refine gt_RX7_248 hG rfl kk_59 dX7_token_36 (q := 39) rfl ?_
    obtain ⟨r_3, hr_3, h⟩ := bnd h
    refine v_cV1I hG cvX7_byteAt ml_RX7_251 rfl kk_59 (w_X7_byteAt hr_3) (Nat.le_of_ble_eq_true rfl) dX7_token_39 (q := 42) rfl ?_
    obtain ⟨r_4, hr_4, h⟩ := bnd h
    refine v_cS1I hG csX7_isLetter ml_RX7_254 rfl (w_X7_isLetter hr_4) (Nat.le_of_ble_eq_true rfl) dX7_token_42 (q := 45) rfl ?_
    refine v_istore_1 hG rfl dX7_token_45 (q := 46) rfl ?_
    refine v_aload_0 hG dX7_token_46 (q := 47) rfl ?_
    refine v_aload_0 hG dX7_token_47 (q := 48) rfl ?_
    refine gt_RX7_248 hG rfl kk_59 dX7_token_48 (q := 51) rfl ?_
    obtain ⟨r_5, hr_5, h⟩ := bnd h
    refine v_cV1I hG cvX7_byteAt ml_RX7_251 rfl kk_59 (w_X7_byteAt hr_5) (Nat.le_of_ble_eq_true rfl) dX7_token_51 (q := 54) rfl ?_
    obtain ⟨r_6, hr_6, h⟩ := bnd h
    refine v_cS1I hG csX7_isDigit ml_RX7_257 rfl (w_X7_isDigit hr_6) (Nat.le_of_ble_eq_true rfl) dX7_token_54 (q := 57) rfl ?_
    refine v_istore_2 hG rfl dX7_token_57 (q := 58) rfl ?_
    refine v_aload_0 hG dX7_token_58 (q := 59) rfl ?_
    refine v_aload_0 hG dX7_token_59 (q := 60) rfl ?_
    refine gt_RX7_248 hG rfl kk_59 dX7_token_60 (q := 63) rfl ?_
    refine v_aload_0 hG dX7_token_63 (q := 64) rfl ?_
    refine gt_RX7_234 hG rfl kk_59 dX7_token_64 (q := 67) rfl ?_
    refine v_icmp_ge hG dX7_token_67 (tgt := 79) rfl (q := 70) rfl (fun hc => ?_) (fun hc => ?_)
    · replace h := ifp hc h
      refine v_aload_0 hG dX7_token_79 (q := 80) rfl ?_
      refine gt_RX7_248 hG rfl kk_59 dX7_token_80 (q := 83) rfl ?_
      refine pt_RX7_245 hG rfl kk_59 dX7_token_83 (q := 86) rfl ?_
      refine v_topM (fun M_7 hy => ?_)
      replace h := letv_at hy h
      clear hy
      exact w_X7_token_l86 hG hR FU _ _ _ h
    · replace h := ifn hc h
      refine v_aload_0 hG dX7_token_70 (q := 71) rfl ?_
      refine gt_RX7_248 hG rfl kk_59 dX7_token_71 (q := 74) rfl ?_
      refine v_iconst hG ci_1 dX7_token_74 (q := 75) rfl ?_
      refine v_iadd hG dX7_token_75 (q := 76) rfl ?_
      refine v_goto hG dX7_token_76 (tgt := 83) rfl ?_
      refine pt_RX7_245 hG rfl kk_59 dX7_token_83 (q := 86) rfl ?_
      refine v_topM (fun M_8 hy => ?_)
      replace h := letv_at hy h
      clear hy
      exact w_X7_token_l86 hG hR FU _ _ _ h
  · replace h := ifp hc h
    refine v_aload_0 hG dX7_token_21 (q := 22) rfl ?_
    refine v_dup hG rfl dX7_token_22 (q := 23) rfl ?_
    refine gt_RX7_248 hG rfl kk_59 dX7_token_23 (q := 26) rfl ?_
    refine v_iconst hG ci_1 dX7_token_26 (q := 27) rfl ?_
    refine v_iadd hG dX7_token_27 (q := 28) rfl ?_
    refine pt_RX7_248 hG rfl kk_59 dX7_token_28 (q := 31) rfl ?_
    refine v_topM (fun M_9 hy => ?_)
    replace h := letv_at hy h
    clear hy
    refine v_goto hG dX7_token_31 (tgt := 8) rfl ?_
    exact hk8 _ h
theorem w_X7_token_l8 {E : EB} {G : GB} (hG : Gd E mX7_token G) {R : Mem} (hR : Rt E mX7_token (PV R) G) : ∀ (n : Nat) (M : Mem), f_X7_token_l8 n M = some R → V E G 8 [some (.ref 59), none, none] [] M := by
  intro n
  induction n with
  | zero => intro M h; cases h
  | succ n ih => intro M h; exact w_X7_token_b8 hG hR ih h
theorem w_X7_token {E : EB} {M : Mem} {R : Mem} (h : f_X7_token M = some R) : Mt E mX7_token [.ref 59] M (PV R) := by
  refine mt_of (L0 := [some (.ref 59), none, none]) (by decide) rfl rfl (fun G hG hR => ?_)
  unfold f_X7_token at h
  refine v_aload_0 hG dX7_token_0 (q := 1) rfl ?_
  refine v_aload_0 hG dX7_token_1 (q := 2) rfl ?_
  refine gt_RX7_245 hG rfl kk_59 dX7_token_2 (q := 5) rfl ?_
  refine pt_RX7_248 hG rfl kk_59 dX7_token_5 (q := 8) rfl ?_
  refine v_topM (fun M_1 hy => ?_)
  replace h := letv_at hy h
  clear hy
  exact w_X7_token_l8 hG hR FU _ h
theorem cvX7_token : CVo mX7_token 0 7 := ⟨moX7_token, mvX7_token, by decide, _, _, rfl⟩
theorem w_X7_needs {E : EB} {x1 : Int32} {M : Mem} {R : Mem} (h : f_X7_needs x1 M = some R) : Mt E mX7_needs [.ref 59, .int x1] M (PV R) := by
  refine mt_of (L0 := [some (.ref 59), some (.int x1)]) (by decide) rfl rfl (fun G hG hR => ?_)
  unfold f_X7_needs at h
  refine v_aload_0 hG dX7_needs_0 (q := 1) rfl ?_
  refine v_aload_0 hG dX7_needs_1 (q := 2) rfl ?_
  refine gt_RX7_260 hG rfl kk_59 dX7_needs_2 (q := 5) rfl ?_
  refine v_if_ne hG dX7_needs_5 (tgt := 12) rfl (q := 8) rfl (fun hc => ?_) (fun hc => ?_)
  · replace h := ifn hc h
    refine v_iconst hG ci_1 dX7_needs_12 (q := 13) rfl ?_
    refine v_goto hG dX7_needs_13 (tgt := 17) rfl ?_
    refine pt_RX7_260 hG rfl kk_59 (Or.inr rfl) dX7_needs_17 (q := 20) rfl ?_
    refine v_topM (fun M_1 hy => ?_)
    replace h := letv_at hy h
    clear hy
    refine v_aload_0 hG dX7_needs_20 (q := 21) rfl ?_
    refine gt_RX7_260 hG rfl kk_59 dX7_needs_21 (q := 24) rfl ?_
    refine v_if_ne hG dX7_needs_24 (tgt := 31) rfl (q := 27) rfl (fun hc => ?_) (fun hc => ?_)
    · replace h := ifn hc h
      exact v_vret hG hR rfl (spv h) dX7_needs_31
    · replace h := ifp hc h
      refine v_aload_0 hG dX7_needs_27 (q := 28) rfl ?_
      obtain ⟨r_2, hr_2, h⟩ := bnd h
      refine v_cV0V hG cvX7_token ml_RX7_264 rfl kk_59 (w_X7_token hr_2) (Nat.le_of_ble_eq_true rfl) dX7_needs_28 (q := 31) rfl ?_
      exact v_vret hG hR rfl (spv h) dX7_needs_31
  · replace h := ifp hc h
    refine v_iload_1 hG dX7_needs_8 (q := 9) rfl ?_
    refine v_if_ne hG dX7_needs_9 (tgt := 16) rfl (q := 12) rfl (fun hc => ?_) (fun hc => ?_)
    · replace h := ifn hc h
      refine v_iconst hG ci_0 dX7_needs_16 (q := 17) rfl ?_
      refine pt_RX7_260 hG rfl kk_59 (Or.inl rfl) dX7_needs_17 (q := 20) rfl ?_
      refine v_topM (fun M_3 hy => ?_)
      replace h := letv_at hy h
      clear hy
      refine v_aload_0 hG dX7_needs_20 (q := 21) rfl ?_
      refine gt_RX7_260 hG rfl kk_59 dX7_needs_21 (q := 24) rfl ?_
      refine v_if_ne hG dX7_needs_24 (tgt := 31) rfl (q := 27) rfl (fun hc => ?_) (fun hc => ?_)
      · replace h := ifn hc h
        exact v_vret hG hR rfl (spv h) dX7_needs_31
      · replace h := ifp hc h
        refine v_aload_0 hG dX7_needs_27 (q := 28) rfl ?_
        obtain ⟨r_4, hr_4, h⟩ := bnd h
        refine v_cV0V hG cvX7_token ml_RX7_264 rfl kk_59 (w_X7_token hr_4) (Nat.le_of_ble_eq_true rfl) dX7_needs_28 (q := 31) rfl ?_
        exact v_vret hG hR rfl (spv h) dX7_needs_31
    · replace h := ifp hc h
      refine v_iconst hG ci_1 dX7_needs_12 (q := 13) rfl ?_
      refine v_goto hG dX7_needs_13 (tgt := 17) rfl ?_
      refine pt_RX7_260 hG rfl kk_59 (Or.inr rfl) dX7_needs_17 (q := 20) rfl ?_
      refine v_topM (fun M_5 hy => ?_)
      replace h := letv_at hy h
      clear hy
      refine v_aload_0 hG dX7_needs_20 (q := 21) rfl ?_
      refine gt_RX7_260 hG rfl kk_59 dX7_needs_21 (q := 24) rfl ?_
      refine v_if_ne hG dX7_needs_24 (tgt := 31) rfl (q := 27) rfl (fun hc => ?_) (fun hc => ?_)
      · replace h := ifn hc h
        exact v_vret hG hR rfl (spv h) dX7_needs_31
      · replace h := ifp hc h
        refine v_aload_0 hG dX7_needs_27 (q := 28) rfl ?_
        obtain ⟨r_6, hr_6, h⟩ := bnd h
        refine v_cV0V hG cvX7_token ml_RX7_264 rfl kk_59 (w_X7_token hr_6) (Nat.le_of_ble_eq_true rfl) dX7_needs_28 (q := 31) rfl ?_
        exact v_vret hG hR rfl (spv h) dX7_needs_31
theorem cvX7_needs : CVo mX7_needs 1 7 := ⟨moX7_needs, mvX7_needs, by decide, _, _, rfl⟩
theorem w_X7_word_b7 {E : EB} {G : GB} (hG : Gd E mX7_word G) {M : Mem} {R : Int64} (hR : Rt E mX7_word (PJ R M) G) {k7 : Int64 → Int32 → Mem → Option (Int64)} (hk7 : ∀ (y1 : Int64) (x3 : Int32) (M' : Mem), k7 y1 x3 M' = some R → M' = M → V E G 7 [some (.ref 59), some (.long y1), none, some (.int x3)] [] M') {y1 : Int64} {x3 : Int32} (h : f_X7_word_b7 k7 y1 x3 M = some R) : V E G 7 [some (.ref 59), some (.long y1), none, some (.int x3)] [] M := by
  unfold f_X7_word_b7 at h
  refine v_iload_3 hG dX7_word_7 (q := 8) rfl ?_
  refine v_aload_0 hG dX7_word_8 (q := 9) rfl ?_
  refine gt_RX7_245 hG rfl kk_59 dX7_word_9 (q := 12) rfl ?_
  refine v_icmp_ge hG dX7_word_12 (tgt := 50) rfl (q := 15) rfl (fun hc => ?_) (fun hc => ?_)
  · replace h := ifp hc h
    refine v_aload_0 hG dX7_word_50 (q := 51) rfl ?_
    refine gt_RX7_260 hG rfl kk_59 dX7_word_51 (q := 54) rfl ?_
    refine v_if_ne hG dX7_word_54 (tgt := 71) rfl (q := 57) rfl (fun hc => ?_) (fun hc => ?_)
    · replace h := ifn hc h
      refine v_lconst hG cl_0 dX7_word_71 (q := 72) rfl ?_
      refine v_goto hG dX7_word_72 (tgt := 76) rfl ?_
      exact v_lret hG hR rfl (sp1 h) dX7_word_76
    · replace h := ifp hc h
      refine v_aload_0 hG dX7_word_57 (q := 58) rfl ?_
      refine v_aload_0 hG dX7_word_58 (q := 59) rfl ?_
      refine gt_RX7_248 hG rfl kk_59 dX7_word_59 (q := 62) rfl ?_
      obtain ⟨r_2, hr_2, h⟩ := bnd h
      refine v_cV1I hG cvX7_byteAt ml_RX7_251 rfl kk_59 (w_X7_byteAt hr_2) (Nat.le_of_ble_eq_true rfl) dX7_word_62 (q := 65) rfl ?_
      obtain ⟨r_3, hr_3, h⟩ := bnd h
      refine v_cS1I hG csX7_isLetter ml_RX7_254 rfl (w_X7_isLetter hr_3) (Nat.le_of_ble_eq_true rfl) dX7_word_65 (q := 68) rfl ?_
      refine v_if_ne hG dX7_word_68 (tgt := 75) rfl (q := 71) rfl (fun hc => ?_) (fun hc => ?_)
      · replace h := ifn hc h
        refine v_lload_1 hG dX7_word_75 (q := 76) rfl ?_
        exact v_lret hG hR rfl (sp1 h) dX7_word_76
      · replace h := ifp hc h
        refine v_lconst hG cl_0 dX7_word_71 (q := 72) rfl ?_
        refine v_goto hG dX7_word_72 (tgt := 76) rfl ?_
        exact v_lret hG hR rfl (sp1 h) dX7_word_76
  · replace h := ifn hc h
    refine v_lload_1 hG dX7_word_15 (q := 16) rfl ?_
    refine v_ldc2 hG kl_RX7_267 dX7_word_16 (q := 19) rfl ?_
    refine v_lcmp hG dX7_word_19 (q := 20) rfl ?_
    refine v_if_le hG dX7_word_20 (tgt := 27) rfl (q := 23) rfl (fun hc => ?_) (fun hc => ?_)
    · replace h := ifp hc h
      refine v_ldc2 hG kl_RX7_269 dX7_word_27 (q := 30) rfl ?_
      refine v_lload_1 hG dX7_word_30 (q := 31) rfl ?_
      refine v_lmul hG dX7_word_31 (q := 32) rfl ?_
      refine v_aload_0 hG dX7_word_32 (q := 33) rfl ?_
      refine gt_RX7_25 hG rfl kk_59 dX7_word_33 (q := 36) rfl ?_
      refine v_iload_3 hG dX7_word_36 (q := 37) rfl ?_
      obtain ⟨c_4, h⟩ := ck_some h
      refine v_iald hG kk_65 rfl c_4 dX7_word_37 (q := 38) rfl ?_
      refine v_bipush hG cb_96 dX7_word_38 (q := 40) rfl ?_
      refine v_isub hG dX7_word_40 (q := 41) rfl ?_
      refine v_i2l hG dX7_word_41 (q := 42) rfl ?_
      refine v_ladd hG dX7_word_42 (q := 43) rfl ?_
      refine v_topj (fun y1_5 hy => ?_)
      replace h := letv_at hy h
      clear hy
      refine v_lstore_1 hG rfl dX7_word_43 (q := 44) rfl ?_
      refine v_iinc_3 hG rfl dX7_word_44 (congrArg _ ci_1) (q := 47) rfl ?_
      refine v_goto hG dX7_word_47 (tgt := 7) rfl ?_
      exact hk7 _ _ _ h rfl
    · replace h := ifn hc h
      refine v_lload_1 hG dX7_word_23 (q := 24) rfl ?_
      refine v_goto hG dX7_word_24 (tgt := 43) rfl ?_
      refine v_lstore_1 hG rfl dX7_word_43 (q := 44) rfl ?_
      refine v_iinc_3 hG rfl dX7_word_44 (congrArg _ ci_1) (q := 47) rfl ?_
      refine v_goto hG dX7_word_47 (tgt := 7) rfl ?_
      exact hk7 _ _ _ h rfl
theorem w_X7_word_l7 {E : EB} {G : GB} (hG : Gd E mX7_word G) {M : Mem} {R : Int64} (hR : Rt E mX7_word (PJ R M) G) : ∀ (n : Nat) (y1 : Int64) (x3 : Int32) (M' : Mem), f_X7_word_l7 n y1 x3 M' = some R → M' = M → V E G 7 [some (.ref 59), some (.long y1), none, some (.int x3)] [] M' := by
  intro n
  induction n with
  | zero => intro y1 x3 M' h; cases h
  | succ n ih => intro y1 x3 M' h e; subst e; exact w_X7_word_b7 hG hR ih h
theorem w_X7_word {E : EB} {M : Mem} {R : Int64} (h : f_X7_word M = some R) : Mt E mX7_word [.ref 59] M (PJ R M) := by
  refine mt_of (L0 := [some (.ref 59), none, none, none]) (by decide) rfl rfl (fun G hG hR => ?_)
  unfold f_X7_word at h
  refine v_lconst hG cl_0 dX7_word_0 (q := 1) rfl ?_
  refine v_lstore_1 hG rfl dX7_word_1 (q := 2) rfl ?_
  refine v_aload_0 hG dX7_word_2 (q := 3) rfl ?_
  refine gt_RX7_248 hG rfl kk_59 dX7_word_3 (q := 6) rfl ?_
  refine v_topi (fun x3_1 hy => ?_)
  replace h := letv_at hy h
  clear hy
  refine v_istore_3 hG rfl dX7_word_6 (q := 7) rfl ?_
  exact w_X7_word_l7 hG hR FU _ _ _ h rfl
theorem cvX7_word : CVo mX7_word 0 7 := ⟨moX7_word, mvX7_word, by decide, _, _, rfl⟩
theorem w_X7_number_j79 {E : EB} {G : GB} (hG : Gd E mX7_number G) {M : Mem} {R : Mem} (hR : Rt E mX7_number (PV R) G) {x1 : Int32} {x2 : Int32} {x3 : Int32} {x4 : Int32} (h : f_X7_number_j79 x1 x2 x3 x4 M = some R) : V E G 79 [some (.ref 59), some (.int x1), some (.int x2), some (.int x3), some (.int x4), none] [] M := by
  unfold f_X7_number_j79 at h
  refine v_aload_0 hG dX7_number_79 (q := 80) rfl ?_
  refine v_iload_4 hG dX7_number_80 (q := 82) rfl ?_
  refine pt_RX7_272 hG rfl kk_59 dX7_number_82 (q := 85) rfl ?_
  refine v_topM (fun M_6 hy => ?_)
  replace h := letv_at hy h
  clear hy
  refine v_aload_0 hG dX7_number_85 (q := 86) rfl ?_
  refine v_iload_3 hG dX7_number_86 (q := 87) rfl ?_
  refine v_if_eq hG dX7_number_87 (tgt := 107) rfl (q := 90) rfl (fun hc => ?_) (fun hc => ?_)
  · replace h := ifp hc h
    refine v_iconst hG ci_0 dX7_number_107 (q := 108) rfl ?_
    obtain ⟨r_7, hr_7, h⟩ := bnd h
    refine v_cV1V hG cvX7_needs ml_RX7_275 rfl kk_59 (w_X7_needs hr_7) (Nat.le_of_ble_eq_true rfl) dX7_number_108 (q := 111) rfl ?_
    exact v_vret hG hR rfl (spv h) dX7_number_111
  · replace h := ifn hc h
    refine v_iload_4 hG dX7_number_90 (q := 92) rfl ?_
    refine v_i2l hG dX7_number_92 (q := 93) rfl ?_
    refine v_iload_1 hG dX7_number_93 (q := 94) rfl ?_
    refine v_i2l hG dX7_number_94 (q := 95) rfl ?_
    refine v_iload_2 hG dX7_number_95 (q := 96) rfl ?_
    refine v_i2l hG dX7_number_96 (q := 97) rfl ?_
    obtain ⟨r_8, hr_8, h⟩ := bnd h
    refine v_cS3I hG csX7_in ml_RX7_43 rfl (w_X7_in hr_8) (Nat.le_of_ble_eq_true rfl) dX7_number_97 (q := 100) rfl ?_
    refine v_if_eq hG dX7_number_100 (tgt := 107) rfl (q := 103) rfl (fun hc => ?_) (fun hc => ?_)
    · replace h := ifp hc h
      refine v_iconst hG ci_0 dX7_number_107 (q := 108) rfl ?_
      obtain ⟨r_9, hr_9, h⟩ := bnd h
      refine v_cV1V hG cvX7_needs ml_RX7_275 rfl kk_59 (w_X7_needs hr_9) (Nat.le_of_ble_eq_true rfl) dX7_number_108 (q := 111) rfl ?_
      exact v_vret hG hR rfl (spv h) dX7_number_111
    · replace h := ifn hc h
      refine v_iconst hG ci_1 dX7_number_103 (q := 104) rfl ?_
      refine v_goto hG dX7_number_104 (tgt := 108) rfl ?_
      obtain ⟨r_10, hr_10, h⟩ := bnd h
      refine v_cV1V hG cvX7_needs ml_RX7_275 rfl kk_59 (w_X7_needs hr_10) (Nat.le_of_ble_eq_true rfl) dX7_number_108 (q := 111) rfl ?_
      exact v_vret hG hR rfl (spv h) dX7_number_111
theorem w_X7_number_b29 {E : EB} {G : GB} (hG : Gd E mX7_number G) {M : Mem} {R : Mem} (hR : Rt E mX7_number (PV R) G) {k29 : Int32 → Int32 → Int32 → Int32 → Int32 → Mem → Option (Mem)} (hk29 : ∀ (x1 : Int32) (x2 : Int32) (x3 : Int32) (x4 : Int32) (x5 : Int32) (M : Mem), k29 x1 x2 x3 x4 x5 M = some R → V E G 29 [some (.ref 59), some (.int x1), some (.int x2), some (.int x3), some (.int x4), some (.int x5)] [] M) {x1 : Int32} {x2 : Int32} {x3 : Int32} {x4 : Int32} {x5 : Int32} (h : f_X7_number_b29 k29 x1 x2 x3 x4 x5 M = some R) : V E G 29 [some (.ref 59), some (.int x1), some (.int x2), some (.int x3), some (.int x4), some (.int x5)] [] M := by
  unfold f_X7_number_b29 at h
  refine v_iload_5 hG dX7_number_29 (q := 31) rfl ?_
  refine v_aload_0 hG dX7_number_31 (q := 32) rfl ?_
  refine gt_RX7_245 hG rfl kk_59 dX7_number_32 (q := 35) rfl ?_
  refine v_icmp_ge hG dX7_number_35 (tgt := 79) rfl (q := 38) rfl (fun hc => ?_) (fun hc => ?_)
  · replace h := ifp hc h
    refine v_drop (n := 5) (L' := [some (.ref 59), some (.int x1), some (.int x2), some (.int x3), some (.int x4), none]) rfl ?_
    exact w_X7_number_j79 hG hR h
  · replace h := ifn hc h
    refine v_iload_3 hG dX7_number_38 (q := 39) rfl ?_
    refine v_if_eq hG dX7_number_39 (tgt := 79) rfl (q := 42) rfl (fun hc => ?_) (fun hc => ?_)
    · replace h := ifp hc h
      refine v_drop (n := 5) (L' := [some (.ref 59), some (.int x1), some (.int x2), some (.int x3), some (.int x4), none]) rfl ?_
      exact w_X7_number_j79 hG hR h
    · replace h := ifn hc h
      refine v_iload_4 hG dX7_number_42 (q := 44) rfl ?_
      refine v_ldcw hG kc_RX7_271 dX7_number_44 (q := 47) rfl ?_
      refine v_icmp_le hG dX7_number_47 (tgt := 55) rfl (q := 50) rfl (fun hc => ?_) (fun hc => ?_)
      · replace h := ifp hc h
        refine v_bipush hG cb_10 dX7_number_55 (q := 57) rfl ?_
        refine v_iload_4 hG dX7_number_57 (q := 59) rfl ?_
        refine v_imul hG dX7_number_59 (q := 60) rfl ?_
        refine v_aload_0 hG dX7_number_60 (q := 61) rfl ?_
        refine gt_RX7_25 hG rfl kk_59 dX7_number_61 (q := 64) rfl ?_
        refine v_iload_5 hG dX7_number_64 (q := 66) rfl ?_
        obtain ⟨c_4, h⟩ := ck_some h
        refine v_iald hG kk_65 rfl c_4 dX7_number_66 (q := 67) rfl ?_
        refine v_iadd hG dX7_number_67 (q := 68) rfl ?_
        refine v_bipush hG cb_48 dX7_number_68 (q := 70) rfl ?_
        refine v_isub hG dX7_number_70 (q := 71) rfl ?_
        refine v_topi (fun x4_5 hy => ?_)
        replace h := letv_at hy h
        clear hy
        refine v_istore_4 hG rfl dX7_number_71 (q := 73) rfl ?_
        refine v_iinc_5 hG rfl dX7_number_73 (congrArg _ ci_1) (q := 76) rfl ?_
        refine v_goto hG dX7_number_76 (tgt := 29) rfl ?_
        exact hk29 _ _ _ _ _ _ h
      · replace h := ifn hc h
        refine v_iload_4 hG dX7_number_50 (q := 52) rfl ?_
        refine v_goto hG dX7_number_52 (tgt := 71) rfl ?_
        refine v_istore_4 hG rfl dX7_number_71 (q := 73) rfl ?_
        refine v_iinc_5 hG rfl dX7_number_73 (congrArg _ ci_1) (q := 76) rfl ?_
        refine v_goto hG dX7_number_76 (tgt := 29) rfl ?_
        exact hk29 _ _ _ _ _ _ h
theorem w_X7_number_l29 {E : EB} {G : GB} (hG : Gd E mX7_number G) {R : Mem} (hR : Rt E mX7_number (PV R) G) : ∀ (n : Nat) (x1 : Int32) (x2 : Int32) (x3 : Int32) (x4 : Int32) (x5 : Int32) (M : Mem), f_X7_number_l29 n x1 x2 x3 x4 x5 M = some R → V E G 29 [some (.ref 59), some (.int x1), some (.int x2), some (.int x3), some (.int x4), some (.int x5)] [] M := by
  intro n
  induction n with
  | zero => intro x1 x2 x3 x4 x5 M h; cases h
  | succ n ih => intro x1 x2 x3 x4 x5 M h; exact w_X7_number_b29 hG hR ih h
theorem w_X7_number {E : EB} {x1 : Int32} {x2 : Int32} {M : Mem} {R : Mem} (h : f_X7_number x1 x2 M = some R) : Mt E mX7_number [.ref 59, .int x1, .int x2] M (PV R) := by
  refine mt_of (L0 := [some (.ref 59), some (.int x1), some (.int x2), none, none, none]) (by decide) rfl rfl (fun G hG hR => ?_)
  unfold f_X7_number at h
  refine v_aload_0 hG dX7_number_0 (q := 1) rfl ?_
  refine gt_RX7_260 hG rfl kk_59 dX7_number_1 (q := 4) rfl ?_
  refine v_if_eq hG dX7_number_4 (tgt := 8) rfl (q := 7) rfl (fun hc => ?_) (fun hc => ?_)
  · replace h := ifp hc h
    refine v_aload_0 hG dX7_number_8 (q := 9) rfl ?_
    refine v_aload_0 hG dX7_number_9 (q := 10) rfl ?_
    refine gt_RX7_248 hG rfl kk_59 dX7_number_10 (q := 13) rfl ?_
    obtain ⟨r_1, hr_1, h⟩ := bnd h
    refine v_cV1I hG cvX7_byteAt ml_RX7_251 rfl kk_59 (w_X7_byteAt hr_1) (Nat.le_of_ble_eq_true rfl) dX7_number_13 (q := 16) rfl ?_
    obtain ⟨r_2, hr_2, h⟩ := bnd h
    refine v_cS1I hG csX7_isDigit ml_RX7_257 rfl (w_X7_isDigit hr_2) (Nat.le_of_ble_eq_true rfl) dX7_number_16 (q := 19) rfl ?_
    refine v_istore_3 hG rfl dX7_number_19 (q := 20) rfl ?_
    refine v_iconst hG ci_0 dX7_number_20 (q := 21) rfl ?_
    refine v_istore_4 hG rfl dX7_number_21 (q := 23) rfl ?_
    refine v_aload_0 hG dX7_number_23 (q := 24) rfl ?_
    refine gt_RX7_248 hG rfl kk_59 dX7_number_24 (q := 27) rfl ?_
    refine v_topi (fun x5_3 hy => ?_)
    replace h := letv_at hy h
    clear hy
    refine v_istore_5 hG rfl dX7_number_27 (q := 29) rfl ?_
    exact w_X7_number_l29 hG hR FU _ _ _ _ _ _ h
  · replace h := ifn hc h
    exact v_vret hG hR rfl (spv h) dX7_number_7
theorem cvX7_number : CVo mX7_number 2 7 := ⟨moX7_number, mvX7_number, by decide, _, _, rfl⟩
theorem w_X7_kindHere {E : EB} {M : Mem} {R : Int32} (h : f_X7_kindHere M = some R) : Mt E mX7_kindHere [.ref 59] M (PI R M) := by
  refine mt_of (L0 := [some (.ref 59), none, none]) (by decide) rfl rfl (fun G hG hR => ?_)
  unfold f_X7_kindHere at h
  refine v_aload_0 hG dX7_kindHere_0 (q := 1) rfl ?_
  obtain ⟨r_1, hr_1, h⟩ := bnd h
  refine v_cV0J hG cvX7_word ml_RX7_279 rfl kk_59 (w_X7_word hr_1) (Nat.le_of_ble_eq_true rfl) dX7_kindHere_1 (q := 4) rfl ?_
  refine v_lstore_1 hG rfl dX7_kindHere_4 (q := 5) rfl ?_
  refine v_lload_1 hG dX7_kindHere_5 (q := 6) rfl ?_
  refine v_ldc2 hG kl_RX7_283 dX7_kindHere_6 (q := 9) rfl ?_
  refine v_lcmp hG dX7_kindHere_9 (q := 10) rfl ?_
  refine v_if_ne hG dX7_kindHere_10 (tgt := 17) rfl (q := 13) rfl (fun hc => ?_) (fun hc => ?_)
  · replace h := ifn hc h
    refine v_lload_1 hG dX7_kindHere_17 (q := 18) rfl ?_
    refine v_ldc2 hG kl_RX7_285 dX7_kindHere_18 (q := 21) rfl ?_
    refine v_lcmp hG dX7_kindHere_21 (q := 22) rfl ?_
    refine v_if_ne hG dX7_kindHere_22 (tgt := 29) rfl (q := 25) rfl (fun hc => ?_) (fun hc => ?_)
    · replace h := ifn hc h
      refine v_lload_1 hG dX7_kindHere_29 (q := 30) rfl ?_
      refine v_ldc2 hG kl_RX7_287 dX7_kindHere_30 (q := 33) rfl ?_
      refine v_lcmp hG dX7_kindHere_33 (q := 34) rfl ?_
      refine v_if_ne hG dX7_kindHere_34 (tgt := 41) rfl (q := 37) rfl (fun hc => ?_) (fun hc => ?_)
      · replace h := ifn hc h
        refine v_lload_1 hG dX7_kindHere_41 (q := 42) rfl ?_
        refine v_ldc2 hG kl_RX7_289 dX7_kindHere_42 (q := 45) rfl ?_
        refine v_lcmp hG dX7_kindHere_45 (q := 46) rfl ?_
        refine v_if_ne hG dX7_kindHere_46 (tgt := 53) rfl (q := 49) rfl (fun hc => ?_) (fun hc => ?_)
        · replace h := ifn hc h
          refine v_lload_1 hG dX7_kindHere_53 (q := 54) rfl ?_
          refine v_ldc2 hG kl_RX7_291 dX7_kindHere_54 (q := 57) rfl ?_
          refine v_lcmp hG dX7_kindHere_57 (q := 58) rfl ?_
          refine v_if_ne hG dX7_kindHere_58 (tgt := 65) rfl (q := 61) rfl (fun hc => ?_) (fun hc => ?_)
          · replace h := ifn hc h
            refine v_lload_1 hG dX7_kindHere_65 (q := 66) rfl ?_
            refine v_ldc2 hG kl_RX7_293 dX7_kindHere_66 (q := 69) rfl ?_
            refine v_lcmp hG dX7_kindHere_69 (q := 70) rfl ?_
            refine v_if_ne hG dX7_kindHere_70 (tgt := 77) rfl (q := 73) rfl (fun hc => ?_) (fun hc => ?_)
            · replace h := ifn hc h
              refine v_lload_1 hG dX7_kindHere_77 (q := 78) rfl ?_
              refine v_ldc2 hG kl_RX7_295 dX7_kindHere_78 (q := 81) rfl ?_
              refine v_lcmp hG dX7_kindHere_81 (q := 82) rfl ?_
              refine v_if_ne hG dX7_kindHere_82 (tgt := 90) rfl (q := 85) rfl (fun hc => ?_) (fun hc => ?_)
              · replace h := ifn hc h
                refine v_iconst hG ci_m1 dX7_kindHere_90 (q := 91) rfl ?_
                exact v_iret hG hR rfl rfl (sp1 h) dX7_kindHere_91
              · replace h := ifp hc h
                refine v_bipush hG cb_6 dX7_kindHere_85 (q := 87) rfl ?_
                refine v_goto hG dX7_kindHere_87 (tgt := 91) rfl ?_
                exact v_iret hG hR rfl rfl (sp1 h) dX7_kindHere_91
            · replace h := ifp hc h
              refine v_iconst hG ci_5 dX7_kindHere_73 (q := 74) rfl ?_
              refine v_goto hG dX7_kindHere_74 (tgt := 91) rfl ?_
              exact v_iret hG hR rfl rfl (sp1 h) dX7_kindHere_91
          · replace h := ifp hc h
            refine v_iconst hG ci_4 dX7_kindHere_61 (q := 62) rfl ?_
            refine v_goto hG dX7_kindHere_62 (tgt := 91) rfl ?_
            exact v_iret hG hR rfl rfl (sp1 h) dX7_kindHere_91
        · replace h := ifp hc h
          refine v_iconst hG ci_3 dX7_kindHere_49 (q := 50) rfl ?_
          refine v_goto hG dX7_kindHere_50 (tgt := 91) rfl ?_
          exact v_iret hG hR rfl rfl (sp1 h) dX7_kindHere_91
      · replace h := ifp hc h
        refine v_iconst hG ci_2 dX7_kindHere_37 (q := 38) rfl ?_
        refine v_goto hG dX7_kindHere_38 (tgt := 91) rfl ?_
        exact v_iret hG hR rfl rfl (sp1 h) dX7_kindHere_91
    · replace h := ifp hc h
      refine v_iconst hG ci_1 dX7_kindHere_25 (q := 26) rfl ?_
      refine v_goto hG dX7_kindHere_26 (tgt := 91) rfl ?_
      exact v_iret hG hR rfl rfl (sp1 h) dX7_kindHere_91
  · replace h := ifp hc h
    refine v_iconst hG ci_0 dX7_kindHere_13 (q := 14) rfl ?_
    refine v_goto hG dX7_kindHere_14 (tgt := 91) rfl ?_
    exact v_iret hG hR rfl rfl (sp1 h) dX7_kindHere_91
theorem cvX7_kindHere : CVo mX7_kindHere 0 7 := ⟨moX7_kindHere, mvX7_kindHere, by decide, _, _, rfl⟩
theorem w_X7_perhaps {E : EB} {x1 : Int32} {x2 : Int32} {x3 : Int32} {M : Mem} {R : Int32 × Mem} (h : f_X7_perhaps x1 x2 x3 M = some R) : Mt E mX7_perhaps [.ref 59, .int x1, .int x2, .int x3] M (PI R.1 R.2) := by
  refine mt_of (L0 := [some (.ref 59), some (.int x1), some (.int x2), some (.int x3)]) (by decide) rfl rfl (fun G hG hR => ?_)
  unfold f_X7_perhaps at h
  refine v_iload_1 hG dX7_perhaps_0 (q := 1) rfl ?_
  refine v_if_ne hG dX7_perhaps_1 (tgt := 6) rfl (q := 4) rfl (fun hc => ?_) (fun hc => ?_)
  · replace h := ifn hc h
    refine v_aload_0 hG dX7_perhaps_6 (q := 7) rfl ?_
    refine v_iconst hG ci_1 dX7_perhaps_7 (q := 8) rfl ?_
    obtain ⟨r_1, hr_1, h⟩ := bnd h
    refine v_cV1V hG cvX7_needs ml_RX7_275 rfl kk_59 (w_X7_needs hr_1) (Nat.le_of_ble_eq_true rfl) dX7_perhaps_8 (q := 11) rfl ?_
    refine v_aload_0 hG dX7_perhaps_11 (q := 12) rfl ?_
    refine v_iconst hG ci_0 dX7_perhaps_12 (q := 13) rfl ?_
    refine v_iload_2 hG dX7_perhaps_13 (q := 14) rfl ?_
    obtain ⟨r_2, hr_2, h⟩ := bnd h
    refine v_cV2V hG cvX7_number ml_RX7_297 rfl kk_59 (w_X7_number hr_2) (Nat.le_of_ble_eq_true rfl) dX7_perhaps_14 (q := 17) rfl ?_
    refine v_aload_0 hG dX7_perhaps_17 (q := 18) rfl ?_
    refine gt_RX7_272 hG rfl kk_59 dX7_perhaps_18 (q := 21) rfl ?_
    exact v_iret hG hR rfl rfl (sp2t h) dX7_perhaps_21
  · replace h := ifp hc h
    refine v_iload_3 hG dX7_perhaps_4 (q := 5) rfl ?_
    exact v_iret hG hR rfl rfl (sp2t h) dX7_perhaps_5
theorem cvX7_perhaps : CVo mX7_perhaps 3 7 := ⟨moX7_perhaps, mvX7_perhaps, by decide, _, _, rfl⟩
theorem w_X7_marks_b13 {E : EB} {G : GB} (hG : Gd E mX7_marks G) {M : Mem} {R : Int32 × Mem} (hR : Rt E mX7_marks (PI R.1 R.2) G) {k13 : Int32 → Int32 → Mem → Option (Int32 × Mem)} (hk13 : ∀ (x2 : Int32) (x3 : Int32) (M : Mem), k13 x2 x3 M = some R → V E G 13 [some (.ref 59), none, some (.int x2), some (.int x3)] [] M) {x2 : Int32} {x3 : Int32} (h : f_X7_marks_b13 k13 x2 x3 M = some R) : V E G 13 [some (.ref 59), none, some (.int x2), some (.int x3)] [] M := by
  unfold f_X7_marks_b13 at h
  refine v_iload_3 hG dX7_marks_13 (q := 14) rfl ?_
  refine v_if_eq hG dX7_marks_14 (tgt := 66) rfl (q := 17) rfl (fun hc => ?_) (fun hc => ?_)
  · replace h := ifp hc h
    refine v_iload_2 hG dX7_marks_66 (q := 67) rfl ?_
    exact v_iret hG hR rfl rfl (sp2t h) dX7_marks_67
  · replace h := ifn hc h
    refine v_aload_0 hG dX7_marks_17 (q := 18) rfl ?_
    refine gt_RX7_260 hG rfl kk_59 dX7_marks_18 (q := 21) rfl ?_
    refine v_if_ne hG dX7_marks_21 (tgt := 66) rfl (q := 24) rfl (fun hc => ?_) (fun hc => ?_)
    · replace h := ifn hc h
      refine v_iload_2 hG dX7_marks_66 (q := 67) rfl ?_
      exact v_iret hG hR rfl rfl (sp2t h) dX7_marks_67
    · replace h := ifp hc h
      refine v_aload_0 hG dX7_marks_24 (q := 25) rfl ?_
      refine v_iconst hG ci_0 dX7_marks_25 (q := 26) rfl ?_
      refine v_bipush hG cb_11 dX7_marks_26 (q := 28) rfl ?_
      obtain ⟨r_2, hr_2, h⟩ := bnd h
      refine v_cV2V hG cvX7_number ml_RX7_297 rfl kk_59 (w_X7_number hr_2) (Nat.le_of_ble_eq_true rfl) dX7_marks_28 (q := 31) rfl ?_
      refine v_iload_2 hG dX7_marks_31 (q := 32) rfl ?_
      refine v_aload_0 hG dX7_marks_32 (q := 33) rfl ?_
      refine gt_RX7_260 hG rfl kk_59 dX7_marks_33 (q := 36) rfl ?_
      refine v_if_eq hG dX7_marks_36 (tgt := 43) rfl (q := 39) rfl (fun hc => ?_) (fun hc => ?_)
      · replace h := ifp hc h
        refine v_iconst hG ci_1 dX7_marks_43 (q := 44) rfl ?_
        refine v_aload_0 hG dX7_marks_44 (q := 45) rfl ?_
        refine gt_RX7_272 hG rfl kk_59 dX7_marks_45 (q := 48) rfl ?_
        refine v_ishl hG dX7_marks_48 (q := 49) rfl ?_
        refine v_ior hG dX7_marks_49 (q := 50) rfl ?_
        refine v_topi (fun x2_3 hy => ?_)
        replace h := letv_at hy h
        clear hy
        refine v_istore_2 hG rfl dX7_marks_50 (q := 51) rfl ?_
        refine v_aload_0 hG dX7_marks_51 (q := 52) rfl ?_
        refine v_aload_0 hG dX7_marks_52 (q := 53) rfl ?_
        refine gt_RX7_248 hG rfl kk_59 dX7_marks_53 (q := 56) rfl ?_
        obtain ⟨r_4, hr_4, h⟩ := bnd h
        refine v_cV1I hG cvX7_byteAt ml_RX7_251 rfl kk_59 (w_X7_byteAt hr_4) (Nat.le_of_ble_eq_true rfl) dX7_marks_56 (q := 59) rfl ?_
        obtain ⟨r_5, hr_5, h⟩ := bnd h
        refine v_cS1I hG csX7_isDigit ml_RX7_257 rfl (w_X7_isDigit hr_5) (Nat.le_of_ble_eq_true rfl) dX7_marks_59 (q := 62) rfl ?_
        refine v_istore_3 hG rfl dX7_marks_62 (q := 63) rfl ?_
        refine v_goto hG dX7_marks_63 (tgt := 13) rfl ?_
        exact hk13 _ _ _ h
      · replace h := ifn hc h
        refine v_iconst hG ci_0 dX7_marks_39 (q := 40) rfl ?_
        refine v_goto hG dX7_marks_40 (tgt := 49) rfl ?_
        refine v_ior hG dX7_marks_49 (q := 50) rfl ?_
        refine v_topi (fun x2_6 hy => ?_)
        replace h := letv_at hy h
        clear hy
        refine v_istore_2 hG rfl dX7_marks_50 (q := 51) rfl ?_
        refine v_aload_0 hG dX7_marks_51 (q := 52) rfl ?_
        refine v_aload_0 hG dX7_marks_52 (q := 53) rfl ?_
        refine gt_RX7_248 hG rfl kk_59 dX7_marks_53 (q := 56) rfl ?_
        obtain ⟨r_7, hr_7, h⟩ := bnd h
        refine v_cV1I hG cvX7_byteAt ml_RX7_251 rfl kk_59 (w_X7_byteAt hr_7) (Nat.le_of_ble_eq_true rfl) dX7_marks_56 (q := 59) rfl ?_
        obtain ⟨r_8, hr_8, h⟩ := bnd h
        refine v_cS1I hG csX7_isDigit ml_RX7_257 rfl (w_X7_isDigit hr_8) (Nat.le_of_ble_eq_true rfl) dX7_marks_59 (q := 62) rfl ?_
        refine v_istore_3 hG rfl dX7_marks_62 (q := 63) rfl ?_
        refine v_goto hG dX7_marks_63 (tgt := 13) rfl ?_
        exact hk13 _ _ _ h
theorem w_X7_marks_l13 {E : EB} {G : GB} (hG : Gd E mX7_marks G) {R : Int32 × Mem} (hR : Rt E mX7_marks (PI R.1 R.2) G) : ∀ (n : Nat) (x2 : Int32) (x3 : Int32) (M : Mem), f_X7_marks_l13 n x2 x3 M = some R → V E G 13 [some (.ref 59), none, some (.int x2), some (.int x3)] [] M := by
  intro n
  induction n with
  | zero => intro x2 x3 M h; cases h
  | succ n ih => intro x2 x3 M h; exact w_X7_marks_b13 hG hR ih h
theorem w_X7_marks {E : EB} {x1 : Int32} {M : Mem} {R : Int32 × Mem} (h : f_X7_marks x1 M = some R) : Mt E mX7_marks [.ref 59, .int x1] M (PI R.1 R.2) := by
  refine mt_of (L0 := [some (.ref 59), some (.int x1), none, none]) (by decide) rfl rfl (fun G hG hR => ?_)
  unfold f_X7_marks at h
  refine v_iconst hG ci_0 dX7_marks_0 (q := 1) rfl ?_
  refine v_istore_2 hG rfl dX7_marks_1 (q := 2) rfl ?_
  refine v_iload_1 hG dX7_marks_2 (q := 3) rfl ?_
  refine v_istore_3 hG rfl dX7_marks_3 (q := 4) rfl ?_
  refine v_iload_1 hG dX7_marks_4 (q := 5) rfl ?_
  refine v_if_eq hG dX7_marks_5 (tgt := 13) rfl (q := 8) rfl (fun hc => ?_) (fun hc => ?_)
  · replace h := ifp hc h
    refine v_drop (n := 1) (L' := [some (.ref 59), none, some (.int (0 : Int32)), some (.int x1)]) rfl ?_
    exact w_X7_marks_l13 hG hR FU _ _ _ h
  · replace h := ifn hc h
    refine v_aload_0 hG dX7_marks_8 (q := 9) rfl ?_
    refine v_iconst hG ci_1 dX7_marks_9 (q := 10) rfl ?_
    obtain ⟨r_1, hr_1, h⟩ := bnd h
    refine v_cV1V hG cvX7_needs ml_RX7_275 rfl kk_59 (w_X7_needs hr_1) (Nat.le_of_ble_eq_true rfl) dX7_marks_10 (q := 13) rfl ?_
    refine v_drop (n := 1) (L' := [some (.ref 59), none, some (.int (0 : Int32)), some (.int x1)]) rfl ?_
    exact w_X7_marks_l13 hG hR FU _ _ _ h
theorem cvX7_marks : CVo mX7_marks 1 7 := ⟨moX7_marks, mvX7_marks, by decide, _, _, rfl⟩
theorem w_X7_writerItem_j101 {E : EB} {G : GB} (hG : Gd E mX7_writerItem G) {M : Mem} {R : Mem} (hR : Rt E mX7_writerItem (PV R) G) {x1 : Int32} {x2 : Int32} {x3 : Int32} {x4 : Int32} {t1 : Int32} (h : f_X7_writerItem_j101 x1 x2 x3 x4 t1 M = some R) : V E G 101 [some (.ref 59), some (.int x1), some (.int x2), some (.int x3), some (.int x4), none, none] [.int t1, .ref 59] M := by
  unfold f_X7_writerItem_j101 at h
  refine v_bipush hG cb_99 dX7_writerItem_101 (q := 103) rfl ?_
  refine v_iconst hG ci_4 dX7_writerItem_103 (q := 104) rfl ?_
  obtain ⟨r_10, hr_10, h⟩ := bnd h
  refine v_cV3I hG cvX7_perhaps ml_RX7_312 rfl kk_59 (w_X7_perhaps hr_10) (Nat.le_of_ble_eq_true rfl) dX7_writerItem_104 (q := 107) rfl ?_
  refine v_istore_5 hG rfl dX7_writerItem_107 (q := 109) rfl ?_
  refine v_aload_0 hG dX7_writerItem_109 (q := 110) rfl ?_
  refine gt_RX7_260 hG rfl kk_59 dX7_writerItem_110 (q := 113) rfl ?_
  refine v_if_ne hG dX7_writerItem_113 (tgt := 173) rfl (q := 116) rfl (fun hc => ?_) (fun hc => ?_)
  · replace h := ifn hc h
    exact v_vret hG hR rfl (spv h) dX7_writerItem_173
  · replace h := ifp hc h
    refine v_aload_0 hG dX7_writerItem_116 (q := 117) rfl ?_
    refine v_iload_1 hG dX7_writerItem_117 (q := 118) rfl ?_
    obtain ⟨r_11, hr_11, h⟩ := bnd h
    refine v_cV1I hG cvX7_newWriter ml_RX7_73 rfl kk_59 (w_X7_newWriter hr_11) (Nat.le_of_ble_eq_true rfl) dX7_writerItem_118 (q := 121) rfl ?_
    refine v_istore_6 hG rfl dX7_writerItem_121 (q := 123) rfl ?_
    refine v_aload_0 hG dX7_writerItem_123 (q := 124) rfl ?_
    refine gt_RX7_7 hG rfl kk_59 dX7_writerItem_124 (q := 127) rfl ?_
    refine v_iload_6 hG dX7_writerItem_127 (q := 129) rfl ?_
    refine v_iconst hG ci_1 dX7_writerItem_129 (q := 130) rfl ?_
    obtain ⟨r_12, hr_12, h⟩ := bnd h
    refine v_cS2I hG csX7_at ml_RX7_50 rfl (w_X7_at hr_12) (Nat.le_of_ble_eq_true rfl) dX7_writerItem_130 (q := 133) rfl ?_
    refine v_iload_2 hG dX7_writerItem_133 (q := 134) rfl ?_
    obtain ⟨c_13, h⟩ := ck_some h
    refine v_iast hG kk_60 rfl c_13 dX7_writerItem_134 (q := 135) rfl ?_
    refine v_topM (fun M_14 hy => ?_)
    replace h := letv_at hy h
    clear hy
    refine v_aload_0 hG dX7_writerItem_135 (q := 136) rfl ?_
    refine gt_RX7_7 hG rfl kk_59 dX7_writerItem_136 (q := 139) rfl ?_
    refine v_iload_6 hG dX7_writerItem_139 (q := 141) rfl ?_
    refine v_iconst hG ci_2 dX7_writerItem_141 (q := 142) rfl ?_
    obtain ⟨r_15, hr_15, h⟩ := bnd h
    refine v_cS2I hG csX7_at ml_RX7_50 rfl (w_X7_at hr_15) (Nat.le_of_ble_eq_true rfl) dX7_writerItem_142 (q := 145) rfl ?_
    refine v_iload_3 hG dX7_writerItem_145 (q := 146) rfl ?_
    obtain ⟨c_16, h⟩ := ck_some h
    refine v_iast hG kk_60 rfl c_16 dX7_writerItem_146 (q := 147) rfl ?_
    refine v_topM (fun M_17 hy => ?_)
    replace h := letv_at hy h
    clear hy
    refine v_aload_0 hG dX7_writerItem_147 (q := 148) rfl ?_
    refine gt_RX7_7 hG rfl kk_59 dX7_writerItem_148 (q := 151) rfl ?_
    refine v_iload_6 hG dX7_writerItem_151 (q := 153) rfl ?_
    refine v_iconst hG ci_3 dX7_writerItem_153 (q := 154) rfl ?_
    obtain ⟨r_18, hr_18, h⟩ := bnd h
    refine v_cS2I hG csX7_at ml_RX7_50 rfl (w_X7_at hr_18) (Nat.le_of_ble_eq_true rfl) dX7_writerItem_154 (q := 157) rfl ?_
    refine v_iload_4 hG dX7_writerItem_157 (q := 159) rfl ?_
    obtain ⟨c_19, h⟩ := ck_some h
    refine v_iast hG kk_60 rfl c_19 dX7_writerItem_159 (q := 160) rfl ?_
    refine v_topM (fun M_20 hy => ?_)
    replace h := letv_at hy h
    clear hy
    refine v_aload_0 hG dX7_writerItem_160 (q := 161) rfl ?_
    refine gt_RX7_7 hG rfl kk_59 dX7_writerItem_161 (q := 164) rfl ?_
    refine v_iload_6 hG dX7_writerItem_164 (q := 166) rfl ?_
    refine v_iconst hG ci_4 dX7_writerItem_166 (q := 167) rfl ?_
    obtain ⟨r_21, hr_21, h⟩ := bnd h
    refine v_cS2I hG csX7_at ml_RX7_50 rfl (w_X7_at hr_21) (Nat.le_of_ble_eq_true rfl) dX7_writerItem_167 (q := 170) rfl ?_
    refine v_iload_5 hG dX7_writerItem_170 (q := 172) rfl ?_
    obtain ⟨c_22, h⟩ := ck_some h
    refine v_iast hG kk_60 rfl c_22 dX7_writerItem_172 (q := 173) rfl ?_
    refine v_topM (fun M_23 hy => ?_)
    replace h := letv_at hy h
    clear hy
    exact v_vret hG hR rfl (spv h) dX7_writerItem_173
theorem w_X7_writerItem_j79 {E : EB} {G : GB} (hG : Gd E mX7_writerItem G) {M : Mem} {R : Mem} (hR : Rt E mX7_writerItem (PV R) G) {x1 : Int32} {x2 : Int32} {x3 : Int32} {t1 : Int32} (h : f_X7_writerItem_j79 x1 x2 x3 t1 M = some R) : V E G 79 [some (.ref 59), some (.int x1), some (.int x2), some (.int x3), none, none, none] [.int t1, .ref 59] M := by
  unfold f_X7_writerItem_j79 at h
  obtain ⟨r_8, hr_8, h⟩ := bnd h
  refine v_cV1I hG cvX7_marks ml_RX7_302 rfl kk_59 (w_X7_marks hr_8) (Nat.le_of_ble_eq_true rfl) dX7_writerItem_79 (q := 82) rfl ?_
  refine v_istore_4 hG rfl dX7_writerItem_82 (q := 84) rfl ?_
  refine v_aload_0 hG dX7_writerItem_84 (q := 85) rfl ?_
  refine v_aload_0 hG dX7_writerItem_85 (q := 86) rfl ?_
  obtain ⟨r_9, hr_9, h⟩ := bnd h
  refine v_cV0J hG cvX7_word ml_RX7_279 rfl kk_59 (w_X7_word hr_9) (Nat.le_of_ble_eq_true rfl) dX7_writerItem_86 (q := 89) rfl ?_
  refine v_ldc2 hG kl_RX7_310 dX7_writerItem_89 (q := 92) rfl ?_
  refine v_lcmp hG dX7_writerItem_92 (q := 93) rfl ?_
  refine v_if_ne hG dX7_writerItem_93 (tgt := 100) rfl (q := 96) rfl (fun hc => ?_) (fun hc => ?_)
  · replace h := ifn hc h
    refine v_iconst hG ci_0 dX7_writerItem_100 (q := 101) rfl ?_
    exact w_X7_writerItem_j101 hG hR h
  · replace h := ifp hc h
    refine v_iconst hG ci_1 dX7_writerItem_96 (q := 97) rfl ?_
    refine v_goto hG dX7_writerItem_97 (tgt := 101) rfl ?_
    exact w_X7_writerItem_j101 hG hR h
theorem w_X7_writerItem_j58 {E : EB} {G : GB} (hG : Gd E mX7_writerItem G) {M : Mem} {R : Mem} (hR : Rt E mX7_writerItem (PV R) G) {x1 : Int32} {x2 : Int32} {t1 : Int32} (h : f_X7_writerItem_j58 x1 x2 t1 M = some R) : V E G 58 [some (.ref 59), some (.int x1), some (.int x2), none, none, none, none] [.int t1, .ref 59] M := by
  unfold f_X7_writerItem_j58 at h
  obtain ⟨r_6, hr_6, h⟩ := bnd h
  refine v_cV1I hG cvX7_marks ml_RX7_302 rfl kk_59 (w_X7_marks hr_6) (Nat.le_of_ble_eq_true rfl) dX7_writerItem_58 (q := 61) rfl ?_
  refine v_istore_3 hG rfl dX7_writerItem_61 (q := 62) rfl ?_
  refine v_aload_0 hG dX7_writerItem_62 (q := 63) rfl ?_
  refine v_aload_0 hG dX7_writerItem_63 (q := 64) rfl ?_
  obtain ⟨r_7, hr_7, h⟩ := bnd h
  refine v_cV0J hG cvX7_word ml_RX7_279 rfl kk_59 (w_X7_word hr_7) (Nat.le_of_ble_eq_true rfl) dX7_writerItem_64 (q := 67) rfl ?_
  refine v_ldc2 hG kl_RX7_308 dX7_writerItem_67 (q := 70) rfl ?_
  refine v_lcmp hG dX7_writerItem_70 (q := 71) rfl ?_
  refine v_if_ne hG dX7_writerItem_71 (tgt := 78) rfl (q := 74) rfl (fun hc => ?_) (fun hc => ?_)
  · replace h := ifn hc h
    refine v_iconst hG ci_0 dX7_writerItem_78 (q := 79) rfl ?_
    exact w_X7_writerItem_j79 hG hR h
  · replace h := ifp hc h
    refine v_iconst hG ci_1 dX7_writerItem_74 (q := 75) rfl ?_
    refine v_goto hG dX7_writerItem_75 (tgt := 79) rfl ?_
    exact w_X7_writerItem_j79 hG hR h
theorem w_X7_writerItem_j37 {E : EB} {G : GB} (hG : Gd E mX7_writerItem G) {M : Mem} {R : Mem} (hR : Rt E mX7_writerItem (PV R) G) {x1 : Int32} {t1 : Int32} (h : f_X7_writerItem_j37 x1 t1 M = some R) : V E G 37 [some (.ref 59), some (.int x1), none, none, none, none, none] [.int t1, .ref 59] M := by
  unfold f_X7_writerItem_j37 at h
  obtain ⟨r_4, hr_4, h⟩ := bnd h
  refine v_cV1I hG cvX7_marks ml_RX7_302 rfl kk_59 (w_X7_marks hr_4) (Nat.le_of_ble_eq_true rfl) dX7_writerItem_37 (q := 40) rfl ?_
  refine v_istore_2 hG rfl dX7_writerItem_40 (q := 41) rfl ?_
  refine v_aload_0 hG dX7_writerItem_41 (q := 42) rfl ?_
  refine v_aload_0 hG dX7_writerItem_42 (q := 43) rfl ?_
  obtain ⟨r_5, hr_5, h⟩ := bnd h
  refine v_cV0J hG cvX7_word ml_RX7_279 rfl kk_59 (w_X7_word hr_5) (Nat.le_of_ble_eq_true rfl) dX7_writerItem_43 (q := 46) rfl ?_
  refine v_ldc2 hG kl_RX7_306 dX7_writerItem_46 (q := 49) rfl ?_
  refine v_lcmp hG dX7_writerItem_49 (q := 50) rfl ?_
  refine v_if_ne hG dX7_writerItem_50 (tgt := 57) rfl (q := 53) rfl (fun hc => ?_) (fun hc => ?_)
  · replace h := ifn hc h
    refine v_iconst hG ci_0 dX7_writerItem_57 (q := 58) rfl ?_
    exact w_X7_writerItem_j58 hG hR h
  · replace h := ifp hc h
    refine v_iconst hG ci_1 dX7_writerItem_53 (q := 54) rfl ?_
    refine v_goto hG dX7_writerItem_54 (tgt := 58) rfl ?_
    exact w_X7_writerItem_j58 hG hR h
theorem w_X7_writerItem_j17 {E : EB} {G : GB} (hG : Gd E mX7_writerItem G) {M : Mem} {R : Mem} (hR : Rt E mX7_writerItem (PV R) G) {x1 : Int32} {t1 : Int32} (h : f_X7_writerItem_j17 x1 t1 M = some R) : V E G 17 [some (.ref 59), some (.int x1), none, none, none, none, none] [.int t1, .ref 59] M := by
  unfold f_X7_writerItem_j17 at h
  obtain ⟨r_2, hr_2, h⟩ := bnd h
  refine v_cV1V hG cvX7_needs ml_RX7_275 rfl kk_59 (w_X7_needs hr_2) (Nat.le_of_ble_eq_true rfl) dX7_writerItem_17 (q := 20) rfl ?_
  refine v_aload_0 hG dX7_writerItem_20 (q := 21) rfl ?_
  refine v_aload_0 hG dX7_writerItem_21 (q := 22) rfl ?_
  obtain ⟨r_3, hr_3, h⟩ := bnd h
  refine v_cV0J hG cvX7_word ml_RX7_279 rfl kk_59 (w_X7_word hr_3) (Nat.le_of_ble_eq_true rfl) dX7_writerItem_22 (q := 25) rfl ?_
  refine v_ldc2 hG kl_RX7_300 dX7_writerItem_25 (q := 28) rfl ?_
  refine v_lcmp hG dX7_writerItem_28 (q := 29) rfl ?_
  refine v_if_ne hG dX7_writerItem_29 (tgt := 36) rfl (q := 32) rfl (fun hc => ?_) (fun hc => ?_)
  · replace h := ifn hc h
    refine v_iconst hG ci_0 dX7_writerItem_36 (q := 37) rfl ?_
    exact w_X7_writerItem_j37 hG hR h
  · replace h := ifp hc h
    refine v_iconst hG ci_1 dX7_writerItem_32 (q := 33) rfl ?_
    refine v_goto hG dX7_writerItem_33 (tgt := 37) rfl ?_
    exact w_X7_writerItem_j37 hG hR h
theorem w_X7_writerItem {E : EB} {x1 : Int32} {M : Mem} {R : Mem} (h : f_X7_writerItem x1 M = some R) : Mt E mX7_writerItem [.ref 59, .int x1] M (PV R) := by
  refine mt_of (L0 := [some (.ref 59), some (.int x1), none, none, none, none, none]) (by decide) rfl rfl (fun G hG hR => ?_)
  unfold f_X7_writerItem at h
  refine v_aload_0 hG dX7_writerItem_0 (q := 1) rfl ?_
  refine v_aload_0 hG dX7_writerItem_1 (q := 2) rfl ?_
  refine gt_RX7_7 hG rfl kk_59 dX7_writerItem_2 (q := 5) rfl ?_
  refine v_iconst hG ci_0 dX7_writerItem_5 (q := 6) rfl ?_
  obtain ⟨c_1, h⟩ := ck_some h
  refine v_iald hG kk_60 rfl c_1 dX7_writerItem_6 (q := 7) rfl ?_
  refine v_bipush hG cb_6 dX7_writerItem_7 (q := 9) rfl ?_
  refine v_icmp_ge hG dX7_writerItem_9 (tgt := 16) rfl (q := 12) rfl (fun hc => ?_) (fun hc => ?_)
  · replace h := ifp hc h
    refine v_iconst hG ci_0 dX7_writerItem_16 (q := 17) rfl ?_
    exact w_X7_writerItem_j17 hG hR h
  · replace h := ifn hc h
    refine v_iconst hG ci_1 dX7_writerItem_12 (q := 13) rfl ?_
    refine v_goto hG dX7_writerItem_13 (tgt := 17) rfl ?_
    exact w_X7_writerItem_j17 hG hR h
theorem cvX7_writerItem : CVo mX7_writerItem 1 7 := ⟨moX7_writerItem, mvX7_writerItem, by decide, _, _, rfl⟩
theorem w_X7_personItem_j96 {E : EB} {G : GB} (hG : Gd E mX7_personItem G) {M : Mem} {R : Mem} (hR : Rt E mX7_personItem (PV R) G) {x1 : Int32} {x2 : Int32} {t1 : Int32} (h : f_X7_personItem_j96 x1 x2 t1 M = some R) : V E G 96 [some (.ref 59), some (.int x1), some (.int x2), none, none] [.int t1, .ref 59] M := by
  unfold f_X7_personItem_j96 at h
  refine v_ldcw hG kc_RX7_271 dX7_personItem_96 (q := 99) rfl ?_
  refine v_bipush hG cb_100 dX7_personItem_99 (q := 101) rfl ?_
  obtain ⟨r_11, hr_11, h⟩ := bnd h
  refine v_cV3I hG cvX7_perhaps ml_RX7_312 rfl kk_59 (w_X7_perhaps hr_11) (Nat.le_of_ble_eq_true rfl) dX7_personItem_101 (q := 104) rfl ?_
  refine v_istore_3 hG rfl dX7_personItem_104 (q := 105) rfl ?_
  refine v_aload_0 hG dX7_personItem_105 (q := 106) rfl ?_
  refine gt_RX7_260 hG rfl kk_59 dX7_personItem_106 (q := 109) rfl ?_
  refine v_if_ne hG dX7_personItem_109 (tgt := 143) rfl (q := 112) rfl (fun hc => ?_) (fun hc => ?_)
  · replace h := ifn hc h
    exact v_vret hG hR rfl (spv h) dX7_personItem_143
  · replace h := ifp hc h
    refine v_aload_0 hG dX7_personItem_112 (q := 113) rfl ?_
    refine v_iload_1 hG dX7_personItem_113 (q := 114) rfl ?_
    obtain ⟨r_12, hr_12, h⟩ := bnd h
    refine v_cV1I hG cvX7_newPerson ml_RX7_87 rfl kk_59 (w_X7_newPerson hr_12) (Nat.le_of_ble_eq_true rfl) dX7_personItem_114 (q := 117) rfl ?_
    refine v_istore_4 hG rfl dX7_personItem_117 (q := 119) rfl ?_
    refine v_aload_0 hG dX7_personItem_119 (q := 120) rfl ?_
    refine gt_RX7_7 hG rfl kk_59 dX7_personItem_120 (q := 123) rfl ?_
    refine v_iload_4 hG dX7_personItem_123 (q := 125) rfl ?_
    refine v_iconst hG ci_0 dX7_personItem_125 (q := 126) rfl ?_
    obtain ⟨r_13, hr_13, h⟩ := bnd h
    refine v_cS2I hG csX7_where ml_RX7_84 rfl (w_X7_where hr_13) (Nat.le_of_ble_eq_true rfl) dX7_personItem_126 (q := 129) rfl ?_
    refine v_iload_2 hG dX7_personItem_129 (q := 130) rfl ?_
    obtain ⟨c_14, h⟩ := ck_some h
    refine v_iast hG kk_60 rfl c_14 dX7_personItem_130 (q := 131) rfl ?_
    refine v_topM (fun M_15 hy => ?_)
    replace h := letv_at hy h
    clear hy
    refine v_aload_0 hG dX7_personItem_131 (q := 132) rfl ?_
    refine gt_RX7_7 hG rfl kk_59 dX7_personItem_132 (q := 135) rfl ?_
    refine v_iload_4 hG dX7_personItem_135 (q := 137) rfl ?_
    refine v_iconst hG ci_3 dX7_personItem_137 (q := 138) rfl ?_
    obtain ⟨r_16, hr_16, h⟩ := bnd h
    refine v_cS2I hG csX7_where ml_RX7_84 rfl (w_X7_where hr_16) (Nat.le_of_ble_eq_true rfl) dX7_personItem_138 (q := 141) rfl ?_
    refine v_iload_3 hG dX7_personItem_141 (q := 142) rfl ?_
    obtain ⟨c_17, h⟩ := ck_some h
    refine v_iast hG kk_60 rfl c_17 dX7_personItem_142 (q := 143) rfl ?_
    refine v_topM (fun M_18 hy => ?_)
    replace h := letv_at hy h
    clear hy
    exact v_vret hG hR rfl (spv h) dX7_personItem_143
theorem w_X7_personItem_j75 {E : EB} {G : GB} (hG : Gd E mX7_personItem G) {M : Mem} {R : Mem} (hR : Rt E mX7_personItem (PV R) G) {x1 : Int32} {t1 : Int32} (h : f_X7_personItem_j75 x1 t1 M = some R) : V E G 75 [some (.ref 59), some (.int x1), none, none, none] [.int t1, .ref 59] M := by
  unfold f_X7_personItem_j75 at h
  obtain ⟨r_9, hr_9, h⟩ := bnd h
  refine v_cV1I hG cvX7_marks ml_RX7_302 rfl kk_59 (w_X7_marks hr_9) (Nat.le_of_ble_eq_true rfl) dX7_personItem_75 (q := 78) rfl ?_
  refine v_istore_2 hG rfl dX7_personItem_78 (q := 79) rfl ?_
  refine v_aload_0 hG dX7_personItem_79 (q := 80) rfl ?_
  refine v_aload_0 hG dX7_personItem_80 (q := 81) rfl ?_
  obtain ⟨r_10, hr_10, h⟩ := bnd h
  refine v_cV0J hG cvX7_word ml_RX7_279 rfl kk_59 (w_X7_word hr_10) (Nat.le_of_ble_eq_true rfl) dX7_personItem_81 (q := 84) rfl ?_
  refine v_ldc2 hG kl_RX7_320 dX7_personItem_84 (q := 87) rfl ?_
  refine v_lcmp hG dX7_personItem_87 (q := 88) rfl ?_
  refine v_if_ne hG dX7_personItem_88 (tgt := 95) rfl (q := 91) rfl (fun hc => ?_) (fun hc => ?_)
  · replace h := ifn hc h
    refine v_iconst hG ci_0 dX7_personItem_95 (q := 96) rfl ?_
    exact w_X7_personItem_j96 hG hR h
  · replace h := ifp hc h
    refine v_iconst hG ci_1 dX7_personItem_91 (q := 92) rfl ?_
    refine v_goto hG dX7_personItem_92 (tgt := 96) rfl ?_
    exact w_X7_personItem_j96 hG hR h
theorem w_X7_personItem_j37 {E : EB} {G : GB} (hG : Gd E mX7_personItem G) {M : Mem} {R : Mem} (hR : Rt E mX7_personItem (PV R) G) {t1 : Int32} (h : f_X7_personItem_j37 t1 M = some R) : V E G 37 [some (.ref 59), none, none, none, none] [.int t1, .ref 59] M := by
  unfold f_X7_personItem_j37 at h
  obtain ⟨r_4, hr_4, h⟩ := bnd h
  refine v_cV1V hG cvX7_needs ml_RX7_275 rfl kk_59 (w_X7_needs hr_4) (Nat.le_of_ble_eq_true rfl) dX7_personItem_37 (q := 40) rfl ?_
  refine v_aload_0 hG dX7_personItem_40 (q := 41) rfl ?_
  refine v_iconst hG ci_0 dX7_personItem_41 (q := 42) rfl ?_
  refine v_aload_0 hG dX7_personItem_42 (q := 43) rfl ?_
  refine gt_RX7_7 hG rfl kk_59 dX7_personItem_43 (q := 46) rfl ?_
  refine v_iconst hG ci_0 dX7_personItem_46 (q := 47) rfl ?_
  obtain ⟨c_5, h⟩ := ck_some h
  refine v_iald hG kk_60 rfl c_5 dX7_personItem_47 (q := 48) rfl ?_
  refine v_iconst hG ci_1 dX7_personItem_48 (q := 49) rfl ?_
  refine v_isub hG dX7_personItem_49 (q := 50) rfl ?_
  obtain ⟨r_6, hr_6, h⟩ := bnd h
  refine v_cV2V hG cvX7_number ml_RX7_297 rfl kk_59 (w_X7_number hr_6) (Nat.le_of_ble_eq_true rfl) dX7_personItem_50 (q := 53) rfl ?_
  refine v_aload_0 hG dX7_personItem_53 (q := 54) rfl ?_
  refine gt_RX7_272 hG rfl kk_59 dX7_personItem_54 (q := 57) rfl ?_
  refine v_topi (fun x1_7 hy => ?_)
  replace h := letv_at hy h
  clear hy
  refine v_istore_1 hG rfl dX7_personItem_57 (q := 58) rfl ?_
  refine v_aload_0 hG dX7_personItem_58 (q := 59) rfl ?_
  refine v_aload_0 hG dX7_personItem_59 (q := 60) rfl ?_
  obtain ⟨r_8, hr_8, h⟩ := bnd h
  refine v_cV0J hG cvX7_word ml_RX7_279 rfl kk_59 (w_X7_word hr_8) (Nat.le_of_ble_eq_true rfl) dX7_personItem_60 (q := 63) rfl ?_
  refine v_ldc2 hG kl_RX7_318 dX7_personItem_63 (q := 66) rfl ?_
  refine v_lcmp hG dX7_personItem_66 (q := 67) rfl ?_
  refine v_if_ne hG dX7_personItem_67 (tgt := 74) rfl (q := 70) rfl (fun hc => ?_) (fun hc => ?_)
  · replace h := ifn hc h
    refine v_iconst hG ci_0 dX7_personItem_74 (q := 75) rfl ?_
    exact w_X7_personItem_j75 hG hR h
  · replace h := ifp hc h
    refine v_iconst hG ci_1 dX7_personItem_70 (q := 71) rfl ?_
    refine v_goto hG dX7_personItem_71 (tgt := 75) rfl ?_
    exact w_X7_personItem_j75 hG hR h
theorem w_X7_personItem_j17 {E : EB} {G : GB} (hG : Gd E mX7_personItem G) {M : Mem} {R : Mem} (hR : Rt E mX7_personItem (PV R) G) {t1 : Int32} (h : f_X7_personItem_j17 t1 M = some R) : V E G 17 [some (.ref 59), none, none, none, none] [.int t1, .ref 59] M := by
  unfold f_X7_personItem_j17 at h
  obtain ⟨r_2, hr_2, h⟩ := bnd h
  refine v_cV1V hG cvX7_needs ml_RX7_275 rfl kk_59 (w_X7_needs hr_2) (Nat.le_of_ble_eq_true rfl) dX7_personItem_17 (q := 20) rfl ?_
  refine v_aload_0 hG dX7_personItem_20 (q := 21) rfl ?_
  refine v_aload_0 hG dX7_personItem_21 (q := 22) rfl ?_
  obtain ⟨r_3, hr_3, h⟩ := bnd h
  refine v_cV0J hG cvX7_word ml_RX7_279 rfl kk_59 (w_X7_word hr_3) (Nat.le_of_ble_eq_true rfl) dX7_personItem_22 (q := 25) rfl ?_
  refine v_ldc2 hG kl_RX7_316 dX7_personItem_25 (q := 28) rfl ?_
  refine v_lcmp hG dX7_personItem_28 (q := 29) rfl ?_
  refine v_if_ne hG dX7_personItem_29 (tgt := 36) rfl (q := 32) rfl (fun hc => ?_) (fun hc => ?_)
  · replace h := ifn hc h
    refine v_iconst hG ci_0 dX7_personItem_36 (q := 37) rfl ?_
    exact w_X7_personItem_j37 hG hR h
  · replace h := ifp hc h
    refine v_iconst hG ci_1 dX7_personItem_32 (q := 33) rfl ?_
    refine v_goto hG dX7_personItem_33 (tgt := 37) rfl ?_
    exact w_X7_personItem_j37 hG hR h
theorem w_X7_personItem {E : EB} {M : Mem} {R : Mem} (h : f_X7_personItem M = some R) : Mt E mX7_personItem [.ref 59] M (PV R) := by
  refine mt_of (L0 := [some (.ref 59), none, none, none, none]) (by decide) rfl rfl (fun G hG hR => ?_)
  unfold f_X7_personItem at h
  refine v_aload_0 hG dX7_personItem_0 (q := 1) rfl ?_
  refine v_aload_0 hG dX7_personItem_1 (q := 2) rfl ?_
  refine gt_RX7_7 hG rfl kk_59 dX7_personItem_2 (q := 5) rfl ?_
  refine v_iconst hG ci_1 dX7_personItem_5 (q := 6) rfl ?_
  obtain ⟨c_1, h⟩ := ck_some h
  refine v_iald hG kk_60 rfl c_1 dX7_personItem_6 (q := 7) rfl ?_
  refine v_bipush hG cb_8 dX7_personItem_7 (q := 9) rfl ?_
  refine v_icmp_ge hG dX7_personItem_9 (tgt := 16) rfl (q := 12) rfl (fun hc => ?_) (fun hc => ?_)
  · replace h := ifp hc h
    refine v_iconst hG ci_0 dX7_personItem_16 (q := 17) rfl ?_
    exact w_X7_personItem_j17 hG hR h
  · replace h := ifn hc h
    refine v_iconst hG ci_1 dX7_personItem_12 (q := 13) rfl ?_
    refine v_goto hG dX7_personItem_13 (tgt := 17) rfl ?_
    exact w_X7_personItem_j17 hG hR h
theorem cvX7_personItem : CVo mX7_personItem 0 7 := ⟨moX7_personItem, mvX7_personItem, by decide, _, _, rfl⟩
theorem w_X7_isNumber_j61 {E : EB} {G : GB} (hG : Gd E mX7_isNumber G) {M : Mem} {R : Bool} (hR : Rt E mX7_isNumber (PI (b2i R) M) G) {x1 : Int32} {x2 : Int32} (h : f_X7_isNumber_j61 x1 x2 M = some R) : V E G 61 [some (.ref 59), some (.int x1), some (.int x2), none] [] M := by
  unfold f_X7_isNumber_j61 at h
  refine v_aload_0 hG dX7_isNumber_61 (q := 62) rfl ?_
  refine v_aload_0 hG dX7_isNumber_62 (q := 63) rfl ?_
  refine gt_RX7_248 hG rfl kk_59 dX7_isNumber_63 (q := 66) rfl ?_
  obtain ⟨r_6, hr_6, h⟩ := bnd h
  refine v_cV1I hG cvX7_byteAt ml_RX7_251 rfl kk_59 (w_X7_byteAt hr_6) (Nat.le_of_ble_eq_true rfl) dX7_isNumber_66 (q := 69) rfl ?_
  obtain ⟨r_7, hr_7, h⟩ := bnd h
  refine v_cS1I hG csX7_isDigit ml_RX7_257 rfl (w_X7_isDigit hr_7) (Nat.le_of_ble_eq_true rfl) dX7_isNumber_69 (q := 72) rfl ?_
  refine v_if_eq hG dX7_isNumber_72 (tgt := 84) rfl (q := 75) rfl (fun hc => ?_) (fun hc => ?_)
  · replace h := ifp hc h
    refine v_iconst hG ci_0 dX7_isNumber_84 (q := 85) rfl ?_
    exact v_iret hG hR rfl rfl (sp1b h) dX7_isNumber_85
  · replace h := ifn hc h
    refine v_iload_2 hG dX7_isNumber_75 (q := 76) rfl ?_
    refine v_iload_1 hG dX7_isNumber_76 (q := 77) rfl ?_
    refine v_icmp_ne hG dX7_isNumber_77 (tgt := 84) rfl (q := 80) rfl (fun hc => ?_) (fun hc => ?_)
    · replace h := ifn hc h
      refine v_iconst hG ci_0 dX7_isNumber_84 (q := 85) rfl ?_
      exact v_iret hG hR rfl rfl (sp1b h) dX7_isNumber_85
    · replace h := ifp hc h
      refine v_iconst hG ci_1 dX7_isNumber_80 (q := 81) rfl ?_
      refine v_goto hG dX7_isNumber_81 (tgt := 85) rfl ?_
      exact v_iret hG hR rfl rfl (sp1b h) dX7_isNumber_85
theorem w_X7_isNumber_b7 {E : EB} {G : GB} (hG : Gd E mX7_isNumber G) {M : Mem} {R : Bool} (hR : Rt E mX7_isNumber (PI (b2i R) M) G) {k7 : Int32 → Int32 → Int32 → Mem → Option (Bool)} (hk7 : ∀ (x1 : Int32) (x2 : Int32) (x3 : Int32) (M' : Mem), k7 x1 x2 x3 M' = some R → M' = M → V E G 7 [some (.ref 59), some (.int x1), some (.int x2), some (.int x3)] [] M') {x1 : Int32} {x2 : Int32} {x3 : Int32} (h : f_X7_isNumber_b7 k7 x1 x2 x3 M = some R) : V E G 7 [some (.ref 59), some (.int x1), some (.int x2), some (.int x3)] [] M := by
  unfold f_X7_isNumber_b7 at h
  refine v_iload_3 hG dX7_isNumber_7 (q := 8) rfl ?_
  refine v_aload_0 hG dX7_isNumber_8 (q := 9) rfl ?_
  refine gt_RX7_245 hG rfl kk_59 dX7_isNumber_9 (q := 12) rfl ?_
  refine v_icmp_ge hG dX7_isNumber_12 (tgt := 61) rfl (q := 15) rfl (fun hc => ?_) (fun hc => ?_)
  · replace h := ifp hc h
    refine v_drop (n := 3) (L' := [some (.ref 59), some (.int x1), some (.int x2), none]) rfl ?_
    exact w_X7_isNumber_j61 hG hR h
  · replace h := ifn hc h
    refine v_aload_0 hG dX7_isNumber_15 (q := 16) rfl ?_
    refine v_aload_0 hG dX7_isNumber_16 (q := 17) rfl ?_
    refine gt_RX7_248 hG rfl kk_59 dX7_isNumber_17 (q := 20) rfl ?_
    obtain ⟨r_2, hr_2, h⟩ := bnd h
    refine v_cV1I hG cvX7_byteAt ml_RX7_251 rfl kk_59 (w_X7_byteAt hr_2) (Nat.le_of_ble_eq_true rfl) dX7_isNumber_20 (q := 23) rfl ?_
    obtain ⟨r_3, hr_3, h⟩ := bnd h
    refine v_cS1I hG csX7_isDigit ml_RX7_257 rfl (w_X7_isDigit hr_3) (Nat.le_of_ble_eq_true rfl) dX7_isNumber_23 (q := 26) rfl ?_
    refine v_if_eq hG dX7_isNumber_26 (tgt := 61) rfl (q := 29) rfl (fun hc => ?_) (fun hc => ?_)
    · replace h := ifp hc h
      refine v_drop (n := 3) (L' := [some (.ref 59), some (.int x1), some (.int x2), none]) rfl ?_
      exact w_X7_isNumber_j61 hG hR h
    · replace h := ifn hc h
      refine v_iload_2 hG dX7_isNumber_29 (q := 30) rfl ?_
      refine v_ldcw hG kc_RX7_271 dX7_isNumber_30 (q := 33) rfl ?_
      refine v_icmp_le hG dX7_isNumber_33 (tgt := 40) rfl (q := 36) rfl (fun hc => ?_) (fun hc => ?_)
      · replace h := ifp hc h
        refine v_bipush hG cb_10 dX7_isNumber_40 (q := 42) rfl ?_
        refine v_iload_2 hG dX7_isNumber_42 (q := 43) rfl ?_
        refine v_imul hG dX7_isNumber_43 (q := 44) rfl ?_
        refine v_aload_0 hG dX7_isNumber_44 (q := 45) rfl ?_
        refine gt_RX7_25 hG rfl kk_59 dX7_isNumber_45 (q := 48) rfl ?_
        refine v_iload_3 hG dX7_isNumber_48 (q := 49) rfl ?_
        obtain ⟨c_4, h⟩ := ck_some h
        refine v_iald hG kk_65 rfl c_4 dX7_isNumber_49 (q := 50) rfl ?_
        refine v_iadd hG dX7_isNumber_50 (q := 51) rfl ?_
        refine v_bipush hG cb_48 dX7_isNumber_51 (q := 53) rfl ?_
        refine v_isub hG dX7_isNumber_53 (q := 54) rfl ?_
        refine v_topi (fun x2_5 hy => ?_)
        replace h := letv_at hy h
        clear hy
        refine v_istore_2 hG rfl dX7_isNumber_54 (q := 55) rfl ?_
        refine v_iinc_3 hG rfl dX7_isNumber_55 (congrArg _ ci_1) (q := 58) rfl ?_
        refine v_goto hG dX7_isNumber_58 (tgt := 7) rfl ?_
        exact hk7 _ _ _ _ h rfl
      · replace h := ifn hc h
        refine v_iload_2 hG dX7_isNumber_36 (q := 37) rfl ?_
        refine v_goto hG dX7_isNumber_37 (tgt := 54) rfl ?_
        refine v_istore_2 hG rfl dX7_isNumber_54 (q := 55) rfl ?_
        refine v_iinc_3 hG rfl dX7_isNumber_55 (congrArg _ ci_1) (q := 58) rfl ?_
        refine v_goto hG dX7_isNumber_58 (tgt := 7) rfl ?_
        exact hk7 _ _ _ _ h rfl
theorem w_X7_isNumber_l7 {E : EB} {G : GB} (hG : Gd E mX7_isNumber G) {M : Mem} {R : Bool} (hR : Rt E mX7_isNumber (PI (b2i R) M) G) : ∀ (n : Nat) (x1 : Int32) (x2 : Int32) (x3 : Int32) (M' : Mem), f_X7_isNumber_l7 n x1 x2 x3 M' = some R → M' = M → V E G 7 [some (.ref 59), some (.int x1), some (.int x2), some (.int x3)] [] M' := by
  intro n
  induction n with
  | zero => intro x1 x2 x3 M' h; cases h
  | succ n ih => intro x1 x2 x3 M' h e; subst e; exact w_X7_isNumber_b7 hG hR ih h
theorem w_X7_isNumber {E : EB} {x1 : Int32} {M : Mem} {R : Bool} (h : f_X7_isNumber x1 M = some R) : Mt E mX7_isNumber [.ref 59, .int x1] M (PI (b2i R) M) := by
  refine mt_of (L0 := [some (.ref 59), some (.int x1), none, none]) (by decide) rfl rfl (fun G hG hR => ?_)
  unfold f_X7_isNumber at h
  refine v_iconst hG ci_0 dX7_isNumber_0 (q := 1) rfl ?_
  refine v_istore_2 hG rfl dX7_isNumber_1 (q := 2) rfl ?_
  refine v_aload_0 hG dX7_isNumber_2 (q := 3) rfl ?_
  refine gt_RX7_248 hG rfl kk_59 dX7_isNumber_3 (q := 6) rfl ?_
  refine v_topi (fun x3_1 hy => ?_)
  replace h := letv_at hy h
  clear hy
  refine v_istore_3 hG rfl dX7_isNumber_6 (q := 7) rfl ?_
  exact w_X7_isNumber_l7 hG hR FU _ _ _ _ h rfl
theorem cvX7_isNumber : CVo mX7_isNumber 1 7 := ⟨moX7_isNumber, mvX7_isNumber, by decide, _, _, rfl⟩
theorem w_X7_tieItem_j76 {E : EB} {G : GB} (hG : Gd E mX7_tieItem G) {M : Mem} {R : Mem} (hR : Rt E mX7_tieItem (PV R) G) {x1 : Int32} {x2 : Int32} (h : f_X7_tieItem_j76 x1 x2 M = some R) : V E G 76 [some (.ref 59), some (.int x1), some (.int x2)] [] M := by
  unfold f_X7_tieItem_j76 at h
  refine v_aload_0 hG dX7_tieItem_76 (q := 77) rfl ?_
  refine v_aload_0 hG dX7_tieItem_77 (q := 78) rfl ?_
  refine gt_RX7_260 hG rfl kk_59 dX7_tieItem_78 (q := 81) rfl ?_
  refine v_if_ne hG dX7_tieItem_81 (tgt := 88) rfl (q := 84) rfl (fun hc => ?_) (fun hc => ?_)
  · replace h := ifn hc h
    refine v_iconst hG ci_1 dX7_tieItem_88 (q := 89) rfl ?_
    refine v_goto hG dX7_tieItem_89 (tgt := 93) rfl ?_
    refine pt_RX7_260 hG rfl kk_59 (Or.inr rfl) dX7_tieItem_93 (q := 96) rfl ?_
    refine v_topM (fun M_9 hy => ?_)
    replace h := letv_at hy h
    clear hy
    refine v_aload_0 hG dX7_tieItem_96 (q := 97) rfl ?_
    refine gt_RX7_260 hG rfl kk_59 dX7_tieItem_97 (q := 100) rfl ?_
    refine v_if_ne hG dX7_tieItem_100 (tgt := 113) rfl (q := 103) rfl (fun hc => ?_) (fun hc => ?_)
    · replace h := ifn hc h
      exact v_vret hG hR rfl (spv h) dX7_tieItem_113
    · replace h := ifp hc h
      refine v_aload_0 hG dX7_tieItem_103 (q := 104) rfl ?_
      refine v_iload_1 hG dX7_tieItem_104 (q := 105) rfl ?_
      refine v_aload_0 hG dX7_tieItem_105 (q := 106) rfl ?_
      refine gt_RX7_272 hG rfl kk_59 dX7_tieItem_106 (q := 109) rfl ?_
      refine v_iconst hG ci_1 dX7_tieItem_109 (q := 110) rfl ?_
      obtain ⟨r_10, hr_10, h⟩ := bnd h
      refine v_cV3V hG cvX7_joins ml_RX7_113 rfl kk_59 (w_X7_joins hr_10) (Nat.le_of_ble_eq_true rfl) dX7_tieItem_110 (q := 113) rfl ?_
      exact v_vret hG hR rfl (spv h) dX7_tieItem_113
  · replace h := ifp hc h
    refine v_iload_2 hG dX7_tieItem_84 (q := 85) rfl ?_
    refine v_if_eq hG dX7_tieItem_85 (tgt := 92) rfl (q := 88) rfl (fun hc => ?_) (fun hc => ?_)
    · replace h := ifp hc h
      refine v_iconst hG ci_0 dX7_tieItem_92 (q := 93) rfl ?_
      refine pt_RX7_260 hG rfl kk_59 (Or.inl rfl) dX7_tieItem_93 (q := 96) rfl ?_
      refine v_topM (fun M_11 hy => ?_)
      replace h := letv_at hy h
      clear hy
      refine v_aload_0 hG dX7_tieItem_96 (q := 97) rfl ?_
      refine gt_RX7_260 hG rfl kk_59 dX7_tieItem_97 (q := 100) rfl ?_
      refine v_if_ne hG dX7_tieItem_100 (tgt := 113) rfl (q := 103) rfl (fun hc => ?_) (fun hc => ?_)
      · replace h := ifn hc h
        exact v_vret hG hR rfl (spv h) dX7_tieItem_113
      · replace h := ifp hc h
        refine v_aload_0 hG dX7_tieItem_103 (q := 104) rfl ?_
        refine v_iload_1 hG dX7_tieItem_104 (q := 105) rfl ?_
        refine v_aload_0 hG dX7_tieItem_105 (q := 106) rfl ?_
        refine gt_RX7_272 hG rfl kk_59 dX7_tieItem_106 (q := 109) rfl ?_
        refine v_iconst hG ci_1 dX7_tieItem_109 (q := 110) rfl ?_
        obtain ⟨r_12, hr_12, h⟩ := bnd h
        refine v_cV3V hG cvX7_joins ml_RX7_113 rfl kk_59 (w_X7_joins hr_12) (Nat.le_of_ble_eq_true rfl) dX7_tieItem_110 (q := 113) rfl ?_
        exact v_vret hG hR rfl (spv h) dX7_tieItem_113
    · replace h := ifn hc h
      refine v_iconst hG ci_1 dX7_tieItem_88 (q := 89) rfl ?_
      refine v_goto hG dX7_tieItem_89 (tgt := 93) rfl ?_
      refine pt_RX7_260 hG rfl kk_59 (Or.inr rfl) dX7_tieItem_93 (q := 96) rfl ?_
      refine v_topM (fun M_13 hy => ?_)
      replace h := letv_at hy h
      clear hy
      refine v_aload_0 hG dX7_tieItem_96 (q := 97) rfl ?_
      refine gt_RX7_260 hG rfl kk_59 dX7_tieItem_97 (q := 100) rfl ?_
      refine v_if_ne hG dX7_tieItem_100 (tgt := 113) rfl (q := 103) rfl (fun hc => ?_) (fun hc => ?_)
      · replace h := ifn hc h
        exact v_vret hG hR rfl (spv h) dX7_tieItem_113
      · replace h := ifp hc h
        refine v_aload_0 hG dX7_tieItem_103 (q := 104) rfl ?_
        refine v_iload_1 hG dX7_tieItem_104 (q := 105) rfl ?_
        refine v_aload_0 hG dX7_tieItem_105 (q := 106) rfl ?_
        refine gt_RX7_272 hG rfl kk_59 dX7_tieItem_106 (q := 109) rfl ?_
        refine v_iconst hG ci_1 dX7_tieItem_109 (q := 110) rfl ?_
        obtain ⟨r_14, hr_14, h⟩ := bnd h
        refine v_cV3V hG cvX7_joins ml_RX7_113 rfl kk_59 (w_X7_joins hr_14) (Nat.le_of_ble_eq_true rfl) dX7_tieItem_110 (q := 113) rfl ?_
        exact v_vret hG hR rfl (spv h) dX7_tieItem_113
theorem w_X7_tieItem_j58 {E : EB} {G : GB} (hG : Gd E mX7_tieItem G) {M : Mem} {R : Mem} (hR : Rt E mX7_tieItem (PV R) G) {x1 : Int32} {t0 : Int32} (h : f_X7_tieItem_j58 x1 t0 M = some R) : V E G 58 [some (.ref 59), some (.int x1), none] [.int t0] M := by
  unfold f_X7_tieItem_j58 at h
  refine v_istore_2 hG rfl dX7_tieItem_58 (q := 59) rfl ?_
  refine v_iload_2 hG dX7_tieItem_59 (q := 60) rfl ?_
  refine v_if_ne hG dX7_tieItem_60 (tgt := 76) rfl (q := 63) rfl (fun hc => ?_) (fun hc => ?_)
  · replace h := ifn hc h
    exact w_X7_tieItem_j76 hG hR h
  · replace h := ifp hc h
    refine v_aload_0 hG dX7_tieItem_63 (q := 64) rfl ?_
    refine v_iconst hG ci_0 dX7_tieItem_64 (q := 65) rfl ?_
    refine v_aload_0 hG dX7_tieItem_65 (q := 66) rfl ?_
    refine gt_RX7_7 hG rfl kk_59 dX7_tieItem_66 (q := 69) rfl ?_
    refine v_iconst hG ci_1 dX7_tieItem_69 (q := 70) rfl ?_
    obtain ⟨c_7, h⟩ := ck_some h
    refine v_iald hG kk_60 rfl c_7 dX7_tieItem_70 (q := 71) rfl ?_
    refine v_iconst hG ci_1 dX7_tieItem_71 (q := 72) rfl ?_
    refine v_isub hG dX7_tieItem_72 (q := 73) rfl ?_
    obtain ⟨r_8, hr_8, h⟩ := bnd h
    refine v_cV2V hG cvX7_number ml_RX7_297 rfl kk_59 (w_X7_number hr_8) (Nat.le_of_ble_eq_true rfl) dX7_tieItem_73 (q := 76) rfl ?_
    exact w_X7_tieItem_j76 hG hR h
theorem w_X7_tieItem_j57 {E : EB} {G : GB} (hG : Gd E mX7_tieItem G) {M : Mem} {R : Mem} (hR : Rt E mX7_tieItem (PV R) G) {x1 : Int32} (h : f_X7_tieItem_j57 x1 M = some R) : V E G 57 [some (.ref 59), some (.int x1), none] [] M := by
  unfold f_X7_tieItem_j57 at h
  refine v_iconst hG ci_0 dX7_tieItem_57 (q := 58) rfl ?_
  exact w_X7_tieItem_j58 hG hR h
theorem w_X7_tieItem_j17 {E : EB} {G : GB} (hG : Gd E mX7_tieItem G) {M : Mem} {R : Mem} (hR : Rt E mX7_tieItem (PV R) G) {t1 : Int32} (h : f_X7_tieItem_j17 t1 M = some R) : V E G 17 [some (.ref 59), none, none] [.int t1, .ref 59] M := by
  unfold f_X7_tieItem_j17 at h
  obtain ⟨r_2, hr_2, h⟩ := bnd h
  refine v_cV1V hG cvX7_needs ml_RX7_275 rfl kk_59 (w_X7_needs hr_2) (Nat.le_of_ble_eq_true rfl) dX7_tieItem_17 (q := 20) rfl ?_
  refine v_aload_0 hG dX7_tieItem_20 (q := 21) rfl ?_
  refine v_iconst hG ci_0 dX7_tieItem_21 (q := 22) rfl ?_
  refine v_aload_0 hG dX7_tieItem_22 (q := 23) rfl ?_
  refine gt_RX7_7 hG rfl kk_59 dX7_tieItem_23 (q := 26) rfl ?_
  refine v_iconst hG ci_1 dX7_tieItem_26 (q := 27) rfl ?_
  obtain ⟨c_3, h⟩ := ck_some h
  refine v_iald hG kk_60 rfl c_3 dX7_tieItem_27 (q := 28) rfl ?_
  refine v_iconst hG ci_1 dX7_tieItem_28 (q := 29) rfl ?_
  refine v_isub hG dX7_tieItem_29 (q := 30) rfl ?_
  obtain ⟨r_4, hr_4, h⟩ := bnd h
  refine v_cV2V hG cvX7_number ml_RX7_297 rfl kk_59 (w_X7_number hr_4) (Nat.le_of_ble_eq_true rfl) dX7_tieItem_30 (q := 33) rfl ?_
  refine v_aload_0 hG dX7_tieItem_33 (q := 34) rfl ?_
  refine gt_RX7_272 hG rfl kk_59 dX7_tieItem_34 (q := 37) rfl ?_
  refine v_topi (fun x1_5 hy => ?_)
  replace h := letv_at hy h
  clear hy
  refine v_istore_1 hG rfl dX7_tieItem_37 (q := 38) rfl ?_
  refine v_aload_0 hG dX7_tieItem_38 (q := 39) rfl ?_
  refine gt_RX7_260 hG rfl kk_59 dX7_tieItem_39 (q := 42) rfl ?_
  refine v_if_ne hG dX7_tieItem_42 (tgt := 57) rfl (q := 45) rfl (fun hc => ?_) (fun hc => ?_)
  · replace h := ifn hc h
    exact w_X7_tieItem_j57 hG hR h
  · replace h := ifp hc h
    refine v_aload_0 hG dX7_tieItem_45 (q := 46) rfl ?_
    refine v_iload_1 hG dX7_tieItem_46 (q := 47) rfl ?_
    obtain ⟨r_6, hr_6, h⟩ := bnd h
    refine v_cV1I hG cvX7_isNumber ml_RX7_324 rfl kk_59 (w_X7_isNumber hr_6) (Nat.le_of_ble_eq_true rfl) dX7_tieItem_47 (q := 50) rfl ?_
    refine v_if_eq hG dX7_tieItem_50 (tgt := 57) rfl (q := 53) rfl (fun hc => ?_) (fun hc => ?_)
    · replace h := ifp hc h
      exact w_X7_tieItem_j57 hG hR h
    · replace h := ifn hc h
      refine v_iconst hG ci_1 dX7_tieItem_53 (q := 54) rfl ?_
      refine v_goto hG dX7_tieItem_54 (tgt := 58) rfl ?_
      exact w_X7_tieItem_j58 hG hR h
theorem w_X7_tieItem {E : EB} {M : Mem} {R : Mem} (h : f_X7_tieItem M = some R) : Mt E mX7_tieItem [.ref 59] M (PV R) := by
  refine mt_of (L0 := [some (.ref 59), none, none]) (by decide) rfl rfl (fun G hG hR => ?_)
  unfold f_X7_tieItem at h
  refine v_aload_0 hG dX7_tieItem_0 (q := 1) rfl ?_
  refine v_aload_0 hG dX7_tieItem_1 (q := 2) rfl ?_
  obtain ⟨r_1, hr_1, h⟩ := bnd h
  refine v_cV0J hG cvX7_word ml_RX7_279 rfl kk_59 (w_X7_word hr_1) (Nat.le_of_ble_eq_true rfl) dX7_tieItem_2 (q := 5) rfl ?_
  refine v_ldc2 hG kl_RX7_322 dX7_tieItem_5 (q := 8) rfl ?_
  refine v_lcmp hG dX7_tieItem_8 (q := 9) rfl ?_
  refine v_if_ne hG dX7_tieItem_9 (tgt := 16) rfl (q := 12) rfl (fun hc => ?_) (fun hc => ?_)
  · replace h := ifn hc h
    refine v_iconst hG ci_0 dX7_tieItem_16 (q := 17) rfl ?_
    exact w_X7_tieItem_j17 hG hR h
  · replace h := ifp hc h
    refine v_iconst hG ci_1 dX7_tieItem_12 (q := 13) rfl ?_
    refine v_goto hG dX7_tieItem_13 (tgt := 17) rfl ?_
    exact w_X7_tieItem_j17 hG hR h
theorem cvX7_tieItem : CVo mX7_tieItem 0 7 := ⟨moX7_tieItem, mvX7_tieItem, by decide, _, _, rfl⟩
theorem w_X7_item {E : EB} {M : Mem} {R : Mem} (h : f_X7_item M = some R) : Mt E mX7_item [.ref 59] M (PV R) := by
  refine mt_of (L0 := [some (.ref 59), none]) (by decide) rfl rfl (fun G hG hR => ?_)
  unfold f_X7_item at h
  refine v_aload_0 hG dX7_item_0 (q := 1) rfl ?_
  obtain ⟨r_1, hr_1, h⟩ := bnd h
  refine v_cV0I hG cvX7_kindHere ml_RX7_327 rfl kk_59 (w_X7_kindHere hr_1) (Nat.le_of_ble_eq_true rfl) dX7_item_1 (q := 4) rfl ?_
  refine v_istore_1 hG rfl dX7_item_4 (q := 5) rfl ?_
  refine v_iload_1 hG dX7_item_5 (q := 6) rfl ?_
  refine v_if_lt hG dX7_item_6 (tgt := 17) rfl (q := 9) rfl (fun hc => ?_) (fun hc => ?_)
  · replace h := ifp hc h
    refine v_aload_0 hG dX7_item_17 (q := 18) rfl ?_
    obtain ⟨r_2, hr_2, h⟩ := bnd h
    refine v_cV0J hG cvX7_word ml_RX7_279 rfl kk_59 (w_X7_word hr_2) (Nat.le_of_ble_eq_true rfl) dX7_item_18 (q := 21) rfl ?_
    refine v_ldc2 hG kl_RX7_333 dX7_item_21 (q := 24) rfl ?_
    refine v_lcmp hG dX7_item_24 (q := 25) rfl ?_
    refine v_if_ne hG dX7_item_25 (tgt := 35) rfl (q := 28) rfl (fun hc => ?_) (fun hc => ?_)
    · replace h := ifn hc h
      refine v_aload_0 hG dX7_item_35 (q := 36) rfl ?_
      obtain ⟨r_3, hr_3, h⟩ := bnd h
      refine v_cV0V hG cvX7_tieItem ml_RX7_338 rfl kk_59 (w_X7_tieItem hr_3) (Nat.le_of_ble_eq_true rfl) dX7_item_36 (q := 39) rfl ?_
      exact v_vret hG hR rfl (spv h) dX7_item_39
    · replace h := ifp hc h
      refine v_aload_0 hG dX7_item_28 (q := 29) rfl ?_
      obtain ⟨r_4, hr_4, h⟩ := bnd h
      refine v_cV0V hG cvX7_personItem ml_RX7_335 rfl kk_59 (w_X7_personItem hr_4) (Nat.le_of_ble_eq_true rfl) dX7_item_29 (q := 32) rfl ?_
      refine v_goto hG dX7_item_32 (tgt := 39) rfl ?_
      exact v_vret hG hR rfl (spv h) dX7_item_39
  · replace h := ifn hc h
    refine v_aload_0 hG dX7_item_9 (q := 10) rfl ?_
    refine v_iload_1 hG dX7_item_10 (q := 11) rfl ?_
    obtain ⟨r_5, hr_5, h⟩ := bnd h
    refine v_cV1V hG cvX7_writerItem ml_RX7_330 rfl kk_59 (w_X7_writerItem hr_5) (Nat.le_of_ble_eq_true rfl) dX7_item_11 (q := 14) rfl ?_
    refine v_goto hG dX7_item_14 (tgt := 39) rfl ?_
    exact v_vret hG hR rfl (spv h) dX7_item_39
theorem cvX7_item : CVo mX7_item 0 7 := ⟨moX7_item, mvX7_item, by decide, _, _, rfl⟩
theorem w_X7_text_j74 {E : EB} {G : GB} (hG : Gd E mX7_text G) {M : Mem} {R : Int32 × Mem} (hR : Rt E mX7_text (PI R.1 R.2) G) {x1 : Int32} (h : f_X7_text_j74 x1 M = some R) : V E G 74 [some (.ref 59), some (.int x1)] [] M := by
  unfold f_X7_text_j74 at h
  refine v_aload_0 hG dX7_text_74 (q := 75) rfl ?_
  refine v_iconst hG ci_0 dX7_text_75 (q := 76) rfl ?_
  refine pt_RX7_234 hG rfl kk_59 dX7_text_76 (q := 79) rfl ?_
  refine v_topM (fun M_11 hy => ?_)
  replace h := letv_at hy h
  clear hy
  refine v_aload_0 hG dX7_text_79 (q := 80) rfl ?_
  refine gt_RX7_260 hG rfl kk_59 dX7_text_80 (q := 83) rfl ?_
  refine v_if_eq hG dX7_text_83 (tgt := 97) rfl (q := 86) rfl (fun hc => ?_) (fun hc => ?_)
  · replace h := ifp hc h
    refine v_iload_1 hG dX7_text_97 (q := 98) rfl ?_
    exact v_iret hG hR rfl rfl (sp2t h) dX7_text_98
  · replace h := ifn hc h
    refine v_aload_0 hG dX7_text_86 (q := 87) rfl ?_
    obtain ⟨r_12, hr_12, h⟩ := bnd h
    refine v_cV0V hG cvX7_putsBack ml_RX7_192 rfl kk_59 (w_X7_putsBack hr_12) (Nat.le_of_ble_eq_true rfl) dX7_text_87 (q := 90) rfl ?_
    refine v_iconst hG ci_m1 dX7_text_90 (q := 91) rfl ?_
    refine v_aload_0 hG dX7_text_91 (q := 92) rfl ?_
    refine gt_RX7_248 hG rfl kk_59 dX7_text_92 (q := 95) rfl ?_
    refine v_isub hG dX7_text_95 (q := 96) rfl ?_
    exact v_iret hG hR rfl rfl (sp2t h) dX7_text_96
theorem w_X7_text_b24 {E : EB} {G : GB} (hG : Gd E mX7_text G) {M : Mem} {R : Int32 × Mem} (hR : Rt E mX7_text (PI R.1 R.2) G) {k24 : Int32 → Mem → Option (Int32 × Mem)} (hk24 : ∀ (x1 : Int32) (M : Mem), k24 x1 M = some R → V E G 24 [some (.ref 59), some (.int x1)] [] M) {x1 : Int32} (h : f_X7_text_b24 k24 x1 M = some R) : V E G 24 [some (.ref 59), some (.int x1)] [] M := by
  unfold f_X7_text_b24 at h
  refine v_aload_0 hG dX7_text_24 (q := 25) rfl ?_
  refine gt_RX7_260 hG rfl kk_59 dX7_text_25 (q := 28) rfl ?_
  refine v_if_ne hG dX7_text_28 (tgt := 74) rfl (q := 31) rfl (fun hc => ?_) (fun hc => ?_)
  · replace h := ifn hc h
    exact w_X7_text_j74 hG hR h
  · replace h := ifp hc h
    refine v_aload_0 hG dX7_text_31 (q := 32) rfl ?_
    refine gt_RX7_248 hG rfl kk_59 dX7_text_32 (q := 35) rfl ?_
    refine v_aload_0 hG dX7_text_35 (q := 36) rfl ?_
    refine gt_RX7_234 hG rfl kk_59 dX7_text_36 (q := 39) rfl ?_
    refine v_icmp_ge hG dX7_text_39 (tgt := 74) rfl (q := 42) rfl (fun hc => ?_) (fun hc => ?_)
    · replace h := ifp hc h
      exact w_X7_text_j74 hG hR h
    · replace h := ifn hc h
      refine v_aload_0 hG dX7_text_42 (q := 43) rfl ?_
      refine v_aload_0 hG dX7_text_43 (q := 44) rfl ?_
      refine v_aload_0 hG dX7_text_44 (q := 45) rfl ?_
      refine gt_RX7_248 hG rfl kk_59 dX7_text_45 (q := 48) rfl ?_
      obtain ⟨r_6, hr_6, h⟩ := bnd h
      refine v_cV1I hG cvX7_byteAt ml_RX7_251 rfl kk_59 (w_X7_byteAt hr_6) (Nat.le_of_ble_eq_true rfl) dX7_text_48 (q := 51) rfl ?_
      refine v_bipush hG cb_59 dX7_text_51 (q := 53) rfl ?_
      refine v_icmp_ne hG dX7_text_53 (tgt := 60) rfl (q := 56) rfl (fun hc => ?_) (fun hc => ?_)
      · replace h := ifn hc h
        refine v_iconst hG ci_0 dX7_text_60 (q := 61) rfl ?_
        obtain ⟨r_7, hr_7, h⟩ := bnd h
        refine v_cV1V hG cvX7_needs ml_RX7_275 rfl kk_59 (w_X7_needs hr_7) (Nat.le_of_ble_eq_true rfl) dX7_text_61 (q := 64) rfl ?_
        refine v_aload_0 hG dX7_text_64 (q := 65) rfl ?_
        obtain ⟨r_8, hr_8, h⟩ := bnd h
        refine v_cV0V hG cvX7_item ml_RX7_341 rfl kk_59 (w_X7_item hr_8) (Nat.le_of_ble_eq_true rfl) dX7_text_65 (q := 68) rfl ?_
        refine v_iinc_1 hG rfl dX7_text_68 (congrArg _ ci_1) (q := 71) rfl ?_
        refine v_goto hG dX7_text_71 (tgt := 24) rfl ?_
        exact hk24 _ _ h
      · replace h := ifp hc h
        refine v_iconst hG ci_1 dX7_text_56 (q := 57) rfl ?_
        refine v_goto hG dX7_text_57 (tgt := 61) rfl ?_
        obtain ⟨r_9, hr_9, h⟩ := bnd h
        refine v_cV1V hG cvX7_needs ml_RX7_275 rfl kk_59 (w_X7_needs hr_9) (Nat.le_of_ble_eq_true rfl) dX7_text_61 (q := 64) rfl ?_
        refine v_aload_0 hG dX7_text_64 (q := 65) rfl ?_
        obtain ⟨r_10, hr_10, h⟩ := bnd h
        refine v_cV0V hG cvX7_item ml_RX7_341 rfl kk_59 (w_X7_item hr_10) (Nat.le_of_ble_eq_true rfl) dX7_text_65 (q := 68) rfl ?_
        refine v_iinc_1 hG rfl dX7_text_68 (congrArg _ ci_1) (q := 71) rfl ?_
        refine v_goto hG dX7_text_71 (tgt := 24) rfl ?_
        exact hk24 _ _ h
theorem w_X7_text_l24 {E : EB} {G : GB} (hG : Gd E mX7_text G) {R : Int32 × Mem} (hR : Rt E mX7_text (PI R.1 R.2) G) : ∀ (n : Nat) (x1 : Int32) (M : Mem), f_X7_text_l24 n x1 M = some R → V E G 24 [some (.ref 59), some (.int x1)] [] M := by
  intro n
  induction n with
  | zero => intro x1 M h; cases h
  | succ n ih => intro x1 M h; exact w_X7_text_b24 hG hR ih h
theorem w_X7_text {E : EB} {M : Mem} {R : Int32 × Mem} (h : f_X7_text M = some R) : Mt E mX7_text [.ref 59] M (PI R.1 R.2) := by
  refine mt_of (L0 := [some (.ref 59), none]) (by decide) rfl rfl (fun G hG hR => ?_)
  unfold f_X7_text at h
  refine v_aload_0 hG dX7_text_0 (q := 1) rfl ?_
  obtain ⟨r_1, hr_1, h⟩ := bnd h
  refine v_cV0V hG cvX7_saves ml_RX7_183 rfl kk_59 (w_X7_saves hr_1) (Nat.le_of_ble_eq_true rfl) dX7_text_1 (q := 4) rfl ?_
  refine v_aload_0 hG dX7_text_4 (q := 5) rfl ?_
  refine v_iconst hG ci_0 dX7_text_5 (q := 6) rfl ?_
  refine pt_RX7_245 hG rfl kk_59 dX7_text_6 (q := 9) rfl ?_
  refine v_topM (fun M_2 hy => ?_)
  replace h := letv_at hy h
  clear hy
  refine v_aload_0 hG dX7_text_9 (q := 10) rfl ?_
  refine v_iconst hG ci_0 dX7_text_10 (q := 11) rfl ?_
  refine pt_RX7_260 hG rfl kk_59 (Or.inl rfl) dX7_text_11 (q := 14) rfl ?_
  refine v_topM (fun M_3 hy => ?_)
  replace h := letv_at hy h
  clear hy
  refine v_aload_0 hG dX7_text_14 (q := 15) rfl ?_
  obtain ⟨r_4, hr_4, h⟩ := bnd h
  refine v_cV0V hG cvX7_token ml_RX7_264 rfl kk_59 (w_X7_token hr_4) (Nat.le_of_ble_eq_true rfl) dX7_text_15 (q := 18) rfl ?_
  refine v_iconst hG ci_1 dX7_text_18 (q := 19) rfl ?_
  refine v_istore_1 hG rfl dX7_text_19 (q := 20) rfl ?_
  refine v_aload_0 hG dX7_text_20 (q := 21) rfl ?_
  obtain ⟨r_5, hr_5, h⟩ := bnd h
  refine v_cV0V hG cvX7_item ml_RX7_341 rfl kk_59 (w_X7_item hr_5) (Nat.le_of_ble_eq_true rfl) dX7_text_21 (q := 24) rfl ?_
  exact w_X7_text_l24 hG hR FU _ _ h
theorem cvX7_text : CVo mX7_text 0 7 := ⟨moX7_text, mvX7_text, by decide, _, _, rfl⟩
theorem w_X7_hold {E : EB} {x1 : Int32} {x2 : Int32} {M : Mem} {R : Int32 × Mem} (h : f_X7_hold x1 x2 M = some R) : Mt E mX7_hold [.ref 59, .int x1, .int x2] M (PI R.1 R.2) := by
  refine mt_of (L0 := [some (.ref 59), some (.int x1), some (.int x2)]) (by decide) rfl rfl (fun G hG hR => ?_)
  unfold f_X7_hold at h
  refine v_iload_1 hG dX7_hold_0 (q := 1) rfl ?_
  refine v_i2l hG dX7_hold_1 (q := 2) rfl ?_
  refine v_lconst hG cl_0 dX7_hold_2 (q := 3) rfl ?_
  refine v_ldc2 hG kl_RX7_344 dX7_hold_3 (q := 6) rfl ?_
  obtain ⟨r_1, hr_1, h⟩ := bnd h
  refine v_cS3I hG csX7_in ml_RX7_43 rfl (w_X7_in hr_1) (Nat.le_of_ble_eq_true rfl) dX7_hold_6 (q := 9) rfl ?_
  refine v_if_eq hG dX7_hold_9 (tgt := 25) rfl (q := 12) rfl (fun hc => ?_) (fun hc => ?_)
  · replace h := ifp hc h
    refine v_aload_0 hG dX7_hold_25 (q := 26) rfl ?_
    refine v_ldc hG kc_RX7_40 dX7_hold_26 (q := 28) rfl ?_
    obtain ⟨r_2, hr_2, h⟩ := bnd h
    refine v_cV1I hG cvX7_finds ml_RX7_68 rfl kk_59 (w_X7_finds hr_2) (Nat.le_of_ble_eq_true rfl) dX7_hold_28 (q := 31) rfl ?_
    exact v_iret hG hR rfl rfl (sp2t h) dX7_hold_31
  · replace h := ifn hc h
    refine v_iload_2 hG dX7_hold_12 (q := 13) rfl ?_
    refine v_iconst hG ci_m1 dX7_hold_13 (q := 14) rfl ?_
    refine v_icmp_eq hG dX7_hold_14 (tgt := 32) rfl (q := 17) rfl (fun hc => ?_) (fun hc => ?_)
    · replace h := ifp hc h
      refine v_aload_0 hG dX7_hold_32 (q := 33) rfl ?_
      refine gt_RX7_7 hG rfl kk_59 dX7_hold_33 (q := 36) rfl ?_
      refine v_bipush hG cb_89 dX7_hold_36 (q := 38) rfl ?_
      refine v_iload_1 hG dX7_hold_38 (q := 39) rfl ?_
      refine v_iadd hG dX7_hold_39 (q := 40) rfl ?_
      refine v_iload_2 hG dX7_hold_40 (q := 41) rfl ?_
      obtain ⟨c_3, h⟩ := ck_some h
      refine v_iast hG kk_60 rfl c_3 dX7_hold_41 (q := 42) rfl ?_
      refine v_topM (fun M_4 hy => ?_)
      replace h := letv_at hy h
      clear hy
      refine v_iconst hG ci_1 dX7_hold_42 (q := 43) rfl ?_
      exact v_iret hG hR rfl rfl (sp2t h) dX7_hold_43
    · replace h := ifn hc h
      refine v_aload_0 hG dX7_hold_17 (q := 18) rfl ?_
      refine v_iload_2 hG dX7_hold_18 (q := 19) rfl ?_
      obtain ⟨r_5, hr_5, h⟩ := bnd h
      refine v_cV1I hG cvX7_isWriter ml_RX7_76 rfl kk_59 (w_X7_isWriter hr_5) (Nat.le_of_ble_eq_true rfl) dX7_hold_19 (q := 22) rfl ?_
      refine v_if_ne hG dX7_hold_22 (tgt := 32) rfl (q := 25) rfl (fun hc => ?_) (fun hc => ?_)
      · replace h := ifn hc h
        refine v_aload_0 hG dX7_hold_32 (q := 33) rfl ?_
        refine gt_RX7_7 hG rfl kk_59 dX7_hold_33 (q := 36) rfl ?_
        refine v_bipush hG cb_89 dX7_hold_36 (q := 38) rfl ?_
        refine v_iload_1 hG dX7_hold_38 (q := 39) rfl ?_
        refine v_iadd hG dX7_hold_39 (q := 40) rfl ?_
        refine v_iload_2 hG dX7_hold_40 (q := 41) rfl ?_
        obtain ⟨c_6, h⟩ := ck_some h
        refine v_iast hG kk_60 rfl c_6 dX7_hold_41 (q := 42) rfl ?_
        refine v_topM (fun M_7 hy => ?_)
        replace h := letv_at hy h
        clear hy
        refine v_iconst hG ci_1 dX7_hold_42 (q := 43) rfl ?_
        exact v_iret hG hR rfl rfl (sp2t h) dX7_hold_43
      · replace h := ifp hc h
        refine v_aload_0 hG dX7_hold_25 (q := 26) rfl ?_
        refine v_ldc hG kc_RX7_40 dX7_hold_26 (q := 28) rfl ?_
        obtain ⟨r_8, hr_8, h⟩ := bnd h
        refine v_cV1I hG cvX7_finds ml_RX7_68 rfl kk_59 (w_X7_finds hr_8) (Nat.le_of_ble_eq_true rfl) dX7_hold_28 (q := 31) rfl ?_
        exact v_iret hG hR rfl rfl (sp2t h) dX7_hold_31
theorem cvX7_hold : CVo mX7_hold 2 7 := ⟨moX7_hold, mvX7_hold, by decide, _, _, rfl⟩
theorem w_X7_as_j82 {E : EB} {G : GB} (hG : Gd E mX7_as G) {M : Mem} {R : Int32 × Mem} (hR : Rt E mX7_as (PI R.1 R.2) G) {x2 : Int32} {x3 : Int32} {x4 : Int32} (h : f_X7_as_j82 x2 x3 x4 M = some R) : V E G 82 [some (.ref 59), none, some (.int x2), some (.int x3), some (.int x4), none] [] M := by
  unfold f_X7_as_j82 at h
  refine v_iload_2 hG dX7_as_82 (q := 83) rfl ?_
  refine v_iconst hG ci_2 dX7_as_83 (q := 84) rfl ?_
  refine v_icmp_ne hG dX7_as_84 (tgt := 104) rfl (q := 87) rfl (fun hc => ?_) (fun hc => ?_)
  · replace h := ifn hc h
    refine v_iconst hG ci_0 dX7_as_104 (q := 105) rfl ?_
    refine v_istore_5 hG rfl dX7_as_105 (q := 107) rfl ?_
    refine v_iload_5 hG dX7_as_107 (q := 109) rfl ?_
    refine v_if_eq hG dX7_as_109 (tgt := 116) rfl (q := 112) rfl (fun hc => ?_) (fun hc => ?_)
    · replace h := ifp hc h
      refine v_aload_0 hG dX7_as_116 (q := 117) rfl ?_
      refine v_ldcw hG kc_RX7_347 dX7_as_117 (q := 120) rfl ?_
      obtain ⟨r_12, hr_12, h⟩ := bnd h
      refine v_cV1I hG cvX7_finds ml_RX7_68 rfl kk_59 (w_X7_finds hr_12) (Nat.le_of_ble_eq_true rfl) dX7_as_120 (q := 123) rfl ?_
      exact v_iret hG hR rfl rfl (sp2t h) dX7_as_123
    · replace h := ifn hc h
      refine v_iload_3 hG dX7_as_112 (q := 113) rfl ?_
      refine v_goto hG dX7_as_113 (tgt := 123) rfl ?_
      exact v_iret hG hR rfl rfl (sp2t h) dX7_as_123
  · replace h := ifp hc h
    refine v_iload_4 hG dX7_as_87 (q := 89) rfl ?_
    refine v_iconst hG ci_4 dX7_as_89 (q := 90) rfl ?_
    refine v_icmp_eq hG dX7_as_90 (tgt := 100) rfl (q := 93) rfl (fun hc => ?_) (fun hc => ?_)
    · replace h := ifp hc h
      refine v_iconst hG ci_1 dX7_as_100 (q := 101) rfl ?_
      refine v_goto hG dX7_as_101 (tgt := 105) rfl ?_
      refine v_istore_5 hG rfl dX7_as_105 (q := 107) rfl ?_
      refine v_iload_5 hG dX7_as_107 (q := 109) rfl ?_
      refine v_if_eq hG dX7_as_109 (tgt := 116) rfl (q := 112) rfl (fun hc => ?_) (fun hc => ?_)
      · replace h := ifp hc h
        refine v_aload_0 hG dX7_as_116 (q := 117) rfl ?_
        refine v_ldcw hG kc_RX7_347 dX7_as_117 (q := 120) rfl ?_
        obtain ⟨r_13, hr_13, h⟩ := bnd h
        refine v_cV1I hG cvX7_finds ml_RX7_68 rfl kk_59 (w_X7_finds hr_13) (Nat.le_of_ble_eq_true rfl) dX7_as_120 (q := 123) rfl ?_
        exact v_iret hG hR rfl rfl (sp2t h) dX7_as_123
      · replace h := ifn hc h
        refine v_iload_3 hG dX7_as_112 (q := 113) rfl ?_
        refine v_goto hG dX7_as_113 (tgt := 123) rfl ?_
        exact v_iret hG hR rfl rfl (sp2t h) dX7_as_123
    · replace h := ifn hc h
      refine v_iload_4 hG dX7_as_93 (q := 95) rfl ?_
      refine v_bipush hG cb_6 dX7_as_95 (q := 97) rfl ?_
      refine v_icmp_ne hG dX7_as_97 (tgt := 104) rfl (q := 100) rfl (fun hc => ?_) (fun hc => ?_)
      · replace h := ifn hc h
        refine v_iconst hG ci_0 dX7_as_104 (q := 105) rfl ?_
        refine v_istore_5 hG rfl dX7_as_105 (q := 107) rfl ?_
        refine v_iload_5 hG dX7_as_107 (q := 109) rfl ?_
        refine v_if_eq hG dX7_as_109 (tgt := 116) rfl (q := 112) rfl (fun hc => ?_) (fun hc => ?_)
        · replace h := ifp hc h
          refine v_aload_0 hG dX7_as_116 (q := 117) rfl ?_
          refine v_ldcw hG kc_RX7_347 dX7_as_117 (q := 120) rfl ?_
          obtain ⟨r_14, hr_14, h⟩ := bnd h
          refine v_cV1I hG cvX7_finds ml_RX7_68 rfl kk_59 (w_X7_finds hr_14) (Nat.le_of_ble_eq_true rfl) dX7_as_120 (q := 123) rfl ?_
          exact v_iret hG hR rfl rfl (sp2t h) dX7_as_123
        · replace h := ifn hc h
          refine v_iload_3 hG dX7_as_112 (q := 113) rfl ?_
          refine v_goto hG dX7_as_113 (tgt := 123) rfl ?_
          exact v_iret hG hR rfl rfl (sp2t h) dX7_as_123
      · replace h := ifp hc h
        refine v_iconst hG ci_1 dX7_as_100 (q := 101) rfl ?_
        refine v_goto hG dX7_as_101 (tgt := 105) rfl ?_
        refine v_istore_5 hG rfl dX7_as_105 (q := 107) rfl ?_
        refine v_iload_5 hG dX7_as_107 (q := 109) rfl ?_
        refine v_if_eq hG dX7_as_109 (tgt := 116) rfl (q := 112) rfl (fun hc => ?_) (fun hc => ?_)
        · replace h := ifp hc h
          refine v_aload_0 hG dX7_as_116 (q := 117) rfl ?_
          refine v_ldcw hG kc_RX7_347 dX7_as_117 (q := 120) rfl ?_
          obtain ⟨r_15, hr_15, h⟩ := bnd h
          refine v_cV1I hG cvX7_finds ml_RX7_68 rfl kk_59 (w_X7_finds hr_15) (Nat.le_of_ble_eq_true rfl) dX7_as_120 (q := 123) rfl ?_
          exact v_iret hG hR rfl rfl (sp2t h) dX7_as_123
        · replace h := ifn hc h
          refine v_iload_3 hG dX7_as_112 (q := 113) rfl ?_
          refine v_goto hG dX7_as_113 (tgt := 123) rfl ?_
          exact v_iret hG hR rfl rfl (sp2t h) dX7_as_123
theorem w_X7_as {E : EB} {x1 : Int32} {x2 : Int32} {M : Mem} {R : Int32 × Mem} (h : f_X7_as x1 x2 M = some R) : Mt E mX7_as [.ref 59, .int x1, .int x2] M (PI R.1 R.2) := by
  refine mt_of (L0 := [some (.ref 59), some (.int x1), some (.int x2), none, none, none]) (by decide) rfl rfl (fun G hG hR => ?_)
  unfold f_X7_as at h
  refine v_iload_1 hG dX7_as_0 (q := 1) rfl ?_
  refine v_i2l hG dX7_as_1 (q := 2) rfl ?_
  refine v_lconst hG cl_0 dX7_as_2 (q := 3) rfl ?_
  refine v_ldc2 hG kl_RX7_344 dX7_as_3 (q := 6) rfl ?_
  obtain ⟨r_1, hr_1, h⟩ := bnd h
  refine v_cS3I hG csX7_in ml_RX7_43 rfl (w_X7_in hr_1) (Nat.le_of_ble_eq_true rfl) dX7_as_6 (q := 9) rfl ?_
  refine v_if_eq hG dX7_as_9 (tgt := 24) rfl (q := 12) rfl (fun hc => ?_) (fun hc => ?_)
  · replace h := ifp hc h
    refine v_aload_0 hG dX7_as_24 (q := 25) rfl ?_
    refine v_ldc hG kc_RX7_40 dX7_as_25 (q := 27) rfl ?_
    obtain ⟨r_2, hr_2, h⟩ := bnd h
    refine v_cV1I hG cvX7_finds ml_RX7_68 rfl kk_59 (w_X7_finds hr_2) (Nat.le_of_ble_eq_true rfl) dX7_as_27 (q := 30) rfl ?_
    exact v_iret hG hR rfl rfl (sp2t h) dX7_as_30
  · replace h := ifn hc h
    refine v_iload_2 hG dX7_as_12 (q := 13) rfl ?_
    refine v_i2l hG dX7_as_13 (q := 14) rfl ?_
    refine v_lconst hG cl_0 dX7_as_14 (q := 15) rfl ?_
    refine v_ldc2 hG kl_RX7_54 dX7_as_15 (q := 18) rfl ?_
    obtain ⟨r_3, hr_3, h⟩ := bnd h
    refine v_cS3I hG csX7_in ml_RX7_43 rfl (w_X7_in hr_3) (Nat.le_of_ble_eq_true rfl) dX7_as_18 (q := 21) rfl ?_
    refine v_if_ne hG dX7_as_21 (tgt := 31) rfl (q := 24) rfl (fun hc => ?_) (fun hc => ?_)
    · replace h := ifn hc h
      refine v_aload_0 hG dX7_as_31 (q := 32) rfl ?_
      refine gt_RX7_7 hG rfl kk_59 dX7_as_32 (q := 35) rfl ?_
      refine v_bipush hG cb_89 dX7_as_35 (q := 37) rfl ?_
      refine v_iload_1 hG dX7_as_37 (q := 38) rfl ?_
      refine v_iadd hG dX7_as_38 (q := 39) rfl ?_
      obtain ⟨c_4, h⟩ := ck_some h
      refine v_iald hG kk_60 rfl c_4 dX7_as_39 (q := 40) rfl ?_
      refine v_topi (fun x3_5 hy => ?_)
      replace h := letv_at hy h
      clear hy
      refine v_istore_3 hG rfl dX7_as_40 (q := 41) rfl ?_
      refine v_iload_3 hG dX7_as_41 (q := 42) rfl ?_
      refine v_if_ge hG dX7_as_42 (tgt := 53) rfl (q := 45) rfl (fun hc => ?_) (fun hc => ?_)
      · replace h := ifp hc h
        refine v_aload_0 hG dX7_as_53 (q := 54) rfl ?_
        refine v_iload_3 hG dX7_as_54 (q := 55) rfl ?_
        refine v_iconst hG ci_0 dX7_as_55 (q := 56) rfl ?_
        obtain ⟨r_6, hr_6, h⟩ := bnd h
        refine v_cV2I hG cvX7_its ml_RX7_81 rfl kk_59 (w_X7_its hr_6) (Nat.le_of_ble_eq_true rfl) dX7_as_56 (q := 59) rfl ?_
        refine v_istore_4 hG rfl dX7_as_59 (q := 61) rfl ?_
        refine v_iload_2 hG dX7_as_61 (q := 62) rfl ?_
        refine v_if_eq hG dX7_as_62 (tgt := 100) rfl (q := 65) rfl (fun hc => ?_) (fun hc => ?_)
        · replace h := ifp hc h
          refine v_iconst hG ci_1 dX7_as_100 (q := 101) rfl ?_
          refine v_goto hG dX7_as_101 (tgt := 105) rfl ?_
          refine v_istore_5 hG rfl dX7_as_105 (q := 107) rfl ?_
          refine v_iload_5 hG dX7_as_107 (q := 109) rfl ?_
          refine v_if_eq hG dX7_as_109 (tgt := 116) rfl (q := 112) rfl (fun hc => ?_) (fun hc => ?_)
          · replace h := ifp hc h
            refine v_aload_0 hG dX7_as_116 (q := 117) rfl ?_
            refine v_ldcw hG kc_RX7_347 dX7_as_117 (q := 120) rfl ?_
            obtain ⟨r_7, hr_7, h⟩ := bnd h
            refine v_cV1I hG cvX7_finds ml_RX7_68 rfl kk_59 (w_X7_finds hr_7) (Nat.le_of_ble_eq_true rfl) dX7_as_120 (q := 123) rfl ?_
            exact v_iret hG hR rfl rfl (sp2t h) dX7_as_123
          · replace h := ifn hc h
            refine v_iload_3 hG dX7_as_112 (q := 113) rfl ?_
            refine v_goto hG dX7_as_113 (tgt := 123) rfl ?_
            exact v_iret hG hR rfl rfl (sp2t h) dX7_as_123
        · replace h := ifn hc h
          refine v_iload_4 hG dX7_as_65 (q := 67) rfl ?_
          refine v_iload_2 hG dX7_as_67 (q := 68) rfl ?_
          refine v_icmp_eq hG dX7_as_68 (tgt := 100) rfl (q := 71) rfl (fun hc => ?_) (fun hc => ?_)
          · replace h := ifp hc h
            refine v_iconst hG ci_1 dX7_as_100 (q := 101) rfl ?_
            refine v_goto hG dX7_as_101 (tgt := 105) rfl ?_
            refine v_istore_5 hG rfl dX7_as_105 (q := 107) rfl ?_
            refine v_iload_5 hG dX7_as_107 (q := 109) rfl ?_
            refine v_if_eq hG dX7_as_109 (tgt := 116) rfl (q := 112) rfl (fun hc => ?_) (fun hc => ?_)
            · replace h := ifp hc h
              refine v_aload_0 hG dX7_as_116 (q := 117) rfl ?_
              refine v_ldcw hG kc_RX7_347 dX7_as_117 (q := 120) rfl ?_
              obtain ⟨r_8, hr_8, h⟩ := bnd h
              refine v_cV1I hG cvX7_finds ml_RX7_68 rfl kk_59 (w_X7_finds hr_8) (Nat.le_of_ble_eq_true rfl) dX7_as_120 (q := 123) rfl ?_
              exact v_iret hG hR rfl rfl (sp2t h) dX7_as_123
            · replace h := ifn hc h
              refine v_iload_3 hG dX7_as_112 (q := 113) rfl ?_
              refine v_goto hG dX7_as_113 (tgt := 123) rfl ?_
              exact v_iret hG hR rfl rfl (sp2t h) dX7_as_123
          · replace h := ifn hc h
            refine v_iload_2 hG dX7_as_71 (q := 72) rfl ?_
            refine v_iconst hG ci_1 dX7_as_72 (q := 73) rfl ?_
            refine v_icmp_ne hG dX7_as_73 (tgt := 82) rfl (q := 76) rfl (fun hc => ?_) (fun hc => ?_)
            · replace h := ifn hc h
              refine v_drop (n := 1) (L' := [some (.ref 59), none, some (.int x2), some (.int x3_5), some (.int r_6), none]) rfl ?_
              exact w_X7_as_j82 hG hR h
            · replace h := ifp hc h
              refine v_iload_4 hG dX7_as_76 (q := 78) rfl ?_
              refine v_iconst hG ci_3 dX7_as_78 (q := 79) rfl ?_
              refine v_icmp_eq hG dX7_as_79 (tgt := 100) rfl (q := 82) rfl (fun hc => ?_) (fun hc => ?_)
              · replace h := ifp hc h
                refine v_iconst hG ci_1 dX7_as_100 (q := 101) rfl ?_
                refine v_goto hG dX7_as_101 (tgt := 105) rfl ?_
                refine v_istore_5 hG rfl dX7_as_105 (q := 107) rfl ?_
                refine v_iload_5 hG dX7_as_107 (q := 109) rfl ?_
                refine v_if_eq hG dX7_as_109 (tgt := 116) rfl (q := 112) rfl (fun hc => ?_) (fun hc => ?_)
                · replace h := ifp hc h
                  refine v_aload_0 hG dX7_as_116 (q := 117) rfl ?_
                  refine v_ldcw hG kc_RX7_347 dX7_as_117 (q := 120) rfl ?_
                  obtain ⟨r_9, hr_9, h⟩ := bnd h
                  refine v_cV1I hG cvX7_finds ml_RX7_68 rfl kk_59 (w_X7_finds hr_9) (Nat.le_of_ble_eq_true rfl) dX7_as_120 (q := 123) rfl ?_
                  exact v_iret hG hR rfl rfl (sp2t h) dX7_as_123
                · replace h := ifn hc h
                  refine v_iload_3 hG dX7_as_112 (q := 113) rfl ?_
                  refine v_goto hG dX7_as_113 (tgt := 123) rfl ?_
                  exact v_iret hG hR rfl rfl (sp2t h) dX7_as_123
              · replace h := ifn hc h
                refine v_drop (n := 1) (L' := [some (.ref 59), none, some (.int x2), some (.int x3_5), some (.int r_6), none]) rfl ?_
                exact w_X7_as_j82 hG hR h
      · replace h := ifn hc h
        refine v_aload_0 hG dX7_as_45 (q := 46) rfl ?_
        refine v_ldcw hG kc_RX7_346 dX7_as_46 (q := 49) rfl ?_
        obtain ⟨r_10, hr_10, h⟩ := bnd h
        refine v_cV1I hG cvX7_finds ml_RX7_68 rfl kk_59 (w_X7_finds hr_10) (Nat.le_of_ble_eq_true rfl) dX7_as_49 (q := 52) rfl ?_
        exact v_iret hG hR rfl rfl (sp2t h) dX7_as_52
    · replace h := ifp hc h
      refine v_aload_0 hG dX7_as_24 (q := 25) rfl ?_
      refine v_ldc hG kc_RX7_40 dX7_as_25 (q := 27) rfl ?_
      obtain ⟨r_11, hr_11, h⟩ := bnd h
      refine v_cV1I hG cvX7_finds ml_RX7_68 rfl kk_59 (w_X7_finds hr_11) (Nat.le_of_ble_eq_true rfl) dX7_as_27 (q := 30) rfl ?_
      exact v_iret hG hR rfl rfl (sp2t h) dX7_as_30
theorem cvX7_as : CVo mX7_as 2 7 := ⟨moX7_as, mvX7_as, by decide, _, _, rfl⟩
theorem w_X7_isOne {E : EB} {x0 : Int32} {M : Mem} {R : Bool} (h : f_X7_isOne x0 M = some R) : Mt E mX7_isOne [.int x0] M (PI (b2i R) M) := by
  refine mt_of (L0 := [some (.int x0)]) (by decide) rfl rfl (fun G hG hR => ?_)
  unfold f_X7_isOne at h
  refine v_iload_0 hG dX7_isOne_0 (q := 1) rfl ?_
  refine v_i2l hG dX7_isOne_1 (q := 2) rfl ?_
  refine v_lconst hG cl_0 dX7_isOne_2 (q := 3) rfl ?_
  refine v_ldc2 hG kl_RX7_58 dX7_isOne_3 (q := 6) rfl ?_
  obtain ⟨r_1, hr_1, h⟩ := bnd h
  refine v_cS3I hG csX7_in ml_RX7_43 rfl (w_X7_in hr_1) (Nat.le_of_ble_eq_true rfl) dX7_isOne_6 (q := 9) rfl ?_
  exact v_iret hG hR rfl (b2i_nar _) (sp1b h) dX7_isOne_9
theorem csX7_isOne : CSo mX7_isOne 1 := ⟨moX7_isOne, msX7_isOne⟩
theorem w_X7_sheet_b86 {E : EB} {G : GB} (hG : Gd E mX7_sheet G) {M : Mem} {R : Int32 × Mem} (hR : Rt E mX7_sheet (PI R.1 R.2) G) {k86 : Int32 → Int32 → Mem → Option (Int32 × Mem)} (hk86 : ∀ (x1 : Int32) (x4 : Int32) (M : Mem), k86 x1 x4 M = some R → V E G 86 [some (.ref 59), some (.int x1), none, none, some (.int x4)] [] M) {x1 : Int32} {x4 : Int32} (h : f_X7_sheet_b86 k86 x1 x4 M = some R) : V E G 86 [some (.ref 59), some (.int x1), none, none, some (.int x4)] [] M := by
  unfold f_X7_sheet_b86 at h
  refine v_iload_4 hG dX7_sheet_86 (q := 88) rfl ?_
  refine v_bipush hG cb_40 dX7_sheet_88 (q := 90) rfl ?_
  refine v_icmp_ge hG dX7_sheet_90 (tgt := 112) rfl (q := 93) rfl (fun hc => ?_) (fun hc => ?_)
  · replace h := ifp hc h
    refine v_aload_0 hG dX7_sheet_112 (q := 113) rfl ?_
    refine gt_RX7_31 hG rfl kk_59 dX7_sheet_113 (q := 116) rfl ?_
    refine v_iload_1 hG dX7_sheet_116 (q := 117) rfl ?_
    obtain ⟨c_12, h⟩ := ck_some h
    refine v_iald hG kk_67 rfl c_12 dX7_sheet_117 (q := 118) rfl ?_
    exact v_iret hG hR rfl rfl (sp2t h) dX7_sheet_118
  · replace h := ifn hc h
    refine v_aload_0 hG dX7_sheet_93 (q := 94) rfl ?_
    refine gt_RX7_34 hG rfl kk_59 dX7_sheet_94 (q := 97) rfl ?_
    refine v_bipush hG cb_40 dX7_sheet_97 (q := 99) rfl ?_
    refine v_iload_1 hG dX7_sheet_99 (q := 100) rfl ?_
    refine v_imul hG dX7_sheet_100 (q := 101) rfl ?_
    refine v_iload_4 hG dX7_sheet_101 (q := 103) rfl ?_
    refine v_iadd hG dX7_sheet_103 (q := 104) rfl ?_
    refine v_iconst hG ci_0 dX7_sheet_104 (q := 105) rfl ?_
    obtain ⟨c_13, h⟩ := ck_some h
    refine v_iast hG kk_68 rfl c_13 dX7_sheet_105 (q := 106) rfl ?_
    refine v_topM (fun M_14 hy => ?_)
    replace h := letv_at hy h
    clear hy
    refine v_iinc_4 hG rfl dX7_sheet_106 (congrArg _ ci_1) (q := 109) rfl ?_
    refine v_goto hG dX7_sheet_109 (tgt := 86) rfl ?_
    exact hk86 _ _ _ h
theorem w_X7_sheet_l86 {E : EB} {G : GB} (hG : Gd E mX7_sheet G) {R : Int32 × Mem} (hR : Rt E mX7_sheet (PI R.1 R.2) G) : ∀ (n : Nat) (x1 : Int32) (x4 : Int32) (M : Mem), f_X7_sheet_l86 n x1 x4 M = some R → V E G 86 [some (.ref 59), some (.int x1), none, none, some (.int x4)] [] M := by
  intro n
  induction n with
  | zero => intro x1 x4 M h; cases h
  | succ n ih => intro x1 x4 M h; exact w_X7_sheet_b86 hG hR ih h
theorem w_X7_sheet_j36 {E : EB} {G : GB} (hG : Gd E mX7_sheet G) {M : Mem} {R : Int32 × Mem} (hR : Rt E mX7_sheet (PI R.1 R.2) G) {x1 : Int32} {x2 : Int32} {x3 : Int32} (h : f_X7_sheet_j36 x1 x2 x3 M = some R) : V E G 36 [some (.ref 59), some (.int x1), some (.int x2), some (.int x3), none] [] M := by
  unfold f_X7_sheet_j36 at h
  refine v_iload_3 hG dX7_sheet_36 (q := 37) rfl ?_
  refine v_if_ge hG dX7_sheet_37 (tgt := 48) rfl (q := 40) rfl (fun hc => ?_) (fun hc => ?_)
  · replace h := ifp hc h
    refine v_iload_3 hG dX7_sheet_48 (q := 49) rfl ?_
    refine v_bipush hG cb_40 dX7_sheet_49 (q := 51) rfl ?_
    refine v_icmp_le hG dX7_sheet_51 (tgt := 61) rfl (q := 54) rfl (fun hc => ?_) (fun hc => ?_)
    · replace h := ifp hc h
      refine v_aload_0 hG dX7_sheet_61 (q := 62) rfl ?_
      refine gt_RX7_28 hG rfl kk_59 dX7_sheet_62 (q := 65) rfl ?_
      refine v_iload_1 hG dX7_sheet_65 (q := 66) rfl ?_
      refine v_iload_2 hG dX7_sheet_66 (q := 67) rfl ?_
      obtain ⟨c_4, h⟩ := ck_some h
      refine v_iast hG kk_66 rfl c_4 dX7_sheet_67 (q := 68) rfl ?_
      refine v_topM (fun M_5 hy => ?_)
      replace h := letv_at hy h
      clear hy
      refine v_aload_0 hG dX7_sheet_68 (q := 69) rfl ?_
      refine gt_RX7_31 hG rfl kk_59 dX7_sheet_69 (q := 72) rfl ?_
      refine v_iload_1 hG dX7_sheet_72 (q := 73) rfl ?_
      refine v_iload_2 hG dX7_sheet_73 (q := 74) rfl ?_
      refine v_if_ne hG dX7_sheet_74 (tgt := 81) rfl (q := 77) rfl (fun hc => ?_) (fun hc => ?_)
      · replace h := ifn hc h
        refine v_iload_3 hG dX7_sheet_81 (q := 82) rfl ?_
        obtain ⟨c_6, h⟩ := ck_some h
        refine v_iast hG kk_67 rfl c_6 dX7_sheet_82 (q := 83) rfl ?_
        refine v_topM (fun M_7 hy => ?_)
        replace h := letv_at hy h
        clear hy
        refine v_iconst hG ci_0 dX7_sheet_83 (q := 84) rfl ?_
        refine v_istore_4 hG rfl dX7_sheet_84 (q := 86) rfl ?_
        refine v_drop (n := 2) (L' := [some (.ref 59), some (.int x1), none, some (.int x3), some (.int (0 : Int32))]) rfl ?_
        refine v_drop (n := 3) (L' := [some (.ref 59), some (.int x1), none, none, some (.int (0 : Int32))]) rfl ?_
        exact w_X7_sheet_l86 hG hR FU _ _ _ h
      · replace h := ifp hc h
        refine v_iconst hG ci_0 dX7_sheet_77 (q := 78) rfl ?_
        refine v_goto hG dX7_sheet_78 (tgt := 82) rfl ?_
        obtain ⟨c_8, h⟩ := ck_some h
        refine v_iast hG kk_67 rfl c_8 dX7_sheet_82 (q := 83) rfl ?_
        refine v_topM (fun M_9 hy => ?_)
        replace h := letv_at hy h
        clear hy
        refine v_iconst hG ci_0 dX7_sheet_83 (q := 84) rfl ?_
        refine v_istore_4 hG rfl dX7_sheet_84 (q := 86) rfl ?_
        refine v_drop (n := 2) (L' := [some (.ref 59), some (.int x1), none, some (.int x3), some (.int (0 : Int32))]) rfl ?_
        refine v_drop (n := 3) (L' := [some (.ref 59), some (.int x1), none, none, some (.int (0 : Int32))]) rfl ?_
        exact w_X7_sheet_l86 hG hR FU _ _ _ h
    · replace h := ifn hc h
      refine v_aload_0 hG dX7_sheet_54 (q := 55) rfl ?_
      refine v_ldc hG kc_RX7_40 dX7_sheet_55 (q := 57) rfl ?_
      obtain ⟨r_10, hr_10, h⟩ := bnd h
      refine v_cV1I hG cvX7_finds ml_RX7_68 rfl kk_59 (w_X7_finds hr_10) (Nat.le_of_ble_eq_true rfl) dX7_sheet_57 (q := 60) rfl ?_
      exact v_iret hG hR rfl rfl (sp2t h) dX7_sheet_60
  · replace h := ifn hc h
    refine v_aload_0 hG dX7_sheet_40 (q := 41) rfl ?_
    refine v_ldcw hG kc_RX7_351 dX7_sheet_41 (q := 44) rfl ?_
    obtain ⟨r_11, hr_11, h⟩ := bnd h
    refine v_cV1I hG cvX7_finds ml_RX7_68 rfl kk_59 (w_X7_finds hr_11) (Nat.le_of_ble_eq_true rfl) dX7_sheet_44 (q := 47) rfl ?_
    exact v_iret hG hR rfl rfl (sp2t h) dX7_sheet_47
theorem w_X7_sheet {E : EB} {x1 : Int32} {x2 : Int32} {x3 : Int32} {M : Mem} {R : Int32 × Mem} (h : f_X7_sheet x1 x2 x3 M = some R) : Mt E mX7_sheet [.ref 59, .int x1, .int x2, .int x3] M (PI R.1 R.2) := by
  refine mt_of (L0 := [some (.ref 59), some (.int x1), some (.int x2), some (.int x3), none]) (by decide) rfl rfl (fun G hG hR => ?_)
  unfold f_X7_sheet at h
  refine v_iload_1 hG dX7_sheet_0 (q := 1) rfl ?_
  obtain ⟨r_1, hr_1, h⟩ := bnd h
  refine v_cS1I hG csX7_isOne ml_RX7_348 rfl (w_X7_isOne hr_1) (Nat.le_of_ble_eq_true rfl) dX7_sheet_1 (q := 4) rfl ?_
  refine v_if_eq hG dX7_sheet_4 (tgt := 29) rfl (q := 7) rfl (fun hc => ?_) (fun hc => ?_)
  · replace h := ifp hc h
    refine v_aload_0 hG dX7_sheet_29 (q := 30) rfl ?_
    refine v_ldc hG kc_RX7_40 dX7_sheet_30 (q := 32) rfl ?_
    obtain ⟨r_2, hr_2, h⟩ := bnd h
    refine v_cV1I hG cvX7_finds ml_RX7_68 rfl kk_59 (w_X7_finds hr_2) (Nat.le_of_ble_eq_true rfl) dX7_sheet_32 (q := 35) rfl ?_
    exact v_iret hG hR rfl rfl (sp2t h) dX7_sheet_35
  · replace h := ifn hc h
    refine v_iload_2 hG dX7_sheet_7 (q := 8) rfl ?_
    refine v_if_eq hG dX7_sheet_8 (tgt := 36) rfl (q := 11) rfl (fun hc => ?_) (fun hc => ?_)
    · replace h := ifp hc h
      exact w_X7_sheet_j36 hG hR h
    · replace h := ifn hc h
      refine v_iload_2 hG dX7_sheet_11 (q := 12) rfl ?_
      refine v_bipush hG cb_8 dX7_sheet_12 (q := 14) rfl ?_
      refine v_icmp_eq hG dX7_sheet_14 (tgt := 36) rfl (q := 17) rfl (fun hc => ?_) (fun hc => ?_)
      · replace h := ifp hc h
        exact w_X7_sheet_j36 hG hR h
      · replace h := ifn hc h
        refine v_iload_2 hG dX7_sheet_17 (q := 18) rfl ?_
        refine v_bipush hG cb_16 dX7_sheet_18 (q := 20) rfl ?_
        refine v_icmp_eq hG dX7_sheet_20 (tgt := 36) rfl (q := 23) rfl (fun hc => ?_) (fun hc => ?_)
        · replace h := ifp hc h
          exact w_X7_sheet_j36 hG hR h
        · replace h := ifn hc h
          refine v_iload_2 hG dX7_sheet_23 (q := 24) rfl ?_
          refine v_bipush hG cb_32 dX7_sheet_24 (q := 26) rfl ?_
          refine v_icmp_eq hG dX7_sheet_26 (tgt := 36) rfl (q := 29) rfl (fun hc => ?_) (fun hc => ?_)
          · replace h := ifp hc h
            exact w_X7_sheet_j36 hG hR h
          · replace h := ifn hc h
            refine v_aload_0 hG dX7_sheet_29 (q := 30) rfl ?_
            refine v_ldc hG kc_RX7_40 dX7_sheet_30 (q := 32) rfl ?_
            obtain ⟨r_3, hr_3, h⟩ := bnd h
            refine v_cV1I hG cvX7_finds ml_RX7_68 rfl kk_59 (w_X7_finds hr_3) (Nat.le_of_ble_eq_true rfl) dX7_sheet_32 (q := 35) rfl ?_
            exact v_iret hG hR rfl rfl (sp2t h) dX7_sheet_35
theorem cvX7_sheet : CVo mX7_sheet 3 7 := ⟨moX7_sheet, mvX7_sheet, by decide, _, _, rfl⟩
theorem w_X7_narrowed {E : EB} {x0 : Int32} {x1 : Int32} {M : Mem} {R : Int32} (h : f_X7_narrowed x0 x1 M = some R) : Mt E mX7_narrowed [.int x0, .int x1] M (PI R M) := by
  refine mt_of (L0 := [some (.int x0), some (.int x1)]) (by decide) rfl rfl (fun G hG hR => ?_)
  unfold f_X7_narrowed at h
  refine v_iload_0 hG dX7_narrowed_0 (q := 1) rfl ?_
  refine v_bipush hG cb_8 dX7_narrowed_1 (q := 3) rfl ?_
  refine v_icmp_ne hG dX7_narrowed_3 (tgt := 11) rfl (q := 6) rfl (fun hc => ?_) (fun hc => ?_)
  · replace h := ifn hc h
    refine v_iload_0 hG dX7_narrowed_11 (q := 12) rfl ?_
    refine v_bipush hG cb_16 dX7_narrowed_12 (q := 14) rfl ?_
    refine v_icmp_ne hG dX7_narrowed_14 (tgt := 22) rfl (q := 17) rfl (fun hc => ?_) (fun hc => ?_)
    · replace h := ifn hc h
      refine v_iload_1 hG dX7_narrowed_22 (q := 23) rfl ?_
      exact v_iret hG hR rfl rfl (sp1 h) dX7_narrowed_23
    · replace h := ifp hc h
      refine v_iload_1 hG dX7_narrowed_17 (q := 18) rfl ?_
      refine v_i2s hG dX7_narrowed_18 (q := 19) rfl ?_
      refine v_goto hG dX7_narrowed_19 (tgt := 23) rfl ?_
      exact v_iret hG hR rfl rfl (sp1 h) dX7_narrowed_23
  · replace h := ifp hc h
    refine v_iload_1 hG dX7_narrowed_6 (q := 7) rfl ?_
    refine v_i2b hG dX7_narrowed_7 (q := 8) rfl ?_
    refine v_goto hG dX7_narrowed_8 (tgt := 23) rfl ?_
    exact v_iret hG hR rfl rfl (sp1 h) dX7_narrowed_23
theorem csX7_narrowed : CSo mX7_narrowed 2 := ⟨moX7_narrowed, msX7_narrowed⟩
theorem w_X7_wrong {E : EB} {x1 : Int32} {M : Mem} {R : Int32} (h : f_X7_wrong x1 M = some R) : Mt E mX7_wrong [.ref 59, .int x1] M (PI R M) := by
  refine mt_of (L0 := [some (.ref 59), some (.int x1)]) (by decide) rfl rfl (fun G hG hR => ?_)
  unfold f_X7_wrong at h
  refine v_iload_1 hG dX7_wrong_0 (q := 1) rfl ?_
  obtain ⟨r_1, hr_1, h⟩ := bnd h
  refine v_cS1I hG csX7_isOne ml_RX7_348 rfl (w_X7_isOne hr_1) (Nat.le_of_ble_eq_true rfl) dX7_wrong_1 (q := 4) rfl ?_
  refine v_if_ne hG dX7_wrong_4 (tgt := 12) rfl (q := 7) rfl (fun hc => ?_) (fun hc => ?_)
  · replace h := ifn hc h
    refine v_aload_0 hG dX7_wrong_12 (q := 13) rfl ?_
    refine gt_RX7_28 hG rfl kk_59 dX7_wrong_13 (q := 16) rfl ?_
    refine v_iload_1 hG dX7_wrong_16 (q := 17) rfl ?_
    obtain ⟨c_2, h⟩ := ck_some h
    refine v_iald hG kk_66 rfl c_2 dX7_wrong_17 (q := 18) rfl ?_
    refine v_if_ne hG dX7_wrong_18 (tgt := 27) rfl (q := 21) rfl (fun hc => ?_) (fun hc => ?_)
    · replace h := ifn hc h
      refine v_iconst hG ci_0 dX7_wrong_27 (q := 28) rfl ?_
      exact v_iret hG hR rfl rfl (sp1 h) dX7_wrong_28
    · replace h := ifp hc h
      refine v_ldcw hG kc_RX7_346 dX7_wrong_21 (q := 24) rfl ?_
      refine v_goto hG dX7_wrong_24 (tgt := 28) rfl ?_
      exact v_iret hG hR rfl rfl (sp1 h) dX7_wrong_28
  · replace h := ifp hc h
    refine v_ldc hG kc_RX7_40 dX7_wrong_7 (q := 9) rfl ?_
    refine v_goto hG dX7_wrong_9 (tgt := 28) rfl ?_
    exact v_iret hG hR rfl rfl (sp1 h) dX7_wrong_28
theorem cvX7_wrong : CVo mX7_wrong 1 7 := ⟨moX7_wrong, mvX7_wrong, by decide, _, _, rfl⟩
theorem w_X7_write {E : EB} {x1 : Int32} {x2 : Int32} {x3 : Int32} {M : Mem} {R : Int32 × Mem} (h : f_X7_write x1 x2 x3 M = some R) : Mt E mX7_write [.ref 59, .int x1, .int x2, .int x3] M (PI R.1 R.2) := by
  refine mt_of (L0 := [some (.ref 59), some (.int x1), some (.int x2), some (.int x3), none]) (by decide) rfl rfl (fun G hG hR => ?_)
  unfold f_X7_write at h
  refine v_aload_0 hG dX7_write_0 (q := 1) rfl ?_
  refine v_iload_1 hG dX7_write_1 (q := 2) rfl ?_
  obtain ⟨r_1, hr_1, h⟩ := bnd h
  refine v_cV1I hG cvX7_wrong ml_RX7_352 rfl kk_59 (w_X7_wrong hr_1) (Nat.le_of_ble_eq_true rfl) dX7_write_2 (q := 5) rfl ?_
  refine v_istore_4 hG rfl dX7_write_5 (q := 7) rfl ?_
  refine v_iload_4 hG dX7_write_7 (q := 9) rfl ?_
  refine v_if_eq hG dX7_write_9 (tgt := 19) rfl (q := 12) rfl (fun hc => ?_) (fun hc => ?_)
  · replace h := ifp hc h
    refine v_iload_2 hG dX7_write_19 (q := 20) rfl ?_
    refine v_i2l hG dX7_write_20 (q := 21) rfl ?_
    refine v_lconst hG cl_0 dX7_write_21 (q := 22) rfl ?_
    refine v_aload_0 hG dX7_write_22 (q := 23) rfl ?_
    refine gt_RX7_31 hG rfl kk_59 dX7_write_23 (q := 26) rfl ?_
    refine v_iload_1 hG dX7_write_26 (q := 27) rfl ?_
    obtain ⟨c_2, h⟩ := ck_some h
    refine v_iald hG kk_67 rfl c_2 dX7_write_27 (q := 28) rfl ?_
    refine v_iconst hG ci_1 dX7_write_28 (q := 29) rfl ?_
    refine v_isub hG dX7_write_29 (q := 30) rfl ?_
    refine v_i2l hG dX7_write_30 (q := 31) rfl ?_
    obtain ⟨r_3, hr_3, h⟩ := bnd h
    refine v_cS3I hG csX7_in ml_RX7_43 rfl (w_X7_in hr_3) (Nat.le_of_ble_eq_true rfl) dX7_write_31 (q := 34) rfl ?_
    refine v_if_ne hG dX7_write_34 (tgt := 44) rfl (q := 37) rfl (fun hc => ?_) (fun hc => ?_)
    · replace h := ifn hc h
      refine v_aload_0 hG dX7_write_44 (q := 45) rfl ?_
      refine gt_RX7_34 hG rfl kk_59 dX7_write_45 (q := 48) rfl ?_
      refine v_bipush hG cb_40 dX7_write_48 (q := 50) rfl ?_
      refine v_iload_1 hG dX7_write_50 (q := 51) rfl ?_
      refine v_imul hG dX7_write_51 (q := 52) rfl ?_
      refine v_iload_2 hG dX7_write_52 (q := 53) rfl ?_
      refine v_iadd hG dX7_write_53 (q := 54) rfl ?_
      refine v_aload_0 hG dX7_write_54 (q := 55) rfl ?_
      refine gt_RX7_28 hG rfl kk_59 dX7_write_55 (q := 58) rfl ?_
      refine v_iload_1 hG dX7_write_58 (q := 59) rfl ?_
      obtain ⟨c_4, h⟩ := ck_some h
      refine v_iald hG kk_66 rfl c_4 dX7_write_59 (q := 60) rfl ?_
      refine v_iload_3 hG dX7_write_60 (q := 61) rfl ?_
      obtain ⟨r_5, hr_5, h⟩ := bnd h
      refine v_cS2I hG csX7_narrowed ml_RX7_355 rfl (w_X7_narrowed hr_5) (Nat.le_of_ble_eq_true rfl) dX7_write_61 (q := 64) rfl ?_
      obtain ⟨c_6, h⟩ := ck_some h
      refine v_iast hG kk_68 rfl c_6 dX7_write_64 (q := 65) rfl ?_
      refine v_topM (fun M_7 hy => ?_)
      replace h := letv_at hy h
      clear hy
      refine v_iconst hG ci_1 dX7_write_65 (q := 66) rfl ?_
      exact v_iret hG hR rfl rfl (sp2t h) dX7_write_66
    · replace h := ifp hc h
      refine v_aload_0 hG dX7_write_37 (q := 38) rfl ?_
      refine v_ldc hG kc_RX7_40 dX7_write_38 (q := 40) rfl ?_
      obtain ⟨r_8, hr_8, h⟩ := bnd h
      refine v_cV1I hG cvX7_finds ml_RX7_68 rfl kk_59 (w_X7_finds hr_8) (Nat.le_of_ble_eq_true rfl) dX7_write_40 (q := 43) rfl ?_
      exact v_iret hG hR rfl rfl (sp2t h) dX7_write_43
  · replace h := ifn hc h
    refine v_aload_0 hG dX7_write_12 (q := 13) rfl ?_
    refine v_iload_4 hG dX7_write_13 (q := 15) rfl ?_
    obtain ⟨r_9, hr_9, h⟩ := bnd h
    refine v_cV1I hG cvX7_finds ml_RX7_68 rfl kk_59 (w_X7_finds hr_9) (Nat.le_of_ble_eq_true rfl) dX7_write_15 (q := 18) rfl ?_
    exact v_iret hG hR rfl rfl (sp2t h) dX7_write_18
theorem cvX7_write : CVo mX7_write 3 7 := ⟨moX7_write, mvX7_write, by decide, _, _, rfl⟩
theorem w_X7_copy_b158 {E : EB} {G : GB} (hG : Gd E mX7_copy G) {M : Mem} {R : Int32 × Mem} (hR : Rt E mX7_copy (PI R.1 R.2) G) {k158 : Int32 → Int32 → Int32 → Int32 → Mem → Option (Int32 × Mem)} (hk158 : ∀ (x3 : Int32) (x4 : Int32) (x5 : Int32) (x6 : Int32) (M : Mem), k158 x3 x4 x5 x6 M = some R → V E G 158 [some (.ref 59), none, none, some (.int x3), some (.int x4), some (.int x5), some (.int x6)] [] M) {x3 : Int32} {x4 : Int32} {x5 : Int32} {x6 : Int32} (h : f_X7_copy_b158 k158 x3 x4 x5 x6 M = some R) : V E G 158 [some (.ref 59), none, none, some (.int x3), some (.int x4), some (.int x5), some (.int x6)] [] M := by
  unfold f_X7_copy_b158 at h
  refine v_iload_6 hG dX7_copy_158 (q := 160) rfl ?_
  refine v_iload_5 hG dX7_copy_160 (q := 162) rfl ?_
  refine v_icmp_ge hG dX7_copy_162 (tgt := 193) rfl (q := 165) rfl (fun hc => ?_) (fun hc => ?_)
  · replace h := ifp hc h
    refine v_iload_5 hG dX7_copy_193 (q := 195) rfl ?_
    exact v_iret hG hR rfl rfl (sp2t h) dX7_copy_195
  · replace h := ifn hc h
    refine v_aload_0 hG dX7_copy_165 (q := 166) rfl ?_
    refine gt_RX7_34 hG rfl kk_59 dX7_copy_166 (q := 169) rfl ?_
    refine v_bipush hG cb_40 dX7_copy_169 (q := 171) rfl ?_
    refine v_iload_3 hG dX7_copy_171 (q := 172) rfl ?_
    refine v_imul hG dX7_copy_172 (q := 173) rfl ?_
    refine v_iload_4 hG dX7_copy_173 (q := 175) rfl ?_
    refine v_iadd hG dX7_copy_175 (q := 176) rfl ?_
    refine v_iload_6 hG dX7_copy_176 (q := 178) rfl ?_
    refine v_iadd hG dX7_copy_178 (q := 179) rfl ?_
    refine v_aload_0 hG dX7_copy_179 (q := 180) rfl ?_
    refine gt_RX7_37 hG rfl kk_59 dX7_copy_180 (q := 183) rfl ?_
    refine v_iload_6 hG dX7_copy_183 (q := 185) rfl ?_
    obtain ⟨c_22, h⟩ := ck_some h
    refine v_iald hG kk_69 rfl c_22 dX7_copy_185 (q := 186) rfl ?_
    obtain ⟨c_23, h⟩ := ck_some h
    refine v_iast hG kk_68 rfl c_23 dX7_copy_186 (q := 187) rfl ?_
    refine v_topM (fun M_24 hy => ?_)
    replace h := letv_at hy h
    clear hy
    refine v_iinc_6 hG rfl dX7_copy_187 (congrArg _ ci_1) (q := 190) rfl ?_
    refine v_goto hG dX7_copy_190 (tgt := 158) rfl ?_
    exact hk158 _ _ _ _ _ h
theorem w_X7_copy_l158 {E : EB} {G : GB} (hG : Gd E mX7_copy G) {R : Int32 × Mem} (hR : Rt E mX7_copy (PI R.1 R.2) G) : ∀ (n : Nat) (x3 : Int32) (x4 : Int32) (x5 : Int32) (x6 : Int32) (M : Mem), f_X7_copy_l158 n x3 x4 x5 x6 M = some R → V E G 158 [some (.ref 59), none, none, some (.int x3), some (.int x4), some (.int x5), some (.int x6)] [] M := by
  intro n
  induction n with
  | zero => intro x3 x4 x5 x6 M h; cases h
  | succ n ih => intro x3 x4 x5 x6 M h; exact w_X7_copy_b158 hG hR ih h
theorem w_X7_copy_b121 {E : EB} {G : GB} (hG : Gd E mX7_copy G) {M : Mem} {R : Int32 × Mem} (hR : Rt E mX7_copy (PI R.1 R.2) G) {k121 : Int32 → Int32 → Int32 → Int32 → Int32 → Int32 → Mem → Option (Int32 × Mem)} (hk121 : ∀ (x1 : Int32) (x2 : Int32) (x3 : Int32) (x4 : Int32) (x5 : Int32) (x6 : Int32) (M : Mem), k121 x1 x2 x3 x4 x5 x6 M = some R → V E G 121 [some (.ref 59), some (.int x1), some (.int x2), some (.int x3), some (.int x4), some (.int x5), some (.int x6)] [] M) {x1 : Int32} {x2 : Int32} {x3 : Int32} {x4 : Int32} {x5 : Int32} {x6 : Int32} (h : f_X7_copy_b121 k121 x1 x2 x3 x4 x5 x6 M = some R) : V E G 121 [some (.ref 59), some (.int x1), some (.int x2), some (.int x3), some (.int x4), some (.int x5), some (.int x6)] [] M := by
  unfold f_X7_copy_b121 at h
  refine v_iload_6 hG dX7_copy_121 (q := 123) rfl ?_
  refine v_iload_5 hG dX7_copy_123 (q := 125) rfl ?_
  refine v_icmp_ge hG dX7_copy_125 (tgt := 155) rfl (q := 128) rfl (fun hc => ?_) (fun hc => ?_)
  · replace h := ifp hc h
    refine v_iconst hG ci_0 dX7_copy_155 (q := 156) rfl ?_
    refine v_istore_6 hG rfl dX7_copy_156 (q := 158) rfl ?_
    refine v_drop (n := 1) (L' := [some (.ref 59), none, some (.int x2), some (.int x3), some (.int x4), some (.int x5), some (.int (0 : Int32))]) rfl ?_
    refine v_drop (n := 2) (L' := [some (.ref 59), none, none, some (.int x3), some (.int x4), some (.int x5), some (.int (0 : Int32))]) rfl ?_
    exact w_X7_copy_l158 hG hR FU _ _ _ _ _ h
  · replace h := ifn hc h
    refine v_aload_0 hG dX7_copy_128 (q := 129) rfl ?_
    refine gt_RX7_37 hG rfl kk_59 dX7_copy_129 (q := 132) rfl ?_
    refine v_iload_6 hG dX7_copy_132 (q := 134) rfl ?_
    refine v_aload_0 hG dX7_copy_134 (q := 135) rfl ?_
    refine gt_RX7_34 hG rfl kk_59 dX7_copy_135 (q := 138) rfl ?_
    refine v_bipush hG cb_40 dX7_copy_138 (q := 140) rfl ?_
    refine v_iload_1 hG dX7_copy_140 (q := 141) rfl ?_
    refine v_imul hG dX7_copy_141 (q := 142) rfl ?_
    refine v_iload_2 hG dX7_copy_142 (q := 143) rfl ?_
    refine v_iadd hG dX7_copy_143 (q := 144) rfl ?_
    refine v_iload_6 hG dX7_copy_144 (q := 146) rfl ?_
    refine v_iadd hG dX7_copy_146 (q := 147) rfl ?_
    obtain ⟨c_19, h⟩ := ck_some h
    refine v_iald hG kk_68 rfl c_19 dX7_copy_147 (q := 148) rfl ?_
    obtain ⟨c_20, h⟩ := ck_some h
    refine v_iast hG kk_69 rfl c_20 dX7_copy_148 (q := 149) rfl ?_
    refine v_topM (fun M_21 hy => ?_)
    replace h := letv_at hy h
    clear hy
    refine v_iinc_6 hG rfl dX7_copy_149 (congrArg _ ci_1) (q := 152) rfl ?_
    refine v_goto hG dX7_copy_152 (tgt := 121) rfl ?_
    exact hk121 _ _ _ _ _ _ _ h
theorem w_X7_copy_l121 {E : EB} {G : GB} (hG : Gd E mX7_copy G) {R : Int32 × Mem} (hR : Rt E mX7_copy (PI R.1 R.2) G) : ∀ (n : Nat) (x1 : Int32) (x2 : Int32) (x3 : Int32) (x4 : Int32) (x5 : Int32) (x6 : Int32) (M : Mem), f_X7_copy_l121 n x1 x2 x3 x4 x5 x6 M = some R → V E G 121 [some (.ref 59), some (.int x1), some (.int x2), some (.int x3), some (.int x4), some (.int x5), some (.int x6)] [] M := by
  intro n
  induction n with
  | zero => intro x1 x2 x3 x4 x5 x6 M h; cases h
  | succ n ih => intro x1 x2 x3 x4 x5 x6 M h; exact w_X7_copy_b121 hG hR ih h
theorem w_X7_copy {E : EB} {x1 : Int32} {x2 : Int32} {x3 : Int32} {x4 : Int32} {x5 : Int32} {M : Mem} {R : Int32 × Mem} (h : f_X7_copy x1 x2 x3 x4 x5 M = some R) : Mt E mX7_copy [.ref 59, .int x1, .int x2, .int x3, .int x4, .int x5] M (PI R.1 R.2) := by
  refine mt_of (L0 := [some (.ref 59), some (.int x1), some (.int x2), some (.int x3), some (.int x4), some (.int x5), none]) (by decide) rfl rfl (fun G hG hR => ?_)
  unfold f_X7_copy at h
  refine v_iload_1 hG dX7_copy_0 (q := 1) rfl ?_
  obtain ⟨r_1, hr_1, h⟩ := bnd h
  refine v_cS1I hG csX7_isOne ml_RX7_348 rfl (w_X7_isOne hr_1) (Nat.le_of_ble_eq_true rfl) dX7_copy_1 (q := 4) rfl ?_
  refine v_if_eq hG dX7_copy_4 (tgt := 14) rfl (q := 7) rfl (fun hc => ?_) (fun hc => ?_)
  · replace h := ifp hc h
    refine v_aload_0 hG dX7_copy_14 (q := 15) rfl ?_
    refine v_ldc hG kc_RX7_40 dX7_copy_15 (q := 17) rfl ?_
    obtain ⟨r_2, hr_2, h⟩ := bnd h
    refine v_cV1I hG cvX7_finds ml_RX7_68 rfl kk_59 (w_X7_finds hr_2) (Nat.le_of_ble_eq_true rfl) dX7_copy_17 (q := 20) rfl ?_
    exact v_iret hG hR rfl rfl (sp2t h) dX7_copy_20
  · replace h := ifn hc h
    refine v_iload_3 hG dX7_copy_7 (q := 8) rfl ?_
    obtain ⟨r_3, hr_3, h⟩ := bnd h
    refine v_cS1I hG csX7_isOne ml_RX7_348 rfl (w_X7_isOne hr_3) (Nat.le_of_ble_eq_true rfl) dX7_copy_8 (q := 11) rfl ?_
    refine v_if_ne hG dX7_copy_11 (tgt := 21) rfl (q := 14) rfl (fun hc => ?_) (fun hc => ?_)
    · replace h := ifn hc h
      refine v_aload_0 hG dX7_copy_21 (q := 22) rfl ?_
      refine gt_RX7_28 hG rfl kk_59 dX7_copy_22 (q := 25) rfl ?_
      refine v_iload_1 hG dX7_copy_25 (q := 26) rfl ?_
      obtain ⟨c_4, h⟩ := ck_some h
      refine v_iald hG kk_66 rfl c_4 dX7_copy_26 (q := 27) rfl ?_
      refine v_if_eq hG dX7_copy_27 (tgt := 39) rfl (q := 30) rfl (fun hc => ?_) (fun hc => ?_)
      · replace h := ifp hc h
        refine v_aload_0 hG dX7_copy_39 (q := 40) rfl ?_
        refine v_ldcw hG kc_RX7_346 dX7_copy_40 (q := 43) rfl ?_
        obtain ⟨r_5, hr_5, h⟩ := bnd h
        refine v_cV1I hG cvX7_finds ml_RX7_68 rfl kk_59 (w_X7_finds hr_5) (Nat.le_of_ble_eq_true rfl) dX7_copy_43 (q := 46) rfl ?_
        exact v_iret hG hR rfl rfl (sp2t h) dX7_copy_46
      · replace h := ifn hc h
        refine v_aload_0 hG dX7_copy_30 (q := 31) rfl ?_
        refine gt_RX7_28 hG rfl kk_59 dX7_copy_31 (q := 34) rfl ?_
        refine v_iload_3 hG dX7_copy_34 (q := 35) rfl ?_
        obtain ⟨c_6, h⟩ := ck_some h
        refine v_iald hG kk_66 rfl c_6 dX7_copy_35 (q := 36) rfl ?_
        refine v_if_ne hG dX7_copy_36 (tgt := 47) rfl (q := 39) rfl (fun hc => ?_) (fun hc => ?_)
        · replace h := ifn hc h
          refine v_aload_0 hG dX7_copy_47 (q := 48) rfl ?_
          refine gt_RX7_28 hG rfl kk_59 dX7_copy_48 (q := 51) rfl ?_
          refine v_iload_1 hG dX7_copy_51 (q := 52) rfl ?_
          obtain ⟨c_7, h⟩ := ck_some h
          refine v_iald hG kk_66 rfl c_7 dX7_copy_52 (q := 53) rfl ?_
          refine v_aload_0 hG dX7_copy_53 (q := 54) rfl ?_
          refine gt_RX7_28 hG rfl kk_59 dX7_copy_54 (q := 57) rfl ?_
          refine v_iload_3 hG dX7_copy_57 (q := 58) rfl ?_
          obtain ⟨c_8, h⟩ := ck_some h
          refine v_iald hG kk_66 rfl c_8 dX7_copy_58 (q := 59) rfl ?_
          refine v_icmp_eq hG dX7_copy_59 (tgt := 70) rfl (q := 62) rfl (fun hc => ?_) (fun hc => ?_)
          · replace h := ifp hc h
            refine v_iload_2 hG dX7_copy_70 (q := 71) rfl ?_
            refine v_if_lt hG dX7_copy_71 (tgt := 111) rfl (q := 74) rfl (fun hc => ?_) (fun hc => ?_)
            · replace h := ifp hc h
              refine v_aload_0 hG dX7_copy_111 (q := 112) rfl ?_
              refine v_ldc hG kc_RX7_40 dX7_copy_112 (q := 114) rfl ?_
              obtain ⟨r_9, hr_9, h⟩ := bnd h
              refine v_cV1I hG cvX7_finds ml_RX7_68 rfl kk_59 (w_X7_finds hr_9) (Nat.le_of_ble_eq_true rfl) dX7_copy_114 (q := 117) rfl ?_
              exact v_iret hG hR rfl rfl (sp2t h) dX7_copy_117
            · replace h := ifn hc h
              refine v_iload_4 hG dX7_copy_74 (q := 76) rfl ?_
              refine v_if_lt hG dX7_copy_76 (tgt := 111) rfl (q := 79) rfl (fun hc => ?_) (fun hc => ?_)
              · replace h := ifp hc h
                refine v_aload_0 hG dX7_copy_111 (q := 112) rfl ?_
                refine v_ldc hG kc_RX7_40 dX7_copy_112 (q := 114) rfl ?_
                obtain ⟨r_10, hr_10, h⟩ := bnd h
                refine v_cV1I hG cvX7_finds ml_RX7_68 rfl kk_59 (w_X7_finds hr_10) (Nat.le_of_ble_eq_true rfl) dX7_copy_114 (q := 117) rfl ?_
                exact v_iret hG hR rfl rfl (sp2t h) dX7_copy_117
              · replace h := ifn hc h
                refine v_iload_5 hG dX7_copy_79 (q := 81) rfl ?_
                refine v_if_lt hG dX7_copy_81 (tgt := 111) rfl (q := 84) rfl (fun hc => ?_) (fun hc => ?_)
                · replace h := ifp hc h
                  refine v_aload_0 hG dX7_copy_111 (q := 112) rfl ?_
                  refine v_ldc hG kc_RX7_40 dX7_copy_112 (q := 114) rfl ?_
                  obtain ⟨r_11, hr_11, h⟩ := bnd h
                  refine v_cV1I hG cvX7_finds ml_RX7_68 rfl kk_59 (w_X7_finds hr_11) (Nat.le_of_ble_eq_true rfl) dX7_copy_114 (q := 117) rfl ?_
                  exact v_iret hG hR rfl rfl (sp2t h) dX7_copy_117
                · replace h := ifn hc h
                  refine v_iload_5 hG dX7_copy_84 (q := 86) rfl ?_
                  refine v_aload_0 hG dX7_copy_86 (q := 87) rfl ?_
                  refine gt_RX7_31 hG rfl kk_59 dX7_copy_87 (q := 90) rfl ?_
                  refine v_iload_1 hG dX7_copy_90 (q := 91) rfl ?_
                  obtain ⟨c_12, h⟩ := ck_some h
                  refine v_iald hG kk_67 rfl c_12 dX7_copy_91 (q := 92) rfl ?_
                  refine v_iload_2 hG dX7_copy_92 (q := 93) rfl ?_
                  refine v_isub hG dX7_copy_93 (q := 94) rfl ?_
                  refine v_icmp_gt hG dX7_copy_94 (tgt := 111) rfl (q := 97) rfl (fun hc => ?_) (fun hc => ?_)
                  · replace h := ifp hc h
                    refine v_aload_0 hG dX7_copy_111 (q := 112) rfl ?_
                    refine v_ldc hG kc_RX7_40 dX7_copy_112 (q := 114) rfl ?_
                    obtain ⟨r_13, hr_13, h⟩ := bnd h
                    refine v_cV1I hG cvX7_finds ml_RX7_68 rfl kk_59 (w_X7_finds hr_13) (Nat.le_of_ble_eq_true rfl) dX7_copy_114 (q := 117) rfl ?_
                    exact v_iret hG hR rfl rfl (sp2t h) dX7_copy_117
                  · replace h := ifn hc h
                    refine v_iload_5 hG dX7_copy_97 (q := 99) rfl ?_
                    refine v_aload_0 hG dX7_copy_99 (q := 100) rfl ?_
                    refine gt_RX7_31 hG rfl kk_59 dX7_copy_100 (q := 103) rfl ?_
                    refine v_iload_3 hG dX7_copy_103 (q := 104) rfl ?_
                    obtain ⟨c_14, h⟩ := ck_some h
                    refine v_iald hG kk_67 rfl c_14 dX7_copy_104 (q := 105) rfl ?_
                    refine v_iload_4 hG dX7_copy_105 (q := 107) rfl ?_
                    refine v_isub hG dX7_copy_107 (q := 108) rfl ?_
                    refine v_icmp_le hG dX7_copy_108 (tgt := 118) rfl (q := 111) rfl (fun hc => ?_) (fun hc => ?_)
                    · replace h := ifp hc h
                      refine v_iconst hG ci_0 dX7_copy_118 (q := 119) rfl ?_
                      refine v_istore_6 hG rfl dX7_copy_119 (q := 121) rfl ?_
                      exact w_X7_copy_l121 hG hR FU _ _ _ _ _ _ _ h
                    · replace h := ifn hc h
                      refine v_aload_0 hG dX7_copy_111 (q := 112) rfl ?_
                      refine v_ldc hG kc_RX7_40 dX7_copy_112 (q := 114) rfl ?_
                      obtain ⟨r_15, hr_15, h⟩ := bnd h
                      refine v_cV1I hG cvX7_finds ml_RX7_68 rfl kk_59 (w_X7_finds hr_15) (Nat.le_of_ble_eq_true rfl) dX7_copy_114 (q := 117) rfl ?_
                      exact v_iret hG hR rfl rfl (sp2t h) dX7_copy_117
          · replace h := ifn hc h
            refine v_aload_0 hG dX7_copy_62 (q := 63) rfl ?_
            refine v_ldcw hG kc_RX7_347 dX7_copy_63 (q := 66) rfl ?_
            obtain ⟨r_16, hr_16, h⟩ := bnd h
            refine v_cV1I hG cvX7_finds ml_RX7_68 rfl kk_59 (w_X7_finds hr_16) (Nat.le_of_ble_eq_true rfl) dX7_copy_66 (q := 69) rfl ?_
            exact v_iret hG hR rfl rfl (sp2t h) dX7_copy_69
        · replace h := ifp hc h
          refine v_aload_0 hG dX7_copy_39 (q := 40) rfl ?_
          refine v_ldcw hG kc_RX7_346 dX7_copy_40 (q := 43) rfl ?_
          obtain ⟨r_17, hr_17, h⟩ := bnd h
          refine v_cV1I hG cvX7_finds ml_RX7_68 rfl kk_59 (w_X7_finds hr_17) (Nat.le_of_ble_eq_true rfl) dX7_copy_43 (q := 46) rfl ?_
          exact v_iret hG hR rfl rfl (sp2t h) dX7_copy_46
    · replace h := ifp hc h
      refine v_aload_0 hG dX7_copy_14 (q := 15) rfl ?_
      refine v_ldc hG kc_RX7_40 dX7_copy_15 (q := 17) rfl ?_
      obtain ⟨r_18, hr_18, h⟩ := bnd h
      refine v_cV1I hG cvX7_finds ml_RX7_68 rfl kk_59 (w_X7_finds hr_18) (Nat.le_of_ble_eq_true rfl) dX7_copy_17 (q := 20) rfl ?_
      exact v_iret hG hR rfl rfl (sp2t h) dX7_copy_20
theorem cvX7_copy : CVo mX7_copy 5 7 := ⟨moX7_copy, mvX7_copy, by decide, _, _, rfl⟩
theorem w_X7_load_b18 {E : EB} {G : GB} (hG : Gd E mX7_load G) {M : Mem} {R : Int32 × Mem} (hR : Rt E mX7_load (PI R.1 R.2) G) {k18 : Int32 → Int32 → Mem → Option (Int32 × Mem)} (hk18 : ∀ (x1 : Int32) (x3 : Int32) (M : Mem), k18 x1 x3 M = some R → V E G 18 [some (.ref 59), some (.int x1), none, some (.int x3)] [] M) {x1 : Int32} {x3 : Int32} (h : f_X7_load_b18 k18 x1 x3 M = some R) : V E G 18 [some (.ref 59), some (.int x1), none, some (.int x3)] [] M := by
  unfold f_X7_load_b18 at h
  refine v_iload_3 hG dX7_load_18 (q := 19) rfl ?_
  refine v_aload_0 hG dX7_load_19 (q := 20) rfl ?_
  refine gt_RX7_31 hG rfl kk_59 dX7_load_20 (q := 23) rfl ?_
  refine v_iload_1 hG dX7_load_23 (q := 24) rfl ?_
  obtain ⟨c_3, h⟩ := ck_some h
  refine v_iald hG kk_67 rfl c_3 dX7_load_24 (q := 25) rfl ?_
  refine v_icmp_ge hG dX7_load_25 (tgt := 82) rfl (q := 28) rfl (fun hc => ?_) (fun hc => ?_)
  · replace h := ifp hc h
    refine v_iload_3 hG dX7_load_82 (q := 83) rfl ?_
    exact v_iret hG hR rfl rfl (sp2t h) dX7_load_83
  · replace h := ifn hc h
    refine v_iload_3 hG dX7_load_28 (q := 29) rfl ?_
    refine v_aload_0 hG dX7_load_29 (q := 30) rfl ?_
    refine gt_RX7_7 hG rfl kk_59 dX7_load_30 (q := 33) rfl ?_
    refine v_iconst hG ci_1 dX7_load_33 (q := 34) rfl ?_
    obtain ⟨c_4, h⟩ := ck_some h
    refine v_iald hG kk_60 rfl c_4 dX7_load_34 (q := 35) rfl ?_
    refine v_icmp_ge hG dX7_load_35 (tgt := 82) rfl (q := 38) rfl (fun hc => ?_) (fun hc => ?_)
    · replace h := ifp hc h
      refine v_iload_3 hG dX7_load_82 (q := 83) rfl ?_
      exact v_iret hG hR rfl rfl (sp2t h) dX7_load_83
    · replace h := ifn hc h
      refine v_aload_0 hG dX7_load_38 (q := 39) rfl ?_
      refine gt_RX7_34 hG rfl kk_59 dX7_load_39 (q := 42) rfl ?_
      refine v_bipush hG cb_40 dX7_load_42 (q := 44) rfl ?_
      refine v_iload_1 hG dX7_load_44 (q := 45) rfl ?_
      refine v_imul hG dX7_load_45 (q := 46) rfl ?_
      refine v_iload_3 hG dX7_load_46 (q := 47) rfl ?_
      refine v_iadd hG dX7_load_47 (q := 48) rfl ?_
      obtain ⟨c_5, h⟩ := ck_some h
      refine v_iald hG kk_68 rfl c_5 dX7_load_48 (q := 49) rfl ?_
      obtain ⟨r_6, hr_6, h⟩ := bnd h
      refine v_cS1I hG csX7_isSaying ml_RX7_60 rfl (w_X7_isSaying hr_6) (Nat.le_of_ble_eq_true rfl) dX7_load_49 (q := 52) rfl ?_
      refine v_if_eq hG dX7_load_52 (tgt := 82) rfl (q := 55) rfl (fun hc => ?_) (fun hc => ?_)
      · replace h := ifp hc h
        refine v_iload_3 hG dX7_load_82 (q := 83) rfl ?_
        exact v_iret hG hR rfl rfl (sp2t h) dX7_load_83
      · replace h := ifn hc h
        refine v_aload_0 hG dX7_load_55 (q := 56) rfl ?_
        refine gt_RX7_7 hG rfl kk_59 dX7_load_56 (q := 59) rfl ?_
        refine v_iload_3 hG dX7_load_59 (q := 60) rfl ?_
        refine v_iconst hG ci_0 dX7_load_60 (q := 61) rfl ?_
        obtain ⟨r_7, hr_7, h⟩ := bnd h
        refine v_cS2I hG csX7_where ml_RX7_84 rfl (w_X7_where hr_7) (Nat.le_of_ble_eq_true rfl) dX7_load_61 (q := 64) rfl ?_
        refine v_aload_0 hG dX7_load_64 (q := 65) rfl ?_
        refine gt_RX7_34 hG rfl kk_59 dX7_load_65 (q := 68) rfl ?_
        refine v_bipush hG cb_40 dX7_load_68 (q := 70) rfl ?_
        refine v_iload_1 hG dX7_load_70 (q := 71) rfl ?_
        refine v_imul hG dX7_load_71 (q := 72) rfl ?_
        refine v_iload_3 hG dX7_load_72 (q := 73) rfl ?_
        refine v_iadd hG dX7_load_73 (q := 74) rfl ?_
        obtain ⟨c_8, h⟩ := ck_some h
        refine v_iald hG kk_68 rfl c_8 dX7_load_74 (q := 75) rfl ?_
        obtain ⟨c_9, h⟩ := ck_some h
        refine v_iast hG kk_60 rfl c_9 dX7_load_75 (q := 76) rfl ?_
        refine v_topM (fun M_10 hy => ?_)
        replace h := letv_at hy h
        clear hy
        refine v_iinc_3 hG rfl dX7_load_76 (congrArg _ ci_1) (q := 79) rfl ?_
        refine v_goto hG dX7_load_79 (tgt := 18) rfl ?_
        exact hk18 _ _ _ h
theorem w_X7_load_l18 {E : EB} {G : GB} (hG : Gd E mX7_load G) {R : Int32 × Mem} (hR : Rt E mX7_load (PI R.1 R.2) G) : ∀ (n : Nat) (x1 : Int32) (x3 : Int32) (M : Mem), f_X7_load_l18 n x1 x3 M = some R → V E G 18 [some (.ref 59), some (.int x1), none, some (.int x3)] [] M := by
  intro n
  induction n with
  | zero => intro x1 x3 M h; cases h
  | succ n ih => intro x1 x3 M h; exact w_X7_load_b18 hG hR ih h
theorem w_X7_load {E : EB} {x1 : Int32} {M : Mem} {R : Int32 × Mem} (h : f_X7_load x1 M = some R) : Mt E mX7_load [.ref 59, .int x1] M (PI R.1 R.2) := by
  refine mt_of (L0 := [some (.ref 59), some (.int x1), none, none]) (by decide) rfl rfl (fun G hG hR => ?_)
  unfold f_X7_load at h
  refine v_aload_0 hG dX7_load_0 (q := 1) rfl ?_
  refine v_iload_1 hG dX7_load_1 (q := 2) rfl ?_
  obtain ⟨r_1, hr_1, h⟩ := bnd h
  refine v_cV1I hG cvX7_wrong ml_RX7_352 rfl kk_59 (w_X7_wrong hr_1) (Nat.le_of_ble_eq_true rfl) dX7_load_2 (q := 5) rfl ?_
  refine v_istore_2 hG rfl dX7_load_5 (q := 6) rfl ?_
  refine v_iload_2 hG dX7_load_6 (q := 7) rfl ?_
  refine v_if_eq hG dX7_load_7 (tgt := 16) rfl (q := 10) rfl (fun hc => ?_) (fun hc => ?_)
  · replace h := ifp hc h
    refine v_iconst hG ci_0 dX7_load_16 (q := 17) rfl ?_
    refine v_istore_3 hG rfl dX7_load_17 (q := 18) rfl ?_
    refine v_drop (n := 2) (L' := [some (.ref 59), some (.int x1), none, some (.int (0 : Int32))]) rfl ?_
    exact w_X7_load_l18 hG hR FU _ _ _ h
  · replace h := ifn hc h
    refine v_aload_0 hG dX7_load_10 (q := 11) rfl ?_
    refine v_iload_2 hG dX7_load_11 (q := 12) rfl ?_
    obtain ⟨r_2, hr_2, h⟩ := bnd h
    refine v_cV1I hG cvX7_finds ml_RX7_68 rfl kk_59 (w_X7_finds hr_2) (Nat.le_of_ble_eq_true rfl) dX7_load_12 (q := 15) rfl ?_
    exact v_iret hG hR rfl rfl (sp2t h) dX7_load_15
theorem cvX7_load : CVo mX7_load 1 7 := ⟨moX7_load, mvX7_load, by decide, _, _, rfl⟩
theorem w_X7_judge_j83 {E : EB} {G : GB} (hG : Gd E mX7_judge G) {M : Mem} {R : Int32 × Mem} (hR : Rt E mX7_judge (PI R.1 R.2) G) {k37 : Int32 → Int32 → Int32 → Int32 → Mem → Option (Int32 × Mem)} (hk37 : ∀ (x1 : Int32) (x2 : Int32) (x4 : Int32) (x5 : Int32) (M : Mem), k37 x1 x2 x4 x5 M = some R → V E G 37 [some (.ref 59), some (.int x1), some (.int x2), none, some (.int x4), some (.int x5)] [] M) {x1 : Int32} {x2 : Int32} {x4 : Int32} {t0 : Int32} (h : f_X7_judge_j83 k37 x1 x2 x4 t0 M = some R) : V E G 83 [some (.ref 59), some (.int x1), some (.int x2), none, some (.int x4), none] [.int t0] M := by
  unfold f_X7_judge_j83 at h
  refine v_istore_5 hG rfl dX7_judge_83 (q := 85) rfl ?_
  refine v_iload_4 hG dX7_judge_85 (q := 87) rfl ?_
  refine v_iload_5 hG dX7_judge_87 (q := 89) rfl ?_
  refine v_if_eq hG dX7_judge_89 (tgt := 96) rfl (q := 92) rfl (fun hc => ?_) (fun hc => ?_)
  · replace h := ifp hc h
    refine v_iconst hG ci_0 dX7_judge_96 (q := 97) rfl ?_
    refine v_iadd hG dX7_judge_97 (q := 98) rfl ?_
    refine v_topi (fun x4_8 hy => ?_)
    replace h := letv_at hy h
    clear hy
    refine v_istore_4 hG rfl dX7_judge_98 (q := 100) rfl ?_
    refine v_goto hG dX7_judge_100 (tgt := 37) rfl ?_
    exact hk37 _ _ _ _ _ h
  · replace h := ifn hc h
    refine v_iconst hG ci_1 dX7_judge_92 (q := 93) rfl ?_
    refine v_goto hG dX7_judge_93 (tgt := 97) rfl ?_
    refine v_iadd hG dX7_judge_97 (q := 98) rfl ?_
    refine v_topi (fun x4_9 hy => ?_)
    replace h := letv_at hy h
    clear hy
    refine v_istore_4 hG rfl dX7_judge_98 (q := 100) rfl ?_
    refine v_goto hG dX7_judge_100 (tgt := 37) rfl ?_
    exact hk37 _ _ _ _ _ h
theorem w_X7_judge_b37 {E : EB} {G : GB} (hG : Gd E mX7_judge G) {M : Mem} {R : Int32 × Mem} (hR : Rt E mX7_judge (PI R.1 R.2) G) {k37 : Int32 → Int32 → Int32 → Int32 → Mem → Option (Int32 × Mem)} (hk37 : ∀ (x1 : Int32) (x2 : Int32) (x4 : Int32) (x5 : Int32) (M : Mem), k37 x1 x2 x4 x5 M = some R → V E G 37 [some (.ref 59), some (.int x1), some (.int x2), none, some (.int x4), some (.int x5)] [] M) {x1 : Int32} {x2 : Int32} {x4 : Int32} {x5 : Int32} (h : f_X7_judge_b37 k37 x1 x2 x4 x5 M = some R) : V E G 37 [some (.ref 59), some (.int x1), some (.int x2), none, some (.int x4), some (.int x5)] [] M := by
  unfold f_X7_judge_b37 at h
  refine v_iload_5 hG dX7_judge_37 (q := 39) rfl ?_
  refine v_if_eq hG dX7_judge_39 (tgt := 103) rfl (q := 42) rfl (fun hc => ?_) (fun hc => ?_)
  · replace h := ifp hc h
    refine v_iload_5 hG dX7_judge_103 (q := 105) rfl ?_
    refine v_if_eq hG dX7_judge_105 (tgt := 112) rfl (q := 108) rfl (fun hc => ?_) (fun hc => ?_)
    · replace h := ifp hc h
      refine v_iconst hG ci_1 dX7_judge_112 (q := 113) rfl ?_
      refine v_iload_4 hG dX7_judge_113 (q := 115) rfl ?_
      refine v_iadd hG dX7_judge_115 (q := 116) rfl ?_
      exact v_iret hG hR rfl rfl (sp2t h) dX7_judge_116
    · replace h := ifn hc h
      refine v_iconst hG ci_0 dX7_judge_108 (q := 109) rfl ?_
      refine v_goto hG dX7_judge_109 (tgt := 116) rfl ?_
      exact v_iret hG hR rfl rfl (sp2t h) dX7_judge_116
  · replace h := ifn hc h
    refine v_iload_4 hG dX7_judge_42 (q := 44) rfl ?_
    refine v_aload_0 hG dX7_judge_44 (q := 45) rfl ?_
    refine gt_RX7_31 hG rfl kk_59 dX7_judge_45 (q := 48) rfl ?_
    refine v_iload_1 hG dX7_judge_48 (q := 49) rfl ?_
    obtain ⟨c_5, h⟩ := ck_some h
    refine v_iald hG kk_67 rfl c_5 dX7_judge_49 (q := 50) rfl ?_
    refine v_icmp_ge hG dX7_judge_50 (tgt := 103) rfl (q := 53) rfl (fun hc => ?_) (fun hc => ?_)
    · replace h := ifp hc h
      refine v_iload_5 hG dX7_judge_103 (q := 105) rfl ?_
      refine v_if_eq hG dX7_judge_105 (tgt := 112) rfl (q := 108) rfl (fun hc => ?_) (fun hc => ?_)
      · replace h := ifp hc h
        refine v_iconst hG ci_1 dX7_judge_112 (q := 113) rfl ?_
        refine v_iload_4 hG dX7_judge_113 (q := 115) rfl ?_
        refine v_iadd hG dX7_judge_115 (q := 116) rfl ?_
        exact v_iret hG hR rfl rfl (sp2t h) dX7_judge_116
      · replace h := ifn hc h
        refine v_iconst hG ci_0 dX7_judge_108 (q := 109) rfl ?_
        refine v_goto hG dX7_judge_109 (tgt := 116) rfl ?_
        exact v_iret hG hR rfl rfl (sp2t h) dX7_judge_116
    · replace h := ifn hc h
      refine v_aload_0 hG dX7_judge_53 (q := 54) rfl ?_
      refine v_iload_2 hG dX7_judge_54 (q := 55) rfl ?_
      refine v_aload_0 hG dX7_judge_55 (q := 56) rfl ?_
      refine gt_RX7_34 hG rfl kk_59 dX7_judge_56 (q := 59) rfl ?_
      refine v_bipush hG cb_40 dX7_judge_59 (q := 61) rfl ?_
      refine v_iload_1 hG dX7_judge_61 (q := 62) rfl ?_
      refine v_imul hG dX7_judge_62 (q := 63) rfl ?_
      refine v_iload_4 hG dX7_judge_63 (q := 65) rfl ?_
      refine v_iadd hG dX7_judge_65 (q := 66) rfl ?_
      obtain ⟨c_6, h⟩ := ck_some h
      refine v_iald hG kk_68 rfl c_6 dX7_judge_66 (q := 67) rfl ?_
      refine v_iconst hG ci_0 dX7_judge_67 (q := 68) rfl ?_
      obtain ⟨r_7, hr_7, h⟩ := bnd h
      refine v_cV3V hG cvX7_findSaid ml_RX7_214 rfl kk_59 (w_X7_findSaid hr_7) (Nat.le_of_ble_eq_true rfl) dX7_judge_68 (q := 71) rfl ?_
      refine v_aload_0 hG dX7_judge_71 (q := 72) rfl ?_
      refine gt_RX7_199 hG rfl kk_59 dX7_judge_72 (q := 75) rfl ?_
      refine v_if_le hG dX7_judge_75 (tgt := 82) rfl (q := 78) rfl (fun hc => ?_) (fun hc => ?_)
      · replace h := ifp hc h
        refine v_iconst hG ci_0 dX7_judge_82 (q := 83) rfl ?_
        refine v_drop (n := 5) (L' := [some (.ref 59), some (.int x1), some (.int x2), none, some (.int x4), none]) rfl ?_
        exact w_X7_judge_j83 hG hR hk37 h
      · replace h := ifn hc h
        refine v_iconst hG ci_1 dX7_judge_78 (q := 79) rfl ?_
        refine v_goto hG dX7_judge_79 (tgt := 83) rfl ?_
        refine v_drop (n := 5) (L' := [some (.ref 59), some (.int x1), some (.int x2), none, some (.int x4), none]) rfl ?_
        exact w_X7_judge_j83 hG hR hk37 h
theorem w_X7_judge_l37 {E : EB} {G : GB} (hG : Gd E mX7_judge G) {R : Int32 × Mem} (hR : Rt E mX7_judge (PI R.1 R.2) G) : ∀ (n : Nat) (x1 : Int32) (x2 : Int32) (x4 : Int32) (x5 : Int32) (M : Mem), f_X7_judge_l37 n x1 x2 x4 x5 M = some R → V E G 37 [some (.ref 59), some (.int x1), some (.int x2), none, some (.int x4), some (.int x5)] [] M := by
  intro n
  induction n with
  | zero => intro x1 x2 x4 x5 M h; cases h
  | succ n ih => intro x1 x2 x4 x5 M h; exact w_X7_judge_b37 hG hR ih h
theorem w_X7_judge {E : EB} {x1 : Int32} {x2 : Int32} {M : Mem} {R : Int32 × Mem} (h : f_X7_judge x1 x2 M = some R) : Mt E mX7_judge [.ref 59, .int x1, .int x2] M (PI R.1 R.2) := by
  refine mt_of (L0 := [some (.ref 59), some (.int x1), some (.int x2), none, none, none]) (by decide) rfl rfl (fun G hG hR => ?_)
  unfold f_X7_judge at h
  refine v_aload_0 hG dX7_judge_0 (q := 1) rfl ?_
  refine v_iload_1 hG dX7_judge_1 (q := 2) rfl ?_
  obtain ⟨r_1, hr_1, h⟩ := bnd h
  refine v_cV1I hG cvX7_wrong ml_RX7_352 rfl kk_59 (w_X7_wrong hr_1) (Nat.le_of_ble_eq_true rfl) dX7_judge_2 (q := 5) rfl ?_
  refine v_istore_3 hG rfl dX7_judge_5 (q := 6) rfl ?_
  refine v_iload_3 hG dX7_judge_6 (q := 7) rfl ?_
  refine v_if_eq hG dX7_judge_7 (tgt := 16) rfl (q := 10) rfl (fun hc => ?_) (fun hc => ?_)
  · replace h := ifp hc h
    refine v_aload_0 hG dX7_judge_16 (q := 17) rfl ?_
    refine v_iload_2 hG dX7_judge_17 (q := 18) rfl ?_
    obtain ⟨r_2, hr_2, h⟩ := bnd h
    refine v_cV1I hG cvX7_isWriter ml_RX7_76 rfl kk_59 (w_X7_isWriter hr_2) (Nat.le_of_ble_eq_true rfl) dX7_judge_18 (q := 21) rfl ?_
    refine v_if_ne hG dX7_judge_21 (tgt := 31) rfl (q := 24) rfl (fun hc => ?_) (fun hc => ?_)
    · replace h := ifn hc h
      refine v_iconst hG ci_0 dX7_judge_31 (q := 32) rfl ?_
      refine v_istore_4 hG rfl dX7_judge_32 (q := 34) rfl ?_
      refine v_iconst hG ci_1 dX7_judge_34 (q := 35) rfl ?_
      refine v_istore_5 hG rfl dX7_judge_35 (q := 37) rfl ?_
      refine v_drop (n := 3) (L' := [some (.ref 59), some (.int x1), some (.int x2), none, some (.int (0 : Int32)), some (.int (1 : Int32))]) rfl ?_
      exact w_X7_judge_l37 hG hR FU _ _ _ _ _ h
    · replace h := ifp hc h
      refine v_aload_0 hG dX7_judge_24 (q := 25) rfl ?_
      refine v_ldc hG kc_RX7_40 dX7_judge_25 (q := 27) rfl ?_
      obtain ⟨r_3, hr_3, h⟩ := bnd h
      refine v_cV1I hG cvX7_finds ml_RX7_68 rfl kk_59 (w_X7_finds hr_3) (Nat.le_of_ble_eq_true rfl) dX7_judge_27 (q := 30) rfl ?_
      exact v_iret hG hR rfl rfl (sp2t h) dX7_judge_30
  · replace h := ifn hc h
    refine v_aload_0 hG dX7_judge_10 (q := 11) rfl ?_
    refine v_iload_3 hG dX7_judge_11 (q := 12) rfl ?_
    obtain ⟨r_4, hr_4, h⟩ := bnd h
    refine v_cV1I hG cvX7_finds ml_RX7_68 rfl kk_59 (w_X7_finds hr_4) (Nat.le_of_ble_eq_true rfl) dX7_judge_12 (q := 15) rfl ?_
    exact v_iret hG hR rfl rfl (sp2t h) dX7_judge_15
theorem cvX7_judge : CVo mX7_judge 2 7 := ⟨moX7_judge, mvX7_judge, by decide, _, _, rfl⟩
theorem w_X7_image_b2 {E : EB} {G : GB} (hG : Gd E mX7_image G) {M : Mem} {R : Int32 × Mem} (hR : Rt E mX7_image (PI R.1 R.2) G) {k2 : Int32 → Mem → Option (Int32 × Mem)} (hk2 : ∀ (x1 : Int32) (M : Mem), k2 x1 M = some R → V E G 2 [some (.ref 59), some (.int x1)] [] M) {x1 : Int32} (h : f_X7_image_b2 k2 x1 M = some R) : V E G 2 [some (.ref 59), some (.int x1)] [] M := by
  unfold f_X7_image_b2 at h
  refine v_iload_1 hG dX7_image_2 (q := 3) rfl ?_
  refine v_bipush hG cb_99 dX7_image_3 (q := 5) rfl ?_
  refine v_icmp_ge hG dX7_image_5 (tgt := 26) rfl (q := 8) rfl (fun hc => ?_) (fun hc => ?_)
  · replace h := ifp hc h
    refine v_aload_0 hG dX7_image_26 (q := 27) rfl ?_
    refine v_iconst hG ci_1 dX7_image_27 (q := 28) rfl ?_
    refine pt_RX7_358 hG rfl kk_59 (Or.inr rfl) dX7_image_28 (q := 31) rfl ?_
    refine v_topM (fun M_1 hy => ?_)
    replace h := letv_at hy h
    clear hy
    refine v_iconst hG ci_1 dX7_image_31 (q := 32) rfl ?_
    exact v_iret hG hR rfl rfl (sp2t h) dX7_image_32
  · replace h := ifn hc h
    refine v_aload_0 hG dX7_image_8 (q := 9) rfl ?_
    refine gt_RX7_13 hG rfl kk_59 dX7_image_9 (q := 12) rfl ?_
    refine v_iload_1 hG dX7_image_12 (q := 13) rfl ?_
    refine v_aload_0 hG dX7_image_13 (q := 14) rfl ?_
    refine gt_RX7_7 hG rfl kk_59 dX7_image_14 (q := 17) rfl ?_
    refine v_iload_1 hG dX7_image_17 (q := 18) rfl ?_
    obtain ⟨c_2, h⟩ := ck_some h
    refine v_iald hG kk_60 rfl c_2 dX7_image_18 (q := 19) rfl ?_
    obtain ⟨c_3, h⟩ := ck_some h
    refine v_iast hG kk_61 rfl c_3 dX7_image_19 (q := 20) rfl ?_
    refine v_topM (fun M_4 hy => ?_)
    replace h := letv_at hy h
    clear hy
    refine v_iinc_1 hG rfl dX7_image_20 (congrArg _ ci_1) (q := 23) rfl ?_
    refine v_goto hG dX7_image_23 (tgt := 2) rfl ?_
    exact hk2 _ _ h
theorem w_X7_image_l2 {E : EB} {G : GB} (hG : Gd E mX7_image G) {R : Int32 × Mem} (hR : Rt E mX7_image (PI R.1 R.2) G) : ∀ (n : Nat) (x1 : Int32) (M : Mem), f_X7_image_l2 n x1 M = some R → V E G 2 [some (.ref 59), some (.int x1)] [] M := by
  intro n
  induction n with
  | zero => intro x1 M h; cases h
  | succ n ih => intro x1 M h; exact w_X7_image_b2 hG hR ih h
theorem w_X7_image {E : EB} {M : Mem} {R : Int32 × Mem} (h : f_X7_image M = some R) : Mt E mX7_image [.ref 59] M (PI R.1 R.2) := by
  refine mt_of (L0 := [some (.ref 59), none]) (by decide) rfl rfl (fun G hG hR => ?_)
  unfold f_X7_image at h
  refine v_iconst hG ci_0 dX7_image_0 (q := 1) rfl ?_
  refine v_istore_1 hG rfl dX7_image_1 (q := 2) rfl ?_
  exact w_X7_image_l2 hG hR FU _ _ h
theorem cvX7_image : CVo mX7_image 0 7 := ⟨moX7_image, mvX7_image, by decide, _, _, rfl⟩
theorem w_X7_undo_b16 {E : EB} {G : GB} (hG : Gd E mX7_undo G) {M : Mem} {R : Int32 × Mem} (hR : Rt E mX7_undo (PI R.1 R.2) G) {k16 : Int32 → Mem → Option (Int32 × Mem)} (hk16 : ∀ (x1 : Int32) (M : Mem), k16 x1 M = some R → V E G 16 [some (.ref 59), some (.int x1)] [] M) {x1 : Int32} (h : f_X7_undo_b16 k16 x1 M = some R) : V E G 16 [some (.ref 59), some (.int x1)] [] M := by
  unfold f_X7_undo_b16 at h
  refine v_iload_1 hG dX7_undo_16 (q := 17) rfl ?_
  refine v_bipush hG cb_99 dX7_undo_17 (q := 19) rfl ?_
  refine v_icmp_ge hG dX7_undo_19 (tgt := 40) rfl (q := 22) rfl (fun hc => ?_) (fun hc => ?_)
  · replace h := ifp hc h
    refine v_aload_0 hG dX7_undo_40 (q := 41) rfl ?_
    refine gt_RX7_7 hG rfl kk_59 dX7_undo_41 (q := 44) rfl ?_
    refine v_iconst hG ci_3 dX7_undo_44 (q := 45) rfl ?_
    obtain ⟨c_2, h⟩ := ck_some h
    refine v_iald hG kk_60 rfl c_2 dX7_undo_45 (q := 46) rfl ?_
    exact v_iret hG hR rfl rfl (sp2t h) dX7_undo_46
  · replace h := ifn hc h
    refine v_aload_0 hG dX7_undo_22 (q := 23) rfl ?_
    refine gt_RX7_7 hG rfl kk_59 dX7_undo_23 (q := 26) rfl ?_
    refine v_iload_1 hG dX7_undo_26 (q := 27) rfl ?_
    refine v_aload_0 hG dX7_undo_27 (q := 28) rfl ?_
    refine gt_RX7_13 hG rfl kk_59 dX7_undo_28 (q := 31) rfl ?_
    refine v_iload_1 hG dX7_undo_31 (q := 32) rfl ?_
    obtain ⟨c_3, h⟩ := ck_some h
    refine v_iald hG kk_61 rfl c_3 dX7_undo_32 (q := 33) rfl ?_
    obtain ⟨c_4, h⟩ := ck_some h
    refine v_iast hG kk_60 rfl c_4 dX7_undo_33 (q := 34) rfl ?_
    refine v_topM (fun M_5 hy => ?_)
    replace h := letv_at hy h
    clear hy
    refine v_iinc_1 hG rfl dX7_undo_34 (congrArg _ ci_1) (q := 37) rfl ?_
    refine v_goto hG dX7_undo_37 (tgt := 16) rfl ?_
    exact hk16 _ _ h
theorem w_X7_undo_l16 {E : EB} {G : GB} (hG : Gd E mX7_undo G) {R : Int32 × Mem} (hR : Rt E mX7_undo (PI R.1 R.2) G) : ∀ (n : Nat) (x1 : Int32) (M : Mem), f_X7_undo_l16 n x1 M = some R → V E G 16 [some (.ref 59), some (.int x1)] [] M := by
  intro n
  induction n with
  | zero => intro x1 M h; cases h
  | succ n ih => intro x1 M h; exact w_X7_undo_b16 hG hR ih h
theorem w_X7_undo {E : EB} {M : Mem} {R : Int32 × Mem} (h : f_X7_undo M = some R) : Mt E mX7_undo [.ref 59] M (PI R.1 R.2) := by
  refine mt_of (L0 := [some (.ref 59), none]) (by decide) rfl rfl (fun G hG hR => ?_)
  unfold f_X7_undo at h
  refine v_aload_0 hG dX7_undo_0 (q := 1) rfl ?_
  refine gt_RX7_358 hG rfl kk_59 dX7_undo_1 (q := 4) rfl ?_
  refine v_if_ne hG dX7_undo_4 (tgt := 14) rfl (q := 7) rfl (fun hc => ?_) (fun hc => ?_)
  · replace h := ifn hc h
    refine v_iconst hG ci_0 dX7_undo_14 (q := 15) rfl ?_
    refine v_istore_1 hG rfl dX7_undo_15 (q := 16) rfl ?_
    exact w_X7_undo_l16 hG hR FU _ _ h
  · replace h := ifp hc h
    refine v_aload_0 hG dX7_undo_7 (q := 8) rfl ?_
    refine v_ldc hG kc_RX7_195 dX7_undo_8 (q := 10) rfl ?_
    obtain ⟨r_1, hr_1, h⟩ := bnd h
    refine v_cV1I hG cvX7_finds ml_RX7_68 rfl kk_59 (w_X7_finds hr_1) (Nat.le_of_ble_eq_true rfl) dX7_undo_10 (q := 13) rfl ?_
    exact v_iret hG hR rfl rfl (sp2t h) dX7_undo_13
theorem cvX7_undo : CVo mX7_undo 0 7 := ⟨moX7_undo, mvX7_undo, by decide, _, _, rfl⟩
theorem w_X7_tear {E : EB} {M : Mem} {R : Int32 × Mem} (h : f_X7_tear M = some R) : Mt E mX7_tear [.ref 59] M (PI R.1 R.2) := by
  refine mt_of (L0 := [some (.ref 59), none]) (by decide) rfl rfl (fun G hG hR => ?_)
  unfold f_X7_tear at h
  refine v_aload_0 hG dX7_tear_0 (q := 1) rfl ?_
  refine gt_RX7_358 hG rfl kk_59 dX7_tear_1 (q := 4) rfl ?_
  refine v_if_eq hG dX7_tear_4 (tgt := 11) rfl (q := 7) rfl (fun hc => ?_) (fun hc => ?_)
  · replace h := ifp hc h
    refine v_iconst hG ci_0 dX7_tear_11 (q := 12) rfl ?_
    refine v_istore_1 hG rfl dX7_tear_12 (q := 13) rfl ?_
    refine v_aload_0 hG dX7_tear_13 (q := 14) rfl ?_
    refine v_iconst hG ci_0 dX7_tear_14 (q := 15) rfl ?_
    refine pt_RX7_358 hG rfl kk_59 (Or.inl rfl) dX7_tear_15 (q := 18) rfl ?_
    refine v_topM (fun M_1 hy => ?_)
    replace h := letv_at hy h
    clear hy
    refine v_iload_1 hG dX7_tear_18 (q := 19) rfl ?_
    exact v_iret hG hR rfl rfl (sp2t h) dX7_tear_19
  · replace h := ifn hc h
    refine v_iconst hG ci_1 dX7_tear_7 (q := 8) rfl ?_
    refine v_goto hG dX7_tear_8 (tgt := 12) rfl ?_
    refine v_istore_1 hG rfl dX7_tear_12 (q := 13) rfl ?_
    refine v_aload_0 hG dX7_tear_13 (q := 14) rfl ?_
    refine v_iconst hG ci_0 dX7_tear_14 (q := 15) rfl ?_
    refine pt_RX7_358 hG rfl kk_59 (Or.inl rfl) dX7_tear_15 (q := 18) rfl ?_
    refine v_topM (fun M_2 hy => ?_)
    replace h := letv_at hy h
    clear hy
    refine v_iload_1 hG dX7_tear_18 (q := 19) rfl ?_
    exact v_iret hG hR rfl rfl (sp2t h) dX7_tear_19
theorem cvX7_tear : CVo mX7_tear 0 7 := ⟨moX7_tear, mvX7_tear, by decide, _, _, rfl⟩
theorem w_X7_held_b4 {E : EB} {G : GB} (hG : Gd E mX7_held G) {M : Mem} {R : Int32} (hR : Rt E mX7_held (PI R M) G) {k4 : Int32 → Int32 → Mem → Option (Int32)} (hk4 : ∀ (x1 : Int32) (x2 : Int32) (M' : Mem), k4 x1 x2 M' = some R → M' = M → V E G 4 [some (.ref 59), some (.int x1), some (.int x2)] [] M') {x1 : Int32} {x2 : Int32} (h : f_X7_held_b4 k4 x1 x2 M = some R) : V E G 4 [some (.ref 59), some (.int x1), some (.int x2)] [] M := by
  unfold f_X7_held_b4 at h
  refine v_iload_2 hG dX7_held_4 (q := 5) rfl ?_
  refine v_bipush hG cb_10 dX7_held_5 (q := 7) rfl ?_
  refine v_icmp_ge hG dX7_held_7 (tgt := 36) rfl (q := 10) rfl (fun hc => ?_) (fun hc => ?_)
  · replace h := ifp hc h
    refine v_iload_1 hG dX7_held_36 (q := 37) rfl ?_
    exact v_iret hG hR rfl rfl (sp1 h) dX7_held_37
  · replace h := ifn hc h
    refine v_iload_1 hG dX7_held_10 (q := 11) rfl ?_
    refine v_aload_0 hG dX7_held_11 (q := 12) rfl ?_
    refine gt_RX7_7 hG rfl kk_59 dX7_held_12 (q := 15) rfl ?_
    refine v_bipush hG cb_89 dX7_held_15 (q := 17) rfl ?_
    refine v_iload_2 hG dX7_held_17 (q := 18) rfl ?_
    refine v_iadd hG dX7_held_18 (q := 19) rfl ?_
    obtain ⟨c_1, h⟩ := ck_some h
    refine v_iald hG kk_60 rfl c_1 dX7_held_19 (q := 20) rfl ?_
    refine v_if_ge hG dX7_held_20 (tgt := 27) rfl (q := 23) rfl (fun hc => ?_) (fun hc => ?_)
    · replace h := ifp hc h
      refine v_iconst hG ci_1 dX7_held_27 (q := 28) rfl ?_
      refine v_iadd hG dX7_held_28 (q := 29) rfl ?_
      refine v_topi (fun x1_2 hy => ?_)
      replace h := letv_at hy h
      clear hy
      refine v_istore_1 hG rfl dX7_held_29 (q := 30) rfl ?_
      refine v_iinc_2 hG rfl dX7_held_30 (congrArg _ ci_1) (q := 33) rfl ?_
      refine v_goto hG dX7_held_33 (tgt := 4) rfl ?_
      exact hk4 _ _ _ h rfl
    · replace h := ifn hc h
      refine v_iconst hG ci_0 dX7_held_23 (q := 24) rfl ?_
      refine v_goto hG dX7_held_24 (tgt := 28) rfl ?_
      refine v_iadd hG dX7_held_28 (q := 29) rfl ?_
      refine v_topi (fun x1_3 hy => ?_)
      replace h := letv_at hy h
      clear hy
      refine v_istore_1 hG rfl dX7_held_29 (q := 30) rfl ?_
      refine v_iinc_2 hG rfl dX7_held_30 (congrArg _ ci_1) (q := 33) rfl ?_
      refine v_goto hG dX7_held_33 (tgt := 4) rfl ?_
      exact hk4 _ _ _ h rfl
theorem w_X7_held_l4 {E : EB} {G : GB} (hG : Gd E mX7_held G) {M : Mem} {R : Int32} (hR : Rt E mX7_held (PI R M) G) : ∀ (n : Nat) (x1 : Int32) (x2 : Int32) (M' : Mem), f_X7_held_l4 n x1 x2 M' = some R → M' = M → V E G 4 [some (.ref 59), some (.int x1), some (.int x2)] [] M' := by
  intro n
  induction n with
  | zero => intro x1 x2 M' h; cases h
  | succ n ih => intro x1 x2 M' h e; subst e; exact w_X7_held_b4 hG hR ih h
theorem w_X7_held {E : EB} {M : Mem} {R : Int32} (h : f_X7_held M = some R) : Mt E mX7_held [.ref 59] M (PI R M) := by
  refine mt_of (L0 := [some (.ref 59), none, none]) (by decide) rfl rfl (fun G hG hR => ?_)
  unfold f_X7_held at h
  refine v_iconst hG ci_0 dX7_held_0 (q := 1) rfl ?_
  refine v_istore_1 hG rfl dX7_held_1 (q := 2) rfl ?_
  refine v_iconst hG ci_0 dX7_held_2 (q := 3) rfl ?_
  refine v_istore_2 hG rfl dX7_held_3 (q := 4) rfl ?_
  exact w_X7_held_l4 hG hR FU _ _ _ h rfl
theorem cvX7_held : CVo mX7_held 0 7 := ⟨moX7_held, mvX7_held, by decide, _, _, rfl⟩
theorem w_X7_counted_b4 {E : EB} {G : GB} (hG : Gd E mX7_counted G) {M : Mem} {R : Int32} (hR : Rt E mX7_counted (PI R M) G) {k4 : Int32 → Int32 → Int32 → Mem → Option (Int32)} (hk4 : ∀ (x1 : Int32) (x2 : Int32) (x3 : Int32) (M' : Mem), k4 x1 x2 x3 M' = some R → M' = M → V E G 4 [some (.ref 59), some (.int x1), some (.int x2), some (.int x3)] [] M') {x1 : Int32} {x2 : Int32} {x3 : Int32} (h : f_X7_counted_b4 k4 x1 x2 x3 M = some R) : V E G 4 [some (.ref 59), some (.int x1), some (.int x2), some (.int x3)] [] M := by
  unfold f_X7_counted_b4 at h
  refine v_iload_3 hG dX7_counted_4 (q := 5) rfl ?_
  refine v_aload_0 hG dX7_counted_5 (q := 6) rfl ?_
  refine gt_RX7_7 hG rfl kk_59 dX7_counted_6 (q := 9) rfl ?_
  refine v_iconst hG ci_1 dX7_counted_9 (q := 10) rfl ?_
  obtain ⟨c_1, h⟩ := ck_some h
  refine v_iald hG kk_60 rfl c_1 dX7_counted_10 (q := 11) rfl ?_
  refine v_icmp_ge hG dX7_counted_11 (tgt := 44) rfl (q := 14) rfl (fun hc => ?_) (fun hc => ?_)
  · replace h := ifp hc h
    refine v_iload_2 hG dX7_counted_44 (q := 45) rfl ?_
    exact v_iret hG hR rfl rfl (sp1 h) dX7_counted_45
  · replace h := ifn hc h
    refine v_iload_2 hG dX7_counted_14 (q := 15) rfl ?_
    refine v_iload_1 hG dX7_counted_15 (q := 16) rfl ?_
    refine v_if_eq hG dX7_counted_16 (tgt := 28) rfl (q := 19) rfl (fun hc => ?_) (fun hc => ?_)
    · replace h := ifp hc h
      refine v_aload_0 hG dX7_counted_28 (q := 29) rfl ?_
      refine v_iload_3 hG dX7_counted_29 (q := 30) rfl ?_
      obtain ⟨r_2, hr_2, h⟩ := bnd h
      refine v_cV1I hG cvX7_lies ml_RX7_99 rfl kk_59 (w_X7_lies hr_2) (Nat.le_of_ble_eq_true rfl) dX7_counted_30 (q := 33) rfl ?_
      obtain ⟨r_3, hr_3, h⟩ := bnd h
      refine v_cS1I hG csX7_ones ml_RX7_162 rfl (w_X7_ones hr_3) (Nat.le_of_ble_eq_true rfl) dX7_counted_33 (q := 36) rfl ?_
      refine v_iadd hG dX7_counted_36 (q := 37) rfl ?_
      refine v_topi (fun x2_4 hy => ?_)
      replace h := letv_at hy h
      clear hy
      refine v_istore_2 hG rfl dX7_counted_37 (q := 38) rfl ?_
      refine v_iinc_3 hG rfl dX7_counted_38 (congrArg _ ci_1) (q := 41) rfl ?_
      refine v_goto hG dX7_counted_41 (tgt := 4) rfl ?_
      exact hk4 _ _ _ _ h rfl
    · replace h := ifn hc h
      refine v_aload_0 hG dX7_counted_19 (q := 20) rfl ?_
      refine v_iload_3 hG dX7_counted_20 (q := 21) rfl ?_
      refine v_iconst hG ci_4 dX7_counted_21 (q := 22) rfl ?_
      obtain ⟨r_5, hr_5, h⟩ := bnd h
      refine v_cV2I hG cvX7_told ml_RX7_90 rfl kk_59 (w_X7_told hr_5) (Nat.le_of_ble_eq_true rfl) dX7_counted_22 (q := 25) rfl ?_
      refine v_goto hG dX7_counted_25 (tgt := 36) rfl ?_
      refine v_iadd hG dX7_counted_36 (q := 37) rfl ?_
      refine v_topi (fun x2_6 hy => ?_)
      replace h := letv_at hy h
      clear hy
      refine v_istore_2 hG rfl dX7_counted_37 (q := 38) rfl ?_
      refine v_iinc_3 hG rfl dX7_counted_38 (congrArg _ ci_1) (q := 41) rfl ?_
      refine v_goto hG dX7_counted_41 (tgt := 4) rfl ?_
      exact hk4 _ _ _ _ h rfl
theorem w_X7_counted_l4 {E : EB} {G : GB} (hG : Gd E mX7_counted G) {M : Mem} {R : Int32} (hR : Rt E mX7_counted (PI R M) G) : ∀ (n : Nat) (x1 : Int32) (x2 : Int32) (x3 : Int32) (M' : Mem), f_X7_counted_l4 n x1 x2 x3 M' = some R → M' = M → V E G 4 [some (.ref 59), some (.int x1), some (.int x2), some (.int x3)] [] M' := by
  intro n
  induction n with
  | zero => intro x1 x2 x3 M' h; cases h
  | succ n ih => intro x1 x2 x3 M' h e; subst e; exact w_X7_counted_b4 hG hR ih h
theorem w_X7_counted {E : EB} {x1 : Int32} {M : Mem} {R : Int32} (h : f_X7_counted x1 M = some R) : Mt E mX7_counted [.ref 59, .int x1] M (PI R M) := by
  refine mt_of (L0 := [some (.ref 59), some (.int x1), none, none]) (by decide) rfl rfl (fun G hG hR => ?_)
  unfold f_X7_counted at h
  refine v_iconst hG ci_0 dX7_counted_0 (q := 1) rfl ?_
  refine v_istore_2 hG rfl dX7_counted_1 (q := 2) rfl ?_
  refine v_iconst hG ci_0 dX7_counted_2 (q := 3) rfl ?_
  refine v_istore_3 hG rfl dX7_counted_3 (q := 4) rfl ?_
  exact w_X7_counted_l4 hG hR FU _ _ _ _ h rfl
theorem cvX7_counted : CVo mX7_counted 1 7 := ⟨moX7_counted, mvX7_counted, by decide, _, _, rfl⟩
theorem w_X7_purses_b4 {E : EB} {G : GB} (hG : Gd E mX7_purses G) {M : Mem} {R : Int32} (hR : Rt E mX7_purses (PI R M) G) {k4 : Int32 → Int32 → Mem → Option (Int32)} (hk4 : ∀ (x1 : Int32) (x2 : Int32) (M' : Mem), k4 x1 x2 M' = some R → M' = M → V E G 4 [some (.ref 59), some (.int x1), some (.int x2)] [] M') {x1 : Int32} {x2 : Int32} (h : f_X7_purses_b4 k4 x1 x2 M = some R) : V E G 4 [some (.ref 59), some (.int x1), some (.int x2)] [] M := by
  unfold f_X7_purses_b4 at h
  refine v_iload_2 hG dX7_purses_4 (q := 5) rfl ?_
  refine v_aload_0 hG dX7_purses_5 (q := 6) rfl ?_
  refine gt_RX7_7 hG rfl kk_59 dX7_purses_6 (q := 9) rfl ?_
  refine v_iconst hG ci_0 dX7_purses_9 (q := 10) rfl ?_
  obtain ⟨c_1, h⟩ := ck_some h
  refine v_iald hG kk_60 rfl c_1 dX7_purses_10 (q := 11) rfl ?_
  refine v_icmp_ge hG dX7_purses_11 (tgt := 29) rfl (q := 14) rfl (fun hc => ?_) (fun hc => ?_)
  · replace h := ifp hc h
    refine v_iload_1 hG dX7_purses_29 (q := 30) rfl ?_
    exact v_iret hG hR rfl rfl (sp1 h) dX7_purses_30
  · replace h := ifn hc h
    refine v_iload_1 hG dX7_purses_14 (q := 15) rfl ?_
    refine v_aload_0 hG dX7_purses_15 (q := 16) rfl ?_
    refine v_iload_2 hG dX7_purses_16 (q := 17) rfl ?_
    refine v_iconst hG ci_5 dX7_purses_17 (q := 18) rfl ?_
    obtain ⟨r_2, hr_2, h⟩ := bnd h
    refine v_cV2I hG cvX7_its ml_RX7_81 rfl kk_59 (w_X7_its hr_2) (Nat.le_of_ble_eq_true rfl) dX7_purses_18 (q := 21) rfl ?_
    refine v_iadd hG dX7_purses_21 (q := 22) rfl ?_
    refine v_topi (fun x1_3 hy => ?_)
    replace h := letv_at hy h
    clear hy
    refine v_istore_1 hG rfl dX7_purses_22 (q := 23) rfl ?_
    refine v_iinc_2 hG rfl dX7_purses_23 (congrArg _ ci_1) (q := 26) rfl ?_
    refine v_goto hG dX7_purses_26 (tgt := 4) rfl ?_
    exact hk4 _ _ _ h rfl
theorem w_X7_purses_l4 {E : EB} {G : GB} (hG : Gd E mX7_purses G) {M : Mem} {R : Int32} (hR : Rt E mX7_purses (PI R M) G) : ∀ (n : Nat) (x1 : Int32) (x2 : Int32) (M' : Mem), f_X7_purses_l4 n x1 x2 M' = some R → M' = M → V E G 4 [some (.ref 59), some (.int x1), some (.int x2)] [] M' := by
  intro n
  induction n with
  | zero => intro x1 x2 M' h; cases h
  | succ n ih => intro x1 x2 M' h e; subst e; exact w_X7_purses_b4 hG hR ih h
theorem w_X7_purses {E : EB} {M : Mem} {R : Int32} (h : f_X7_purses M = some R) : Mt E mX7_purses [.ref 59] M (PI R M) := by
  refine mt_of (L0 := [some (.ref 59), none, none]) (by decide) rfl rfl (fun G hG hR => ?_)
  unfold f_X7_purses at h
  refine v_iconst hG ci_0 dX7_purses_0 (q := 1) rfl ?_
  refine v_istore_1 hG rfl dX7_purses_1 (q := 2) rfl ?_
  refine v_iconst hG ci_0 dX7_purses_2 (q := 3) rfl ?_
  refine v_istore_2 hG rfl dX7_purses_3 (q := 4) rfl ?_
  exact w_X7_purses_l4 hG hR FU _ _ _ h rfl
theorem cvX7_purses : CVo mX7_purses 0 7 := ⟨moX7_purses, mvX7_purses, by decide, _, _, rfl⟩
theorem w_X7_count {E : EB} {x1 : Int32} {M : Mem} {R : Int32 × Mem} (h : f_X7_count x1 M = some R) : Mt E mX7_count [.ref 59, .int x1] M (PI R.1 R.2) := by
  refine mt_of (L0 := [some (.ref 59), some (.int x1)]) (by decide) rfl rfl (fun G hG hR => ?_)
  unfold f_X7_count at h
  refine v_iload_1 hG dX7_count_0 (q := 1) rfl ?_
  by_cases e0 : x1 = (0 : Int32)
  · refine v_tabIn hG dX7_count_1 (tgt := 48) (by rw [e0]; decide) (by rw [e0]; decide) (by rw [e0]; rfl) rfl ?_
    replace h := ifp e0 h
    refine v_aload_0 hG dX7_count_48 (q := 49) rfl ?_
    refine gt_RX7_7 hG rfl kk_59 dX7_count_49 (q := 52) rfl ?_
    refine v_iconst hG ci_0 dX7_count_52 (q := 53) rfl ?_
    obtain ⟨c_1, h⟩ := ck_some h
    refine v_iald hG kk_60 rfl c_1 dX7_count_53 (q := 54) rfl ?_
    exact v_iret hG hR rfl rfl (sp2t h) dX7_count_54
  replace h := ifn e0 h
  by_cases e1 : x1 = (1 : Int32)
  · refine v_tabIn hG dX7_count_1 (tgt := 55) (by rw [e1]; decide) (by rw [e1]; decide) (by rw [e1]; rfl) rfl ?_
    replace h := ifp e1 h
    refine v_aload_0 hG dX7_count_55 (q := 56) rfl ?_
    refine gt_RX7_7 hG rfl kk_59 dX7_count_56 (q := 59) rfl ?_
    refine v_iconst hG ci_1 dX7_count_59 (q := 60) rfl ?_
    obtain ⟨c_2, h⟩ := ck_some h
    refine v_iald hG kk_60 rfl c_2 dX7_count_60 (q := 61) rfl ?_
    exact v_iret hG hR rfl rfl (sp2t h) dX7_count_61
  replace h := ifn e1 h
  by_cases e2 : x1 = (2 : Int32)
  · refine v_tabIn hG dX7_count_1 (tgt := 62) (by rw [e2]; decide) (by rw [e2]; decide) (by rw [e2]; rfl) rfl ?_
    replace h := ifp e2 h
    refine v_aload_0 hG dX7_count_62 (q := 63) rfl ?_
    refine v_iconst hG ci_1 dX7_count_63 (q := 64) rfl ?_
    obtain ⟨r_3, hr_3, h⟩ := bnd h
    refine v_cV1I hG cvX7_counted ml_RX7_361 rfl kk_59 (w_X7_counted hr_3) (Nat.le_of_ble_eq_true rfl) dX7_count_64 (q := 67) rfl ?_
    exact v_iret hG hR rfl rfl (sp2t h) dX7_count_67
  replace h := ifn e2 h
  by_cases e3 : x1 = (3 : Int32)
  · refine v_tabIn hG dX7_count_1 (tgt := 68) (by rw [e3]; decide) (by rw [e3]; decide) (by rw [e3]; rfl) rfl ?_
    replace h := ifp e3 h
    refine v_aload_0 hG dX7_count_68 (q := 69) rfl ?_
    obtain ⟨r_4, hr_4, h⟩ := bnd h
    refine v_cV0I hG cvX7_purses ml_RX7_364 rfl kk_59 (w_X7_purses hr_4) (Nat.le_of_ble_eq_true rfl) dX7_count_69 (q := 72) rfl ?_
    exact v_iret hG hR rfl rfl (sp2t h) dX7_count_72
  replace h := ifn e3 h
  by_cases e4 : x1 = (4 : Int32)
  · refine v_tabIn hG dX7_count_1 (tgt := 73) (by rw [e4]; decide) (by rw [e4]; decide) (by rw [e4]; rfl) rfl ?_
    replace h := ifp e4 h
    refine v_aload_0 hG dX7_count_73 (q := 74) rfl ?_
    refine v_iconst hG ci_0 dX7_count_74 (q := 75) rfl ?_
    obtain ⟨r_5, hr_5, h⟩ := bnd h
    refine v_cV1I hG cvX7_counted ml_RX7_361 rfl kk_59 (w_X7_counted hr_5) (Nat.le_of_ble_eq_true rfl) dX7_count_75 (q := 78) rfl ?_
    exact v_iret hG hR rfl rfl (sp2t h) dX7_count_78
  replace h := ifn e4 h
  by_cases e5 : x1 = (5 : Int32)
  · refine v_tabIn hG dX7_count_1 (tgt := 79) (by rw [e5]; decide) (by rw [e5]; decide) (by rw [e5]; rfl) rfl ?_
    replace h := ifp e5 h
    refine v_aload_0 hG dX7_count_79 (q := 80) rfl ?_
    refine gt_RX7_234 hG rfl kk_59 dX7_count_80 (q := 83) rfl ?_
    exact v_iret hG hR rfl rfl (sp2t h) dX7_count_83
  replace h := ifn e5 h
  by_cases e6 : x1 = (6 : Int32)
  · refine v_tabIn hG dX7_count_1 (tgt := 84) (by rw [e6]; decide) (by rw [e6]; decide) (by rw [e6]; rfl) rfl ?_
    replace h := ifp e6 h
    refine v_aload_0 hG dX7_count_84 (q := 85) rfl ?_
    refine gt_RX7_7 hG rfl kk_59 dX7_count_85 (q := 88) rfl ?_
    refine v_iconst hG ci_2 dX7_count_88 (q := 89) rfl ?_
    obtain ⟨c_6, h⟩ := ck_some h
    refine v_iald hG kk_60 rfl c_6 dX7_count_89 (q := 90) rfl ?_
    exact v_iret hG hR rfl rfl (sp2t h) dX7_count_90
  replace h := ifn e6 h
  by_cases e7 : x1 = (7 : Int32)
  · refine v_tabIn hG dX7_count_1 (tgt := 91) (by rw [e7]; decide) (by rw [e7]; decide) (by rw [e7]; rfl) rfl ?_
    replace h := ifp e7 h
    refine v_aload_0 hG dX7_count_91 (q := 92) rfl ?_
    obtain ⟨r_7, hr_7, h⟩ := bnd h
    refine v_cV0I hG cvX7_held ml_RX7_367 rfl kk_59 (w_X7_held hr_7) (Nat.le_of_ble_eq_true rfl) dX7_count_92 (q := 95) rfl ?_
    exact v_iret hG hR rfl rfl (sp2t h) dX7_count_95
  replace h := ifn e7 h
  have u0 := sw_ne (n := 0) e0
  have u1 := sw_ne (n := 1) e1
  have u2 := sw_ne (n := 2) e2
  have u3 := sw_ne (n := 3) e3
  have u4 := sw_ne (n := 4) e4
  have u5 := sw_ne (n := 5) e5
  have u6 := sw_ne (n := 6) e6
  have u7 := sw_ne (n := 7) e7
  refine v_tabOut hG dX7_count_1 (tgt := 96) (by omega) rfl ?_
  refine v_aload_0 hG dX7_count_96 (q := 97) rfl ?_
  refine v_ldc hG kc_RX7_40 dX7_count_97 (q := 99) rfl ?_
  obtain ⟨r_8, hr_8, h⟩ := bnd h
  refine v_cV1I hG cvX7_finds ml_RX7_68 rfl kk_59 (w_X7_finds hr_8) (Nat.le_of_ble_eq_true rfl) dX7_count_99 (q := 102) rfl ?_
  exact v_iret hG hR rfl rfl (sp2t h) dX7_count_102
theorem cvX7_count : CVo mX7_count 1 7 := ⟨moX7_count, mvX7_count, by decide, _, _, rfl⟩
theorem w_X7_status_b25 {E : EB} {G : GB} (hG : Gd E mX7_status G) {M : Mem} {R : Int32 × Mem} (hR : Rt E mX7_status (PI R.1 R.2) G) {k25 : Int32 → Int32 → Int32 → Mem → Option (Int32 × Mem)} (hk25 : ∀ (x1 : Int32) (x2 : Int32) (x3 : Int32) (M : Mem), k25 x1 x2 x3 M = some R → V E G 25 [some (.ref 59), some (.int x1), some (.int x2), some (.int x3)] [] M) {x1 : Int32} {x2 : Int32} {x3 : Int32} (h : f_X7_status_b25 k25 x1 x2 x3 M = some R) : V E G 25 [some (.ref 59), some (.int x1), some (.int x2), some (.int x3)] [] M := by
  unfold f_X7_status_b25 at h
  refine v_iload_3 hG dX7_status_25 (q := 26) rfl ?_
  refine v_bipush hG cb_7 dX7_status_26 (q := 28) rfl ?_
  refine v_icmp_ge hG dX7_status_28 (tgt := 59) rfl (q := 31) rfl (fun hc => ?_) (fun hc => ?_)
  · replace h := ifp hc h
    refine v_iload_2 hG dX7_status_59 (q := 60) rfl ?_
    exact v_iret hG hR rfl rfl (sp2t h) dX7_status_60
  · replace h := ifn hc h
    refine v_iload_2 hG dX7_status_31 (q := 32) rfl ?_
    refine v_iload_1 hG dX7_status_32 (q := 33) rfl ?_
    refine v_if_lt hG dX7_status_33 (tgt := 41) rfl (q := 36) rfl (fun hc => ?_) (fun hc => ?_)
    · replace h := ifp hc h
      refine v_aload_0 hG dX7_status_41 (q := 42) rfl ?_
      refine gt_RX7_19 hG rfl kk_59 dX7_status_42 (q := 45) rfl ?_
      refine v_iload_3 hG dX7_status_45 (q := 46) rfl ?_
      obtain ⟨c_3, h⟩ := ck_some h
      refine v_iald hG kk_63 rfl c_3 dX7_status_46 (q := 47) rfl ?_
      refine v_goto hG dX7_status_47 (tgt := 51) rfl ?_
      refine v_iadd hG dX7_status_51 (q := 52) rfl ?_
      refine v_topi (fun x2_4 hy => ?_)
      replace h := letv_at hy h
      clear hy
      refine v_istore_2 hG rfl dX7_status_52 (q := 53) rfl ?_
      refine v_iinc_3 hG rfl dX7_status_53 (congrArg _ ci_1) (q := 56) rfl ?_
      refine v_goto hG dX7_status_56 (tgt := 25) rfl ?_
      exact hk25 _ _ _ _ h
    · replace h := ifn hc h
      refine v_iload_3 hG dX7_status_36 (q := 37) rfl ?_
      refine v_iload_1 hG dX7_status_37 (q := 38) rfl ?_
      refine v_icmp_ne hG dX7_status_38 (tgt := 50) rfl (q := 41) rfl (fun hc => ?_) (fun hc => ?_)
      · replace h := ifn hc h
        refine v_iconst hG ci_0 dX7_status_50 (q := 51) rfl ?_
        refine v_iadd hG dX7_status_51 (q := 52) rfl ?_
        refine v_topi (fun x2_5 hy => ?_)
        replace h := letv_at hy h
        clear hy
        refine v_istore_2 hG rfl dX7_status_52 (q := 53) rfl ?_
        refine v_iinc_3 hG rfl dX7_status_53 (congrArg _ ci_1) (q := 56) rfl ?_
        refine v_goto hG dX7_status_56 (tgt := 25) rfl ?_
        exact hk25 _ _ _ _ h
      · replace h := ifp hc h
        refine v_aload_0 hG dX7_status_41 (q := 42) rfl ?_
        refine gt_RX7_19 hG rfl kk_59 dX7_status_42 (q := 45) rfl ?_
        refine v_iload_3 hG dX7_status_45 (q := 46) rfl ?_
        obtain ⟨c_6, h⟩ := ck_some h
        refine v_iald hG kk_63 rfl c_6 dX7_status_46 (q := 47) rfl ?_
        refine v_goto hG dX7_status_47 (tgt := 51) rfl ?_
        refine v_iadd hG dX7_status_51 (q := 52) rfl ?_
        refine v_topi (fun x2_7 hy => ?_)
        replace h := letv_at hy h
        clear hy
        refine v_istore_2 hG rfl dX7_status_52 (q := 53) rfl ?_
        refine v_iinc_3 hG rfl dX7_status_53 (congrArg _ ci_1) (q := 56) rfl ?_
        refine v_goto hG dX7_status_56 (tgt := 25) rfl ?_
        exact hk25 _ _ _ _ h
theorem w_X7_status_l25 {E : EB} {G : GB} (hG : Gd E mX7_status G) {R : Int32 × Mem} (hR : Rt E mX7_status (PI R.1 R.2) G) : ∀ (n : Nat) (x1 : Int32) (x2 : Int32) (x3 : Int32) (M : Mem), f_X7_status_l25 n x1 x2 x3 M = some R → V E G 25 [some (.ref 59), some (.int x1), some (.int x2), some (.int x3)] [] M := by
  intro n
  induction n with
  | zero => intro x1 x2 x3 M h; cases h
  | succ n ih => intro x1 x2 x3 M h; exact w_X7_status_b25 hG hR ih h
theorem w_X7_status {E : EB} {x1 : Int32} {M : Mem} {R : Int32 × Mem} (h : f_X7_status x1 M = some R) : Mt E mX7_status [.ref 59, .int x1] M (PI R.1 R.2) := by
  refine mt_of (L0 := [some (.ref 59), some (.int x1), none, none]) (by decide) rfl rfl (fun G hG hR => ?_)
  unfold f_X7_status at h
  refine v_iload_1 hG dX7_status_0 (q := 1) rfl ?_
  refine v_i2l hG dX7_status_1 (q := 2) rfl ?_
  refine v_ldc2 hG kl_RX7_370 dX7_status_2 (q := 5) rfl ?_
  refine v_ldc2 hG kl_RX7_54 dX7_status_5 (q := 8) rfl ?_
  obtain ⟨r_1, hr_1, h⟩ := bnd h
  refine v_cS3I hG csX7_in ml_RX7_43 rfl (w_X7_in hr_1) (Nat.le_of_ble_eq_true rfl) dX7_status_8 (q := 11) rfl ?_
  refine v_if_ne hG dX7_status_11 (tgt := 21) rfl (q := 14) rfl (fun hc => ?_) (fun hc => ?_)
  · replace h := ifn hc h
    refine v_iconst hG ci_0 dX7_status_21 (q := 22) rfl ?_
    refine v_istore_2 hG rfl dX7_status_22 (q := 23) rfl ?_
    refine v_iconst hG ci_0 dX7_status_23 (q := 24) rfl ?_
    refine v_istore_3 hG rfl dX7_status_24 (q := 25) rfl ?_
    exact w_X7_status_l25 hG hR FU _ _ _ _ h
  · replace h := ifp hc h
    refine v_aload_0 hG dX7_status_14 (q := 15) rfl ?_
    refine v_ldc hG kc_RX7_40 dX7_status_15 (q := 17) rfl ?_
    obtain ⟨r_2, hr_2, h⟩ := bnd h
    refine v_cV1I hG cvX7_finds ml_RX7_68 rfl kk_59 (w_X7_finds hr_2) (Nat.le_of_ble_eq_true rfl) dX7_status_17 (q := 20) rfl ?_
    exact v_iret hG hR rfl rfl (sp2t h) dX7_status_20
theorem cvX7_status : CVo mX7_status 1 7 := ⟨moX7_status, mvX7_status, by decide, _, _, rfl⟩

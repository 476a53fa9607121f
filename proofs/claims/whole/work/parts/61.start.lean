section START
theorem cl_L_7 : Cond.classLink RL 7 RX6 ∈ wT := wT1 17 (by rfl) (by rfl)
theorem cl_L_10 : Cond.classLink RL 10 RX7 ∈ wT := wT4 127 (by rfl) (by rfl)
def adE (f g adK adV : Nat → Nat) (u t b : Nat) : Nat → Nat := fun k => if k < 59 then f k else if k < 70 then g (k - 59) else if k < 130 then adK (k - 100) else if k < 300 then adV (k - 130) else if k < 400 then u else if k < 500 then t else b
def mkE (l : Launch) (dC : Nat → ClassId) (dI : Nat → Nat → Nat) (ad : Nat → Nat) (c0 : ClassId) : EB := (l, dC, dI, ad, fun _ => c0, 0, fun _ => 0)
theorem adE_K {f g adK adV : Nat → Nat} {u t b i : Nat} (h : i < 16) : adE f g adK adV u t b (100 + i) = adK i := by
  unfold adE
  rw [if_neg (by omega), if_neg (by omega), if_pos (by omega), show 100 + i - 100 = i by omega]
theorem adE_V {f g adK adV : Nat → Nat} {u t b i : Nat} (h : i < 16) : adE f g adK adV u t b (130 + i) = adV i := by
  unfold adE
  rw [if_neg (by omega), if_neg (by omega), if_neg (by omega), if_pos (by omega), show 130 + i - 130 = i by omega]
theorem vk_S_eq {N : Nat} {len : List Nat} {byt : List (List Int32)} {adK adV adK' adV' : Nat → Nat} {A : Nat → Prop} {U : State} {H : Heap} (h : vk_S N len byt adK adV A U H) (hK : ∀ i, i < N → adK' i = adK i) (hV : ∀ i, i < N → adV' i = adV i) : vk_S N len byt adK' adV' A U H := by
  refine ⟨fun i hi => ?_, fun i j hi hj e => ?_⟩
  · rw [hK i hi, hV i hi]; exact h.1 i hi
  · rw [hK i hi, hK j hj] at e; exact h.2 i j hi hj e
set_option maxRecDepth 100000 in
set_option maxHeartbeats 4000000 in
theorem cells_0 (l : Launch) (dC : Nat → ClassId) (dI : Nat → Nat → Nat) (f g adK adV : Nat → Nat) (u t b : Nat) (c0 : ClassId) : cells (mkE l dC dI (adE f g adK adV u t b) c0) M0i = mk6 c0 f ++ mk7 c0 g := by rfl
theorem strTab_lt : ∀ q ∈ strTab, q.2.2 < 16 := by decide
/-- behind the two constructors: the law's loop -/
theorem start_loop {p : Program} {e : Env} {s : State} {m : MethodId} {below : List Frame} {meth : Method} {c : Code} (l : Launch) {b L : Nat} {xs : Nat → Int32} (hL : L ≤ 3072) (hx : p.tables.exec = Jvm.exec) (hb : c.code = code) (hr : meth.sig.returnType = ret) (hml : c.maxLocals = 4) (hown : s.vm.findClass R_law = some m.cls) (hts : ∀ w ∈ lw_tbl, w.before #[Value.ref b] s = true) (hX : va_X b L xs s s.heap) (hbl : b < s.heap.size) (hlocks : meth.locks = false) (hgv : (Jvm.Cond.and given_1 narrow_1).before #[Value.ref b] s = true) {dC : Nat → ClassId} {dI : Nat → Nat → Nat} {c0 : ClassId} (hK : va_K (dC, dI) vwCl [(c0, .int)] s) {f g : Nat → Nat} {H : Heap} {locs : List Loc} {ls : Array Slot} (hl : Lok (eI l (dC, dI)) ls c.maxLocals [some (.ref b), some (.ref (f 0)), some (.ref (g 0)), some (.int (nI 0))]) (hP : va_P (dC, dI) vwCl (mk6 c0 f ++ mk7 c0 g) H) (hD : va_D (fun q : Nat => s.heap.size ≤ q) (mk6 c0 f ++ mk7 c0 g)) (hS : va_S (fun q : Nat => s.heap.size ≤ q) s.heap H locs) : W p l e room_1 s m #[Value.ref b] below meth c H locs 70 1646 (lw_Z below #[Value.ref b] s) (F0 m 18 ls []) := by
  obtain ⟨adK, adV, u, g1, g2, g3, g4, g5, g6⟩ := giv_ex hts hgv
  obtain ⟨t, g7⟩ : ∃ t : Nat, va_Z "jdk/internal/util/Preconditions" "SIOOBE_FORMATTER" "Ljava/util/function/BiFunction;" .null (fun q => s.heap.size ≤ q) s s.heap ∨ va_Z "jdk/internal/util/Preconditions" "SIOOBE_FORMATTER" "Ljava/util/function/BiFunction;" (.ref t) (fun q => s.heap.size ≤ q) s s.heap := by
    rcases g6 with h | ⟨t, h⟩
    · exact ⟨0, Or.inl h⟩
    · exact ⟨t, Or.inr h⟩
  have hce := cells_0 l dC dI f g adK adV u t b c0
  obtain ⟨E, hE⟩ : ∃ E : EB, E = mkE l dC dI (adE f g adK adV u t b) c0 := ⟨_, rfl⟩
  rw [← hE] at hce
  rw [← hce] at hP hD
  have hAB : ∀ q, eFr E q → s.heap.size ≤ q := by
    rintro q ⟨i, hi, rfl⟩
    exact hD.2 i _ (cells_get hi)
  have hInj : eInj E := fun i j hi hj h => hD.1 i j _ _ (cells_get hi) (cells_get hj) h
  have hEx : Ex E s s.heap := by
    refine ⟨vk_S_eq (g1.narrow hAB) (fun i hi => ?_) (fun i hi => ?_), ?_, ?_, g5.narrow hAB, ?_⟩
    · subst hE; exact adE_K hi
    · subst hE; exact adE_V hi
    · have := g3.narrow hAB; subst hE; exact this
    · have := g4.narrow hAB; subst hE; exact this
    · rcases g7 with h | h
      · exact ⟨.null, Or.inl rfl, h.narrow hAB⟩
      · refine ⟨.ref 400, Or.inr rfl, ?_⟩
        have := h.narrow hAB
        subst hE; exact this
  have hKn : Kn E s := by
    refine ⟨⟨?_, fun k q hq => ?_⟩, fun q hq => ?_⟩
    · subst hE; exact hK.1
    · have hk : k < 70 := by
        have := (List.getElem?_eq_some_iff.mp hq).1
        simpa [eTys] using this
      rw [eTys_get hk] at hq
      refine hK.2 0 q ?_
      rw [← hq]; subst hE; rfl
    · have h1 := g2 q hq
      have h2 : eAd E (100 + q.2.2) = adK q.2.2 := by subst hE; exact adE_K (strTab_lt q hq)
      rw [h2]; exact h1
  have e500 : eAd E 500 = b := by subst hE; rfl
  have eD1 : eD E = (dC, dI) := by subst hE; rfl
  have eL : E.1 = l := by subst hE; rfl
  have htw : ∀ w ∈ wT, w.before #[Value.ref b] s = true := fun w h => hts w (wT_good w h).1
  have hG : Gd E mL_law (p, e, s, m, #[Value.ref b], below, meth, c, room_1, 70, 1646, lw_Z below #[Value.ref b] s) := ⟨hx, hb, hown, htw, hKn, hEx, hInj, Nat.le_of_ble_eq_true rfl, Nat.le_of_ble_eq_true rfl, Nat.le_of_ble_eq_true rfl, Nat.le_of_ble_eq_true rfl⟩
  have hSc : Sc E (p, e, s, m, #[Value.ref b], below, meth, c, room_1, 70, 1646, lw_Z below #[Value.ref b] s) L xs := by
    show va_X (eAd E 500) L xs s s.heap ∧ eAd E 500 < s.heap.size ∧ ¬ eFr E (eAd E 500)
    rw [e500]
    exact ⟨hX, hbl, fun h => absurd (hAB _ h) (Nat.not_le.mpr hbl)⟩
  have hend : ∀ (M : Mem) (i : Nat), V E (p, e, s, m, #[Value.ref b], below, meth, c, room_1, 70, 1646, lw_Z below #[Value.ref b] s) 1790 (LL i) [] M := by
    intro M i H locs ls hl hP hS
    refine lv_iconst (v := 1) hx hb dL_law_1790 (by decide) ?_
    refine va_forget (fun q hq => hAB _ (hS.2.2 q hq)) ?_
    exact lw_ret hx hb hr hlocks dL_law_1791
  have hV := lw_loop hG hSc hL hend 600 0 M0i (by omega) (by omega) rel_0
  have hLok : Lok E ls c.maxLocals (LL 0) := by
    refine ⟨hl.1, hl.2.1, hl.2.2.1, fun i v hi => ?_⟩
    have h4 : i < 4 := (List.getElem?_eq_some_iff.mp hi).1
    rcases (show i = 0 ∨ i = 1 ∨ i = 2 ∨ i = 3 by omega) with rfl | rfl | rfl | rfl
    · cases hi
      subst hE
      exact hl.2.2.2 0 _ rfl
    · cases hi
      subst hE
      exact hl.2.2.2 1 _ rfl
    · cases hi
      subst hE
      exact hl.2.2.2 2 _ rfl
    · cases hi
      subst hE
      exact hl.2.2.2 3 _ rfl
  refine va_forget (fun q hq => hS.2.2 q hq) ?_
  have hW := hV H [] ls hLok (by rw [eD1]; exact hP) ⟨hS.1, fun q h1 h2 => hS.2.1 q h1 (Nat.not_le.mpr h1), fun q h => by cases h⟩
  rw [eL] at hW
  exact hW
theorem nil_P {D : va_G} {H : Heap} : va_P D vwCl [] H := fun k q h => by simp at h
theorem nil_D {A : Nat → Prop} : va_D A [] := ⟨fun i j p q h => by simp at h, fun k q h => by simp at h⟩
/-- THE LAW, from its entry -/
theorem whole_start {p : Program} {e : Env} {s : State} {m : MethodId} {below : List Frame} {meth : Method} {c : Code} (l : Launch) (hflags : l.flags = flags0) {b L : Nat} {xs : Nat → Int32} (hL : L ≤ 3072) (C0 : lw_At p s m meth c b L xs) : W p l e room_1 s m #[Value.ref b] below meth c s.heap [] 0 0 (lw_Z below #[Value.ref b] s) (entryFrame m ([Value.ref b] : List Value).toArray 4) := by
  obtain ⟨hx, hb, hr, hml, hown, hts, hX, hbl, hlocks, hgv⟩ := C0
  have htw : ∀ w ∈ wT, w.before #[Value.ref b] s = true := fun w h => hts w (wT_good w h).1
  obtain ⟨k0, i0, h0⟩ := u_known (C := RX0) (T := TX0) (N := 7) (n := 7) htw inT_X0 (htw _ inst_X0)
  obtain ⟨k1, i1, h1⟩ := u_known (C := RX1) (T := TX1) (N := 3) (n := 3) htw inT_X1 (htw _ inst_X1)
  obtain ⟨k2, i2, h2⟩ := u_known (C := RX2) (T := TX2) (N := 6) (n := 6) htw inT_X2 (htw _ inst_X2)
  obtain ⟨k3, i3, h3⟩ := u_known (C := RX3) (T := TX3) (N := 2) (n := 2) htw inT_X3 (htw _ inst_X3)
  obtain ⟨k4, i4, h4⟩ := u_known (C := RX4) (T := TX4) (N := 7) (n := 7) htw inT_X4 (htw _ inst_X4)
  obtain ⟨k5, i5, h5⟩ := u_known (C := RX5) (T := TX5) (N := 7) (n := 7) htw inT_X5 (htw _ inst_X5)
  obtain ⟨k6, i6, h6⟩ := u_known (C := RX6) (T := TX6) (N := 10) (n := 10) htw inT_X6 (htw _ inst_X6)
  obtain ⟨k7, i7, h7⟩ := u_known (C := RX7) (T := TX7) (N := 22) (n := 22) htw inT_X7 (htw _ inst_X7)
  obtain ⟨dC, dI, hKc⟩ : ∃ (dC : Nat → ClassId) (dI : Nat → Nat → Nat), ∀ (k : Nat) (q : vw_C), vwCl[k]? = some q → u_Kn s q.1 q.2.1 q.2.2 (dC k) (dI k) := by
    refine ⟨fun k => [k0, k1, k2, k3, k4, k5, k6, k7].getD k 0, fun k => [i0, i1, i2, i3, i4, i5, i6, i7].getD k (fun _ => 0), ?_⟩
    intro k q hq
    match k, hq with
    | 0, hq => cases hq; exact h0
    | 1, hq => cases hq; exact h1
    | 2, hq => cases hq; exact h2
    | 3, hq => cases hq; exact h3
    | 4, hq => cases hq; exact h4
    | 5, hq => cases hq; exact h5
    | 6, hq => cases hq; exact h6
    | 7, hq => cases hq; exact h7
    | k + 8, hq => simp [vwCl] at hq
  obtain ⟨c0, a1, a2⟩ := k_int (htw _ aT_int)
  have hK : va_K (dC, dI) vwCl [(c0, .int)] s := by
    refine ⟨hKc, fun k q hq => ?_⟩
    have hk := (List.getElem?_eq_some_iff.mp hq).1
    simp at hk
    subst hk
    cases hq
    exact ⟨a1, a2⟩
  obtain ⟨B, hB⟩ : ∃ B : CnB, B = (p, l, e, s, m, #[Value.ref b], below, meth, c, room_1, lw_Z below #[Value.ref b] s, (dC, dI), c0, fun q : Nat => s.heap.size ≤ q) := ⟨_, rfl⟩
  have hC : CnD mL_law B := by
    subst hB
    exact ⟨hx, hb, hown, htw, hK, fun q h => h, Nat.le_of_ble_eq_true rfl, Nat.le_of_ble_eq_true rfl⟩
  have hRc : (bR B).cells = 70 := by subst hB; rfl
  have hRs : (bR B).slots = 1646 := by subst hB; rfl
  have hbc : bC B = c0 := by subst hB; rfl
  have hW : CnW B 0 [some (.ref b), none, none, none] [] [] 0 0 := by
    refine cn_new hC (ci := 6) inT_X6 tyX6_ok cl_L_7 inst_X6 ini_X6 rfl df_X6 (by rw [hRc]; exact Nat.le_of_ble_eq_true rfl) (by rw [hRs]; exact Nat.le_of_ble_eq_true rfl) dL_law_0 (q := 3) rfl (fun a => ?_)
    refine cn_dup hC rfl dL_law_3 (q := 4) rfl ?_
    refine cn_call (wr := []) hC moX6_init miX6_init ml_RL_9 rfl rfl rfl (ct_X6 _ _ _) rfl rfl (Nat.le_of_ble_eq_true rfl) (by rw [hRc]; exact Nat.le_of_ble_eq_true rfl) (by rw [hRs]; exact Nat.le_of_ble_eq_true rfl) dL_law_4 (q := 7) rfl (fun f ef => ?_)
    subst ef
    refine cn_astore (i := 1) hC dL_law_7 rfl (by simp) (pk 0 rfl rfl) (q := 8) rfl ?_
    refine cn_new hC (ci := 7) inT_X7 tyX7_ok cl_L_10 inst_X7 ini_X7 rfl df_X7 (by rw [hRc]; exact Nat.le_of_ble_eq_true rfl) (by rw [hRs]; exact Nat.le_of_ble_eq_true rfl) dL_law_8 (q := 11) rfl (fun a => ?_)
    refine cn_dup hC rfl dL_law_11 (q := 12) rfl ?_
    refine cn_call hC moX7_init miX7_init ml_RL_12 rfl rfl rfl (ct_X7 _ _ _) rfl rfl (Nat.le_of_ble_eq_true rfl) (by rw [hRc]; exact Nat.le_of_ble_eq_true rfl) (by rw [hRs]; exact Nat.le_of_ble_eq_true rfl) dL_law_12 (q := 15) rfl (fun g eg => ?_)
    subst eg
    refine cn_astore (i := 2) hC dL_law_15 rfl (by simp) (pk 1 rfl rfl) (q := 16) rfl ?_
    refine cn_iconst hC (v := nI 0) (by decide) dL_law_16 (q := 17) rfl ?_
    refine cn_istore (i := 3) hC dL_law_17 rfl (by simp) (pk 2 rfl rfl) (q := 18) rfl ?_
    rw [hbc]
    subst hB
    intro H locs ls hl hP hD hS
    exact start_loop l hL hx hb hr hml hown hts hX hbl hlocks hgv hK hl hP hD hS
  subst hB
  obtain ⟨hle, hok⟩ := ent_lok (l := l) (D := (dC, dI)) (av := [.ref b]) (n := 4) (L0 := [some (.ref b), none, none, none]) rfl rfl
  have hl := lv_entry [.ref b] hle
  rw [lg_entry_eq]
  exact hW s.heap [] _ (by rw [hml]; exact hok _ hl) nil_P nil_D va_S.rf
end START

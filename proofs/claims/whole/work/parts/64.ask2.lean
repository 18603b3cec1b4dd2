/-! swims, near, passing, again -/
def swk (s : ASea) (m : Nat) : Nat → ASea
  | 0 => s
  | k + 1 => swimA (swk s m k) m
def sw2 (s : ASea) (m o : Nat) : Nat → ASea
  | 0 => s
  | k + 1 => swimA (swimA (sw2 s m o k) m) o
section ASK2
variable {B lv : Nat} {b : Bk} {s : ASea} {S S' : St}
theorem swk_2 {m : Nat} : ∀ k, (swk s m k).2 = s.2
  | 0 => rfl
  | k + 1 => swimA_2.trans (swk_2 k)
theorem swk_row {m j : Nat} (hm : m < 4) (hj : 16 ≤ j) : ∀ k, aR (swk s m k) j = aR s j
  | 0 => rfl
  | k + 1 => (swimA_row hm hj).trans (swk_row hm hj k)
theorem sw2_2 {m o : Nat} : ∀ k, (sw2 s m o k).2 = s.2
  | 0 => rfl
  | k + 1 => swimA_2.trans (swimA_2.trans (sw2_2 k))
theorem swk_dead {m : Nat} (hd : (aD s).testBit m = true) : ∀ k, swk s m k = s
  | 0 => rfl
  | k + 1 => by
    show swimA (swk s m k) m = s
    rw [swk_dead hd k]
    unfold swimA
    rw [if_pos hd]
theorem CWswim (h : CW B 40 37 b s S) {m : Nat} (hm : m < bM b) : RN (f_X5_swim 37 (nI m) S) (fun _ S' => CW B 40 37 b (swimA s m) S' ∧ EA 37 S S') := by
  have h4 := h.wb.m4
  refine RN_mono (swim_run h.ra h.rs h.ws (by omega)) (fun _ S1 h1 => ?_)
  obtain ⟨g1, g2, g3⟩ := h1
  have ea : EA 37 S S1 := ⟨g1, fun c k _ hc => g2 c k hc⟩
  exact ⟨CW_a h ea g3 (swimA_wfS h.ws) (swimA_wfP h.wb h.wp hm), ea⟩
/-- only the row is changed -/
def M5 (S S' : St) : Prop := S'.2 = S.2 ∧ ∀ a k, a ≠ 175 → S'.1 a k = S.1 a k
theorem M5.rf : M5 S S := ⟨rfl, fun _ _ _ => rfl⟩
theorem M5.tr {S S' S'' : St} (h : M5 S S') (h' : M5 S' S'') : M5 S S'' := ⟨h'.1.trans h.1, fun a k h1 => (h'.2 a k h1).trans (h.2 a k h1)⟩
theorem M5.mg (h : M5 S S') : MG S S' := ⟨h.1, fun a k _ _ h3 _ _ => h.2 a k h3⟩
theorem M5.mq (h : M5 S S') : QF S S' := h.mg.mq
theorem CMswim (h : CMx lv b s S) {m : Nat} (hm : m < bM b) (hd : (aD s).testBit m = false) : RN (f_X10_swimsOne 140 (nI m) S) (fun _ S' => CMx lv b (swimA s m) S' ∧ M5 S S') := by
  have h4 := h.wb.m4
  obtain ⟨B, B1, C, hr⟩ := h.rf
  refine RN_mono (mswim_run hr h.row (by omega)) (fun _ S1 h1 => ?_)
  obtain ⟨g1, g2, g3⟩ := h1
  have hsw : swimA s m = swimN s m := by
    unfold swimA
    rw [if_neg (by rw [hd]; decide)]
  have e5 : M5 S S1 := ⟨g1, g2⟩
  exact ⟨CMx_g h e5.mg (by rw [hsw]; exact g3) (swimA_wfS h.ws) (swimA_wfP h.wb h.wp hm), e5⟩
theorem sfor_loop {m n : Nat} (hm : m < bM b) (hn : n ≤ 4000) : ∀ (k fu i : Nat) (S : St), k < fu → i + k = n → CMx lv b (swk s m i) S → RN (b_X10_swimsFor_2 fu 140 (nI m) (nI n) (nI i) S) (fun _ S' => CMx lv b (swk s m n) S' ∧ M5 S S') := by
  intro k
  induction k with
  | zero =>
    intro fu i S hf hi h
    obtain ⟨fu, rfl⟩ : ∃ f, fu = f + 1 := ⟨fu - 1, by omega⟩
    have hi : i = n := by omega
    subst hi
    rw [b_X10_swimsFor_2, if_pos (le_l (by omega) (by omega) (Nat.le_refl _))]
    exact RN_some ⟨h, M5.rf⟩
  | succ k ih =>
    intro fu i S hf hi h
    obtain ⟨fu, rfl⟩ : ∃ f, fu = f + 1 := ⟨fu - 1, by omega⟩
    have hm4 : m < 4 := Nat.lt_of_lt_of_le hm h.wb.m4
    rw [b_X10_swimsFor_2, if_neg (nle_l (by omega) (by omega) (by omega)), ix55_16 hm4, obq, rq_52 h.rf, h.row _ (by omega), menc_d hm4]
    by_cases c : (aD (swk s m i)).testBit m = false
    · rw [if_pos (bitI_0.mpr c)]
      refine RN_bd (CMswim h hm c) (fun _ S1 h1 => ?_)
      rw [nmq, nI_1]
      exact RN_mono (ih fu (i + 1) S1 (by omega) (by omega) h1.1) (fun _ S' hh => ⟨hh.1, h1.2.tr hh.2⟩)
    · rw [if_neg (fun q => c (bitI_0.mp q))]
      have hd : (aD s).testBit m = true := by
        have e : aD (swk s m i) = aD s := by show (swk s m i).2.2.2.1 = s.2.2.2.1; rw [swk_2]
        rw [← e]
        simpa using c
      refine RN_some ⟨?_, M5.rf⟩
      rw [swk_dead hd] at h ⊢
      exact h
theorem sfor_run (h : CMx lv b s S) {m n : Nat} (hm : m < bM b) (hn : n ≤ 4000) : RN (f_X10_swimsFor 140 (nI m) (nI n) S) (fun _ S' => CMx lv b (swk s m n) S' ∧ M5 S S') := sfor_loop hm hn n FU 0 S (by unfold FU; omega) (by omega) h
theorem sfor1_run (h : CMx lv b s S) {m : Nat} (hm : m < bM b) : RN (f_X10_swimsFor 140 (nI m) 1 S) (fun _ S' => CMx lv b (swimA s m) S' ∧ M5 S S') := sfor_run (n := 1) h hm (by decide)
theorem RFC_of {f : Nat → Nat → Nat} {S S' : St} (h : RFC B S.2.2) (e : S'.2 = S.2) : RFC B S'.2.2 := by rw [e]; exact h
theorem cswims_loop {m n w : Nat} (hm : m < bM b) (hn : n ≤ 60) (hw : w < 2) : ∀ (k fu i : Nat) (S : St), k < fu → i + k = n → CW B 40 37 b (swk s m i) S → RFC B S.2.2 → RN (b_X9_swims_43 fu 0 (nI m) (nI n) (nI w) (nI i) S) (fun r S' => r = aR (swk s m n) (4 * w + m) ∧ EA 37 S S') := by
  intro k
  induction k with
  | zero =>
    intro fu i S hf hi h hr
    obtain ⟨fu, rfl⟩ : ∃ f, fu = f + 1 := ⟨fu - 1, by omega⟩
    have hi : i = n := by omega
    subst hi
    have hm4 : m < 4 := Nat.lt_of_lt_of_le hm h.wb.m4
    rw [b_X9_swims_43, if_pos (le_l (by omega) (by omega) (Nat.le_refl _)), rc_6 hr, rc_37 hr]
    unfold b_X9_swims_79
    rw [z_nI, show (4 : Int32) + nI m = nI (4 + m) from nI_add 4 m, ix_nI (show m < 36 by omega) (by decide), ix_nI (show 4 + m < 36 by omega) (by decide), obq, obq, h.rs.row (by omega), h.rs.row (by omega)]
    have h5 : w = 0 ∨ w = 1 := by omega
    rcases h5 with rfl | rfl
    · rw [if_pos (by decide)]
      exact RN_some ⟨by rw [show 4 * 0 + m = m by omega], EA.tr ⟨rfl, fun _ _ _ _ => rfl⟩ ⟨rfl, fun _ _ _ _ => rfl⟩⟩
    · rw [if_neg (by decide)]
      exact RN_some ⟨rfl, ⟨rfl, fun _ _ _ _ => rfl⟩⟩
  | succ k ih =>
    intro fu i S hf hi h hr
    obtain ⟨fu, rfl⟩ : ∃ f, fu = f + 1 := ⟨fu - 1, by omega⟩
    rw [b_X9_swims_43, if_neg (nle_l (by omega) (by omega) (by omega)), rc_6 hr]
    refine RN_bd (CWswim h hm) (fun _ S1 h1 => ?_)
    rw [nmq, nI_1]
    exact RN_mono (ih fu (i + 1) S1 (by omega) (by omega) h1.1 (by rw [h1.2.1]; exact hr)) (fun _ S' hh => ⟨hh.1, h1.2.tr hh.2⟩)
theorem ne10 : ¬ (1 : Int32) = 0 := by decide
theorem q_swims (v n w : Int32) : PQ B lv b s (f_X9_swims 0 v n w) (f_X10_swims 140 v n w) := by
  cases hv : idx (bM b) v with
  | none =>
    refine ⟨-1, fun S h => ?_, fun S h => ?_⟩
    · unfold f_X9_swims
      rw [cM_eq h, bdq, hv, is1_n, if_pos rfl]
      exact RN_some ⟨rfl, CQ.rf⟩
    · unfold f_X10_swims
      rw [mM_eq h, bdq, hv, is1_n, if_pos rfl]
      exact RN_some ⟨rfl, QF.rf⟩
  | some m =>
    cases hn : idx 61 n with
    | none =>
      refine ⟨-1, fun S h => ?_, fun S h => ?_⟩
      · unfold f_X9_swims
        rw [cM_eq h, bdq, hv, is1_s, if_neg ne10, show (60 : Int32) = nI 60 from rfl, cin_eq 60 (by decide), bdq, hn, is1_n, if_pos rfl]
        exact RN_some ⟨rfl, CQ.rf⟩
      · unfold f_X10_swims
        rw [mM_eq h, bdq, hv, is1_s, if_neg ne10, long_eq, bdq, hn, is1_n, if_pos rfl]
        exact RN_some ⟨rfl, QF.rf⟩
    | some k =>
      obtain ⟨rfl, hk⟩ := idx_some (by decide) hn
      cases hw : idx 2 w with
      | none =>
        refine ⟨-1, fun S h => ?_, fun S h => ?_⟩
        · unfold f_X9_swims
          rw [cM_eq h, bdq, hv, is1_s, if_neg ne10, show (60 : Int32) = nI 60 from rfl, cin_eq 60 (by decide), bdq, hn, is1_s, if_neg ne10, show (1 : Int32) = nI 1 from rfl, cin_eq 1 (by decide), bdq, hw, is1_n, if_pos rfl]
          exact RN_some ⟨rfl, CQ.rf⟩
        · unfold f_X10_swims
          rw [mM_eq h, bdq, hv, is1_s, if_neg ne10, long_eq, bdq, hn, is1_s, if_neg ne10, show (1 : Int32) = nI 1 from rfl, min_eq 1 (by decide), bdq, hw, is1_n, if_pos rfl]
          exact RN_some ⟨rfl, QF.rf⟩
      | some j =>
        obtain ⟨rfl, hj⟩ := idx_some (by decide) hw
        refine ⟨aR (swk s m k) (4 * j + m), fun S h => ?_, fun S h => ?_⟩
        · obtain ⟨e, hm⟩ := idx_some (by have := h.wb.m4; omega) hv
          unfold f_X9_swims
          rw [cM_eq h, bdq, hv, is1_s, if_neg ne10, show (60 : Int32) = nI 60 from rfl, cin_eq 60 (by decide), bdq, hn, is1_s, if_neg ne10, show (1 : Int32) = nI 1 from rfl, cin_eq 1 (by decide), bdq, hw, is1_s, if_neg ne10, e]
          refine RN_bd (ctrial_run h) (fun _ S1 h1 => ?_)
          exact RN_mono (cswims_loop hm (by omega) hj k FU 0 S1 (by unfold FU; omega) (by omega) h1.1 (by rw [h1.2.1]; exact h.rf)) (fun _ S' hh => ⟨hh.1, h1.2.tr hh.2.cq⟩)
        · obtain ⟨e, hm⟩ := idx_some (by have := h.wb.m4; omega) hv
          have hm4 : m < 4 := Nat.lt_of_lt_of_le hm h.wb.m4
          unfold f_X10_swims
          rw [mM_eq h, bdq, hv, is1_s, if_neg ne10, long_eq, bdq, hn, is1_s, if_neg ne10, show (1 : Int32) = nI 1 from rfl, min_eq 1 (by decide), bdq, hw, is1_s, if_neg ne10, e]
          refine RN_bd (copies_run h) (fun _ S1 h1 => ?_)
          refine RN_bd (sfor_run h1.1 hm (by omega)) (fun _ S2 h2 => ?_)
          rw [mw4 j (by omega), ixm (by omega) (by decide), obq, rq_52 h2.1.rf, h2.1.row _ (by omega), menc_m (by omega)]
          exact RN_some ⟨rfl, h1.2.2.2.tr h2.2.mq⟩
theorem cnear_loop {m : Nat} (hm : m < bM b) {d x y : Int32} : ∀ (k fu i : Nat) (S : St), k < fu → i + k = 101 → CW B 40 37 b (swk s m i) S → RFC B S.2.2 → RN (b_X9_near_70 fu 0 (nI m) d x y (nI i) S) (fun r S' => r = firstF (fun i => !decide (d < farA (swk s m i) m x y)) k i ∧ EA 37 S S') := by
  intro k
  induction k with
  | zero =>
    intro fu i S hf hi h hr
    obtain ⟨fu, rfl⟩ : ∃ f, fu = f + 1 := ⟨fu - 1, by omega⟩
    rw [b_X9_near_70, if_pos (show (100 : Int32) < nI i from lt_l (a := 100) (by omega) (by omega) (by omega))]
    exact RN_some ⟨rfl, ⟨rfl, fun _ _ _ _ => rfl⟩⟩
  | succ k ih =>
    intro fu i S hf hi h hr
    obtain ⟨fu, rfl⟩ : ∃ f, fu = f + 1 := ⟨fu - 1, by omega⟩
    have hm4 : m < 4 := Nat.lt_of_lt_of_le hm h.wb.m4
    rw [b_X9_near_70, if_neg (show ¬ (100 : Int32) < nI i from nlt_l (a := 100) (by omega) (by omega) (by omega)), rc_6 hr, farOf_eq h.ra h.rs hm4, bdq]
    unfold firstF
    by_cases c : d < farA (swk s m i) m x y
    · rw [if_pos c, rc_6 hr]
      refine RN_bd (CWswim h hm) (fun _ S1 h1 => ?_)
      rw [nmq, nI_1]
      simp only [c, decide_true, Bool.not_true]
      exact RN_mono (ih fu (i + 1) S1 (by omega) (by omega) h1.1 (by rw [h1.2.1]; exact hr)) (fun _ S' hh => ⟨hh.1, h1.2.tr hh.2⟩)
    · rw [if_neg c]
      simp only [c, decide_false, Bool.not_false]
      exact RN_some ⟨rfl, ⟨rfl, fun _ _ _ _ => rfl⟩⟩
theorem mnear_loop {m p : Nat} (hm : m < bM b) (hp : p < bP b) {d : Int32} : ∀ (k fu i : Nat) (S : St), k < fu → i + k = 101 → CMx lv b (swk s m i) S → RN (b_X10_near_32 fu 140 (nI m) (nI p) d (nI i) S) (fun r S' => r = firstF (fun i => !decide (d < farA (swk s m i) m (pX s p) (pY s p))) k i ∧ M5 S S') := by
  intro k
  induction k with
  | zero =>
    intro fu i S hf hi h
    obtain ⟨fu, rfl⟩ : ∃ f, fu = f + 1 := ⟨fu - 1, by omega⟩
    rw [b_X10_near_32, if_pos (show (100 : Int32) < nI i from lt_l (a := 100) (by omega) (by omega) (by omega))]
    exact RN_some ⟨rfl, M5.rf⟩
  | succ k ih =>
    intro fu i S hf hi h
    obtain ⟨fu, rfl⟩ : ∃ f, fu = f + 1 := ⟨fu - 1, by omega⟩
    have hm4 : m < 4 := Nat.lt_of_lt_of_le hm h.wb.m4
    have hp6 : p < 6 := Nat.lt_of_lt_of_le hp h.wb.p6
    have ex : pX (swk s m i) p = pX s p := swk_row hm4 (by omega) i
    have ey : pY (swk s m i) p = pY s p := swk_row hm4 (by omega) i
    have hf1 : f_X10_farFrom 140 (nI m) (pX s p) (pY s p) S = some (farA (swk s m i) m (pX s p) (pY s p), S) := by
      obtain ⟨B, B1, C, hr⟩ := h.rf
      have h9 := h.wp.1 m hm
      have hp9 := h.p9 hp
      rw [ex, ey] at hp9
      exact farFrom_eq hr h.row hm4 h9.1 h9.2.1 hp9.1 hp9.2
    rw [b_X10_near_32, if_neg (show ¬ (100 : Int32) < nI i from nlt_l (a := 100) (by omega) (by omega) (by omega)), ix55_20 hp6, obq, ix55_26 hp6, obq, rq_52 h.rf, h.px hp, h.py hp, ex, ey, hf1, bdq]
    unfold firstF
    by_cases c : d < farA (swk s m i) m (pX s p) (pY s p)
    · rw [if_pos c]
      refine RN_bd (sfor1_run h hm) (fun _ S1 h1 => ?_)
      rw [nmq, nI_1]
      simp only [c, decide_true, Bool.not_true]
      exact RN_mono (ih fu (i + 1) S1 (by omega) (by omega) h1.1) (fun _ S' hh => ⟨hh.1, h1.2.tr hh.2⟩)
    · rw [if_neg c]
      simp only [c, decide_false, Bool.not_false]
      exact RN_some ⟨rfl, M5.rf⟩
theorem q_near (v u d : Int32) : PQ B lv b s (f_X9_near 0 v u d) (f_X10_near 140 v u d) := by
  cases hv : idx (bM b) v with
  | none =>
    refine ⟨-1, fun S h => ?_, fun S h => ?_⟩
    · unfold f_X9_near
      rw [cM_eq h, bdq, hv, is1_n, if_pos rfl]
      exact RN_some ⟨rfl, CQ.rf⟩
    · unfold f_X10_near
      rw [mM_eq h, bdq, hv, is1_n, if_pos rfl]
      exact RN_some ⟨rfl, QF.rf⟩
  | some m =>
    cases hu : idx (bP b) u with
    | none =>
      refine ⟨-1, fun S h => ?_, fun S h => ?_⟩
      · unfold f_X9_near
        rw [cM_eq h, bdq, hv, is1_s, if_neg ne10, cP_eq h, bdq, hu, is1_n, if_pos rfl]
        exact RN_some ⟨rfl, CQ.rf⟩
      · unfold f_X10_near
        rw [mM_eq h, bdq, hv, is1_s, if_neg ne10, mP_eq h, bdq, hu, is1_n, if_pos rfl]
        exact RN_some ⟨rfl, QF.rf⟩
    | some p =>
      cases hd : idx 10 d with
      | none =>
        refine ⟨-1, fun S h => ?_, fun S h => ?_⟩
        · unfold f_X9_near
          rw [cM_eq h, bdq, hv, is1_s, if_neg ne10, cP_eq h, bdq, hu, is1_s, if_neg ne10, show (9 : Int32) = nI 9 from rfl, cin_eq 9 (by decide), bdq, hd, is1_n, if_pos rfl]
          exact RN_some ⟨rfl, CQ.rf⟩
        · unfold f_X10_near
          rw [mM_eq h, bdq, hv, is1_s, if_neg ne10, mP_eq h, bdq, hu, is1_s, if_neg ne10, mnear_eq, bdq, hd, is1_n, if_pos rfl]
          exact RN_some ⟨rfl, QF.rf⟩
      | some j =>
        refine ⟨firstF (fun i => !decide (d < farA (swk s m i) m (pX s p) (pY s p))) 101 0, fun S h => ?_, fun S h => ?_⟩
        · obtain ⟨e, hm⟩ := idx_some (by have := h.wb.m4; omega) hv
          obtain ⟨e2, hp⟩ := idx_some (by have := h.wb.p6; omega) hu
          unfold f_X9_near
          rw [cM_eq h, bdq, hv, is1_s, if_neg ne10, cP_eq h, bdq, hu, is1_s, if_neg ne10, show (9 : Int32) = nI 9 from rfl, cin_eq 9 (by decide), bdq, hd, is1_s, if_neg ne10, e, e2, ix16 hp h.wb, obq, nmq, ix22 hp h.wb, obq, nmq]
          refine RN_bd (ctrial_run h) (fun _ S1 h1 => ?_)
          rw [rc_5 h.rf, rc_35 h.rf, h.row (lt36_16 hp h.wb), h.row (lt36_22 hp h.wb)]
          exact RN_mono (cnear_loop hm 101 FU 0 S1 (by decide) (by omega) h1.1 (by rw [h1.2.1]; exact h.rf)) (fun _ S' hh => ⟨hh.1, h1.2.tr hh.2.cq⟩)
        · obtain ⟨e, hm⟩ := idx_some (by have := h.wb.m4; omega) hv
          obtain ⟨e2, hp⟩ := idx_some (by have := h.wb.p6; omega) hu
          unfold f_X10_near
          rw [mM_eq h, bdq, hv, is1_s, if_neg ne10, mP_eq h, bdq, hu, is1_s, if_neg ne10, mnear_eq, bdq, hd, is1_s, if_neg ne10, e, e2]
          refine RN_bd (copies_run h) (fun _ S1 h1 => ?_)
          exact RN_mono (mnear_loop hm hp 101 FU 0 S1 (by decide) (by omega) h1.1) (fun _ S' hh => ⟨hh.1, h1.2.2.2.tr hh.2.mq⟩)
theorem cpass_loop {m o : Nat} (hm : m < bM b) (ho : o < bM b) {d : Int32} : ∀ (k fu i : Nat) (S : St), k < fu → i + k = 101 → CW B 40 37 b (sw2 s m o i) S → RFC B S.2.2 → RN (b_X9_passing_47 fu 0 (nI m) (nI o) d (nI i) S) (fun r S' => r = firstF (fun i => !decide (d < farA (sw2 s m o i) m (aR (sw2 s m o i) o) (aR (sw2 s m o i) (4 + o)))) k i ∧ EA 37 S S') := by
  intro k
  induction k with
  | zero =>
    intro fu i S hf hi h hr
    obtain ⟨fu, rfl⟩ : ∃ f, fu = f + 1 := ⟨fu - 1, by omega⟩
    rw [b_X9_passing_47, if_pos (show (100 : Int32) < nI i from lt_l (a := 100) (by omega) (by omega) (by omega))]
    exact RN_some ⟨rfl, ⟨rfl, fun _ _ _ _ => rfl⟩⟩
  | succ k ih =>
    intro fu i S hf hi h hr
    obtain ⟨fu, rfl⟩ : ∃ f, fu = f + 1 := ⟨fu - 1, by omega⟩
    have hm4 : m < 4 := Nat.lt_of_lt_of_le hm h.wb.m4
    have ho4 : o < 4 := Nat.lt_of_lt_of_le ho h.wb.m4
    rw [b_X9_passing_47, if_neg (show ¬ (100 : Int32) < nI i from nlt_l (a := 100) (by omega) (by omega) (by omega)), z_nI, show (4 : Int32) + nI o = nI (4 + o) from nI_add 4 o, ix_nI (show o < 36 by omega) (by decide), ix_nI (show 4 + o < 36 by omega) (by decide), obq, nmq, obq, nmq, rc_6 hr, rc_37 hr, h.rs.row (by omega), h.rs.row (by omega), farOf_eq h.ra h.rs hm4, bdq]
    unfold firstF
    by_cases c : d < farA (sw2 s m o i) m (aR (sw2 s m o i) o) (aR (sw2 s m o i) (4 + o))
    · rw [if_pos c, rc_6 hr]
      refine RN_bd (CWswim h hm) (fun _ S1 h1 => ?_)
      have hr1 : RFC B S1.2.2 := by rw [h1.2.1]; exact hr
      rw [rc_6 hr1]
      refine RN_bd (CWswim h1.1 ho) (fun _ S2 h2 => ?_)
      rw [nmq, nI_1]
      simp only [c, decide_true, Bool.not_true]
      exact RN_mono (ih fu (i + 1) S2 (by omega) (by omega) h2.1 (by rw [h2.2.1]; exact hr1)) (fun _ S' hh => ⟨hh.1, (h1.2.tr h2.2).tr hh.2⟩)
    · rw [if_neg c]
      simp only [c, decide_false, Bool.not_false]
      exact RN_some ⟨rfl, ⟨rfl, fun _ _ _ _ => rfl⟩⟩
theorem mpass_loop {m o : Nat} (hm : m < bM b) (ho : o < bM b) {d : Int32} : ∀ (k fu i : Nat) (S : St), k < fu → i + k = 101 → CMx lv b (sw2 s m o i) S → RN (b_X10_passing_37 fu 140 (nI m) (nI o) d (nI i) S) (fun r S' => r = firstF (fun i => !decide (d < farA (sw2 s m o i) m (aR (sw2 s m o i) o) (aR (sw2 s m o i) (4 + o)))) k i ∧ M5 S S') := by
  intro k
  induction k with
  | zero =>
    intro fu i S hf hi h
    obtain ⟨fu, rfl⟩ : ∃ f, fu = f + 1 := ⟨fu - 1, by omega⟩
    rw [b_X10_passing_37, if_pos (show (100 : Int32) < nI i from lt_l (a := 100) (by omega) (by omega) (by omega))]
    exact RN_some ⟨rfl, M5.rf⟩
  | succ k ih =>
    intro fu i S hf hi h
    obtain ⟨fu, rfl⟩ : ∃ f, fu = f + 1 := ⟨fu - 1, by omega⟩
    have hm4 : m < 4 := Nat.lt_of_lt_of_le hm h.wb.m4
    have ho4 : o < 4 := Nat.lt_of_lt_of_le ho h.wb.m4
    have hf1 : f_X10_farFrom 140 (nI m) (aR (sw2 s m o i) o) (aR (sw2 s m o i) (4 + o)) S = some (farA (sw2 s m o i) m (aR (sw2 s m o i) o) (aR (sw2 s m o i) (4 + o)), S) := by
      obtain ⟨B, B1, C, hr⟩ := h.rf
      have h9 := h.wp.1 m hm
      have o9 := h.wp.1 o ho
      exact farFrom_eq hr h.row hm4 h9.1 h9.2.1 o9.1 o9.2.1
    rw [b_X10_passing_37, if_neg (show ¬ (100 : Int32) < nI i from nlt_l (a := 100) (by omega) (by omega) (by omega)), ix_nI (show o < 55 by omega) (by decide), obq, show ix (4 + nI o) 55 = some (4 + o) from ixm (c := 4) (by omega) (by decide), obq, rq_52 h.rf, h.row _ (show o < 55 by omega), h.row _ (show 4 + o < 55 by omega), menc_m (by omega), menc_m (by omega), hf1, bdq]
    unfold firstF
    by_cases c : d < farA (sw2 s m o i) m (aR (sw2 s m o i) o) (aR (sw2 s m o i) (4 + o))
    · rw [if_pos c]
      refine RN_bd (sfor1_run h hm) (fun _ S1 h1 => ?_)
      refine RN_bd (sfor1_run h1.1 ho) (fun _ S2 h2 => ?_)
      rw [nmq, nI_1]
      simp only [c, decide_true, Bool.not_true]
      exact RN_mono (ih fu (i + 1) S2 (by omega) (by omega) h2.1) (fun _ S' hh => ⟨hh.1, (h1.2.tr h2.2).tr hh.2⟩)
    · rw [if_neg c]
      simp only [c, decide_false, Bool.not_false]
      exact RN_some ⟨rfl, M5.rf⟩
theorem q_passing (v u d : Int32) : PQ B lv b s (f_X9_passing 0 v u d) (f_X10_passing 140 v u d) := by
  cases hv : idx (bM b) v with
  | none =>
    refine ⟨-1, fun S h => ?_, fun S h => ?_⟩
    · unfold f_X9_passing
      rw [cM_eq h, bdq, hv, is1_n, if_pos rfl]
      exact RN_some ⟨rfl, CQ.rf⟩
    · unfold f_X10_passing
      rw [mM_eq h, bdq, hv, is1_n, if_pos rfl]
      exact RN_some ⟨rfl, QF.rf⟩
  | some m =>
    cases hu : idx (bM b) u with
    | none =>
      refine ⟨-1, fun S h => ?_, fun S h => ?_⟩
      · unfold f_X9_passing
        rw [cM_eq h, bdq, hv, is1_s, if_neg ne10, cM_eq h, bdq, hu, is1_n, if_pos rfl]
        exact RN_some ⟨rfl, CQ.rf⟩
      · unfold f_X10_passing
        rw [mM_eq h, bdq, hv, is1_s, if_neg ne10, mM_eq h, bdq, hu, is1_n, if_pos rfl]
        exact RN_some ⟨rfl, QF.rf⟩
    | some o =>
      by_cases huv : v = u
      · refine ⟨-1, fun S h => ?_, fun S h => ?_⟩
        · unfold f_X9_passing
          rw [cM_eq h, bdq, hv, is1_s, if_neg ne10, cM_eq h, bdq, hu, is1_s, if_neg ne10, if_pos huv]
          exact RN_some ⟨rfl, CQ.rf⟩
        · unfold f_X10_passing
          rw [mM_eq h, bdq, hv, is1_s, if_neg ne10, mM_eq h, bdq, hu, is1_s, if_neg ne10, if_pos huv]
          exact RN_some ⟨rfl, QF.rf⟩
      cases hd : idx 10 d with
      | none =>
        refine ⟨-1, fun S h => ?_, fun S h => ?_⟩
        · unfold f_X9_passing
          rw [cM_eq h, bdq, hv, is1_s, if_neg ne10, cM_eq h, bdq, hu, is1_s, if_neg ne10, if_neg huv, show (9 : Int32) = nI 9 from rfl, cin_eq 9 (by decide), bdq, hd, is1_n, if_pos rfl]
          exact RN_some ⟨rfl, CQ.rf⟩
        · unfold f_X10_passing
          rw [mM_eq h, bdq, hv, is1_s, if_neg ne10, mM_eq h, bdq, hu, is1_s, if_neg ne10, if_neg huv, mnear_eq, bdq, hd, is1_n, if_pos rfl]
          exact RN_some ⟨rfl, QF.rf⟩
      | some j =>
        refine ⟨firstF (fun i => !decide (d < farA (sw2 s m o i) m (aR (sw2 s m o i) o) (aR (sw2 s m o i) (4 + o)))) 101 0, fun S h => ?_, fun S h => ?_⟩
        · obtain ⟨e, hm⟩ := idx_some (by have := h.wb.m4; omega) hv
          obtain ⟨e2, ho⟩ := idx_some (by have := h.wb.m4; omega) hu
          unfold f_X9_passing
          rw [cM_eq h, bdq, hv, is1_s, if_neg ne10, cM_eq h, bdq, hu, is1_s, if_neg ne10, if_neg huv, show (9 : Int32) = nI 9 from rfl, cin_eq 9 (by decide), bdq, hd, is1_s, if_neg ne10, e, e2]
          refine RN_bd (ctrial_run h) (fun _ S1 h1 => ?_)
          exact RN_mono (cpass_loop hm ho 101 FU 0 S1 (by decide) (by omega) h1.1 (by rw [h1.2.1]; exact h.rf)) (fun _ S' hh => ⟨hh.1, h1.2.tr hh.2.cq⟩)
        · obtain ⟨e, hm⟩ := idx_some (by have := h.wb.m4; omega) hv
          obtain ⟨e2, ho⟩ := idx_some (by have := h.wb.m4; omega) hu
          unfold f_X10_passing
          rw [mM_eq h, bdq, hv, is1_s, if_neg ne10, mM_eq h, bdq, hu, is1_s, if_neg ne10, if_neg huv, mnear_eq, bdq, hd, is1_s, if_neg ne10, e, e2]
          refine RN_bd (copies_run h) (fun _ S1 h1 => ?_)
          exact RN_mono (mpass_loop hm ho 101 FU 0 S1 (by decide) (by omega) h1.1) (fun _ S' hh => ⟨hh.1, h1.2.2.2.tr hh.2.mq⟩)
end ASK2

/-! again, then, turns, market, worth, strongest -/
section ASK3
variable {B lv : Nat} {b : Bk} {s : ASea} {S S' : St}
/-! again -/
def likeA (s t : ASea) (m : Nat) : Bool := decide (aR t m = aR s m) && decide (aR t (4 + m) = aR s (4 + m)) && decide (aR t (8 + m) = aR s (8 + m)) && decide (aR t (12 + m) = aR s (12 + m))
theorem like_eq {s t : ASea} (hr : RFC B S.2.2) (h1 : RS 37 t S) (h2 : RS 35 s S) {m : Nat} (hm : m < 4) : f_X5_swimsLike 37 35 (nI m) S = some (if likeA s t m then 1 else 0, S) := by
  unfold f_X5_swimsLike likeA
  rw [z_nI, show (4 : Int32) + nI m = nI (4 + m) from nI_add 4 m, show (8 : Int32) + nI m = nI (8 + m) from nI_add 8 m, show (12 : Int32) + nI m = nI (12 + m) from nI_add 12 m, ix_nI (show m < 36 by omega) (by decide), ix_nI (show 4 + m < 36 by omega) (by decide), ix_nI (show 8 + m < 36 by omega) (by decide), ix_nI (show 12 + m < 36 by omega) (by decide), obq, obq, obq, obq, obq, obq, obq, obq, rc_37 hr, rc_35 hr, h1.row (by omega), h1.row (by omega), h1.row (by omega), h1.row (by omega), show S.1 36 m = aR s m from h2.row (by omega), show S.1 36 (4 + m) = aR s (4 + m) from h2.row (by omega), show S.1 36 (8 + m) = aR s (8 + m) from h2.row (by omega), show S.1 36 (12 + m) = aR s (12 + m) from h2.row (by omega)]
  by_cases c1 : aR t m = aR s m
  · rw [if_pos c1]
    by_cases c2 : aR t (4 + m) = aR s (4 + m)
    · rw [if_pos c2]
      by_cases c3 : aR t (8 + m) = aR s (8 + m)
      · rw [if_pos c3]
        by_cases c4 : aR t (12 + m) = aR s (12 + m)
        · rw [if_pos c4]; simp [c1, c2, c3, c4]
        · rw [if_neg c4]; simp [c4]
      · rw [if_neg c3]; simp [c3]
    · rw [if_neg c2]; simp [c2]
  · rw [if_neg c1]; simp [c1]
theorem cagain_loop {m : Nat} (hm : m < bM b) : ∀ (k fu i : Nat) (S : St), k < fu → i + k = 36 → CW B 40 37 b (swk s m i) S → RFC B S.2.2 → RS 35 s S → RN (b_X9_again_23 fu 0 (nI m) (nI (i + 1)) S) (fun r S' => r = firstF (fun i => likeA s (swk s m i) m) k (i + 1) ∧ EA 37 S S') := by
  intro k
  induction k with
  | zero =>
    intro fu i S hf hi h hr hs
    obtain ⟨fu, rfl⟩ : ∃ f, fu = f + 1 := ⟨fu - 1, by omega⟩
    rw [b_X9_again_23, if_pos (show (36 : Int32) < nI (i + 1) from lt_l (a := 36) (by omega) (by omega) (by omega))]
    exact RN_some ⟨rfl, ⟨rfl, fun _ _ _ _ => rfl⟩⟩
  | succ k ih =>
    intro fu i S hf hi h hr hs
    obtain ⟨fu, rfl⟩ : ∃ f, fu = f + 1 := ⟨fu - 1, by omega⟩
    have hm4 : m < 4 := Nat.lt_of_lt_of_le hm h.wb.m4
    rw [b_X9_again_23, if_neg (show ¬ (36 : Int32) < nI (i + 1) from nlt_l (a := 36) (by omega) (by omega) (by omega)), rc_6 hr]
    refine RN_bd (CWswim h hm) (fun _ S1 h1 => ?_)
    have hr1 : RFC B S1.2.2 := by rw [h1.2.1]; exact hr
    have hs1 : RS 35 s S1 := RS_set hs (fun i => h1.2.2 _ _ (by omega) (by omega)) (fun i => h1.2.2 _ _ (by omega) (by omega))
    rw [rc_6 hr1, rc_5 hr1, like_eq hr1 h1.1.rs hs1 hm4, bdq]
    unfold firstF
    by_cases c : likeA s (swimA (swk s m i) m) m = true
    · rw [if_pos c, if_neg (by decide), show likeA s (swk s m (i + 1)) m = true from c, if_pos rfl]
      exact RN_some ⟨rfl, h1.2⟩
    · rw [if_neg c, if_pos rfl, nmq, nI_1]
      have c' : ¬ likeA s (swk s m (i + 1)) m = true := c
      rw [if_neg c']
      exact RN_mono (ih fu (i + 1) S1 (by omega) (by omega) h1.1 hr1 hs1) (fun _ S' hh => ⟨hh.1, h1.2.tr hh.2⟩)
theorem like4 {q31 : Nat → Int32 → Int32 → St → Option (Int32 × St)} {t : ASea} (h : CMx lv b t S) (hn : ∀ k, k < 55 → S.1 174 k = menc s k) {m : Nat} (hm : m < 4) {fu : Nat} {n : Int32} : b_X10_again_47 q31 (fu + 5) 140 (nI m) n 1 0 S = if likeA s t m then some (n, S) else q31 140 (nI m) (n + 1) S := by
  have st : ∀ (k : Nat) (fu : Nat) (v : Int32), k < 4 → b_X10_again_47 q31 (fu + 1) 140 (nI m) n v (nI (4 * k)) S = b_X10_again_47 q31 fu 140 (nI m) n (if aR t (4 * k + m) = aR s (4 * k + m) then v else 0) (nI (4 * (k + 1))) S := by
    intro k fu v hk
    rw [b_X10_again_47, if_neg (show ¬ (16 : Int32) ≤ nI (4 * k) from nle_l (a := 16) (by omega) (by omega) (by omega)), ixm (by omega) (by decide), obq, obq, rq_52 h.rf, rq_51 h.rf, h.row _ (by omega), hn _ (by omega), menc_m (by omega), menc_m (by omega)]
    unfold b_X10_again_77
    rw [nmq, nmq, show nI (4 * k) + 4 = nI (4 * (k + 1)) from nI_add (4 * k) 4]
    by_cases c : aR t (4 * k + m) = aR s (4 * k + m)
    · rw [if_pos c, if_pos c]
    · rw [if_neg c, if_neg c]
  rw [show b_X10_again_47 q31 (fu + 5) 140 (nI m) n 1 0 S = b_X10_again_47 q31 (fu + 4 + 1) 140 (nI m) n 1 (nI (4 * 0)) S from rfl, st 0 (fu + 4) 1 (by decide), show fu + 4 = fu + 3 + 1 from rfl, st 1 (fu + 3) _ (by decide), show fu + 3 = fu + 2 + 1 from rfl, st 2 (fu + 2) _ (by decide), show fu + 2 = fu + 1 + 1 from rfl, st 3 (fu + 1) _ (by decide), b_X10_again_47, if_pos (by decide), nmq]
  rw [show 4 * 0 + m = m by omega, show 4 * 1 + m = 4 + m by omega, show 4 * 2 + m = 8 + m by omega, show 4 * 3 + m = 12 + m by omega]
  unfold likeA
  by_cases c1 : aR t m = aR s m
  · by_cases c2 : aR t (4 + m) = aR s (4 + m)
    · by_cases c3 : aR t (8 + m) = aR s (8 + m)
      · by_cases c4 : aR t (12 + m) = aR s (12 + m)
        · simp [c1, c2, c3, c4]
        · simp [c4]
      · simp [c3]
    · simp [c2]
  · simp [c1]
theorem magain_loop {m : Nat} (hm : m < bM b) (hd : (aD s).testBit m = false) : ∀ (k fu i : Nat) (S : St), k < fu → i + k = 36 → CMx lv b (swk s m i) S → (∀ k, k < 55 → S.1 174 k = menc s k) → RN (b_X10_again_31 fu 140 (nI m) (nI (i + 1)) S) (fun r S' => r = firstF (fun i => likeA s (swk s m i) m) k (i + 1) ∧ M5 S S') := by
  intro k
  induction k with
  | zero =>
    intro fu i S hf hi h hn
    obtain ⟨fu, rfl⟩ : ∃ f, fu = f + 1 := ⟨fu - 1, by omega⟩
    rw [b_X10_again_31, if_pos (show (36 : Int32) < nI (i + 1) from lt_l (a := 36) (by omega) (by omega) (by omega))]
    exact RN_some ⟨rfl, M5.rf⟩
  | succ k ih =>
    intro fu i S hf hi h hn
    obtain ⟨fu, rfl⟩ : ∃ f, fu = f + 1 := ⟨fu - 1, by omega⟩
    have hm4 : m < 4 := Nat.lt_of_lt_of_le hm h.wb.m4
    have hd' : (aD (swk s m i)).testBit m = false := by
      have e : aD (swk s m i) = aD s := by show (swk s m i).2.2.2.1 = s.2.2.2.1; rw [swk_2]
      rw [e]; exact hd
    rw [b_X10_again_31, if_neg (show ¬ (36 : Int32) < nI (i + 1) from nlt_l (a := 36) (by omega) (by omega) (by omega))]
    refine RN_bd (CMswim h hm hd') (fun _ S1 h1 => ?_)
    have hn1 : ∀ k, k < 55 → S1.1 174 k = menc s k := fun k hk => (h1.2.2 _ _ (by decide)).trans (hn k hk)
    rw [show FU = 4995 + 5 from rfl, like4 h1.1 hn1 hm4]
    unfold firstF
    by_cases c : likeA s (swimA (swk s m i) m) m = true
    · rw [if_pos c, show likeA s (swk s m (i + 1)) m = true from c, if_pos rfl]
      exact RN_some ⟨rfl, h1.2⟩
    · rw [if_neg c, nI_1]
      have c' : ¬ likeA s (swk s m (i + 1)) m = true := c
      rw [if_neg c']
      exact RN_mono (ih fu (i + 1) S1 (by omega) (by omega) h1.1 hn1) (fun _ S' hh => ⟨hh.1, h1.2.tr hh.2⟩)
theorem q_again (v : Int32) : PQ B lv b s (f_X9_again 0 v) (f_X10_again 140 v) := by
  cases hv : idx (bM b) v with
  | none =>
    refine ⟨-1, fun S h => ?_, fun S h => ?_⟩
    · unfold f_X9_again
      rw [cM_eq h, bdq, hv, is1_n, if_pos rfl]
      exact RN_some ⟨rfl, CQ.rf⟩
    · unfold f_X10_again
      rw [mM_eq h, bdq, hv, is1_n, if_pos rfl]
      exact RN_some ⟨rfl, QF.rf⟩
  | some m =>
    refine ⟨firstF (fun i => likeA s (swk s m i) m) 36 1, fun S h => ?_, fun S h => ?_⟩
    · obtain ⟨e, hm⟩ := idx_some (by have := h.wb.m4; omega) hv
      unfold f_X9_again
      rw [cM_eq h, bdq, hv, is1_s, if_neg ne10, e]
      refine RN_bd (ctrial_run h) (fun _ S1 h1 => ?_)
      have h2 := QC_q h h1.2
      exact RN_mono (cagain_loop hm 36 FU 0 S1 (by decide) (by omega) h1.1 h2.rf h2.w.rs) (fun _ S' hh => ⟨hh.1, h1.2.tr hh.2.cq⟩)
    · obtain ⟨e, hm⟩ := idx_some (by have := h.wb.m4; omega) hv
      have hm4 : m < 4 := Nat.lt_of_lt_of_le hm h.wb.m4
      unfold f_X10_again
      rw [mM_eq h, bdq, hv, is1_s, if_neg ne10, e]
      refine RN_bd (copies_run h) (fun _ S1 h1 => ?_)
      have h2 := QM_q h h1.2.2.2
      rw [ix55_16 hm4, obq, rq_52 h1.1.rf, h1.1.row _ (by omega), menc_d hm4]
      by_cases c : (aD s).testBit m = true
      · rw [if_pos (bitI_1.mpr c)]
        refine RN_some ⟨?_, h1.2.2.2⟩
        have hl : likeA s (swk s m 1) m = true := by
          rw [swk_dead c]
          simp [likeA]
        show (1 : Int32) = if likeA s (swk s m 1) m = true then nI 1 else _
        rw [if_pos hl]
        rfl
      · rw [if_neg (fun q => c (bitI_1.mp q))]
        exact RN_mono (magain_loop hm (by simpa using c) 36 FU 0 S1 (by decide) (by omega) h1.1 h2.2.1) (fun _ S' hh => ⟨hh.1, h1.2.2.2.tr hh.2.mq⟩)
/-! then -/
theorem mths_sim {sd : Option Int32} (hb : wfB b) {p : Nat} (hp : p < bP b) : ∀ k, sim p (mths b sd p 1 s k) (mths b sd 0 (bP b) s k)
  | 0 => sim.rf
  | k + 1 => by
    have h6 := hb.p6
    exact month_sim hb (by omega) (mths_sim hb hp k) (by omega) (by omega) (Nat.le_refl _) (by omega) (Nat.zero_le _) (by omega)
def thenA (s : ASea) (p w : Nat) : Int32 := if w = 0 then pX s p else if w = 1 then pY s p else bitI (aO s) p
theorem thenA_sim {t : ASea} {p w : Nat} (h : sim p s t) : thenA s p w = thenA t p w := by
  unfold thenA pX pY bitI
  rw [h.2.2.2.2.2.1, h.2.2.2.2.2.2, h.2.2.2.1]
theorem cthen_loop {p n w : Nat} (hp : p < bP b) (hn : n ≤ 60) (hw : w < 3) (hM : aM s ≤ 31000) : ∀ (k fu i : Nat) (S : St), k < fu → i + k = n → CW B 40 37 b (mths b (some (nI (bSeed b))) p 1 s i) S → RFC B S.2.2 → RN (b_X9_then_43 fu 0 (nI p) (nI n) (nI w) (nI i) S) (fun r S' => r = thenA (mths b (some (nI (bSeed b))) p 1 s n) p w ∧ GO B 40 37 S S') := by
  intro k
  induction k with
  | zero =>
    intro fu i S hf hi h hr
    obtain ⟨fu, rfl⟩ : ∃ f, fu = f + 1 := ⟨fu - 1, by omega⟩
    have hi : i = n := by omega
    subst hi
    have hp6 : p < 6 := Nat.lt_of_lt_of_le hp h.wb.p6
    rw [b_X9_then_43, if_pos (le_l (by omega) (by omega) (Nat.le_refl _)), rc_6 hr, rc_37 hr, ix16 hp h.wb, ix22 hp h.wb, obq, obq, h.rs.row (lt36_16 hp h.wb), h.rs.row (lt36_22 hp h.wb), isOff_eq h.rs h.ws hp6, bdq]
    have h5 : w = 0 ∨ w = 1 ∨ w = 2 := by omega
    rcases h5 with rfl | rfl | rfl
    · rw [if_pos (by decide)]
      exact RN_some ⟨rfl, GO.rf⟩
    · rw [if_neg (by decide), if_pos (by decide)]
      exact RN_some ⟨rfl, GO.rf⟩
    · rw [if_neg (show ¬ nI 2 = 0 by decide), if_neg (show ¬ nI 2 = 1 by decide)]
      unfold thenA bitI
      rw [if_neg (show ¬ (2 : Nat) = 0 by decide), if_neg (show ¬ (2 : Nat) = 1 by decide)]
      by_cases ho : (aO (mths b (some (nI (bSeed b))) p 1 s i)).testBit p = true
      · rw [if_pos ho, if_neg (by decide)]
        exact RN_some ⟨rfl, GO.rf⟩
      · rw [if_neg ho, if_pos rfl]
        exact RN_some ⟨rfl, GO.rf⟩
  | succ k ih =>
    intro fu i S hf hi h hr
    obtain ⟨fu, rfl⟩ : ∃ f, fu = f + 1 := ⟨fu - 1, by omega⟩
    rw [b_X9_then_43, if_neg (nle_l (by omega) (by omega) (by omega)), rc_8 hr, nI_1]
    refine RN_bd (month_run h (by rw [mths_M]; omega) (lo := p) (n := 1) (by omega) 1) (fun _ S1 h1 => ?_)
    rw [nmq, nI_1]
    exact RN_mono (ih fu (i + 1) S1 (by omega) (by omega) h1.1 (by rw [h1.2.1]; exact hr)) (fun _ S' hh => ⟨hh.1, h1.2.tr hh.2⟩)
theorem sdM_some {d : Int32} (h3 : S.1 140 53 = d) (h4 : S.1 140 54 = 0) : sdM S = some d := by
  unfold sdM
  rw [if_pos h4, h3]
theorem sdM_none (h4 : S.1 140 54 = 1) : sdM S = none := by
  unfold sdM
  rw [h4, if_neg (by decide)]
theorem ix_then {p w : Nat} (hp : p < 6) (hw : w < 3) : ix ((20 : Int32) + 6 * nI w + nI p) 55 = some (20 + 6 * w + p) := by
  rw [show (6 : Int32) = nI 6 from rfl, pk_mul, show (20 : Int32) + nI (6 * w) = nI (20 + 6 * w) from nI_add 20 _]
  exact ixm (by omega) (by decide)
theorem q_then (v n w : Int32) : PQ B lv b s (f_X9_then 0 v n w) (f_X10_then 140 v n w) := by
  cases hv : idx (bP b) v with
  | none =>
    refine ⟨-1, fun S h => ?_, fun S h => ?_⟩
    · unfold f_X9_then
      rw [cP_eq h, bdq, hv, is1_n, if_pos rfl]
      exact RN_some ⟨rfl, CQ.rf⟩
    · unfold f_X10_then
      rw [mP_eq h, bdq, hv, is1_n, if_pos rfl]
      exact RN_some ⟨rfl, QF.rf⟩
  | some p =>
    cases hn : idx 61 n with
    | none =>
      refine ⟨-1, fun S h => ?_, fun S h => ?_⟩
      · unfold f_X9_then
        rw [cP_eq h, bdq, hv, is1_s, if_neg ne10, show (60 : Int32) = nI 60 from rfl, cin_eq 60 (by decide), bdq, hn, is1_n, if_pos rfl]
        exact RN_some ⟨rfl, CQ.rf⟩
      · unfold f_X10_then
        rw [mP_eq h, bdq, hv, is1_s, if_neg ne10, long_eq, bdq, hn, is1_n, if_pos rfl]
        exact RN_some ⟨rfl, QF.rf⟩
    | some k =>
      obtain ⟨rfl, hk⟩ := idx_some (by decide) hn
      cases hw : idx 3 w with
      | none =>
        refine ⟨-1, fun S h => ?_, fun S h => ?_⟩
        · unfold f_X9_then
          rw [cP_eq h, bdq, hv, is1_s, if_neg ne10, show (60 : Int32) = nI 60 from rfl, cin_eq 60 (by decide), bdq, hn, is1_s, if_neg ne10, show (2 : Int32) = nI 2 from rfl, cin_eq 2 (by decide), bdq, hw, is1_n, if_pos rfl]
          exact RN_some ⟨rfl, CQ.rf⟩
        · unfold f_X10_then
          rw [mP_eq h, bdq, hv, is1_s, if_neg ne10, long_eq, bdq, hn, is1_s, if_neg ne10, show (2 : Int32) = nI 2 from rfl, min_eq 2 (by decide), bdq, hw, is1_n, if_pos rfl]
          exact RN_some ⟨rfl, QF.rf⟩
      | some j =>
        obtain ⟨rfl, hj⟩ := idx_some (by decide) hw
        refine ⟨thenA (mths b (some (nI (bSeed b))) p 1 s k) p j, fun S h => ?_, fun S h => ?_⟩
        · obtain ⟨e, hp⟩ := idx_some (by have := h.wb.p6; omega) hv
          unfold f_X9_then
          rw [cP_eq h, bdq, hv, is1_s, if_neg ne10, show (60 : Int32) = nI 60 from rfl, cin_eq 60 (by decide), bdq, hn, is1_s, if_neg ne10, show (2 : Int32) = nI 2 from rfl, cin_eq 2 (by decide), bdq, hw, is1_s, if_neg ne10, e]
          refine RN_bd (ctrial_run h) (fun _ S1 h1 => ?_)
          exact RN_mono (cthen_loop hp (by omega) hj h.wa.1 k FU 0 S1 (by unfold FU; omega) (by omega) h1.1 (by rw [h1.2.1]; exact h.rf)) (fun _ S' hh => ⟨hh.1, h1.2.tr hh.2.cq⟩)
        · obtain ⟨e, hp⟩ := idx_some (by have := h.wb.p6; omega) hv
          have hp6 : p < 6 := Nat.lt_of_lt_of_le hp h.wb.p6
          unfold f_X10_then
          rw [mP_eq h, bdq, hv, is1_s, if_neg ne10, long_eq, bdq, hn, is1_s, if_neg ne10, show (2 : Int32) = nI 2 from rfl, min_eq 2 (by decide), bdq, hw, is1_s, if_neg ne10, e]
          refine RN_bd (copies_run h) (fun _ S1 h1 => ?_)
          refine RN_bd (mgoes_run h1.1 (n := k) (by omega) (by have := h.wa.1; omega)) (fun _ S2 h2 => ?_)
          obtain ⟨c2, g2⟩ := h2
          rw [sdM_some h1.2.1 h1.2.2.1] at c2
          rw [ix_then hp6 hj, obq, rq_52 c2.rf]
          refine RN_some ⟨?_, h1.2.2.2.tr g2.mq⟩
          rw [thenA_sim (mths_sim h.wb hp k)]
          unfold thenA
          have h5 : j = 0 ∨ j = 1 ∨ j = 2 := by omega
          rcases h5 with rfl | rfl | rfl
          · rw [if_pos rfl]; exact c2.px hp
          · rw [if_neg (by decide), if_pos rfl]; exact c2.py hp
          · rw [if_neg (by decide), if_neg (by decide)]; exact c2.off hp6
/-! turns -/
theorem feelF_zero {pl wa wd : Nat → Int32} {q : Nat → Bool} (hz : ∀ e, pl e = 0) : ∀ (m i : Nat) (u v : Int32), feelF pl wa wd q m i u v = (u, v)
  | 0, _, _, _ => rfl
  | m + 1, i, u, v => by
    have z : ∀ x y : Int32, x + 0 * y = x := fun x y => by rw [Int32.zero_mul, add_0]
    unfold feelF
    rw [hz, z, z, feelF_zero hz m]
    split <;> rfl
theorem held_ge {most : Int32} {o : Option Int32} : 0 ≤ heldV most o := by
  cases o with
  | none => show (0 : Int32) ≤ 0; decide
  | some v =>
    show (0 : Int32) ≤ mxI 0 (mnI most v)
    unfold mxI
    split
    next h => rw [i32_lt] at h; rw [i32_le]; omega
    next => decide
theorem stands_ge {p : Nat} {x y : Int32} : 0 ≤ standsA b s p x y := held_ge
theorem moved_off {p : Nat} {x y : Int32} (ho : (aO s).testBit p = true) : movedA b s p x y = false := by
  have hf : feelA b s p x y = (0, 0) := feelF_zero (fun e => by unfold pullA; rw [if_pos (Or.inr (Or.inr (Or.inr ho)))]) _ _ _ _
  unfold movedA
  rw [hf]
  have h0 : ¬ standsA b s p x y < abI 0 := i32_nlt.mpr stands_ge
  simp [h0]
def turnF (b : Bk) (s : ASea) (p : Nat) (i : Nat) : Bool := movedA b (mths b none p 1 s i) p (pX (mths b none p 1 s i) p) (pY (mths b none p 1 s i) p)
theorem cturn_loop {p n : Nat} (hp : p < bP b) (hn : n ≤ 60) (hM : aM s ≤ 31000) : ∀ (k fu i c : Nat) (S : St), k < fu → i + k = n → CW B 40 37 b (mths b none p 1 s i) S → RFC B S.2.2 → RN (b_X9_turns_36 fu 0 (nI p) (nI n) (nI c) (nI i) S) (fun r S' => r = nI (c + cntF (turnF b s p) k i) ∧ GO B 40 37 S S') := by
  intro k
  induction k with
  | zero =>
    intro fu i c S hf hi h hr
    obtain ⟨fu, rfl⟩ : ∃ f, fu = f + 1 := ⟨fu - 1, by omega⟩
    rw [b_X9_turns_36, if_pos (le_l (by omega) (by omega) (by omega))]
    exact RN_some ⟨rfl, GO.rf⟩
  | succ k ih =>
    intro fu i c S hf hi h hr
    obtain ⟨fu, rfl⟩ : ∃ f, fu = f + 1 := ⟨fu - 1, by omega⟩
    rw [b_X9_turns_36, if_neg (nle_l (by omega) (by omega) (by omega)), rc_6 hr, rc_37 hr, ix16 hp h.wb, ix22 hp h.wb, obq, nmq, obq, nmq, h.rs.row (lt36_16 hp h.wb), h.rs.row (lt36_22 hp h.wb), rc_8 hr]
    refine RN_bd (moved_run h hp _ _) (fun r S1 h1 => ?_)
    obtain ⟨rfl, hE⟩ := h1
    have h2 := CW_w h hE
    have hr2 : RFC B S1.2.2 := by rw [hE.1]; exact hr
    have fin : ∀ c', RN (b_X9_turns_88 (b_X9_turns_36 fu) 0 (nI p) (nI n) (nI c') (nI i) S1) (fun r S' => r = nI (c' + cntF (turnF b s p) k (i + 1)) ∧ GO B 40 37 S S') := by
      intro c'
      unfold b_X9_turns_88
      rw [rc_8 hr2, nI_1]
      refine RN_bd (month_run h2 (by rw [mths_M]; omega) (lo := p) (n := 1) (by omega) 0) (fun _ S2 h3 => ?_)
      rw [nmq, nI_1]
      exact RN_mono (ih fu (i + 1) c' S2 (by omega) (by omega) h3.1 (by rw [h3.2.1]; exact hr2)) (fun _ S' hh => ⟨hh.1, (hE.go.tr h3.2).tr hh.2⟩)
    unfold cntF
    by_cases c1 : turnF b s p i = true
    · rw [if_pos (show movedA b (mths b none p 1 s i) p (aR (mths b none p 1 s i) (16 + p)) (aR (mths b none p 1 s i) (22 + p)) = true from c1), if_neg ne10, nmq, nI_1, if_pos c1, ← Nat.add_assoc]
      exact fin (c + 1)
    · rw [if_neg (show ¬ movedA b (mths b none p 1 s i) p (aR (mths b none p 1 s i) (16 + p)) (aR (mths b none p 1 s i) (22 + p)) = true from c1), if_pos rfl, if_neg c1, Nat.zero_add]
      exact fin c
theorem mturn_loop {p n : Nat} (hp : p < bP b) (hn : n ≤ 60) (hM : aM s ≤ 31000) : ∀ (k fu i c : Nat) (S : St), k < fu → i + k = n → CMx lv b (mths b none 0 (bP b) s i) S → sdM S = none → RN (b_X10_turns_26 fu 140 (nI p) (nI n) (nI c) (nI i) S) (fun r S' => r = nI (c + cntF (turnF b s p) k i) ∧ MG S S') := by
  intro k
  induction k with
  | zero =>
    intro fu i c S hf hi h hs
    obtain ⟨fu, rfl⟩ : ∃ f, fu = f + 1 := ⟨fu - 1, by omega⟩
    rw [b_X10_turns_26, if_pos (le_l (by omega) (by omega) (by omega))]
    exact RN_some ⟨rfl, MG.rf⟩
  | succ k ih =>
    intro fu i c S hf hi h hs
    obtain ⟨fu, rfl⟩ : ∃ f, fu = f + 1 := ⟨fu - 1, by omega⟩
    have hp6 : p < 6 := Nat.lt_of_lt_of_le hp h.wb.p6
    rw [b_X10_turns_26, if_neg (nle_l (by omega) (by omega) (by omega))]
    refine RN_bd (mmonth_run h (by rw [mths_M]; omega)) (fun _ S1 h1 => ?_)
    obtain ⟨c1, f1, g1⟩ := h1
    rw [hs] at c1
    have hs1 : sdM S1 = none := (sdM_g g1).trans hs
    have hsim := mths_sim (sd := none) (s := s) h.wb hp i
    have hT : (!(aO (mths b none 0 (bP b) s i)).testBit p && movedA b (mths b none 0 (bP b) s i) p (pX (mths b none 0 (bP b) s i) p) (pY (mths b none 0 (bP b) s i) p)) = turnF b s p i := by
      unfold turnF
      rw [show pX (mths b none p 1 s i) p = pX (mths b none 0 (bP b) s i) p from hsim.2.2.2.2.2.1, show pY (mths b none p 1 s i) p = pY (mths b none 0 (bP b) s i) p from hsim.2.2.2.2.2.2, moved_sim h.wb hsim]
      by_cases ho : (aO (mths b none 0 (bP b) s i)).testBit p = true
      · rw [moved_off ho, ho]; rfl
      · simp [ho]
    rw [ix6 hp6, obq, rq_57 c1.rf, f1 p hp, hT]
    have fin : ∀ c', RN (b_X10_turns_48 (b_X10_turns_26 fu) 140 (nI p) (nI n) (nI c') (nI i) S1) (fun r S' => r = nI (c' + cntF (turnF b s p) k (i + 1)) ∧ MG S S') := by
      intro c'
      unfold b_X10_turns_48
      rw [nmq, nI_1]
      exact RN_mono (ih fu (i + 1) c' S1 (by omega) (by omega) c1 hs1) (fun _ S' hh => ⟨hh.1, g1.tr hh.2⟩)
    unfold cntF
    by_cases c2 : turnF b s p i = true
    · rw [if_pos c2, if_neg ne10, nmq, nI_1, if_pos c2, ← Nat.add_assoc]
      exact fin (c + 1)
    · rw [if_neg c2, if_pos rfl, if_neg c2, Nat.zero_add]
      exact fin c
theorem q_turns (v n : Int32) : PQ B lv b s (f_X9_turns 0 v n) (f_X10_turns 140 v n) := by
  cases hv : idx (bP b) v with
  | none =>
    refine ⟨-1, fun S h => ?_, fun S h => ?_⟩
    · unfold f_X9_turns
      rw [cP_eq h, bdq, hv, is1_n, if_pos rfl]
      exact RN_some ⟨rfl, CQ.rf⟩
    · unfold f_X10_turns
      rw [mP_eq h, bdq, hv, is1_n, if_pos rfl]
      exact RN_some ⟨rfl, QF.rf⟩
  | some p =>
    cases hn : idx 61 n with
    | none =>
      refine ⟨-1, fun S h => ?_, fun S h => ?_⟩
      · unfold f_X9_turns
        rw [cP_eq h, bdq, hv, is1_s, if_neg ne10, show (60 : Int32) = nI 60 from rfl, cin_eq 60 (by decide), bdq, hn, is1_n, if_pos rfl]
        exact RN_some ⟨rfl, CQ.rf⟩
      · unfold f_X10_turns
        rw [mP_eq h, bdq, hv, is1_s, if_neg ne10, long_eq, bdq, hn, is1_n, if_pos rfl]
        exact RN_some ⟨rfl, QF.rf⟩
    | some k =>
      obtain ⟨rfl, hk⟩ := idx_some (by decide) hn
      refine ⟨nI (0 + cntF (turnF b s p) k 0), fun S h => ?_, fun S h => ?_⟩
      · obtain ⟨e, hp⟩ := idx_some (by have := h.wb.p6; omega) hv
        unfold f_X9_turns
        rw [cP_eq h, bdq, hv, is1_s, if_neg ne10, show (60 : Int32) = nI 60 from rfl, cin_eq 60 (by decide), bdq, hn, is1_s, if_neg ne10, e]
        refine RN_bd (ctrial_run h) (fun _ S1 h1 => ?_)
        exact RN_mono (cturn_loop hp (by omega) h.wa.1 k FU 0 0 S1 (by unfold FU; omega) (by omega) h1.1 (by rw [h1.2.1]; exact h.rf)) (fun _ S' hh => ⟨hh.1, h1.2.tr hh.2.cq⟩)
      · obtain ⟨e, hp⟩ := idx_some (by have := h.wb.p6; omega) hv
        unfold f_X10_turns
        rw [mP_eq h, bdq, hv, is1_s, if_neg ne10, long_eq, bdq, hn, is1_s, if_neg ne10, e]
        refine RN_bd (still_run h) (fun _ S1 h1 => ?_)
        exact RN_mono (mturn_loop hp (by omega) h.wa.1 k FU 0 0 S1 (by unfold FU; omega) (by omega) h1.1 (sdM_none h1.2.2.1)) (fun _ S' hh => ⟨hh.1, h1.2.2.2.tr hh.2.mq⟩)
end ASK3

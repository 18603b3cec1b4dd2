/-! cutBest, give -/
section BST
variable {B lv : Nat} {b : Bk} {s : ASea} {S S' : St}
/-- a PERSON who fares alike is OFF alike -/
theorem mths_alike {t : ASea} (hb : wfB b) {q : Nat} (hq : q < bP b) (h : sim q s t) : ∀ k, sim q (mths b none 0 (bP b) s k) (mths b none 0 (bP b) t k)
  | 0 => h
  | k + 1 => by
    have h6 := hb.p6
    exact month_sim hb (by omega) (mths_alike hb hq h k) (by omega) (by omega) (Nat.zero_le _) (by omega) (Nat.zero_le _) (by omega)
theorem fN_alike {t : ASea} (hb : wfB b) {q : Nat} (hq : q < bP b) (h : sim q s t) (hL : fN b s ≠ 101) (hd : (aO (fS b s)).testBit q = true) (hs : (aO s).testBit q = false) : fN b t ≤ fN b s := by
  have hle := fN_le (b := b) (s := s)
  refine fN_min fN_ge (by omega) (fun e => ?_)
  have h1 := mths_alike hb hq h (fN b s)
  unfold fS at hd
  rw [if_neg hL] at hd
  have h2 : (aO (mths b none 0 (bP b) t (fN b s))).testBit q = true := h1.2.2.2.1.symm.trans hd
  rw [e] at h2
  have h3 : (aO t).testBit q = false := h.2.2.2.1.symm.trans hs
  rw [h3] at h2
  cases h2
def cutS (s : ASea) (e : Nat) : ASea := (s.1, s.2.1, s.2.2.1, s.2.2.2.1, s.2.2.2.2 ||| 1 <<< e)
def giveS (s : ASea) (e p : Nat) : ASea := ((fun k => if k = 28 + e then nI p else aR s k), s.2)
theorem cutS_worn {e q i : Nat} (h : ¬ aR s (28 + e) = nI q) : wornA (cutS s e) i q = wornA s i q := by
  unfold wornA
  show (_ && !(aC s ||| 1 <<< e).testBit i) = _
  rw [tb_or]
  by_cases c : e = i
  · subst c
    show (decide (aR s (28 + e) = nI q) && _) = _
    simp [h]
  · simp [c]
    rfl
theorem cutS_sim {e q : Nat} (h : ¬ aR s (28 + e) = nI q) : sim q s (cutS s e) := ⟨fun _ _ => rfl, rfl, rfl, rfl, fun i _ => (cutS_worn h).symm, rfl, rfl⟩
theorem giveS_row {e p k : Nat} (hk : k ≠ 28 + e) : aR (giveS s e p) k = aR s k := by
  show (if k = 28 + e then nI p else aR s k) = _
  rw [if_neg hk]
theorem giveS_sim {e p q : Nat} (hq6 : q < 6) (hp6 : p < 6) (h : ¬ aR s (28 + e) = nI q) (hq : q ≠ p) : sim q s (giveS s e p) := by
  refine ⟨fun k hk => (giveS_row (by omega)).symm, rfl, rfl, rfl, fun i hi => ?_, (giveS_row (by omega)).symm, (giveS_row (by omega)).symm⟩
  unfold wornA
  by_cases c : i = e
  · subst c
    have e1 : aR (giveS s i p) (28 + i) = nI p := by
      show (if 28 + i = 28 + i then nI p else _) = _
      rw [if_pos rfl]
    rw [e1]
    have : ¬ nI p = nI q := fun g => hq ((nI_eq (by omega) (by omega)).mp g).symm
    simp [h, this]
  · rw [giveS_row (by omega)]
    rfl
theorem cutS_wf {e : Nat} (hb : wfB b) (he : e < bS b) (h : wfA b s) : wfA b (cutS s e) := by
  have h8 := hb.s8
  refine ⟨h.1, ⟨h.2.1.1, h.2.1.2.1, h.2.1.2.2.1, or256 h.2.1.2.2.2 (by omega)⟩, h.2.2.1, h.2.2.2.1, h.2.2.2.2.1, fun i hi => ?_⟩
  show (aC s ||| 1 <<< e).testBit i = false
  rw [tb_or, h.2.2.2.2.2 i hi]
  simp
  omega
theorem giveS_wfP {e p : Nat} (hb : wfB b) (hp : p < bP b) (h : wfP (bM b) (bP b) (bS b) s) : wfP (bM b) (bP b) (bS b) (giveS s e p) := by
  have h4 := hb.m4
  have h6 := hb.p6
  refine ⟨fun m hm => ?_, fun q hq => ?_, fun i hi => ?_⟩
  · rw [giveS_row (by omega), giveS_row (by omega), giveS_row (by omega), giveS_row (by omega)]
    exact h.1 m hm
  · rw [giveS_row (by omega), giveS_row (by omega)]
    exact h.2.1 q hq
  · by_cases c : i = e
    · subst c
      refine ⟨p, hp, ?_⟩
      show (if 28 + i = 28 + i then nI p else _) = _
      rw [if_pos rfl]
    · rw [giveS_row (by omega)]
      exact h.2.2 i hi
theorem giveS_wf {e p : Nat} (hb : wfB b) (hp : p < bP b) (h : wfA b s) : wfA b (giveS s e p) := ⟨h.1, h.2.1, giveS_wfP hb hp h.2.2.1, h.2.2.2⟩
/-! cutBest in the abstract: over all, or over those who matter -/
def cbF (q : Nat → Bool) (f : Nat → Nat) : Nat → Nat → Nat → Int32 → Nat × Int32
  | 0, _, l, x => (l, x)
  | m + 1, i, l, x => if q i && decide (l < f i) then cbF q f m (i + 1) (f i) (nI i) else cbF q f m (i + 1) l x
theorem cbF_same {q q' : Nat → Bool} {f : Nat → Nat} {L : Nat} : ∀ (m i l : Nat) (x : Int32), (∀ j, i ≤ j → j < i + m → (q j = true → q' j = true) ∧ (q' j = true → q j = false → f j ≤ L)) → L ≤ l → cbF q f m i l x = cbF q' f m i l x
  | 0, _, _, _, _, _ => rfl
  | m + 1, i, l, x, hh, hl => by
    have hn : ∀ j, i + 1 ≤ j → j < i + 1 + m → (q j = true → q' j = true) ∧ (q' j = true → q j = false → f j ≤ L) := fun j h1 h2 => hh j (by omega) (by omega)
    obtain ⟨h, h'⟩ := hh i (Nat.le_refl _) (by omega)
    unfold cbF
    by_cases c : q i = true
    · rw [c, h c]
      by_cases d : l < f i
      · simp only [d, decide_true, Bool.true_and, if_true]
        exact cbF_same m (i + 1) _ _ hn (by omega)
      · simp only [d, decide_false, Bool.true_and]
        exact cbF_same m (i + 1) _ _ hn hl
    · have c0 : q i = false := by simpa using c
      rw [c0]
      by_cases c2 : q' i = true
      · have := h' c2 c0
        rw [c2]
        have d : ¬ l < f i := by omega
        simp only [d, decide_false, Bool.true_and, Bool.false_and]
        exact cbF_same m (i + 1) _ _ hn hl
      · have c20 : q' i = false := by simpa using c2
        rw [c20]
        simp only [Bool.false_and]
        exact cbF_same m (i + 1) _ _ hn hl
theorem cbF_top {q : Nat → Bool} {f : Nat → Nat} (hf : ∀ i, f i ≤ 101) : ∀ (m i l : Nat) (x : Int32), 101 ≤ l → cbF q f m i l x = (l, x)
  | 0, _, _, _, _ => rfl
  | m + 1, i, l, x, hl => by
    unfold cbF
    have := hf i
    have d : ¬ l < f i := by omega
    simp only [d, decide_false, Bool.and_false]
    exact cbF_top hf m (i + 1) l x hl
theorem sh1 : ∀ n : Nat, n < 6 → (1 : Int32) <<< (nI n &&& 31) = nI (1 <<< n) := by decide
def fallN (b : Bk) (s : ASea) : Nat := dfN (aO (fS b s)) (aO s)
theorem RS_cut {a o : Nat} {t : ASea} (h : RS a t S) : RS a (t.1, t.2.1, t.2.2.1, t.2.2.2.1, o) (sI S a 4 (nI o)) := ⟨fun k hk => (sI_ne (by omega)).trans (h.1 k hk), (sI_ne (by omega)).trans h.2.1, (sI_ne (by omega)).trans h.2.2.1, (sI_ne (by omega)).trans h.2.2.2.1, sI_at⟩
theorem ctr_run (h : QC B b s S) : RN (f_X5_copyFrom 37 35 S) (fun _ S' => CW B 40 37 b s S' ∧ CQ B S S') := by
  have h1 := ctrial_run h
  rw [rc_6 h.rf, rc_5 h.rf] at h1
  exact h1
theorem fallN_lt (hb : wfB b) (h : wfA b s) : fallN b s < 64 := by
  obtain ⟨w1, -⟩ := mths_wf (sd := none) (lo := 0) (n := bP b) hb h.2.1 h.2.2.1 (by omega) (if fN b s = 101 then 100 else fN b s) (by have := h.1; have := fN_le (b := b) (s := s); split <;> omega)
  exact dfN_lt (n := 6) w1.2.1 h.2.1.2.1
theorem fall_ne {w : Nat} (hb : wfB b) (h : wfA b s) (hL : fN b s ≠ 101) (hw : ∀ q, q < bP b → (fallN b s).testBit q = true → q = w) : fallN b s = 1 <<< w := by
  have hlt := fallN_lt hb h
  have hO : wfO b (fS b s) := mths_wfO (by omega) h.2.2.2 _
  have hq : ∀ q, (fallN b s).testBit q = true → q = w := fun q hq => by
    have h1 := hq
    unfold fallN at h1
    rw [dfN_tb] at h1
    have h2 := (Bool.and_eq_true_iff.mp h1).1
    refine hw q ?_ hq
    rcases Nat.lt_or_ge q (bP b) with g | g
    · exact g
    · rw [hO.1 q g] at h2; cases h2
  have hne : ¬ fallN b s = 0 := by
    have hA := fN_at hL
    unfold fallN
    unfold fS at hA ⊢
    exact fun q => hA ((dfN_aO h.2.2.2).mp q)
  obtain ⟨j, -, hj⟩ := low_ex hlt hne
  have ej := hq j hj
  refine nat_ext (fun i => ?_)
  rw [Nat.one_shiftLeft, Nat.testBit_two_pow]
  by_cases c : w = i
  · rw [← c, ← ej, hj]; simp
  · cases hb2 : (fallN b s).testBit i with
    | true => exact absurd (hq i hb2).symm c
    | false => simp [c]
theorem ccut_loop (hb : wfB b) (hfl : fallN b s < 64) : ∀ (m fu i l : Nat) (x : Int32) (S : St), m < fu → i + m = bS b → l ≤ 101 → QC B b s S → RN (b_X9_cutBest_43 fu 0 (nI l) (nI (fallN b s)) x (nI i) S) (fun r S' => r = (cbF (fun e => !(aC s).testBit e && decide (fallN b s = 1 <<< wr s e)) (fun e => fN b (cutS s e)) m i l x).2 ∧ CQ B S S') := by
  have h8 := hb.s8
  have h6 := hb.p6
  intro m
  induction m with
  | zero =>
    intro fu i l x S hf hi hl h
    obtain ⟨fu, rfl⟩ : ∃ f, fu = f + 1 := ⟨fu - 1, by omega⟩
    rw [b_X9_cutBest_43, rc_3 h.rf, h.w.nS, if_pos (le_l (by omega) (by omega) (by omega))]
    exact RN_some ⟨rfl, CQ.rf⟩
  | succ m ih =>
    intro fu i l x S hf hi hl h
    obtain ⟨fu, rfl⟩ : ∃ f, fu = f + 1 := ⟨fu - 1, by omega⟩
    have hi' : i < bS b := by omega
    obtain ⟨w1, w2⟩ := wr_eq h.w.wp hb hi'
    rw [b_X9_cutBest_43, rc_3 h.rf, h.w.nS, if_neg (nle_l (by omega) (by omega) (by omega))]
    by_cases c0 : l = 101
    · rw [if_pos (show (101 : Int32) ≤ nI l by rw [c0]; decide), cbF_top (fun _ => fN_le) _ _ _ _ (by omega)]
      exact RN_some ⟨rfl, CQ.rf⟩
    rw [if_neg (show ¬ (101 : Int32) ≤ nI l from nle_l (a := 101) (by omega) (by omega) (by omega)), rc_5 h.rf, isCut_eq h.w.rs h.w.ws (by omega), bdq]
    have next : ∀ (S1 : St) (l' : Nat) (x' : Int32), l' ≤ 101 → CQ B S S1 → RN (b_X9_cutBest_140 (b_X9_cutBest_43 fu) 0 (nI l') (nI (fallN b s)) x' (nI i) S1) (fun r S' => r = (cbF (fun e => !(aC s).testBit e && decide (fallN b s = 1 <<< wr s e)) (fun e => fN b (cutS s e)) m (i + 1) l' x').2 ∧ CQ B S S') := by
      intro S1 l' x' hl' hq
      unfold b_X9_cutBest_140
      rw [nmq, nI_1]
      exact RN_mono (ih fu (i + 1) l' x' S1 (by omega) (by omega) hl' (QC_q h hq)) (fun r S' hh => ⟨hh.1, hq.tr hh.2⟩)
    unfold cbF
    by_cases hc : (aC s).testBit i = true
    · rw [if_pos hc, if_neg ne10]
      simp only [hc, Bool.not_true, Bool.false_and]
      exact next S l x hl CQ.rf
    · rw [if_neg hc, if_pos rfl, ix28 hi' hb, obq, rc_5 h.rf, rc_35 h.rf, h.row (lt36_28 hi' hb), w1, sh1 _ (by omega)]
      have hw64 : 1 <<< wr s i < 64 := by rw [Nat.one_shiftLeft]; exact Nat.pow_lt_pow_right (n := 6) (by decide) (by omega)
      have e1 : (nI (fallN b s) = nI (1 <<< wr s i)) ↔ fallN b s = 1 <<< wr s i := nI_eq (by omega) (by omega)
      by_cases hfa : fallN b s = 1 <<< wr s i
      · rw [if_pos (e1.mpr hfa), rc_6 h.rf]
        refine RN_bd (ctr_run h) (fun _ S1 h1 => ?_)
        have r1 : RFC B S1.2.2 := by rw [h1.2.1]; exact h.rf
        rw [nmq, rc_6 r1, h1.1.rs.2.2.2.2, orI (aC s) h.w.ws.2.2.2 i (by omega)]
        have ea : EA 37 S1 (sI S1 37 4 (nI (aC s ||| 1 <<< i))) := EA_fld (by decide) (by decide)
        have wa := cutS_wf hb hi' h.wa
        have c2 : CW B 40 37 b (cutS s i) (sI S1 37 4 (nI (aC s ||| 1 <<< i))) := CW_a h1.1 ea (RS_cut h1.1.rs) wa.2.1 wa.2.2.1
        have r2 : RFC B (sI S1 37 4 (nI (aC s ||| 1 <<< i))).2.2 := r1
        rw [rc_8 r2]
        refine RN_bd (cfirst_run c2 (by have := wa.1; omega)) (fun r S3 h3 => ?_)
        obtain ⟨rfl, -, g3⟩ := h3
        have hq : CQ B S S3 := (h1.2.tr ea.cq).tr g3.cq
        have fle := fN_le (b := b) (s := cutS s i)
        by_cases d : l < fN b (cutS s i)
        · rw [if_neg (nle_l (by omega) (by omega) d)]
          rw [if_pos (show ((!(aC s).testBit i && decide (fallN b s = 1 <<< wr s i)) && decide (l < fN b (cutS s i))) = true by rw [decide_eq_true hfa, decide_eq_true d]; simp [hc])]
          exact next S3 _ _ fle hq
        · rw [if_pos (le_l (by omega) (by omega) (by omega))]
          simp only [d, decide_false, Bool.and_false]
          exact next S3 l x hl hq
      · rw [if_neg (fun q => hfa (e1.mp q))]
        simp only [hfa, decide_false, Bool.and_false, Bool.false_and]
        exact next S l x hl CQ.rf
theorem CMx_cut {e : Nat} (h : CMx lv b s S) (he : e < bS b) (hw : wfA b s) : CMx lv b (cutS s e) (sI S 175 (46 + e) 1) := by
  have h8 := h.wb.s8
  have wa := cutS_wf h.wb he hw
  refine CMx_g h MG_175 (RW_upd h.row (fun k hk => ?_)) wa.2.1 wa.2.2.1
  by_cases c : k = 54
  · subst c
    rw [if_neg (by omega)]
    rfl
  · exact menc_cut (by omega) (by omega)
theorem mcut_loop (hb : wfB b) : ∀ (m fu i l : Nat) (x : Int32) (S : St), m < fu → i + m = bS b → l ≤ 101 → QM lv b s S → RN (b_X10_cutBest_14 fu 140 (nI l) x (nI i) S) (fun r S' => r = (cbF (fun e => !(aC s).testBit e) (fun e => fN b (cutS s e)) m i l x).2 ∧ QF S S') := by
  have h8 := hb.s8
  intro m
  induction m with
  | zero =>
    intro fu i l x S hf hi hl h
    obtain ⟨fu, rfl⟩ : ∃ f, fu = f + 1 := ⟨fu - 1, by omega⟩
    rw [b_X10_cutBest_14, h.k.ixl, obq, rq_29 h.rf, h.k.nS, if_pos (le_l (by omega) (by omega) (by omega))]
    exact RN_some ⟨rfl, QF.rf⟩
  | succ m ih =>
    intro fu i l x S hf hi hl h
    obtain ⟨fu, rfl⟩ : ∃ f, fu = f + 1 := ⟨fu - 1, by omega⟩
    have hi' : i < bS b := by omega
    have hi8 : i < 8 := by omega
    rw [b_X10_cutBest_14, h.k.ixl, obq, rq_29 h.rf, h.k.nS, if_neg (nle_l (by omega) (by omega) (by omega)), ix55_46 hi8, obq, rq_51 h.rf, h.now (by omega), menc_c hi8]
    have next : ∀ (S1 : St) (l' : Nat) (x' : Int32), l' ≤ 101 → QF S S1 → RN (b_X10_cutBest_77 (b_X10_cutBest_14 fu) 140 (nI l') x' (nI i) S1) (fun r S' => r = (cbF (fun e => !(aC s).testBit e) (fun e => fN b (cutS s e)) m (i + 1) l' x').2 ∧ QF S S') := by
      intro S1 l' x' hl' hq
      unfold b_X10_cutBest_77
      rw [nmq, nI_1]
      exact RN_mono (ih fu (i + 1) l' x' S1 (by omega) (by omega) hl' (QM_q h hq)) (fun r S' hh => ⟨hh.1, hq.tr hh.2⟩)
    unfold cbF
    by_cases hc : (aC s).testBit i = true
    · rw [if_pos (bitI_1.mpr hc)]
      simp only [hc, Bool.not_true, Bool.false_and]
      exact next S l x hl QF.rf
    · rw [if_neg (fun q => hc (bitI_1.mp q))]
      refine RN_bd (copies_run h) (fun _ S1 h1 => ?_)
      rw [obq, nmq, rq_52 h1.1.rf]
      have c2 := CMx_cut h1.1 hi' h.wa
      have wa := cutS_wf hb hi' h.wa
      refine RN_bd (mfirst_run c2 (by have := wa.1; omega) wa.2.2.2) (fun r S3 h3 => ?_)
      obtain ⟨rfl, -, g3⟩ := h3
      have hq : QF S S3 := (h1.2.2.2.tr MG_175.mq).tr g3.mq
      have fle := fN_le (b := b) (s := cutS s i)
      by_cases d : l < fN b (cutS s i)
      · rw [if_pos (lt_l (by omega) (by omega) d)]
        simp only [hc, d, decide_true, Bool.not_false, Bool.true_and, if_true]
        exact next S3 _ _ fle hq
      · rw [if_neg (nlt_l (by omega) (by omega) (by omega))]
        simp only [d, decide_false, Bool.and_false]
        exact next S3 l x hl hq
theorem q_cutBest : PQ B lv b s (f_X9_cutBest 0) (f_X10_cutBest 140) := by
  have fle := fN_le (b := b) (s := s)
  refine ⟨(cbF (fun e => !(aC s).testBit e) (fun e => fN b (cutS s e)) (bS b) 0 (fN b s) (-2)).2, fun S h => ?_, fun S h => ?_⟩
  · have h8 := h.wb.s8
    have h6 := h.wb.p6
    unfold f_X9_cutBest
    refine RN_bd (ctrial_run h) (fun _ S1 h1 => ?_)
    have r1 : RFC B S1.2.2 := by rw [h1.2.1]; exact h.rf
    rw [rc_8 r1]
    refine RN_bd (cfirst_run h1.1 (by have := h.wa.1; omega)) (fun r S2 h2 => ?_)
    obtain ⟨rfl, c2, g2⟩ := h2
    have hq := h1.2.tr g2.cq
    have q2 := QC_q h hq
    rw [nmq, rc_6 q2.rf, rc_5 q2.rf, c2.rs.2.2.1, q2.w.rs.2.2.1, dfN_eq]
    have hfl := fallN_lt h.wb h.wa
    refine RN_mono (ccut_loop h.wb hfl (bS b) FU 0 (fN b s) (-2) S2 (by unfold FU; omega) (by omega) fle q2) (fun r S' hh => ⟨?_, hq.tr hh.2⟩)
    rw [hh.1]
    by_cases c : fN b s = 101
    · rw [cbF_top (fun _ => fN_le) _ _ _ _ (by omega), cbF_top (fun _ => fN_le) _ _ _ _ (by omega)]
    · rw [cbF_same (L := fN b s) (q' := fun e => !(aC s).testBit e) _ _ _ _ (fun e _ he => ⟨fun g => (Bool.and_eq_true_iff.mp g).1, fun g1 g2 => ?_⟩) (Nat.le_refl _)]
      have he : e < bS b := by omega
      obtain ⟨w1, w2⟩ := wr_eq h.w.wp h.wb he
      have g3 : ¬ fallN b s = 1 <<< wr s e := fun q => by rw [g1, q] at g2; simp at g2
      refine Classical.byContradiction (fun hn => g3 (fall_ne h.wb h.wa c (fun q hq hb => Classical.byContradiction (fun hqw => hn ?_))))
      have hb2 := hb
      unfold fallN at hb2
      rw [dfN_tb] at hb2
      obtain ⟨b1, b2⟩ := Bool.and_eq_true_iff.mp hb2
      exact fN_alike h.wb hq (cutS_sim (fun g => hqw (by rw [w1] at g; exact ((nI_eq (by omega) (by omega)).mp g).symm))) c b1 (by simpa using b2)
  · unfold f_X10_cutBest
    refine RN_bd (copies_run h) (fun _ S1 h1 => ?_)
    refine RN_bd (mfirst_run h1.1 (by have := h.wa.1; omega) h.wa.2.2.2) (fun r S2 h2 => ?_)
    obtain ⟨rfl, -, g2⟩ := h2
    have hq := h1.2.2.2.tr g2.mq
    exact RN_mono (mcut_loop h.wb (bS b) FU 0 (fN b s) (-2) S2 (by have := h.wb.s8; unfold FU; omega) (by omega) fle (QM_q h hq)) (fun r S' hh => ⟨hh.1, hq.tr hh.2⟩)
/-! give -/
def mayG (s : ASea) (e p : Nat) : Bool := !decide (aR s (28 + e) = nI p) && !(aO s).testBit p
theorem cgive_loop (hb : wfB b) {e FA : Nat} (he : e < bS b) (hcut : (aC s).testBit e = false) (hFA : FA < 64) : ∀ (m fu i l : Nat) (x : Int32) (S : St), m < fu → i + m = bP b → l ≤ 101 → QC B b s S → RN (b_X9_give_71 fu 0 (nI e) (nI l) (nI FA) x (nI i) S) (fun r S' => r = (cbF (fun p => mayG s e p && decide (dfN FA (1 <<< p) = 0)) (fun p => fN b (giveS s e p)) m i l x).2 ∧ CQ B S S') := by
  have h8 := hb.s8
  have h6 := hb.p6
  intro m
  induction m with
  | zero =>
    intro fu i l x S hf hi hl h
    obtain ⟨fu, rfl⟩ : ∃ f, fu = f + 1 := ⟨fu - 1, by omega⟩
    rw [b_X9_give_71, rc_3 h.rf, h.w.nP, if_pos (le_l (by omega) (by omega) (by omega))]
    exact RN_some ⟨rfl, CQ.rf⟩
  | succ m ih =>
    intro fu i l x S hf hi hl h
    obtain ⟨fu, rfl⟩ : ∃ f, fu = f + 1 := ⟨fu - 1, by omega⟩
    have hi' : i < bP b := by omega
    rw [b_X9_give_71, rc_3 h.rf, h.w.nP, if_neg (nle_l (by omega) (by omega) (by omega))]
    by_cases c0 : l = 101
    · rw [if_pos (show (101 : Int32) ≤ nI l by rw [c0]; decide), cbF_top (fun _ => fN_le) _ _ _ _ (by omega)]
      exact RN_some ⟨rfl, CQ.rf⟩
    rw [if_neg (show ¬ (101 : Int32) ≤ nI l from nle_l (a := 101) (by omega) (by omega) (by omega)), rc_5 h.rf, mayBe_eq h.w.ra h.w.rs h.w.ws (by omega) (by omega), bdq]
    have next : ∀ (S1 : St) (l' : Nat) (x' : Int32), l' ≤ 101 → CQ B S S1 → RN (b_X9_give_160 (b_X9_give_71 fu) 0 (nI e) (nI l') (nI FA) x' (nI i) S1) (fun r S' => r = (cbF (fun p => mayG s e p && decide (dfN FA (1 <<< p) = 0)) (fun p => fN b (giveS s e p)) m (i + 1) l' x').2 ∧ CQ B S S') := by
      intro S1 l' x' hl' hq
      unfold b_X9_give_160
      rw [nmq, nI_1]
      exact RN_mono (ih fu (i + 1) l' x' S1 (by omega) (by omega) hl' (QC_q h hq)) (fun r S' hh => ⟨hh.1, hq.tr hh.2⟩)
    unfold cbF
    by_cases hm : mayG s e i = true
    · have hm2 : ¬ aR s (28 + e) = nI i ∧ (aC s).testBit e = false ∧ (aO s).testBit i = false := by
        unfold mayG at hm
        obtain ⟨m1, m2⟩ := Bool.and_eq_true_iff.mp hm
        exact ⟨by simpa using m1, hcut, by simpa using m2⟩
      have hw64 : 1 <<< i < 64 := by rw [Nat.one_shiftLeft]; exact Nat.pow_lt_pow_right (n := 6) (by decide) (by omega)
      have hdl : dfN FA (1 <<< i) < 64 := dfN_lt (n := 6) hFA hw64
      rw [if_pos hm2, if_neg ne10, sh1 _ (by omega), dfN_eq]
      by_cases hfa : dfN FA (1 <<< i) = 0
      · rw [if_pos (show nI (dfN FA (1 <<< i)) = 0 by rw [hfa]; rfl), rc_6 h.rf, rc_5 h.rf]
        refine RN_bd (ctr_run h) (fun _ S1 h1 => ?_)
        have r1 : RFC B S1.2.2 := by rw [h1.2.1]; exact h.rf
        rw [ix28 he hb, obq, nmq, rc_6 r1, rc_37 r1]
        have ea : EA 37 S1 (sI S1 38 (28 + e) (nI i)) := EA_row
        have wa := giveS_wf (e := e) hb hi' h.wa
        have c2 : CW B 40 37 b (giveS s e i) (sI S1 38 (28 + e) (nI i)) := CW_a h1.1 ea (RS_row h1.1.rs) wa.2.1 wa.2.2.1
        have r2 : RFC B (sI S1 38 (28 + e) (nI i)).2.2 := r1
        rw [rc_8 r2]
        refine RN_bd (cfirst_run c2 (by have := wa.1; omega)) (fun r S3 h3 => ?_)
        obtain ⟨rfl, -, g3⟩ := h3
        have hq : CQ B S S3 := (h1.2.tr ea.cq).tr g3.cq
        have fle := fN_le (b := b) (s := giveS s e i)
        by_cases d : l < fN b (giveS s e i)
        · rw [if_neg (nle_l (by omega) (by omega) d)]
          simp only [hm, hfa, d, decide_true, Bool.true_and, if_true]
          exact next S3 _ _ fle hq
        · rw [if_pos (le_l (by omega) (by omega) (by omega))]
          simp only [d, decide_false, Bool.and_false]
          exact next S3 l x hl hq
      · rw [if_neg (nI_nz hfa (by omega))]
        simp only [hfa, decide_false, Bool.and_false, Bool.false_and]
        exact next S l x hl CQ.rf
    · have hm2 : ¬ (¬ aR s (28 + e) = nI i ∧ (aC s).testBit e = false ∧ (aO s).testBit i = false) := fun g => hm (by unfold mayG; simp [g.1, g.2.2])
      rw [if_neg hm2, if_pos rfl]
      simp only [hm, Bool.false_and]
      exact next S l x hl CQ.rf
theorem CMx_give {e p : Nat} (h : CMx lv b s S) (he : e < bS b) (hp : p < bP b) (hw : wfA b s) : CMx lv b (giveS s e p) (sI S 175 (38 + e) (nI p)) := by
  have h8 := h.wb.s8
  have wa := giveS_wf (e := e) h.wb hp hw
  exact CMx_g h MG_175 (RW_upd h.row (fun k hk => menc_setR (by omega))) wa.2.1 wa.2.2.1
theorem QM.wear (h : QM lv b s S) {e : Nat} (he : e < 8) : S.1 174 (38 + e) = aR s (28 + e) := (h.now (by omega)).trans (menc_w he)
theorem mgive_loop (hb : wfB b) {e : Nat} (he : e < bS b) : ∀ (m fu i l : Nat) (x : Int32) (S : St), m < fu → i + m = bP b → l ≤ 101 → QM lv b s S → RN (b_X10_give_41 fu 140 (nI e) (nI l) x (nI i) S) (fun r S' => r = (cbF (fun p => mayG s e p) (fun p => fN b (giveS s e p)) m i l x).2 ∧ QF S S') := by
  have h8 := hb.s8
  have h6 := hb.p6
  intro m
  induction m with
  | zero =>
    intro fu i l x S hf hi hl h
    obtain ⟨fu, rfl⟩ : ∃ f, fu = f + 1 := ⟨fu - 1, by omega⟩
    rw [b_X10_give_41, h.k.ixl, obq, rq_25 h.rf, h.k.nP, if_pos (le_l (by omega) (by omega) (by omega))]
    exact RN_some ⟨rfl, QF.rf⟩
  | succ m ih =>
    intro fu i l x S hf hi hl h
    obtain ⟨fu, rfl⟩ : ∃ f, fu = f + 1 := ⟨fu - 1, by omega⟩
    have hi' : i < bP b := by omega
    have hi6 : i < 6 := by omega
    rw [b_X10_give_41, h.k.ixl, obq, rq_25 h.rf, h.k.nP, if_neg (nle_l (by omega) (by omega) (by omega)), ix55_38 (by omega), obq, rq_51 h.rf, h.wear (by omega)]
    have next : ∀ (S1 : St) (l' : Nat) (x' : Int32), l' ≤ 101 → QF S S1 → RN (b_X10_give_122 (b_X10_give_41 fu) 140 (nI e) (nI l') x' (nI i) S1) (fun r S' => r = (cbF (fun p => mayG s e p) (fun p => fN b (giveS s e p)) m (i + 1) l' x').2 ∧ QF S S') := by
      intro S1 l' x' hl' hq
      unfold b_X10_give_122
      rw [nmq, nI_1]
      exact RN_mono (ih fu (i + 1) l' x' S1 (by omega) (by omega) hl' (QM_q h hq)) (fun r S' hh => ⟨hh.1, hq.tr hh.2⟩)
    unfold cbF
    by_cases c1 : aR s (28 + e) = nI i
    · have hm : mayG s e i = false := by unfold mayG; simp [c1]
      rw [if_pos c1]
      simp only [hm, Bool.false_and]
      exact next S l x hl QF.rf
    · rw [if_neg c1, ix55_32 hi6, obq, h.now (by omega), menc_o hi6]
      by_cases c2 : (aO s).testBit i = true
      · have hm : mayG s e i = false := by unfold mayG; simp [c2]
        rw [if_pos (bitI_1.mpr c2)]
        simp only [hm, Bool.false_and]
        exact next S l x hl QF.rf
      · have hm : mayG s e i = true := by unfold mayG; simp [c1, c2]
        rw [if_neg (fun q => c2 (bitI_1.mp q))]
        refine RN_bd (copies_run h) (fun _ S1 h1 => ?_)
        rw [obq, nmq, rq_52 h1.1.rf]
        have c3 := CMx_give h1.1 he hi' h.wa
        have wa := giveS_wf (e := e) hb hi' h.wa
        refine RN_bd (mfirst_run c3 (by have := wa.1; omega) wa.2.2.2) (fun r S3 h3 => ?_)
        obtain ⟨rfl, -, g3⟩ := h3
        have hq : QF S S3 := (h1.2.2.2.tr MG_175.mq).tr g3.mq
        have fle := fN_le (b := b) (s := giveS s e i)
        by_cases d : l < fN b (giveS s e i)
        · rw [if_pos (lt_l (by omega) (by omega) d)]
          simp only [hm, d, decide_true, Bool.true_and, if_true]
          exact next S3 _ _ fle hq
        · rw [if_neg (nlt_l (by omega) (by omega) (by omega))]
          simp only [d, decide_false, Bool.and_false]
          exact next S3 l x hl hq
theorem cgive_cut (hb : wfB b) {e : Nat} {fa : Int32} (he : e < bS b) (hcut : (aC s).testBit e = true) : ∀ (m fu i l : Nat) (x : Int32) (S : St), m < fu → i + m = bP b → l ≤ 101 → QC B b s S → RN (b_X9_give_71 fu 0 (nI e) (nI l) fa x (nI i) S) (fun r S' => r = x ∧ CQ B S S') := by
  have h8 := hb.s8
  have h6 := hb.p6
  intro m
  induction m with
  | zero =>
    intro fu i l x S hf hi hl h
    obtain ⟨fu, rfl⟩ : ∃ f, fu = f + 1 := ⟨fu - 1, by omega⟩
    rw [b_X9_give_71, rc_3 h.rf, h.w.nP, if_pos (le_l (by omega) (by omega) (by omega))]
    exact RN_some ⟨rfl, CQ.rf⟩
  | succ m ih =>
    intro fu i l x S hf hi hl h
    obtain ⟨fu, rfl⟩ : ∃ f, fu = f + 1 := ⟨fu - 1, by omega⟩
    rw [b_X9_give_71, rc_3 h.rf, h.w.nP, if_neg (nle_l (by omega) (by omega) (by omega))]
    by_cases c0 : l = 101
    · rw [if_pos (show (101 : Int32) ≤ nI l by rw [c0]; decide)]
      exact RN_some ⟨rfl, CQ.rf⟩
    rw [if_neg (show ¬ (101 : Int32) ≤ nI l from nle_l (a := 101) (by omega) (by omega) (by omega)), rc_5 h.rf, mayBe_eq h.w.ra h.w.rs h.w.ws (by omega) (by omega), bdq, if_neg (show ¬ (¬ aR s (28 + e) = nI i ∧ (aC s).testBit e = false ∧ (aO s).testBit i = false) from fun g => absurd (hcut.symm.trans g.2.1) (by decide)), if_pos rfl]
    unfold b_X9_give_160
    rw [nmq, nI_1]
    exact ih fu (i + 1) l x S (by omega) (by omega) hl h
theorem q_give (v : Int32) : PQ B lv b s (f_X9_give 0 v) (f_X10_give 140 v) := by
  have fle := fN_le (b := b) (s := s)
  cases hv : idx (bS b) v with
  | none =>
    refine ⟨-1, fun S h => ?_, fun S h => ?_⟩
    · unfold f_X9_give
      rw [cS_eq h, bdq, hv, is1_n, if_pos rfl]
      exact RN_some ⟨rfl, CQ.rf⟩
    · unfold f_X10_give
      rw [mS_eq h, bdq, hv, is1_n, if_pos rfl]
      exact RN_some ⟨rfl, QF.rf⟩
  | some e =>
    have hc0 : ∀ S, QC B b s S → ∃ S2, v = nI e ∧ e < bS b ∧ wr s e < bP b ∧ aR s (28 + e) = nI (wr s e) ∧ QC B b s S2 ∧ CQ B S S2 ∧ f_X9_give 0 v S = b_X9_give_71 FU 0 v (nI (fN b s)) (nI (dfN (fallN b s) (1 <<< wr s e))) (-2) 0 S2 := fun S h => by
      obtain ⟨ev, he⟩ := idx_some (by have := h.wb.s8; omega) hv
      obtain ⟨w1, w2⟩ := wr_eq h.w.wp h.wb he
      have h6 := h.wb.p6
      obtain ⟨_, S1, e1, c1, q1⟩ := ctrial_run h
      have r1 : RFC B S1.2.2 := by rw [q1.1]; exact h.rf
      obtain ⟨r, S2, e2, rfl, c2, g2⟩ := cfirst_run c1 (by have := h.wa.1; omega)
      have hq := q1.tr g2.cq
      have q2 := QC_q h hq
      refine ⟨S2, ev, he, w2, w1, q2, hq, ?_⟩
      unfold f_X9_give
      rw [cS_eq h, bdq, hv, is1_s, if_neg ne10, e1, bdq, rc_8 r1, e2, bdq, ev, ix28 he h.wb, obq, nmq, rc_6 q2.rf, rc_5 q2.rf, rc_35 q2.rf, c2.rs.2.2.1, q2.w.rs.2.2.1, q2.row (lt36_28 he h.wb), w1, sh1 _ (by omega), dfN_eq, dfN_eq]
      rfl
    by_cases hcut : (aC s).testBit e = true
    · refine ⟨-2, fun S h => ?_, fun S h => ?_⟩
      · obtain ⟨S2, ev, he, hw, w1, q2, hq, e2⟩ := hc0 S h
        rw [e2, ev]
        exact RN_mono (cgive_cut h.wb he hcut (bP b) FU 0 (fN b s) (-2) S2 (by have := h.wb.p6; unfold FU; omega) (by omega) fle q2) (fun r S' hh => ⟨hh.1, hq.tr hh.2⟩)
      · obtain ⟨ev, he⟩ := idx_some (by have := h.wb.s8; omega) hv
        have he8 : e < 8 := Nat.lt_of_lt_of_le he h.wb.s8
        unfold f_X10_give
        rw [mS_eq h, bdq, hv, is1_s, if_neg ne10, ev, ix55_46 he8, obq, rq_51 h.rf, h.now (by omega), menc_c he8, if_pos (bitI_1.mpr hcut)]
        exact RN_some ⟨rfl, QF.rf⟩
    · refine ⟨(cbF (fun p => mayG s e p) (fun p => fN b (giveS s e p)) (bP b) 0 (fN b s) (-2)).2, fun S h => ?_, fun S h => ?_⟩
      · obtain ⟨S2, ev, he, hw, w1, q2, hq, e2⟩ := hc0 S h
        have h6 := h.wb.p6
        have hfl := fallN_lt h.wb h.wa
        have hw64 : 1 <<< wr s e < 64 := by rw [Nat.one_shiftLeft]; exact Nat.pow_lt_pow_right (n := 6) (by decide) (by omega)
        rw [e2, ev]
        refine RN_mono (cgive_loop h.wb he (by simpa using hcut) (dfN_lt (n := 6) hfl hw64) (bP b) FU 0 (fN b s) (-2) S2 (by unfold FU; omega) (by omega) fle q2) (fun r S' hh => ⟨?_, hq.tr hh.2⟩)
        rw [hh.1]
        by_cases c : fN b s = 101
        · rw [cbF_top (fun _ => fN_le) _ _ _ _ (by omega), cbF_top (fun _ => fN_le) _ _ _ _ (by omega)]
        · rw [cbF_same (L := fN b s) (q' := fun p => mayG s e p) _ _ _ _ (fun p _ hp => ⟨fun g => (Bool.and_eq_true_iff.mp g).1, fun g1 g2 => ?_⟩) (Nat.le_refl _)]
          have hp : p < bP b := by omega
          have g3 : ¬ dfN (dfN (fallN b s) (1 <<< wr s e)) (1 <<< p) = 0 := fun q => by rw [g1, q] at g2; simp at g2
          have hw64p : 1 <<< p < 64 := by rw [Nat.one_shiftLeft]; exact Nat.pow_lt_pow_right (n := 6) (by decide) (by omega)
          obtain ⟨q, hq6, hqb⟩ := low_ex (dfN_lt (n := 6) (dfN_lt (n := 6) hfl hw64) hw64p) g3
          rw [dfN_tb, dfN_tb, Nat.one_shiftLeft, Nat.one_shiftLeft, Nat.testBit_two_pow, Nat.testBit_two_pow] at hqb
          simp only [Bool.and_eq_true, Bool.not_eq_true', decide_eq_false_iff_not] at hqb
          obtain ⟨⟨hqf, hqw⟩, hqp⟩ := hqb
          have hqf2 := hqf
          unfold fallN at hqf2
          rw [dfN_tb] at hqf2
          obtain ⟨b1, b2⟩ := Bool.and_eq_true_iff.mp hqf2
          have hO : wfO b (fS b s) := mths_wfO (by omega) h.wa.2.2.2 _
          have hqP : q < bP b := by
            rcases Nat.lt_or_ge q (bP b) with g | g
            · exact g
            · rw [hO.1 q g] at b1; cases b1
          exact fN_alike h.wb hqP (giveS_sim hq6 (by omega) (fun g => hqw (by rw [w1] at g; exact ((nI_eq (by omega) (by omega)).mp g))) (fun g => hqp g.symm)) c b1 (by simpa using b2)
      · obtain ⟨ev, he⟩ := idx_some (by have := h.wb.s8; omega) hv
        have he8 : e < 8 := Nat.lt_of_lt_of_le he h.wb.s8
        unfold f_X10_give
        rw [mS_eq h, bdq, hv, is1_s, if_neg ne10, ev, ix55_46 he8, obq, rq_51 h.rf, h.now (by omega), menc_c he8, if_neg (fun q => hcut (bitI_1.mp q))]
        refine RN_bd (copies_run h) (fun _ S1 h1 => ?_)
        refine RN_bd (mfirst_run h1.1 (by have := h.wa.1; omega) h.wa.2.2.2) (fun r S2 h2 => ?_)
        obtain ⟨rfl, -, g2⟩ := h2
        have hq := h1.2.2.2.tr g2.mq
        exact RN_mono (mgive_loop h.wb he (bP b) FU 0 (fN b s) (-2) S2 (by have := h.wb.p6; unfold FU; omega) (by omega) fle (QM_q h hq)) (fun r S' hh => ⟨hh.1, hq.tr hh.2⟩)
end BST

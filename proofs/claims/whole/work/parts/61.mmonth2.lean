/-! the reference: a MONTH goes by, its loops -/
section MM2
variable {lv : Nat} {b : Bk} {s : ASea} {S : St} {sd : Option Int32}
theorem add_0 {x : Int32} : x + 0 = x := by
  rw [i32_eq, Int32.toInt_add]
  have := Int32.le_toInt x
  have := Int32.toInt_lt x
  show (x.toInt + 0).bmod _ = _
  rw [Int.add_zero]
  exact Int.bmod_eq_of_le (by omega) (by omega)
theorem hold9 : ∀ i : Nat, i < 10 → mxI 0 (mnI 9 (nI i)) = nI i := by decide
theorem gone_m {x f st : Int32} (hx : In9 x) : mxI 0 (mnI 9 (x + (if abI f ≤ st then 0 else wayI f 0))) = goneI x f st := by
  unfold goneI
  by_cases c : abI f ≤ st
  · rw [if_pos c, if_pos c, add_0]
    obtain ⟨i, hi, rfl⟩ := hx
    exact hold9 i hi
  · rw [if_neg c, if_neg c]
theorem mwithin_eq {v : Int32} : f_X10_within v 0 9 S = some (mxI 0 (mnI 9 v), S) := within_V (o := some v) (most := 9) (by decide)
theorem bitI_0 {m i : Nat} : (bitI m i = 0) ↔ m.testBit i = false := by
  unfold bitI
  split
  next h => simp [h]
  next h => simp [h]
theorem CMx_g {s' : ASea} {S' : St} (h : CMx lv b s S) (hE : MG S S') (hr : RW s' S') (h1 : wfS s') (h2 : wfP (bM b) (bP b) (bS b) s') : CMx lv b s' S' := ⟨KM_g h.1 hE, hr, h.wb, h1, h2⟩
theorem apply_step {q28 : Nat → Int32 → St → Option (Unit × St)} (h : CMx lv b s S) {p : Nat} (hp : p < bP b) (ho : (aO s).testBit p = false) (hx : mxI 0 (mnI 9 (S.1 177 p)) = gX b s p) (hy : mxI 0 (mnI 9 (S.1 178 p)) = gY b s p) (hd : S.1 179 p = if sdB b sd s p = true then 1 else 0) : ∃ S', ((ix (nI p) 6).bind fun j4 => bd (f_X10_within (S.1 (S.2.2 140 58) j4) (0 : Int32) (9 : Int32) S) fun r6 S5 => (ix ((20 : Int32) + nI p) 55).bind fun j7 => nm (sI S5 (S.2.2 140 52) j7 r6) fun S8 => (ix (nI p) 6).bind fun j9 => bd (f_X10_within (S8.1 (S8.2.2 140 59) j9) (0 : Int32) (9 : Int32) S8) fun r11 S10 => (ix ((26 : Int32) + nI p) 55).bind fun j12 => nm (sI S10 (S8.2.2 140 52) j12 r11) fun S13 => (ix ((26 : Int32) + nI p) 55).bind fun j14 => (ix (S13.1 140 18) 2).bind fun j15 => if (S13.1 (S13.2.2 140 33) j15) < (S13.1 (S13.2.2 140 52) j14) then (b_X10_monthGoes_124 q28 140 (nI p) S13) else ((ix (nI p) 6).bind fun j16 => if (S13.1 (S13.2.2 140 60) j16) = 0 then (b_X10_monthGoes_134 q28 140 (nI p) S13) else (b_X10_monthGoes_124 q28 140 (nI p) S13))) = q28 140 (nI (p + 1)) S' ∧ CMx lv b (goP b sd s p) S' ∧ S'.2 = S.2 ∧ ∀ a k, a ≠ 175 → S'.1 a k = S.1 a k := by
  have hp6 : p < 6 := Nat.lt_of_lt_of_le hp h.wb.p6
  rw [ix6 hp6, obq, rq_58 h.rf, mwithin_eq, bdq, hx, ix55_20 hp6, obq, rq_52 h.rf, nmq, obq]
  have r1 : RW ((fun i => if i = 16 + p then gX b s p else aR s i), s.2) (sI S 175 (20 + p) (gX b s p)) := RW_upd h.row (fun k hk => menc_setR (by omega))
  have e1 : (sI S 175 (20 + p) (gX b s p)).2 = S.2 := rfl
  have f1 : ∀ a k, a ≠ 175 → (sI S 175 (20 + p) (gX b s p)).1 a k = S.1 a k := fun a k ha => sI_ne (Or.inl ha)
  revert r1 e1 f1
  generalize sI S 175 (20 + p) (gX b s p) = S1
  intro r1 e1 f1
  have rf1 : RFM S1.2.2 := by rw [e1]; exact h.rf
  rw [rq_59 rf1, f1 _ _ (by decide), mwithin_eq, bdq, hy, ix55_26 hp6, obq, rq_52 rf1, nmq, obq]
  have r2 : RW ((fun i => if i = 22 + p then gY b s p else if i = 16 + p then gX b s p else aR s i), s.2) (sI S1 175 (26 + p) (gY b s p)) := RW_upd r1 (fun k hk => menc_setR (s := ((fun i => if i = 16 + p then gX b s p else aR s i), s.2)) (by omega))
  have e2 : (sI S1 175 (26 + p) (gY b s p)).2 = S.2 := e1
  have f2 : ∀ a k, a ≠ 175 → (sI S1 175 (26 + p) (gY b s p)).1 a k = S.1 a k := fun a k ha => (sI_ne (Or.inl ha)).trans (f1 a k ha)
  have y2 : (sI S1 175 (26 + p) (gY b s p)).1 175 (26 + p) = gY b s p := sI_at
  revert r2 e2 f2 y2
  generalize sI S1 175 (26 + p) (gY b s p) = S2
  intro r2 e2 f2 y2
  have rf2 : RFM S2.2.2 := by rw [e2]; exact h.rf
  have w1 := goP_wfS (b := b) (sd := sd) h.ws hp6
  have w2 := goP_wfP (sd := sd) h.wb h.wp hp
  have g2 : MG S S2 := ⟨e2, fun a k _ _ h3 _ _ => f2 a k h3⟩
  have k2 := KM_g h.k g2
  rw [k2.ixl, obq, rq_33 rf2, rq_52 rf2, k2.pier, y2, rq_60 rf2, obq, f2 _ _ (by decide), hd]
  have hgo : gO b sd s p = (sdB b sd s p || !decide (gY b s p ≤ nI (bPier b))) := rfl
  have fin0 : gO b sd s p = false → ∃ S', b_X10_monthGoes_134 q28 140 (nI p) S2 = q28 140 (nI (p + 1)) S' ∧ CMx lv b (goP b sd s p) S' ∧ S'.2 = S.2 ∧ ∀ a k, a ≠ 175 → S'.1 a k = S.1 a k := by
    intro hg
    rw [b_X10_monthGoes_134, nmq, nI_1]
    refine ⟨S2, rfl, CMx_g h g2 ?_ w1 w2, e2, f2⟩
    unfold goP
    rw [if_neg (by rw [ho]; decide), hg]
    exact r2
  have fin1 : gO b sd s p = true → ∃ S', b_X10_monthGoes_124 q28 140 (nI p) S2 = q28 140 (nI (p + 1)) S' ∧ CMx lv b (goP b sd s p) S' ∧ S'.2 = S.2 ∧ ∀ a k, a ≠ 175 → S'.1 a k = S.1 a k := by
    intro hg
    rw [b_X10_monthGoes_124, ix55_32 hp6, obq, rq_52 rf2, nmq, b_X10_monthGoes_134, nmq, nI_1]
    refine ⟨_, rfl, CMx_g h (g2.tr MG_175) ?_ w1 w2, e2, fun a k ha => (sI_ne (Or.inl ha)).trans (f2 a k ha)⟩
    unfold goP
    rw [if_neg (by rw [ho]; decide), hg]
    exact RW_upd r2 (fun k hk => menc_off (s := ((fun i => if i = 22 + p then gY b s p else if i = 16 + p then gX b s p else aR s i), s.2)) hp6)
  by_cases hyp : gY b s p ≤ nI (bPier b)
  · rw [if_neg (i32_nlt.mpr hyp)]
    by_cases hdd : sdB b sd s p = true
    · rw [if_pos hdd, if_neg (by decide)]
      exact fin1 (by rw [hgo, hdd]; rfl)
    · rw [if_neg hdd, if_pos rfl]
      exact fin0 (by rw [hgo]; simp [hdd, hyp])
  · rw [if_pos (i32_nle.mp hyp)]
    exact fin1 (by rw [hgo]; simp [hyp])
theorem swimm_loop {s0 : ASea} (hb : wfB b) (hS : wfS s0) (hM : aM s0 + 1 ≤ 40000) (hP : wfP (bM b) (bP b) (bS b) s0) : ∀ (m fu i : Nat) (S : St), m < fu → i + m = bM b → CMx lv b (swimAll s0 i) S → RN (b_X10_monthGoes_142 fu 140 (nI i) S) (fun _ S' => CMx lv b ((swimAll s0 (bM b)).1, aM s0 + 1, (swimAll s0 (bM b)).2.2) S' ∧ S'.2 = S.2 ∧ ∀ a k, a ≠ 175 → S'.1 a k = S.1 a k) := by
  have h4 := hb.m4
  intro m
  induction m with
  | zero =>
    intro fu i S hf hi h
    obtain ⟨fu, rfl⟩ : ∃ f, fu = f + 1 := ⟨fu - 1, by omega⟩
    have hi : i = bM b := by omega
    subst hi
    have hm : aM (swimAll s0 (bM b)) = aM s0 := by show (swimAll s0 (bM b)).2.1 = s0.2.1; rw [swimAll_2]
    obtain ⟨w1, w2⟩ := swimAll_wf hb hS hP (bM b) (Nat.le_refl _)
    rw [b_X10_monthGoes_142, h.k.ixl, obq, rq_23 h.rf, h.k.nM, if_pos (le_l (by omega) (by omega) (Nat.le_refl _)), ix55_54, obq, obq, rq_52 h.rf, h.t, hm, nmq, nI_1]
    exact RN_some ⟨CMx_g h MG_175 (RW_upd h.row (fun k hk => menc_mon hk)) ⟨hM, w1.2⟩ w2, rfl, fun a k ha => sI_ne (Or.inl ha)⟩
  | succ m ih =>
    intro fu i S hf hi h
    obtain ⟨fu, rfl⟩ : ∃ f, fu = f + 1 := ⟨fu - 1, by omega⟩
    have hi4 : i < 4 := by omega
    obtain ⟨w1, w2⟩ := swimAll_wf hb hS hP (i + 1) (by omega)
    rw [b_X10_monthGoes_142, h.k.ixl, obq, rq_23 h.rf, h.k.nM, if_neg (nle_l (by omega) (by omega) (by omega)), ix55_16 hi4, obq, rq_52 h.rf, h.row _ (by omega), menc_d hi4]
    by_cases c : (aD (swimAll s0 i)).testBit i = false
    · rw [if_pos (bitI_0.mpr c)]
      obtain ⟨B, B1, C, hr⟩ := h.rf
      refine RN_bd (mswim_run hr h.row hi4) (fun _ S1 h1 => ?_)
      obtain ⟨g1, g2, g3⟩ := h1
      rw [b_X10_monthGoes_172, nmq, nI_1]
      have hsw : swimAll s0 (i + 1) = swimN (swimAll s0 i) i := by
        show swimA (swimAll s0 i) i = _
        unfold swimA
        rw [if_neg (by rw [c]; decide)]
      have h2 : CMx lv b (swimAll s0 (i + 1)) S1 := CMx_g h ⟨g1, fun a k _ _ h3 _ _ => g2 a k h3⟩ (by rw [hsw]; exact g3) w1 w2
      exact RN_mono (ih fu (i + 1) S1 (by omega) (by omega) h2) (fun _ S' hh => ⟨hh.1, hh.2.1.trans g1, fun a k ha => (hh.2.2 a k ha).trans (g2 a k ha)⟩)
    · rw [if_neg (fun q => c (bitI_0.mp q)), b_X10_monthGoes_172, nmq, nI_1]
      have hsw : swimAll s0 (i + 1) = swimAll s0 i := by
        show swimA (swimAll s0 i) i = _
        unfold swimA
        rw [if_pos (by simpa using c)]
      exact ih fu (i + 1) S (by omega) (by omega) (by rw [hsw]; exact h)
theorem apply_loop {s0 : ASea} (hb : wfB b) (hS : wfS s0) (hM : aM s0 + 1 ≤ 40000) (hP : wfP (bM b) (bP b) (bS b) s0) : ∀ (m fu i : Nat) (S : St), m < fu → i + m = bP b → CMx lv b (goM b sd s0 0 i) S → (∀ p, p < bP b → LOK b s0 sd p S) → RN (b_X10_monthGoes_28 fu 140 (nI i) S) (fun _ S' => CMx lv b (monthA b sd 0 (bP b) s0) S' ∧ S'.2 = S.2 ∧ ∀ a k, a ≠ 175 → S'.1 a k = S.1 a k) := by
  have h6 := hb.p6
  have h4 := hb.m4
  intro m
  induction m with
  | zero =>
    intro fu i S hf hi h hl
    obtain ⟨fu, rfl⟩ : ∃ f, fu = f + 1 := ⟨fu - 1, by omega⟩
    have hi : i = bP b := by omega
    rw [hi] at h ⊢
    rw [b_X10_monthGoes_28, h.k.ixl, obq, rq_25 h.rf, h.k.nP, if_pos (le_l (by omega) (by omega) (Nat.le_refl _))]
    obtain ⟨w1, w2⟩ := goM_wf (sd := sd) (lo := 0) hb hS hP (bP b) (by omega)
    have hm : aM (goM b sd s0 0 (bP b)) = aM s0 := goM_M (bP b)
    refine RN_mono (swimm_loop hb w1 (by rw [hm]; exact hM) w2 (bM b) FU 0 S (by unfold FU; omega) (by omega) h) (fun _ S' hh => ⟨?_, hh.2⟩)
    have h1 := hh.1
    rw [hm] at h1
    exact h1
  | succ m ih =>
    intro fu i S hf hi h hl
    obtain ⟨fu, rfl⟩ : ∃ f, fu = f + 1 := ⟨fu - 1, by omega⟩
    have hp : i < bP b := by omega
    have hp6 : i < 6 := by omega
    have hsim : sim i (goM b sd s0 0 i) s0 := goM_out hp6 i (by omega) (Or.inr (by omega))
    rw [b_X10_monthGoes_28, h.k.ixl, obq, rq_25 h.rf, h.k.nP, if_neg (nle_l (by omega) (by omega) (by omega)), moff_eq h hp6, bdq]
    by_cases ho : (aO (goM b sd s0 0 i)).testBit i = true
    · rw [if_pos ho, if_neg (by decide), b_X10_monthGoes_134, nmq, nI_1]
      refine ih fu (i + 1) S (by omega) (by omega) ?_ hl
      show CMx lv b (goP b sd (goM b sd s0 0 i) (0 + i)) S
      unfold goP
      rw [Nat.zero_add, if_pos ho]
      exact h
    · have ho' : (aO (goM b sd s0 0 i)).testBit i = false := by simpa using ho
      have hos : (aO s0).testBit i = false := hsim.2.2.2.1.symm.trans ho'
      rw [if_neg ho, if_pos rfl]
      obtain ⟨l1, l2⟩ := hl i hp
      obtain ⟨lx, ly, ld⟩ := l2 hos
      have hsdB : sdB b sd s0 i = sdB b sd (goM b sd s0 0 i) i := by
        unfold sdB
        cases sd with
        | none => rfl
        | some d => exact (drown_sim hb hsim).symm
      obtain ⟨S1, e1, c1, g1, f1⟩ := apply_step (q28 := b_X10_monthGoes_28 fu) (sd := sd) h hp ho' (by rw [lx, gone_m (x := pX s0 i) (hP.2.1 i hp).1]; exact (gX_sim hb hsim).symm) (by rw [ly, gone_m (x := pY s0 i) (hP.2.1 i hp).2]; exact (gY_sim hb hsim).symm) (by rw [ld, hsdB])
      rw [e1]
      have hl' : ∀ p, p < bP b → LOK b s0 sd p S1 := fun p hp => by
        obtain ⟨k1, k2⟩ := hl p hp
        refine ⟨(f1 _ _ (by decide)).trans k1, fun q => ⟨(f1 _ _ (by decide)).trans (k2 q).1, (f1 _ _ (by decide)).trans (k2 q).2.1, (f1 _ _ (by decide)).trans (k2 q).2.2⟩⟩
      refine RN_mono (ih fu (i + 1) S1 (by omega) (by omega) ?_ hl') (fun _ S' hh => ⟨hh.1, hh.2.1.trans g1, fun a k ha => (hh.2.2 a k ha).trans (f1 a k ha)⟩)
      show CMx lv b (goP b sd (goM b sd s0 0 i) (0 + i)) S1
      rw [Nat.zero_add]
      exact c1
theorem lookm_loop (hb : wfB b) (hM : aM s + 1 ≤ 40000) : ∀ (m fu i : Nat) (S : St), m < fu → i + m = bP b → CMx lv b s S → sdM S = sd → (∀ p, p < i → LOK b s sd p S) → RN (b_X10_monthGoes_2 fu 140 (nI i) S) (fun _ S' => CMx lv b (monthA b sd 0 (bP b) s) S' ∧ (∀ p, p < bP b → S'.1 176 p = (if (!(aO s).testBit p && movedA b s p (pX s p) (pY s p)) = true then 1 else 0)) ∧ MG S S') := by
  have h6 := hb.p6
  intro m
  induction m with
  | zero =>
    intro fu i S hf hi h hsd hl
    obtain ⟨fu, rfl⟩ : ∃ f, fu = f + 1 := ⟨fu - 1, by omega⟩
    have hi : i = bP b := by omega
    rw [hi] at hl ⊢
    rw [b_X10_monthGoes_2, h.k.ixl, obq, rq_25 h.rf, h.k.nP, if_pos (le_l (by omega) (by omega) (Nat.le_refl _))]
    exact RN_mono (apply_loop hb h.ws hM h.wp (bP b) FU 0 S (by unfold FU; omega) (by omega) h hl) (fun _ S' hh => ⟨hh.1, fun p hp => (hh.2.2 _ _ (by decide)).trans (hl p hp).1, hh.2.1, fun a k _ _ h3 _ _ => hh.2.2 a k h3⟩)
  | succ m ih =>
    intro fu i S hf hi h hsd hl
    obtain ⟨fu, rfl⟩ : ∃ f, fu = f + 1 := ⟨fu - 1, by omega⟩
    have hp : i < bP b := by omega
    rw [b_X10_monthGoes_2, h.k.ixl, obq, rq_25 h.rf, h.k.nP, if_neg (nle_l (by omega) (by omega) (by omega))]
    refine RN_bd (looksAt_run h hp) (fun _ S1 h1 => ?_)
    obtain ⟨l1, l2, hE⟩ := h1
    rw [nmq, nI_1]
    refine RN_mono (ih fu (i + 1) S1 (by omega) (by omega) (CMx_l h hE) ((sdM_g hE.mg).trans hsd) (fun p hpi => ?_)) (fun _ S' hh => ⟨hh.1, hh.2.1, hE.mg.tr hh.2.2⟩)
    by_cases e : p = i
    · rw [e, ← hsd]
      exact l1
    · obtain ⟨k1, k2⟩ := hl p (by omega)
      obtain ⟨n1, n2, n3, n4⟩ := l2 p e
      exact ⟨n1.trans k1, fun q => ⟨n2.trans (k2 q).1, n3.trans (k2 q).2.1, n4.trans (k2 q).2.2⟩⟩
theorem mmonth_run (h : CMx lv b s S) (hM : aM s + 1 ≤ 40000) : RN (f_X10_monthGoes 140 S) (fun _ S' => CMx lv b (monthA b (sdM S) 0 (bP b) s) S' ∧ (∀ p, p < bP b → S'.1 176 p = (if (!(aO s).testBit p && movedA b s p (pX s p) (pY s p)) = true then 1 else 0)) ∧ MG S S') := by
  have h6 := h.wb.p6
  exact lookm_loop h.wb hM (bP b) FU 0 S (by unfold FU; omega) (by omega) h rfl (fun p hp => absurd hp (Nat.not_lt_zero _))
/-- so many MONTHS -/
def mths (b : Bk) (sd : Option Int32) (lo n : Nat) (s : ASea) : Nat → ASea
  | 0 => s
  | k + 1 => monthA b sd lo n (mths b sd lo n s k)
theorem mths_M {lo n : Nat} : ∀ k, aM (mths b sd lo n s k) = aM s + k
  | 0 => rfl
  | k + 1 => by show aM (mths b sd lo n s k) + 1 = _; rw [mths_M k]; omega
theorem mths_wf (hb : wfB b) {lo n : Nat} (h : wfS s) (h' : wfP (bM b) (bP b) (bS b) s) (hn : lo + n ≤ bP b) : ∀ k, aM s + k ≤ 40000 → wfS (mths b sd lo n s k) ∧ wfP (bM b) (bP b) (bS b) (mths b sd lo n s k)
  | 0, _ => ⟨h, h'⟩
  | k + 1, hk => by
    obtain ⟨h1, h2⟩ := mths_wf hb h h' hn k (by omega)
    exact month_wf hb h1 (by rw [mths_M]; omega) h2 hn
theorem mgoes_loop {n : Nat} (hn : n ≤ 4000) (hM : aM s + n ≤ 40000) : ∀ (m fu i : Nat) (S : St), m < fu → i + m = n → CMx lv b (mths b sd 0 (bP b) s i) S → sdM S = sd → RN (b_X10_goes_2 fu 140 (nI n) (nI i) S) (fun _ S' => CMx lv b (mths b sd 0 (bP b) s n) S' ∧ MG S S') := by
  intro m
  induction m with
  | zero =>
    intro fu i S hf hi h hsd
    obtain ⟨fu, rfl⟩ : ∃ f, fu = f + 1 := ⟨fu - 1, by omega⟩
    have hi : i = n := by omega
    subst hi
    rw [b_X10_goes_2, if_pos (le_l (by omega) (by omega) (Nat.le_refl _))]
    exact RN_some ⟨h, MG.rf⟩
  | succ m ih =>
    intro fu i S hf hi h hsd
    obtain ⟨fu, rfl⟩ : ∃ f, fu = f + 1 := ⟨fu - 1, by omega⟩
    rw [b_X10_goes_2, if_neg (nle_l (by omega) (by omega) (by omega))]
    refine RN_bd (mmonth_run h (by rw [mths_M]; omega)) (fun _ S1 h1 => ?_)
    rw [nmq, nI_1]
    refine RN_mono (ih fu (i + 1) S1 (by omega) (by omega) ?_ ((sdM_g h1.2.2).trans hsd)) (fun _ S' hh => ⟨hh.1, h1.2.2.tr hh.2⟩)
    rw [hsd] at h1
    exact h1.1
theorem mgoes_run (h : CMx lv b s S) {n : Nat} (hn : n ≤ 4000) (hM : aM s + n ≤ 40000) : RN (f_X10_goes 140 (nI n) S) (fun _ S' => CMx lv b (mths b (sdM S) 0 (bP b) s n) S' ∧ MG S S') := mgoes_loop hn hM n FU 0 S (by unfold FU; omega) (by omega) h rfl
end MM2

/-! what is kept, and taken back: the class -/
section KEP
variable {B lv T : Nat} {g : GS} {b : Bk} {s : ASea} {S S' : St}
theorem rh_42 : ∀ j : Nat, j < 40 → RHO 42 j = 43 + 2 * j := by decide +kernel
theorem rh_43 : ∀ j : Nat, j < 40 → RHO (43 + 2 * j) 0 = 44 + 2 * j := by decide +kernel
theorem rh_123 : ∀ j : Nat, j < 3 → RHO 123 j = 124 + 2 * j ∧ RHO (124 + 2 * j) 0 = 125 + 2 * j := by decide +kernel
theorem RB_o {B B1 C a k : Nat} (h0 : a ≠ 0) (h3 : a ≠ 39) (h4 : a ≠ 40) (h5 : a ≠ 30) : RB B B1 C a k = RHO a k := by
  unfold RB
  rw [if_neg (by omega), if_neg (by omega), if_neg (by omega), if_neg (by omega)]
theorem rc_42 {f : Nat → Nat → Nat} (h : RFC B f) {j : Nat} (hj : j < 40) : f 42 j = 43 + 2 * j := by
  obtain ⟨B1, C, rfl⟩ := h
  rw [RB_o (by omega) (by omega) (by omega) (by omega)]
  exact rh_42 j hj
theorem rc_43 {f : Nat → Nat → Nat} (h : RFC B f) {j : Nat} (hj : j < 40) : f (43 + 2 * j) 0 = 44 + 2 * j := by
  obtain ⟨B1, C, rfl⟩ := h
  rw [RB_o (by omega) (by omega) (by omega) (by omega)]
  exact rh_43 j hj
theorem rc_123 {f : Nat → Nat → Nat} (h : RFC B f) {j : Nat} (hj : j < 3) : f 123 j = 124 + 2 * j ∧ f (124 + 2 * j) 0 = 125 + 2 * j := by
  obtain ⟨B1, C, rfl⟩ := h
  rw [RB_o (by omega) (by omega) (by omega) (by omega), RB_o (by omega) (by omega) (by omega) (by omega)]
  exact rh_123 j hj
def hkL (hl : Nat) : Nat := min (hl + 1) 40
def hkF (hf : Nat → ASea) (s : ASea) : Nat → ASea := fun i => if i = 0 then s else hf (i - 1)
theorem mod40 {n : Nat} (h : n < 2 ^ 30) : nI n - nI n / (40 : Int32) * (40 : Int32) = nI (n % 40) := pk_rem (d := 40) (by omega) (by decide) (by decide)
theorem min40 {n : Nat} (h : n < 2 ^ 30) : mnI (nI n) (40 : Int32) = nI (min n 40) := by
  unfold mnI
  by_cases c : 40 < n
  · rw [if_pos (show (40 : Int32) < nI n from lt_l (a := 40) (by omega) (by omega) c), Nat.min_eq_right (by omega)]
    rfl
  · rw [if_neg (show ¬ (40 : Int32) < nI n from nlt_l (a := 40) (by omega) (by omega) (by omega)), Nat.min_eq_left (by omega)]
/-- only the History is changed -/
def EK (S S' : St) : Prop := S'.2 = S.2 ∧ ∀ a k, (a = 41 → k ≠ 1 ∧ k ≠ 2) → (a < 43 ∨ 122 < a) → S'.1 a k = S.1 a k
theorem keep_run {hl : Nat} {hf : Nat → ASea} (hr : RFC B S.2.2) (hH : HC hl hf S) (hl40 : hl ≤ 40) (hs : RS 35 s S) : RN (f_X1_keep 41 35 S) (fun _ S' => HC (hkL hl) (hkF hf s) S' ∧ EK S S') := by
  obtain ⟨nx, n1, n2, n3, n4⟩ := hH
  unfold f_X1_keep
  rw [n2, ix_nI n1 (by decide), obq, rc_41 hr, rc_42 hr n1]
  refine RN_bd (copy_run (a := 43 + 2 * nx) (b := 35) (by have := rc_43 hr n1; omega) (rc_35 hr) (by omega) (by omega) (by omega) hs) (fun _ S1 h1 => ?_)
  obtain ⟨g1, g2, g3, g4⟩ := h1
  have e1 : S1.1 41 1 = nI nx := (g2 _ _ (by omega) (by omega)).trans n2
  have e2 : S1.1 41 2 = nI hl := (g2 _ _ (by omega) (by omega)).trans n3
  rw [nmq, e1, nI_1, mod40 (by omega), nmq, sI_ne (Or.inr (by decide)), e2, nI_1, min40 (by omega)]
  have fr : ∀ a k, (a = 41 → k ≠ 1 ∧ k ≠ 2) → (sI (sI S1 41 1 (nI ((nx + 1) % 40))) 41 2 (nI (min (hl + 1) 40))).1 a k = S1.1 a k := fun a k h => by rw [sI_ne (by omega), sI_ne (by omega)]
  refine RN_some ⟨⟨(nx + 1) % 40, by omega, ?_, sI_at, fun i hi => ?_⟩, g1, fun a k h1 h2 => ?_⟩
  · rw [sI_ne (Or.inr (by decide)), sI_at]
  · have hi' : i < 40 := by unfold hkL at hi; omega
    unfold hkF
    by_cases c : i = 0
    · subst c
      rw [if_pos rfl, show ((nx + 1) % 40 + 39 - 0) % 40 = nx by omega]
      exact RS_set g4 (fun k => fr _ _ (by omega)) (fun k => fr _ _ (by omega))
    · rw [if_neg c]
      have hi2 : i - 1 < hl := by unfold hkL at hi; omega
      have ei : ((nx + 1) % 40 + 39 - i) % 40 = (nx + 39 - (i - 1)) % 40 := by omega
      rw [ei]
      have hne : (nx + 39 - (i - 1)) % 40 ≠ nx := by omega
      have h4 := n4 (i - 1) hi2
      refine RS_set h4 (fun k => ?_) (fun k => ?_)
      · rw [fr _ _ (by omega), g2 _ _ (by omega) (by omega)]
      · rw [fr _ _ (by omega), g2 _ _ (by omega) (by omega)]
  · rw [fr a k h1]
    exact g2 a k (by omega) (by omega)
/-- the Sea and the History come to be others -/
theorem RC_s {T' hl : Nat} {hf : Nat → ASea} (h : RC B T g S) (e : S'.2.2 = S.2.2) (o : ∀ a i, obs B a i → ¬ (35 ≤ a ∧ a ≤ 36) → a ≠ 41 → ¬ (43 ≤ a ∧ a ≤ 122) → S'.1 a i = S.1 a i) (hs : RS 35 s S') (hh : HC hl hf S') (hw : wfG T' (gB g, s, (hl, hf), (gLm g, gLf g), (gTn g, gTd g), (gPl g, gPt g), gPc g)) : RC B T' (gB g, s, (hl, hf), (gLm g, gLf g), (gTn g, gTd g), (gPl g, gPt g), gPc g) S' := by
  have hB := h.hB
  have o' : ∀ a i, (a = 0 ∧ (i = 1 ∨ i = 11)) ∨ a = 1 ∨ (a = 30 ∧ i = 4) ∨ (a = B ∧ i < 5) ∨ (B + 3 ≤ a ∧ a ≤ B + 5) ∨ (B + 8 ≤ a ∧ a ≤ B + 10) ∨ (124 ≤ a ∧ a ≤ 129) ∨ (a = 133 ∧ i = 4) ∨ (134 ≤ a ∧ a ≤ 137) → S'.1 a i = S.1 a i := fun a i ha => o a i (by unfold obs; omega) (by omega) (by omega) (by omega)
  exact ⟨by rw [e]; exact h.1, CBk_obs h.bk (fun i hi => o' _ _ (by omega)) (fun a i ha => o' _ _ (by omega)), hs, hh, LC_set h.slt (o' _ _ (by omega)) (fun a i h1 h2 => o' _ _ (by omega)), RTc_set h.tld (o' _ _ (by omega)) (fun a i h1 h2 => o' _ _ (by omega)), RPc_set h.tap (o' _ _ (by omega)) (fun i => o' _ _ (by omega)), (o' _ _ (by omega)).trans h.pl, hw⟩
theorem wfG_k {T' : Nat} (h : wfG T g) (hT : T ≤ T') (hs : wfM T' (gB g) s) : wfG T' (gB g, s, (hkL (gHl g), hkF (gHf g) (gS g)), (gLm g, gLf g), (gTn g, gTd g), (gPl g, gPt g), gPc g) := by
  refine ⟨h.1, hs, ⟨by unfold hkL; exact Nat.min_le_right _ _, fun i hi => ?_⟩, h.2.2.2.1, fun i hi ht => wfM_le (h.2.2.2.2 i hi ht) hT⟩
  show wfM T' (gB g) (hkF (gHf g) (gS g) i)
  unfold hkF
  by_cases c : i = 0
  · rw [if_pos c]
    exact wfM_le h.2.1 hT
  · rw [if_neg c]
    exact wfM_le (h.2.2.1.2 (i - 1) (by have : i < hkL (gHl g) := hi; unfold hkL at this; omega)) hT
/-! the reference -/
theorem keeps_loop (hrf : RFM S.2.2) : ∀ (m fu i : Nat) (S1 : St), m < fu → i + m = 55 → S1.2 = S.2 → (∀ k, k < i → S1.1 174 k = S.1 175 k) → (∀ a k, a ≠ 174 → S1.1 a k = S.1 a k) → RN (b_X10_keepsRow_2 fu 140 (nI i) S1) (fun _ S' => S'.2 = S.2 ∧ (∀ k, k < 55 → S'.1 174 k = S.1 175 k) ∧ ∀ a k, a ≠ 174 → S'.1 a k = S.1 a k) := by
  intro m
  induction m with
  | zero =>
    intro fu i S1 hf hi h2 hz hs
    obtain ⟨fu, rfl⟩ : ∃ f, fu = f + 1 := ⟨fu - 1, by omega⟩
    have hi : i = 55 := by omega
    subst hi
    rw [b_X10_keepsRow_2, if_pos (show (55 : Int32) ≤ nI 55 by decide)]
    exact RN_some ⟨h2, hz, hs⟩
  | succ m ih =>
    intro fu i S1 hf hi h2 hz hs
    obtain ⟨fu, rfl⟩ : ∃ f, fu = f + 1 := ⟨fu - 1, by omega⟩
    have hr1 : RFM S1.2.2 := by rw [h2]; exact hrf
    rw [b_X10_keepsRow_2, if_neg (show ¬ (55 : Int32) ≤ nI i from nle_l (a := 55) (by omega) (by omega) (by omega)), ix_nI (by omega) (by decide), obq, obq, nmq, nmq, nI_1, rq_51 hr1, rq_52 hr1, hs _ _ (by decide)]
    refine ih fu (i + 1) _ (by omega) (by omega) h2 (fun k hk => ?_) (fun a k ha => (sI_ne (Or.inl ha)).trans (hs a k ha))
    rw [sI_1]
    by_cases e : k = i
    · rw [if_pos ⟨rfl, e⟩, e]
    · rw [if_neg (fun q => e q.2)]
      exact hz k (by omega)
theorem keeps_run (hrf : RFM S.2.2) : RN (f_X10_keepsRow 140 S) (fun _ S' => S'.2 = S.2 ∧ (∀ k, k < 55 → S'.1 174 k = S.1 175 k) ∧ ∀ a k, a ≠ 174 → S'.1 a k = S.1 a k) := keeps_loop hrf 55 FU 0 S (by decide) (by omega) rfl (fun k hk => absurd hk (Nat.not_lt_zero _)) (fun _ _ _ => rfl)
theorem ix55h {h k n : Nat} (hn : 55 * h + k < n) (hn2 : n < 2 ^ 31) : ix ((55 : Int32) * nI h + nI k) n = some (55 * h + k) := by
  rw [show (55 : Int32) * nI h = nI (55 * h) from pk_mul 55 h]
  exact ixm hn hn2
theorem rec_loop (hrf : RFM S.2.2) {h : Nat} (hh : h < 40) (h61 : S.1 140 61 = nI h) : ∀ (m fu i : Nat) (S1 : St), m < fu → i + m = 55 → S1.2 = S.2 → (∀ k, S1.1 180 k = if 55 * h ≤ k ∧ k < 55 * h + i then S.1 174 (k - 55 * h) else S.1 180 k) → (∀ a k, a ≠ 180 → S1.1 a k = S.1 a k) → RN (b_X10_records_51 fu 140 (nI i) S1) (fun _ S' => S'.2 = S.2 ∧ S'.1 140 61 = nI (h + 1) ∧ (∀ k, S'.1 180 k = if 55 * h ≤ k ∧ k < 55 * h + 55 then S.1 174 (k - 55 * h) else S.1 180 k) ∧ (∀ k, k < 55 → S'.1 174 k = S.1 175 k) ∧ ∀ a k, a ≠ 180 → a ≠ 174 → (a = 140 → k ≠ 61) → S'.1 a k = S.1 a k) := by
  intro m
  induction m with
  | zero =>
    intro fu i S1 hf hi h2 hz hs
    obtain ⟨fu, rfl⟩ : ∃ f, fu = f + 1 := ⟨fu - 1, by omega⟩
    have hi : i = 55 := by omega
    subst hi
    have hr1 : RFM (sI S1 140 61 (nI (h + 1))).2.2 := by rw [sI_2, h2]; exact hrf
    rw [b_X10_records_51, if_pos (show (55 : Int32) ≤ nI 55 by decide), nmq, hs _ _ (by decide), h61, nI_1]
    refine RN_bd (keeps_run hr1) (fun _ S2 h3 => ?_)
    obtain ⟨k1, k2, k3⟩ := h3
    refine RN_some ⟨k1.trans h2, (k3 _ _ (by decide)).trans sI_at, fun k => ?_, fun k hk => ?_, fun a k ha1 ha2 ha3 => ?_⟩
    · rw [k3 _ _ (by decide), sI_ne (Or.inl (by decide))]; exact hz k
    · rw [k2 k hk, sI_ne (Or.inl (by decide)), hs _ _ (by decide)]
    · rw [k3 a k ha2, sI_ne (by omega)]; exact hs a k ha1
  | succ m ih =>
    intro fu i S1 hf hi h2 hz hs
    obtain ⟨fu, rfl⟩ : ∃ f, fu = f + 1 := ⟨fu - 1, by omega⟩
    have hr1 : RFM S1.2.2 := by rw [h2]; exact hrf
    rw [b_X10_records_51, if_neg (show ¬ (55 : Int32) ≤ nI i from nle_l (a := 55) (by omega) (by omega) (by omega)), ix_nI (show i < 55 by omega) (by decide), obq, hs 140 61 (by decide), h61, ix55h (show 55 * h + i < 2200 by omega) (by decide), obq, nmq, nmq, nI_1, rq_62 hr1, rq_51 hr1, hs 174 _ (by decide)]
    refine ih fu (i + 1) _ (by omega) (by omega) h2 (fun k => ?_) (fun a k ha => (sI_ne (Or.inl ha)).trans (hs a k ha))
    rw [sI_1]
    by_cases e : k = 55 * h + i
    · rw [if_pos ⟨rfl, e⟩, if_pos (by omega), show k - 55 * h = i by omega]
    · rw [if_neg (fun q => e q.2), hz k]
      by_cases c : 55 * h ≤ k ∧ k < 55 * h + i
      · rw [if_pos c, if_pos (by omega)]
      · rw [if_neg c, if_neg (by omega)]
theorem shift_loop (hrf : RFM S.2.2) : ∀ (m fu i : Nat) (S1 : St), m < fu → i + m = 2145 → S1.2 = S.2 → (∀ k, S1.1 180 k = if k < i then S.1 180 (k + 55) else S.1 180 k) → (∀ a k, a ≠ 180 → S1.1 a k = S.1 a k) → ∃ S', b_X10_records_11 fu 140 (nI i) S1 = b_X10_records_49 140 S' ∧ S'.2 = S.2 ∧ (∀ k, S'.1 180 k = if k < 2145 then S.1 180 (k + 55) else S.1 180 k) ∧ S'.1 140 61 = S.1 140 61 - 1 ∧ ∀ a k, a ≠ 180 → (a = 140 → k ≠ 61) → S'.1 a k = S.1 a k := by
  intro m
  induction m with
  | zero =>
    intro fu i S1 hf hi h2 hz hs
    obtain ⟨fu, rfl⟩ : ∃ f, fu = f + 1 := ⟨fu - 1, by omega⟩
    have hi : i = 2145 := by omega
    subst hi
    rw [b_X10_records_11, if_pos (show (2145 : Int32) ≤ nI 2145 by decide), nmq, hs 140 61 (by decide)]
    refine ⟨_, rfl, h2, fun k => ?_, sI_at, fun a k ha1 ha2 => ?_⟩
    · rw [sI_ne (Or.inl (by decide))]; exact hz k
    · rw [sI_ne (by omega)]; exact hs a k ha1
  | succ m ih =>
    intro fu i S1 hf hi h2 hz hs
    obtain ⟨fu, rfl⟩ : ∃ f, fu = f + 1 := ⟨fu - 1, by omega⟩
    have hr1 : RFM S1.2.2 := by rw [h2]; exact hrf
    rw [b_X10_records_11, if_neg (show ¬ (2145 : Int32) ≤ nI i from nle_l (a := 2145) (by omega) (by omega) (by omega)), show nI i + (55 : Int32) = nI (i + 55) from nI_add i 55, ix_nI (show i + 55 < 2200 by omega) (by decide), obq, ix_nI (show i < 2200 by omega) (by decide), obq, nmq, nmq, nI_1, rq_62 hr1, hz (i + 55), if_neg (show ¬ i + 55 < i by omega)]
    refine ih fu (i + 1) _ (by omega) (by omega) h2 (fun k => ?_) (fun a k ha => (sI_ne (Or.inl ha)).trans (hs a k ha))
    rw [sI_1]
    by_cases e : k = i
    · rw [if_pos ⟨rfl, e⟩, if_pos (by omega), e]
    · rw [if_neg (fun q => e q.2), hz k]
      by_cases c : k < i
      · rw [if_pos c, if_pos (by omega)]
      · rw [if_neg c, if_neg (by omega)]
/-- only the row, the history and their like are changed -/
def MR (S S' : St) : Prop := S'.2 = S.2 ∧ ∀ a k, a ≠ 180 → a ≠ 174 → (a = 140 → k ≠ 61) → S'.1 a k = S.1 a k
theorem records_run {hl : Nat} {hf : Nat → ASea} (hrf : RFM S.2.2) (hl40 : hl ≤ 40) (hH : HM hl hf S) (hn : ∀ k, k < 55 → S.1 174 k = menc s k) : RN (f_X10_records 140 S) (fun _ S' => HM (hkL hl) (hkF hf s) S' ∧ (∀ k, k < 55 → S'.1 174 k = S.1 175 k) ∧ MR S S') := by
  unfold f_X10_records
  rw [hH.1]
  by_cases c : hl = 40
  · rw [if_pos (by rw [c]; rfl)]
    obtain ⟨S1, e1, s2, s180, s61, so⟩ := shift_loop hrf 2145 FU 0 S (by decide) (by omega) rfl (fun k => by rw [if_neg (Nat.not_lt_zero _)]) (fun _ _ _ => rfl)
    rw [show b_X10_records_11 FU 140 0 S = _ from e1]
    have h61 : S1.1 140 61 = nI 39 := by rw [s61, hH.1, c]; decide
    unfold b_X10_records_49
    refine RN_mono (rec_loop (S := S1) (by rw [s2]; exact hrf) (h := 39) (by decide) h61 55 FU 0 S1 (by decide) (by omega) rfl (fun k => by rw [if_neg (by omega)]) (fun _ _ _ => rfl)) (fun _ S' hh => ?_)
    obtain ⟨r1, r2, r3, r4, r5⟩ := hh
    refine ⟨⟨by rw [r2, c]; rfl, fun i hi k hk => ?_⟩, fun k hk => (r4 k hk).trans (so _ _ (by decide) (fun q => absurd q (by decide))), r1.trans s2, fun a k h1 h2 h3 => (r5 a k h1 h2 h3).trans (so a k h1 h3)⟩
    have e40 : hkL hl = 40 := by rw [c]; rfl
    rw [e40] at hi ⊢
    rw [r3]
    unfold hkF
    by_cases c0 : i = 0
    · rw [if_pos (by omega), if_pos c0, so _ _ (by decide) (fun q => absurd q (by decide)), show 55 * (40 - 1 - i) + k - 55 * 39 = k by omega]
      exact hn k hk
    · rw [if_neg (by omega), if_neg c0, s180, if_pos (by omega)]
      have := hH.2 (i - 1) (by omega) k hk
      rw [c] at this
      rw [show 55 * (40 - 1 - i) + k + 55 = 55 * (40 - 1 - (i - 1)) + k by omega]
      exact this
  · rw [if_neg (show ¬ nI hl = 40 from fun q => c ((nI_eq (b := 40) (by omega) (by decide)).mp q))]
    unfold b_X10_records_49
    refine RN_mono (rec_loop (S := S) hrf (h := hl) (by omega) hH.1 55 FU 0 S (by decide) (by omega) rfl (fun k => by rw [if_neg (by omega)]) (fun _ _ _ => rfl)) (fun _ S' hh => ?_)
    obtain ⟨r1, r2, r3, r4, r5⟩ := hh
    have e40 : hkL hl = hl + 1 := by unfold hkL; omega
    refine ⟨⟨by rw [r2, e40], fun i hi k hk => ?_⟩, r4, r1, r5⟩
    rw [e40] at hi ⊢
    rw [r3]
    unfold hkF
    by_cases c0 : i = 0
    · rw [if_pos (by omega), if_pos c0, show 55 * (hl + 1 - 1 - i) + k - 55 * hl = k by omega]
      exact hn k hk
    · rw [if_neg (by omega), if_neg c0, show 55 * (hl + 1 - 1 - i) + k = 55 * (hl - 1 - (i - 1)) + k by omega]
      exact hH.2 (i - 1) (by omega) k hk
/-- the row is kept, and the Sea before it recorded -/
theorem RM_rec {T' : Nat} {S2 : St} (h : RM lv T g S) (hT : T ≤ T') (hq : QF S S2) (hrow : ∀ k, k < 55 → S2.1 175 k = menc s k) (hw : wfM T' (gB g) s) : RN (f_X10_records 140 S2) (fun _ S' => RM lv T' (gB g, s, (hkL (gHl g), hkF (gHf g) (gS g)), (gLm g, gLf g), (gTn g, gTd g), (gPl g, gPt g), gPc g) S') := by
  have h2 := RM_q h hq
  refine RN_mono (records_run h2.rfm h2.wf.2.2.1.1 h2.hst h2.2.1) (fun _ S' hh => ?_)
  obtain ⟨r1, r2, r3, r4⟩ := hh
  refine ⟨KM_set2 h2.k (by rw [r3]) (r4 _ _ (by decide) (by decide) (by decide)) (fun a i h1 h2 => r4 _ _ (by omega) (by omega) (by omega)), fun k hk => (r2 k hk).trans (hrow k hk), r1, LM_set h2.slt (fun i => r4 _ _ (by decide) (by decide) (fun q => absurd q (by decide))) (fun i => r4 _ _ (by decide) (by decide) (fun q => absurd q (by decide))), RTm_set h2.tld (r4 _ _ (by decide) (by decide) (by decide)) (fun a i h1 h2 => r4 _ _ (by omega) (by omega) (by omega)), RPm_set h2.tap (r4 _ _ (by decide) (by decide) (by decide)) (fun i => r4 _ _ (by decide) (by decide) (fun q => absurd q (by decide))), (r4 _ _ (by decide) (by decide) (by decide)).trans h2.pl, fun k hk => (by rw [r3]; exact h2.ky k hk), wfG_k h2.wf hT hw⟩
end KEP

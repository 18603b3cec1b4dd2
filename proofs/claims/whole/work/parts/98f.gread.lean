/-! the reference: a text is gone on from -/
section MGO
variable {lv : Nat} {S S' : St}
theorem bz_loop : ∀ (m fu i : Nat) (S : St), m < fu → i + m = 55 → RFM S.2.2 → (∀ k, k < i → S.1 175 k = 0) → ∃ S', b_X10_begins_2 fu 140 (nI i) S = b_X10_begins_23 FU 140 (nI 0) S' ∧ S'.2 = S.2 ∧ (∀ a k, a ≠ 175 → S'.1 a k = S.1 a k) ∧ ∀ k, k < 55 → S'.1 175 k = 0 := by
  intro m
  induction m with
  | zero =>
    intro fu i S hf hi hr hz
    obtain ⟨fu, rfl⟩ : ∃ f, fu = f + 1 := ⟨fu - 1, by omega⟩
    rw [b_X10_begins_2, if_pos (show (55 : Int32) ≤ nI i from le_l (a := 55) (by omega) (by omega) (by omega))]
    exact ⟨S, rfl, rfl, fun _ _ _ => rfl, fun k hk => hz k (by omega)⟩
  | succ m ih =>
    intro fu i S hf hi hr hz
    obtain ⟨fu, rfl⟩ : ∃ f, fu = f + 1 := ⟨fu - 1, by omega⟩
    rw [b_X10_begins_2, if_neg (show ¬ (55 : Int32) ≤ nI i from nle_l (a := 55) (by omega) (by omega) (by omega)), ix_nI (show i < 55 by omega) (by decide), obq, nmq, nmq, rq_52 hr, nI_1]
    obtain ⟨S', e1, i1, o1, z1⟩ := ih fu (i + 1) (sI S 175 i 0) (by omega) (by omega) hr (fun k hk => by
      by_cases e : k = i
      · rw [e, sI_at]
      · rw [sI_ne (Or.inr e)]; exact hz k (by omega))
    exact ⟨S', e1, i1, fun a k ha => (o1 a k ha).trans (sI_ne (Or.inl ha)), z1⟩
theorem bin_loop {q23 : Nat → Int32 → St → Option (Unit × St)} {m : Nat} (hlv : lv < 2) (hm : m < 4) : ∀ (n j fu : Nat) (S : St), j + n = 4 → n < fu → RFM S.2.2 → S.1 140 18 = nI lv → ∃ S', b_X10_begins_38 q23 fu 140 (nI m) (nI (4 * j)) S = q23 140 (nI (m + 1)) S' ∧ S'.2 = S.2 ∧ (∀ a k, a ≠ 175 → S'.1 a k = S.1 a k) ∧ (∀ i, j ≤ i → i < 4 → S'.1 175 (4 * i + m) = S.1 151 (16 * lv + 4 * i + m)) ∧ ∀ k, (∀ i, j ≤ i → i < 4 → k ≠ 4 * i + m) → S'.1 175 k = S.1 175 k := by
  intro n
  induction n with
  | zero =>
    intro j fu S hj hf hr h18
    obtain ⟨fu, rfl⟩ : ∃ f, fu = f + 1 := ⟨fu - 1, by omega⟩
    rw [b_X10_begins_38, if_pos (show (16 : Int32) ≤ nI (4 * j) from le_l (a := 16) (by omega) (by omega) (by omega)), nmq, nI_1]
    exact ⟨S, rfl, rfl, fun _ _ _ => rfl, fun i h1 h2 => by omega, fun _ _ => rfl⟩
  | succ n ih =>
    intro j fu S hj hf hr h18
    obtain ⟨fu, rfl⟩ : ∃ f, fu = f + 1 := ⟨fu - 1, by omega⟩
    rw [b_X10_begins_38, if_neg (show ¬ (16 : Int32) ≤ nI (4 * j) from nle_l (a := 16) (by omega) (by omega) (by omega)), h18, show (16 : Int32) * nI lv + nI (4 * j) + nI m = nI (16 * lv + 4 * j + m) by rw [show (16 : Int32) = nI 16 from rfl, pk_mul, nI_add, nI_add], ix_nI (show 16 * lv + 4 * j + m < 32 by omega) (by decide), obq, show nI (4 * j) + nI m = nI (4 * j + m) from nI_add _ _, ix_nI (show 4 * j + m < 55 by omega) (by decide), obq, nmq, nmq, rq_52 hr, rq_24 hr, show nI (4 * j) + 4 = nI (4 * (j + 1)) by rw [show (4 : Int32) = nI 4 from rfl, nI_add]; rfl]
    obtain ⟨S', e1, i1, o1, v1, z1⟩ := ih (j + 1) fu (sI S 175 (4 * j + m) (S.1 151 (16 * lv + 4 * j + m))) (by omega) (by omega) hr ((sI_ne (by omega)).trans h18)
    refine ⟨S', e1, i1, fun a k ha => (o1 a k ha).trans (sI_ne (Or.inl ha)), fun i h1 h2 => ?_, fun k hk => ?_⟩
    · by_cases e : i = j
      · rw [e, z1 _ (fun i' g1 g2 => by omega), sI_at]
      · rw [v1 i (by omega) h2, sI_ne (by omega)]
    · rw [z1 k (fun i' g1 g2 => hk i' (by omega) g2), sI_ne (Or.inr (hk j (Nat.le_refl _) (by omega)))]
theorem bm_loop {M : Nat} (hlv : lv < 2) (hM : M ≤ 4) : ∀ (n m fu : Nat) (S : St), m + n = M → n < fu → RFM S.2.2 → S.1 140 18 = nI lv → S.1 150 lv = nI M → ∃ S', b_X10_begins_23 fu 140 (nI m) S = b_X10_begins_82 FU 140 (nI 0) S' ∧ S'.2 = S.2 ∧ (∀ a k, a ≠ 175 → S'.1 a k = S.1 a k) ∧ (∀ i j, i < 4 → m ≤ j → j < M → S'.1 175 (4 * i + j) = S.1 151 (16 * lv + 4 * i + j)) ∧ ∀ k, (∀ i j, i < 4 → m ≤ j → j < M → k ≠ 4 * i + j) → S'.1 175 k = S.1 175 k := by
  intro n
  induction n with
  | zero =>
    intro m fu S hm hf hr h18 h150
    obtain ⟨fu, rfl⟩ : ∃ f, fu = f + 1 := ⟨fu - 1, by omega⟩
    rw [b_X10_begins_23, h18, ix_nI hlv (by decide), obq, rq_23 hr, h150, if_pos (le_l (by omega) (by omega) (by omega))]
    exact ⟨S, rfl, rfl, fun _ _ _ => rfl, fun i j h1 h2 h3 => by omega, fun _ _ => rfl⟩
  | succ n ih =>
    intro m fu S hm hf hr h18 h150
    obtain ⟨fu, rfl⟩ : ∃ f, fu = f + 1 := ⟨fu - 1, by omega⟩
    rw [b_X10_begins_23, h18, ix_nI hlv (by decide), obq, rq_23 hr, h150, if_neg (nle_l (by omega) (by omega) (by omega))]
    obtain ⟨S1, e1, i1, o1, v1, z1⟩ := bin_loop (q23 := b_X10_begins_23 fu) hlv (show m < 4 by omega) 4 0 FU S (by decide) (by decide) hr h18
    obtain ⟨S2, e2, i2, o2, v2, z2⟩ := ih (m + 1) fu S1 (by omega) (by omega) (by rw [i1]; exact hr) ((o1 _ _ (by decide)).trans h18) ((o1 _ _ (by decide)).trans h150)
    refine ⟨S2, by rw [show b_X10_begins_38 (b_X10_begins_23 fu) FU 140 (nI m) 0 S = _ from e1, e2], i2.trans i1, fun a k ha => (o2 a k ha).trans (o1 a k ha), fun i j h1 h2 h3 => ?_, fun k hk => ?_⟩
    · by_cases e : j = m
      · rw [e, z2 _ (fun i' j' g1 g2 g3 => by omega), v1 i (Nat.zero_le _) h1]
      · rw [v2 i j h1 (by omega) h3, o1 _ _ (by decide)]
    · rw [z2 k (fun i' j' g1 g2 g3 => hk i' j' g1 (by omega) g3), z1 k (fun i' _ g2 => hk i' m g2 (Nat.le_refl _) (by omega))]
theorem bp_loop {M : Nat} (hlv : lv < 2) (hM : M ≤ 6) : ∀ (n m fu : Nat) (S : St), m + n = M → n < fu → RFM S.2.2 → S.1 140 18 = nI lv → S.1 152 lv = nI M → ∃ S', b_X10_begins_82 fu 140 (nI m) S = b_X10_begins_149 FU 140 (nI 0) S' ∧ S'.2 = S.2 ∧ (∀ a k, a ≠ 175 → S'.1 a k = S.1 a k) ∧ (∀ j, m ≤ j → j < M → S'.1 175 (20 + j) = S.1 153 (6 * lv + j) ∧ S'.1 175 (26 + j) = S.1 154 (6 * lv + j)) ∧ ∀ k, (∀ j, m ≤ j → j < M → k ≠ 20 + j ∧ k ≠ 26 + j) → S'.1 175 k = S.1 175 k := by
  intro n
  induction n with
  | zero =>
    intro m fu S hm hf hr h18 h150
    obtain ⟨fu, rfl⟩ : ∃ f, fu = f + 1 := ⟨fu - 1, by omega⟩
    rw [b_X10_begins_82, h18, ix_nI hlv (by decide), obq, rq_25 hr, h150, if_pos (le_l (by omega) (by omega) (by omega))]
    exact ⟨S, rfl, rfl, fun _ _ _ => rfl, fun j h2 h3 => by omega, fun _ _ => rfl⟩
  | succ n ih =>
    intro m fu S hm hf hr h18 h150
    obtain ⟨fu, rfl⟩ : ∃ f, fu = f + 1 := ⟨fu - 1, by omega⟩
    have r4 : RFM (sI S 175 (20 + m) (S.1 153 (6 * lv + m))).2.2 := hr
    have g18 : (sI S 175 (20 + m) (S.1 153 (6 * lv + m))).1 140 18 = nI lv := (sI_ne (by omega)).trans h18
    rw [b_X10_begins_82, h18, ix_nI hlv (by decide), obq, rq_25 hr, h150, if_neg (nle_l (by omega) (by omega) (by omega)), show (6 : Int32) * nI lv + nI m = nI (6 * lv + m) by rw [show (6 : Int32) = nI 6 from rfl, pk_mul, nI_add], ix_nI (show 6 * lv + m < 12 by omega) (by decide), obq, show (20 : Int32) + nI m = nI (20 + m) from nI_add 20 m, ix_nI (show 20 + m < 55 by omega) (by decide), obq, nmq, rq_52 hr, rq_26 hr, g18, show (6 : Int32) * nI lv + nI m = nI (6 * lv + m) by rw [show (6 : Int32) = nI 6 from rfl, pk_mul, nI_add], ix_nI (show 6 * lv + m < 12 by omega) (by decide), obq, show (26 : Int32) + nI m = nI (26 + m) from nI_add 26 m, ix_nI (show 26 + m < 55 by omega) (by decide), obq, nmq, nmq, rq_52 r4, rq_27 r4, nI_1, sI_ne (show (154 : Nat) ≠ 175 ∨ 6 * lv + m ≠ 20 + m from Or.inl (by decide))]
    obtain ⟨S2, e2, i2, o2, v2, z2⟩ := ih (m + 1) fu (sI (sI S 175 (20 + m) (S.1 153 (6 * lv + m))) 175 (26 + m) (S.1 154 (6 * lv + m))) (by omega) (by omega) hr ((sI_ne (by omega)).trans g18) ((sI_ne (by omega)).trans ((sI_ne (by omega)).trans h150))
    refine ⟨S2, e2, i2, fun a k ha => (o2 a k ha).trans ((sI_ne (Or.inl ha)).trans (sI_ne (Or.inl ha))), fun j h2 h3 => ?_, fun k hk => ?_⟩
    · by_cases e : j = m
      · rw [e, z2 _ (fun j' g2 g3 => by omega), z2 _ (fun j' g2 g3 => by omega), sI_at, sI_ne (by omega), sI_at]
        exact ⟨rfl, rfl⟩
      · rw [(v2 j (by omega) h3).1, (v2 j (by omega) h3).2, sI_ne (by omega), sI_ne (by omega), sI_ne (by omega), sI_ne (by omega)]
        exact ⟨rfl, rfl⟩
    · have hm0 := hk m (Nat.le_refl _) (by omega)
      rw [z2 k (fun j' g2 g3 => hk j' (by omega) g3), sI_ne (Or.inr hm0.2), sI_ne (Or.inr hm0.1)]
theorem be_loop {M : Nat} {sdv : Int32} (hlv : lv < 2) (hM : M ≤ 8) : ∀ (n m fu : Nat) (S : St), m + n = M → n < fu → RFM S.2.2 → S.1 140 18 = nI lv → S.1 156 lv = nI M → S.1 161 lv = sdv → ∃ S', b_X10_begins_149 fu 140 (nI m) S = some ((), S') ∧ S'.2 = S.2 ∧ (∀ a k, a ≠ 175 → (a = 140 → k ≠ 53 ∧ k ≠ 54) → S'.1 a k = S.1 a k) ∧ (∀ j, m ≤ j → j < M → S'.1 175 (38 + j) = S.1 158 (8 * lv + j)) ∧ ∀ k, (∀ j, m ≤ j → j < M → k ≠ 38 + j) → S'.1 175 k = S.1 175 k := by
  intro n
  induction n with
  | zero =>
    intro m fu S hm hf hr h18 h150 h161
    obtain ⟨fu, rfl⟩ : ∃ f, fu = f + 1 := ⟨fu - 1, by omega⟩
    rw [b_X10_begins_149, h18, ix_nI hlv (by decide), obq, rq_29 hr, h150, if_pos (le_l (by omega) (by omega) (by omega)), obq, nmq, nmq]
    exact ⟨_, rfl, rfl, fun a k h1 h2 => by rw [sI_ne (by omega), sI_ne (by omega)], fun j h2 h3 => by omega, fun _ _ => by rw [sI_ne (by omega), sI_ne (by omega)]⟩
  | succ n ih =>
    intro m fu S hm hf hr h18 h150 h161
    obtain ⟨fu, rfl⟩ : ∃ f, fu = f + 1 := ⟨fu - 1, by omega⟩
    rw [b_X10_begins_149, h18, ix_nI hlv (by decide), obq, rq_29 hr, h150, if_neg (nle_l (by omega) (by omega) (by omega)), show (8 : Int32) * nI lv + nI m = nI (8 * lv + m) by rw [show (8 : Int32) = nI 8 from rfl, pk_mul, nI_add], ix_nI (show 8 * lv + m < 16 by omega) (by decide), obq, show (38 : Int32) + nI m = nI (38 + m) from nI_add 38 m, ix_nI (show 38 + m < 55 by omega) (by decide), obq, nmq, nmq, rq_52 hr, rq_31 hr, nI_1]
    obtain ⟨S2, e2, i2, o2, v2, z2⟩ := ih (m + 1) fu (sI S 175 (38 + m) (S.1 158 (8 * lv + m))) (by omega) (by omega) hr ((sI_ne (by omega)).trans h18) ((sI_ne (by omega)).trans h150) ((sI_ne (by omega)).trans h161)
    refine ⟨S2, e2, i2, fun a k h1 h2 => (o2 a k h1 h2).trans (sI_ne (Or.inl h1)), fun j h2 h3 => ?_, fun k hk => ?_⟩
    · by_cases e : j = m
      · rw [e, z2 _ (fun j' g2 g3 => by omega), sI_at]
      · rw [v2 j (by omega) h3, sI_ne (by omega)]
    · rw [z2 k (fun j' g2 g3 => hk j' (by omega) g3), sI_ne (Or.inr (hk m (Nat.le_refl _) (by omega)))]
theorem begins_run {A : RA} (hlv : lv < 2) (hr : RFM S.2.2) (h18 : S.1 140 18 = nI lv) (b0 : S.1 150 lv = nI (bM (rB A))) (b1 : S.1 152 lv = nI (bP (rB A))) (b2 : S.1 156 lv = nI (bS (rB A))) (w1 : bM (rB A) ≤ 4) (w2 : bP (rB A) ≤ 6) (w3 : bS (rB A) ≤ 8) (hc : CMn lv A S) (hw : wfR A) : ∃ S', f_X10_begins 140 S = some ((), S') ∧ S'.2 = S.2 ∧ (∀ a k, a ≠ 175 → (a = 140 → k ≠ 53 ∧ k ≠ 54) → S'.1 a k = S.1 a k) ∧ ∀ k, k < 55 → S'.1 175 k = menc (bgS A) k := by
  obtain ⟨c1, c2, c3, c4, c5⟩ := hc
  obtain ⟨-, -, -, -, z4, z6, z8⟩ := hw
  obtain ⟨S1, e1, i1, o1, v1⟩ := bz_loop 55 FU 0 S (by decide) (by decide) hr (fun k hk => absurd hk (Nat.not_lt_zero _))
  have r1 : RFM S1.2.2 := by rw [i1]; exact hr
  obtain ⟨S2, e2, i2, o2, v2, y2⟩ := bm_loop hlv w1 (bM (rB A)) 0 FU S1 (by omega) (by show bM (rB A) < 5000; omega) r1 ((o1 _ _ (by decide)).trans h18) ((o1 _ _ (by decide)).trans b0)
  have r2 : RFM S2.2.2 := by rw [i2]; exact r1
  have o2' : ∀ a k, a ≠ 175 → S2.1 a k = S.1 a k := fun a k h => (o2 a k h).trans (o1 a k h)
  obtain ⟨S3, e3, i3, o3, v3, y3⟩ := bp_loop hlv w2 (bP (rB A)) 0 FU S2 (by omega) (by show bP (rB A) < 5000; omega) r2 ((o2' _ _ (by decide)).trans h18) ((o2' _ _ (by decide)).trans b1)
  have r3 : RFM S3.2.2 := by rw [i3]; exact r2
  have o3' : ∀ a k, a ≠ 175 → S3.1 a k = S.1 a k := fun a k h => (o3 a k h).trans (o2' a k h)
  obtain ⟨S4, e4, i4, o4, v4, y4⟩ := be_loop (sdv := nI (bSeed (rB A))) hlv w3 (bS (rB A)) 0 FU S3 (by omega) (by show bS (rB A) < 5000; omega) r3 ((o3' _ _ (by decide)).trans h18) ((o3' _ _ (by decide)).trans b2) ((o3' _ _ (by decide)).trans c2)
  unfold f_X10_begins
  rw [show b_X10_begins_2 FU 140 0 S = _ from e1, e2, e3, e4]
  refine ⟨S4, rfl, i4.trans (i3.trans (i2.trans i1)), fun a k h1 h2 => (o4 a k h1 h2).trans (o3' a k h1), fun k hk => ?_⟩
  by_cases k16 : k < 16
  · have e : menc (bgS A) k = rF A k := menc_m k16
    rw [e, y4 k (fun j _ h => by omega), y3 k (fun j _ h => by omega)]
    have hk4 : k = 4 * (k / 4) + k % 4 := by omega
    by_cases cm : k % 4 < bM (rB A)
    · have h5 := c5 (k % 4) cm
      have hv := v2 (k / 4) (k % 4) (by omega) (Nat.zero_le _) cm
      rw [← hk4, o1 _ _ (by decide)] at hv
      rw [hv]
      rcases (show k / 4 = 0 ∨ k / 4 = 1 ∨ k / 4 = 2 ∨ k / 4 = 3 by omega) with q | q | q | q
      · rw [show 16 * lv + 4 * (k / 4) + k % 4 = 16 * lv + k % 4 by omega, h5.1]
        exact congrArg (rF A) (by omega)
      · rw [show 16 * lv + 4 * (k / 4) + k % 4 = 16 * lv + k % 4 + 4 by omega, h5.2.1]
        exact congrArg (rF A) (by omega)
      · rw [show 16 * lv + 4 * (k / 4) + k % 4 = 16 * lv + k % 4 + 8 by omega, h5.2.2.1]
        exact congrArg (rF A) (by omega)
      · rw [show 16 * lv + 4 * (k / 4) + k % 4 = 16 * lv + k % 4 + 12 by omega, h5.2.2.2]
        exact congrArg (rF A) (by omega)
    · have hz := z4 (k % 4) (by omega) (by omega)
      rw [y2 k (fun i j h1 _ h3 => by omega), v1 k (by omega)]
      rcases (show k / 4 = 0 ∨ k / 4 = 1 ∨ k / 4 = 2 ∨ k / 4 = 3 by omega) with q | q | q | q
      · rw [show k = k % 4 by omega]; exact hz.1.symm
      · rw [show k = 4 + k % 4 by omega]; exact hz.2.1.symm
      · rw [show k = 8 + k % 4 by omega]; exact hz.2.2.1.symm
      · rw [show k = 12 + k % 4 by omega]; exact hz.2.2.2.symm
  by_cases k20 : k < 20
  · have e : menc (bgS A) k = 0 := by
      rw [show k = 16 + (k - 16) by omega, menc_d (by omega)]
      show bitI 0 _ = 0
      unfold bitI
      rw [Nat.zero_testBit, if_neg (by decide)]
    rw [e, y4 k (fun j _ h => by omega), y3 k (fun j _ h => by omega), y2 k (fun i j h1 _ h3 => by omega), v1 k hk]
  by_cases k26 : k < 26
  · obtain ⟨p, rfl⟩ : ∃ p, k = 20 + p := ⟨k - 20, by omega⟩
    rw [menc_px (by omega), y4 _ (fun j _ h => by omega)]
    show _ = rF A (16 + p)
    by_cases cp : p < bP (rB A)
    · rw [(v3 p (Nat.zero_le _) cp).1, o2' _ _ (by decide)]
      exact (c3 p cp).2.1
    · rw [y3 _ (fun j _ h => by omega), y2 _ (fun i j h1 _ h3 => by omega), v1 _ hk]
      exact (z6 p (by omega) (by omega)).1.symm
  by_cases k32 : k < 32
  · obtain ⟨p, rfl⟩ : ∃ p, k = 26 + p := ⟨k - 26, by omega⟩
    rw [menc_py (by omega), y4 _ (fun j _ h => by omega)]
    show _ = rF A (22 + p)
    by_cases cp : p < bP (rB A)
    · rw [(v3 p (Nat.zero_le _) cp).2, o2' _ _ (by decide)]
      exact (c3 p cp).2.2
    · rw [y3 _ (fun j _ h => by omega), y2 _ (fun i j h1 _ h3 => by omega), v1 _ hk]
      exact (z6 p (by omega) (by omega)).2.symm
  by_cases k38 : k < 38
  · have e : menc (bgS A) k = 0 := by
      rw [show k = 32 + (k - 32) by omega, menc_o (by omega)]
      show bitI 0 _ = 0
      unfold bitI
      rw [Nat.zero_testBit, if_neg (by decide)]
    rw [e, y4 k (fun j _ h => by omega), y3 k (fun j _ h => by omega), y2 k (fun i j h1 _ h3 => by omega), v1 k hk]
  by_cases k46 : k < 46
  · obtain ⟨p, rfl⟩ : ∃ p, k = 38 + p := ⟨k - 38, by omega⟩
    rw [menc_w (by omega)]
    show _ = rF A (28 + p)
    by_cases cp : p < bS (rB A)
    · rw [v4 p (Nat.zero_le _) cp, o3' _ _ (by decide)]
      exact (c4 p cp).2.2
    · rw [y4 _ (fun j _ h => by omega), y3 _ (fun j _ h => by omega), y2 _ (fun i j h1 _ h3 => by omega), v1 _ hk]
      exact (z8 p (by omega) (by omega)).symm
  by_cases k54 : k < 54
  · have e : menc (bgS A) k = 0 := by
      rw [show k = 46 + (k - 46) by omega, menc_c (by omega)]
      show bitI 0 _ = 0
      unfold bitI
      rw [Nat.zero_testBit, if_neg (by decide)]
    rw [e, y4 k (fun j _ h => by omega), y3 k (fun j _ h => by omega), y2 k (fun i j h1 _ h3 => by omega), v1 k hk]
  · have e : k = 54 := by omega
    rw [e, menc_t, y4 _ (fun j _ h => by omega), y3 _ (fun j _ h => by omega), y2 _ (fun i j h1 _ h3 => by omega), v1 _ (by decide)]
    rfl
theorem slots_loop : ∀ (m fu i : Nat) (S : St), m < fu → i + m = 3 → RFM S.2.2 → ∃ S', b_X10_read_219 fu 140 (nI i) S = some (0, S') ∧ S'.2 = S.2 ∧ (∀ a k, a ≠ 185 → S'.1 a k = S.1 a k) ∧ (∀ j, i ≤ j → j < 3 → S'.1 185 j = 0) ∧ ∀ j, j < i → S'.1 185 j = S.1 185 j := by
  intro m
  induction m with
  | zero =>
    intro fu i S hf hi hr
    obtain ⟨fu, rfl⟩ : ∃ f, fu = f + 1 := ⟨fu - 1, by omega⟩
    rw [b_X10_read_219, if_pos (show (3 : Int32) ≤ nI i from le_l (a := 3) (by omega) (by omega) (by omega))]
    exact ⟨S, rfl, rfl, fun _ _ _ => rfl, fun j h1 h2 => by omega, fun _ _ => rfl⟩
  | succ m ih =>
    intro fu i S hf hi hr
    obtain ⟨fu, rfl⟩ : ∃ f, fu = f + 1 := ⟨fu - 1, by omega⟩
    rw [b_X10_read_219, if_neg (show ¬ (3 : Int32) ≤ nI i from nle_l (a := 3) (by omega) (by omega) (by omega)), ix_nI (show i < 3 by omega) (by decide), obq, nmq, nmq, rq_69 hr, nar_bool0, nI_1]
    obtain ⟨S', e1, i1, o1, v1, z1⟩ := ih fu (i + 1) (sI S 185 i 0) (by omega) (by omega) hr
    refine ⟨S', e1, i1, fun a k ha => (o1 a k ha).trans (sI_ne (Or.inl ha)), fun j h1 h2 => ?_, fun j hj => ?_⟩
    · by_cases e : j = i
      · rw [e, z1 _ (by omega), sI_at]
      · exact v1 j (by omega) h2
    · rw [z1 j (by omega), sI_ne (by omega)]
end MGO
section GRD
variable {B lv T : Nat} {g : GS} {S S' : St}
theorem KM_side {sd : Nat} {b : Bk} (hsd : sd = 1 - lv) (h : KM lv b S) (hb : wfB b) (h2 : S'.2.2 = S.2.2) (ho : ∀ a i, okX sd a i → (a = 140 → i ≠ 17) → S'.1 a i = S.1 a i) : KM lv b S' := by
  obtain ⟨a1, a2, a3, a4, a5, a6, a7, a8, a9, a10, a11⟩ := h
  obtain ⟨w1, w2, w3, -⟩ := hb
  have oc : ∀ a i, (a = 150 ∨ a = 152 ∨ a = 156 ∨ a = 160 ∨ a = 161) → i = lv → S'.1 a i = S.1 a i := fun a i z1 z2 => ho a i (by unfold okX okM; omega) (by omega)
  have o62 : ∀ a k, (a = 162 ∨ a = 163) → k < 4 → S'.1 a (4 * lv + k) = S.1 a (4 * lv + k) := fun a k z1 z2 => ho _ _ (by unfold okX okM; omega) (by omega)
  refine ⟨by rw [h2]; exact a1, a2, (ho _ _ (by unfold okX okM; omega) (by omega)).trans a3, (oc _ _ (by omega) rfl).trans a4, (oc _ _ (by omega) rfl).trans a5, (oc _ _ (by omega) rfl).trans a6, (oc _ _ (by omega) rfl).trans a7, (oc _ _ (by omega) rfl).trans a8, fun p hp => (ho _ _ (by unfold okX okM; omega) (by omega)).trans (a9 p hp), fun e he => ⟨(ho _ _ (by unfold okX okM; omega) (by omega)).trans (a10 e he).1, (ho _ _ (by unfold okX okM; omega) (by omega)).trans (a10 e he).2⟩, fun k hk => ?_⟩
  rcases a11 k hk with ⟨h1, h3⟩ | ⟨b', h1, h3, h4, h5, h6, h7, h8⟩
  · exact Or.inl ⟨(o62 _ k (Or.inl rfl) hk).trans (h1.trans (o62 _ k (Or.inr rfl) hk).symm), h3⟩
  · have hw := BRw_keep (S' := S') h8 (Nat.le_refl _) (fun a i z1 z2 z3 z4 => ho _ _ (by unfold okX okM; omega) (by omega)) (fun i z1 z2 => ⟨ho _ _ (by unfold okX okM; omega) (by omega), ho _ _ (by unfold okX okM; omega) (by omega)⟩)
    exact Or.inr ⟨b', (o62 _ k (Or.inl rfl) hk).trans h1, (o62 _ k (Or.inr rfl) hk).trans h3, h4, BRw_BRs hw (by omega), h6, h7, hw⟩
theorem RM_fail {sd : Nat} {p : Int32} (hsd : sd = 1 - lv) (h : RM lv T g S) (h2 : S'.2.2 = S.2.2) (hL : ∀ k, S'.2.1 147 k = S.2.1 147 k) (ho : ∀ a i, okX sd a i → (a = 140 → i ≠ 17) → S'.1 a i = S.1 a i) (h02 : S'.1 140 2 = 0) (hp : S'.1 140 17 = p) : RM lv (T + 60) (gB g, gS g, (gHl g, gHf g), (gLm g, gLf g), (gTn g, gTd g), (0, gPt g), p) S' := by
  have o1 : ∀ a i, a = 174 ∨ (180 ≤ a ∧ a ≤ 186) → S'.1 a i = S.1 a i := fun a i z => ho a i (by unfold okX okM; omega) (by omega)
  have o2 : ∀ i, i = 61 ∨ i = 64 → S'.1 140 i = S.1 140 i := fun i z => ho _ _ (by unfold okX okM; omega) (by omega)
  exact ⟨KM_side hsd h.k h.wf.1 h2 ho, fun k hk => (o1 _ _ (by omega)).trans (h.now hk), HM_set h.hst (o2 _ (by omega)) (fun i => o1 _ _ (by omega)), LM_set h.slt (fun i => o1 _ _ (by omega)) (fun i => o1 _ _ (by omega)), RTm_set h.tld (o2 _ (by omega)) (fun a i z1 z2 => o1 _ _ (by omega)), ⟨Nat.zero_le _, h02, fun i hi => absurd hi (Nat.not_lt_zero _)⟩, hp, fun k hk => (hL k).trans (h.ky k hk), wfG_le h.wf (by omega)⟩
theorem RLr_m {sd k q br : Nat} {l : Lw} (hsd : sd < 2) (hq : q ≤ 400) (hbr : br ≤ 130) (h : RLr sd k l q br S) : RLm sd k l S := by
  rcases h with ⟨h1, h2⟩ | ⟨b, h1, h2, h3, h4, h5⟩
  · exact Or.inl ⟨h1, h2⟩
  · have hw : BRw l.1 l.2 b (420 * sd) (420 * sd + 420) S := BRw_keep h5 (by omega) (fun _ _ _ _ _ _ => rfl) (fun _ _ _ => ⟨rfl, rfl⟩)
    exact Or.inr ⟨b, h1, h2, by omega, BRw_BRs hw (by omega), h3, by omega, hw⟩
theorem RM_new {sd t : Nat} {v : Nat → Int32} {len : Nat} {A : RA} (hsd : sd < 2) (hW : WA v len none A) (hK : KMs v len sd (.inr (t, none)) A S) (hky : KY S) (h02 : S.1 140 2 = 0) : RN (b_X10_read_164 140 140 (-1) S) (fun r S' => r = 0 ∧ RM sd (T + 60) (gNew g A) S') := by
  obtain ⟨hr, hs, c19, c12, c20, ⟨b0, b1, b2⟩, -, ⟨q, br, q1, q2, q3, q4, q5⟩, hc⟩ := hK
  have ht := hs.1.1
  have hcc := hc rfl
  have h15 : S.1 140 15 = 0 := hs.2.1
  obtain ⟨w1, w2, w3, w4, w5, w6⟩ := id hW
  unfold b_X10_read_164
  rw [nmq, show (sI S 140 17 (-1)).1 140 13 = 0 from (sI_ne (by omega)).trans hs.1.2.2.1, if_pos (by decide), show (sI S 140 17 (-1)).1 140 15 = 0 from (sI_ne (by omega)).trans h15, if_pos (by decide), nmq, show (sI S 140 17 (-1)).1 140 19 = nI sd from (sI_ne (by omega)).trans c19]
  have o2 : ∀ a i, (a = 140 → i ≠ 17 ∧ i ≠ 18) → (sI (sI S 140 17 (-1)) 140 18 (nI sd)).1 a i = S.1 a i := fun a i z => by rw [sI_ne (by omega), sI_ne (by omega)]
  have r2 : RFM (sI (sI S 140 17 (-1)) 140 18 (nI sd)).2.2 := hr
  have hc2 : CMn sd A (sI (sI S 140 17 (-1)) 140 18 (nI sd)) := by
    obtain ⟨c1, c2, c3, c4, c5⟩ := hcc
    refine ⟨(o2 _ _ (by omega)).trans c1, (o2 _ _ (by omega)).trans c2, fun p hp => ?_, fun e he => ?_, fun m hm => ?_⟩
    · rw [o2 _ _ (by omega), o2 _ _ (by omega), o2 _ _ (by omega)]; exact c3 p hp
    · rw [o2 _ _ (by omega), o2 _ _ (by omega), o2 _ _ (by omega)]; exact c4 e he
    · rw [o2 _ _ (by omega), o2 _ _ (by omega), o2 _ _ (by omega), o2 _ _ (by omega)]; exact c5 m hm
  obtain ⟨S3, e3, i3, o3, v3⟩ := begins_run (lv := sd) hsd r2 sI_at ((o2 _ _ (by omega)).trans b0) ((o2 _ _ (by omega)).trans b1) ((o2 _ _ (by omega)).trans b2) w1 w2 w3 hc2 (w6 rfl)
  have r3 : RFM S3.2.2 := by rw [i3]; exact r2
  obtain ⟨_, S5, e5, i5, v5, o5⟩ := keeps_run r3
  have r8 : RFM (sI (sI S5 140 61 0) 140 64 0).2.2 := by show RFM S5.2.2; rw [i5]; exact r3
  obtain ⟨S9, e9, i9, o9, v9, -⟩ := slots_loop 3 FU 0 (sI (sI S5 140 61 0) 140 64 0) (by decide) (by decide) r8
  rw [e3, bdq, e5, bdq, nmq, nmq, show b_X10_read_219 FU 140 0 (sI (sI S5 140 61 0) 140 64 0) = _ from e9]
  have i9' : S9.2 = S.2 := i9.trans (i5.trans i3)
  have oo : ∀ a i, (a = 140 → i ≠ 17 ∧ i ≠ 18 ∧ i ≠ 53 ∧ i ≠ 54 ∧ i ≠ 61 ∧ i ≠ 64) → a ≠ 174 → a ≠ 175 → a ≠ 185 → S9.1 a i = S.1 a i := fun a i z1 z2 z3 z4 => by
    rw [o9 a i z4, sI_ne (by omega), sI_ne (by omega), o5 a i z2, o3 a i z3 (by omega), o2 a i (by omega)]
  have p18 : S9.1 140 18 = nI sd := by
    rw [o9 _ _ (by decide), sI_ne (by omega), sI_ne (by omega), o5 _ _ (by decide), o3 _ _ (by decide) (by omega), sI_at]
  have p17 : S9.1 140 17 = -1 := by
    rw [o9 _ _ (by decide), sI_ne (by omega), sI_ne (by omega), o5 _ _ (by decide), o3 _ _ (by decide) (by omega), sI_ne (by omega), sI_at]
  obtain ⟨c1, c2, c3, c4, c5⟩ := hcc
  refine RN_some ⟨rfl, ⟨by rw [i9']; exact hr, hsd, p18, (oo _ _ (by omega) (by omega) (by omega) (by omega)).trans b0, (oo _ _ (by omega) (by omega) (by omega) (by omega)).trans b1, (oo _ _ (by omega) (by omega) (by omega) (by omega)).trans b2, (oo _ _ (by omega) (by omega) (by omega) (by omega)).trans c1, (oo _ _ (by omega) (by omega) (by omega) (by omega)).trans c2, fun p hp => (oo _ _ (by omega) (by omega) (by omega) (by omega)).trans (c3 p hp).1, fun e he => ⟨(oo _ _ (by omega) (by omega) (by omega) (by omega)).trans (c4 e he).1, (oo _ _ (by omega) (by omega) (by omega) (by omega)).trans (c4 e he).2.1⟩, fun k hk => RLm_set (RLr_m hsd (by omega) (by omega) (q5 k hk)) (fun a i z1 z2 => oo _ _ (by omega) (by omega) (by omega) (by omega))⟩, fun k hk => ?_, ⟨?_, fun i hi => absurd hi (Nat.not_lt_zero _)⟩, fun i hi => ⟨?_, fun ht => ?_⟩, ⟨Nat.zero_le _, ?_, fun i hi => absurd hi (Nat.not_lt_zero _)⟩, ⟨Nat.zero_le _, (oo _ _ (by omega) (by omega) (by omega) (by omega)).trans h02, fun i hi => absurd hi (Nat.not_lt_zero _)⟩, p17, fun k hk => by rw [i9']; exact hky k hk, wfG_new hW⟩
  · rw [o9 _ _ (by decide), sI_ne (by omega), sI_ne (by omega), v5 k hk]
    exact v3 k hk
  · rw [o9 _ _ (by decide), sI_ne (by omega), sI_at]; rfl
  · rw [v9 i (Nat.zero_le _) hi]
    show (0 : Int32) = if (0 : Nat).testBit i = true then 1 else 0
    rw [Nat.zero_testBit, if_neg (by decide)]
  · have ht : (0 : Nat).testBit i = true := ht
    rw [Nat.zero_testBit] at ht
    cases ht
  · rw [o9 _ _ (by decide), sI_at]; rfl
/-- nothing of the reference's is changed -/
def FQ (S S' : St) : Prop := ∀ a, 140 ≤ a → (∀ i, S'.1 a i = S.1 a i) ∧ ∀ i, S'.2.1 a i = S.2.1 a i
def RFW (f : Nat → Nat → Nat) : Prop := ∃ B B1 C, f = RB B B1 C ∧ ((B = 2 ∧ B1 = 16) ∨ (B = 16 ∧ B1 = 2)) ∧ (C = 2 ∨ C = 16)
def PGF (B lv T : Nat) (g : GS) (fc fm : St → Option (Int32 × St)) : Prop := ∃ r g' B' lv', (BT g → BT g') ∧ (∀ S, RC B T g S → RFW S.2.2 → RN (fc S) (fun r' S' => r' = r ∧ RC B' (T + 60) g' S' ∧ FQ S S' ∧ RFW S'.2.2)) ∧ ∀ S, RM lv T g S → RN (fm S) (fun r' S' => r' = r ∧ RM lv' (T + 60) g' S')
theorem g_read (hbt : BT g) : PGF B lv T g (f_X9_read 0) (f_X10_read 140) := by
  by_cases hlen : gPl g ≤ 2000
  · obtain ⟨st, A, hW, hC, hM⟩ := txt_loop (v := gPt g) (len := gPl g) hlen 400 0 none A0 (by decide) (by decide) WA_0
    -- each side up to the end of the text
    have hc : ∀ S, RC B T g S → ∃ S1, f_X4_readText 30 (nI (gPl g)) (18 - B) S = b_X4_readText_171 30 S1 ∧ S1.2.2 = RB B (18 - B) (18 - B) ∧ (∀ a i, (a = 30 → i < 2) → (a = 31 → i ≠ 4) → a ≠ 32 → a ≠ 33 → (a < 18 - B ∨ 18 - B + 13 < a) → S1.1 a i = S.1 a i) ∧ KCs (gPt g) (gPl g) (18 - B) st A S1 ∧ S1.1 (18 - B + 12) 1 = 0 ∧ S1.1 (18 - B + 12) 2 = 0 ∧ S1.1 (18 - B + 12) 3 = 0 ∧ S1.1 (18 - B + 12) 4 = 0 ∧ (∀ a i, 140 ≤ a → S1.2.1 a i = S.2.1 a i) ∧ ((B = 2 ∧ 18 - B = 16) ∨ (B = 16 ∧ 18 - B = 2)) := by
      intro S h
      obtain ⟨B1, C, hr, hB⟩ := h.1
      have e1 : B1 = 18 - B := by omega
      subst e1
      obtain ⟨S0, e0, i0, o0, k0, y1, y2, y3, y4, y5⟩ := c_begin hB hr hbt h.tap
      obtain ⟨S1, e1, f1, k1⟩ := hC (18 - B) S0 FU 0 k0 (Nat.le_refl _) (by decide)
      exact ⟨S1, e0.trans e1, f1.1.trans i0, fun a i z1 z2 z3 z4 z5 => (f1.2.1 a i z1 z5).trans (o0 a i z1 z2 z3 z4 z5), k1, (f1.2.2.2 _).trans y1, (f1.2.2.2 _).trans y2, (f1.2.2.2 _).trans y3, (f1.2.2.2 _).trans y4, fun a i z => (f1.2.2.1 a i (by omega) (by omega)).trans (y5 a i (by omega)), hB⟩
    have hm : ∀ S, RM lv T g S → ∃ S1, f_X10_read 140 S = b_X10_read_134 140 S1 ∧ S1.2.2 = S.2.2 ∧ (∀ k, S1.2.1 147 k = S.2.1 147 k) ∧ (∀ a i, okX (1 - lv) a i → S1.1 a i = S.1 a i) ∧ S1.1 140 2 = 0 ∧ KMs (gPt g) (gPl g) (1 - lv) st A S1 := by
      intro S h
      have hlv : lv < 2 := h.k.2.1
      obtain ⟨S0, e0, i0, l0, o0, z0, k0⟩ := m_begin hlv rfl h.rfm hbt h.tap h.ky h.k.2.2.1
      obtain ⟨S1, e1, f1, k1⟩ := hM (1 - lv) S0 FU (by omega) k0 (by decide)
      exact ⟨S1, e0.trans e1, f1.1.trans i0, fun k => (f1.2.1 _ _ (by decide)).trans (l0 _ _ (by decide)), fun a i z => (f1.2.2 a i z.1).trans (o0 a i z), (f1.2.2 _ _ (by unfold okM; omega)).trans z0, k1⟩
    have hc4 : ∀ S, RC B T g S → S.2.2 0 2 = 30 ∧ S.1 0 1 = nI (gPl g) ∧ S.2.2 0 4 = 18 - B ∧ ((B = 2 ∧ 18 - B = 16) ∨ (B = 16 ∧ 18 - B = 2)) := fun S h => by
      obtain ⟨B1, C, hr, hB⟩ := h.1
      refine ⟨rc_2 h.rfc, h.tap.2.1, ?_, by omega⟩
      rw [hr, rb_0_4]
      omega
    match st, hW, hc, hm with
    | .inl (f, u), _, hc, hm =>
      refine ⟨nI f, (gB g, gS g, (gHl g, gHf g), (gLm g, gLf g), (gTn g, gTd g), (0, gPt g), nI (psT (gPt g) (gPl g) u)), B, lv, fun _ i hi => absurd hi (Nat.not_lt_zero _), fun S h _ => ?_, fun S h => ?_⟩
      · obtain ⟨S1, e1, i1, o1, k1, -, -, -, -, l1, hBB⟩ := hc S h
        obtain ⟨p1, p2, p3, p4⟩ := hc4 S h
        have d1 : DDc f (psT (gPt g) (gPl g) u) S1 := k1.2.1
        unfold f_X9_read
        rw [p1, p2, p3, e1]
        unfold b_X4_readText_171
        rw [if_neg (by rw [d1.1]; exact f_nz d1.2.2.1), d1.1, bdq, nmq, if_neg (f_nz d1.2.2.1)]
        exact RN_some ⟨rfl, RC_fail (B1 := 18 - B) h p4 i1 (fun a i z1 z2 z3 z4 z5 z6 => (sI_ne (by omega)).trans (o1 a i z1 z2 z3 z4 z5)) sI_at ((sI_ne (by omega)).trans d1.2.1), fun a ha => ⟨fun i => (sI_ne (by omega)).trans (o1 a i (by omega) (by omega) (by omega) (by omega) (by omega)), fun i => l1 a i ha⟩, B, 18 - B, 18 - B, i1, hBB, by omega⟩
      · obtain ⟨S1, e1, i1, l1, o1, z1, k1⟩ := hm S h
        have d1 : DDm f (psT (gPt g) (gPl g) u) S1 := k1.2.1
        rw [e1]
        unfold b_X10_read_134 b_X10_read_164
        rw [if_neg (by rw [d1.1]; exact f_pos d1.2.2.1), nmq, show (sI S1 140 17 (S1.1 140 14)).1 140 13 = nI f from (sI_ne (by omega)).trans d1.1, if_neg (f_pos d1.2.2.1)]
        exact RN_some ⟨rfl, RM_fail rfl h i1 l1 (fun a i z z' => (sI_ne (by omega)).trans (o1 a i z)) ((sI_ne (by omega)).trans z1) (by rw [sI_at]; exact d1.2.1)⟩
    | .inr (t, some (k, p)), _, hc, hm =>
      refine ⟨nI k, (gB g, gS g, (gHl g, gHf g), (gLm g, gLf g), (gTn g, gTd g), (0, gPt g), nI p), B, lv, fun _ i hi => absurd hi (Nat.not_lt_zero _), fun S h _ => ?_, fun S h => ?_⟩
      · obtain ⟨S1, e1, i1, o1, k1, -, -, -, -, l1, hBB⟩ := hc S h
        obtain ⟨p1, p2, p3, p4⟩ := hc4 S h
        obtain ⟨y1, y2, y3, y4⟩ := k1.2.1.2
        have nz : ¬ nI k = 0 := nI_ne0 (by omega) (by omega)
        unfold f_X9_read
        rw [p1, p2, p3, e1]
        unfold b_X4_readText_171
        rw [if_pos k1.2.1.1.2.2.1, y1, if_neg nz, nmq, nmq, show (sI S1 30 3 (nI k)).1 30 6 = nI p from (sI_ne (by omega)).trans y2, show (sI (sI S1 30 3 (nI k)) 30 4 (nI p)).1 30 3 = nI k from (sI_ne (by omega)).trans sI_at, bdq, nmq, if_neg nz]
        exact RN_some ⟨rfl, RC_fail (B1 := 18 - B) h p4 i1 (fun a i z1 z2 z3 z4 z5 z6 => by rw [sI_ne (by omega), sI_ne (by omega), sI_ne (by omega)]; exact o1 a i z1 z2 z3 z4 z5) sI_at ((sI_ne (by omega)).trans sI_at), fun a ha => ⟨fun i => by rw [sI_ne (by omega), sI_ne (by omega), sI_ne (by omega)]; exact o1 a i (by omega) (by omega) (by omega) (by omega) (by omega), fun i => l1 a i ha⟩, B, 18 - B, 18 - B, i1, hBB, by omega⟩
      · obtain ⟨S1, e1, i1, l1, o1, z1, k1⟩ := hm S h
        obtain ⟨y1, y2, y3, y4⟩ := k1.2.1.2.1
        have np : ¬ nI k ≤ 0 := nle_l (b := 0) (by omega) (by omega) (by omega)
        have h13 : S1.1 140 13 = 0 := k1.2.1.1.2.2.1
        rw [e1]
        unfold b_X10_read_134 b_X10_read_164
        rw [h13, if_pos (by decide), y1, if_neg np, nmq, y2, show (sI S1 140 17 (nI p)).1 140 13 = 0 from (sI_ne (by omega)).trans h13, if_pos (by decide), show (sI S1 140 17 (nI p)).1 140 15 = nI k from (sI_ne (by omega)).trans y1, if_neg np]
        exact RN_some ⟨rfl, RM_fail rfl h i1 l1 (fun a i z z' => (sI_ne (by omega)).trans (o1 a i z)) ((sI_ne (by omega)).trans z1) sI_at⟩
    | .inr (t, none), hW, hc, hm =>
      refine ⟨0, gNew g A, 18 - B, 1 - lv, fun _ i hi => absurd hi (Nat.not_lt_zero _), fun S h _ => ?_, fun S h => ?_⟩
      · obtain ⟨S1, e1, i1, o1, k1, y1, y2, y3, y4, l1, hBB⟩ := hc S h
        obtain ⟨p1, p2, p3, p4⟩ := hc4 S h
        have h5 : S1.1 30 5 = 0 := k1.2.1.2
        have h3 : S1.1 30 3 = 0 := k1.2.1.1.2.2.1
        unfold f_X9_read
        rw [p1, p2, p3, e1]
        unfold b_X4_readText_171
        rw [if_pos h3, if_pos h5, h3, bdq, nmq, if_pos rfl]
        obtain ⟨nx, x1, x2, -⟩ := h.hst
        have hB := k1.1.1
        obtain ⟨kr, ks, ⟨b0, b1, b2⟩, kn, ⟨q, q1, q2, q3⟩, kc⟩ := k1
        obtain ⟨c1, c2, c3, c4, c5⟩ := kc rfl
        have oz : ∀ a i, a ≠ 0 → (sI S1 0 1 0).1 a i = S1.1 a i := fun a i z => sI_ne (Or.inl z)
        have k2 : KCs (gPt g) (gPl g) (18 - B) (.inr (t, none)) A (sI S1 0 1 0) := ⟨kr, SRc_30 ks rfl (fun a i z => oz a i (by omega)), ⟨(oz _ _ (by omega)).trans b0, (oz _ _ (by omega)).trans b1, (oz _ _ (by omega)).trans b2⟩, kn, ⟨q, (oz _ _ (by omega)).trans q1, q2, fun k hk => RLq_set (q3 k hk) (Nat.le_refl _) (fun i => oz _ _ (by omega)) (fun i => oz _ _ (by omega)) (fun i => oz _ _ (by omega))⟩, fun _ => ⟨(oz _ _ (by omega)).trans c1, (oz _ _ (by omega)).trans c2, fun p hp => (oz _ _ (by omega)).trans (c3 p hp), fun e he => ⟨(oz _ _ (by omega)).trans (c4 e he).1, (oz _ _ (by omega)).trans (c4 e he).2⟩, fun k hk => (oz _ _ (by omega)).trans (c5 k hk)⟩⟩
        refine RN_bd (RC_new (T := T) (g := g) (B := B) ⟨nx, x1, ?_⟩ p4 i1 (hW t none rfl) k2 ((oz _ _ (by omega)).trans y1) ((oz _ _ (by omega)).trans y2) ((oz _ _ (by omega)).trans y3) ((oz _ _ (by omega)).trans y4) sI_at) (fun _ S4 h4 => RN_some ⟨rfl, h4.1, fun a ha => ⟨fun i => (h4.2.1 a i ha).trans ((oz a i (by omega)).trans (o1 a i (by omega) (by omega) (by omega) (by omega) (by omega))), fun i => by rw [h4.2.2.1]; exact l1 a i ha⟩, 18 - B, B, 18 - B, h4.2.2.2, by omega, by omega⟩)
        rw [oz _ _ (by decide), o1 _ _ (by omega) (by omega) (by omega) (by omega) (by omega)]
        exact x2
      · obtain ⟨S1, e1, i1, l1, o1, z1, k1⟩ := hm S h
        have h13 : S1.1 140 13 = 0 := k1.2.1.1.2.2.1
        have h15 : S1.1 140 15 = 0 := k1.2.1.2.1
        have hlv : lv < 2 := h.k.2.1
        rw [e1]
        unfold b_X10_read_134
        rw [h13, if_pos (by decide), h15, if_pos (by decide)]
        exact RM_new (by omega) (hW t none rfl) k1 (fun k hk => (l1 k).trans (h.ky k hk)) z1
  · exact ⟨0, g, B, lv, fun q => q, fun S h _ => absurd h.tap.1 hlen, fun S h => absurd h.tap.1 hlen⟩
end GRD

/-! the reference: a text is begun -/
def restM (S : St) : Option (Int32 × St) := nm (sI S 140 2 (0 : Int32)) fun S1 => bd (f_X10_cutsUp 140 S1) fun _ S2 => nm (sI S2 140 11 (0 : Int32)) fun S4 => nm (sI S4 140 12 (0 : Int32)) fun S5 => nm (sI S5 140 13 (0 : Int32)) fun S6 => nm (sI S6 140 15 (0 : Int32)) fun S7 => nm (sI S7 140 19 ((1 : Int32) - (S7.1 140 18))) fun S8 => nm (sI S8 140 20 (0 : Int32)) fun S9 => bd (f_X10_plain 140 (S9.1 140 19) S9) fun _ S10 => nm (sI S10 140 37 ((130 : Int32) * (S10.1 140 19))) fun S12 => nm (sI S12 140 43 ((420 : Int32) * (S12.1 140 19))) fun S13 => b_X10_read_112 FU 140 S13
/-- the cells that a reading into side sd leaves as they are, the tokens' own aside -/
def okX (sd a k : Nat) : Prop := okM sd a k ∧ (a = 140 → k ≠ 2 ∧ k ≠ 4 ∧ k ≠ 10 ∧ k ≠ 19) ∧ a ≠ 142 ∧ a ≠ 143 ∧ a ≠ 144 ∧ a ≠ 145
section MRE
variable {v : Nat → Int32} {len sd : Nat} {S S' : St}
theorem b10_end {fu : Nat} {v1 : Int32} (h : S.1 140 4 ≤ v1) : b_X10_read_10 (fu + 1) 140 v1 S = restM S := by
  rw [b_X10_read_10, if_pos h]
  rfl
theorem tape_loop (hby : ∀ i, i < len → isB (v i)) (hl : len ≤ 2000) {S0 : St} (hr : RFM S0.2.2) (h4 : S0.1 140 4 = nI len) (ht : ∀ i, i < len → S0.1 141 i = v i) : ∀ (m fu i : Nat) (S : St), m < fu → i + m = len → S.2 = S0.2 → (∀ a j, a ≠ 142 → S.1 a j = S0.1 a j) → (∀ j, j < i → S.1 142 j = v j) → ∃ S', b_X10_read_10 fu 140 (nI i) S = restM S' ∧ S'.2 = S0.2 ∧ (∀ a j, a ≠ 142 → S'.1 a j = S0.1 a j) ∧ ∀ j, j < len → S'.1 142 j = v j := by
  intro m
  induction m with
  | zero =>
    intro fu i S hf hi h2 ho hv
    obtain ⟨fu, rfl⟩ : ∃ f, fu = f + 1 := ⟨fu - 1, by omega⟩
    have : i = len := by omega
    subst this
    exact ⟨S, b10_end (by rw [ho _ _ (by decide), h4]; exact le_l (by omega) (by omega) (Nat.le_refl _)), h2, ho, hv⟩
  | succ m ih =>
    intro fu i S hf hi h2 ho hv
    obtain ⟨fu, rfl⟩ : ∃ f, fu = f + 1 := ⟨fu - 1, by omega⟩
    have hrS : RFM S.2.2 := by rw [h2]; exact hr
    rw [b_X10_read_10, ho _ _ (by decide), h4, if_neg (nle_l (by omega) (by omega) (by omega)), ix_nI (show i < 2000 by omega) (by decide), obq, obq, nmq, nmq, rq_3 hrS, rq_1 hrS, ho _ _ (by decide), ht i (by omega), (by_f (hby i (by omega))).2.2.2.2.2, nI_1]
    refine ih fu (i + 1) (sI S 142 i (v i)) (by omega) (by omega) h2 (fun a j ha => (sI_ne (Or.inl ha)).trans (ho a j ha)) (fun j hj => ?_)
    by_cases e : j = i
    · rw [e, sI_at]
    · rw [sI_ne (Or.inr e)]
      exact hv j (by omega)
theorem plain_loop (hsd : sd < 2) {S0 : St} (hr : RFM S0.2.2) : ∀ (m fu k : Nat) (S : St), m < fu → k + m = 4 → S.2 = S0.2 → ∃ S', b_X10_plain_37 fu 140 (nI sd) (nI k) S = some ((), S') ∧ S'.2 = S0.2 ∧ (∀ a i, (a = 162 ∨ a = 163 → i < 4 * sd + k ∨ 4 * sd + 4 ≤ i) → S'.1 a i = S.1 a i) ∧ ∀ j, k ≤ j → j < 4 → S'.1 162 (4 * sd + j) = 0 ∧ S'.1 163 (4 * sd + j) = 0 := by
  intro m
  induction m with
  | zero =>
    intro fu k S hf hk h2
    obtain ⟨fu, rfl⟩ : ∃ f, fu = f + 1 := ⟨fu - 1, by omega⟩
    rw [b_X10_plain_37, if_pos (show (4 : Int32) ≤ nI k from le_l (a := 4) (by omega) (by omega) (by omega))]
    exact ⟨S, rfl, h2, fun _ _ _ => rfl, fun j h1 h2 => by omega⟩
  | succ m ih =>
    intro fu k S hf hk h2
    obtain ⟨fu, rfl⟩ : ∃ f, fu = f + 1 := ⟨fu - 1, by omega⟩
    have hrS : RFM S.2.2 := by rw [h2]; exact hr
    have hr2 : RFM (sI S 162 (4 * sd + k) 0).2.2 := hrS
    rw [b_X10_plain_37, if_neg (show ¬ (4 : Int32) ≤ nI k from nle_l (a := 4) (by omega) (by omega) (by omega)), show (4 : Int32) * nI sd + nI k = nI (4 * sd + k) by rw [show (4 : Int32) = nI 4 from rfl, pk_mul, nI_add], ix_nI (show 4 * sd + k < 8 by omega) (by decide), obq, nmq, obq, nmq, nmq, rq_35 hrS, rq_36 hr2, nI_1]
    obtain ⟨S', e1, i1, o1, z1⟩ := ih fu (k + 1) (sI (sI S 162 (4 * sd + k) 0) 163 (4 * sd + k) 0) (by omega) (by omega) h2
    refine ⟨S', e1, i1, fun a i h1 => ?_, fun j h1 h2 => ?_⟩
    · rw [o1 a i (by omega), sI_ne (by omega), sI_ne (by omega)]
    · by_cases e : j = k
      · rw [e, o1 _ _ (by omega), o1 _ _ (by omega), sI_at, sI_ne (by omega), sI_at]
        exact ⟨rfl, rfl⟩
      · exact z1 j (by omega) h2
theorem plain_run (hsd : sd < 2) (hr : RFM S.2.2) : ∃ S', f_X10_plain 140 (nI sd) S = some ((), S') ∧ S'.2 = S.2 ∧ (∀ a i, (a = 150 ∨ a = 152 ∨ a = 156 ∨ a = 160 ∨ a = 161 → i ≠ sd) → (a = 162 ∨ a = 163 → i < 4 * sd ∨ 4 * sd + 4 ≤ i) → S'.1 a i = S.1 a i) ∧ S'.1 150 sd = 0 ∧ S'.1 152 sd = 0 ∧ S'.1 156 sd = 0 ∧ S'.1 160 sd = 4 ∧ S'.1 161 sd = 0 ∧ ∀ k, k < 4 → S'.1 162 (4 * sd + k) = 0 ∧ S'.1 163 (4 * sd + k) = 0 := by
  unfold f_X10_plain
  have r1 : RFM (sI S 150 sd 0).2.2 := hr
  have r2 : RFM (sI (sI S 150 sd 0) 152 sd 0).2.2 := hr
  have r3 : RFM (sI (sI (sI S 150 sd 0) 152 sd 0) 156 sd 0).2.2 := hr
  have r4 : RFM (sI (sI (sI (sI S 150 sd 0) 152 sd 0) 156 sd 0) 160 sd 4).2.2 := hr
  rw [ix_nI hsd (by decide), obq, nmq, obq, nmq, obq, nmq, obq, nmq, obq, nmq, rq_23 hr, rq_25 r1, rq_29 r2, rq_33 r3, rq_34 r4]
  have oo : ∀ a i, (a = 150 ∨ a = 152 ∨ a = 156 ∨ a = 160 ∨ a = 161 → i ≠ sd) → (sI (sI (sI (sI (sI S 150 sd 0) 152 sd 0) 156 sd 0) 160 sd 4) 161 sd 0).1 a i = S.1 a i := fun a i z => by rw [sI_ne (by omega), sI_ne (by omega), sI_ne (by omega), sI_ne (by omega), sI_ne (by omega)]
  obtain ⟨S', e1, i1, o1, z1⟩ := plain_loop hsd (S0 := S) hr 4 FU 0 (sI (sI (sI (sI (sI S 150 sd 0) 152 sd 0) 156 sd 0) 160 sd 4) 161 sd 0) (by decide) (by decide) rfl
  refine ⟨S', e1, i1, fun a i h1 h2 => ?_, ?_, ?_, ?_, ?_, ?_, fun k hk => z1 k (by omega) hk⟩
  · rw [o1 a i (by omega), oo a i h1]
  · rw [o1 _ _ (by omega), sI_ne (by omega), sI_ne (by omega), sI_ne (by omega), sI_ne (by omega), sI_at]
  · rw [o1 _ _ (by omega), sI_ne (by omega), sI_ne (by omega), sI_ne (by omega), sI_at]
  · rw [o1 _ _ (by omega), sI_ne (by omega), sI_ne (by omega), sI_at]
  · rw [o1 _ _ (by omega), sI_ne (by omega), sI_at]
  · rw [o1 _ _ (by omega), sI_at]
theorem m_begin {lv : Nat} (hlv : lv < 2) (hsd : sd = 1 - lv) (hr : RFM S.2.2) (hby : ∀ i, i < len → isB (v i)) (hP : RPm len v S) (hK : KY S) (h18 : S.1 140 18 = nI lv) : ∃ S0, f_X10_read 140 S = b_X10_read_112 FU 140 S0 ∧ S0.2.2 = S.2.2 ∧ (∀ a k, a ≠ 146 → S0.2.1 a k = S.2.1 a k) ∧ (∀ a i, okX sd a i → S0.1 a i = S.1 a i) ∧ S0.1 140 2 = 0 ∧ KMs v len sd (.inr (0, none)) A0 S0 := by
  obtain ⟨hl, p1, p2⟩ := hP
  have hs2 : sd < 2 := by omega
  obtain ⟨S1, e1, i1, o1, v1⟩ := tape_loop (S0 := sI S 140 4 (nI len)) hby hl hr sI_at (fun i hi => (sI_ne (by omega)).trans (p2 i hi)) len FU 0 (sI S 140 4 (nI len)) (by show len < 5000; omega) (by omega) rfl (fun _ _ _ => rfl) (fun j hj => absurd hj (Nat.not_lt_zero _))
  have i1' : S1.2 = S.2 := i1
  have o1' : ∀ a j, a ≠ 142 → (a = 140 → j ≠ 4) → S1.1 a j = S.1 a j := fun a j z1 z2 => (o1 a j z1).trans (sI_ne (by omega))
  have r2 : RFM (sI S1 140 2 0).2.2 := by show RFM S1.2.2; rw [i1']; exact hr
  have tx : TX v len (sI S1 140 2 0) := ⟨hl, by rw [sI_ne (by omega), o1 _ _ (by omega), sI_at], fun i hi => (sI_ne (by omega)).trans (v1 i hi)⟩
  have ky : KY (sI S1 140 2 0) := fun k hk => by show S1.2.1 147 k = _; rw [i1']; exact hK k hk
  obtain ⟨_, S2, e2, t2, k2⟩ := mcut_run hby r2 ky tx
  have i2 : S2.2.2 = S.2.2 := k2.1.trans (show S1.2.2 = S.2.2 by rw [i1'])
  have o2 : ∀ a i, (a < 142 ∨ 145 < a) → (a = 140 → i ≠ 2 ∧ i ≠ 4 ∧ i ≠ 10) → S2.1 a i = S.1 a i := fun a i z1 z2 => by
    rw [k2.2.1 a i (by omega) (by omega), sI_ne (by omega), o1' a i (by omega) (by omega)]
  have l2 : ∀ a i, a ≠ 146 → S2.2.1 a i = S.2.1 a i := fun a i z => by
    rw [k2.2.2 a i z]
    show S1.2.1 a i = S.2.1 a i
    rw [i1']
  have h2 : S2.1 140 2 = 0 := by rw [k2.2.1 _ _ (by omega) (by omega), sI_at]
  have r9 : RFM S2.2.2 := by rw [i2]; exact hr
  -- the numbers of a reading
  have e18 : (sI (sI (sI (sI S2 140 11 0) 140 12 0) 140 13 0) 140 15 0).1 140 18 = nI lv := by rw [sI_ne (by omega), sI_ne (by omega), sI_ne (by omega), sI_ne (by omega), o2 _ _ (by omega) (by omega)]; exact h18
  have esd : (1 : Int32) - nI lv = nI sd := by rw [show (1 : Int32) = nI 1 from rfl, pk_sub (by omega), hsd]
  have o9 : ∀ a i, (a = 140 → i ≠ 11 ∧ i ≠ 12 ∧ i ≠ 13 ∧ i ≠ 15 ∧ i ≠ 19 ∧ i ≠ 20) → (sI (sI (sI (sI (sI (sI S2 140 11 0) 140 12 0) 140 13 0) 140 15 0) 140 19 (nI sd)) 140 20 0).1 a i = S2.1 a i := fun a i z => by rw [sI_ne (by omega), sI_ne (by omega), sI_ne (by omega), sI_ne (by omega), sI_ne (by omega), sI_ne (by omega)]
  have a11 : (sI (sI (sI (sI (sI (sI S2 140 11 0) 140 12 0) 140 13 0) 140 15 0) 140 19 (nI sd)) 140 20 0).1 140 11 = 0 := by rw [sI_ne (by omega), sI_ne (by omega), sI_ne (by omega), sI_ne (by omega), sI_ne (by omega), sI_at]
  have a12 : (sI (sI (sI (sI (sI (sI S2 140 11 0) 140 12 0) 140 13 0) 140 15 0) 140 19 (nI sd)) 140 20 0).1 140 12 = 0 := by rw [sI_ne (by omega), sI_ne (by omega), sI_ne (by omega), sI_ne (by omega), sI_at]
  have a13 : (sI (sI (sI (sI (sI (sI S2 140 11 0) 140 12 0) 140 13 0) 140 15 0) 140 19 (nI sd)) 140 20 0).1 140 13 = 0 := by rw [sI_ne (by omega), sI_ne (by omega), sI_ne (by omega), sI_at]
  have a15 : (sI (sI (sI (sI (sI (sI S2 140 11 0) 140 12 0) 140 13 0) 140 15 0) 140 19 (nI sd)) 140 20 0).1 140 15 = 0 := by rw [sI_ne (by omega), sI_ne (by omega), sI_at]
  have a19 : (sI (sI (sI (sI (sI (sI S2 140 11 0) 140 12 0) 140 13 0) 140 15 0) 140 19 (nI sd)) 140 20 0).1 140 19 = nI sd := by rw [sI_ne (by omega), sI_at]
  have a20 : (sI (sI (sI (sI (sI (sI S2 140 11 0) 140 12 0) 140 13 0) 140 15 0) 140 19 (nI sd)) 140 20 0).1 140 20 = 0 := sI_at
  have i9 : (sI (sI (sI (sI (sI (sI S2 140 11 0) 140 12 0) 140 13 0) 140 15 0) 140 19 (nI sd)) 140 20 0).2 = S2.2 := rfl
  unfold f_X10_read
  rw [nmq, p1, show b_X10_read_10 FU 140 0 (sI S 140 4 (nI len)) = restM S1 from e1]
  unfold restM
  rw [nmq, e2, bdq, nmq, nmq, nmq, nmq, nmq, e18, esd, nmq]
  revert o9 a11 a12 a13 a15 a19 a20 i9
  generalize sI (sI (sI (sI (sI (sI S2 140 11 0) 140 12 0) 140 13 0) 140 15 0) 140 19 (nI sd)) 140 20 0 = S9
  intro o9 a11 a12 a13 a15 a19 a20 i9
  have rr9 : RFM S9.2.2 := by rw [i9]; exact r9
  obtain ⟨S10, e10, i10, o10, z150, z152, z156, z160, z161, z162⟩ := plain_run hs2 rr9
  rw [a19, e10, bdq, nmq, nmq, show S10.1 140 19 = nI sd from (o10 _ _ (by omega) (by omega)).trans a19, show (sI S10 140 37 (130 * nI sd)).1 140 19 = nI sd from (sI_ne (by omega)).trans ((o10 _ _ (by omega) (by omega)).trans a19), show (130 : Int32) * nI sd = nI (130 * sd) by rw [show (130 : Int32) = nI 130 from rfl, pk_mul], show (420 : Int32) * nI sd = nI (420 * sd) by rw [show (420 : Int32) = nI 420 from rfl, pk_mul]]
  have o13 : ∀ a i, (a = 140 → i ≠ 37 ∧ i ≠ 43) → (sI (sI S10 140 37 (nI (130 * sd))) 140 43 (nI (420 * sd))).1 a i = S10.1 a i := fun a i z => by rw [sI_ne (by omega), sI_ne (by omega)]
  have oA : ∀ a i, (a = 140 → i ≠ 37 ∧ i ≠ 43) → (a = 150 ∨ a = 152 ∨ a = 156 ∨ a = 160 ∨ a = 161 → i ≠ sd) → (a = 162 ∨ a = 163 → i < 4 * sd ∨ 4 * sd + 4 ≤ i) → (sI (sI S10 140 37 (nI (130 * sd))) 140 43 (nI (420 * sd))).1 a i = S9.1 a i := fun a i z1 z2 z3 => (o13 a i z1).trans (o10 a i z2 z3)
  have iA : (sI (sI S10 140 37 (nI (130 * sd))) 140 43 (nI (420 * sd))).2 = S2.2 := i10.trans i9
  refine ⟨_, rfl, by rw [iA]; exact i2, fun a k z => by rw [iA]; exact l2 a k z, fun a i z => ?_, ?_, ?_⟩
  · obtain ⟨z1, z2, z3, z4, z5, z6⟩ := z
    unfold okM at z1
    rw [oA a i (by omega) (by omega) (by omega), o9 a i (by omega), o2 a i (by omega) (by omega)]
  · rw [oA _ _ (by omega) (by omega) (by omega), o9 _ _ (by omega)]; exact h2
  · refine ⟨by rw [iA]; exact r9, ⟨⟨Nat.zero_le _, ?_, ?_, fun i hi => absurd hi (Nat.not_lt_zero _), fun t z1 z2 z3 => ?_⟩, ?_, fun k p e => by cases e⟩, ?_, ?_, ?_, ⟨?_, ?_, ?_⟩, fun k hk => absurd hk (Nat.not_lt_zero _), ⟨0, 0, ?_, Nat.le_refl _, ?_, Nat.le_refl _, fun k hk => Or.inl ⟨?_, rfl⟩⟩, fun _ => ⟨?_, ?_, fun p hp => absurd hp (Nat.not_lt_zero _), fun e he => absurd he (Nat.not_lt_zero _), fun m hm => absurd hm (Nat.not_lt_zero _)⟩⟩
    · rw [oA _ _ (by omega) (by omega) (by omega), a11]; rfl
    · rw [oA _ _ (by omega) (by omega) (by omega), a13]
    · obtain ⟨b1, b2, b3, b4⟩ := t2 t z1 z2 z3
      refine ⟨?_, ?_, fun q => ?_, fun q => ?_⟩
      · rw [oA _ _ (by omega) (by omega) (by omega), o9 _ _ (by omega)]; exact b1
      · rw [oA _ _ (by omega) (by omega) (by omega), o9 _ _ (by omega)]; exact b2
      · rw [oA _ _ (by omega) (by omega) (by omega), o9 _ _ (by omega)]; exact b3 q
      · rw [iA]; exact b4 q
    · show (sI (sI S10 140 37 (nI (130 * sd))) 140 43 (nI (420 * sd))).1 140 15 = 0
      rw [oA _ _ (by omega) (by omega) (by omega), a15]
    · rw [oA _ _ (by omega) (by omega) (by omega), a19]
    · rw [oA _ _ (by omega) (by omega) (by omega), a12]
    · rw [oA _ _ (by omega) (by omega) (by omega), a20]; rfl
    · rw [o13 _ _ (by omega), z150]; rfl
    · rw [o13 _ _ (by omega), z152]; rfl
    · rw [o13 _ _ (by omega), z156]; rfl
    · rw [sI_at]; rfl
    · rw [sI_ne (by omega), sI_at]; rfl
    · rw [o13 _ _ (by omega), o13 _ _ (by omega), (z162 k hk).1, (z162 k hk).2]
    · rw [o13 _ _ (by omega), z160]; rfl
    · rw [o13 _ _ (by omega), z161]; rfl
end MRE

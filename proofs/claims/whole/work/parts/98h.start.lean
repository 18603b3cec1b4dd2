/-! the start -/
def LRf (Bc : Nat) (f : Nat → Nat → Nat) : Prop := f (Bc + 6) 1 = Bc + 8 ∧ f (Bc + 6) 3 = Bc + 9 ∧ f (Bc + 6) 4 = Bc + 10
section INI
variable {Bc k : Nat} {S S' : St}
theorem put2_run {q c : Nat} (hr : LRf Bc S.2.2) (hq : S.1 (Bc + 6) 2 = nI q) (h4 : q < 404) : f_X2_put (Bc + 6) (nI c) S = some ((), sI (sI S (Bc + 8) q (nI c)) (Bc + 6) 2 (nI (q + 1))) := by
  unfold f_X2_put
  rw [hq, if_neg (show ¬ Int32.ofNat 404 ≤ nI q from nle_l (a := 404) (by omega) (by omega) h4), ix_nI h4 (by decide), obq, nmq, hr.1, nmq, sI_ne (Or.inl (by omega)), hq, nI_1]
theorem endp2_run {p : Nat} (hr : LRf Bc S.2.2) (hk : k < 4) (hp : p ≤ 13) (h : S.1 (Bc + 10) k = nI p) : ∃ S', f_X2_endPiece (Bc + 6) (nI k) S = some ((), S') ∧ S'.2 = S.2 ∧ (∀ a i, (a = Bc + 9 → i < 14 * k ∨ 14 * k + 13 < i) → (a = Bc + 10 → i ≠ k) → S'.1 a i = S.1 a i) ∧ (∃ p', p' ≤ 13 ∧ S'.1 (Bc + 10) k = nI p') ∧ (p < 13 → S'.1 (Bc + 10) k = nI (p + 1) ∧ S'.1 (Bc + 9) (14 * k + (p + 1)) = S.1 (Bc + 6) 2 ∧ ∀ i, i ≠ 14 * k + (p + 1) → S'.1 (Bc + 9) i = S.1 (Bc + 9) i) := by
  unfold f_X2_endPiece
  rw [ix_nI hk (by decide), obq, hr.2.2, h]
  by_cases c : p < 13
  · have r2 : LRf Bc (sI S (Bc + 10) k (nI (p + 1))).2.2 := hr
    have g2 : (sI S (Bc + 10) k (nI (p + 1))).1 (Bc + 10) k = nI (p + 1) := sI_at
    rw [if_neg (show ¬ (13 : Int32) ≤ nI p from nle_l (a := 13) (by omega) (by omega) c), obq, obq, nmq, h, nI_1, obq, r2.2.2, g2, show nI k * (14 : Int32) + nI (p + 1) = nI (14 * k + (p + 1)) by rw [show (14 : Int32) = nI 14 from rfl, pk_mul, nI_add, Nat.mul_comm], ix_nI (show 14 * k + (p + 1) < 56 by omega) (by decide), obq, nmq, r2.2.1, sI_ne (Or.inl (by omega))]
    refine ⟨_, rfl, rfl, fun a i h1 h2 => by rw [sI_ne (by omega), sI_ne (by omega)], ⟨p + 1, by omega, by rw [sI_ne (by omega), sI_at]⟩, fun _ => ⟨by rw [sI_ne (by omega), sI_at], sI_at, fun i hi => by rw [sI_ne (by omega), sI_ne (by omega)]⟩⟩
  · rw [if_pos (show (13 : Int32) ≤ nI p from le_l (a := 13) (by omega) (by omega) (by omega))]
    exact ⟨S, rfl, rfl, fun _ _ _ _ => rfl, ⟨p, hp, h⟩, fun q => absurd q c⟩
theorem open2_run (hr : LRf Bc S.2.2) (hk : k < 4) : f_X2_open (Bc + 6) (nI k) S = some ((), sI (sI S (Bc + 10) k 0) (Bc + 9) (14 * k) (S.1 (Bc + 6) 2)) := by
  have r2 : LRf Bc (sI S (Bc + 10) k 0).2.2 := hr
  unfold f_X2_open
  rw [ix_nI hk (by decide), obq, nmq, hr.2.2, show nI k * (14 : Int32) = nI (14 * k) by rw [show (14 : Int32) = nI 14 from rfl, pk_mul, Nat.mul_comm], ix_nI (show 14 * k < 56 by omega) (by decide), obq, nmq, r2.2.1, sI_ne (Or.inl (by omega))]
theorem unt2_run {q c : Nat} (hr : LRf Bc S.2.2) (hk : k < 4) (hq : q < 404) (h : S.1 (Bc + 6) 2 = nI q) : ∃ S', f_X2_putUntold (Bc + 6) (nI k) (nI c) S = some ((), S') ∧ S'.2 = S.2 ∧ (∀ a i, (a = Bc + 6 → i ≠ 2) → (a = Bc + 8 → i ≠ q) → (a = Bc + 9 → i ≠ 14 * k ∧ i ≠ 14 * k + 1) → (a = Bc + 10 → i ≠ k) → S'.1 a i = S.1 a i) ∧ S'.1 (Bc + 6) 2 = nI (q + 1) ∧ RLq Bc k ([], [c]) (q + 1) S' := by
  unfold f_X2_putUntold
  rw [open2_run hr hk, bdq]
  have q1 : (sI (sI S (Bc + 10) k 0) (Bc + 9) (14 * k) (S.1 (Bc + 6) 2)).1 (Bc + 6) 2 = nI q := by rw [sI_ne (by omega), sI_ne (by omega)]; exact h
  have r1 : LRf Bc (sI (sI S (Bc + 10) k 0) (Bc + 9) (14 * k) (S.1 (Bc + 6) 2)).2.2 := hr
  have o1 : ∀ a i, (a = Bc + 9 → i ≠ 14 * k) → (a = Bc + 10 → i ≠ k) → (sI (sI S (Bc + 10) k 0) (Bc + 9) (14 * k) (S.1 (Bc + 6) 2)).1 a i = S.1 a i := fun a i z1 z2 => by rw [sI_ne (by omega), sI_ne (by omega)]
  have v1 : (sI (sI S (Bc + 10) k 0) (Bc + 9) (14 * k) (S.1 (Bc + 6) 2)).1 (Bc + 9) (14 * k) = nI q := by rw [sI_at]; exact h
  have w1 : (sI (sI S (Bc + 10) k 0) (Bc + 9) (14 * k) (S.1 (Bc + 6) 2)).1 (Bc + 10) k = nI 0 := by rw [sI_ne (by omega), sI_at]; rfl
  have i1 : (sI (sI S (Bc + 10) k 0) (Bc + 9) (14 * k) (S.1 (Bc + 6) 2)).2 = S.2 := rfl
  revert q1 r1 o1 v1 w1 i1
  generalize sI (sI S (Bc + 10) k 0) (Bc + 9) (14 * k) (S.1 (Bc + 6) 2) = S1
  intro q1 r1 o1 v1 w1 i1
  rw [put2_run r1 q1 hq, bdq]
  have r3 : LRf Bc (sI (sI S1 (Bc + 8) q (nI c)) (Bc + 6) 2 (nI (q + 1))).2.2 := r1
  have o3 : ∀ a i, (a = Bc + 6 → i ≠ 2) → (a = Bc + 8 → i ≠ q) → (sI (sI S1 (Bc + 8) q (nI c)) (Bc + 6) 2 (nI (q + 1))).1 a i = S1.1 a i := fun a i z1 z2 => by rw [sI_ne (by omega), sI_ne (by omega)]
  have v3 : (sI (sI S1 (Bc + 8) q (nI c)) (Bc + 6) 2 (nI (q + 1))).1 (Bc + 8) q = nI c := by rw [sI_ne (by omega), sI_at]
  have u3 : (sI (sI S1 (Bc + 8) q (nI c)) (Bc + 6) 2 (nI (q + 1))).1 (Bc + 6) 2 = nI (q + 1) := sI_at
  have i3 : (sI (sI S1 (Bc + 8) q (nI c)) (Bc + 6) 2 (nI (q + 1))).2 = S1.2 := rfl
  revert r3 o3 v3 u3 i3
  generalize sI (sI S1 (Bc + 8) q (nI c)) (Bc + 6) 2 (nI (q + 1)) = S3
  intro r3 o3 v3 u3 i3
  obtain ⟨S5, e5, i5, o5, -, y5⟩ := endp2_run (p := 0) r3 hk (by omega) ((o3 _ _ (by omega) (by omega)).trans w1)
  obtain ⟨y1, y2, y3⟩ := y5 (by decide)
  rw [e5, bdq]
  refine ⟨S5, rfl, i5.trans (i3.trans i1), fun a i z1 z2 z3 z4 => ?_, (o5 _ _ (by omega) (by omega)).trans u3, ?_, q, ⟨?_, fun j d hj => ?_, ?_, ?_⟩, ?_⟩
  · by_cases ca : a = Bc + 9
    · rw [ca, y3 i (by have := z3 ca; omega), o3 _ _ (by omega) (by omega), o1 _ _ (by intro _; exact (z3 ca).1) (by omega)]
    · rw [o5 a i (by omega) z4, o3 a i z1 z2, o1 a i (by omega) z4]
  · exact y1
  · show S5.1 (Bc + 9) (14 * k) = nI q
    rw [y3 _ (by omega), o3 _ _ (by omega) (by omega)]
    exact v1
  · cases j with
    | zero =>
      simp at hj
      subst hj
      show S5.1 (Bc + 8) q = nI c
      rw [o5 _ _ (by omega) (by omega)]
      exact v3
    | succ j => simp at hj
  · show q + 1 ≤ 404
    omega
  · show S5.1 (Bc + 9) (14 * k + (0 + 1)) = nI (q + 1)
    rw [y2]
    exact u3
  · show q + (1 + 0) ≤ q + 1
    omega
theorem lclear2_run (hr : LRf Bc S.2.2) : ∃ S', f_X2_clearAll (Bc + 6) S = some ((), S') ∧ S'.2 = S.2 ∧ (∀ a i, (a = Bc + 6 → i ≠ 2) → (a < Bc + 8 ∨ Bc + 10 < a) → S'.1 a i = S.1 a i) ∧ S'.1 (Bc + 6) 2 = nI 4 ∧ ∀ k, k < 4 → RLq Bc k (dflt k) 4 S' := by
  unfold f_X2_clearAll
  rw [nmq]
  have r0 : LRf Bc (sI S (Bc + 6) 2 0).2.2 := hr
  obtain ⟨S1, e1, i1, o1, q1, l1⟩ := unt2_run (k := 0) (q := 0) (c := 10000) r0 (by decide) (by decide) sI_at
  obtain ⟨S2, e2, i2, o2, q2, l2⟩ := unt2_run (k := 1) (q := 1) (c := 10004) (by rw [i1]; exact hr) (by decide) (by decide) q1
  obtain ⟨S3, e3, i3, o3, q3, l3⟩ := unt2_run (k := 2) (q := 2) (c := 10000) (by rw [i2, i1]; exact hr) (by decide) (by decide) q2
  obtain ⟨S4, e4, i4, o4, q4, l4⟩ := unt2_run (k := 3) (q := 3) (c := 0) (by rw [i3, i2, i1]; exact hr) (by decide) (by decide) q3
  rw [show f_X2_putUntold (Bc + 6) 0 10000 (sI S (Bc + 6) 2 0) = some ((), S1) from e1, bdq, show f_X2_putUntold (Bc + 6) 1 10004 S1 = some ((), S2) from e2, bdq, show f_X2_putUntold (Bc + 6) 2 10000 S2 = some ((), S3) from e3, bdq, show f_X2_putUntold (Bc + 6) 3 0 S3 = some ((), S4) from e4, bdq]
  have z : ([] : List Tp).length ≤ 4 := Nat.zero_le _
  refine ⟨S4, rfl, i4.trans (i3.trans (i2.trans i1)), fun a i z1 z2 => ?_, q4, fun k hk => ?_⟩
  · rw [o4 a i z1 (by omega) (by omega) (by omega), o3 a i z1 (by omega) (by omega) (by omega), o2 a i z1 (by omega) (by omega) (by omega), o1 a i z1 (by omega) (by omega) (by omega), sI_ne (by omega)]
  · rcases (show k = 0 ∨ k = 1 ∨ k = 2 ∨ k = 3 by omega) with rfl | rfl | rfl | rfl
    · refine RLq_up l1 z (by decide) (fun i hi => ?_) (fun i z1 z2 => ?_) ?_
      · rw [o4 _ _ (by omega) (by omega) (by omega) (by omega), o3 _ _ (by omega) (by omega) (by omega) (by omega), o2 _ _ (by omega) (by omega) (by omega) (by omega)]
      · rw [o4 _ _ (by omega) (by omega) (by omega) (by omega), o3 _ _ (by omega) (by omega) (by omega) (by omega), o2 _ _ (by omega) (by omega) (by omega) (by omega)]
      · rw [o4 _ _ (by omega) (by omega) (by omega) (by omega), o3 _ _ (by omega) (by omega) (by omega) (by omega), o2 _ _ (by omega) (by omega) (by omega) (by omega)]
    · refine RLq_up l2 z (by decide) (fun i hi => ?_) (fun i z1 z2 => ?_) ?_
      · rw [o4 _ _ (by omega) (by omega) (by omega) (by omega), o3 _ _ (by omega) (by omega) (by omega) (by omega)]
      · rw [o4 _ _ (by omega) (by omega) (by omega) (by omega), o3 _ _ (by omega) (by omega) (by omega) (by omega)]
      · rw [o4 _ _ (by omega) (by omega) (by omega) (by omega), o3 _ _ (by omega) (by omega) (by omega) (by omega)]
    · refine RLq_up l3 z (by decide) (fun i hi => ?_) (fun i z1 z2 => ?_) ?_
      · rw [o4 _ _ (by omega) (by omega) (by omega) (by omega)]
      · rw [o4 _ _ (by omega) (by omega) (by omega) (by omega)]
      · rw [o4 _ _ (by omega) (by omega) (by omega) (by omega)]
    · exact l4
theorem zI_at {n i : Nat} : (zI S n).1 n i = 0 := by
  show (if n = n then (fun _ : Nat => (0 : Int32)) else S.1 n) i = 0
  rw [if_pos rfl]
theorem zI_ne {n a i : Nat} (h : a ≠ n) : (zI S n).1 a i = S.1 a i := by
  show (if a = n then (fun _ : Nat => (0 : Int32)) else S.1 a) i = S.1 a i
  rw [if_neg h]
theorem zI_0 {n : Nat} (h : ∀ a i, S.1 a i = 0) : ∀ a i, (zI S n).1 a i = 0 := fun a i => by
  by_cases e : a = n
  · rw [e]; exact zI_at
  · rw [zI_ne e]; exact h a i
theorem lr_2 (h : S.2.2 = RHO) : LRf 2 S.2.2 := by rw [h]; exact ⟨by decide +kernel, by decide +kernel, by decide +kernel⟩
theorem lr_16 (h : S.2.2 = RHO) : LRf 16 S.2.2 := by rw [h]; exact ⟨by decide +kernel, by decide +kernel, by decide +kernel⟩
theorem init_b2 (hr : S.2.2 = RHO) (h0 : ∀ a i, S.1 a i = 0) : ∃ S', fi_X0_init_2 S = some ((), S') ∧ S'.2.2 = RHO ∧ (∀ a i, (a = 2 → i ≠ 3) → a ≠ 8 → a ≠ 10 → a ≠ 11 → a ≠ 12 → S'.1 a i = 0) ∧ S'.1 2 3 = 4 ∧ ∀ k, k < 4 → RLq 2 k (dflt k) 4 S' := by
  have hz : ∀ a i, (zI (zI (zI (zI (zI (zI (zI (zI (zI (zI (zI S 3) 4) 5) 6) 7) 8) 9) 10) 11) 12) 13).1 a i = 0 := zI_0 (zI_0 (zI_0 (zI_0 (zI_0 (zI_0 (zI_0 (zI_0 (zI_0 (zI_0 (zI_0 (h0)))))))))))
  have hX : (zI (zI (zI (zI (zI (zI (zI (zI (zI (zI (zI S 3) 4) 5) 6) 7) 8) 9) 10) 11) 12) 13).2.2 = RHO := hr
  obtain ⟨Y, eY, iY, oY, qY, lY⟩ := lclear2_run (Bc := 2) (S := (zI (zI (zI (zI (zI (zI (zI (zI (zI (zI (zI S 3) 4) 5) 6) 7) 8) 9) 10) 11) 12) 13)) (lr_2 hX)
  unfold fi_X0_init_2 fi_X2_init_8 fi_X5_init_14
  rw [nmq, nmq, nmq, nmq, nmq, nmq, nmq, nmq, nmq, nmq, nmq, show f_X2_clearAll 8 (zI (zI (zI (zI (zI (zI (zI (zI (zI (zI (zI S 3) 4) 5) 6) 7) 8) 9) 10) 11) 12) 13) = some ((), Y) from eY, bdq, bdq, nmq, nmq, bdq, nmq]
  have o : ∀ a i, (a = 2 → i ≠ 3) → a ≠ 14 → a ≠ 15 → (sI (zI (zI Y 14) 15) 2 3 4).1 a i = Y.1 a i := fun a i z1 z2 z3 => by rw [sI_ne (by omega), zI_ne z3, zI_ne z2]
  refine ⟨_, rfl, ?_, fun a i z1 z2 z3 z4 z5 => ?_, sI_at, fun k hk => RLq_set (lY k hk) (Nat.le_refl _) (fun i => o _ _ (by omega) (by omega) (by omega)) (fun i => o _ _ (by omega) (by omega) (by omega)) (fun i => o _ _ (by omega) (by omega) (by omega))⟩
  · show Y.2.2 = RHO
    rw [iY]
    exact hr
  · by_cases c1 : a = 15
    · rw [c1, sI_ne (by omega)]; exact zI_at
    · by_cases c2 : a = 14
      · rw [c2, sI_ne (by omega), zI_ne (by decide)]; exact zI_at
      · rw [o a i z1 c2 c1, oY a i (by omega) (by omega)]
        exact hz a i
theorem init_b16 (hr : S.2.2 = RHO) : ∃ S', fi_X0_init_16 S = some ((), S') ∧ S'.2.2 = RHO ∧ ∀ a i, (a < 16 ∨ 29 < a) → S'.1 a i = S.1 a i := by
  have hX : (zI (zI (zI (zI (zI (zI (zI (zI (zI (zI (zI S 17) 18) 19) 20) 21) 22) 23) 24) 25) 26) 27).2.2 = RHO := hr
  obtain ⟨Y, eY, iY, oY, qY, lY⟩ := lclear2_run (Bc := 16) (S := (zI (zI (zI (zI (zI (zI (zI (zI (zI (zI (zI S 17) 18) 19) 20) 21) 22) 23) 24) 25) 26) 27)) (lr_16 hX)
  unfold fi_X0_init_16 fi_X2_init_22 fi_X5_init_28
  rw [nmq, nmq, nmq, nmq, nmq, nmq, nmq, nmq, nmq, nmq, nmq, show f_X2_clearAll 22 (zI (zI (zI (zI (zI (zI (zI (zI (zI (zI (zI S 17) 18) 19) 20) 21) 22) 23) 24) 25) 26) 27) = some ((), Y) from eY, bdq, bdq, nmq, nmq, bdq, nmq]
  refine ⟨_, rfl, ?_, fun a i z => ?_⟩
  · show Y.2.2 = RHO
    rw [iY]
    exact hr
  · rw [sI_ne (by omega), zI_ne (by omega), zI_ne (by omega), oY a i (by omega) (by omega), zI_ne (by omega), zI_ne (by omega), zI_ne (by omega), zI_ne (by omega), zI_ne (by omega), zI_ne (by omega), zI_ne (by omega), zI_ne (by omega), zI_ne (by omega), zI_ne (by omega), zI_ne (by omega)]
set_option maxRecDepth 20000 in
theorem init_rest {S : St} : ∃ S', (nm (zI S 30) fun S6 => bd (fi_X4_init_30 S6) fun _ S7 => nm (zI S7 35) fun S8 => bd (fi_X5_init_35 S8) fun _ S9 => nm (zI S9 37) fun S10 => bd (fi_X5_init_37 S10) fun _ S11 => nm (zI S11 39) fun S12 => bd (fi_X8_init_39 S12) fun _ S13 => nm (zI S13 40) fun S14 => bd (fi_X8_init_40 S14) fun _ S15 => nm (zI S15 41) fun S16 => bd (fi_X1_init_41 S16) fun _ S17 => nm (zI S17 123) fun S18 => nm (zI S18 124) fun S19 => bd (fi_X5_init_124 S19) fun _ S20 => nm (zI S20 126) fun S21 => bd (fi_X5_init_126 S21) fun _ S22 => nm (zI S22 128) fun S23 => bd (fi_X5_init_128 S23) fun _ S24 => nm (zI S24 130) fun S25 => bd (fi_X3_init_130 S25) fun _ S26 => nm (zI S26 133) fun S27 => bd (fi_X7_init_133 S27) fun _ S28 => some ((), S28)) = some ((), S') ∧ S'.2.2 = S.2.2 ∧ (∀ i, S'.1 0 i = S.1 0 i) ∧ (∀ i, S'.1 1 i = S.1 1 i) ∧ (∀ i, S'.1 2 i = S.1 2 i) ∧ (∀ i, S'.1 5 i = S.1 5 i) ∧ (∀ i, S'.1 6 i = S.1 6 i) ∧ (∀ i, S'.1 7 i = S.1 7 i) ∧ (∀ i, S'.1 10 i = S.1 10 i) ∧ (∀ i, S'.1 11 i = S.1 11 i) ∧ (∀ i, S'.1 12 i = S.1 12 i) ∧ (∀ i, S'.1 35 i = 0) ∧ (∀ i, S'.1 36 i = 0) ∧ (∀ i, S'.1 41 i = 0) ∧ (∀ i, S'.1 133 i = 0) ∧ S'.1 30 4 = -1 := ⟨_, rfl, rfl, fun _ => rfl, fun _ => rfl, fun _ => rfl, fun _ => rfl, fun _ => rfl, fun _ => rfl, fun _ => rfl, fun _ => rfl, fun _ => rfl, fun _ => rfl, fun _ => rfl, fun _ => rfl, fun _ => rfl, rfl⟩
def g00 : GS := gNew (rB A0, bgS A0, (0, fun _ => bgS A0), (0, fun _ => bgS A0), (0, fun _ => (0, 0, 0, 0)), (0, fun _ => 0), -1) A0
theorem S00_0 : ∀ a i, (zI S00 0).1 a i = 0 := zI_0 (fun _ _ => rfl)
theorem init_c : ∃ S', fi_X9_init_0 (zI S00 0) = some ((), S') ∧ S'.2.2 = RB 2 16 16 ∧ RC 2 0 g00 S' := by
  have hr0 : (zI (zI (zI S00 0) 1) 2).2.2 = RHO := rfl
  obtain ⟨S3, e3, i3, z3, p3, l3⟩ := init_b2 hr0 (zI_0 (zI_0 S00_0))
  have hr4 : (zI S3 16).2.2 = RHO := i3
  obtain ⟨S5, e5, i5, o5⟩ := init_b16 hr4
  obtain ⟨S9, e9, i9, k0, k1, k2, k5, k6, k7, k10, k11, k12, v35, v36, v41, v133, v30⟩ := init_rest (S := S5)
  have e : fi_X9_init_0 (zI S00 0) = some ((), S9) := by
    unfold fi_X9_init_0
    rw [nmq, nmq, e3, bdq, nmq, e5, bdq]
    exact e9
  have i9' : S9.2.2 = RB 2 16 16 := by rw [i9, i5, RB_0]
  have b : ∀ a i, a < 16 → S5.1 a i = S3.1 a i := fun a i h => (o5 a i (Or.inl h)).trans (zI_ne (by omega))
  refine ⟨S9, e, i9', ⟨16, 16, i9', Or.inl ⟨rfl, rfl⟩⟩, ⟨?_, ?_, ?_, ?_, ?_, fun p hp => absurd hp (Nat.not_lt_zero _), fun e he => absurd he (Nat.not_lt_zero _), fun k hk => ?_⟩, ⟨fun k hk => v36 k, v35 1, v35 2, v35 3, v35 4⟩, ⟨0, by decide, v41 1, v41 2, fun i hi => absurd hi (Nat.not_lt_zero _)⟩, ⟨?_, fun i _ ht => ?_⟩, ⟨Nat.zero_le _, v133 4, fun i hi => absurd hi (Nat.not_lt_zero _)⟩, ⟨Nat.zero_le _, ?_, fun i hi => absurd hi (Nat.not_lt_zero _)⟩, v30, wfG_new (v := fun _ => 0) (len := 0) WA_0⟩
  · rw [k2, b _ _ (by decide), z3 _ _ (by omega) (by decide) (by decide) (by decide) (by decide)]; rfl
  · rw [k2, b _ _ (by decide), z3 _ _ (by omega) (by decide) (by decide) (by decide) (by decide)]; rfl
  · rw [k2, b _ _ (by decide), z3 _ _ (by omega) (by decide) (by decide) (by decide) (by decide)]; rfl
  · rw [k2, b _ _ (by decide), p3]; rfl
  · rw [k2, b _ _ (by decide), z3 _ _ (by omega) (by decide) (by decide) (by decide) (by decide)]; rfl
  · obtain ⟨r1, p, r2, -⟩ := l3 k hk
    exact RLc_set (lw := 8) ⟨r1, p, r2⟩ (fun i => (k10 i).trans (b _ _ (by decide))) (fun i => (k11 i).trans (b _ _ (by decide))) (fun i => (k12 i).trans (b _ _ (by decide)))
  · rw [k0, b _ _ (by decide), z3 _ _ (by omega) (by decide) (by decide) (by decide) (by decide)]; rfl
  · have ht : (0 : Nat).testBit i = true := ht
    rw [Nat.zero_testBit] at ht
    cases ht
  · rw [k0, b _ _ (by decide), z3 _ _ (by omega) (by decide) (by decide) (by decide) (by decide)]; rfl
theorem app_0 {n : Int64} {S : St} : f_X10_appends n 0 S = some (n, S) := by unfold f_X10_appends; rw [if_pos rfl]
theorem wk_0 {S : St} : f_X10_word (109 : Int32) (101 : Int32) (114 : Int32) (109 : Int32) (97 : Int32) (105 : Int32) (100 : Int32) S = some (Int64.ofNat (key27 (wordL 0)), S) := by
  unfold f_X10_word
  rw [show (0 : Int64) = Int64.ofNat 0 from rfl, app_eq (x := (109 : Int32)) (by decide), bdq, app_eq (x := (101 : Int32)) (by decide), bdq, app_eq (x := (114 : Int32)) (by decide), bdq, app_eq (x := (109 : Int32)) (by decide), bdq, app_eq (x := (97 : Int32)) (by decide), bdq, app_eq (x := (105 : Int32)) (by decide), bdq, app_eq (x := (100 : Int32)) (by decide), bdq]
  exact congrArg (fun n => some (Int64.ofNat n, S)) (by decide +kernel)
theorem wk_1 {S : St} : f_X10_word (112 : Int32) (101 : Int32) (114 : Int32) (115 : Int32) (111 : Int32) (110 : Int32) (0 : Int32) S = some (Int64.ofNat (key27 (wordL 1)), S) := by
  unfold f_X10_word
  rw [show (0 : Int64) = Int64.ofNat 0 from rfl, app_eq (x := (112 : Int32)) (by decide), bdq, app_eq (x := (101 : Int32)) (by decide), bdq, app_eq (x := (114 : Int32)) (by decide), bdq, app_eq (x := (115 : Int32)) (by decide), bdq, app_eq (x := (111 : Int32)) (by decide), bdq, app_eq (x := (110 : Int32)) (by decide), bdq, app_0, bdq]
  exact congrArg (fun n => some (Int64.ofNat n, S)) (by decide +kernel)
theorem wk_2 {S : St} : f_X10_word (115 : Int32) (116 : Int32) (114 : Int32) (97 : Int32) (110 : Int32) (100 : Int32) (0 : Int32) S = some (Int64.ofNat (key27 (wordL 2)), S) := by
  unfold f_X10_word
  rw [show (0 : Int64) = Int64.ofNat 0 from rfl, app_eq (x := (115 : Int32)) (by decide), bdq, app_eq (x := (116 : Int32)) (by decide), bdq, app_eq (x := (114 : Int32)) (by decide), bdq, app_eq (x := (97 : Int32)) (by decide), bdq, app_eq (x := (110 : Int32)) (by decide), bdq, app_eq (x := (100 : Int32)) (by decide), bdq, app_0, bdq]
  exact congrArg (fun n => some (Int64.ofNat n, S)) (by decide +kernel)
theorem wk_3 {S : St} : f_X10_word (112 : Int32) (117 : Int32) (108 : Int32) (108 : Int32) (0 : Int32) (0 : Int32) (0 : Int32) S = some (Int64.ofNat (key27 (wordL 3)), S) := by
  unfold f_X10_word
  rw [show (0 : Int64) = Int64.ofNat 0 from rfl, app_eq (x := (112 : Int32)) (by decide), bdq, app_eq (x := (117 : Int32)) (by decide), bdq, app_eq (x := (108 : Int32)) (by decide), bdq, app_eq (x := (108 : Int32)) (by decide), bdq, app_0, bdq, app_0, bdq, app_0, bdq]
  exact congrArg (fun n => some (Int64.ofNat n, S)) (by decide +kernel)
theorem wk_4 {S : St} : f_X10_word (115 : Int32) (116 : Int32) (97 : Int32) (110 : Int32) (100 : Int32) (115 : Int32) (0 : Int32) S = some (Int64.ofNat (key27 (wordL 4)), S) := by
  unfold f_X10_word
  rw [show (0 : Int64) = Int64.ofNat 0 from rfl, app_eq (x := (115 : Int32)) (by decide), bdq, app_eq (x := (116 : Int32)) (by decide), bdq, app_eq (x := (97 : Int32)) (by decide), bdq, app_eq (x := (110 : Int32)) (by decide), bdq, app_eq (x := (100 : Int32)) (by decide), bdq, app_eq (x := (115 : Int32)) (by decide), bdq, app_0, bdq]
  exact congrArg (fun n => some (Int64.ofNat n, S)) (by decide +kernel)
theorem wk_5 {S : St} : f_X10_word (112 : Int32) (114 : Int32) (105 : Int32) (99 : Int32) (101 : Int32) (0 : Int32) (0 : Int32) S = some (Int64.ofNat (key27 (wordL 5)), S) := by
  unfold f_X10_word
  rw [show (0 : Int64) = Int64.ofNat 0 from rfl, app_eq (x := (112 : Int32)) (by decide), bdq, app_eq (x := (114 : Int32)) (by decide), bdq, app_eq (x := (105 : Int32)) (by decide), bdq, app_eq (x := (99 : Int32)) (by decide), bdq, app_eq (x := (101 : Int32)) (by decide), bdq, app_0, bdq, app_0, bdq]
  exact congrArg (fun n => some (Int64.ofNat n, S)) (by decide +kernel)
theorem wk_6 {S : St} : f_X10_word (115 : Int32) (116 : Int32) (111 : Int32) (114 : Int32) (109 : Int32) (0 : Int32) (0 : Int32) S = some (Int64.ofNat (key27 (wordL 6)), S) := by
  unfold f_X10_word
  rw [show (0 : Int64) = Int64.ofNat 0 from rfl, app_eq (x := (115 : Int32)) (by decide), bdq, app_eq (x := (116 : Int32)) (by decide), bdq, app_eq (x := (111 : Int32)) (by decide), bdq, app_eq (x := (114 : Int32)) (by decide), bdq, app_eq (x := (109 : Int32)) (by decide), bdq, app_0, bdq, app_0, bdq]
  exact congrArg (fun n => some (Int64.ofNat n, S)) (by decide +kernel)
theorem wk_7 {S : St} : f_X10_word (112 : Int32) (105 : Int32) (101 : Int32) (114 : Int32) (0 : Int32) (0 : Int32) (0 : Int32) S = some (Int64.ofNat (key27 (wordL 7)), S) := by
  unfold f_X10_word
  rw [show (0 : Int64) = Int64.ofNat 0 from rfl, app_eq (x := (112 : Int32)) (by decide), bdq, app_eq (x := (105 : Int32)) (by decide), bdq, app_eq (x := (101 : Int32)) (by decide), bdq, app_eq (x := (114 : Int32)) (by decide), bdq, app_0, bdq, app_0, bdq, app_0, bdq]
  exact congrArg (fun n => some (Int64.ofNat n, S)) (by decide +kernel)
theorem wk_8 {S : St} : f_X10_word (115 : Int32) (101 : Int32) (101 : Int32) (100 : Int32) (0 : Int32) (0 : Int32) (0 : Int32) S = some (Int64.ofNat (key27 (wordL 8)), S) := by
  unfold f_X10_word
  rw [show (0 : Int64) = Int64.ofNat 0 from rfl, app_eq (x := (115 : Int32)) (by decide), bdq, app_eq (x := (101 : Int32)) (by decide), bdq, app_eq (x := (101 : Int32)) (by decide), bdq, app_eq (x := (100 : Int32)) (by decide), bdq, app_0, bdq, app_0, bdq, app_0, bdq]
  exact congrArg (fun n => some (Int64.ofNat n, S)) (by decide +kernel)
theorem wk_9 {S : St} : f_X10_word (105 : Int32) (102 : Int32) (0 : Int32) (0 : Int32) (0 : Int32) (0 : Int32) (0 : Int32) S = some (Int64.ofNat (key27 (wordL 9)), S) := by
  unfold f_X10_word
  rw [show (0 : Int64) = Int64.ofNat 0 from rfl, app_eq (x := (105 : Int32)) (by decide), bdq, app_eq (x := (102 : Int32)) (by decide), bdq, app_0, bdq, app_0, bdq, app_0, bdq, app_0, bdq, app_0, bdq]
  exact congrArg (fun n => some (Int64.ofNat n, S)) (by decide +kernel)
theorem wk_10 {S : St} : f_X10_word (116 : Int32) (104 : Int32) (101 : Int32) (110 : Int32) (0 : Int32) (0 : Int32) (0 : Int32) S = some (Int64.ofNat (key27 (wordL 10)), S) := by
  unfold f_X10_word
  rw [show (0 : Int64) = Int64.ofNat 0 from rfl, app_eq (x := (116 : Int32)) (by decide), bdq, app_eq (x := (104 : Int32)) (by decide), bdq, app_eq (x := (101 : Int32)) (by decide), bdq, app_eq (x := (110 : Int32)) (by decide), bdq, app_0, bdq, app_0, bdq, app_0, bdq]
  exact congrArg (fun n => some (Int64.ofNat n, S)) (by decide +kernel)
theorem wk_11 {S : St} : f_X10_word (101 : Int32) (108 : Int32) (115 : Int32) (101 : Int32) (0 : Int32) (0 : Int32) (0 : Int32) S = some (Int64.ofNat (key27 (wordL 11)), S) := by
  unfold f_X10_word
  rw [show (0 : Int64) = Int64.ofNat 0 from rfl, app_eq (x := (101 : Int32)) (by decide), bdq, app_eq (x := (108 : Int32)) (by decide), bdq, app_eq (x := (115 : Int32)) (by decide), bdq, app_eq (x := (101 : Int32)) (by decide), bdq, app_0, bdq, app_0, bdq, app_0, bdq]
  exact congrArg (fun n => some (Int64.ofNat n, S)) (by decide +kernel)
theorem wk_12 {S : St} : f_X10_word (108 : Int32) (101 : Int32) (110 : Int32) (103 : Int32) (116 : Int32) (104 : Int32) (0 : Int32) S = some (Int64.ofNat (key27 (wordL 12)), S) := by
  unfold f_X10_word
  rw [show (0 : Int64) = Int64.ofNat 0 from rfl, app_eq (x := (108 : Int32)) (by decide), bdq, app_eq (x := (101 : Int32)) (by decide), bdq, app_eq (x := (110 : Int32)) (by decide), bdq, app_eq (x := (103 : Int32)) (by decide), bdq, app_eq (x := (116 : Int32)) (by decide), bdq, app_eq (x := (104 : Int32)) (by decide), bdq, app_0, bdq]
  exact congrArg (fun n => some (Int64.ofNat n, S)) (by decide +kernel)
theorem wk_13 {S : St} : f_X10_word (102 : Int32) (97 : Int32) (114 : Int32) (0 : Int32) (0 : Int32) (0 : Int32) (0 : Int32) S = some (Int64.ofNat (key27 (wordL 13)), S) := by
  unfold f_X10_word
  rw [show (0 : Int64) = Int64.ofNat 0 from rfl, app_eq (x := (102 : Int32)) (by decide), bdq, app_eq (x := (97 : Int32)) (by decide), bdq, app_eq (x := (114 : Int32)) (by decide), bdq, app_0, bdq, app_0, bdq, app_0, bdq, app_0, bdq]
  exact congrArg (fun n => some (Int64.ofNat n, S)) (by decide +kernel)
theorem wk_14 {S : St} : f_X10_word (109 : Int32) (111 : Int32) (111 : Int32) (110 : Int32) (0 : Int32) (0 : Int32) (0 : Int32) S = some (Int64.ofNat (key27 (wordL 14)), S) := by
  unfold f_X10_word
  rw [show (0 : Int64) = Int64.ofNat 0 from rfl, app_eq (x := (109 : Int32)) (by decide), bdq, app_eq (x := (111 : Int32)) (by decide), bdq, app_eq (x := (111 : Int32)) (by decide), bdq, app_eq (x := (110 : Int32)) (by decide), bdq, app_0, bdq, app_0, bdq, app_0, bdq]
  exact congrArg (fun n => some (Int64.ofNat n, S)) (by decide +kernel)
theorem wk_15 {S : St} : f_X10_word (109 : Int32) (111 : Int32) (110 : Int32) (116 : Int32) (104 : Int32) (0 : Int32) (0 : Int32) S = some (Int64.ofNat (key27 (wordL 15)), S) := by
  unfold f_X10_word
  rw [show (0 : Int64) = Int64.ofNat 0 from rfl, app_eq (x := (109 : Int32)) (by decide), bdq, app_eq (x := (111 : Int32)) (by decide), bdq, app_eq (x := (110 : Int32)) (by decide), bdq, app_eq (x := (116 : Int32)) (by decide), bdq, app_eq (x := (104 : Int32)) (by decide), bdq, app_0, bdq, app_0, bdq]
  exact congrArg (fun n => some (Int64.ofNat n, S)) (by decide +kernel)
theorem wk_16 {S : St} : f_X10_word (119 : Int32) (101 : Int32) (105 : Int32) (103 : Int32) (104 : Int32) (116 : Int32) (0 : Int32) S = some (Int64.ofNat (key27 (wordL 16)), S) := by
  unfold f_X10_word
  rw [show (0 : Int64) = Int64.ofNat 0 from rfl, app_eq (x := (119 : Int32)) (by decide), bdq, app_eq (x := (101 : Int32)) (by decide), bdq, app_eq (x := (105 : Int32)) (by decide), bdq, app_eq (x := (103 : Int32)) (by decide), bdq, app_eq (x := (104 : Int32)) (by decide), bdq, app_eq (x := (116 : Int32)) (by decide), bdq, app_0, bdq]
  exact congrArg (fun n => some (Int64.ofNat n, S)) (by decide +kernel)
theorem wk_17 {S : St} : f_X10_word (97 : Int32) (99 : Int32) (114 : Int32) (111 : Int32) (115 : Int32) (115 : Int32) (0 : Int32) S = some (Int64.ofNat (key27 (wordL 17)), S) := by
  unfold f_X10_word
  rw [show (0 : Int64) = Int64.ofNat 0 from rfl, app_eq (x := (97 : Int32)) (by decide), bdq, app_eq (x := (99 : Int32)) (by decide), bdq, app_eq (x := (114 : Int32)) (by decide), bdq, app_eq (x := (111 : Int32)) (by decide), bdq, app_eq (x := (115 : Int32)) (by decide), bdq, app_eq (x := (115 : Int32)) (by decide), bdq, app_0, bdq]
  exact congrArg (fun n => some (Int64.ofNat n, S)) (by decide +kernel)
theorem wk_18 {S : St} : f_X10_word (100 : Int32) (111 : Int32) (119 : Int32) (110 : Int32) (0 : Int32) (0 : Int32) (0 : Int32) S = some (Int64.ofNat (key27 (wordL 18)), S) := by
  unfold f_X10_word
  rw [show (0 : Int64) = Int64.ofNat 0 from rfl, app_eq (x := (100 : Int32)) (by decide), bdq, app_eq (x := (111 : Int32)) (by decide), bdq, app_eq (x := (119 : Int32)) (by decide), bdq, app_eq (x := (110 : Int32)) (by decide), bdq, app_0, bdq, app_0, bdq, app_0, bdq]
  exact congrArg (fun n => some (Int64.ofNat n, S)) (by decide +kernel)
theorem wk_19 {S : St} : f_X10_word (119 : Int32) (104 : Int32) (105 : Int32) (99 : Int32) (104 : Int32) (0 : Int32) (0 : Int32) S = some (Int64.ofNat (key27 (wordL 19)), S) := by
  unfold f_X10_word
  rw [show (0 : Int64) = Int64.ofNat 0 from rfl, app_eq (x := (119 : Int32)) (by decide), bdq, app_eq (x := (104 : Int32)) (by decide), bdq, app_eq (x := (105 : Int32)) (by decide), bdq, app_eq (x := (99 : Int32)) (by decide), bdq, app_eq (x := (104 : Int32)) (by decide), bdq, app_0, bdq, app_0, bdq]
  exact congrArg (fun n => some (Int64.ofNat n, S)) (by decide +kernel)
theorem wk_20 {S : St} : f_X10_word (119 : Int32) (101 : Int32) (97 : Int32) (114 : Int32) (115 : Int32) (0 : Int32) (0 : Int32) S = some (Int64.ofNat (key27 (wordL 20)), S) := by
  unfold f_X10_word
  rw [show (0 : Int64) = Int64.ofNat 0 from rfl, app_eq (x := (119 : Int32)) (by decide), bdq, app_eq (x := (101 : Int32)) (by decide), bdq, app_eq (x := (97 : Int32)) (by decide), bdq, app_eq (x := (114 : Int32)) (by decide), bdq, app_eq (x := (115 : Int32)) (by decide), bdq, app_0, bdq, app_0, bdq]
  exact congrArg (fun n => some (Int64.ofNat n, S)) (by decide +kernel)
theorem x47_lo {a i : Nat} (h : a < 140) : (zI (zI (zI (zI (zI (zI (zI (zI (zI (zI (zI (zI (zI (zI (zI (zI (zI (zI (zI (zI (zI (zI (zI (zI (zI (zI (zI (zI (zI (zI (zI (zI (zI (zI (zI (zI (zI (zI (zI (sI (zI (zI (zI (zI (zI (zI (zI S 141) 142) 143) 144) 145) 146) 147) 140 17 (-1)) 148) 149) 150) 151) 152) 153) 154) 155) 156) 157) 158) 159) 160) 161) 162) 163) 164) 165) 166) 167) 168) 169) 170) 171) 172) 173) 174) 175) 176) 177) 178) 179) 180) 181) 182) 183) 184) 185) 186).1 a i = S.1 a i := by rw [zI_ne (by omega), zI_ne (by omega), zI_ne (by omega), zI_ne (by omega), zI_ne (by omega), zI_ne (by omega), zI_ne (by omega), zI_ne (by omega), zI_ne (by omega), zI_ne (by omega), zI_ne (by omega), zI_ne (by omega), zI_ne (by omega), zI_ne (by omega), zI_ne (by omega), zI_ne (by omega), zI_ne (by omega), zI_ne (by omega), zI_ne (by omega), zI_ne (by omega), zI_ne (by omega), zI_ne (by omega), zI_ne (by omega), zI_ne (by omega), zI_ne (by omega), zI_ne (by omega), zI_ne (by omega), zI_ne (by omega), zI_ne (by omega), zI_ne (by omega), zI_ne (by omega), zI_ne (by omega), zI_ne (by omega), zI_ne (by omega), zI_ne (by omega), zI_ne (by omega), zI_ne (by omega), zI_ne (by omega), zI_ne (by omega), sI_ne (by omega), zI_ne (by omega), zI_ne (by omega), zI_ne (by omega), zI_ne (by omega), zI_ne (by omega), zI_ne (by omega), zI_ne (by omega)]
theorem x47_0 {i : Nat} (h : ∀ i, S.1 140 i = 0) (hi : i ≠ 17) : (zI (zI (zI (zI (zI (zI (zI (zI (zI (zI (zI (zI (zI (zI (zI (zI (zI (zI (zI (zI (zI (zI (zI (zI (zI (zI (zI (zI (zI (zI (zI (zI (zI (zI (zI (zI (zI (zI (zI (sI (zI (zI (zI (zI (zI (zI (zI S 141) 142) 143) 144) 145) 146) 147) 140 17 (-1)) 148) 149) 150) 151) 152) 153) 154) 155) 156) 157) 158) 159) 160) 161) 162) 163) 164) 165) 166) 167) 168) 169) 170) 171) 172) 173) 174) 175) 176) 177) 178) 179) 180) 181) 182) 183) 184) 185) 186).1 140 i = 0 := by rw [zI_ne (by decide), zI_ne (by decide), zI_ne (by decide), zI_ne (by decide), zI_ne (by decide), zI_ne (by decide), zI_ne (by decide), zI_ne (by decide), zI_ne (by decide), zI_ne (by decide), zI_ne (by decide), zI_ne (by decide), zI_ne (by decide), zI_ne (by decide), zI_ne (by decide), zI_ne (by decide), zI_ne (by decide), zI_ne (by decide), zI_ne (by decide), zI_ne (by decide), zI_ne (by decide), zI_ne (by decide), zI_ne (by decide), zI_ne (by decide), zI_ne (by decide), zI_ne (by decide), zI_ne (by decide), zI_ne (by decide), zI_ne (by decide), zI_ne (by decide), zI_ne (by decide), zI_ne (by decide), zI_ne (by decide), zI_ne (by decide), zI_ne (by decide), zI_ne (by decide), zI_ne (by decide), zI_ne (by decide), zI_ne (by decide), sI_ne (by omega), zI_ne (by decide), zI_ne (by decide), zI_ne (by decide), zI_ne (by decide), zI_ne (by decide), zI_ne (by decide), zI_ne (by decide)]; exact h i
theorem x47_17 : (zI (zI (zI (zI (zI (zI (zI (zI (zI (zI (zI (zI (zI (zI (zI (zI (zI (zI (zI (zI (zI (zI (zI (zI (zI (zI (zI (zI (zI (zI (zI (zI (zI (zI (zI (zI (zI (zI (zI (sI (zI (zI (zI (zI (zI (zI (zI S 141) 142) 143) 144) 145) 146) 147) 140 17 (-1)) 148) 149) 150) 151) 152) 153) 154) 155) 156) 157) 158) 159) 160) 161) 162) 163) 164) 165) 166) 167) 168) 169) 170) 171) 172) 173) 174) 175) 176) 177) 178) 179) 180) 181) 182) 183) 184) 185) 186).1 140 17 = -1 := by rw [zI_ne (by decide), zI_ne (by decide), zI_ne (by decide), zI_ne (by decide), zI_ne (by decide), zI_ne (by decide), zI_ne (by decide), zI_ne (by decide), zI_ne (by decide), zI_ne (by decide), zI_ne (by decide), zI_ne (by decide), zI_ne (by decide), zI_ne (by decide), zI_ne (by decide), zI_ne (by decide), zI_ne (by decide), zI_ne (by decide), zI_ne (by decide), zI_ne (by decide), zI_ne (by decide), zI_ne (by decide), zI_ne (by decide), zI_ne (by decide), zI_ne (by decide), zI_ne (by decide), zI_ne (by decide), zI_ne (by decide), zI_ne (by decide), zI_ne (by decide), zI_ne (by decide), zI_ne (by decide), zI_ne (by decide), zI_ne (by decide), zI_ne (by decide), zI_ne (by decide), zI_ne (by decide), zI_ne (by decide), zI_ne (by decide), sI_at]
theorem x47_185 {i : Nat} : (zI (zI (zI (zI (zI (zI (zI (zI (zI (zI (zI (zI (zI (zI (zI (zI (zI (zI (zI (zI (zI (zI (zI (zI (zI (zI (zI (zI (zI (zI (zI (zI (zI (zI (zI (zI (zI (zI (zI (sI (zI (zI (zI (zI (zI (zI (zI S 141) 142) 143) 144) 145) 146) 147) 140 17 (-1)) 148) 149) 150) 151) 152) 153) 154) 155) 156) 157) 158) 159) 160) 161) 162) 163) 164) 165) 166) 167) 168) 169) 170) 171) 172) 173) 174) 175) 176) 177) 178) 179) 180) 181) 182) 183) 184) 185) 186).1 185 i = 0 := by rw [zI_ne (by decide)]; exact zI_at
theorem ky_91 {S49 : St} : KY (sL (sL (sL (sL (sL (sL (sL (sL (sL (sL (sL (sL (sL (sL (sL (sL (sL (sL (sL (sL (sL S49 147 0 (Int64.ofNat (key27 (wordL 0)))) 147 1 (Int64.ofNat (key27 (wordL 1)))) 147 2 (Int64.ofNat (key27 (wordL 2)))) 147 3 (Int64.ofNat (key27 (wordL 3)))) 147 4 (Int64.ofNat (key27 (wordL 4)))) 147 5 (Int64.ofNat (key27 (wordL 5)))) 147 6 (Int64.ofNat (key27 (wordL 6)))) 147 7 (Int64.ofNat (key27 (wordL 7)))) 147 8 (Int64.ofNat (key27 (wordL 8)))) 147 9 (Int64.ofNat (key27 (wordL 9)))) 147 10 (Int64.ofNat (key27 (wordL 10)))) 147 11 (Int64.ofNat (key27 (wordL 11)))) 147 12 (Int64.ofNat (key27 (wordL 12)))) 147 13 (Int64.ofNat (key27 (wordL 13)))) 147 14 (Int64.ofNat (key27 (wordL 14)))) 147 15 (Int64.ofNat (key27 (wordL 15)))) 147 16 (Int64.ofNat (key27 (wordL 16)))) 147 17 (Int64.ofNat (key27 (wordL 17)))) 147 18 (Int64.ofNat (key27 (wordL 18)))) 147 19 (Int64.ofNat (key27 (wordL 19)))) 147 20 (Int64.ofNat (key27 (wordL 20)))) := fun k hk => by
  rcases (show k = 0 ∨ k = 1 ∨ k = 2 ∨ k = 3 ∨ k = 4 ∨ k = 5 ∨ k = 6 ∨ k = 7 ∨ k = 8 ∨ k = 9 ∨ k = 10 ∨ k = 11 ∨ k = 12 ∨ k = 13 ∨ k = 14 ∨ k = 15 ∨ k = 16 ∨ k = 17 ∨ k = 18 ∨ k = 19 ∨ k = 20 by omega) with rfl | rfl | rfl | rfl | rfl | rfl | rfl | rfl | rfl | rfl | rfl | rfl | rfl | rfl | rfl | rfl | rfl | rfl | rfl | rfl | rfl
  · rfl
  · rfl
  · rfl
  · rfl
  · rfl
  · rfl
  · rfl
  · rfl
  · rfl
  · rfl
  · rfl
  · rfl
  · rfl
  · rfl
  · rfl
  · rfl
  · rfl
  · rfl
  · rfl
  · rfl
  · rfl
set_option maxRecDepth 20000 in
theorem init_m (hr : RFM S.2.2) (h140 : ∀ i, S.1 140 i = 0) : ∃ S', fi_X10_init_140 S = some ((), S') ∧ S'.2.2 = S.2.2 ∧ (∀ a i, a < 140 → S'.1 a i = S.1 a i) ∧ RM 0 0 g00 S' := by
  have r47 : RFM (zI (zI (zI (zI (zI (zI (zI (zI (zI (zI (zI (zI (zI (zI (zI (zI (zI (zI (zI (zI (zI (zI (zI (zI (zI (zI (zI (zI (zI (zI (zI (zI (zI (zI (zI (zI (zI (zI (zI (sI (zI (zI (zI (zI (zI (zI (zI S 141) 142) 143) 144) 145) 146) 147) 140 17 (-1)) 148) 149) 150) 151) 152) 153) 154) 155) 156) 157) 158) 159) 160) 161) 162) 163) 164) 165) 166) 167) 168) 169) 170) 171) 172) 173) 174) 175) 176) 177) 178) 179) 180) 181) 182) 183) 184) 185) 186).2.2 := hr
  have l47 : ∀ a i, a < 140 → (zI (zI (zI (zI (zI (zI (zI (zI (zI (zI (zI (zI (zI (zI (zI (zI (zI (zI (zI (zI (zI (zI (zI (zI (zI (zI (zI (zI (zI (zI (zI (zI (zI (zI (zI (zI (zI (zI (zI (sI (zI (zI (zI (zI (zI (zI (zI S 141) 142) 143) 144) 145) 146) 147) 140 17 (-1)) 148) 149) 150) 151) 152) 153) 154) 155) 156) 157) 158) 159) 160) 161) 162) 163) 164) 165) 166) 167) 168) 169) 170) 171) 172) 173) 174) 175) 176) 177) 178) 179) 180) 181) 182) 183) 184) 185) 186).1 a i = S.1 a i := fun a i h => x47_lo h
  have z47 : ∀ i, i ≠ 17 → (zI (zI (zI (zI (zI (zI (zI (zI (zI (zI (zI (zI (zI (zI (zI (zI (zI (zI (zI (zI (zI (zI (zI (zI (zI (zI (zI (zI (zI (zI (zI (zI (zI (zI (zI (zI (zI (zI (zI (sI (zI (zI (zI (zI (zI (zI (zI S 141) 142) 143) 144) 145) 146) 147) 140 17 (-1)) 148) 149) 150) 151) 152) 153) 154) 155) 156) 157) 158) 159) 160) 161) 162) 163) 164) 165) 166) 167) 168) 169) 170) 171) 172) 173) 174) 175) 176) 177) 178) 179) 180) 181) 182) 183) 184) 185) 186).1 140 i = 0 := fun i h => x47_0 h140 h
  have p47 : (zI (zI (zI (zI (zI (zI (zI (zI (zI (zI (zI (zI (zI (zI (zI (zI (zI (zI (zI (zI (zI (zI (zI (zI (zI (zI (zI (zI (zI (zI (zI (zI (zI (zI (zI (zI (zI (zI (zI (sI (zI (zI (zI (zI (zI (zI (zI S 141) 142) 143) 144) 145) 146) 147) 140 17 (-1)) 148) 149) 150) 151) 152) 153) 154) 155) 156) 157) 158) 159) 160) 161) 162) 163) 164) 165) 166) 167) 168) 169) 170) 171) 172) 173) 174) 175) 176) 177) 178) 179) 180) 181) 182) 183) 184) 185) 186).1 140 17 = -1 := x47_17
  have q47 : ∀ i, (zI (zI (zI (zI (zI (zI (zI (zI (zI (zI (zI (zI (zI (zI (zI (zI (zI (zI (zI (zI (zI (zI (zI (zI (zI (zI (zI (zI (zI (zI (zI (zI (zI (zI (zI (zI (zI (zI (zI (sI (zI (zI (zI (zI (zI (zI (zI S 141) 142) 143) 144) 145) 146) 147) 140 17 (-1)) 148) 149) 150) 151) 152) 153) 154) 155) 156) 157) 158) 159) 160) 161) 162) 163) 164) 165) 166) 167) 168) 169) 170) 171) 172) 173) 174) 175) 176) 177) 178) 179) 180) 181) 182) 183) 184) 185) 186).1 185 i = 0 := fun i => x47_185
  have i47 : (zI (zI (zI (zI (zI (zI (zI (zI (zI (zI (zI (zI (zI (zI (zI (zI (zI (zI (zI (zI (zI (zI (zI (zI (zI (zI (zI (zI (zI (zI (zI (zI (zI (zI (zI (zI (zI (zI (zI (sI (zI (zI (zI (zI (zI (zI (zI S 141) 142) 143) 144) 145) 146) 147) 140 17 (-1)) 148) 149) 150) 151) 152) 153) 154) 155) 156) 157) 158) 159) 160) 161) 162) 163) 164) 165) 166) 167) 168) 169) 170) 171) 172) 173) 174) 175) 176) 177) 178) 179) 180) 181) 182) 183) 184) 185) 186).2.2 = S.2.2 := rfl
  unfold fi_X10_init_140
  rw [nmq, nmq, nmq, nmq, nmq, nmq, nmq, nmq, nmq, nmq, nmq, nmq, nmq, nmq, nmq, nmq, nmq, nmq, nmq, nmq, nmq, nmq, nmq, nmq, nmq, nmq, nmq, nmq, nmq, nmq, nmq, nmq, nmq, nmq, nmq, nmq, nmq, nmq, nmq, nmq, nmq, nmq, nmq, nmq, nmq, nmq, nmq]
  revert r47 l47 z47 p47 q47 i47
  generalize (zI (zI (zI (zI (zI (zI (zI (zI (zI (zI (zI (zI (zI (zI (zI (zI (zI (zI (zI (zI (zI (zI (zI (zI (zI (zI (zI (zI (zI (zI (zI (zI (zI (zI (zI (zI (zI (zI (zI (sI (zI (zI (zI (zI (zI (zI (zI S 141) 142) 143) 144) 145) 146) 147) 140 17 (-1)) 148) 149) 150) 151) 152) 153) 154) 155) 156) 157) 158) 159) 160) 161) 162) 163) 164) 165) 166) 167) 168) 169) 170) 171) 172) 173) 174) 175) 176) 177) 178) 179) 180) 181) 182) 183) 184) 185) 186) = S47
  intro r47 l47 z47 p47 q47 i47
  obtain ⟨S48, e48, i48, o48, a150, a152, a156, a160, a161, a162⟩ := plain_run (sd := 0) (by decide) r47
  have r48 : RFM S48.2.2 := by rw [i48]; exact r47
  obtain ⟨S49, e49, i49, o49, -⟩ := plain_run (sd := 1) (by decide) r48
  have r49 : RFM S49.2.2 := by rw [i49]; exact r48
  rw [show f_X10_plain 140 0 S47 = some ((), S48) from e48, bdq, show f_X10_plain 140 1 S48 = some ((), S49) from e49, bdq]
  rw [wk_0, bdq, show ix 0 21 = some 0 from by decide, obq, nmq, wk_1, bdq, show ix 1 21 = some 1 from by decide, obq, nmq, wk_2, bdq, show ix 2 21 = some 2 from by decide, obq, nmq, wk_3, bdq, show ix 3 21 = some 3 from by decide, obq, nmq, wk_4, bdq, show ix 4 21 = some 4 from by decide, obq, nmq, wk_5, bdq, show ix 5 21 = some 5 from by decide, obq, nmq, wk_6, bdq, show ix 6 21 = some 6 from by decide, obq, nmq, wk_7, bdq, show ix 7 21 = some 7 from by decide, obq, nmq, wk_8, bdq, show ix 8 21 = some 8 from by decide, obq, nmq, wk_9, bdq, show ix 9 21 = some 9 from by decide, obq, nmq, wk_10, bdq, show ix 10 21 = some 10 from by decide, obq, nmq, wk_11, bdq, show ix 11 21 = some 11 from by decide, obq, nmq, wk_12, bdq, show ix 12 21 = some 12 from by decide, obq, nmq, wk_13, bdq, show ix 13 21 = some 13 from by decide, obq, nmq, wk_14, bdq, show ix 14 21 = some 14 from by decide, obq, nmq, wk_15, bdq, show ix 15 21 = some 15 from by decide, obq, nmq, wk_16, bdq, show ix 16 21 = some 16 from by decide, obq, nmq, wk_17, bdq, show ix 17 21 = some 17 from by decide, obq, nmq, wk_18, bdq, show ix 18 21 = some 18 from by decide, obq, nmq, wk_19, bdq, show ix 19 21 = some 19 from by decide, obq, nmq, wk_20, bdq, show ix 20 21 = some 20 from by decide, obq, nmq]
  have ky := ky_91 (S49 := S49)
  have r91 : RFM (sL (sL (sL (sL (sL (sL (sL (sL (sL (sL (sL (sL (sL (sL (sL (sL (sL (sL (sL (sL (sL S49 147 0 (Int64.ofNat (key27 (wordL 0)))) 147 1 (Int64.ofNat (key27 (wordL 1)))) 147 2 (Int64.ofNat (key27 (wordL 2)))) 147 3 (Int64.ofNat (key27 (wordL 3)))) 147 4 (Int64.ofNat (key27 (wordL 4)))) 147 5 (Int64.ofNat (key27 (wordL 5)))) 147 6 (Int64.ofNat (key27 (wordL 6)))) 147 7 (Int64.ofNat (key27 (wordL 7)))) 147 8 (Int64.ofNat (key27 (wordL 8)))) 147 9 (Int64.ofNat (key27 (wordL 9)))) 147 10 (Int64.ofNat (key27 (wordL 10)))) 147 11 (Int64.ofNat (key27 (wordL 11)))) 147 12 (Int64.ofNat (key27 (wordL 12)))) 147 13 (Int64.ofNat (key27 (wordL 13)))) 147 14 (Int64.ofNat (key27 (wordL 14)))) 147 15 (Int64.ofNat (key27 (wordL 15)))) 147 16 (Int64.ofNat (key27 (wordL 16)))) 147 17 (Int64.ofNat (key27 (wordL 17)))) 147 18 (Int64.ofNat (key27 (wordL 18)))) 147 19 (Int64.ofNat (key27 (wordL 19)))) 147 20 (Int64.ofNat (key27 (wordL 20)))).2.2 := r49
  have o91 : ∀ a i, (sL (sL (sL (sL (sL (sL (sL (sL (sL (sL (sL (sL (sL (sL (sL (sL (sL (sL (sL (sL (sL S49 147 0 (Int64.ofNat (key27 (wordL 0)))) 147 1 (Int64.ofNat (key27 (wordL 1)))) 147 2 (Int64.ofNat (key27 (wordL 2)))) 147 3 (Int64.ofNat (key27 (wordL 3)))) 147 4 (Int64.ofNat (key27 (wordL 4)))) 147 5 (Int64.ofNat (key27 (wordL 5)))) 147 6 (Int64.ofNat (key27 (wordL 6)))) 147 7 (Int64.ofNat (key27 (wordL 7)))) 147 8 (Int64.ofNat (key27 (wordL 8)))) 147 9 (Int64.ofNat (key27 (wordL 9)))) 147 10 (Int64.ofNat (key27 (wordL 10)))) 147 11 (Int64.ofNat (key27 (wordL 11)))) 147 12 (Int64.ofNat (key27 (wordL 12)))) 147 13 (Int64.ofNat (key27 (wordL 13)))) 147 14 (Int64.ofNat (key27 (wordL 14)))) 147 15 (Int64.ofNat (key27 (wordL 15)))) 147 16 (Int64.ofNat (key27 (wordL 16)))) 147 17 (Int64.ofNat (key27 (wordL 17)))) 147 18 (Int64.ofNat (key27 (wordL 18)))) 147 19 (Int64.ofNat (key27 (wordL 19)))) 147 20 (Int64.ofNat (key27 (wordL 20)))).1 a i = S49.1 a i := fun _ _ => rfl
  have i91 : (sL (sL (sL (sL (sL (sL (sL (sL (sL (sL (sL (sL (sL (sL (sL (sL (sL (sL (sL (sL (sL S49 147 0 (Int64.ofNat (key27 (wordL 0)))) 147 1 (Int64.ofNat (key27 (wordL 1)))) 147 2 (Int64.ofNat (key27 (wordL 2)))) 147 3 (Int64.ofNat (key27 (wordL 3)))) 147 4 (Int64.ofNat (key27 (wordL 4)))) 147 5 (Int64.ofNat (key27 (wordL 5)))) 147 6 (Int64.ofNat (key27 (wordL 6)))) 147 7 (Int64.ofNat (key27 (wordL 7)))) 147 8 (Int64.ofNat (key27 (wordL 8)))) 147 9 (Int64.ofNat (key27 (wordL 9)))) 147 10 (Int64.ofNat (key27 (wordL 10)))) 147 11 (Int64.ofNat (key27 (wordL 11)))) 147 12 (Int64.ofNat (key27 (wordL 12)))) 147 13 (Int64.ofNat (key27 (wordL 13)))) 147 14 (Int64.ofNat (key27 (wordL 14)))) 147 15 (Int64.ofNat (key27 (wordL 15)))) 147 16 (Int64.ofNat (key27 (wordL 16)))) 147 17 (Int64.ofNat (key27 (wordL 17)))) 147 18 (Int64.ofNat (key27 (wordL 18)))) 147 19 (Int64.ofNat (key27 (wordL 19)))) 147 20 (Int64.ofNat (key27 (wordL 20)))).2.2 = S49.2.2 := rfl
  revert ky r91 o91 i91
  generalize (sL (sL (sL (sL (sL (sL (sL (sL (sL (sL (sL (sL (sL (sL (sL (sL (sL (sL (sL (sL (sL S49 147 0 (Int64.ofNat (key27 (wordL 0)))) 147 1 (Int64.ofNat (key27 (wordL 1)))) 147 2 (Int64.ofNat (key27 (wordL 2)))) 147 3 (Int64.ofNat (key27 (wordL 3)))) 147 4 (Int64.ofNat (key27 (wordL 4)))) 147 5 (Int64.ofNat (key27 (wordL 5)))) 147 6 (Int64.ofNat (key27 (wordL 6)))) 147 7 (Int64.ofNat (key27 (wordL 7)))) 147 8 (Int64.ofNat (key27 (wordL 8)))) 147 9 (Int64.ofNat (key27 (wordL 9)))) 147 10 (Int64.ofNat (key27 (wordL 10)))) 147 11 (Int64.ofNat (key27 (wordL 11)))) 147 12 (Int64.ofNat (key27 (wordL 12)))) 147 13 (Int64.ofNat (key27 (wordL 13)))) 147 14 (Int64.ofNat (key27 (wordL 14)))) 147 15 (Int64.ofNat (key27 (wordL 15)))) 147 16 (Int64.ofNat (key27 (wordL 16)))) 147 17 (Int64.ofNat (key27 (wordL 17)))) 147 18 (Int64.ofNat (key27 (wordL 18)))) 147 19 (Int64.ofNat (key27 (wordL 19)))) 147 20 (Int64.ofNat (key27 (wordL 20)))) = S91
  intro ky r91 o91 i91
  have oo : ∀ a i, (a = 150 ∨ a = 152 ∨ a = 156 ∨ a = 160 ∨ a = 161 → 1 < i) → (a = 162 ∨ a = 163 → 8 ≤ i) → S91.1 a i = S47.1 a i := fun a i z1 z2 => by
    rw [o91, o49 a i (by omega) (by omega), o48 a i (by omega) (by omega)]
  have c0 : ∀ a, a = 150 ∨ a = 152 ∨ a = 156 ∨ a = 160 ∨ a = 161 → S91.1 a 0 = S48.1 a 0 := fun a z => by rw [o91, o49 a 0 (by omega) (by omega)]
  have c62 : ∀ a k, a = 162 ∨ a = 163 → k < 4 → S91.1 a (4 * 0 + k) = S48.1 a (4 * 0 + k) := fun a k z hk => by rw [o91, o49 a _ (by omega) (by omega)]
  have h18 : S91.1 140 18 = nI 0 := (oo _ _ (by omega) (by omega)).trans (z47 18 (by decide))
  obtain ⟨S92, e92, i92, o92, v92⟩ := begins_run (lv := 0) (A := A0) (by decide) r91 h18 ((c0 _ (by omega)).trans a150) ((c0 _ (by omega)).trans a152) ((c0 _ (by omega)).trans a156) (Nat.zero_le _) (Nat.zero_le _) (Nat.zero_le _) ⟨(c0 _ (by omega)).trans a160, (c0 _ (by omega)).trans a161, fun p hp => absurd hp (Nat.not_lt_zero _), fun e he => absurd he (Nat.not_lt_zero _), fun m hm => absurd hm (Nat.not_lt_zero _)⟩ ((WA_0 (v := fun _ => 0) (len := 0)).2.2.2.2.2 rfl)
  have r92 : RFM S92.2.2 := by rw [i92]; exact r91
  obtain ⟨_, S93, e93, i93, v93, o93⟩ := keeps_run r92
  rw [e92, bdq, e93, bdq]
  have oz : ∀ a i, a ≠ 174 → a ≠ 175 → (a = 140 → i ≠ 53 ∧ i ≠ 54) → S93.1 a i = S91.1 a i := fun a i z1 z2 z3 => (o93 a i z1).trans (o92 a i z2 z3)
  refine ⟨S93, rfl, ?_, fun a i h => ?_, ⟨?_, by decide, (oz _ _ (by decide) (by decide) (by omega)).trans h18, (oz _ _ (by decide) (by decide) (by omega)).trans ((c0 _ (by omega)).trans a150), (oz _ _ (by decide) (by decide) (by omega)).trans ((c0 _ (by omega)).trans a152), (oz _ _ (by decide) (by decide) (by omega)).trans ((c0 _ (by omega)).trans a156), (oz _ _ (by decide) (by decide) (by omega)).trans ((c0 _ (by omega)).trans a160), (oz _ _ (by decide) (by decide) (by omega)).trans ((c0 _ (by omega)).trans a161), fun p hp => absurd hp (Nat.not_lt_zero _), fun e he => absurd he (Nat.not_lt_zero _), fun k hk => Or.inl ⟨?_, rfl⟩⟩, fun k hk => (v93 k hk).trans (v92 k hk), ⟨?_, fun i hi => absurd hi (Nat.not_lt_zero _)⟩, fun i hi => ⟨?_, fun ht => ?_⟩, ⟨Nat.zero_le _, ?_, fun i hi => absurd hi (Nat.not_lt_zero _)⟩, ⟨Nat.zero_le _, ?_, fun i hi => absurd hi (Nat.not_lt_zero _)⟩, ?_, fun k hk => ?_, wfG_new (v := fun _ => 0) (len := 0) WA_0⟩
  · rw [i93, i92, i91, i49, i48]; exact i47
  · rw [oz a i (by omega) (by omega) (by omega), oo a i (by omega) (by omega)]; exact l47 a i h
  · rw [i93]; exact r92
  · rw [oz _ _ (by decide) (by decide) (by omega), oz _ _ (by decide) (by decide) (by omega), c62 _ k (by omega) hk, c62 _ k (by omega) hk, (a162 k hk).1, (a162 k hk).2]
  · rw [oz _ _ (by decide) (by decide) (by omega), oo _ _ (by omega) (by omega)]; exact z47 61 (by decide)
  · rw [oz _ _ (by decide) (by decide) (by omega), oo _ _ (by omega) (by omega), q47 i]
    show (0 : Int32) = if (0 : Nat).testBit i = true then 1 else 0
    rw [Nat.zero_testBit, if_neg (by decide)]
  · have ht : (0 : Nat).testBit i = true := ht
    rw [Nat.zero_testBit] at ht
    cases ht
  · rw [oz _ _ (by decide) (by decide) (by omega), oo _ _ (by omega) (by omega)]; exact z47 64 (by decide)
  · rw [oz _ _ (by decide) (by decide) (by omega), oo _ _ (by omega) (by omega)]; exact z47 2 (by decide)
  · rw [oz _ _ (by decide) (by decide) (by omega), oo _ _ (by omega) (by omega)]; exact p47
  · rw [i93, i92]; exact ky k hk
theorem law_pure (L : Nat) (xs : Nat → Int32) (hL : L ≤ 3072) : ∃ r, lawF L xs = some r := by
  obtain ⟨S2, e2, i2, c2⟩ := init_c
  have r3 : RFM (zI S2 140).2.2 := ⟨2, 16, 16, i2⟩
  obtain ⟨S4, e4, i4, o4, m4⟩ := init_m r3 (fun i => zI_at)
  have i4' : S4.2.2 = S2.2.2 := i4
  have c4 : RC 2 0 g00 S4 := RC_e c2 ⟨i4', fun a i z => by
    rw [o4 a i (by unfold obs at z; omega), zI_ne (by unfold obs at z; omega)]⟩
  unfold lawF
  rw [nmq, e2, bdq, nmq, e4, bdq]
  exact law_run hL 513 0 600 S4 (by decide) (by decide) ⟨g00, 2, 0, c4, m4, fun i hi => absurd hi (Nat.not_lt_zero _), 2, 16, 16, i4'.trans i2, Or.inl ⟨rfl, rfl⟩, Or.inr rfl⟩
end INI

/-! the class: a text is begun, and gone on from -/
def A0 : RA := (((0, 0, 0, 4, 0), fun _ => 0, fun _ => 0, fun _ => 0, dflt), fun _ => 0, fun _ => 0, fun _ => 0)
section CRD
variable {v : Nat → Int32} {len Bc B B1 C : Nat} {S S' : St}
theorem wfd_1 {c : Nat} (h : c < 10009) : wfd [c] 0 := ⟨Or.inl h, by rw [if_pos (by omega)]; exact ⟨by decide, rfl⟩⟩
theorem dflt_wf : ∀ k : Nat, k < 4 → wfL (dflt k) := fun k hk => by
  refine ⟨Nat.zero_le _, fun x hx => absurd hx List.not_mem_nil, ?_⟩
  show wfd [if k = 0 then 10000 else if k = 1 then 10004 else if k = 2 then 10000 else 0] 0
  refine wfd_1 ?_
  split
  · decide
  · split
    · decide
    · split <;> decide
theorem WA_0 : WA v len none A0 := by
  refine ⟨Nat.zero_le _, Nat.zero_le _, Nat.zero_le _, ⟨fun i hi => absurd hi (Nat.not_lt_zero _), fun i hi => absurd hi (Nat.not_lt_zero _), fun k hk => absurd hk (Nat.not_lt_zero _), fun k k' _ hk => absurd hk (Nat.not_lt_zero _)⟩, dflt_wf, fun _ => ⟨?_, ?_, fun e he => absurd he (Nat.not_lt_zero _), ⟨fun m hm => absurd hm (Nat.not_lt_zero _), fun p hp => absurd hp (Nat.not_lt_zero _), fun e he => absurd he (Nat.not_lt_zero _)⟩, fun _ _ _ => ⟨rfl, rfl, rfl, rfl⟩, fun _ _ _ => ⟨rfl, rfl⟩, fun _ _ _ => rfl⟩⟩
  · show 4 ≤ 9
    decide
  · show 0 ≤ 9999
    decide
theorem RLq_up {k q q' : Nat} {l : Lw} (h : RLq Bc k l q S) (hl : l.1.length ≤ 4) (hq : q ≤ q') (h8 : ∀ i, i < q → S'.1 (Bc + 8) i = S.1 (Bc + 8) i) (h9 : ∀ i, 14 * k ≤ i → i ≤ 14 * k + 13 → S'.1 (Bc + 9) i = S.1 (Bc + 9) i) (h10 : S'.1 (Bc + 10) k = S.1 (Bc + 10) k) : RLq Bc k l q' S' := by
  obtain ⟨h1, p, h2, h3⟩ := h
  have hfl := flat_len l.1 l.2
  exact ⟨h10.trans h1, p, PCs_keep h2 (fun i z1 z2 => h9 i (by omega) (by omega)) (fun i hi => h8 i (by omega)), by omega⟩
theorem unt_run {k q c : Nat} (hr : RRf Bc S.2.2) (hk : k < 4) (hq : q < 404) (h : S.1 (Bc + 6) 2 = nI q) : ∃ S', f_X2_putUntold (Bc + 6) (nI k) (nI c) S = some ((), S') ∧ S'.2 = S.2 ∧ (∀ a i, (a = Bc + 6 → i ≠ 2) → (a = Bc + 8 → i ≠ q) → (a = Bc + 9 → i ≠ 14 * k ∧ i ≠ 14 * k + 1) → (a = Bc + 10 → i ≠ k) → S'.1 a i = S.1 a i) ∧ S'.1 (Bc + 6) 2 = nI (q + 1) ∧ RLq Bc k ([], [c]) (q + 1) S' := by
  unfold f_X2_putUntold
  rw [open_run hr hk, bdq]
  have q1 : (sI (sI S (Bc + 10) k 0) (Bc + 9) (14 * k) (S.1 (Bc + 6) 2)).1 (Bc + 6) 2 = nI q := by rw [sI_ne (by omega), sI_ne (by omega)]; exact h
  have r1 : RRf Bc (sI (sI S (Bc + 10) k 0) (Bc + 9) (14 * k) (S.1 (Bc + 6) 2)).2.2 := hr
  have o1 : ∀ a i, (a = Bc + 9 → i ≠ 14 * k) → (a = Bc + 10 → i ≠ k) → (sI (sI S (Bc + 10) k 0) (Bc + 9) (14 * k) (S.1 (Bc + 6) 2)).1 a i = S.1 a i := fun a i z1 z2 => by rw [sI_ne (by omega), sI_ne (by omega)]
  have v1 : (sI (sI S (Bc + 10) k 0) (Bc + 9) (14 * k) (S.1 (Bc + 6) 2)).1 (Bc + 9) (14 * k) = nI q := by rw [sI_at]; exact h
  have w1 : (sI (sI S (Bc + 10) k 0) (Bc + 9) (14 * k) (S.1 (Bc + 6) 2)).1 (Bc + 10) k = nI 0 := by rw [sI_ne (by omega), sI_at]; rfl
  have i1 : (sI (sI S (Bc + 10) k 0) (Bc + 9) (14 * k) (S.1 (Bc + 6) 2)).2 = S.2 := rfl
  revert q1 r1 o1 v1 w1 i1
  generalize sI (sI S (Bc + 10) k 0) (Bc + 9) (14 * k) (S.1 (Bc + 6) 2) = S1
  intro q1 r1 o1 v1 w1 i1
  rw [put_run r1 q1 hq, bdq]
  have r3 : RRf Bc (sI (sI S1 (Bc + 8) q (nI c)) (Bc + 6) 2 (nI (q + 1))).2.2 := r1
  have o3 : ∀ a i, (a = Bc + 6 → i ≠ 2) → (a = Bc + 8 → i ≠ q) → (sI (sI S1 (Bc + 8) q (nI c)) (Bc + 6) 2 (nI (q + 1))).1 a i = S1.1 a i := fun a i z1 z2 => by rw [sI_ne (by omega), sI_ne (by omega)]
  have v3 : (sI (sI S1 (Bc + 8) q (nI c)) (Bc + 6) 2 (nI (q + 1))).1 (Bc + 8) q = nI c := by rw [sI_ne (by omega), sI_at]
  have u3 : (sI (sI S1 (Bc + 8) q (nI c)) (Bc + 6) 2 (nI (q + 1))).1 (Bc + 6) 2 = nI (q + 1) := sI_at
  have i3 : (sI (sI S1 (Bc + 8) q (nI c)) (Bc + 6) 2 (nI (q + 1))).2 = S1.2 := rfl
  revert r3 o3 v3 u3 i3
  generalize sI (sI S1 (Bc + 8) q (nI c)) (Bc + 6) 2 (nI (q + 1)) = S3
  intro r3 o3 v3 u3 i3
  obtain ⟨S5, e5, i5, o5, -, y5⟩ := endp_run (p := 0) r3 hk (by omega) ((o3 _ _ (by omega) (by omega)).trans w1)
  obtain ⟨y1, y2, y3⟩ := y5 (by decide)
  rw [e5, bdq]
  refine ⟨S5, rfl, i5.trans (i3.trans i1), fun a i z1 z2 z3 z4 => ?_, (o5 _ _ (by omega) (by omega)).trans u3, ?_, q, ⟨?_, fun j d hj => ?_, ?_, ?_⟩, ?_⟩
  · by_cases ca : a = Bc + 9
    · rw [ca, y3 i (by have := z3 ca; omega), o3 _ _ (by omega) (by omega), o1 _ _ (by intro _; exact (z3 ca).1) (by omega)]
    · rw [o5 a i (by omega) z4, o3 a i z1 z2, o1 a i (by omega) z4]
  · exact y1
  · show S5.1 (Bc + 9) (14 * k) = nI q
    rw [y3 _ (by omega), o3 _ _ (by omega) (by omega)]
    exact v1
  · cases j with
    | zero =>
      simp at hj
      subst hj
      show S5.1 (Bc + 8) q = nI c
      rw [o5 _ _ (by omega) (by omega)]
      exact v3
    | succ j => simp at hj
  · show q + 1 ≤ 404
    omega
  · show S5.1 (Bc + 9) (14 * k + (0 + 1)) = nI (q + 1)
    rw [y2]
    exact u3
  · show q + (1 + 0) ≤ q + 1
    omega
theorem lclear_run (hr : RRf Bc S.2.2) : ∃ S', f_X2_clearAll (Bc + 6) S = some ((), S') ∧ S'.2 = S.2 ∧ (∀ a i, (a = Bc + 6 → i ≠ 2) → (a < Bc + 8 ∨ Bc + 10 < a) → S'.1 a i = S.1 a i) ∧ S'.1 (Bc + 6) 2 = nI 4 ∧ ∀ k, k < 4 → RLq Bc k (dflt k) 4 S' := by
  unfold f_X2_clearAll
  rw [nmq]
  have r0 : RRf Bc (sI S (Bc + 6) 2 0).2.2 := hr
  obtain ⟨S1, e1, i1, o1, q1, l1⟩ := unt_run (k := 0) (q := 0) (c := 10000) r0 (by decide) (by decide) sI_at
  obtain ⟨S2, e2, i2, o2, q2, l2⟩ := unt_run (k := 1) (q := 1) (c := 10004) (by rw [i1]; exact hr) (by decide) (by decide) q1
  obtain ⟨S3, e3, i3, o3, q3, l3⟩ := unt_run (k := 2) (q := 2) (c := 10000) (by rw [i2, i1]; exact hr) (by decide) (by decide) q2
  obtain ⟨S4, e4, i4, o4, q4, l4⟩ := unt_run (k := 3) (q := 3) (c := 0) (by rw [i3, i2, i1]; exact hr) (by decide) (by decide) q3
  rw [show f_X2_putUntold (Bc + 6) 0 10000 (sI S (Bc + 6) 2 0) = some ((), S1) from e1, bdq, show f_X2_putUntold (Bc + 6) 1 10004 S1 = some ((), S2) from e2, bdq, show f_X2_putUntold (Bc + 6) 2 10000 S2 = some ((), S3) from e3, bdq, show f_X2_putUntold (Bc + 6) 3 0 S3 = some ((), S4) from e4, bdq]
  have z : ([] : List Tp).length ≤ 4 := Nat.zero_le _
  refine ⟨S4, rfl, i4.trans (i3.trans (i2.trans i1)), fun a i z1 z2 => ?_, q4, fun k hk => ?_⟩
  · rw [o4 a i z1 (by omega) (by omega) (by omega), o3 a i z1 (by omega) (by omega) (by omega), o2 a i z1 (by omega) (by omega) (by omega), o1 a i z1 (by omega) (by omega) (by omega), sI_ne (by omega)]
  · rcases (show k = 0 ∨ k = 1 ∨ k = 2 ∨ k = 3 by omega) with rfl | rfl | rfl | rfl
    · refine RLq_up l1 z (by decide) (fun i hi => ?_) (fun i z1 z2 => ?_) ?_
      · rw [o4 _ _ (by omega) (by omega) (by omega) (by omega), o3 _ _ (by omega) (by omega) (by omega) (by omega), o2 _ _ (by omega) (by omega) (by omega) (by omega)]
      · rw [o4 _ _ (by omega) (by omega) (by omega) (by omega), o3 _ _ (by omega) (by omega) (by omega) (by omega), o2 _ _ (by omega) (by omega) (by omega) (by omega)]
      · rw [o4 _ _ (by omega) (by omega) (by omega) (by omega), o3 _ _ (by omega) (by omega) (by omega) (by omega), o2 _ _ (by omega) (by omega) (by omega) (by omega)]
    · refine RLq_up l2 z (by decide) (fun i hi => ?_) (fun i z1 z2 => ?_) ?_
      · rw [o4 _ _ (by omega) (by omega) (by omega) (by omega), o3 _ _ (by omega) (by omega) (by omega) (by omega)]
      · rw [o4 _ _ (by omega) (by omega) (by omega) (by omega), o3 _ _ (by omega) (by omega) (by omega) (by omega)]
      · rw [o4 _ _ (by omega) (by omega) (by omega) (by omega), o3 _ _ (by omega) (by omega) (by omega) (by omega)]
    · refine RLq_up l3 z (by decide) (fun i hi => ?_) (fun i z1 z2 => ?_) ?_
      · rw [o4 _ _ (by omega) (by omega) (by omega) (by omega)]
      · rw [o4 _ _ (by omega) (by omega) (by omega) (by omega)]
      · rw [o4 _ _ (by omega) (by omega) (by omega) (by omega)]
    · exact l4
theorem sclear_run (hr : RRf Bc S.2.2) : ∃ S', f_X5_clearAll (Bc + 12) S = some ((), S') ∧ S'.2 = S.2 ∧ (∀ a i, a ≠ Bc + 13 → (a = Bc + 12 → i = 0 ∨ 5 ≤ i) → S'.1 a i = S.1 a i) ∧ (∀ k, k < 36 → S'.1 (Bc + 13) k = 0) ∧ S'.1 (Bc + 12) 1 = 0 ∧ S'.1 (Bc + 12) 2 = 0 ∧ S'.1 (Bc + 12) 3 = 0 ∧ S'.1 (Bc + 12) 4 = 0 := by
  unfold f_X5_clearAll
  obtain ⟨_, S1, e1, i1, z1, o1⟩ := fill_run (l := 36) (a := Bc + 13) (v := 0) (by decide) (S := S)
  rw [rr_s hr, e1, bdq, nmq, nmq, nmq, nmq]
  refine ⟨_, rfl, i1, fun a i h1 h2 => ?_, fun k hk => ?_, ?_, ?_, ?_, ?_⟩
  · rw [sI_ne (by omega), sI_ne (by omega), sI_ne (by omega), sI_ne (by omega)]
    exact o1 a i (fun q => absurd q h1)
  · rw [sI_ne (by omega), sI_ne (by omega), sI_ne (by omega), sI_ne (by omega)]
    exact z1 k hk
  · rw [sI_ne (by omega), sI_ne (by omega), sI_ne (by omega), sI_at]
  · rw [sI_ne (by omega), sI_ne (by omega), sI_at]
  · rw [sI_ne (by omega), sI_at]
  · rw [sI_at]
theorem bclear_run (hr : RRf Bc S.2.2) : ∃ S', f_X0_clearAll Bc S = some ((), S') ∧ S'.2 = S.2 ∧ (∀ a i, (a < Bc ∨ Bc + 13 < a) → S'.1 a i = S.1 a i) ∧ S'.1 Bc 0 = nI 0 ∧ S'.1 Bc 1 = nI 0 ∧ S'.1 Bc 2 = nI 0 ∧ S'.1 Bc 3 = nI 4 ∧ S'.1 Bc 4 = nI 0 ∧ S'.1 (Bc + 6) 2 = nI 4 ∧ (∀ k, k < 4 → RLq Bc k (dflt k) 4 S') ∧ (∀ k, k < 36 → S'.1 (Bc + 13) k = 0) ∧ S'.1 (Bc + 12) 1 = 0 ∧ S'.1 (Bc + 12) 2 = 0 ∧ S'.1 (Bc + 12) 3 = 0 ∧ S'.1 (Bc + 12) 4 = 0 := by
  unfold f_X0_clearAll
  rw [nmq, nmq, nmq, nmq, nmq]
  have r5 : RRf Bc (sI (sI (sI (sI (sI S Bc 0 0) Bc 1 0) Bc 2 0) Bc 3 4) Bc 4 0).2.2 := hr
  have i5 : (sI (sI (sI (sI (sI S Bc 0 0) Bc 1 0) Bc 2 0) Bc 3 4) Bc 4 0).2 = S.2 := rfl
  have o5 : ∀ a i, a ≠ Bc → (sI (sI (sI (sI (sI S Bc 0 0) Bc 1 0) Bc 2 0) Bc 3 4) Bc 4 0).1 a i = S.1 a i := fun a i z => by rw [sI_ne (Or.inl z), sI_ne (Or.inl z), sI_ne (Or.inl z), sI_ne (Or.inl z), sI_ne (Or.inl z)]
  have k0 : (sI (sI (sI (sI (sI S Bc 0 0) Bc 1 0) Bc 2 0) Bc 3 4) Bc 4 0).1 Bc 0 = 0 := by rw [sI_ne (by omega), sI_ne (by omega), sI_ne (by omega), sI_ne (by omega), sI_at]
  have k1 : (sI (sI (sI (sI (sI S Bc 0 0) Bc 1 0) Bc 2 0) Bc 3 4) Bc 4 0).1 Bc 1 = 0 := by rw [sI_ne (by omega), sI_ne (by omega), sI_ne (by omega), sI_at]
  have k2 : (sI (sI (sI (sI (sI S Bc 0 0) Bc 1 0) Bc 2 0) Bc 3 4) Bc 4 0).1 Bc 2 = 0 := by rw [sI_ne (by omega), sI_ne (by omega), sI_at]
  have k3 : (sI (sI (sI (sI (sI S Bc 0 0) Bc 1 0) Bc 2 0) Bc 3 4) Bc 4 0).1 Bc 3 = 4 := by rw [sI_ne (by omega), sI_at]
  have k4 : (sI (sI (sI (sI (sI S Bc 0 0) Bc 1 0) Bc 2 0) Bc 3 4) Bc 4 0).1 Bc 4 = 0 := sI_at
  revert r5 i5 o5 k0 k1 k2 k3 k4
  generalize sI (sI (sI (sI (sI S Bc 0 0) Bc 1 0) Bc 2 0) Bc 3 4) Bc 4 0 = S5
  intro r5 i5 o5 k0 k1 k2 k3 k4
  obtain ⟨S6, e6, i6, o6, q6, l6⟩ := lclear_run r5
  have r6 : RRf Bc S6.2.2 := by rw [i6]; exact r5
  obtain ⟨S8, e8, i8, o8, z8, y1, y2, y3, y4⟩ := sclear_run r6
  rw [rr_b10 r5, e6, bdq, rr_b11 r6, e8, bdq]
  have oo : ∀ i, S8.1 Bc i = S5.1 Bc i := fun i => (o8 _ _ (by omega) (by omega)).trans (o6 _ _ (by omega) (by omega))
  refine ⟨S8, rfl, i8.trans (i6.trans i5), fun a i z => ?_, (oo _).trans k0, (oo _).trans k1, (oo _).trans k2, (oo _).trans k3, (oo _).trans k4, (o8 _ _ (by omega) (by omega)).trans q6, fun k hk => RLq_set (l6 k hk) (Nat.le_refl _) (fun i => o8 _ _ (by omega) (by omega)) (fun i => o8 _ _ (by omega) (by omega)) (fun i => o8 _ _ (by omega) (by omega)), z8, y1, y2, y3, y4⟩
  rw [o8 a i (by omega) (by omega), o6 a i (by omega) (by omega), o5 a i (by omega)]
theorem RB_30 {X : Nat} : uu (RB B B1 C) 30 1 X = RB B B1 X := by
  funext a k
  unfold uu RB
  by_cases h : a = 30
  · subst h
    by_cases hk : k = 1
    · subst hk; simp
    · simp [hk]
  · simp [h]
theorem RB_go : uu (uu (uu (uu (RB B B1 C) 0 4 B) 0 3 B1) 39 0 B1) 40 0 B1 = RB B1 B C := by
  funext a k
  unfold uu RB
  by_cases h40 : a = 40
  · subst h40
    by_cases hk : k = 0
    · subst hk; simp
    · simp [hk]
  by_cases h39 : a = 39
  · subst h39
    by_cases hk : k = 0
    · subst hk; simp
    · simp [hk]
  by_cases h0 : a = 0
  · subst h0
    by_cases h3 : k = 3
    · subst h3; simp
    · by_cases h4 : k = 4
      · subst h4; simp
      · simp [h3, h4]
  · simp [h40, h39, h0]
theorem c_begin (hB : (B = 2 ∧ B1 = 16) ∨ (B = 16 ∧ B1 = 2)) (hr : S.2.2 = RB B B1 C) (hby : ∀ i, i < len → isB (v i)) (hP : RPc len v S) : ∃ S0, f_X4_readText 30 (nI len) B1 S = b_X4_readText_42 FU 30 (nI 0) S0 ∧ S0.2.2 = RB B B1 B1 ∧ (∀ a i, (a = 30 → i < 2) → (a = 31 → i ≠ 4) → a ≠ 32 → a ≠ 33 → (a < B1 ∨ B1 + 13 < a) → S0.1 a i = S.1 a i) ∧ KCs v len B1 (.inr (0, none)) A0 S0 ∧ S0.1 (B1 + 12) 1 = 0 ∧ S0.1 (B1 + 12) 2 = 0 ∧ S0.1 (B1 + 12) 3 = 0 ∧ S0.1 (B1 + 12) 4 = 0 ∧ ∀ a i, a ≠ 34 → S0.2.1 a i = S.2.1 a i := by
  obtain ⟨hl, p1, p2⟩ := hP
  have rfc : RFC B S.2.2 := ⟨B1, C, hr⟩
  have hmn : mnI (nI len) (Int32.ofNat 2000) = nI len := by
    unfold mnI
    rw [if_neg (show ¬ Int32.ofNat 2000 < nI len from nlt_l (a := 2000) (by omega) (by omega) hl)]
  have tb : TB v len (sI S 31 4 (nI len)) := ⟨hl, sI_at, fun i hi => (sI_ne (by omega)).trans (p2 i hi)⟩
  have rf1 : RFC B (sI S 31 4 (nI len)).2.2 := rfc
  obtain ⟨_, S2, e2, t2, k2⟩ := split_loop hby rf1 tb 401 FU 0 0 (sI S 31 4 (nI len)) (by decide) (by decide) ETk.rf (Nat.zero_le _) rfl (fun i hi => absurd hi (Nat.not_lt_zero _)) (fun t ht => absurd ht (Nat.not_lt_zero _))
  have i3 : (sR S2 30 1 B1).2.2 = RB B B1 B1 := by
    show uu S2.2.2 30 1 B1 = _
    rw [k2.1, show (sI S 31 4 (nI len)).2.2 = RB B B1 C from hr]
    exact RB_30
  have rr3 : RRf B1 (sR S2 30 1 B1).2.2 := ⟨by omega, B, B1, i3⟩
  obtain ⟨S4, e4, i4, o4, b0, b1, b2, b3, b4, bq, bl, bz, y1, y2, y3, y4⟩ := bclear_run rr3
  unfold f_X4_readText f_X6_split
  rw [rc_30 rfc, nmq, hmn, show b_X6_split_17 FU 31 0 0 (sI S 31 4 (nI len)) = some (_, S2) from e2, bdq, nmq, rr_301 rr3, e4, bdq, nmq, nmq, nmq, nmq]
  have oo : ∀ a i, a ≠ 30 → (sI (sI (sI (sI S4 30 2 0) 30 3 0) 30 4 (-1)) 30 5 0).1 a i = S4.1 a i := fun a i z => by rw [sI_ne (Or.inl z), sI_ne (Or.inl z), sI_ne (Or.inl z), sI_ne (Or.inl z)]
  have o6 : ∀ a i, (a = 30 → i < 2) → (a = 31 → i ≠ 4) → a ≠ 32 → a ≠ 33 → (a < B1 ∨ B1 + 13 < a) → (sI (sI (sI (sI S4 30 2 0) 30 3 0) 30 4 (-1)) 30 5 0).1 a i = S.1 a i := fun a i z1 z2 z3 z4 z5 => by
    rw [sI_ne (by omega), sI_ne (by omega), sI_ne (by omega), sI_ne (by omega), o4 a i z5]
    show S2.1 a i = S.1 a i
    rw [k2.2.1 a i z3 z4, sI_ne (by omega)]
  have ttk : TKc v len 401 (sI (sI (sI (sI S4 30 2 0) 30 3 0) 30 4 (-1)) 30 5 0) := fun t z1 z2 z3 => by
    obtain ⟨a1, a2, a3⟩ := t2 t z1 z2 z3
    refine ⟨?_, ?_, fun q => ?_⟩
    · rw [oo _ _ (by omega), o4 _ _ (by omega)]; exact a1
    · rw [oo _ _ (by omega), o4 _ _ (by omega)]; exact a2
    · show S4.2.1 34 t = _
      rw [i4]
      exact a3 q
  refine ⟨_, rfl, ?_, o6, ⟨?_, ⟨⟨Nat.zero_le _, ?_, ?_, fun i hi => absurd hi (Nat.not_lt_zero _), ttk, ?_⟩, ?_⟩, ⟨(oo _ _ (by omega)).trans b0, (oo _ _ (by omega)).trans b1, (oo _ _ (by omega)).trans b2⟩, fun k hk => absurd hk (Nat.not_lt_zero _), ⟨4, (oo _ _ (by omega)).trans bq, by decide, fun k hk => RLq_set (bl k hk) (Nat.le_refl _) (fun i => oo _ _ (by omega)) (fun i => oo _ _ (by omega)) (fun i => oo _ _ (by omega))⟩, fun _ => ⟨(oo _ _ (by omega)).trans b3, (oo _ _ (by omega)).trans b4, fun p hp => absurd hp (Nat.not_lt_zero _), fun e he => absurd he (Nat.not_lt_zero _), fun k hk => (oo _ _ (by omega)).trans (bz k hk)⟩⟩, (oo _ _ (by omega)).trans y1, (oo _ _ (by omega)).trans y2, (oo _ _ (by omega)).trans y3, (oo _ _ (by omega)).trans y4, fun a i z => ?_⟩
  · show S4.2.2 = _
    rw [i4]
    exact i3
  · show RRf B1 S4.2.2
    rw [i4]
    exact rr3
  · rw [sI_ne (by omega), sI_ne (by omega), sI_ne (by omega), sI_at]; rfl
  · rw [sI_ne (by omega), sI_ne (by omega), sI_at]
  · rw [sI_ne (by omega), sI_at]
  · exact sI_at
  · show S4.2.1 a i = S.2.1 a i
    rw [i4]
    exact k2.2.2 a i z
end CRD
section CRE
variable {B B1 T : Nat} {g : GS} {S S' : St}
/-- nothing was read -/
theorem RC_fail {C : Nat} {p : Int32} (h : RC B T g S) (hB : (B = 2 ∧ B1 = 16) ∨ (B = 16 ∧ B1 = 2)) (hr : S'.2.2 = RB B B1 C) (ho : ∀ a i, (a = 30 → i < 2) → (a = 31 → i ≠ 4) → a ≠ 32 → a ≠ 33 → (a < B1 ∨ B1 + 13 < a) → (a = 0 → i ≠ 1) → S'.1 a i = S.1 a i) (h01 : S'.1 0 1 = 0) (hp : S'.1 30 4 = p) : RC B (T + 60) (gB g, gS g, (gHl g, gHf g), (gLm g, gLf g), (gTn g, gTd g), (0, gPt g), p) S' := by
  refine ⟨⟨B1, C, hr, hB⟩, CBk_obs h.bk (fun i hi => ho _ _ (by omega) (by omega) (by omega) (by omega) (by omega) (by omega)) (fun a i ha => ho _ _ (by omega) (by omega) (by omega) (by omega) (by omega) (by omega)), RS_set h.sea (fun i => ho _ _ (by omega) (by omega) (by omega) (by omega) (by omega) (by omega)) (fun i => ho _ _ (by omega) (by omega) (by omega) (by omega) (by omega) (by omega)), HC_set h.hst (ho _ _ (by omega) (by omega) (by omega) (by omega) (by omega) (by omega)) (ho _ _ (by omega) (by omega) (by omega) (by omega) (by omega) (by omega)) (fun a i h1 h2 => ho _ _ (by omega) (by omega) (by omega) (by omega) (by omega) (by omega)), LC_set h.slt (ho _ _ (by omega) (by omega) (by omega) (by omega) (by omega) (by omega)) (fun a i h1 h2 => ho _ _ (by omega) (by omega) (by omega) (by omega) (by omega) (by omega)), RTc_set h.tld (ho _ _ (by omega) (by omega) (by omega) (by omega) (by omega) (by omega)) (fun a i h1 h2 => ho _ _ (by omega) (by omega) (by omega) (by omega) (by omega) (by omega)), ⟨Nat.zero_le _, h01, fun i hi => absurd hi (Nat.not_lt_zero _)⟩, hp, wfG_le h.wf (by omega)⟩
def bgS (A : RA) : ASea := (rF A, 0, 0, 0, 0)
def gNew (g : GS) (A : RA) : GS := (rB A, bgS A, (0, gHf g), (0, gLf g), (0, gTd g), (0, gPt g), -1)
theorem wfG_new {T' : Nat} {v : Nat → Int32} {len : Nat} {A : RA} (hW : WA v len none A) : wfG T' (gNew g A) := by
  obtain ⟨w1, w2, w3, w4, w5, w6⟩ := hW
  obtain ⟨r1, r2, r3, r4, r5, r6, r7⟩ := w6 rfl
  refine ⟨⟨w1, w2, w3, r1, r2, r3, w5⟩, ⟨Nat.zero_le _, ⟨Nat.zero_le _, (show 0 < 64 by decide), (show 0 < 16 by decide), (show 0 < 256 by decide)⟩, r4, fun i _ => Nat.zero_testBit i, fun i _ => Nat.zero_testBit i, fun i _ => Nat.zero_testBit i⟩, ⟨Nat.zero_le _, fun i hi => absurd hi (Nat.not_lt_zero _)⟩, by show 0 < 8; decide, fun i _ ht => ?_⟩
  have ht : (0 : Nat).testBit i = true := ht
  rw [Nat.zero_testBit] at ht
  cases ht
theorem RC_new {v : Nat → Int32} {len t : Nat} {A : RA} (hx : ∃ nx, nx < 40 ∧ S.1 41 1 = nI nx) (hB : (B = 2 ∧ B1 = 16) ∨ (B = 16 ∧ B1 = 2)) (hr : S.2.2 = RB B B1 B1) (hW : WA v len none A) (hK : KCs v len B1 (.inr (t, none)) A S) (y1 : S.1 (B1 + 12) 1 = 0) (y2 : S.1 (B1 + 12) 2 = 0) (y3 : S.1 (B1 + 12) 3 = 0) (y4 : S.1 (B1 + 12) 4 = 0) (h01 : S.1 0 1 = 0) : RN (f_X9_goOnFromSpareBook 0 S) (fun _ S' => RC B1 (T + 60) (gNew g A) S' ∧ (∀ a i, 140 ≤ a → S'.1 a i = S.1 a i) ∧ S'.2.1 = S.2.1 ∧ S'.2.2 = RB B1 B B1) := by
  obtain ⟨-, hs, ⟨b0, b1, b2⟩, -, ⟨q, q1, q2, q3⟩, hc⟩ := hK
  obtain ⟨c1, c2, c3, c4, c5⟩ := hc rfl
  unfold f_X9_goOnFromSpareBook
  rw [nmq, nmq, nmq, nmq]
  have e4 : (sR (sR S 0 4 (S.2.2 0 3)) 0 3 (S.2.2 0 4)).2.2 0 7 = 39 := by
    show uu (uu S.2.2 0 4 (S.2.2 0 3)) 0 3 (S.2.2 0 4) 0 7 = 39
    rw [hr]
    rfl
  have e3 : (sR (sR S 0 4 (S.2.2 0 3)) 0 3 (S.2.2 0 4)).2.2 0 3 = B1 := by
    show uu (uu S.2.2 0 4 (S.2.2 0 3)) 0 3 (S.2.2 0 4) 0 3 = B1
    rw [hr]
    rfl
  rw [e4, e3]
  have e5 : (sR (sR (sR S 0 4 (S.2.2 0 3)) 0 3 (S.2.2 0 4)) 39 0 B1).2.2 0 8 = 40 := by
    show uu (uu (uu S.2.2 0 4 (S.2.2 0 3)) 0 3 (S.2.2 0 4)) 39 0 B1 0 8 = 40
    rw [hr]
    rfl
  have e6 : (sR (sR (sR S 0 4 (S.2.2 0 3)) 0 3 (S.2.2 0 4)) 39 0 B1).2.2 0 3 = B1 := by
    show uu (uu (uu S.2.2 0 4 (S.2.2 0 3)) 0 3 (S.2.2 0 4)) 39 0 B1 0 3 = B1
    rw [hr]
    rfl
  rw [e5, e6]
  have i4 : (sR (sR (sR (sR S 0 4 (S.2.2 0 3)) 0 3 (S.2.2 0 4)) 39 0 B1) 40 0 B1).2.2 = RB B1 B B1 := by
    show uu (uu (uu (uu S.2.2 0 4 (S.2.2 0 3)) 0 3 (S.2.2 0 4)) 39 0 B1) 40 0 B1 = _
    rw [hr, rb_0_3, rb_0_4]
    exact RB_go
  have o4 : (sR (sR (sR (sR S 0 4 (S.2.2 0 3)) 0 3 (S.2.2 0 4)) 39 0 B1) 40 0 B1).1 = S.1 := rfl
  have l4 : (sR (sR (sR (sR S 0 4 (S.2.2 0 3)) 0 3 (S.2.2 0 4)) 39 0 B1) 40 0 B1).2.1 = S.2.1 := rfl
  revert i4 o4 l4
  generalize sR (sR (sR (sR S 0 4 (S.2.2 0 3)) 0 3 (S.2.2 0 4)) 39 0 B1) 40 0 B1 = S4
  intro i4 o4 l4
  have rf4 : RFC B1 S4.2.2 := ⟨B, B1, i4⟩
  have e11 : S4.2.2 B1 11 = B1 + 12 := by
    rw [i4]
    rcases hB with ⟨h1, h2⟩ | ⟨h1, h2⟩ <;> subst h1 h2 <;> rfl
  have e12 : S4.2.2 (B1 + 12) 0 = B1 + 12 + 1 := by
    rw [i4]
    rcases hB with ⟨h1, h2⟩ | ⟨h1, h2⟩ <;> subst h1 h2 <;> rfl
  have rs : RS (B1 + 12) (bgS A) S4 := ⟨fun k hk => by rw [o4]; exact c5 k hk, by rw [o4]; exact y1, by rw [o4]; exact y2, by rw [o4]; exact y3, by rw [o4]; exact y4⟩
  rw [rc_5 rf4, rc_3 rf4, e11]
  refine RN_bd (copy_run (a := 35) (b := B1 + 12) (rc_35 rf4) e12 (by omega) (by omega) (by omega) rs) (fun _ S5 h5 => ?_)
  obtain ⟨i5, o5, -, rs5⟩ := h5
  have rf5 : RFC B1 S5.2.2 := by rw [i5]; exact rf4
  unfold f_X1_clearAll f_X7_clearAll
  rw [rc_9 rf5, nmq, bdq, nmq]
  have rf9 : RFC B1 (sI (sI S5 41 2 0) 0 11 0).2.2 := rf5
  rw [rc_13 rf9, nmq, bdq]
  have oo : ∀ a i, a ≠ 35 → a ≠ 36 → (a = 41 → i ≠ 2) → (a = 0 → i ≠ 11) → (a = 133 → i ≠ 4) → (sI (sI (sI S5 41 2 0) 0 11 0) 133 4 0).1 a i = S.1 a i := fun a i z1 z2 z3 z4 z5 => by
    rw [sI_ne (by omega), sI_ne (by omega), sI_ne (by omega), o5 a i z1 z2, o4]
  obtain ⟨nx, x1, x2⟩ := hx
  refine RN_some ⟨⟨⟨B, B1, ?_, by omega⟩, ⟨(oo _ _ (by omega) (by omega) (by omega) (by omega) (by omega)).trans b0, (oo _ _ (by omega) (by omega) (by omega) (by omega) (by omega)).trans b1, (oo _ _ (by omega) (by omega) (by omega) (by omega) (by omega)).trans b2, (oo _ _ (by omega) (by omega) (by omega) (by omega) (by omega)).trans c1, (oo _ _ (by omega) (by omega) (by omega) (by omega) (by omega)).trans c2, fun p hp => (oo _ _ (by omega) (by omega) (by omega) (by omega) (by omega)).trans (c3 p hp), fun e he => ⟨(oo _ _ (by omega) (by omega) (by omega) (by omega) (by omega)).trans (c4 e he).1, (oo _ _ (by omega) (by omega) (by omega) (by omega) (by omega)).trans (c4 e he).2⟩, fun k hk => ?_⟩, RS_set rs5 (fun i => by rw [sI_ne (by omega), sI_ne (by omega), sI_ne (by omega)]) (fun i => by rw [sI_ne (by omega), sI_ne (by omega), sI_ne (by omega)]), ⟨nx, x1, (oo _ _ (by omega) (by omega) (by omega) (by omega) (by omega)).trans x2, ?_, fun i hi => absurd hi (Nat.not_lt_zero _)⟩, ⟨?_, fun i _ ht => ?_⟩, ⟨Nat.zero_le _, sI_at, fun i hi => absurd hi (Nat.not_lt_zero _)⟩, ⟨Nat.zero_le _, (oo _ _ (by omega) (by omega) (by omega) (by omega) (by omega)).trans h01, fun i hi => absurd hi (Nat.not_lt_zero _)⟩, (oo _ _ (by omega) (by omega) (by omega) (by omega) (by omega)).trans hs.1.2.2.2.2.2, wfG_new hW⟩, fun a i z => oo a i (by omega) (by omega) (by omega) (by omega) (by omega), ?_, ?_⟩
  · show S5.2.2 = _
    rw [i5]
    exact i4
  · obtain ⟨r1, p, r2, -⟩ := q3 k hk
    exact RLc_set ⟨r1, p, r2⟩ (fun i => oo _ _ (by omega) (by omega) (by omega) (by omega) (by omega)) (fun i => oo _ _ (by omega) (by omega) (by omega) (by omega) (by omega)) (fun i => oo _ _ (by omega) (by omega) (by omega) (by omega) (by omega))
  · rw [sI_ne (by omega), sI_ne (by omega), sI_at]
    rfl
  · rw [sI_ne (by omega), sI_at]
    rfl
  · have ht : (0 : Nat).testBit i = true := ht
    rw [Nat.zero_testBit] at ht
    cases ht
  · show S5.2.1 = S.2.1
    rw [i5]
    exact l4
  · show S5.2.2 = _
    rw [i5]
    exact i4
end CRE

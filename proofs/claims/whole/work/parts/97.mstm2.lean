/-! the reference reads PEOPLE, STRANDS, the pier, the seed -/
section MSTN
variable {v : Nat → Int32} {len sd : Nat} {S S' : St}
theorem peF_o {A : RA} {x y : Int32} {k : Nat} (h : k ≠ 22 + bP (rB A) ∧ k ≠ 16 + bP (rB A)) : peF A x y k = rF A k := by
  unfold peF
  rw [if_neg h.1, if_neg h.2]
theorem peF_16 {A : RA} {x y : Int32} : peF A x y (16 + bP (rB A)) = x := by
  unfold peF
  rw [if_neg (by omega), if_pos rfl]
theorem peF_22 {A : RA} {x y : Int32} : peF A x y (22 + bP (rB A)) = y := by
  unfold peF
  rw [if_pos rfl]
theorem pe_dead {A : RA} {t : Nat} {mk : Mk} {e : Nat × Nat} (h : pe1 v len A t mk = .inl e) : pe6 v len A t mk = .inl e := by
  unfold pe6 pe5 pe4 pe3 pe2
  rw [h]
  rfl
theorem pe_tk {A : RA} {t t' : Nat} {mk mk' : Mk} (h : pe6 v len A t mk = .inr (t', mk')) : tkn (pe1 v len A t mk) < t' := by
  obtain ⟨t5, h5, k5, l5, e5, -⟩ := tk_inr h
  obtain ⟨t4, m4, h4, k4, l4, e4, u4, c4⟩ := nu_inr h5
  obtain ⟨t3, m3, h3, k3, l3, e3, u3, c3⟩ := nu_inr h4
  obtain ⟨t2, m2, h2, k2, l2, e2, u2, c2⟩ := nu_inr h3
  obtain ⟨t1, m1, h1, k1, l1, e1, d1⟩ := adv_inr h2
  have u1 : tkn (pe1 v len A t mk) = t1 := by rw [h1]; rfl
  omega
theorem m_person {A : RA} {t : Nat} {mk : Mk} (hlen : len ≤ 2000) (hsd : sd < 2) (hk0 : kdT v len t = 1) (hW : WA v len mk A) (h : KMs v len sd (.inr (t, mk)) A S) : RN (f_X10_tellOne 140 S) (fun _ S' => FR sd S S' ∧ KMs v len sd (pe6 v len A t mk) (peA v len A t mk) S') := by
  obtain ⟨hr, hs, c19, c12, c20, ⟨b0, b1, b2⟩, hN, ⟨q, br, q1, q2, q3, q4, q5⟩, hc⟩ := h
  obtain ⟨w1, w2, w3, w4, w5, w6⟩ := hW
  have ht := hs.1.1
  have hrn : rN A = bM (rB A) + bP (rB A) := rfl
  obtain ⟨S4, e4, f4, s4⟩ := room_S (has := bP (rB A)) (most := 6) hr hs hk0 (by decide) (by decide) w2 (by decide)
  have r4 := FN_rr f4 hr
  unfold f_X10_tellOne
  rw [hs.1.2.1, ix_nI (show t < 403 by omega) (by decide), obq, nmq, rq_5 hr, hs.1.kd, hk0, if_neg (show ¬ nI (kmN 1) = 20 by decide), if_pos (show nI (kmN 1) = 21 by decide), c19, ix_nI hsd (by decide), obq, rq_25 hr, b1, show f_X10_roomFor 140 (nI (bP (rB A))) 6 S = some ((), S4) from e4, bdq]
  cases h1 : pe1 v len A t mk with
  | inl e =>
    have s4' : SRm v len (pe1 v len A t mk) S4 := s4
    rw [h1] at s4'
    obtain ⟨f, u⟩ := e
    have s4'' : DDm f (psT v len u) S4 := s4'
    rw [if_neg (by rw [s4''.1]; exact f_nz s4''.2.2.1), pe_dead h1]
    exact RN_some ⟨f4.fr, r4, s4', trivial⟩
  | inr w1' =>
    obtain ⟨t1, mk1⟩ := w1'
    have s4' : SRm v len (pe1 v len A t mk) S4 := s4
    have s4l := s4'
    rw [h1] at s4l
    have hM : bP (rB A) < 6 := by
      obtain ⟨t0, g0, -, -, -, -⟩ := tk_inr h1
      have := (rmS_inr g0).1
      simpa using this
    obtain ⟨u, S3, e3, hu, f3, s3, l3⟩ := named_S hlen r4 s4' w4 (by omega) ((f4.2 _ _ (by omega)).trans c20) (fun k hk => by rw [f4.1]; exact ⟨(hN k hk).1, (f4.2 _ _ (by omega)).trans (hN k hk).2⟩)
    have g3 := f4.tr f3
    have r3 := FN_rr g3 hr
    obtain ⟨x5, S5, e5, f5, s5, l5⟩ := bounded_S (lo := 0) (hi := 9) hlen r3 s3 (by decide) (by decide)
    have g5 := g3.tr f5
    have r8 : RFM (sI S5 153 (6 * sd + bP (rB A)) x5).2.2 := (FN_rr g5 hr : RFM S5.2.2)
    have s8 : SRm v len (pe3 v len A t mk) (sI S5 153 (6 * sd + bP (rB A)) x5) := SRm_o s5 rfl (fun a k ha => sI_ne (by omega))
    obtain ⟨x9, S9, e9, f9, s9, l9⟩ := bounded_S (lo := 0) (hi := 9) hlen r8 s8 (by decide) (by decide)
    have r12 : RFM (sI S9 154 (6 * sd + bP (rB A)) x9).2.2 := (FN_rr f9 r8 : RFM S9.2.2)
    have s12 : SRm v len (pe4 v len A t mk) (sI S9 154 (6 * sd + bP (rB A)) x9) := SRm_o s9 rfl (fun a k ha => sI_ne (by omega))
    obtain ⟨x17, S17, e17, f17, s17, l17⟩ := bounded_S (lo := 1) (hi := 99) hlen r12 s12 (by decide) (by decide)
    have r20 : RFM (sI S17 155 (6 * sd + bP (rB A)) x17).2.2 := (FN_rr f17 r12 : RFM S17.2.2)
    have s20 : SRm v len (pe5 v len A t mk) (sI S17 155 (6 * sd + bP (rB A)) x17) := SRm_o s17 rfl (fun a k ha => sI_ne (by omega))
    have i20 : (sI S17 155 (6 * sd + bP (rB A)) x17).2 = S.2 := f17.1.trans (f9.1.trans g5.1)
    have o20 : ∀ a k, (a = 140 → k < 11 ∨ k = 12 ∨ 16 < k) → (a = 153 ∨ a = 154 ∨ a = 155 → k ≠ 6 * sd + bP (rB A)) → (sI S17 155 (6 * sd + bP (rB A)) x17).1 a k = S.1 a k := fun a k z1 z2 => by
      rw [sI_ne (by omega), f17.2 a k z1, sI_ne (by omega), f9.2 a k z1, sI_ne (by omega), g5.2 a k z1]
    have v0 : (sI S17 155 (6 * sd + bP (rB A)) x17).1 153 (6 * sd + bP (rB A)) = x5 := by
      rw [sI_ne (by omega), f17.2 _ _ (by omega), sI_ne (by omega), f9.2 _ _ (by omega), sI_at]
    have v4 : (sI S17 155 (6 * sd + bP (rB A)) x17).1 154 (6 * sd + bP (rB A)) = x9 := by
      rw [sI_ne (by omega), f17.2 _ _ (by omega), sI_at]
    have v12 : (sI S17 155 (6 * sd + bP (rB A)) x17).1 155 (6 * sd + bP (rB A)) = x17 := sI_at
    obtain ⟨S22, e22, s22, i22, o22, p22, a22⟩ := ends_S (at' := nI (10 + bP (rB A))) r20 s20 hu (show rN A < 10 by omega) ((o20 _ _ (by omega) (by omega)).trans c20)
    have k19 : S4.1 140 19 = nI sd := (f4.2 _ _ (by omega)).trans c19
    have k150 : S4.1 152 sd = nI (bP (rB A)) := (f4.2 _ _ (by omega)).trans b1
    unfold f_X10_tellPerson
    rw [if_pos s4l.1.2.2.1, k19, ix_nI hsd (by decide), obq, rq_25 r4, k150, nmq, show (6 : Int32) * nI sd + nI (bP (rB A)) = nI (6 * sd + bP (rB A)) by rw [show (6 : Int32) = nI 6 from rfl, pk_mul, nI_add], e3, bdq, show f_X10_bounded 140 0 9 S3 = some (x5, S5) from e5, bdq, ix_nI (show 6 * sd + bP (rB A) < 12 by omega) (by decide), obq, nmq, rq_26 r3, show f_X10_bounded 140 0 9 (sI S5 153 (6 * sd + bP (rB A)) x5) = some (x9, S9) from e9, bdq, obq, nmq, rq_27 r8, show f_X10_bounded 140 1 99 (sI S9 154 (6 * sd + bP (rB A)) x9) = some (x17, S17) from e17, bdq, obq, nmq, rq_28 r12, (o20 140 19 (by omega) (by omega)).trans c19, ix_nI hsd (by decide), obq, rq_25 r20, (o20 152 sd (by omega) (by omega)).trans b1, show (10 : Int32) + nI (bP (rB A)) = nI (10 + bP (rB A)) from nI_add 10 _, e22, bdq]
    have o22' : ∀ a k, (a = 140 → k < 11 ∨ k = 12 ∨ (16 < k ∧ k ≠ 20)) → a ≠ 149 → (a = 153 ∨ a = 154 ∨ a = 155 → k ≠ 6 * sd + bP (rB A)) → S22.1 a k = S.1 a k := fun a k z1 z2 z3 => (o22 a k z1 z2).trans (o20 a k (by omega) z3)
    have fr22 : FR sd S S22 := ⟨i22.trans (by rw [i20]), fun a k z => (p22 a k z).trans (by rw [i20]), fun a k z => o22' a k (by unfold okM at z; omega) (by unfold okM at z; omega) (by unfold okM at z; omega)⟩
    have r22 : RFM S22.2.2 := by rw [i22]; exact r20
    cases hst : pe6 v len A t mk with
    | inl e =>
      have s22' : SRm v len (pe6 v len A t mk) S22 := s22
      rw [hst] at s22'
      obtain ⟨f, u⟩ := e
      have s22'' : DDm f (psT v len u) S22 := s22'
      rw [if_neg (by rw [s22''.1]; exact f_nz s22''.2.2.1), bdq]
      exact RN_some ⟨fr22, r22, s22', trivial⟩
    | inr w =>
      obtain ⟨t', mk'⟩ := w
      have s22' : SRm v len (pe6 v len A t mk) S22 := s22
      rw [hst] at s22'
      obtain ⟨m1, m2, m3, m4, m5, m6, m7, m8, m10⟩ := pe_inr hst
      obtain ⟨a1, a2, a3, a4⟩ := a22 ⟨t', mk', hst⟩
      have hu1 : u = tkn (pe1 v len A t mk) := l3 m5
      have hut : u < t' := by rw [hu1]; exact pe_tk hst
      have k22 : S22.1 140 19 = nI sd := (o22' _ _ (by omega) (by omega) (by omega)).trans c19
      have kk : S22.1 152 sd = nI (bP (rB A)) := (o22' _ _ (by omega) (by omega) (by omega)).trans b1
      rw [if_pos s22'.1.2.2.1, nmq, k22, ix_nI hsd (by decide), obq, obq, nmq, rq_25 r22, kk, nI_1, bdq]
      have oo : ∀ a k, (a = 152 → k ≠ sd) → (sI S22 152 sd (nI (bP (rB A) + 1))).1 a k = S22.1 a k := fun a k z => sI_ne (by omega)
      have o7 : ∀ a k, (a = 140 → k < 11 ∨ k = 12 ∨ (16 < k ∧ k ≠ 20)) → a ≠ 149 → (a = 152 → k ≠ sd) → (a = 153 ∨ a = 154 ∨ a = 155 → k ≠ 6 * sd + bP (rB A)) → (sI S22 152 sd (nI (bP (rB A) + 1))).1 a k = S.1 a k := fun a k z1 z2 z3 z4 => (oo a k z3).trans (o22' a k z1 z2 z4)
      refine RN_some ⟨fr22.tr ⟨rfl, fun _ _ _ => rfl, fun a k z => oo a k (by unfold okM at z; omega)⟩, r22, SRm_o s22' rfl (fun a k z => oo a k (by omega)), ?_⟩
      refine ⟨(o7 _ _ (by omega) (by omega) (by omega) (by omega)).trans c19, (o7 _ _ (by omega) (by omega) (by omega) (by omega)).trans c12, ?_, ⟨(o7 _ _ (by omega) (by omega) (by omega) (by omega)).trans b0, sI_at, (o7 _ _ (by omega) (by omega) (by omega) (by omega)).trans b2⟩, ?_, ⟨q, br, (o7 _ _ (by omega) (by omega) (by omega) (by omega)).trans q1, by omega, (o7 _ _ (by omega) (by omega) (by omega) (by omega)).trans q3, by omega, fun k hk => RLr_set (q5 k hk) (fun a i z1 z2 => o7 _ _ (by omega) (by omega) (by omega) (by omega))⟩, fun hn => ?_⟩
      · rw [oo _ _ (by omega), a1]
        show nI (rN A + 1) = nI (bM (rB A) + (bP (rB A) + 1))
        congr 1
      · refine NMm_new (S' := sI S22 152 sd (nI (bP (rB A) + 1))) hN rfl rfl (show bM (rB A) + (bP (rB A) + 1) = bM (rB A) + bP (rB A) + 1 by omega) ?_ ((oo _ _ (by omega)).trans a3) (fun k hk => ⟨((a4 k hk).1).trans (by rw [i20]), ((oo _ _ (by omega)).trans (a4 k hk).2).trans (o20 _ _ (by omega) (by omega))⟩)
        show S22.2.1 148 (rN A) = _
        rw [a2, ← hu1, ← p22 146 u (by decide)]
        exact LVm_146 s22'.1 hut (by rw [hu1]; exact m4)
      · obtain ⟨c1, c2, c3, c4, c5⟩ := hc (m10 hn).1
        refine ⟨(o7 _ _ (by omega) (by omega) (by omega) (by omega)).trans c1, (o7 _ _ (by omega) (by omega) (by omega) (by omega)).trans c2, fun p hp => ?_, fun e he => ?_, fun m hm => ?_⟩
        · have hp : p < bP (rB A) + 1 := hp
          show _ = nI (updN (bWt (rB A)) (bP (rB A)) _ p) ∧ _ = peF A _ _ (16 + p) ∧ _ = peF A _ _ (22 + p)
          by_cases em : p = bP (rB A)
          · rw [em, updN_at, peF_16, peF_22, oo _ _ (by omega), oo _ _ (by omega), oo _ _ (by omega), o22 _ _ (by omega) (by omega), o22 _ _ (by omega) (by omega), o22 _ _ (by omega) (by omega), v0, v4, v12]
            exact ⟨l17 m8, l5 m6, l9 m7⟩
          · rw [updN_ne em, peF_o (by omega), peF_o (by omega), o7 _ _ (by omega) (by omega) (by omega) (by omega), o7 _ _ (by omega) (by omega) (by omega) (by omega), o7 _ _ (by omega) (by omega) (by omega) (by omega)]
            exact c3 p (by omega)
        · have he : e < bS (rB A) := he
          rw [o7 _ _ (by omega) (by omega) (by omega) (by omega), o7 _ _ (by omega) (by omega) (by omega) (by omega), o7 _ _ (by omega) (by omega) (by omega) (by omega)]
          show _ ∧ _ ∧ _ = peF A _ _ (28 + e)
          rw [peF_o (by omega)]
          exact c4 e he
        · have hm : m < bM (rB A) := hm
          show _ = peF A _ _ m ∧ _ = peF A _ _ (4 + m) ∧ _ = peF A _ _ (8 + m) ∧ _ = peF A _ _ (12 + m)
          rw [peF_o (by omega), peF_o (by omega), peF_o (by omega), peF_o (by omega), o7 _ _ (by omega) (by omega) (by omega) (by omega), o7 _ _ (by omega) (by omega) (by omega) (by omega), o7 _ _ (by omega) (by omega) (by omega) (by omega), o7 _ _ (by omega) (by omega) (by omega) (by omega)]
          exact c5 m hm
/-! a STRAND -/
theorem sr_dead {A : RA} {t : Nat} {mk : Mk} {e : Nat × Nat} (h : sr1 v len A t mk = .inl e) : sr5 v len A t mk = .inl e := by
  unfold sr5 sr4 sr3 sr2
  rw [h]
  rfl
theorem m_strand {A : RA} {t : Nat} {mk : Mk} (hlen : len ≤ 2000) (hsd : sd < 2) (hk0 : kdT v len t = 2) (hW : WA v len mk A) (h : KMs v len sd (.inr (t, mk)) A S) : RN (f_X10_tellOne 140 S) (fun _ S' => FR sd S S' ∧ KMs v len sd (sr5 v len A t mk) (srA v len A t mk) S') := by
  obtain ⟨hr, hs, c19, c12, c20, ⟨b0, b1, b2⟩, hN, ⟨q, br, q1, q2, q3, q4, q5⟩, hc⟩ := h
  obtain ⟨w1, w2, w3, w4, w5, w6⟩ := hW
  have ht := hs.1.1
  have hrn : rN A = bM (rB A) + bP (rB A) := rfl
  obtain ⟨S4, e4, f4, s4⟩ := room_S (has := bS (rB A)) (most := 8) hr hs hk0 (by decide) (by decide) w3 (by decide)
  have r4 := FN_rr f4 hr
  unfold f_X10_tellOne
  rw [hs.1.2.1, ix_nI (show t < 403 by omega) (by decide), obq, nmq, rq_5 hr, hs.1.kd, hk0, if_neg (show ¬ nI (kmN 2) = 20 by decide), if_neg (show ¬ nI (kmN 2) = 21 by decide), if_pos (show nI (kmN 2) = 22 by decide), c19, ix_nI hsd (by decide), obq, rq_29 hr, b2, show f_X10_roomFor 140 (nI (bS (rB A))) 8 S = some ((), S4) from e4, bdq]
  cases h1 : sr1 v len A t mk with
  | inl e =>
    have s4' : SRm v len (sr1 v len A t mk) S4 := s4
    rw [h1] at s4'
    obtain ⟨f, u⟩ := e
    have s4'' : DDm f (psT v len u) S4 := s4'
    rw [if_neg (by rw [s4''.1]; exact f_nz s4''.2.2.1), sr_dead h1]
    exact RN_some ⟨f4.fr, r4, s4', trivial⟩
  | inr w1' =>
    obtain ⟨t1, mk1⟩ := w1'
    have s4' : SRm v len (sr1 v len A t mk) S4 := s4
    have s4l := s4'
    rw [h1] at s4l
    have hM : bS (rB A) < 8 := by
      obtain ⟨t0, g0, -, -, -, -⟩ := tk_inr h1
      have := (rmS_inr g0).1
      simpa using this
    obtain ⟨x5, S5, e5, f5, s5, l5⟩ := known_S (lo := 0) hlen r4 s4' w4 (by omega) (Or.inl rfl) w1 w2 ((f4.2 _ _ (by omega)).trans c20) (fun k hk => by rw [f4.1]; exact ⟨(hN k hk).1, (f4.2 _ _ (by omega)).trans (hN k hk).2⟩)
    have g5 := f4.tr f5
    have r8 : RFM (sI S5 157 (8 * sd + bS (rB A)) x5).2.2 := (FN_rr g5 hr : RFM S5.2.2)
    have s8 : SRm v len (sr2 v len A t mk) (sI S5 157 (8 * sd + bS (rB A)) x5) := SRm_o s5 rfl (fun a k ha => sI_ne (by omega))
    have o8 : ∀ a k, (a = 140 → k < 11 ∨ k = 12 ∨ 16 < k) → (a = 157 → k ≠ 8 * sd + bS (rB A)) → (sI S5 157 (8 * sd + bS (rB A)) x5).1 a k = S.1 a k := fun a k z1 z2 => by rw [sI_ne (by omega), g5.2 a k z1]
    obtain ⟨x9, S9, e9, f9, s9, l9⟩ := known_S (lo := 10) hlen r8 s8 w4 (by omega) (Or.inr rfl) w1 w2 ((o8 _ _ (by omega) (by omega)).trans c20) (fun k hk => by
      refine ⟨?_, (o8 _ _ (by omega) (by omega)).trans (hN k hk).2⟩
      show S5.2.1 148 k = _
      rw [g5.1]
      exact (hN k hk).1)
    have r12 : RFM (sI S9 158 (8 * sd + bS (rB A)) x9).2.2 := (FN_rr f9 r8 : RFM S9.2.2)
    have s12 : SRm v len (sr3 v len A t mk) (sI S9 158 (8 * sd + bS (rB A)) x9) := SRm_o s9 rfl (fun a k ha => sI_ne (by omega))
    obtain ⟨x17, S17, e17, f17, s17, l17⟩ := bounded_S (lo := 1) (hi := 9) hlen r12 s12 (by decide) (by decide)
    have r20 : RFM (sI S17 159 (8 * sd + bS (rB A)) x17).2.2 := (FN_rr f17 r12 : RFM S17.2.2)
    have s20 : SRm v len (sr4 v len A t mk) (sI S17 159 (8 * sd + bS (rB A)) x17) := SRm_o s17 rfl (fun a k ha => sI_ne (by omega))
    have i20 : (sI S17 159 (8 * sd + bS (rB A)) x17).2 = S.2 := f17.1.trans (f9.1.trans g5.1)
    have o20 : ∀ a k, (a = 140 → k < 11 ∨ k = 12 ∨ 16 < k) → (a = 157 ∨ a = 158 ∨ a = 159 → k ≠ 8 * sd + bS (rB A)) → (sI S17 159 (8 * sd + bS (rB A)) x17).1 a k = S.1 a k := fun a k z1 z2 => by
      rw [sI_ne (by omega), f17.2 a k z1, sI_ne (by omega), f9.2 a k z1, o8 a k z1 (by omega)]
    have v0 : (sI S17 159 (8 * sd + bS (rB A)) x17).1 157 (8 * sd + bS (rB A)) = x5 := by
      rw [sI_ne (by omega), f17.2 _ _ (by omega), sI_ne (by omega), f9.2 _ _ (by omega), sI_at]
    have v4 : (sI S17 159 (8 * sd + bS (rB A)) x17).1 158 (8 * sd + bS (rB A)) = x9 := by
      rw [sI_ne (by omega), f17.2 _ _ (by omega), sI_at]
    have v12 : (sI S17 159 (8 * sd + bS (rB A)) x17).1 159 (8 * sd + bS (rB A)) = x17 := sI_at
    obtain ⟨S22, e22, f22, s22⟩ := must_S r20 s20 (m := 4) (k := 59) (by decide) km4 (by decide) (by decide)
    have k19 : S4.1 140 19 = nI sd := (f4.2 _ _ (by omega)).trans c19
    have k150 : S4.1 156 sd = nI (bS (rB A)) := (f4.2 _ _ (by omega)).trans b2
    unfold f_X10_tellStrand
    rw [if_pos s4l.1.2.2.1, k19, ix_nI hsd (by decide), obq, rq_29 r4, k150, nmq, show (8 : Int32) * nI sd + nI (bS (rB A)) = nI (8 * sd + bS (rB A)) by rw [show (8 : Int32) = nI 8 from rfl, pk_mul, nI_add], show f_X10_known 140 0 S4 = some (x5, S5) from e5, bdq, ix_nI (show 8 * sd + bS (rB A) < 16 by omega) (by decide), obq, nmq, rq_30 r4, show f_X10_known 140 10 (sI S5 157 (8 * sd + bS (rB A)) x5) = some (x9, S9) from e9, bdq, obq, nmq, rq_31 r8, show f_X10_bounded 140 1 9 (sI S9 158 (8 * sd + bS (rB A)) x9) = some (x17, S17) from e17, bdq, obq, nmq, rq_32 r12, show f_X10_must 140 4 (sI S17 159 (8 * sd + bS (rB A)) x17) = some ((), S22) from e22, bdq]
    have i22 : S22.2 = S.2 := f22.1.trans i20
    have o22' : ∀ a k, (a = 140 → k < 11 ∨ k = 12 ∨ 16 < k) → (a = 157 ∨ a = 158 ∨ a = 159 → k ≠ 8 * sd + bS (rB A)) → S22.1 a k = S.1 a k := fun a k z1 z3 => (f22.2 a k z1).trans (o20 a k z1 z3)
    have fr22 : FR sd S S22 := ⟨by rw [i22], fun a k z => by rw [i22], fun a k z => o22' a k (by unfold okM at z; omega) (by unfold okM at z; omega)⟩
    have r22 : RFM S22.2.2 := FN_rr f22 r20
    cases hst : sr5 v len A t mk with
    | inl e =>
      have s22' : SRm v len (sr5 v len A t mk) S22 := s22
      rw [hst] at s22'
      obtain ⟨f, u⟩ := e
      have s22'' : DDm f (psT v len u) S22 := s22'
      rw [if_neg (by rw [s22''.1]; exact f_nz s22''.2.2.1), bdq]
      exact RN_some ⟨fr22, r22, s22', trivial⟩
    | inr w =>
      obtain ⟨t', mk'⟩ := w
      have s22' : SRm v len (sr5 v len A t mk) S22 := s22
      rw [hst] at s22'
      obtain ⟨m1, m2, m3, m5, m6, m7, m10⟩ := sr_inr hst
      have k22 : S22.1 140 19 = nI sd := (o22' _ _ (by omega) (by omega)).trans c19
      have kk : S22.1 156 sd = nI (bS (rB A)) := (o22' _ _ (by omega) (by omega)).trans b2
      rw [if_pos s22'.1.2.2.1, nmq, k22, ix_nI hsd (by decide), obq, obq, nmq, rq_29 r22, kk, nI_1, bdq]
      have oo : ∀ a k, (a = 156 → k ≠ sd) → (sI S22 156 sd (nI (bS (rB A) + 1))).1 a k = S22.1 a k := fun a k z => sI_ne (by omega)
      have o7 : ∀ a k, (a = 140 → k < 11 ∨ k = 12 ∨ 16 < k) → (a = 156 → k ≠ sd) → (a = 157 ∨ a = 158 ∨ a = 159 → k ≠ 8 * sd + bS (rB A)) → (sI S22 156 sd (nI (bS (rB A) + 1))).1 a k = S.1 a k := fun a k z1 z3 z4 => (oo a k z3).trans (o22' a k z1 z4)
      refine RN_some ⟨fr22.tr ⟨rfl, fun _ _ _ => rfl, fun a k z => oo a k (by unfold okM at z; omega)⟩, r22, SRm_o s22' rfl (fun a k z => oo a k (by omega)), ?_⟩
      refine ⟨(o7 _ _ (by omega) (by omega) (by omega)).trans c19, (o7 _ _ (by omega) (by omega) (by omega)).trans c12, (o7 _ _ (by omega) (by omega) (by omega)).trans c20, ⟨(o7 _ _ (by omega) (by omega) (by omega)).trans b0, (o7 _ _ (by omega) (by omega) (by omega)).trans b1, sI_at⟩, fun k hk => ⟨?_, (o7 _ _ (by omega) (by omega) (by omega)).trans (hN k hk).2⟩, ⟨q, br, (o7 _ _ (by omega) (by omega) (by omega)).trans q1, by omega, (o7 _ _ (by omega) (by omega) (by omega)).trans q3, by omega, fun k hk => RLr_set (q5 k hk) (fun a i z1 z2 => o7 _ _ (by omega) (by omega) (by omega))⟩, fun hn => ?_⟩
      · show S22.2.1 148 k = _
        rw [i22]
        exact (hN k hk).1
      · obtain ⟨mn, ⟨j1, jj1⟩, ⟨j2, jj2⟩⟩ := m10 hn
        obtain ⟨c1, c2, c3, c4, c5⟩ := hc mn
        have oF : ∀ k, k ≠ 28 + bS (rB A) → rF (srA v len A t mk) k = rF A k := fun k hk => if_neg hk
        refine ⟨(o7 _ _ (by omega) (by omega) (by omega)).trans c1, (o7 _ _ (by omega) (by omega) (by omega)).trans c2, fun p hp => ?_, fun e he => ?_, fun m hm => ?_⟩
        · have hp : p < bP (rB A) := hp
          rw [o7 _ _ (by omega) (by omega) (by omega), o7 _ _ (by omega) (by omega) (by omega), o7 _ _ (by omega) (by omega) (by omega), oF _ (by omega), oF _ (by omega)]
          exact c3 p hp
        · have he : e < bS (rB A) + 1 := he
          show _ = nI (updN (bWho (rB A)) (bS (rB A)) ((lkA v len A 0 (tkn (sr1 v len A t mk))).getD 0) e) ∧ _ = nI (updN (bLen (rB A)) (bS (rB A)) (vlV v len (tkn (sr3 v len A t mk))) e) ∧ _ = if 28 + e = 28 + bS (rB A) then oI (lkA v len A 10 (tkn (sr2 v len A t mk))) else rF A (28 + e)
          by_cases em : e = bS (rB A)
          · rw [em, updN_at, updN_at, if_pos rfl, oo _ _ (by omega), oo _ _ (by omega), oo _ _ (by omega), f22.2 _ _ (by omega), f22.2 _ _ (by omega), f22.2 _ _ (by omega), v0, v4, v12]
            refine ⟨?_, l17 m7, l9 m6⟩
            rw [l5 m5, jj1]
            rfl
          · rw [updN_ne em, updN_ne em, if_neg (by omega), o7 _ _ (by omega) (by omega) (by omega), o7 _ _ (by omega) (by omega) (by omega), o7 _ _ (by omega) (by omega) (by omega)]
            exact c4 e (by omega)
        · have hm : m < bM (rB A) := hm
          rw [o7 _ _ (by omega) (by omega) (by omega), o7 _ _ (by omega) (by omega) (by omega), o7 _ _ (by omega) (by omega) (by omega), o7 _ _ (by omega) (by omega) (by omega), oF _ (by omega), oF _ (by omega), oF _ (by omega), oF _ (by omega)]
          exact c5 m hm
/-! the pier, the seed -/
theorem m_pier {A : RA} {t : Nat} {mk : Mk} (hlen : len ≤ 2000) (hsd : sd < 2) (hk0 : kdT v len t = 7) (h : KMs v len sd (.inr (t, mk)) A S) : RN (f_X10_tellOne 140 S) (fun _ S' => FR sd S S' ∧ KMs v len sd (pi3 v len 7 9 t mk) (piA v len 7 A t mk) S') := by
  obtain ⟨hr, hs, c19, c12, c20, ⟨b0, b1, b2⟩, hN, ⟨q, br, q1, q2, q3, q4, q5⟩, hc⟩ := h
  have ht := hs.1.1
  obtain ⟨S4, e4, f4, s4⟩ := go_S hr hs hk0 (by decide) (by decide)
  have r4 := FN_rr f4 hr
  obtain ⟨x5, S5, e5, f5, s5, l5⟩ := bounded_S (lo := 0) (hi := 9) hlen r4 s4 (by decide) (by decide)
  have g5 := f4.tr f5
  have r8 : RFM (sI S5 160 sd x5).2.2 := (FN_rr g5 hr : RFM S5.2.2)
  have s8 : SRm v len (pi2 v len 7 9 t mk) (sI S5 160 sd x5) := SRm_o s5 rfl (fun a k ha => sI_ne (by omega))
  obtain ⟨S22, e22, f22, s22⟩ := must_S r8 s8 (m := 4) (k := 59) (by decide) km4 (by decide) (by decide)
  unfold f_X10_tellOne
  rw [hs.1.2.1, ix_nI (show t < 403 by omega) (by decide), obq, nmq, rq_5 hr, hs.1.kd, hk0, if_neg (show ¬ nI (kmN 7) = 20 by decide), if_neg (show ¬ nI (kmN 7) = 21 by decide), if_neg (show ¬ nI (kmN 7) = 22 by decide), if_pos (show nI (kmN 7) = 27 by decide), e4, bdq, show f_X10_bounded 140 0 9 S4 = some (x5, S5) from e5, bdq, (f4.2 140 19 (by omega)).trans c19, ix_nI hsd (by decide), obq, nmq, rq_33 r4, show f_X10_must 140 4 (sI S5 160 sd x5) = some ((), S22) from e22, bdq]
  have i22 : S22.2 = S.2 := f22.1.trans g5.1
  have o7 : ∀ a k, (a = 140 → k < 11 ∨ k = 12 ∨ 16 < k) → (a = 160 → k ≠ sd) → S22.1 a k = S.1 a k := fun a k z1 z3 => (f22.2 a k z1).trans ((sI_ne (by omega)).trans (g5.2 a k z1))
  refine RN_some ⟨⟨by rw [i22], fun a k z => by rw [i22], fun a k z => o7 a k (by unfold okM at z; omega) (by unfold okM at z; omega)⟩, FN_rr f22 r8, s22, ?_⟩
  cases hst : pi3 v len 7 9 t mk with
  | inl e => exact trivial
  | inr w =>
    obtain ⟨t', mk'⟩ := w
    obtain ⟨m1, m2, m3, m4⟩ := pi_inr hst
    refine ⟨(o7 _ _ (by omega) (by omega)).trans c19, (o7 _ _ (by omega) (by omega)).trans c12, (o7 _ _ (by omega) (by omega)).trans c20, ⟨(o7 _ _ (by omega) (by omega)).trans b0, (o7 _ _ (by omega) (by omega)).trans b1, (o7 _ _ (by omega) (by omega)).trans b2⟩, fun k hk => ⟨by rw [i22]; exact (hN k hk).1, (o7 _ _ (by omega) (by omega)).trans (hN k hk).2⟩, ⟨q, br, (o7 _ _ (by omega) (by omega)).trans q1, by omega, (o7 _ _ (by omega) (by omega)).trans q3, by omega, fun k hk => RLr_set (q5 k hk) (fun a i z1 z2 => o7 _ _ (by omega) (by omega))⟩, fun hn => ?_⟩
    obtain ⟨c1, c2, c3, c4, c5⟩ := hc (m4 hn).1
    refine ⟨?_, (o7 _ _ (by omega) (by omega)).trans c2, fun p hp => ?_, fun e he => ?_, fun m hm => ?_⟩
    · rw [f22.2 _ _ (by omega), sI_at, l5 m3]
      rfl
    · rw [o7 _ _ (by omega) (by omega), o7 _ _ (by omega) (by omega), o7 _ _ (by omega) (by omega)]
      exact c3 p hp
    · rw [o7 _ _ (by omega) (by omega), o7 _ _ (by omega) (by omega), o7 _ _ (by omega) (by omega)]
      exact c4 e he
    · rw [o7 _ _ (by omega) (by omega), o7 _ _ (by omega) (by omega), o7 _ _ (by omega) (by omega), o7 _ _ (by omega) (by omega)]
      exact c5 m hm
theorem m_seed {A : RA} {t : Nat} {mk : Mk} (hlen : len ≤ 2000) (hsd : sd < 2) (hk0 : kdT v len t = 8) (h : KMs v len sd (.inr (t, mk)) A S) : RN (f_X10_tellOne 140 S) (fun _ S' => FR sd S S' ∧ KMs v len sd (pi3 v len 8 9999 t mk) (piA v len 8 A t mk) S') := by
  obtain ⟨hr, hs, c19, c12, c20, ⟨b0, b1, b2⟩, hN, ⟨q, br, q1, q2, q3, q4, q5⟩, hc⟩ := h
  have ht := hs.1.1
  obtain ⟨S4, e4, f4, s4⟩ := go_S hr hs hk0 (by decide) (by decide)
  have r4 := FN_rr f4 hr
  obtain ⟨x5, S5, e5, f5, s5, l5⟩ := bounded_S (lo := 0) (hi := 9999) hlen r4 s4 (by decide) (by decide)
  have g5 := f4.tr f5
  have r8 : RFM (sI S5 161 sd x5).2.2 := (FN_rr g5 hr : RFM S5.2.2)
  have s8 : SRm v len (pi2 v len 8 9999 t mk) (sI S5 161 sd x5) := SRm_o s5 rfl (fun a k ha => sI_ne (by omega))
  obtain ⟨S22, e22, f22, s22⟩ := must_S r8 s8 (m := 4) (k := 59) (by decide) km4 (by decide) (by decide)
  unfold f_X10_tellOne
  rw [hs.1.2.1, ix_nI (show t < 403 by omega) (by decide), obq, nmq, rq_5 hr, hs.1.kd, hk0, if_neg (show ¬ nI (kmN 8) = 20 by decide), if_neg (show ¬ nI (kmN 8) = 21 by decide), if_neg (show ¬ nI (kmN 8) = 22 by decide), if_neg (show ¬ nI (kmN 8) = 27 by decide), if_pos (show nI (kmN 8) = 28 by decide), e4, bdq, show f_X10_bounded 140 0 9999 S4 = some (x5, S5) from e5, bdq, (f4.2 140 19 (by omega)).trans c19, ix_nI hsd (by decide), obq, nmq, rq_34 r4, show f_X10_must 140 4 (sI S5 161 sd x5) = some ((), S22) from e22, bdq]
  have i22 : S22.2 = S.2 := f22.1.trans g5.1
  have o7 : ∀ a k, (a = 140 → k < 11 ∨ k = 12 ∨ 16 < k) → (a = 161 → k ≠ sd) → S22.1 a k = S.1 a k := fun a k z1 z3 => (f22.2 a k z1).trans ((sI_ne (by omega)).trans (g5.2 a k z1))
  refine RN_some ⟨⟨by rw [i22], fun a k z => by rw [i22], fun a k z => o7 a k (by unfold okM at z; omega) (by unfold okM at z; omega)⟩, FN_rr f22 r8, s22, ?_⟩
  cases hst : pi3 v len 8 9999 t mk with
  | inl e => exact trivial
  | inr w =>
    obtain ⟨t', mk'⟩ := w
    obtain ⟨m1, m2, m3, m4⟩ := pi_inr hst
    refine ⟨(o7 _ _ (by omega) (by omega)).trans c19, (o7 _ _ (by omega) (by omega)).trans c12, (o7 _ _ (by omega) (by omega)).trans c20, ⟨(o7 _ _ (by omega) (by omega)).trans b0, (o7 _ _ (by omega) (by omega)).trans b1, (o7 _ _ (by omega) (by omega)).trans b2⟩, fun k hk => ⟨by rw [i22]; exact (hN k hk).1, (o7 _ _ (by omega) (by omega)).trans (hN k hk).2⟩, ⟨q, br, (o7 _ _ (by omega) (by omega)).trans q1, by omega, (o7 _ _ (by omega) (by omega)).trans q3, by omega, fun k hk => RLr_set (q5 k hk) (fun a i z1 z2 => o7 _ _ (by omega) (by omega))⟩, fun hn => ?_⟩
    obtain ⟨c1, c2, c3, c4, c5⟩ := hc (m4 hn).1
    refine ⟨(o7 _ _ (by omega) (by omega)).trans c1, ?_, fun p hp => ?_, fun e he => ?_, fun m hm => ?_⟩
    · rw [f22.2 _ _ (by omega), sI_at, l5 m3]
      rfl
    · rw [o7 _ _ (by omega) (by omega), o7 _ _ (by omega) (by omega), o7 _ _ (by omega) (by omega)]
      exact c3 p hp
    · rw [o7 _ _ (by omega) (by omega), o7 _ _ (by omega) (by omega), o7 _ _ (by omega) (by omega)]
      exact c4 e he
    · rw [o7 _ _ (by omega) (by omega), o7 _ _ (by omega) (by omega), o7 _ _ (by omega) (by omega), o7 _ _ (by omega) (by omega)]
      exact c5 m hm
end MSTN

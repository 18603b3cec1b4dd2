/-! the class reads PEOPLE, STRANDS, the pier, the seed -/
theorem bdn {α β : Type} {f : β → St → Option (α × St)} : bd none f = none := Eq.trans rfl rfl
section CSTN
variable {v : Nat → Int32} {len Bc : Nat} {S S' : St}
theorem addP_run {M : Nat} {nm : Int64} {x y w : Int32} (hr : RRf Bc S.2.2) (h0 : S.1 Bc 1 = nI M) (hM : M ≤ 6) : ∃ S', f_X0_addPerson Bc nm x y w S = some ((), S') ∧ S'.2.2 = S.2.2 ∧ (∀ a k, (a = Bc → k ≠ 1) → a ≠ Bc + 3 → a ≠ Bc + 13 → S'.1 a k = S.1 a k) ∧ (∀ a k, (a = Bc + 2 → k ≠ M) → S'.2.1 a k = S.2.1 a k) ∧ (M < 6 → S'.1 Bc 1 = nI (M + 1) ∧ S'.2.1 (Bc + 2) M = nm ∧ (∀ k, S'.1 (Bc + 13) k = if k = 22 + M then y else if k = 16 + M then x else S.1 (Bc + 13) k) ∧ ∀ k, S'.1 (Bc + 3) k = if k = M then w else S.1 (Bc + 3) k) := by
  unfold f_X0_addPerson
  by_cases c : M < 6
  · have r2 : RRf Bc (sL S (Bc + 2) M nm).2.2 := hr
    have g2 : (sL S (Bc + 2) M nm).1 Bc 1 = nI M := h0
    have r4 : RRf Bc (sI (sL S (Bc + 2) M nm) (Bc + 13) (16 + M) x).2.2 := hr
    have g4 : (sI (sL S (Bc + 2) M nm) (Bc + 13) (16 + M) x).1 Bc 1 = nI M := (sI_ne (by omega)).trans g2
    have r6 : RRf Bc (sI (sI (sL S (Bc + 2) M nm) (Bc + 13) (16 + M) x) (Bc + 13) (22 + M) y).2.2 := hr
    have g6 : (sI (sI (sL S (Bc + 2) M nm) (Bc + 13) (16 + M) x) (Bc + 13) (22 + M) y).1 Bc 1 = nI M := (sI_ne (by omega)).trans g4
    have g8 : (sI (sI (sI (sL S (Bc + 2) M nm) (Bc + 13) (16 + M) x) (Bc + 13) (22 + M) y) (Bc + 3) M w).1 Bc 1 = nI M := (sI_ne (by omega)).trans g6
    rw [h0, if_neg (show ¬ (6 : Int32) ≤ nI M from nle_l (a := 6) (by omega) (by omega) c), ix_nI c (by decide), obq, nmq, rr_b6 hr, g2, show (16 : Int32) + nI M = nI (16 + M) from nI_add 16 M, ix_nI (show 16 + M < 36 by omega) (by decide), obq, nmq, rr_b11 r2, rr_s r2, g4, show (22 : Int32) + nI M = nI (22 + M) from nI_add 22 M, ix_nI (show 22 + M < 36 by omega) (by decide), obq, nmq, rr_b11 r4, rr_s r4, g6, ix_nI c (by decide), obq, nmq, rr_b7 r6, nmq, g8, nI_1]
    refine ⟨_, rfl, rfl, fun a k h1 h2 h3 => ?_, fun a k h1 => ?_, fun _ => ⟨sI_at, ?_, fun k => ?_, fun k => ?_⟩⟩
    · rw [sI_ne (by omega), sI_ne (Or.inl h2), sI_ne (Or.inl h3), sI_ne (Or.inl h3), sL_1]
    · show (sL S (Bc + 2) M nm).2.1 a k = S.2.1 a k
      rw [sL_2, if_neg (by omega)]
    · show (sL S (Bc + 2) M nm).2.1 (Bc + 2) M = nm
      rw [sL_2, if_pos ⟨rfl, rfl⟩]
    · rw [sI_ne (Or.inl (by omega)), sI_ne (Or.inl (by omega))]
      simp only [sI_1, eq_self, true_and, sL_1]
    · rw [sI_ne (Or.inl (by omega)), sI_1, sI_ne (Or.inl (by omega)), sI_ne (Or.inl (by omega)), sL_1]
      simp only [eq_self, true_and]
  · rw [h0, if_pos (show (6 : Int32) ≤ nI M from le_l (a := 6) (by omega) (by omega) (by omega))]
    exact ⟨S, rfl, rfl, fun _ _ _ _ _ => rfl, fun _ _ _ => rfl, fun q => absurd q c⟩
def pe0 (A : RA) (t : Nat) (mk : Mk) : Stt := rmS (decide (bP (rB A) < 6)) t mk
def pe1 (v : Nat → Int32) (len : Nat) (A : RA) (t : Nat) (mk : Mk) : Stt := tkS v len 1 (pe0 A t mk)
def pe2 (v : Nat → Int32) (len : Nat) (A : RA) (t : Nat) (mk : Mk) : Stt := naS v len (dupA v len A) (pe1 v len A t mk)
def pe3 (v : Nat → Int32) (len : Nat) (A : RA) (t : Nat) (mk : Mk) : Stt := nuS v len (okR 0 9) (pe2 v len A t mk)
def pe4 (v : Nat → Int32) (len : Nat) (A : RA) (t : Nat) (mk : Mk) : Stt := nuS v len (okR 0 9) (pe3 v len A t mk)
def pe5 (v : Nat → Int32) (len : Nat) (A : RA) (t : Nat) (mk : Mk) : Stt := nuS v len (okR 1 99) (pe4 v len A t mk)
def pe6 (v : Nat → Int32) (len : Nat) (A : RA) (t : Nat) (mk : Mk) : Stt := tkS v len 59 (pe5 v len A t mk)
def peF (A : RA) (x y : Int32) : Nat → Int32 := fun k => if k = 22 + bP (rB A) then y else if k = 16 + bP (rB A) then x else rF A k
def peN (A : RA) (i : Nat) (x y : Int32) (w : Nat) : RA := (((bM (rB A), bP (rB A) + 1, (rB A).1.2.2), updN (bWt (rB A)) (bP (rB A)) w, (rB A).2.2), peF A x y, updN (rT A) (rN A) i, updN (rA A) (rN A) (10 + bP (rB A)))
def peA (v : Nat → Int32) (len : Nat) (A : RA) (t : Nat) (mk : Mk) : RA := peN A (tkn (pe1 v len A t mk)) (nI (vlV v len (tkn (pe2 v len A t mk)))) (nI (vlV v len (tkn (pe3 v len A t mk)))) (vlV v len (tkn (pe4 v len A t mk)))
theorem pe_inr {A : RA} {t t' : Nat} {mk mk' : Mk} (h : pe6 v len A t mk = .inr (t', mk')) : bP (rB A) < 6 ∧ t + 5 < t' ∧ t' ≤ 400 ∧ kdT v len (tkn (pe1 v len A t mk)) = 21 ∧ liv (pe2 v len A t mk) ∧ liv (pe3 v len A t mk) ∧ liv (pe4 v len A t mk) ∧ liv (pe5 v len A t mk) ∧ (mk' = none → mk = none ∧ dupA v len A (tkn (pe1 v len A t mk)) = false ∧ vlV v len (tkn (pe2 v len A t mk)) ≤ 9 ∧ vlV v len (tkn (pe3 v len A t mk)) ≤ 9) := by
  obtain ⟨t5, h5, k5, l5, e5, -⟩ := tk_inr h
  obtain ⟨t4, m4, h4, k4, l4, e4, u4, c4⟩ := nu_inr h5
  obtain ⟨t3, m3, h3, k3, l3, e3, u3, c3⟩ := nu_inr h4
  obtain ⟨t2, m2, h2, k2, l2, e2, u2, c2⟩ := nu_inr h3
  obtain ⟨t1, m1, h1, k1, l1, e1, d1⟩ := adv_inr h2
  have u1 : tkn (pe1 v len A t mk) = t1 := by rw [h1]; rfl
  obtain ⟨t0, h0, k0, l0, e0, -⟩ := tk_inr h1
  obtain ⟨r1, r2, r3⟩ := rmS_inr h0
  rw [u1, u2, u3]
  refine ⟨by simpa using r1, by omega, by omega, k1, ⟨_, _, h2⟩, ⟨_, _, h3⟩, ⟨_, _, h4⟩, ⟨_, _, h5⟩, fun q => ?_⟩
  obtain ⟨i4, n4⟩ := c4 q
  obtain ⟨i3, n3⟩ := c3 n4
  obtain ⟨i2, n2⟩ := c2 n3
  obtain ⟨i1, n1⟩ := mk_none2 (d1.symm.trans n2)
  have a3 : vlV v len t3 ≤ 9 := by simpa [okR] using i3
  have a2 : vlV v len t2 ≤ 9 := by simpa [okR] using i2
  exact ⟨r3 ▸ n1, i1, a2, a3⟩
theorem c_person {A : RA} {t : Nat} {mk : Mk} (hW : WA v len mk A) (h : KCs v len Bc (.inr (t, mk)) A S) : RN (f_X4_readPerson 30 S) (fun _ S' => FZ Bc S S' ∧ KCs v len Bc (pe6 v len A t mk) (peA v len A t mk) S') := by
  obtain ⟨hr, ⟨h1, h2⟩, ⟨b0, b1, b2⟩, hN, ⟨q, q1, q2, q3⟩, hc⟩ := h
  obtain ⟨w1, w2, w3, w4, w5, w6⟩ := hW
  have hB := hr.1
  have room : ∃ S0, f_X4_readPerson 30 S = b_X4_readPerson_17 30 S0 ∧ FY S S0 ∧ SRc v len (pe0 A t mk) S0 := by
    unfold f_X4_readPerson pe0 rmS
    rw [rr_301 hr, b1]
    by_cases c : bP (rB A) < 6
    · rw [if_pos (show nI (bP (rB A)) < 6 from lt_l (b := 6) (by omega) (by omega) c), if_pos (decide_eq_true c)]
      exact ⟨S, rfl, FY.rf, h1, h2⟩
    · rw [if_neg (show ¬ nI (bP (rB A)) < 6 from nlt_l (b := 6) (by omega) (by omega) (by omega)), if_neg (by simpa using c), show (2 : Int32) = nI 2 from rfl, refuse_l hr h1, bdq]
      exact ⟨_, rfl, ⟨rfl, fun a k q => by rw [sI_ne (by omega), sI_ne (by omega)]⟩, DDc_of h1 (Or.inr rfl)⟩
  obtain ⟨S0, e0, f0, s0⟩ := room
  have r0 := FY_rr f0 hr
  obtain ⟨u1, S1, e1, -, f1, s1, -⟩ := take_S (k := 1) r0 s0 (by decide) (by decide) (by decide)
  have g1 := f0.tr f1
  obtain ⟨n2, S2, e2, f2, s2, l2⟩ := newName_S (FY_rr g1 hr) s1 w4 w1 w2 ((g1.2 _ _ (by omega)).trans b0) ((g1.2 _ _ (by omega)).trans b1) (by intro k hk; rw [g1.1]; exact hN k hk)
  have g2 := g1.tr f2
  obtain ⟨x3, S3, e3, f3, s3, l3⟩ := num_R (lo := 0) (hi := 9) (FY_rr g2 hr) s2 (by decide) (by decide)
  have g3 := g2.tr f3
  obtain ⟨x4, S4, e4, f4, s4, l4⟩ := num_R (lo := 0) (hi := 9) (FY_rr g3 hr) s3 (by decide) (by decide)
  have g4 := g3.tr f4
  obtain ⟨x5, S5, e5, f5, s5, l5⟩ := num_R (lo := 1) (hi := 99) (FY_rr g4 hr) s4 (by decide) (by decide)
  have g5 := g4.tr f5
  obtain ⟨u7, S7, e7, -, f7, s7, -⟩ := take_S (k := 59) (FY_rr g5 hr) s5 (by decide) (by decide) (by decide)
  have g7 := g5.tr f7
  have r7 := FY_rr g7 hr
  obtain ⟨S8, e8, i8, o8, p8, a8⟩ := addP_run (nm := n2) (x := x3) (y := x4) (w := x5) r7 ((g7.2 _ _ (by omega)).trans b1) w2
  rw [e0]
  unfold b_X4_readPerson_17
  rw [show f_X4_take 30 1 S0 = some (nI u1, S1) from e1, bdq, e2, bdq, show f_X4_takeNumber 30 1 0 9 S2 = some (x3, S3) from e3, bdq, show f_X4_takeNumber 30 1 0 9 S3 = some (x4, S4) from e4, bdq, show f_X4_takeNumber 30 1 1 99 S4 = some (x5, S5) from e5, bdq, show f_X4_take 30 59 S5 = some (nI u7, S7) from e7, bdq, rr_301 r7, e8, bdq]
  have z : FZ Bc S S8 := (g7.fz hB).tr ⟨i8, fun a k _ h2 => o8 a k (by omega) (by omega) (by omega), fun a k _ h1 => p8 a k (fun z => absurd z h1), fun k => o8 _ _ (by omega) (by omega) (by omega)⟩
  have s8 : SRc v len (pe6 v len A t mk) S8 := SRc_30 s7 (by funext k; exact p8 _ _ (by omega)) (fun a k ha => o8 _ _ (by omega) (by omega) (by omega))
  refine RN_some ⟨z, by rw [i8]; exact r7, s8, ?_⟩
  cases hst : pe6 v len A t mk with
  | inl e => exact trivial
  | inr w =>
    obtain ⟨t', mk'⟩ := w
    obtain ⟨m1, m2, m3, m4, m5, m6, m7, m8, m10⟩ := pe_inr hst
    obtain ⟨a1, a2, a3, a4⟩ := a8 m1
    have o7 : ∀ a k, a ≠ 30 → (a = Bc → k ≠ 1) → a ≠ Bc + 3 → a ≠ Bc + 13 → S8.1 a k = S.1 a k := fun a k h1 h2 h3 h4 => (o8 a k h2 h3 h4).trans (g7.2 a k (fun z => absurd z h1))
    refine ⟨⟨(o7 _ _ (by omega) (by omega) (by omega) (by omega)).trans b0, a1, (o7 _ _ (by omega) (by omega) (by omega) (by omega)).trans b2⟩, ?_, ⟨q, (o7 _ _ (by omega) (by omega) (by omega) (by omega)).trans q1, by omega, fun k hk => RLq_set (q3 k hk) (Nat.le_refl _) (fun i => o7 _ _ (by omega) (by omega) (by omega) (by omega)) (fun i => o7 _ _ (by omega) (by omega) (by omega) (by omega)) (fun i => o7 _ _ (by omega) (by omega) (by omega) (by omega))⟩, fun hn => ?_⟩
    · refine NMc_new w4 w1 hN rfl rfl (show bM (rB A) + (bP (rB A) + 1) = bM (rB A) + bP (rB A) + 1 by omega) (Or.inr ⟨rfl, ?_, fun a k hh => ?_⟩)
      · rw [show 10 + bP (rB A) - 10 = bP (rB A) by omega]
        exact a2.trans (l2 m5)
      · rw [p8 a k (by omega), g7.1]
    · obtain ⟨c1, c2, c3, c4, c5⟩ := hc (m10 hn).1
      refine ⟨(o7 _ _ (by omega) (by omega) (by omega) (by omega)).trans c1, (o7 _ _ (by omega) (by omega) (by omega) (by omega)).trans c2, fun p hp => ?_, fun e he => ⟨(o7 _ _ (by omega) (by omega) (by omega) (by omega)).trans (c4 e he).1, (o7 _ _ (by omega) (by omega) (by omega) (by omega)).trans (c4 e he).2⟩, fun k hk => ?_⟩
      · rw [a4 p]
        show _ = nI (updN (bWt (rB A)) (bP (rB A)) (vlV v len (tkn (pe4 v len A t mk))) p)
        by_cases e : p = bP (rB A)
        · rw [if_pos e, e, updN_at, l5 m8]; rfl
        · rw [if_neg e, updN_ne e]
          have hp : p < bP (rB A) + 1 := hp
          exact (g7.2 _ _ (by omega)).trans (c3 p (by omega))
      · rw [a3 k, l3 m6, l4 m7, (g7.2 _ _ (by omega)).trans (c5 k hk)]
        rfl
/-! a STRAND -/
theorem addS_run {M : Nat} {x y w : Int32} (hr : RRf Bc S.2.2) (h0 : S.1 Bc 2 = nI M) (hM : M ≤ 8) : ∃ S', f_X0_addStrand Bc x y w S = some ((), S') ∧ S'.2 = S.2 ∧ (∀ a k, (a = Bc → k ≠ 2) → a ≠ Bc + 4 → a ≠ Bc + 5 → a ≠ Bc + 13 → S'.1 a k = S.1 a k) ∧ (M < 8 → S'.1 Bc 2 = nI (M + 1) ∧ (∀ k, S'.1 (Bc + 13) k = if k = 28 + M then y else S.1 (Bc + 13) k) ∧ (∀ k, S'.1 (Bc + 4) k = if k = M then x else S.1 (Bc + 4) k) ∧ ∀ k, S'.1 (Bc + 5) k = if k = M then w else S.1 (Bc + 5) k) := by
  unfold f_X0_addStrand
  by_cases c : M < 8
  · have r2 : RRf Bc (sI S (Bc + 4) M x).2.2 := hr
    have g2 : (sI S (Bc + 4) M x).1 Bc 2 = nI M := (sI_ne (by omega)).trans h0
    have r4 : RRf Bc (sI (sI S (Bc + 4) M x) (Bc + 13) (28 + M) y).2.2 := hr
    have g4 : (sI (sI S (Bc + 4) M x) (Bc + 13) (28 + M) y).1 Bc 2 = nI M := (sI_ne (by omega)).trans g2
    have g6 : (sI (sI (sI S (Bc + 4) M x) (Bc + 13) (28 + M) y) (Bc + 5) M w).1 Bc 2 = nI M := (sI_ne (by omega)).trans g4
    rw [h0, if_neg (show ¬ (8 : Int32) ≤ nI M from nle_l (a := 8) (by omega) (by omega) c), ix_nI c (by decide), obq, nmq, rr_b8 hr, g2, show (28 : Int32) + nI M = nI (28 + M) from nI_add 28 M, ix_nI (show 28 + M < 36 by omega) (by decide), obq, nmq, rr_b11 r2, rr_s r2, g4, ix_nI c (by decide), obq, nmq, rr_b9 r4, nmq, g6, nI_1]
    refine ⟨_, rfl, rfl, fun a k h1 h2 h3 h4 => ?_, fun _ => ⟨sI_at, fun k => ?_, fun k => ?_, fun k => ?_⟩⟩
    · rw [sI_ne (by omega), sI_ne (Or.inl h3), sI_ne (Or.inl h4), sI_ne (Or.inl h2)]
    · rw [sI_ne (Or.inl (by omega)), sI_ne (Or.inl (by omega)), sI_1, sI_ne (Or.inl (by omega))]
      simp only [eq_self, true_and]
    · rw [sI_ne (Or.inl (by omega)), sI_ne (Or.inl (by omega)), sI_ne (Or.inl (by omega)), sI_1]
      simp only [eq_self, true_and]
    · rw [sI_ne (Or.inl (by omega)), sI_1, sI_ne (Or.inl (by omega)), sI_ne (Or.inl (by omega))]
      simp only [eq_self, true_and]
  · rw [h0, if_pos (show (8 : Int32) ≤ nI M from le_l (a := 8) (by omega) (by omega) (by omega))]
    exact ⟨S, rfl, rfl, fun _ _ _ _ _ _ => rfl, fun q => absurd q c⟩
def okN (v : Nat → Int32) (len : Nat) (A : RA) (lo i : Nat) : Bool := (lkA v len A lo i).isSome
theorem oI_m1 {o : Option Nat} (h : ∀ a, o = some a → a < 2 ^ 31) : oI o = -1 ↔ o.isSome = false := by
  cases o with
  | none => exact ⟨fun _ => rfl, fun _ => rfl⟩
  | some a => exact ⟨fun q => absurd q (nI_m1 (h a rfl)), fun q => by cases q⟩
theorem lkA_lt {A : RA} {lo i a : Nat} (h : lkA v len A lo i = some a) : a < 10 := by
  obtain ⟨k, k1, k2, k3, k4, k5⟩ := lokF_some _ _ h
  have k6 : eqT v len (rT A k) i = true ∧ lo ≤ rA A k ∧ rA A k < lo + 10 := by
    simpa [Bool.and_eq_true, decide_eq_true_eq] using k3
  omega
theorem lkA_lt0 {A : RA} {i a : Nat} (hN : NI v len A) (h : lkA v len A 0 i = some a) : a < bM (rB A) := by
  obtain ⟨k, k1, k2, k3, k4, k5⟩ := lokF_some _ _ h
  have k6 : eqT v len (rT A k) i = true ∧ 0 ≤ rA A k ∧ rA A k < 0 + 10 := by
    simpa [Bool.and_eq_true, decide_eq_true_eq] using k3
  have := (hN.2.2.1 k (by omega)).1
  omega
theorem lkA_lt1 {A : RA} {i a : Nat} (hN : NI v len A) (hm4 : bM (rB A) ≤ 4) (h : lkA v len A 10 i = some a) : a < bP (rB A) := by
  obtain ⟨k, k1, k2, k3, k4, k5⟩ := lokF_some _ _ h
  have k6 : eqT v len (rT A k) i = true ∧ 10 ≤ rA A k ∧ rA A k < 10 + 10 := by
    simpa [Bool.and_eq_true, decide_eq_true_eq] using k3
  have := (hN.2.2.1 k (by omega)).1
  omega
/-- a name that is to be known: whoever looks it up -/
theorem who_S {st : Stt} {A : RA} {lo : Nat} {lk : Int64 → St → Option (Int32 × St)} {K : Int32 → St → Option (Unit × St)} (hr : RRf Bc S.2.2) (h : SRc v len st S) (hlk : ∀ S1 nm, FY S S1 → ∃ r, lk nm S1 = some (r, S1) ∧ ∀ i, kdT v len i = 21 → nm = Int64.ofNat (vlV v len i) → r = oI (lkA v len A lo i)) : ∃ r S', (bd (f_X4_take 30 (21 : Int32) S) fun r2 S1 => (ix r2 401).bind fun j3 => bd (lk (S1.2.1 (S1.2.2 (S1.2.2 30 0) 2) j3) S1) fun r5 S4 => if r5 = (-1 : Int32) then (bd (f_X4_mark 30 (4 : Int32) r2 S4) fun _ S6 => K r5 S6) else (K r5 S4)) = K r S' ∧ FY S S' ∧ SRc v len (whS v len (okN v len A lo) st) S' ∧ (liv (whS v len (okN v len A lo) st) → r = oI (lkA v len A lo (tkn st))) := by
  obtain ⟨u, S1, e1, hu, f1, s1, t1⟩ := take_S (k := 21) hr h (by decide) (by decide) (by decide)
  have r1 := FY_rr f1 hr
  have hadv : whS v len (okN v len A lo) st = mapM (tkS v len 21 st) (fun mk => if okN v len A lo (tkn st) then mk else mkS mk 4 (psT v len (tkn st))) := adv_tk
  have hlv : ∀ t' mk', tkS v len 21 st = .inr (t', mk') → t' = u + 1 ∧ tkn st = u ∧ S1.2.1 34 u = Int64.ofNat (vlV v len u) ∧ kdT v len u = 21 := by
    intro t' mk' q
    obtain ⟨t, mk, a1, a2, a3, a4, a5⟩ := adv_inr q
    have eu := t1 t mk a1
    subst eu
    rw [q] at s1
    have l1 := s1.1
    rw [a4] at l1
    exact ⟨a4, by rw [a1]; rfl, (l1.2.2.2.2.1 u (by omega) hu (fun i hi => l1.2.2.2.1 i (by omega))).2.2 (by omega), a2⟩
  obtain ⟨S2, e2, f2, s2⟩ := mark_S (k := 4) r1 hu (by decide) s1 (fun t mk q => (hlv t mk q).1)
  obtain ⟨r, e3, l3⟩ := hlk S1 (S1.2.1 34 u) f1
  rw [show f_X4_take 30 21 S = some (nI u, S1) from e1, bdq, ix_nI (show u < 401 by omega) (by decide), obq, rr_300 r1, rr_312 r1, e3, bdq, show f_X4_mark 30 4 (nI u) S1 = some ((), S2) from e2, bdq, hadv]
  have rl : ∀ (hl : liv (mapM (tkS v len 21 st) (fun mk => if okN v len A lo (tkn st) then mk else mkS mk 4 (psT v len (tkn st))))), r = oI (lkA v len A lo (tkn st)) := by
    intro hl
    cases hst : tkS v len 21 st with
    | inl e => rw [hst] at hl; exact absurd hl not_liv
    | inr w =>
      obtain ⟨t', mk'⟩ := w
      obtain ⟨b1, b2, b3, b4⟩ := hlv t' mk' hst
      rw [b2]
      exact l3 u b4 b3
  by_cases c : r = -1
  · rw [if_pos c]
    refine ⟨r, S2, rfl, f1.tr f2, ?_, rl⟩
    cases hst : tkS v len 21 st with
    | inl e => rw [hst] at s2; exact s2
    | inr w =>
      obtain ⟨t', mk'⟩ := w
      obtain ⟨b1, b2, b3, b4⟩ := hlv t' mk' hst
      have hd : okN v len A lo u = false := (oI_m1 (fun a ha => Nat.lt_trans (lkA_lt ha) (by decide))).mp ((l3 u b4 b3).symm.trans c)
      rw [hst] at s2
      show SRc v len (.inr (t', if okN v len A lo (tkn st) = true then mk' else mkS mk' 4 (psT v len (tkn st)))) S2
      rw [b2, if_neg (by rw [hd]; decide)]
      exact s2
  · rw [if_neg c]
    refine ⟨r, S1, rfl, f1, ?_, rl⟩
    cases hst : tkS v len 21 st with
    | inl e => rw [hst] at s1; exact s1
    | inr w =>
      obtain ⟨t', mk'⟩ := w
      obtain ⟨b1, b2, b3, b4⟩ := hlv t' mk' hst
      have hd : okN v len A lo u = true := by
        cases hh : okN v len A lo u with
        | true => rfl
        | false => exact absurd ((l3 u b4 b3).trans ((oI_m1 (fun a ha => Nat.lt_trans (lkA_lt ha) (by decide))).mpr hh)) c
      rw [hst] at s1
      show SRc v len (.inr (t', if okN v len A lo (tkn st) = true then mk' else mkS mk' 4 (psT v len (tkn st)))) S1
      rw [b2, if_pos hd]
      exact s1
def sr0 (A : RA) (t : Nat) (mk : Mk) : Stt := rmS (decide (bS (rB A) < 8)) t mk
def sr1 (v : Nat → Int32) (len : Nat) (A : RA) (t : Nat) (mk : Mk) : Stt := tkS v len 2 (sr0 A t mk)
def sr2 (v : Nat → Int32) (len : Nat) (A : RA) (t : Nat) (mk : Mk) : Stt := whS v len (okN v len A 0) (sr1 v len A t mk)
def sr3 (v : Nat → Int32) (len : Nat) (A : RA) (t : Nat) (mk : Mk) : Stt := whS v len (okN v len A 10) (sr2 v len A t mk)
def sr4 (v : Nat → Int32) (len : Nat) (A : RA) (t : Nat) (mk : Mk) : Stt := nuS v len (okR 1 9) (sr3 v len A t mk)
def sr5 (v : Nat → Int32) (len : Nat) (A : RA) (t : Nat) (mk : Mk) : Stt := tkS v len 59 (sr4 v len A t mk)
def srN (A : RA) (x : Option Nat) (y : Option Nat) (w : Nat) : RA := (((bM (rB A), bP (rB A), bS (rB A) + 1, (rB A).1.2.2.2), bWt (rB A), updN (bWho (rB A)) (bS (rB A)) (x.getD 0), updN (bLen (rB A)) (bS (rB A)) w, bLaw (rB A)), (fun k => if k = 28 + bS (rB A) then oI y else rF A k), rT A, rA A)
def srA (v : Nat → Int32) (len : Nat) (A : RA) (t : Nat) (mk : Mk) : RA := srN A (lkA v len A 0 (tkn (sr1 v len A t mk))) (lkA v len A 10 (tkn (sr2 v len A t mk))) (vlV v len (tkn (sr3 v len A t mk)))
theorem sr_inr {A : RA} {t t' : Nat} {mk mk' : Mk} (h : sr5 v len A t mk = .inr (t', mk')) : bS (rB A) < 8 ∧ t + 4 < t' ∧ t' ≤ 400 ∧ liv (sr2 v len A t mk) ∧ liv (sr3 v len A t mk) ∧ liv (sr4 v len A t mk) ∧ (mk' = none → mk = none ∧ (∃ a, lkA v len A 0 (tkn (sr1 v len A t mk)) = some a) ∧ ∃ a, lkA v len A 10 (tkn (sr2 v len A t mk)) = some a) := by
  obtain ⟨t4, h4, k4, l4, e4, -⟩ := tk_inr h
  obtain ⟨t3, m3, h3, k3, l3, e3, u3, c3⟩ := nu_inr h4
  obtain ⟨t2, m2, h2, k2, l2, e2, d2⟩ := adv_inr h3
  obtain ⟨t1, m1, h1, k1, l1, e1, d1⟩ := adv_inr h2
  have u1 : tkn (sr1 v len A t mk) = t1 := by rw [h1]; rfl
  have u2 : tkn (sr2 v len A t mk) = t2 := by rw [h2]; rfl
  obtain ⟨t0, h0, k0, l0, e0, -⟩ := tk_inr h1
  obtain ⟨r1, r2, r3⟩ := rmS_inr h0
  rw [u1, u2]
  refine ⟨by simpa using r1, by omega, by omega, ⟨_, _, h2⟩, ⟨_, _, h3⟩, ⟨_, _, h4⟩, fun q => ?_⟩
  obtain ⟨i3, n3⟩ := c3 q
  obtain ⟨i2, n2⟩ := mk_none (d2.symm.trans n3)
  obtain ⟨i1, n1⟩ := mk_none (d1.symm.trans n2)
  exact ⟨r3 ▸ n1, Option.isSome_iff_exists.mp i1, Option.isSome_iff_exists.mp i2⟩
theorem c_strand {A : RA} {t : Nat} {mk : Mk} (hW : WA v len mk A) (h : KCs v len Bc (.inr (t, mk)) A S) : RN (f_X4_readStrand 30 S) (fun _ S' => FZ Bc S S' ∧ KCs v len Bc (sr5 v len A t mk) (srA v len A t mk) S') := by
  obtain ⟨hr, ⟨h1, h2⟩, ⟨b0, b1, b2⟩, hN, ⟨q, q1, q2, q3⟩, hc⟩ := h
  obtain ⟨w1, w2, w3, w4, w5, w6⟩ := hW
  have hB := hr.1
  have room : ∃ S0, f_X4_readStrand 30 S = b_X4_readStrand_17 30 S0 ∧ FY S S0 ∧ SRc v len (sr0 A t mk) S0 := by
    unfold f_X4_readStrand sr0 rmS
    rw [rr_301 hr, b2]
    by_cases c : bS (rB A) < 8
    · rw [if_pos (show nI (bS (rB A)) < 8 from lt_l (b := 8) (by omega) (by omega) c), if_pos (decide_eq_true c)]
      exact ⟨S, rfl, FY.rf, h1, h2⟩
    · rw [if_neg (show ¬ nI (bS (rB A)) < 8 from nlt_l (b := 8) (by omega) (by omega) (by omega)), if_neg (by simpa using c), show (2 : Int32) = nI 2 from rfl, refuse_l hr h1, bdq]
      exact ⟨_, rfl, ⟨rfl, fun a k q => by rw [sI_ne (by omega), sI_ne (by omega)]⟩, DDc_of h1 (Or.inr rfl)⟩
  obtain ⟨S0, e0, f0, s0⟩ := room
  have r0 := FY_rr f0 hr
  obtain ⟨u1, S1, e1, -, f1, s1, -⟩ := take_S (k := 2) r0 s0 (by decide) (by decide) (by decide)
  have g1 := f0.tr f1
  have rr1 := FY_rr g1 hr
  obtain ⟨x2, S2, e2, f2, s2, l2⟩ := who_S (A := A) (lo := 0) (lk := f_X0_mermaidNamed Bc) (K := fun r S => b_X4_readStrand_58 30 r S) rr1 s1 (fun S' nm hf => by
    have g := g1.tr hf
    refine ⟨_, mN_run (FY_rr g hr) ((g.2 _ _ (by omega)).trans b0) w1, fun i hi en => ?_⟩
    subst en
    exact look_m w4 w1 (by intro k hk; rw [g.1]; exact hN k hk) hi)
  have g2 := g1.tr f2
  have rr2 := FY_rr g2 hr
  obtain ⟨x3, S3, e3, f3, s3, l3⟩ := who_S (A := A) (lo := 10) (lk := f_X0_personNamed Bc) (K := fun r S => b_X4_readStrand_95 30 x2 r S) rr2 s2 (fun S' nm hf => by
    have g := g2.tr hf
    refine ⟨_, pN_run (FY_rr g hr) ((g.2 _ _ (by omega)).trans b1) w2, fun i hi en => ?_⟩
    subst en
    exact look_p w4 w1 w2 (by intro k hk; rw [g.1]; exact hN k hk) hi)
  have g3 := g2.tr f3
  obtain ⟨x4, S4, e4, f4, s4, l4⟩ := num_R (lo := 1) (hi := 9) (FY_rr g3 hr) s3 (by decide) (by decide)
  have g4 := g3.tr f4
  obtain ⟨u7, S7, e7, -, f7, s7, -⟩ := take_S (k := 59) (FY_rr g4 hr) s4 (by decide) (by decide) (by decide)
  have g7 := g4.tr f7
  have r7 := FY_rr g7 hr
  obtain ⟨S8, e8, i8, o8, a8⟩ := addS_run (x := x2) (y := x3) (w := x4) r7 ((g7.2 _ _ (by omega)).trans b2) w3
  rw [e0]
  unfold b_X4_readStrand_17
  rw [show f_X4_take 30 2 S0 = some (nI u1, S1) from e1, bdq]
  have rrx : ∀ {S1' : St} {r : Int32}, f_X4_take 30 21 S1 = some (r, S1') → S1'.2.2 30 1 = Bc := fun {S1' r} hq => by
    obtain ⟨u, S', e, -, f, -, -⟩ := take_S (k := 21) rr1 s1 (by decide) (by decide) (by decide)
    have e' : some (nI u, S') = some (r, S1') := e.symm.trans hq
    cases e'
    exact rr_301 (FY_rr f rr1)
  have e2' : (bd (f_X4_take 30 (21 : Int32) S1) fun r4 S3 => (ix r4 401).bind fun j5 => bd (f_X0_mermaidNamed (S3.2.2 30 1) (S3.2.1 (S3.2.2 (S3.2.2 30 0) 2) j5) S3) fun r7 S6 => if r7 = (-1 : Int32) then (bd (f_X4_mark 30 (4 : Int32) r4 S6) fun _ S8 => b_X4_readStrand_58 30 r7 S8) else (b_X4_readStrand_58 30 r7 S6)) = b_X4_readStrand_58 30 x2 S2 := by
    rw [← e2]
    cases hq : f_X4_take 30 21 S1 with
    | none => rw [bdn, bdn]
    | some w =>
      obtain ⟨r, S1'⟩ := w
      rw [bdq, bdq, rrx hq]
  rw [e2']
  unfold b_X4_readStrand_58
  have rrz : ∀ {S1' : St} {r : Int32}, f_X4_take 30 21 S2 = some (r, S1') → S1'.2.2 30 1 = Bc := fun {S1' r} hq => by
    obtain ⟨u, S', e, -, f, -, -⟩ := take_S (k := 21) rr2 s2 (by decide) (by decide) (by decide)
    have e' : some (nI u, S') = some (r, S1') := e.symm.trans hq
    cases e'
    exact rr_301 (FY_rr f rr2)
  have e3' : (bd (f_X4_take 30 (21 : Int32) S2) fun r2 S1 => (ix r2 401).bind fun j3 => bd (f_X0_personNamed (S1.2.2 30 1) (S1.2.1 (S1.2.2 (S1.2.2 30 0) 2) j3) S1) fun r5 S4 => if r5 = (-1 : Int32) then (bd (f_X4_mark 30 (4 : Int32) r2 S4) fun _ S6 => b_X4_readStrand_95 30 x2 r5 S6) else (b_X4_readStrand_95 30 x2 r5 S4)) = b_X4_readStrand_95 30 x2 x3 S3 := by
    rw [← e3]
    cases hq : f_X4_take 30 21 S2 with
    | none => rw [bdn, bdn]
    | some w =>
      obtain ⟨r, S1'⟩ := w
      rw [bdq, bdq, rrz hq]
  rw [e3']
  unfold b_X4_readStrand_95
  rw [show f_X4_takeNumber 30 1 1 9 S3 = some (x4, S4) from e4, bdq, show f_X4_take 30 59 S4 = some (nI u7, S7) from e7, bdq, rr_301 r7, e8, bdq]
  have z : FZ Bc S S8 := (g7.fz hB).tr ⟨by rw [i8], fun a k _ h2 => o8 a k (by omega) (by omega) (by omega) (by omega), fun a k _ _ => by rw [i8], fun k => o8 _ _ (by omega) (by omega) (by omega) (by omega)⟩
  have s8 : SRc v len (sr5 v len A t mk) S8 := SRc_30 s7 (by rw [i8]) (fun a k ha => o8 _ _ (by omega) (by omega) (by omega) (by omega))
  refine RN_some ⟨z, by rw [i8]; exact r7, s8, ?_⟩
  cases hst : sr5 v len A t mk with
  | inl e => exact trivial
  | inr w =>
    obtain ⟨t', mk'⟩ := w
    obtain ⟨m1, m2, m3, m5, m6, m7, m10⟩ := sr_inr hst
    obtain ⟨a1, a2, a3, a4⟩ := a8 m1
    have o7 : ∀ a k, a ≠ 30 → (a = Bc → k ≠ 2) → a ≠ Bc + 4 → a ≠ Bc + 5 → a ≠ Bc + 13 → S8.1 a k = S.1 a k := fun a k h1 h2 h3 h4 h5 => (o8 a k h2 h3 h4 h5).trans (g7.2 a k (fun z => absurd z h1))
    refine ⟨⟨(o7 _ _ (by omega) (by omega) (by omega) (by omega) (by omega)).trans b0, (o7 _ _ (by omega) (by omega) (by omega) (by omega) (by omega)).trans b1, a1⟩, ?_, ⟨q, (o7 _ _ (by omega) (by omega) (by omega) (by omega) (by omega)).trans q1, by omega, fun k hk => RLq_set (q3 k hk) (Nat.le_refl _) (fun i => o7 _ _ (by omega) (by omega) (by omega) (by omega) (by omega)) (fun i => o7 _ _ (by omega) (by omega) (by omega) (by omega) (by omega)) (fun i => o7 _ _ (by omega) (by omega) (by omega) (by omega) (by omega))⟩, fun hn => ?_⟩
    · intro k hk
      rw [i8, g7.1]
      exact hN k hk
    · obtain ⟨mn, ⟨j1, jj1⟩, ⟨j2, jj2⟩⟩ := m10 hn
      obtain ⟨c1, c2, c3, c4, c5⟩ := hc mn
      refine ⟨(o7 _ _ (by omega) (by omega) (by omega) (by omega) (by omega)).trans c1, (o7 _ _ (by omega) (by omega) (by omega) (by omega) (by omega)).trans c2, fun p hp => (o7 _ _ (by omega) (by omega) (by omega) (by omega) (by omega)).trans (c3 p hp), fun e he => ?_, fun k hk => ?_⟩
      · have he : e < bS (rB A) + 1 := he
        rw [a3 e, a4 e]
        show _ = nI (updN (bWho (rB A)) (bS (rB A)) ((lkA v len A 0 (tkn (sr1 v len A t mk))).getD 0) e) ∧ _ = nI (updN (bLen (rB A)) (bS (rB A)) (vlV v len (tkn (sr3 v len A t mk))) e)
        by_cases ee : e = bS (rB A)
        · rw [if_pos ee, if_pos ee, ee, updN_at, updN_at, l4 m7, l2 m5, jj1]
          exact ⟨congrArg oI jj1, rfl⟩
        · rw [if_neg ee, if_neg ee, updN_ne ee, updN_ne ee]
          exact ⟨(g7.2 _ _ (by omega)).trans (c4 e (by omega)).1, (g7.2 _ _ (by omega)).trans (c4 e (by omega)).2⟩
      · rw [a2 k, l3 m6, (g7.2 _ _ (by omega)).trans (c5 k hk)]
        rfl
/-! the pier, the seed -/
def pi1 (v : Nat → Int32) (len : Nat) (w : Nat) (t : Nat) (mk : Mk) : Stt := tkS v len w (.inr (t, mk))
def pi2 (v : Nat → Int32) (len : Nat) (w hi : Nat) (t : Nat) (mk : Mk) : Stt := nuS v len (okR 0 hi) (pi1 v len w t mk)
def pi3 (v : Nat → Int32) (len : Nat) (w hi : Nat) (t : Nat) (mk : Mk) : Stt := tkS v len 59 (pi2 v len w hi t mk)
def piA (v : Nat → Int32) (len : Nat) (w : Nat) (A : RA) (t : Nat) (mk : Mk) : RA := if w = 7 then (((bM (rB A), bP (rB A), bS (rB A), vlV v len (tkn (pi1 v len w t mk)), bSeed (rB A)), (rB A).2), A.2) else (((bM (rB A), bP (rB A), bS (rB A), bPier (rB A), vlV v len (tkn (pi1 v len w t mk))), (rB A).2), A.2)
theorem pi_inr {w hi t t' : Nat} {mk mk' : Mk} (h : pi3 v len w hi t mk = .inr (t', mk')) : t + 2 < t' ∧ t' ≤ 400 ∧ liv (pi2 v len w hi t mk) ∧ (mk' = none → mk = none ∧ vlV v len (tkn (pi1 v len w t mk)) ≤ hi) := by
  obtain ⟨t2, h2, k2, l2, e2, -⟩ := tk_inr h
  obtain ⟨t1, m1, h1, k1, l1, e1, u1, c1⟩ := nu_inr h2
  obtain ⟨t0, h0, k0, l0, e0, -⟩ := tk_inr h1
  cases h0
  rw [u1]
  refine ⟨by omega, by omega, ⟨_, _, h2⟩, fun q => ?_⟩
  obtain ⟨i1, n1⟩ := c1 q
  have a1 : vlV v len t1 ≤ hi := by simpa [okR] using i1
  exact ⟨n1, a1⟩
theorem c_pier {A : RA} {t : Nat} {mk : Mk} (h : KCs v len Bc (.inr (t, mk)) A S) : RN (f_X4_readPier 30 S) (fun _ S' => FZ Bc S S' ∧ KCs v len Bc (pi3 v len 7 9 t mk) (piA v len 7 A t mk) S') := by
  obtain ⟨hr, hs, ⟨b0, b1, b2⟩, hN, ⟨q, q1, q2, q3⟩, hc⟩ := h
  have hB := hr.1
  obtain ⟨u1, S1, e1, -, f1, s1, -⟩ := take_S (k := 7) hr hs (by decide) (by decide) (by decide)
  obtain ⟨x3, S3, e3, f3, s3, l3⟩ := num_R (lo := 0) (hi := 9) (FY_rr f1 hr) s1 (by decide) (by decide)
  have g3 := f1.tr f3
  have s4 : SRc v len (pi2 v len 7 9 t mk) (sI S3 Bc 3 x3) := SRc_30 s3 rfl (fun a k ha => sI_ne (by omega))
  have r4 : RRf Bc (sI S3 Bc 3 x3).2.2 := (FY_rr g3 hr : RRf Bc S3.2.2)
  obtain ⟨u7, S7, e7, -, f7, s7, -⟩ := take_S (k := 59) r4 s4 (by decide) (by decide) (by decide)
  have o7 : ∀ a k, a ≠ 30 → (a = Bc → k ≠ 3) → S7.1 a k = S.1 a k := fun a k h1 h2 => (f7.2 a k (fun z => absurd z h1)).trans ((sI_ne (by omega)).trans (g3.2 a k (fun z => absurd z h1)))
  have i7 : S7.2 = S.2 := f7.1.trans g3.1
  unfold f_X4_readPier
  rw [show f_X4_take 30 7 S = some (nI u1, S1) from e1, bdq, show f_X4_takeNumber 30 1 0 9 S1 = some (x3, S3) from e3, bdq, nmq, rr_301 (FY_rr f1 hr), show f_X4_take 30 59 (sI S3 Bc 3 x3) = some (nI u7, S7) from e7, bdq]
  refine RN_some ⟨⟨by rw [i7], fun a k h1 h2 => ?_, fun a k _ _ => by rw [i7], fun k => o7 _ _ (by omega) (by omega)⟩, by rw [i7]; exact hr, s7, ?_⟩
  · exact (f7.2 a k h1).trans ((sI_ne (by omega)).trans (g3.2 a k h1))
  cases hst : pi3 v len 7 9 t mk with
  | inl e => exact trivial
  | inr w =>
    obtain ⟨t', mk'⟩ := w
    obtain ⟨m1, m2, m3, m4⟩ := pi_inr hst
    refine ⟨⟨(o7 _ _ (by omega) (by omega)).trans b0, (o7 _ _ (by omega) (by omega)).trans b1, (o7 _ _ (by omega) (by omega)).trans b2⟩, fun k hk => by rw [i7]; exact hN k hk, ⟨q, (o7 _ _ (by omega) (by omega)).trans q1, by omega, fun k hk => RLq_set (q3 k hk) (Nat.le_refl _) (fun i => o7 _ _ (by omega) (by omega)) (fun i => o7 _ _ (by omega) (by omega)) (fun i => o7 _ _ (by omega) (by omega))⟩, fun hn => ?_⟩
    obtain ⟨c1, c2, c3, c4, c5⟩ := hc (m4 hn).1
    refine ⟨?_, (o7 _ _ (by omega) (by omega)).trans c2, fun p hp => (o7 _ _ (by omega) (by omega)).trans (c3 p hp), fun e he => ⟨(o7 _ _ (by omega) (by omega)).trans (c4 e he).1, (o7 _ _ (by omega) (by omega)).trans (c4 e he).2⟩, fun k hk => (o7 _ _ (by omega) (by omega)).trans (c5 k hk)⟩
    rw [f7.2 _ _ (by omega), sI_at, l3 m3]
    rfl
theorem c_seed {A : RA} {t : Nat} {mk : Mk} (h : KCs v len Bc (.inr (t, mk)) A S) : RN (f_X4_readSeed 30 S) (fun _ S' => FZ Bc S S' ∧ KCs v len Bc (pi3 v len 8 9999 t mk) (piA v len 8 A t mk) S') := by
  obtain ⟨hr, hs, ⟨b0, b1, b2⟩, hN, ⟨q, q1, q2, q3⟩, hc⟩ := h
  have hB := hr.1
  obtain ⟨u1, S1, e1, -, f1, s1, -⟩ := take_S (k := 8) hr hs (by decide) (by decide) (by decide)
  obtain ⟨x3, S3, e3, f3, s3, l3⟩ := num_R (lo := 0) (hi := 9999) (FY_rr f1 hr) s1 (by decide) (by decide)
  have g3 := f1.tr f3
  have s4 : SRc v len (pi2 v len 8 9999 t mk) (sI S3 Bc 4 x3) := SRc_30 s3 rfl (fun a k ha => sI_ne (by omega))
  have r4 : RRf Bc (sI S3 Bc 4 x3).2.2 := (FY_rr g3 hr : RRf Bc S3.2.2)
  obtain ⟨u7, S7, e7, -, f7, s7, -⟩ := take_S (k := 59) r4 s4 (by decide) (by decide) (by decide)
  have o7 : ∀ a k, a ≠ 30 → (a = Bc → k ≠ 4) → S7.1 a k = S.1 a k := fun a k h1 h2 => (f7.2 a k (fun z => absurd z h1)).trans ((sI_ne (by omega)).trans (g3.2 a k (fun z => absurd z h1)))
  have i7 : S7.2 = S.2 := f7.1.trans g3.1
  unfold f_X4_readSeed
  rw [show f_X4_take 30 8 S = some (nI u1, S1) from e1, bdq, show f_X4_takeNumber 30 1 0 9999 S1 = some (x3, S3) from e3, bdq, nmq, rr_301 (FY_rr f1 hr), show f_X4_take 30 59 (sI S3 Bc 4 x3) = some (nI u7, S7) from e7, bdq]
  refine RN_some ⟨⟨by rw [i7], fun a k h1 h2 => ?_, fun a k _ _ => by rw [i7], fun k => o7 _ _ (by omega) (by omega)⟩, by rw [i7]; exact hr, s7, ?_⟩
  · exact (f7.2 a k h1).trans ((sI_ne (by omega)).trans (g3.2 a k h1))
  cases hst : pi3 v len 8 9999 t mk with
  | inl e => exact trivial
  | inr w =>
    obtain ⟨t', mk'⟩ := w
    obtain ⟨m1, m2, m3, m4⟩ := pi_inr hst
    refine ⟨⟨(o7 _ _ (by omega) (by omega)).trans b0, (o7 _ _ (by omega) (by omega)).trans b1, (o7 _ _ (by omega) (by omega)).trans b2⟩, fun k hk => by rw [i7]; exact hN k hk, ⟨q, (o7 _ _ (by omega) (by omega)).trans q1, by omega, fun k hk => RLq_set (q3 k hk) (Nat.le_refl _) (fun i => o7 _ _ (by omega) (by omega)) (fun i => o7 _ _ (by omega) (by omega)) (fun i => o7 _ _ (by omega) (by omega))⟩, fun hn => ?_⟩
    obtain ⟨c1, c2, c3, c4, c5⟩ := hc (m4 hn).1
    refine ⟨(o7 _ _ (by omega) (by omega)).trans c1, ?_, fun p hp => (o7 _ _ (by omega) (by omega)).trans (c3 p hp), fun e he => ⟨(o7 _ _ (by omega) (by omega)).trans (c4 e he).1, (o7 _ _ (by omega) (by omega)).trans (c4 e he).2⟩, fun k hk => (o7 _ _ (by omega) (by omega)).trans (c5 k hk)⟩
    rw [f7.2 _ _ (by omega), sI_at, l3 m3]
    rfl
end CSTN

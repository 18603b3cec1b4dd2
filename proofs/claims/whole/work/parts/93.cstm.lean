/-! the class reads MERMAIDS, PEOPLE, STRANDS, the pier, the seed -/
def updN {α : Type} (g : Nat → α) (k : Nat) (x : α) : Nat → α := fun j => if j = k then x else g j
theorem updN_at {α : Type} {g : Nat → α} {k : Nat} {x : α} : updN g k x k = x := if_pos rfl
theorem updN_ne {α : Type} {g : Nat → α} {k j : Nat} {x : α} (h : j ≠ k) : updN g k x j = g j := if_neg h
theorem In3_n {n : Nat} (h : n ≤ 3) : In3 (-(nI n)) := by
  have : ∀ n : Nat, n < 4 → -(nI n) = nI (3 - n) - 3 := by decide
  exact ⟨3 - n, by omega, this n (by omega)⟩
theorem In3_p {n : Nat} (h : n ≤ 3) : In3 (nI n) := by
  have : ∀ n : Nat, n < 4 → nI n = nI (n + 3) - 3 := by decide
  exact ⟨n + 3, by omega, this n (by omega)⟩
def rmS (c : Bool) (t : Nat) (mk : Mk) : Stt := if c then .inr (t, mk) else .inl (2, t)
theorem rmS_inr {c : Bool} {t t' : Nat} {mk mk' : Mk} (h : rmS c t mk = .inr (t', mk')) : c = true ∧ t' = t ∧ mk' = mk := by
  unfold rmS at h
  cases c with
  | true => rw [if_pos rfl] at h; cases h; exact ⟨rfl, rfl, rfl⟩
  | false => rw [if_neg (by decide)] at h; cases h
def totL : List (List Nat) → Nat
  | [] => 0
  | c :: cs => c.length + totL cs
/-- law k of the class is l, its codes below q -/
def RLq (Bc k : Nat) (l : Lw) (q : Nat) (S : St) : Prop := S.1 (Bc + 10) k = nI (3 * l.1.length + 1) ∧ ∃ p, PCs (Bc + 6) k (flat l.1 l.2) 0 p S ∧ p + totL (flat l.1 l.2) ≤ q
/-- what the book holds if nothing was marked -/
def CBn (Bc : Nat) (A : RA) (S : St) : Prop := S.1 Bc 3 = nI (bPier (rB A)) ∧ S.1 Bc 4 = nI (bSeed (rB A)) ∧ (∀ p, p < bP (rB A) → S.1 (Bc + 3) p = nI (bWt (rB A) p)) ∧ (∀ e, e < bS (rB A) → S.1 (Bc + 4) e = nI (bWho (rB A) e) ∧ S.1 (Bc + 5) e = nI (bLen (rB A) e)) ∧ ∀ k, k < 36 → S.1 (Bc + 13) k = rF A k
def KCb (v : Nat → Int32) (len Bc t : Nat) (mk : Mk) (A : RA) (S : St) : Prop := (S.1 Bc 0 = nI (bM (rB A)) ∧ S.1 Bc 1 = nI (bP (rB A)) ∧ S.1 Bc 2 = nI (bS (rB A))) ∧ NMc v len Bc A S ∧ (∃ q, S.1 (Bc + 6) 2 = nI q ∧ q ≤ t + 4 ∧ ∀ k, k < 4 → RLq Bc k (bLaw (rB A) k) q S) ∧ (mk = none → CBn Bc A S)
/-- only the reader's own numbers, and its book, are changed -/
def FZ (Bc : Nat) (S S' : St) : Prop := S'.2.2 = S.2.2 ∧ (∀ a k, (a = 30 → k < 2) → (a < Bc ∨ Bc + 13 < a) → S'.1 a k = S.1 a k) ∧ (∀ a k, a ≠ Bc + 1 → a ≠ Bc + 2 → S'.2.1 a k = S.2.1 a k) ∧ ∀ k, S'.1 (Bc + 12) k = S.1 (Bc + 12) k
def KCs (v : Nat → Int32) (len Bc : Nat) (st : Stt) (A : RA) (S : St) : Prop := RRf Bc S.2.2 ∧ SRc v len st S ∧ match st with
  | .inl _ => True
  | .inr (t, mk) => KCb v len Bc t mk A S
/-- what holds of what was read so far -/
def wfR (A : RA) : Prop := bPier (rB A) ≤ 9 ∧ bSeed (rB A) ≤ 9999 ∧ (∀ e, e < bS (rB A) → bWho (rB A) e < bM (rB A)) ∧ wfP (bM (rB A)) (bP (rB A)) (bS (rB A)) (rF A, 0, 0, 0, 0) ∧ (∀ m, bM (rB A) ≤ m → m < 4 → rF A m = 0 ∧ rF A (4 + m) = 0 ∧ rF A (8 + m) = 0 ∧ rF A (12 + m) = 0) ∧ (∀ p, bP (rB A) ≤ p → p < 6 → rF A (16 + p) = 0 ∧ rF A (22 + p) = 0) ∧ ∀ e, bS (rB A) ≤ e → e < 8 → rF A (28 + e) = 0
def WA (v : Nat → Int32) (len : Nat) (mk : Mk) (A : RA) : Prop := bM (rB A) ≤ 4 ∧ bP (rB A) ≤ 6 ∧ bS (rB A) ≤ 8 ∧ NI v len A ∧ (∀ k, k < 4 → wfL (bLaw (rB A) k)) ∧ (mk = none → wfR A)
section CSTM
variable {v : Nat → Int32} {len Bc : Nat} {S S' : St}
theorem FZ.rf : FZ Bc S S := ⟨rfl, fun _ _ _ _ => rfl, fun _ _ _ _ => rfl, fun _ => rfl⟩
theorem FZ.tr {S S' S'' : St} (h : FZ Bc S S') (h' : FZ Bc S' S'') : FZ Bc S S'' := ⟨h'.1.trans h.1, fun a k h1 h2 => (h'.2.1 a k h1 h2).trans (h.2.1 a k h1 h2), fun a k h1 h2 => (h'.2.2.1 a k h1 h2).trans (h.2.2.1 a k h1 h2), fun k => (h'.2.2.2 k).trans (h.2.2.2 k)⟩
theorem FY.fz (hB : Bc = 2 ∨ Bc = 16) (h : FY S S') : FZ Bc S S' := ⟨by rw [h.1], fun a k h1 _ => h.2 a k h1, fun a k _ _ => by rw [h.1], fun k => h.2 _ _ (by omega)⟩
theorem RLq_set {k q q' : Nat} {l : Lw} (h : RLq Bc k l q S) (hq : q ≤ q') (h8 : ∀ i, S'.1 (Bc + 8) i = S.1 (Bc + 8) i) (h9 : ∀ i, S'.1 (Bc + 9) i = S.1 (Bc + 9) i) (h10 : ∀ i, S'.1 (Bc + 10) i = S.1 (Bc + 10) i) : RLq Bc k l q' S' := by
  obtain ⟨h1, p, h2, h3⟩ := h
  exact ⟨(h10 _).trans h1, p, PCs_set h2 h9 h8, by omega⟩
theorem SRc_30 {st : Stt} (h : SRc v len st S) (h2 : S'.2.1 34 = S.2.1 34) (ho : ∀ a k, a = 30 ∨ a = 32 ∨ a = 33 → S'.1 a k = S.1 a k) : SRc v len st S' := by
  match st, h with
  | .inl (f, u), h => exact DDc_30 h (fun k => ho _ _ (Or.inl rfl))
  | .inr (t, mk), h =>
    obtain ⟨⟨a1, a2, a3, a4, a5, a6⟩, h2'⟩ := h
    refine ⟨⟨a1, (ho _ _ (Or.inl rfl)).trans a2, (ho _ _ (Or.inl rfl)).trans a3, a4, fun j h1 h2'' h3 => ?_, (ho _ _ (Or.inl rfl)).trans a6⟩, MKc_set h2' (ho _ _ (Or.inl rfl)) (ho _ _ (Or.inl rfl))⟩
    obtain ⟨b1, b2, b3⟩ := a5 j h1 h2'' h3
    refine ⟨(ho _ _ (by omega)).trans b1, (ho _ _ (by omega)).trans b2, fun q => ?_⟩
    rw [h2]
    exact b3 q
/-! a MERMAID -/
theorem addM_run {M : Nat} {nm : Int64} {x y sx sy : Int32} (hr : RRf Bc S.2.2) (h0 : S.1 Bc 0 = nI M) (hM : M ≤ 4) : ∃ S', f_X0_addMermaid Bc nm x y sx sy S = some ((), S') ∧ S'.2.2 = S.2.2 ∧ (∀ a k, (a = Bc → k ≠ 0) → a ≠ Bc + 13 → S'.1 a k = S.1 a k) ∧ (∀ a k, (a = Bc + 1 → k ≠ M) → S'.2.1 a k = S.2.1 a k) ∧ (M < 4 → S'.1 Bc 0 = nI (M + 1) ∧ S'.2.1 (Bc + 1) M = nm ∧ ∀ k, S'.1 (Bc + 13) k = if k = 12 + M then sy else if k = 8 + M then sx else if k = 4 + M then y else if k = 0 + M then x else S.1 (Bc + 13) k) := by
  unfold f_X0_addMermaid
  by_cases c : M < 4
  · have r2 : RRf Bc (sL S (Bc + 1) M nm).2.2 := hr
    have g2 : (sL S (Bc + 1) M nm).1 Bc 0 = nI M := h0
    have r4 : RRf Bc (sI (sL S (Bc + 1) M nm) (Bc + 13) (0 + M) x).2.2 := hr
    have g4 : (sI (sL S (Bc + 1) M nm) (Bc + 13) (0 + M) x).1 Bc 0 = nI M := (sI_ne (by omega)).trans g2
    have r6 : RRf Bc (sI (sI (sL S (Bc + 1) M nm) (Bc + 13) (0 + M) x) (Bc + 13) (4 + M) y).2.2 := hr
    have g6 : (sI (sI (sL S (Bc + 1) M nm) (Bc + 13) (0 + M) x) (Bc + 13) (4 + M) y).1 Bc 0 = nI M := (sI_ne (by omega)).trans g4
    have r8 : RRf Bc (sI (sI (sI (sL S (Bc + 1) M nm) (Bc + 13) (0 + M) x) (Bc + 13) (4 + M) y) (Bc + 13) (8 + M) sx).2.2 := hr
    have g8 : (sI (sI (sI (sL S (Bc + 1) M nm) (Bc + 13) (0 + M) x) (Bc + 13) (4 + M) y) (Bc + 13) (8 + M) sx).1 Bc 0 = nI M := (sI_ne (by omega)).trans g6
    have g10 : (sI (sI (sI (sI (sL S (Bc + 1) M nm) (Bc + 13) (0 + M) x) (Bc + 13) (4 + M) y) (Bc + 13) (8 + M) sx) (Bc + 13) (12 + M) sy).1 Bc 0 = nI M := (sI_ne (by omega)).trans g8
    rw [h0, if_neg (show ¬ (4 : Int32) ≤ nI M from nle_l (a := 4) (by omega) (by omega) c), ix_nI c (by decide), obq, nmq, rr_b5 hr, g2, show (0 : Int32) + nI M = nI (0 + M) from nI_add 0 M, ix_nI (show 0 + M < 36 by omega) (by decide), obq, nmq, rr_b11 r2, rr_s r2, g4, show (4 : Int32) + nI M = nI (4 + M) from nI_add 4 M, ix_nI (show 4 + M < 36 by omega) (by decide), obq, nmq, rr_b11 r4, rr_s r4, g6, show (8 : Int32) + nI M = nI (8 + M) from nI_add 8 M, ix_nI (show 8 + M < 36 by omega) (by decide), obq, nmq, rr_b11 r6, rr_s r6, g8, show (12 : Int32) + nI M = nI (12 + M) from nI_add 12 M, ix_nI (show 12 + M < 36 by omega) (by decide), obq, nmq, rr_b11 r8, rr_s r8, nmq, g10, nI_1]
    refine ⟨_, rfl, rfl, fun a k h1 h2 => ?_, fun a k h1 => ?_, fun _ => ⟨sI_at, ?_, fun k => ?_⟩⟩
    · rw [sI_ne (by omega), sI_ne (Or.inl h2), sI_ne (Or.inl h2), sI_ne (Or.inl h2), sI_ne (Or.inl h2), sL_1]
    · show (sL S (Bc + 1) M nm).2.1 a k = S.2.1 a k
      rw [sL_2, if_neg (by omega)]
    · show (sL S (Bc + 1) M nm).2.1 (Bc + 1) M = nm
      rw [sL_2, if_pos ⟨rfl, rfl⟩]
    · rw [sI_ne (Or.inl (by omega))]
      simp only [sI_1, eq_self, true_and, sL_1]
  · rw [h0, if_pos (show (4 : Int32) ≤ nI M from le_l (a := 4) (by omega) (by omega) (by omega))]
    exact ⟨S, rfl, rfl, fun _ _ _ _ => rfl, fun _ _ _ => rfl, fun q => absurd q c⟩
def me0 (A : RA) (t : Nat) (mk : Mk) : Stt := rmS (decide (bM (rB A) < 4)) t mk
def me1 (v : Nat → Int32) (len : Nat) (A : RA) (t : Nat) (mk : Mk) : Stt := tkS v len 0 (me0 A t mk)
def me2 (v : Nat → Int32) (len : Nat) (A : RA) (t : Nat) (mk : Mk) : Stt := naS v len (dupA v len A) (me1 v len A t mk)
def me3 (v : Nat → Int32) (len : Nat) (A : RA) (t : Nat) (mk : Mk) : Stt := nuS v len (okR 0 9) (me2 v len A t mk)
def me4 (v : Nat → Int32) (len : Nat) (A : RA) (t : Nat) (mk : Mk) : Stt := nuS v len (okR 0 9) (me3 v len A t mk)
def me5 (v : Nat → Int32) (len : Nat) (A : RA) (t : Nat) (mk : Mk) : Stt := spS v len (me4 v len A t mk)
def me6 (v : Nat → Int32) (len : Nat) (A : RA) (t : Nat) (mk : Mk) : Stt := spS v len (me5 v len A t mk)
def me7 (v : Nat → Int32) (len : Nat) (A : RA) (t : Nat) (mk : Mk) : Stt := tkS v len 59 (me6 v len A t mk)
def meF (A : RA) (x y sx sy : Int32) : Nat → Int32 := fun k => if k = 12 + bM (rB A) then sy else if k = 8 + bM (rB A) then sx else if k = 4 + bM (rB A) then y else if k = 0 + bM (rB A) then x else rF A k
def meN (A : RA) (i : Nat) (x y sx sy : Int32) : RA := (((bM (rB A) + 1, (rB A).1.2), (rB A).2), meF A x y sx sy, updN (rT A) (rN A) i, updN (rA A) (rN A) (bM (rB A)))
def meA (v : Nat → Int32) (len : Nat) (A : RA) (t : Nat) (mk : Mk) : RA := meN A (tkn (me1 v len A t mk)) (nI (vlV v len (tkn (me2 v len A t mk)))) (nI (vlV v len (tkn (me3 v len A t mk)))) (spV v len (me4 v len A t mk)) (spV v len (me5 v len A t mk))
theorem mk_none {c : Bool} {mk : Mk} {k p : Nat} (h : (if c = true then mk else mkS mk k p) = none) : c = true ∧ mk = none := by
  cases c with
  | true => rw [if_pos rfl] at h; exact ⟨rfl, h⟩
  | false => rw [if_neg (by decide)] at h; exact absurd h mkS_some
theorem mk_none2 {c : Bool} {mk : Mk} {k p : Nat} (h : (if c = true then mkS mk k p else mk) = none) : c = false ∧ mk = none := by
  cases c with
  | false => rw [if_neg (by decide)] at h; exact ⟨rfl, h⟩
  | true => rw [if_pos rfl] at h; exact absurd h mkS_some
theorem nu_inr {st : Stt} {ok : Nat → Bool} {t' : Nat} {mk' : Mk} (h : nuS v len ok st = .inr (t', mk')) : ∃ t mk, st = .inr (t, mk) ∧ kdT v len t = 22 ∧ t < 400 ∧ t' = t + 1 ∧ tkn st = t ∧ (mk' = none → ok (vlV v len t) = true ∧ mk = none) := by
  obtain ⟨t, mk, h1, h2, h3, h4, h5⟩ := adv_inr h
  exact ⟨t, mk, h1, h2, h3, h4, by rw [h1]; rfl, fun q => mk_none (h5.symm.trans q)⟩
theorem tk_inr {st : Stt} {k t' : Nat} {mk' : Mk} (h : tkS v len k st = .inr (t', mk')) : ∃ t, st = .inr (t, mk') ∧ kdT v len t = k ∧ t < 400 ∧ t' = t + 1 ∧ tkn st = t := by
  obtain ⟨t, mk, h1, h2, h3, h4, h5⟩ := adv_inr h
  subst h5
  exact ⟨t, h1, h2, h3, h4, by rw [h1]; rfl⟩
theorem sp_inr {st : Stt} {t' : Nat} {mk' : Mk} (h : spS v len st = .inr (t', mk')) : ∃ t mk, st = .inr (t, mk) ∧ t < t' ∧ t' ≤ 400 ∧ (mk' = none → In3 (spV v len st) ∧ mk = none) := by
  obtain ⟨t, mk, h1, h2, h3, h4⟩ := spS_inr h
  refine ⟨t, mk, h1, h2, h3, fun q => ?_⟩
  have e : spV v len st = if kdT v len t = 45 then -(nI (vlV v len (t + 1))) else nI (vlV v len t) := by rw [h1]; rfl
  rw [e]
  rcases h4 with ⟨g1, g2, g3, g4⟩ | ⟨g1, g2, g3, g4⟩
  · rw [if_pos g1]
    obtain ⟨o, m⟩ := mk_none (g4.symm.trans q)
    have hn : vlV v len (t + 1) ≤ 3 := by simpa [ok3] using o
    exact ⟨In3_n hn, m⟩
  · rw [if_neg g1]
    obtain ⟨o, m⟩ := mk_none (g4.symm.trans q)
    have hn : vlV v len t ≤ 3 := by simpa [ok3] using o
    exact ⟨In3_p hn, m⟩
theorem me_inr {A : RA} {t t' : Nat} {mk mk' : Mk} (h : me7 v len A t mk = .inr (t', mk')) : bM (rB A) < 4 ∧ t + 6 < t' ∧ t' ≤ 400 ∧ kdT v len (tkn (me1 v len A t mk)) = 21 ∧ liv (me2 v len A t mk) ∧ liv (me3 v len A t mk) ∧ liv (me4 v len A t mk) ∧ liv (me5 v len A t mk) ∧ liv (me6 v len A t mk) ∧ (mk' = none → mk = none ∧ dupA v len A (tkn (me1 v len A t mk)) = false ∧ vlV v len (tkn (me2 v len A t mk)) ≤ 9 ∧ vlV v len (tkn (me3 v len A t mk)) ≤ 9 ∧ In3 (spV v len (me4 v len A t mk)) ∧ In3 (spV v len (me5 v len A t mk))) := by
  obtain ⟨t6, h6, k6, l6, e6, -⟩ := tk_inr h
  obtain ⟨t5, m5, h5, l5, l5', c5⟩ := sp_inr h6
  obtain ⟨t4, m4, h4, l4, l4', c4⟩ := sp_inr h5
  obtain ⟨t3, m3, h3, k3, l3, e3, u3, c3⟩ := nu_inr h4
  obtain ⟨t2, m2, h2, k2, l2, e2, u2, c2⟩ := nu_inr h3
  obtain ⟨t1, m1, h1, k1, l1, e1, d1⟩ := adv_inr h2
  have u1 : tkn (me1 v len A t mk) = t1 := by rw [h1]; rfl
  obtain ⟨t0, h0, k0, l0, e0, -⟩ := tk_inr h1
  obtain ⟨r1, r2, r3⟩ := rmS_inr h0
  rw [u1, u2, u3]
  refine ⟨by simpa using r1, by omega, by omega, k1, ⟨_, _, h2⟩, ⟨_, _, h3⟩, ⟨_, _, h4⟩, ⟨_, _, h5⟩, ⟨_, _, h6⟩, fun q => ?_⟩
  obtain ⟨i5, n5⟩ := c5 q
  obtain ⟨i4, n4⟩ := c4 n5
  obtain ⟨i3, n3⟩ := c3 n4
  obtain ⟨i2, n2⟩ := c2 n3
  obtain ⟨i1, n1⟩ := mk_none2 (d1.symm.trans n2)
  have a3 : vlV v len t3 ≤ 9 := by simpa [okR] using i3
  have a2 : vlV v len t2 ≤ 9 := by simpa [okR] using i2
  exact ⟨r3 ▸ n1, i1, a2, a3, i4, i5⟩
theorem NMc_new {A A' : RA} {i at' : Nat} (hN : NI v len A) (hm4 : bM (rB A) ≤ 4) (hS : NMc v len Bc A S) (hT : rT A' = updN (rT A) (rN A) i) (hA : rA A' = updN (rA A) (rN A) at') (hn : rN A' = rN A + 1) (ha : at' = bM (rB A) ∧ bM (rB A) < 4 ∧ S'.2.1 (Bc + 1) at' = Int64.ofNat (vlV v len i) ∧ (∀ a k, (a = Bc + 1 → k ≠ at') → S'.2.1 a k = S.2.1 a k) ∨ at' = 10 + bP (rB A) ∧ S'.2.1 (Bc + 2) (at' - 10) = Int64.ofNat (vlV v len i) ∧ ∀ a k, (a = Bc + 2 → k ≠ at' - 10) → S'.2.1 a k = S.2.1 a k) : NMc v len Bc A' S' := by
  intro k hk
  rw [hT, hA]
  by_cases e : k = rN A
  · subst e
    rw [updN_at, updN_at]
    rcases ha with ⟨a1, a2, a3, a4⟩ | ⟨a1, a3, a4⟩
    · exact ⟨fun _ => a3, fun q => by omega⟩
    · exact ⟨fun q => by omega, fun _ => a3⟩
  · rw [updN_ne e, updN_ne e]
    have hk' : k < rN A := by omega
    obtain ⟨s1, s2⟩ := hS k hk'
    have n3 := (hN.2.2.1 k hk').1
    rcases ha with ⟨a1, a2, a3, a4⟩ | ⟨a1, a3, a4⟩
    · exact ⟨fun q => (a4 _ _ (fun _ => by omega)).trans (s1 q), fun q => (a4 _ _ (fun z => by omega)).trans (s2 q)⟩
    · exact ⟨fun q => (a4 _ _ (fun z => by omega)).trans (s1 q), fun q => (a4 _ _ (fun _ => by omega)).trans (s2 q)⟩
theorem c_mermaid {A : RA} {t : Nat} {mk : Mk} (hW : WA v len mk A) (h : KCs v len Bc (.inr (t, mk)) A S) : RN (f_X4_readMermaid 30 S) (fun _ S' => FZ Bc S S' ∧ KCs v len Bc (me7 v len A t mk) (meA v len A t mk) S') := by
  obtain ⟨hr, ⟨h1, h2⟩, ⟨b0, b1, b2⟩, hN, ⟨q, q1, q2, q3⟩, hc⟩ := h
  obtain ⟨w1, w2, w3, w4, w5, w6⟩ := hW
  have hB := hr.1
  have room : ∃ S0, f_X4_readMermaid 30 S = b_X4_readMermaid_16 30 S0 ∧ FY S S0 ∧ SRc v len (me0 A t mk) S0 := by
    unfold f_X4_readMermaid me0 rmS
    rw [rr_301 hr, b0]
    by_cases c : bM (rB A) < 4
    · rw [if_pos (show nI (bM (rB A)) < 4 from lt_l (b := 4) (by omega) (by omega) c), if_pos (decide_eq_true c)]
      exact ⟨S, rfl, FY.rf, h1, h2⟩
    · rw [if_neg (show ¬ nI (bM (rB A)) < 4 from nlt_l (b := 4) (by omega) (by omega) (by omega)), if_neg (by simpa using c), show (2 : Int32) = nI 2 from rfl, refuse_l hr h1, bdq]
      exact ⟨_, rfl, ⟨rfl, fun a k q => by rw [sI_ne (by omega), sI_ne (by omega)]⟩, DDc_of h1 (Or.inr rfl)⟩
  obtain ⟨S0, e0, f0, s0⟩ := room
  have r0 := FY_rr f0 hr
  obtain ⟨u1, S1, e1, -, f1, s1, -⟩ := take_S (k := 0) r0 s0 (by decide) (by decide) (by decide)
  have g1 := f0.tr f1
  obtain ⟨n2, S2, e2, f2, s2, l2⟩ := newName_S (FY_rr g1 hr) s1 w4 w1 w2 ((g1.2 _ _ (by omega)).trans b0) ((g1.2 _ _ (by omega)).trans b1) (by intro k hk; rw [g1.1]; exact hN k hk)
  have g2 := g1.tr f2
  obtain ⟨x3, S3, e3, f3, s3, l3⟩ := num_R (lo := 0) (hi := 9) (FY_rr g2 hr) s2 (by decide) (by decide)
  have g3 := g2.tr f3
  obtain ⟨x4, S4, e4, f4, s4, l4⟩ := num_R (lo := 0) (hi := 9) (FY_rr g3 hr) s3 (by decide) (by decide)
  have g4 := g3.tr f4
  obtain ⟨x5, S5, e5, f5, s5, l5⟩ := step_S (FY_rr g4 hr) s4
  have g5 := g4.tr f5
  obtain ⟨x6, S6, e6, f6, s6, l6⟩ := step_S (FY_rr g5 hr) s5
  have g6 := g5.tr f6
  obtain ⟨u7, S7, e7, -, f7, s7, -⟩ := take_S (k := 59) (FY_rr g6 hr) s6 (by decide) (by decide) (by decide)
  have g7 := g6.tr f7
  have r7 := FY_rr g7 hr
  obtain ⟨S8, e8, i8, o8, p8, a8⟩ := addM_run (nm := n2) (x := x3) (y := x4) (sx := x5) (sy := x6) r7 ((g7.2 _ _ (by omega)).trans b0) w1
  rw [e0]
  unfold b_X4_readMermaid_16
  rw [show f_X4_take 30 0 S0 = some (nI u1, S1) from e1, bdq, e2, bdq, show f_X4_takeNumber 30 1 0 9 S2 = some (x3, S3) from e3, bdq, show f_X4_takeNumber 30 1 0 9 S3 = some (x4, S4) from e4, bdq, e5, bdq, e6, bdq, show f_X4_take 30 59 S6 = some (nI u7, S7) from e7, bdq, rr_301 r7, e8, bdq]
  have z : FZ Bc S S8 := (g7.fz hB).tr ⟨i8, fun a k _ h2 => o8 a k (by omega) (by omega), fun a k h1 _ => p8 a k (fun z => absurd z h1), fun k => o8 _ _ (by omega) (by omega)⟩
  have s8 : SRc v len (me7 v len A t mk) S8 := SRc_30 s7 (by funext k; exact p8 _ _ (by omega)) (fun a k ha => o8 _ _ (by omega) (by omega))
  refine RN_some ⟨z, by rw [i8]; exact r7, s8, ?_⟩
  cases hst : me7 v len A t mk with
  | inl e => exact trivial
  | inr w =>
    obtain ⟨t', mk'⟩ := w
    obtain ⟨m1, m2, m3, m4, m5, m6, m7, m8, m9, m10⟩ := me_inr hst
    obtain ⟨a1, a2, a3⟩ := a8 m1
    have o7 : ∀ a k, a ≠ 30 → (a = Bc → k ≠ 0) → a ≠ Bc + 13 → S8.1 a k = S.1 a k := fun a k h1 h2 h3 => (o8 a k h2 h3).trans (g7.2 a k (fun z => absurd z h1))
    refine ⟨⟨a1, (o7 _ _ (by omega) (by omega) (by omega)).trans b1, (o7 _ _ (by omega) (by omega) (by omega)).trans b2⟩, ?_, ⟨q, (o7 _ _ (by omega) (by omega) (by omega)).trans q1, by omega, fun k hk => RLq_set (q3 k hk) (Nat.le_refl _) (fun i => o7 _ _ (by omega) (by omega) (by omega)) (fun i => o7 _ _ (by omega) (by omega) (by omega)) (fun i => o7 _ _ (by omega) (by omega) (by omega))⟩, fun hn => ?_⟩
    · refine NMc_new w4 w1 hN rfl rfl (show bM (rB A) + 1 + bP (rB A) = bM (rB A) + bP (rB A) + 1 by omega) (Or.inl ⟨rfl, m1, a2.trans (l2 m5), fun a k hh => ?_⟩)
      rw [p8 a k hh, g7.1]
    · obtain ⟨c1, c2, c3, c4, c5⟩ := hc (m10 hn).1
      refine ⟨(o7 _ _ (by omega) (by omega) (by omega)).trans c1, (o7 _ _ (by omega) (by omega) (by omega)).trans c2, fun p hp => (o7 _ _ (by omega) (by omega) (by omega)).trans (c3 p hp), fun e he => ⟨(o7 _ _ (by omega) (by omega) (by omega)).trans (c4 e he).1, (o7 _ _ (by omega) (by omega) (by omega)).trans (c4 e he).2⟩, fun k hk => ?_⟩
      rw [a3 k, l3 m6, l4 m7, l5 m8, l6 m9, (g7.2 _ _ (by omega)).trans (c5 k hk)]
      rfl
end CSTM

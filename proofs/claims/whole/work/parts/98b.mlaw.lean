/-! the reference reads a LAW -/
section MLW
variable {v : Nat → Int32} {len sd : Nat} {S S' : St}
theorem ps_mono {t t2 : Nat} (hg : gdT v len t2) (h : t ≤ t2) : psT v len t ≤ psT v len t2 := by
  have : ∀ n t, t + n = t2 → psT v len t ≤ psT v len t2 := by
    intro n
    induction n with
    | zero =>
      intro t e
      have e : t = t2 := by omega
      rw [e]
      exact Nat.le_refl _
    | succ n ih =>
      intro t e
      exact Nat.le_trans (Nat.le_of_lt (ps_lt (hg t (by omega)).1)) (ih (t + 1) (by omega))
  exact this (t2 - t) t (by omega)
def CX1 (sd : Nat) (st : Stt) (q : Nat) (S : St) : Prop := ∀ t mk, st = .inr (t, mk) → S.1 140 12 = 0 ∧ S.1 140 43 = nI (420 * sd + q) ∧ q ≤ t
theorem CX1_set {st : Stt} {q : Nat} (h : CX1 sd st q S) (h12 : S'.1 140 12 = S.1 140 12) (h43 : S'.1 140 43 = S.1 140 43) : CX1 sd st q S' := fun t mk e => ⟨h12.trans (h t mk e).1, h43.trans (h t mk e).2.1, (h t mk e).2.2⟩
/-- only a sum was read -/
def FE (sd q : Nat) (S S' : St) : Prop := S'.2 = S.2 ∧ ∀ a k, (a = 140 → k < 11 ∨ (14 < k ∧ k ≠ 43 ∧ k ≠ 47)) → (a = 169 ∨ a = 170 → k < 420 * sd + q ∨ 420 * sd + 420 ≤ k) → a ≠ 171 → S'.1 a k = S.1 a k
theorem mex_S {st : Stt} {q : Nat} (hsd : sd < 2) (hr : RFM S.2.2) (h : SRm v len st S) (hc : CX1 sd st q S) : ∃ S', f_X10_expression 140 S = some ((), S') ∧ SRm v len (suS v len st) S' ∧ CX1 sd (suS v len st) (q + (suC v len st).length) S' ∧ FE sd q S S' ∧ (liv (suS v len st) → CDm (420 * sd + q) (suC v len st) S') := by
  match st, h, hc with
  | .inl (f, u), h, _ =>
    refine ⟨_, msum_d h, SRm_o (st := .inl (f, u)) h rfl (fun a k ha => sI_ne (by omega)), fun t mk e => (by cases e), ⟨rfl, fun a k h1 _ _ => sI_ne (by omega)⟩, fun q => absurd q not_liv⟩
  | .inr (t, mk), h, hc =>
    obtain ⟨c1, c2, c3⟩ := hc t mk rfl
    obtain ⟨h1, h2, h3⟩ := h
    obtain ⟨_, S1, e1, x1, x2, x3⟩ := msum_run (hi := 420 * sd + 407) hr h1 c1 c2 (by omega) (by omega)
    have fe : FE sd q S S1 := ⟨x1.1, fun a k z1 z2 z3 => by
      by_cases c : a = 169 ∨ a = 170
      · rcases c with c | c
        · subst c; exact (x2 k (by have := z2 (Or.inl rfl); omega)).1
        · subst c; exact (x2 k (by have := z2 (Or.inr rfl); omega)).2
      · exact x1.2 a k (by omega) (by omega)⟩
    have hS : suS v len (.inr (t, mk)) = (match sumR (kdV v len) (vlV v len) 9 0 t with | .inl e => (.inl e : Stt) | .inr (t2, _) => .inr (t2, mk)) := rfl
    have hC : suC v len (.inr (t, mk)) = (match sumR (kdV v len) (vlV v len) 9 0 t with | .inl _ => [] | .inr (_, c) => c) := rfl
    refine ⟨S1, e1, ?_, ?_, fe, ?_⟩
    · rw [hS]
      cases hs : sumR (kdV v len) (vlV v len) 9 0 t with
      | inl e =>
        obtain ⟨f, u⟩ := e
        rw [hs] at x3
        exact x3.1
      | inr w =>
        obtain ⟨t2, c⟩ := w
        rw [hs] at x3
        obtain ⟨g1, g2, g3, g4⟩ := sum_wfd (fun t ht => vl_lt ht) h1.1 hs
        refine ⟨x3.1, MKm_set h2 (fe.2 _ _ (by omega) (by omega) (by omega)) (fe.2 _ _ (by omega) (by omega) (by omega)), fun k p e => Nat.lt_of_lt_of_le (h3 k p e) (ps_mono x3.1.2.2.2.1 (by omega))⟩
    · rw [hS, hC]
      cases hs : sumR (kdV v len) (vlV v len) 9 0 t with
      | inl e => exact fun t mk q => (by cases q)
      | inr w =>
        obtain ⟨t2, c⟩ := w
        rw [hs] at x3
        obtain ⟨g1, g2, g3, g4⟩ := sum_wfd (fun t ht => vl_lt ht) h1.1 hs
        intro t' mk' e
        cases e
        refine ⟨x3.2.2.2, ?_, ?_⟩
        · rw [x3.2.1, Nat.add_assoc]
        · show q + c.length ≤ _
          omega
    · rw [hS, hC]
      cases hs : sumR (kdV v len) (vlV v len) 9 0 t with
      | inl e => exact fun q => absurd q not_liv
      | inr w =>
        obtain ⟨t2, c⟩ := w
        rw [hs] at x3
        exact fun _ => x3.2.2.1
theorem gex_S {st : Stt} {q : Nat} {K : St → Option (Unit × St)} (hsd : sd < 2) (hr : RFM S.2.2) (h : SRm v len st S) (hc : CX1 sd st q S) : ∃ S', (if S.1 140 13 = 0 then (bd (f_X10_expression 140 S) fun _ S1 => K S1) else (K S)) = K S' ∧ SRm v len (suS v len st) S' ∧ CX1 sd (suS v len st) (q + (suC v len st).length) S' ∧ FE sd q S S' ∧ (liv (suS v len st) → CDm (420 * sd + q) (suC v len st) S') := by
  match st, h, hc with
  | .inl (f, u), h, _ =>
    have h' : DDm f (psT v len u) S := h
    rw [if_neg (by rw [h'.1]; exact f_nz h'.2.2.1)]
    exact ⟨S, rfl, h, fun t mk e => (by cases e), ⟨rfl, fun _ _ _ _ _ => rfl⟩, fun q => absurd q not_liv⟩
  | .inr (t, mk), h, hc =>
    obtain ⟨S1, e1, s1⟩ := mex_S hsd hr h hc
    rw [if_pos h.1.2.2.1, e1, bdq]
    exact ⟨S1, rfl, s1⟩
theorem mmust_S {st : Stt} {k m q : Nat} (hr : RFM S.2.2) (h : SRm v len st S) (hm : m < 128) (hkm : ∀ x, x < 128 → (kmN x = m ↔ x = k)) (h23 : k ≠ 23) (h24 : k ≠ 24) (hc : CX1 sd st q S) : ∃ S', f_X10_must 140 (nI m) S = some ((), S') ∧ FN S S' ∧ SRm v len (tkS v len k st) S' ∧ CX1 sd (tkS v len k st) q S' := by
  obtain ⟨S1, e1, f1, s1⟩ := must_S hr h hm hkm h23 h24
  refine ⟨S1, e1, f1, s1, fun t mk e => ?_⟩
  obtain ⟨t0, g0, -, -, e0, -⟩ := tk_inr e
  obtain ⟨c1, c2, c3⟩ := hc t0 mk g0
  exact ⟨(f1.2 _ _ (by omega)).trans c1, (f1.2 _ _ (by omega)).trans c2, by omega⟩
theorem su_liv {st : Stt} (h : liv (suS v len st)) : liv st := by
  match st, h with
  | .inl e, h => exact absurd h not_liv
  | .inr (t, mk), _ => exact ⟨t, mk, rfl⟩
theorem tk_liv {st : Stt} {k : Nat} (h : liv (tkS v len k st)) : liv st := by
  obtain ⟨t, mk, e⟩ := h
  obtain ⟨t0, g0, -⟩ := tk_inr e
  exact ⟨t0, mk, g0⟩
theorem term_S {st : Stt} {q br : Nat} (hsd : sd < 2) (hbr : br < 130) (hr : RFM S.2.2) (h : SRm v len st S) (hc : CX1 sd st q S) (hI : S.1 140 37 = nI (130 * sd + br)) : ∃ S', f_X10_term 140 S = some ((), S') ∧ SRm v len (suS v len st) S' ∧ CX1 sd (suS v len st) (q + (suC v len st).length) S' ∧ S'.1 140 37 = nI (130 * sd + br + 1) ∧ S'.2 = S.2 ∧ (∀ a k, (a = 140 → k < 11 ∨ (14 < k ∧ k ≠ 37 ∧ k ≠ 43 ∧ k ≠ 47)) → (a = 167 ∨ a = 168 → k ≠ 130 * sd + br) → (a = 169 ∨ a = 170 → k < 420 * sd + q ∨ 420 * sd + 420 ≤ k) → a ≠ 171 → S'.1 a k = S.1 a k) ∧ (liv (suS v len st) → CDm (420 * sd + q) (suC v len st) S' ∧ S'.1 167 (130 * sd + br) = nI (420 * sd + q) ∧ S'.1 168 (130 * sd + br) = nI (420 * sd + q + (suC v len st).length)) := by
  unfold f_X10_term
  rw [hI, ix_nI (show 130 * sd + br < 260 by omega) (by decide), obq, nmq, rq_41 hr]
  have r2 : RFM (sI S 167 (130 * sd + br) (S.1 140 43)).2.2 := hr
  have s2 : SRm v len st (sI S 167 (130 * sd + br) (S.1 140 43)) := SRm_o h rfl (fun a k ha => sI_ne (by omega))
  have c2 : CX1 sd st q (sI S 167 (130 * sd + br) (S.1 140 43)) := CX1_set hc (sI_ne (by omega)) (sI_ne (by omega))
  obtain ⟨S3, e3, s3, c3, f3, d3⟩ := gex_S (K := b_X10_term_24 140) hsd r2 s2 c2
  rw [e3]
  have r3 : RFM S3.2.2 := by rw [f3.1]; exact hr
  have I3 : S3.1 140 37 = nI (130 * sd + br) := (f3.2 _ _ (by omega) (by omega) (by omega)).trans ((sI_ne (by omega)).trans hI)
  have I4 : (sI S3 168 (130 * sd + br) (S3.1 140 43)).1 140 37 = nI (130 * sd + br) := (sI_ne (by omega)).trans I3
  unfold b_X10_term_24
  rw [I3, ix_nI (show 130 * sd + br < 260 by omega) (by decide), obq, nmq, rq_42 r3, nmq, I4, nI_1]
  have o : ∀ a k, (a = 140 → k ≠ 37) → (a = 168 → k ≠ 130 * sd + br) → (sI (sI S3 168 (130 * sd + br) (S3.1 140 43)) 140 37 (nI (130 * sd + br + 1))).1 a k = S3.1 a k := fun a k z1 z2 => by rw [sI_ne (by omega), sI_ne (by omega)]
  refine ⟨_, rfl, SRm_o s3 rfl (fun a k ha => o a k (by omega) (by omega)), CX1_set c3 (o _ _ (by omega) (by omega)) (o _ _ (by omega) (by omega)), sI_at, f3.1, fun a k z1 z2 z3 z4 => ?_, fun hl => ?_⟩
  · rw [o a k (by omega) (by omega), f3.2 a k (by omega) z3 z4, sI_ne (by omega)]
  · obtain ⟨t, mk, es⟩ := su_liv hl
    obtain ⟨t', mk', es'⟩ := hl
    refine ⟨CDm_k (d3 ⟨t', mk', es'⟩) (Nat.le_refl _) (fun k _ => ⟨o _ _ (by omega) (by omega), o _ _ (by omega) (by omega)⟩), ?_, ?_⟩
    · rw [o _ _ (by omega) (by omega), f3.2 _ _ (by omega) (by omega) (by omega), sI_at]
      exact (hc t mk es).2.1
    · rw [sI_ne (by omega), sI_at, (c3 t' mk' es').2.1, Nat.add_assoc]
/-- one branch -/
def BR1 (x : Tp) (b p : Nat) (S : St) : Prop := S.1 164 b = 1 ∧ S.1 165 b = nI p ∧ S.1 166 b = nI (p + x.1.length) ∧ S.1 167 b = nI (p + x.1.length + x.2.1.length) ∧ S.1 168 b = nI (p + x.1.length + x.2.1.length + x.2.2.length) ∧ CDm p x.1 S ∧ CDm (p + x.1.length) x.2.1 S ∧ CDm (p + x.1.length + x.2.1.length) x.2.2 S
def FB (sd br q : Nat) (S S' : St) : Prop := S'.2 = S.2 ∧ ∀ a k, (a = 140 → k < 11 ∨ (16 < k ∧ k ≠ 37 ∧ k ≠ 43 ∧ k ≠ 47)) → (164 ≤ a ∧ a ≤ 168 → k ≠ 130 * sd + br) → (a = 169 ∨ a = 170 → k < 420 * sd + q ∨ 420 * sd + 420 ≤ k) → a ≠ 171 → S'.1 a k = S.1 a k
theorem km13 : ∀ x, x < 128 → (kmN x = 13 ↔ x = 60) := fun x hx => (km_b x hx).2.2.2.2.1
theorem km30 : ∀ x, x < 128 → (kmN x = 30 ↔ x = 10) := fun x hx => (km_b x hx).2.2.2.2.2.2.1
theorem km31 : ∀ x, x < 128 → (kmN x = 31 ↔ x = 11) := fun x hx => (km_b x hx).2.2.2.2.2.2.2
theorem km5 : ∀ x, x < 128 → (kmN x = 5 ↔ x = 61) := fun x hx => (km_b x hx).2.2.2.1
def ifN (v : Nat → Int32) (len : Nat) (st : Stt) : Nat := (ifT v len st).1.length + (ifT v len st).2.1.length + (ifT v len st).2.2.length
theorem mbody_S {t q br : Nat} {mk : Mk} {v1 v2 : Int32} {i : Nat} {q12 : Nat → Int32 → Int32 → Int32 → St → Option (Unit × St)} (hsd : sd < 2) (hbr : br < 130) (hr : RFM S.2.2) (h : SRm v len (.inr (t, mk)) S) (hk9 : kdT v len t = 9) (hc : CX1 sd (.inr (t, mk)) q S) (hI : S.1 140 37 = nI (130 * sd + br)) : ∃ S', b_X10_tellLaw_38 q12 140 v1 v2 (nI i) S = q12 140 v1 v2 (nI (i + 1)) S' ∧ SRm v len (if7 v len (.inr (t, mk))) S' ∧ CX1 sd (if7 v len (.inr (t, mk))) (q + ifN v len (.inr (t, mk))) S' ∧ S'.1 140 37 = nI (130 * sd + br + 1) ∧ FB sd br q S S' ∧ (liv (if7 v len (.inr (t, mk))) → BR1 (ifT v len (.inr (t, mk))) (130 * sd + br) (420 * sd + q) S') := by
  obtain ⟨c12, c43, cq⟩ := hc t mk rfl
  have hx : ∃ x, x = suC v len (if1 v len (.inr (t, mk))) := ⟨_, rfl⟩
  have hy : ∃ x, x = suC v len (if3 v len (.inr (t, mk))) := ⟨_, rfl⟩
  have hz : ∃ x, x = suC v len (if5 v len (.inr (t, mk))) := ⟨_, rfl⟩
  obtain ⟨x, hx⟩ := hx
  obtain ⟨y, hy⟩ := hy
  obtain ⟨z, hz⟩ := hz
  obtain ⟨S2, e2, f2, s2⟩ := go_S hr h hk9 (by decide) (by decide)
  have r2 := FN_rr f2 hr
  have I2 : S2.1 140 37 = nI (130 * sd + br) := (f2.2 _ _ (by omega)).trans hI
  have k43 : S2.1 140 43 = nI (420 * sd + q) := (f2.2 _ _ (by omega)).trans c43
  have k12 : S2.1 140 12 = 0 := (f2.2 _ _ (by omega)).trans c12
  have cc2 : CX1 sd (if1 v len (.inr (t, mk))) q S2 := fun t' mk' e => by
    obtain ⟨t0, g0, -, -, e0, -⟩ := tk_inr e
    cases g0
    exact ⟨k12, k43, by omega⟩
  -- the cells of the test
  have o7 : ∀ a k, (a = 164 ∨ a = 165 → k ≠ 130 * sd + br) → (sI (sI S2 164 (130 * sd + br) 1) 165 (130 * sd + br) (nI (420 * sd + q))).1 a k = S2.1 a k := fun a k z1 => by rw [sI_ne (by omega), sI_ne (by omega)]
  have i7 : (sI (sI S2 164 (130 * sd + br) 1) 165 (130 * sd + br) (nI (420 * sd + q))).2 = S2.2 := rfl
  have v164 : (sI (sI S2 164 (130 * sd + br) 1) 165 (130 * sd + br) (nI (420 * sd + q))).1 164 (130 * sd + br) = 1 := by rw [sI_ne (by omega), sI_at]
  have v165 : (sI (sI S2 164 (130 * sd + br) 1) 165 (130 * sd + br) (nI (420 * sd + q))).1 165 (130 * sd + br) = nI (420 * sd + q) := sI_at
  have r5 : RFM (sI S2 164 (130 * sd + br) 1).2.2 := r2
  unfold b_X10_tellLaw_38 b_X10_tellLaw_110
  rw [if_pos (by rw [h.1.2.2.1]; decide), nmq, nI_1, e2, bdq, I2, ix_nI (show 130 * sd + br < 260 by omega) (by decide), obq, nmq, rq_38 r2, nar_bool1, show (sI S2 164 (130 * sd + br) 1).1 140 37 = nI (130 * sd + br) from (sI_ne (by omega)).trans I2, ix_nI (show 130 * sd + br < 260 by omega) (by decide), obq, nmq, rq_39 r5, show (sI S2 164 (130 * sd + br) 1).1 140 43 = nI (420 * sd + q) from (sI_ne (by omega)).trans k43]
  have s7 : SRm v len (if1 v len (.inr (t, mk))) (sI (sI S2 164 (130 * sd + br) 1) 165 (130 * sd + br) (nI (420 * sd + q))) := SRm_o s2 rfl (fun a k ha => o7 a k (by omega))
  have cc7 : CX1 sd (if1 v len (.inr (t, mk))) q (sI (sI S2 164 (130 * sd + br) 1) 165 (130 * sd + br) (nI (420 * sd + q))) := CX1_set cc2 (o7 _ _ (by omega)) (o7 _ _ (by omega))
  have r7 : RFM (sI (sI S2 164 (130 * sd + br) 1) 165 (130 * sd + br) (nI (420 * sd + q))).2.2 := r2
  revert o7 i7 v164 v165 s7 cc7 r7
  generalize sI (sI S2 164 (130 * sd + br) 1) 165 (130 * sd + br) (nI (420 * sd + q)) = S7
  intro o7 i7 v164 v165 s7 cc7 r7
  obtain ⟨S8, e8, s8, cc8, f8, d8⟩ := mex_S hsd r7 s7 cc7
  rw [← hx] at cc8 d8
  have r8 : RFM S8.2.2 := by rw [f8.1]; exact r7
  obtain ⟨S10, e10, f10, s10, cc10⟩ := mmust_S r8 s8 (m := 13) (k := 60) (by decide) km13 (by decide) (by decide) cc8
  have r10 := FN_rr f10 r8
  have I10 : S10.1 140 37 = nI (130 * sd + br) := (f10.2 _ _ (by omega)).trans ((f8.2 _ _ (by omega) (by omega) (by omega)).trans ((o7 _ _ (by omega)).trans I2))
  have s13 : SRm v len (if3 v len (.inr (t, mk))) (sI S10 166 (130 * sd + br) (S10.1 140 43)) := SRm_o s10 rfl (fun a k ha => sI_ne (by omega))
  have cc13 : CX1 sd (if3 v len (.inr (t, mk))) (q + x.length) (sI S10 166 (130 * sd + br) (S10.1 140 43)) := CX1_set cc10 (sI_ne (by omega)) (sI_ne (by omega))
  have r13 : RFM (sI S10 166 (130 * sd + br) (S10.1 140 43)).2.2 := r10
  obtain ⟨S14, e14, s14, cc14, f14, d14⟩ := gex_S (K := fun S => bd (f_X10_must 140 (30 : Int32) S) fun _ S1 => bd (f_X10_term 140 S1) fun _ S3 => bd (f_X10_must 140 (31 : Int32) S3) fun _ S5 => q12 140 v1 v2 (nI (i + 1)) S5) hsd r13 s13 cc13
  rw [← hy] at cc14 d14
  have r14 : RFM S14.2.2 := by rw [f14.1]; exact r13
  obtain ⟨S15, e15, f15, s15, cc15⟩ := mmust_S r14 s14 (m := 30) (k := 10) (by decide) km30 (by decide) (by decide) cc14
  have r15 := FN_rr f15 r14
  have I15 : S15.1 140 37 = nI (130 * sd + br) := (f15.2 _ _ (by omega)).trans ((f14.2 _ _ (by omega) (by omega) (by omega)).trans ((sI_ne (by omega)).trans I10))
  obtain ⟨S17, e17, s17, cc17, I17, i17, f17, d17⟩ := term_S hsd hbr r15 s15 cc15 I15
  have hz' : suC v len (tkS v len 10 (suS v len (if3 v len (.inr (t, mk))))) = z := hz.symm
  rw [hz'] at cc17 d17
  have r17 : RFM S17.2.2 := by rw [i17]; exact r15
  obtain ⟨S20, e20, f20, s20, cc20⟩ := mmust_S r17 s17 (m := 31) (k := 11) (by decide) km31 (by decide) (by decide) cc17
  have eN : q + ifN v len (.inr (t, mk)) = q + x.length + y.length + z.length := by
    show q + ((suC v len (if1 v len (.inr (t, mk)))).length + (suC v len (if3 v len (.inr (t, mk)))).length + (suC v len (if5 v len (.inr (t, mk)))).length) = _
    rw [← hx, ← hy, ← hz]
    omega
  have eT : ifT v len (.inr (t, mk)) = (x, y, z) := by
    unfold ifT
    rw [← hx, ← hy, ← hz]
  rw [e8, bdq, show f_X10_must 140 13 S8 = some ((), S10) from e10, bdq, I10, ix_nI (show 130 * sd + br < 260 by omega) (by decide), obq, nmq, rq_40 r10, e14]
  show ∃ S', (bd (f_X10_must 140 30 S14) fun _ S1 => bd (f_X10_term 140 S1) fun _ S3 => bd (f_X10_must 140 31 S3) fun _ S5 => q12 140 v1 v2 (nI (i + 1)) S5) = _ ∧ _
  rw [show f_X10_must 140 30 S14 = some ((), S15) from e15, bdq, e17, bdq, show f_X10_must 140 31 S17 = some ((), S20) from e20, bdq, eN, eT]
  refine ⟨S20, rfl, s20, cc20, (f20.2 _ _ (by omega)).trans I17, ⟨f20.1.trans (i17.trans (f15.1.trans (f14.1.trans (f10.1.trans (f8.1.trans (i7.trans f2.1)))))), fun a k z1 z2 z3 z4 => ?_⟩, fun hl => ?_⟩
  · rw [f20.2 a k (by omega), f17 a k (by omega) (by omega) (by omega) z4, f15.2 a k (by omega), f14.2 a k (by omega) (by omega) z4, sI_ne (by omega), f10.2 a k (by omega), f8.2 a k (by omega) (by omega) z4, o7 a k (by omega), f2.2 a k (by omega)]
  · have l6 : liv (suS v len (tkS v len 10 (suS v len (if3 v len (.inr (t, mk)))))) := tk_liv hl
    have l5 := su_liv l6
    have l4 : liv (suS v len (if3 v len (.inr (t, mk)))) := tk_liv l5
    have l3 : liv (if3 v len (.inr (t, mk))) := su_liv l4
    have l2 : liv (suS v len (if1 v len (.inr (t, mk)))) := tk_liv l3
    obtain ⟨d1, d2, d3⟩ := d17 l6
    obtain ⟨t3, m3, h3⟩ := l3
    have w166 : S10.1 140 43 = nI (420 * sd + (q + x.length)) := (cc10 t3 m3 h3).2.1
    have oA : ∀ a k, (a = 164 ∨ a = 165 ∨ a = 166) → S20.1 a k = (sI S10 166 (130 * sd + br) (S10.1 140 43)).1 a k := fun a k z1 => by
      rw [f20.2 a k (by omega), f17 a k (by omega) (by omega) (by omega) (by omega), f15.2 a k (by omega), f14.2 a k (by omega) (by omega) (by omega)]
    have oB : ∀ a k, (a = 164 ∨ a = 165) → S20.1 a k = S7.1 a k := fun a k z1 => by
      rw [oA a k (by omega), sI_ne (by omega), f10.2 a k (by omega), f8.2 a k (by omega) (by omega) (by omega)]
    have oC : ∀ k, k < 420 * sd + (q + x.length + y.length) → S20.1 169 k = S14.1 169 k ∧ S20.1 170 k = S14.1 170 k := fun k hk => by
      refine ⟨?_, ?_⟩
      · rw [f20.2 _ _ (by omega), f17 _ _ (by omega) (by omega) (by omega) (by omega), f15.2 _ _ (by omega)]
      · rw [f20.2 _ _ (by omega), f17 _ _ (by omega) (by omega) (by omega) (by omega), f15.2 _ _ (by omega)]
    have oD : ∀ k, k < 420 * sd + (q + x.length) → S20.1 169 k = S8.1 169 k ∧ S20.1 170 k = S8.1 170 k := fun k hk => by
      refine ⟨?_, ?_⟩
      · rw [(oC k (by omega)).1, f14.2 _ _ (by omega) (by omega) (by omega), sI_ne (by omega), f10.2 _ _ (by omega)]
      · rw [(oC k (by omega)).2, f14.2 _ _ (by omega) (by omega) (by omega), sI_ne (by omega), f10.2 _ _ (by omega)]
    refine ⟨(oB _ _ (by omega)).trans v164, (oB _ _ (by omega)).trans v165, ?_, ?_, ?_, CDm_k (d8 l2) (show 420 * sd + q + x.length ≤ 420 * sd + (q + x.length) by omega) oD, ?_, ?_⟩
    · rw [oA _ _ (by omega), sI_at, w166, Nat.add_assoc]
    · rw [f20.2 _ _ (by omega), d2]
      show nI (420 * sd + (q + x.length + y.length)) = nI (420 * sd + q + x.length + y.length)
      congr 1
      omega
    · rw [f20.2 _ _ (by omega), d3]
      show nI (420 * sd + (q + x.length + y.length) + z.length) = nI (420 * sd + q + x.length + y.length + z.length)
      congr 1
      omega
    · have := CDm_k (S' := S20) (d14 l4) (show 420 * sd + (q + x.length) + y.length ≤ 420 * sd + (q + x.length + y.length) by omega) oC
      rw [show 420 * sd + q + x.length = 420 * sd + (q + x.length) by omega]
      exact this
    · have := CDm_k (S' := S20) d1 (Nat.le_refl _) (fun k _ => ⟨f20.2 _ _ (by omega), f20.2 _ _ (by omega)⟩)
      show CDm (420 * sd + q + x.length + y.length) z S20
      rw [show 420 * sd + q + x.length + y.length = 420 * sd + (q + x.length + y.length) by omega]
      exact this
def BRt : List Tp → Nat → Nat → Nat → St → Prop
  | [], _, _, _, _ => True
  | x :: ts, b, lo, Q, S => (∃ p, lo ≤ p ∧ BR1 x b p S ∧ p + x.1.length + x.2.1.length + x.2.2.length ≤ Q) ∧ BRt ts (b + 1) lo Q S
theorem BR1_set {x : Tp} {b p Q : Nat} (h : BR1 x b p S) (hp : p + x.1.length + x.2.1.length + x.2.2.length ≤ Q) (hs : ∀ a, 164 ≤ a → a ≤ 168 → S'.1 a b = S.1 a b) (hc : ∀ k, k < Q → S'.1 169 k = S.1 169 k ∧ S'.1 170 k = S.1 170 k) : BR1 x b p S' := by
  obtain ⟨h1, h2, h3, h4, h5, h6, h7, h8⟩ := h
  exact ⟨(hs _ (by omega) (by omega)).trans h1, (hs _ (by omega) (by omega)).trans h2, (hs _ (by omega) (by omega)).trans h3, (hs _ (by omega) (by omega)).trans h4, (hs _ (by omega) (by omega)).trans h5, CDm_k h6 (by omega) hc, CDm_k h7 (by omega) hc, CDm_k h8 hp hc⟩
theorem BRt_set : ∀ {ts : List Tp} {b lo Q Q' : Nat} {S S' : St}, BRt ts b lo Q S → Q ≤ Q' → (∀ a i, 164 ≤ a → a ≤ 168 → b ≤ i → i < b + ts.length → S'.1 a i = S.1 a i) → (∀ k, k < Q → S'.1 169 k = S.1 169 k ∧ S'.1 170 k = S.1 170 k) → BRt ts b lo Q' S'
  | [], _, _, _, _, _, _, _, _, _, _ => trivial
  | x :: ts, b, lo, Q, Q', S, S', h, hQ, hs, hc => by
    obtain ⟨⟨p, h0, h1, h2⟩, h3⟩ := h
    have el : (x :: ts).length = ts.length + 1 := rfl
    exact ⟨⟨p, h0, BR1_set h1 h2 (fun a h1 h2 => hs a b h1 h2 (by omega) (by omega)) hc, by omega⟩, BRt_set h3 hQ (fun a i h1 h2 h3 h4 => hs a i h1 h2 (by omega) (by omega)) hc⟩
theorem BRt_snoc {x : Tp} {p lo Q : Nat} (h0 : lo ≤ p) : ∀ {ts : List Tp} {b : Nat}, BRt ts b lo Q S → BR1 x (b + ts.length) p S → p + x.1.length + x.2.1.length + x.2.2.length ≤ Q → BRt (ts ++ [x]) b lo Q S
  | [], b, _, h1, h2 => ⟨⟨p, h0, h1, h2⟩, trivial⟩
  | y :: ts, b, h, h1, h2 => by
    have el : (y :: ts).length = ts.length + 1 := rfl
    rw [el, show b + (ts.length + 1) = b + 1 + ts.length by omega] at h1
    exact ⟨h.1, BRt_snoc h0 h.2 h1 h2⟩
theorem BRw_of {f : List Nat} {p lo Q : Nat} (h0 : lo ≤ p) : ∀ {ts : List Tp} {b : Nat}, BRt ts b lo Q S → S.1 164 (b + ts.length) = 0 → S.1 167 (b + ts.length) = nI p → S.1 168 (b + ts.length) = nI (p + f.length) → p + f.length ≤ Q → CDm p f S → BRw ts f b lo Q S
  | [], b, _, h1, h2, h3, h4, h5 => ⟨h1, p, h0, h2, h3, h4, h5⟩
  | (x, y, z) :: ts, b, h, h1, h2, h3, h4, h5 => by
    have el : ((x, y, z) :: ts).length = ts.length + 1 := rfl
    rw [el, show b + (ts.length + 1) = b + 1 + ts.length by omega] at h1 h2 h3
    obtain ⟨⟨p', a0, ⟨a1, a2, a3, a4, a5, a6, a7, a8⟩, a9⟩, h6⟩ := h
    exact ⟨a1, ⟨p', a0, a2, a3, a4, a5, a9, a6, a7, a8⟩, BRw_of h0 h6 h1 h2 h3 h4 h5⟩
/-- only where the reading is, and law k, is changed -/
def FW (sd k br q : Nat) (S S' : St) : Prop := S'.2 = S.2 ∧ ∀ a i, (a = 140 → i < 11 ∨ (16 < i ∧ i ≠ 37 ∧ i ≠ 43 ∧ i ≠ 47)) → (a = 162 ∨ a = 163 → i ≠ 4 * sd + k) → (164 ≤ a ∧ a ≤ 168 → i < 130 * sd + br ∨ 130 * sd + 130 ≤ i) → (a = 169 ∨ a = 170 → i < 420 * sd + q ∨ 420 * sd + 420 ≤ i) → a ≠ 171 → S'.1 a i = S.1 a i
theorem FW.tr {k br q : Nat} {S S' S'' : St} (h : FW sd k br q S S') (h' : FW sd k br q S' S'') : FW sd k br q S S'' := ⟨h'.1.trans h.1, fun a i z1 z2 z3 z4 z5 => (h'.2 a i z1 z2 z3 z4 z5).trans (h.2 a i z1 z2 z3 z4 z5)⟩
def QMl (v : Nat → Int32) (len sd br0 : Nat) (st : Stt) (acc : List Tp) (q : Nat) (S : St) : Prop := RFM S.2.2 ∧ SRm v len st S ∧ CX1 sd st q S ∧ S.1 140 37 = nI (130 * sd + (br0 + acc.length)) ∧ S.1 140 19 = nI sd ∧ ∀ t mk, st = .inr (t, mk) → BRt acc (130 * sd + br0) (420 * sd) (420 * sd + q) S
/-- what the end of a law leaves -/
def QE (v : Nat → Int32) (len sd k br0 q0 : Nat) (st : Stt) (l : Lw) (S S' : St) : Prop := RFM S'.2.2 ∧ SRm v len st S' ∧ FW sd k br0 q0 S S' ∧ ∀ t mk, st = .inr (t, mk) → ∃ q', q0 ≤ q' ∧ S'.1 140 12 = 0 ∧ S'.1 140 43 = nI (420 * sd + q') ∧ q' ≤ t ∧ S'.1 140 37 = nI (130 * sd + (br0 + l.1.length + 1)) ∧ S'.1 162 (4 * sd + k) = nI (130 * sd + br0) ∧ S'.1 163 (4 * sd + k) = nI (130 * sd + br0 + l.1.length + 1) ∧ BRw l.1 l.2 (130 * sd + br0) (420 * sd) (420 * sd + q') S'
theorem mfin_S {st : Stt} {acc : List Tp} {k br0 q0 q : Nat} (hsd : sd < 2) (hk : k < 4) (hbr : br0 ≤ 100) (ha : acc.length ≤ 5) (hq : q0 ≤ q) (h : QMl v len sd br0 st acc q S) : RN (b_X10_tellLaw_129 140 (nI k) (nI (130 * sd + br0)) S) (fun _ S' => QE v len sd k br0 q0 (tkS v len 59 (suS v len st)) (acc, suC v len st) S S') := by
  obtain ⟨hr, hs, hc, hI, h19, hB⟩ := h
  unfold b_X10_tellLaw_129
  rw [hI, ix_nI (show 130 * sd + (br0 + acc.length) < 260 by omega) (by decide), obq, nmq, rq_38 hr, nar_bool0]
  have r2 : RFM (sI S 164 (130 * sd + (br0 + acc.length)) 0).2.2 := hr
  have s2 : SRm v len st (sI S 164 (130 * sd + (br0 + acc.length)) 0) := SRm_o hs rfl (fun a k ha => sI_ne (by omega))
  have c2 : CX1 sd st q (sI S 164 (130 * sd + (br0 + acc.length)) 0) := CX1_set hc (sI_ne (by omega)) (sI_ne (by omega))
  obtain ⟨S3, e3, s3, c3, I3, i3, f3, d3⟩ := term_S (br := br0 + acc.length) hsd (by omega) r2 s2 c2 ((sI_ne (by omega)).trans hI)
  have r3 : RFM S3.2.2 := by rw [i3]; exact hr
  obtain ⟨S5, e5, f5, s5, c5⟩ := mmust_S r3 s3 (m := 4) (k := 59) (by decide) km4 (by decide) (by decide) c3
  have r5 := FN_rr f5 r3
  rw [e3, bdq, show f_X10_must 140 4 S3 = some ((), S5) from e5, bdq]
  have i5 : S5.2 = S.2 := f5.1.trans i3
  have o5 : ∀ a i, (a = 140 → i < 11 ∨ (16 < i ∧ i ≠ 37 ∧ i ≠ 43 ∧ i ≠ 47)) → (164 ≤ a ∧ a ≤ 168 → i ≠ 130 * sd + (br0 + acc.length)) → (a = 169 ∨ a = 170 → i < 420 * sd + q ∨ 420 * sd + 420 ≤ i) → a ≠ 171 → S5.1 a i = S.1 a i := fun a i z1 z2 z3 z4 => by
    rw [f5.2 a i (by omega), f3 a i (by omega) (by omega) z3 z4, sI_ne (by omega)]
  have fw5 : FW sd k br0 q0 S S5 := ⟨i5, fun a i z1 z2 z3 z4 z5 => o5 a i z1 (by omega) (by omega) z5⟩
  cases hst : tkS v len 59 (suS v len st) with
  | inl e =>
    rw [hst] at s5
    obtain ⟨f, u⟩ := e
    have s5' : DDm f (psT v len u) S5 := s5
    rw [if_neg (by rw [s5'.1]; exact f_pos s5'.2.2.1)]
    exact RN_some ⟨r5, s5, fw5, fun t mk q => by cases q⟩
  | inr w =>
    obtain ⟨t', mk'⟩ := w
    have hlv : liv (suS v len st) := tk_liv ⟨t', mk', hst⟩
    obtain ⟨d1, d2, d3'⟩ := d3 hlv
    obtain ⟨t0, mk0, h0⟩ := su_liv hlv
    have hBt := hB t0 mk0 h0
    obtain ⟨k12, k43, kq⟩ := c5 t' mk' hst
    rw [hst] at s5
    have k19 : S5.1 140 19 = nI sd := (o5 _ _ (by omega) (by omega) (by omega) (by omega)).trans h19
    have k37 : S5.1 140 37 = nI (130 * sd + (br0 + acc.length) + 1) := (f5.2 _ _ (by omega)).trans I3
    have r6 : RFM (sI S5 162 (4 * sd + k) (nI (130 * sd + br0))).2.2 := r5
    rw [if_pos (by rw [s5.1.2.2.1]; decide), k19, show (4 : Int32) * nI sd + nI k = nI (4 * sd + k) by rw [show (4 : Int32) = nI 4 from rfl, pk_mul, nI_add], ix_nI (show 4 * sd + k < 8 by omega) (by decide), obq, nmq, rq_35 r5, show (sI S5 162 (4 * sd + k) (nI (130 * sd + br0))).1 140 19 = nI sd from (sI_ne (by omega)).trans k19, show (4 : Int32) * nI sd + nI k = nI (4 * sd + k) by rw [show (4 : Int32) = nI 4 from rfl, pk_mul, nI_add], ix_nI (show 4 * sd + k < 8 by omega) (by decide), obq, nmq, rq_36 r6, show (sI S5 162 (4 * sd + k) (nI (130 * sd + br0))).1 140 37 = nI (130 * sd + (br0 + acc.length) + 1) from (sI_ne (by omega)).trans k37]
    have oo : ∀ a i, (a = 162 ∨ a = 163 → i ≠ 4 * sd + k) → (sI (sI S5 162 (4 * sd + k) (nI (130 * sd + br0))) 163 (4 * sd + k) (nI (130 * sd + (br0 + acc.length) + 1))).1 a i = S5.1 a i := fun a i z1 => by rw [sI_ne (by omega), sI_ne (by omega)]
    refine RN_some ⟨r5, SRm_o s5 rfl (fun a i ha => oo a i (by omega)), fw5.tr ⟨rfl, fun a i z1 z2 z3 z4 z5 => oo a i z2⟩, fun t mk e => ?_⟩
    cases e
    refine ⟨q + (suC v len st).length, by omega, (oo _ _ (by omega)).trans k12, (oo _ _ (by omega)).trans k43, kq, ?_, ?_, ?_, ?_⟩
    · rw [oo _ _ (by omega), k37]; rfl
    · rw [sI_ne (by omega), sI_at]
    · rw [sI_at]
      show nI (130 * sd + (br0 + acc.length) + 1) = nI (130 * sd + br0 + acc.length + 1)
      rw [Nat.add_assoc (130 * sd) br0 acc.length]
    · have eb : 130 * sd + br0 + acc.length = 130 * sd + (br0 + acc.length) := by omega
      refine BRw_of (p := 420 * sd + q) (by omega) (BRt_set hBt (show 420 * sd + q ≤ 420 * sd + (q + (suC v len st).length) by omega) (fun a i z1 z2 z3 z4 => ?_) (fun i hi => ⟨?_, ?_⟩)) ?_ ?_ ?_ (show 420 * sd + q + (suC v len st).length ≤ 420 * sd + (q + (suC v len st).length) by omega) ?_
      · have z4 : i < 130 * sd + br0 + acc.length := z4
        rw [oo _ _ (by omega)]
        exact o5 _ _ (by omega) (by omega) (by omega) (by omega)
      · rw [oo _ _ (by omega)]; exact o5 _ _ (by omega) (by omega) (by omega) (by omega)
      · rw [oo _ _ (by omega)]; exact o5 _ _ (by omega) (by omega) (by omega) (by omega)
      · show _ = (0 : Int32)
        rw [eb, oo _ _ (by omega), f5.2 _ _ (by omega), f3 _ _ (by omega) (by omega) (by omega) (by omega), sI_at]
      · rw [eb, oo _ _ (by omega), f5.2 _ _ (by omega), d2]
      · rw [eb, oo _ _ (by omega), f5.2 _ _ (by omega), d3']
      · exact CDm_k d1 (Nat.le_refl _) (fun i _ => ⟨by rw [oo _ _ (by omega), f5.2 _ _ (by omega)], by rw [oo _ _ (by omega), f5.2 _ _ (by omega)]⟩)
theorem QE_fw {k br0 q0 : Nat} {st : Stt} {l : Lw} {S0 S S' : St} (h : QE v len sd k br0 q0 st l S S') (hf : FW sd k br0 q0 S0 S) : QE v len sd k br0 q0 st l S0 S' := ⟨h.1, h.2.1, hf.tr h.2.2.1, h.2.2.2⟩
theorem is29 {t : Nat} {mk : Mk} (hr : RFM S.2.2) (h : SRm v len (.inr (t, mk)) S) : f_X10_is 140 29 S = some (if kdT v len t = 9 then 1 else 0, S) := by
  have hkl : kdT v len t < 128 := kd_lt
  rw [show (29 : Int32) = nI 29 from rfl, is_l hr h.1 (by decide)]
  have := (km_b _ hkl).2.2.2.2.2.1
  by_cases c : kdT v len t = 9
  · rw [if_pos (this.mpr c), if_pos c]
  · rw [if_neg (fun q => c (this.mp q)), if_neg c]
theorem mif_loop {k br0 q0 : Nat} (hsd : sd < 2) (hk : k < 4) (hbr : br0 ≤ 100) : ∀ (n i fu : Nat) (st : Stt) (acc : List Tp) (q : Nat) (S : St), i + n = 4 → n + 1 < fu → acc.length ≤ i → q0 ≤ q → QMl v len sd br0 st acc q S → RN (b_X10_tellLaw_12 fu 140 (nI k) (nI (130 * sd + br0)) (nI i) S) (fun _ S' => QE v len sd k br0 q0 (tkS v len 59 (suS v len (ifL v len n st acc).1)) ((ifL v len n st acc).2, suC v len (ifL v len n st acc).1) S S') := by
  intro n
  induction n with
  | zero =>
    intro i fu st acc q S hi hf ha hq h
    obtain ⟨fu, rfl⟩ : ∃ f, fu = f + 1 := ⟨fu - 1, by omega⟩
    have hi : i = 4 := by omega
    subst hi
    have hr := h.1
    rw [b_X10_tellLaw_12]
    match st, h with
    | .inl (f, u), h =>
      have h' : DDm f (psT v len u) S := h.2.1
      rw [if_neg (by rw [h'.1]; exact f_nz h'.2.2.1), ifL_d]
      exact mfin_S (acc := acc) hsd hk hbr (by omega) hq h
    | .inr (t, mk), h =>
      rw [if_pos h.2.1.1.2.2.1, is29 hr h.2.1, bdq, ifL_0]
      by_cases c : kdT v len t = 9
      · have hd := DDm_of (k := 2) h.2.1.1 (Or.inr rfl)
        rw [if_pos c, if_neg ne10, if_pos (show nI 4 = 4 by decide), show (2 : Int32) = nI 2 from rfl, fail_l hr h.2.1.1, bdq]
        simp only [if_pos c]
        have fw : FW sd k br0 q0 S (sI (sI S 140 13 (nI 2)) 140 14 (nI (psT v len t))) := ⟨rfl, fun a i z1 z2 z3 z4 z5 => by rw [sI_ne (by omega), sI_ne (by omega)]⟩
        unfold b_X10_tellLaw_38
        rw [if_neg (by rw [hd.1]; exact f_pos hd.2.2.1)]
        exact RN_some ⟨hr, hd, fw, fun t mk q => by cases q⟩
      · rw [if_neg c, if_pos rfl]
        simp only [if_neg c]
        exact mfin_S (acc := acc) hsd hk hbr (by omega) hq h
  | succ n ih =>
    intro i fu st acc q S hi hf ha hq h
    obtain ⟨fu, rfl⟩ : ∃ f, fu = f + 1 := ⟨fu - 1, by omega⟩
    have hr := h.1
    rw [b_X10_tellLaw_12]
    match st, h with
    | .inl (f, u), h =>
      have h' : DDm f (psT v len u) S := h.2.1
      rw [if_neg (by rw [h'.1]; exact f_nz h'.2.2.1), ifL_d]
      exact mfin_S (acc := acc) hsd hk hbr (by omega) hq h
    | .inr (t, mk), h =>
      rw [if_pos h.2.1.1.2.2.1, is29 hr h.2.1, bdq, ifL_s]
      by_cases c : kdT v len t = 9
      · obtain ⟨-, hs, hc, hI, h19, hB⟩ := h
        obtain ⟨S1, e1, s1, c1, I1, f1, d1⟩ := mbody_S (v1 := nI k) (v2 := nI (130 * sd + br0)) (i := i) (q12 := b_X10_tellLaw_12 fu) (br := br0 + acc.length) hsd (by omega) hr hs c hc hI
        rw [if_pos c, if_neg ne10, if_neg (show ¬ nI i = 4 from fun q => by have := (nI_eq (b := 4) (by omega) (by decide)).mp q; omega), e1]
        simp only [if_pos c]
        have fw : FW sd k br0 q0 S S1 := ⟨f1.1, fun a i z1 z2 z3 z4 z5 => f1.2 a i z1 (by omega) (by omega) z5⟩
        have hel : (acc ++ [ifT v len (.inr (t, mk))]).length = acc.length + 1 := by rw [List.length_append, List.length_singleton]
        refine RN_mono (ih (i + 1) fu _ _ (q + ifN v len (.inr (t, mk))) S1 (by omega) (by omega) (by omega) (by omega) ⟨by rw [f1.1]; exact hr, s1, c1, ?_, (f1.2 _ _ (by omega) (by omega) (by omega) (by omega)).trans h19, fun t' mk' e => ?_⟩) (fun _ S' hh => QE_fw hh fw)
        · rw [hel, I1]
          congr 1
        · have hBt := hB t mk rfl
          refine BRt_snoc (p := 420 * sd + q) (by omega) (BRt_set hBt (by omega) (fun a i z1 z2 z3 z4 => f1.2 _ _ (by omega) (by omega) (by omega) (by omega)) (fun i hi => ⟨f1.2 _ _ (by omega) (by omega) (by omega) (by omega), f1.2 _ _ (by omega) (by omega) (by omega) (by omega)⟩)) ?_ ?_
          · have := d1 ⟨t', mk', e⟩
            rw [show 130 * sd + (br0 + acc.length) = 130 * sd + br0 + acc.length by omega] at this
            exact this
          · unfold ifN
            omega
      · rw [if_neg c, if_pos rfl]
        simp only [if_neg c]
        exact mfin_S (acc := acc) hsd hk hbr (by omega) hq h
theorem km_f : ∀ w : Nat, w < 128 → (kmN w = 20 ↔ w = 0) ∧ (kmN w = 21 ↔ w = 1) ∧ (kmN w = 22 ↔ w = 2) ∧ (kmN w = 27 ↔ w = 7) ∧ (kmN w = 28 ↔ w = 8) ∧ ((23 ≤ kmN w ∧ kmN w ≤ 26) ↔ (3 ≤ w ∧ w ≤ 6)) ∧ kmN w < 128 := by decide +kernel
theorem RLr_up {k q q' br br' : Nat} {l : Lw} (h : RLr sd k l q br S) (hq : q ≤ q') (hb : br ≤ br') (h62 : ∀ a, a = 162 ∨ a = 163 → S'.1 a (4 * sd + k) = S.1 a (4 * sd + k)) (hs : ∀ a i, 164 ≤ a → a ≤ 168 → i < 130 * sd + br → S'.1 a i = S.1 a i) (hc : ∀ i, i < 420 * sd + q → S'.1 169 i = S.1 169 i ∧ S'.1 170 i = S.1 170 i) : RLr sd k l q' br' S' := by
  rcases h with ⟨h1, h2⟩ | ⟨b, h1, h2, h0, h3, h4⟩
  · exact Or.inl ⟨(h62 _ (Or.inl rfl)).trans (h1.trans (h62 _ (Or.inr rfl)).symm), h2⟩
  · exact Or.inr ⟨b, (h62 _ (Or.inl rfl)).trans h1, (h62 _ (Or.inr rfl)).trans h2, h0, by omega, BRw_keep h4 (by omega) (fun a i z1 z2 _ z3 => hs a i z1 z2 (by omega)) (fun k _ hk => hc k hk)⟩
theorem FW_fr {k br q : Nat} (hk : k < 4) (h : FW sd k br q S S') : FR sd S S' := ⟨by rw [h.1], fun a i _ => by rw [h.1], fun a i z => h.2 a i (by unfold okM at z; omega) (by unfold okM at z; omega) (by unfold okM at z; omega) (by unfold okM at z; omega) (by unfold okM at z; omega)⟩
theorem m_law {A : RA} {t w : Nat} {mk : Mk} (hsd : sd < 2) (hkw : kdT v len t = w) (hw : 3 ≤ w ∧ w ≤ 6) (h : KMs v len sd (.inr (t, mk)) A S) : RN (f_X10_tellOne 140 S) (fun _ S' => FR sd S S' ∧ KMs v len sd (la5 v len w t mk) (laA v len w A t mk) S') := by
  obtain ⟨hr, hs, c19, c12, c20, ⟨b0, b1, b2⟩, hN, ⟨q, br, q1, q2, q3, q4, q5⟩, hc⟩ := h
  have ht := hs.1.1
  obtain ⟨k, rfl⟩ : ∃ k, w = 3 + k := ⟨w - 3, by omega⟩
  have hk : k < 4 := by omega
  have ek : kmN (3 + k) = 23 + k := by unfold kmN; rw [if_pos (by omega)]; omega
  obtain ⟨S1, e1, f1, s1⟩ := go_S hr hs hkw (by omega) (by omega)
  have r1 := FN_rr f1 hr
  have cc0 : CX1 sd (tkS v len (3 + k) (.inr (t, mk))) q S1 := fun t' mk' e => by
    obtain ⟨t0, g0, -, -, e0, -⟩ := tk_inr e
    cases g0
    exact ⟨(f1.2 _ _ (by omega)).trans c12, (f1.2 _ _ (by omega)).trans q1, by omega⟩
  obtain ⟨S2, e2, f2, s2, cc2⟩ := mmust_S r1 s1 (m := 5) (k := 61) (by decide) km5 (by decide) (by decide) cc0
  have g2 := f1.tr f2
  have r2 := FN_rr g2 hr
  have I2 : S2.1 140 37 = nI (130 * sd + br) := (g2.2 _ _ (by omega)).trans q3
  have neI : ∀ c : Nat, c < 128 → c ≠ 23 + k → ¬ nI (23 + k) = nI c := fun c h1 h2 q => h2 ((nI_eq (by omega) (by omega)).mp q).symm
  unfold f_X10_tellOne b_X10_tellOne_239 f_X10_tellLaw
  rw [hs.1.2.1, ix_nI (show t < 403 by omega) (by decide), obq, nmq, obq, rq_5 hr, hs.1.kd, hkw, ek, if_neg (show ¬ nI (23 + k) = 20 from neI 20 (by decide) (by omega)), if_neg (show ¬ nI (23 + k) = 21 from neI 21 (by decide) (by omega)), if_neg (show ¬ nI (23 + k) = 22 from neI 22 (by decide) (by omega)), if_neg (show ¬ nI (23 + k) = 27 from neI 27 (by decide) (by omega)), if_neg (show ¬ nI (23 + k) = 28 from neI 28 (by decide) (by omega)), nmq, obq, hs.1.kd, hkw, ek, show nI (23 + k) - 23 = nI k by rw [show (23 : Int32) = nI 23 from rfl, pk_sub (by omega)]; congr 1; omega, if_neg (show ¬ nI k < 0 from nlt_l (b := 0) (by omega) (by omega) (by omega)), if_pos (show nI (23 + k) ≤ 26 from le_l (b := 26) (by omega) (by omega) (by omega)), if_pos (by rw [hs.1.2.2.1]; decide), e1, bdq, show f_X10_must 140 5 S1 = some ((), S2) from e2, bdq, nmq, I2]
  have hq0 : QMl v len sd br (la2 v len (3 + k) t mk) [] q S2 := ⟨r2, s2, cc2, I2, (g2.2 _ _ (by omega)).trans c19, fun _ _ _ => trivial⟩
  refine RN_bd (mif_loop hsd hk (by omega) 4 0 FU _ [] q S2 (by decide) (by decide) (by decide) (Nat.le_refl q) hq0) (fun _ S' hh => ?_)
  have fw2 : FW sd k br q S S2 := ⟨g2.1, fun a i z1 z2 z3 z4 z5 => g2.2 a i (by omega)⟩
  obtain ⟨h1, h2, h3, h4⟩ := QE_fw hh fw2
  refine RN_some ⟨FW_fr hk h3, h1, h2, ?_⟩
  cases hst : la5 v len (3 + k) t mk with
  | inl e => exact trivial
  | inr w =>
    obtain ⟨t', mk'⟩ := w
    obtain ⟨m1, m2, m3, m4, m5, m6, m7⟩ := la_inr hst
    obtain ⟨q', y1, y2, y3, y4, y5, y6, y7, y8⟩ := h4 t' mk' hst
    have y5' : S'.1 140 37 = nI (130 * sd + (br + (laT v len (3 + k) t mk).length + 1)) := y5
    have y7' : S'.1 163 (4 * sd + k) = nI (130 * sd + br + (laT v len (3 + k) t mk).length + 1) := y7
    have oo : ∀ a i, (a = 140 → i < 11 ∨ (16 < i ∧ i ≠ 37 ∧ i ≠ 43 ∧ i ≠ 47)) → (a < 162 ∨ 171 < a) → S'.1 a i = S.1 a i := fun a i z1 z2 => h3.2 a i z1 (by omega) (by omega) (by omega) (by omega)
    refine ⟨(oo _ _ (by omega) (by omega)).trans c19, y2, (oo _ _ (by omega) (by omega)).trans c20, ⟨(oo _ _ (by omega) (by omega)).trans b0, (oo _ _ (by omega) (by omega)).trans b1, (oo _ _ (by omega) (by omega)).trans b2⟩, fun i hi => ⟨by rw [h3.1]; exact (hN i hi).1, (oo _ _ (by omega) (by omega)).trans (hN i hi).2⟩, ⟨q', br + (laT v len (3 + k) t mk).length + 1, y3, y4, y5', by omega, fun j hj => ?_⟩, fun hn => ?_⟩
    · show RLr sd j (updN (bLaw (rB A)) (3 + k - 3) (laT v len (3 + k) t mk, suC v len (la3 v len (3 + k) t mk)) j) q' _ S'
      rw [show 3 + k - 3 = k by omega]
      by_cases ej : j = k
      · rw [ej, updN_at]
        refine Or.inr ⟨130 * sd + br, y6, y7', by omega, ?_, y8⟩
        show 130 * sd + br + (laT v len (3 + k) t mk).length + 1 ≤ _
        omega
      · rw [updN_ne ej]
        exact RLr_up (q5 j hj) y1 (by omega) (fun a ha => h3.2 _ _ (by omega) (by omega) (by omega) (by omega) (by omega)) (fun a i z1 z2 z3 => h3.2 _ _ (by omega) (by omega) (by omega) (by omega) (by omega)) (fun i hi => ⟨h3.2 _ _ (by omega) (by omega) (by omega) (by omega) (by omega), h3.2 _ _ (by omega) (by omega) (by omega) (by omega) (by omega)⟩)
    · obtain ⟨c1, c2, c3, c4, c5⟩ := hc (m1.symm.trans hn)
      refine ⟨(oo _ _ (by omega) (by omega)).trans c1, (oo _ _ (by omega) (by omega)).trans c2, fun p hp => ?_, fun e he => ?_, fun m hm => ?_⟩
      · rw [oo _ _ (by omega) (by omega), oo _ _ (by omega) (by omega), oo _ _ (by omega) (by omega)]
        exact c3 p hp
      · rw [oo _ _ (by omega) (by omega), oo _ _ (by omega) (by omega), oo _ _ (by omega) (by omega)]
        exact c4 e he
      · rw [oo _ _ (by omega) (by omega), oo _ _ (by omega) (by omega), oo _ _ (by omega) (by omega), oo _ _ (by omega) (by omega)]
        exact c5 m hm
theorem m_nolaw {A : RA} {t w : Nat} {mk : Mk} (hkw : kdT v len t = w) (hw : w ≠ 0 ∧ w ≠ 1 ∧ w ≠ 2 ∧ w ≠ 7 ∧ w ≠ 8 ∧ ¬ (3 ≤ w ∧ w ≤ 6)) (h : KMs v len sd (.inr (t, mk)) A S) : RN (f_X10_tellOne 140 S) (fun _ S' => FR sd S S' ∧ KMs v len sd (.inl (1, t)) A S') := by
  obtain ⟨hr, hs, -⟩ := h
  have ht := hs.1.1
  have hwl : w < 128 := by rw [← hkw]; exact kd_lt
  obtain ⟨a1, a2, a3, a4, a5, a6, a7⟩ := km_f w hwl
  have neI : ∀ c : Nat, c < 128 → kmN w ≠ c → ¬ nI (kmN w) = nI c := fun c h1 h2 q => h2 ((nI_eq (by omega) (by omega)).mp q)
  have go : ∀ x : Int32, RN (b_X10_tellOne_234 140 x S) (fun _ S' => FR sd S S' ∧ KMs v len sd (.inl (1, t)) A S') := fun x => by
    unfold b_X10_tellOne_234 b_X10_tellOne_239
    have hd := DDm_of (k := 1) hs.1 (Or.inl rfl)
    have fn : FN S (sI (sI S 140 13 (nI 1)) 140 14 (nI (psT v len t))) := ⟨rfl, fun a k q => by rw [sI_ne (by omega), sI_ne (by omega)]⟩
    rw [show (1 : Int32) = nI 1 from rfl, fail_l hr hs.1, bdq, if_neg (by rw [hd.1]; exact f_pos hd.2.2.1)]
    exact RN_some ⟨fn.fr, hr, hd, trivial⟩
  unfold f_X10_tellOne
  rw [hs.1.2.1, ix_nI (show t < 403 by omega) (by decide), obq, nmq, obq, rq_5 hr, hs.1.kd, hkw, if_neg (show ¬ nI (kmN w) = 20 from neI 20 (by decide) (fun q => hw.1 (a1.mp q))), if_neg (show ¬ nI (kmN w) = 21 from neI 21 (by decide) (fun q => hw.2.1 (a2.mp q))), if_neg (show ¬ nI (kmN w) = 22 from neI 22 (by decide) (fun q => hw.2.2.1 (a3.mp q))), if_neg (show ¬ nI (kmN w) = 27 from neI 27 (by decide) (fun q => hw.2.2.2.1 (a4.mp q))), if_neg (show ¬ nI (kmN w) = 28 from neI 28 (by decide) (fun q => hw.2.2.2.2.1 (a5.mp q))), nmq, obq, hs.1.kd, hkw]
  by_cases c : kmN w < 23
  · rw [if_pos (show nI (kmN w) - 23 < 0 by
      rw [i32_lt, show (23 : Int32) = nI 23 from rfl, sub_toInt (by omega) (by decide)]
      show (kmN w : Int) - 23 < 0
      omega)]
    exact go _
  · have h26 : ¬ kmN w ≤ 26 := fun q => hw.2.2.2.2.2 (a6.mp ⟨by omega, q⟩)
    rw [if_neg (show ¬ nI (kmN w) - 23 < 0 by
      rw [i32_lt, show (23 : Int32) = nI 23 from rfl, sub_toInt (by omega) (by decide)]
      show ¬ (kmN w : Int) - 23 < 0
      omega), if_neg (show ¬ nI (kmN w) ≤ 26 from nle_l (b := 26) (by omega) (by omega) (by omega))]
    exact go _
end MLW

/-! the reference takes tokens, numbers, names: live or dead -/
section MOP
variable {v : Nat → Int32} {len : Nat} {S S' : St}
def MKm (mk : Mk) (S : St) : Prop := match mk with
  | none => S.1 140 15 = 0
  | some (k, p) => S.1 140 15 = nI k ∧ S.1 140 16 = nI p ∧ 3 ≤ k ∧ k ≤ 5
def mok (v : Nat → Int32) (len t : Nat) (mk : Mk) : Prop := ∀ k p, mk = some (k, p) → p < psT v len t
def SRm (v : Nat → Int32) (len : Nat) (st : Stt) (S : St) : Prop := match st with
  | .inl (f, u) => DDm f (psT v len u) S
  | .inr (t, mk) => LVm v len t S ∧ MKm mk S ∧ mok v len t mk
/-- only where the reading is, and what was marked, is changed -/
def FN (S S' : St) : Prop := S'.2 = S.2 ∧ ∀ a k, (a = 140 → k < 11 ∨ k = 12 ∨ 16 < k) → S'.1 a k = S.1 a k
theorem FN.rf : FN S S := ⟨rfl, fun _ _ _ => rfl⟩
theorem FN.tr {S S' S'' : St} (h : FN S S') (h' : FN S' S'') : FN S S'' := ⟨h'.1.trans h.1, fun a k q => (h'.2 a k q).trans (h.2 a k q)⟩
theorem FN_rr (h : FN S S') (hr : RFM S.2.2) : RFM S'.2.2 := by rw [h.1]; exact hr
theorem MKm_set {mk : Mk} (h : MKm mk S) (h5 : S'.1 140 15 = S.1 140 15) (h6 : S'.1 140 16 = S.1 140 16) : MKm mk S' := by
  match mk, h with
  | none, h => exact h5.trans h
  | some (k, p), h => exact ⟨h5.trans h.1, h6.trans h.2.1, h.2.2⟩
theorem mok_up {t : Nat} {mk : Mk} (h : mok v len t mk) (h23 : kdT v len t ≠ 23) : mok v len (t + 1) mk := fun k p e => Nat.lt_trans (h k p e) (ps_lt h23)
theorem mok_mk {t k : Nat} {mk : Mk} (h : mok v len t mk) (h23 : kdT v len t ≠ 23) : mok v len (t + 1) (mkS mk k (psT v len t)) := fun k' p' e => by
  cases mk with
  | none =>
    have e : some (k, psT v len t) = some (k', p') := e
    cases e
    exact ps_lt h23
  | some m => exact Nat.lt_trans (h k' p' e) (ps_lt h23)
theorem go_S {t k : Nat} {mk : Mk} (hr : RFM S.2.2) (h : SRm v len (.inr (t, mk)) S) (hk : kdT v len t = k) (h23 : k ≠ 23) (h24 : k ≠ 24) : ∃ S', f_X10_goesOn 140 S = some ((), S') ∧ FN S S' ∧ SRm v len (tkS v len k (.inr (t, mk))) S' := by
  obtain ⟨h1, h2, h3⟩ := h
  obtain ⟨S1, e1, -, o1, r1⟩ := goes_l hr h1 (by rw [hk]; exact h23) (by rw [hk]; exact h24)
  have e2 : S1.2 = S.2 := by
    unfold f_X10_goesOn at e1
    by_cases c : S.1 140 11 = 400
    · rw [if_pos c, show (2 : Int32) = nI 2 from rfl, fail_l hr h1, bdq] at e1
      cases e1
      rfl
    · rw [if_neg c, nmq] at e1
      cases e1
      rfl
  refine ⟨S1, e1, ⟨e2, fun a k q => o1 a k (fun e => by have := q e; omega)⟩, ?_⟩
  unfold tkS
  rw [adv_at, if_pos hk]
  by_cases c : t < 400
  · rw [if_pos c] at r1
    rw [if_pos c]
    exact ⟨r1, MKm_set h2 (o1 _ _ (fun _ => by decide)) (o1 _ _ (fun _ => by decide)), mok_up h3 (by rw [hk]; exact h23)⟩
  · rw [if_neg c] at r1
    rw [if_neg c]
    exact r1
theorem must_S {st : Stt} {k m : Nat} (hr : RFM S.2.2) (h : SRm v len st S) (hm : m < 128) (hkm : ∀ x, x < 128 → (kmN x = m ↔ x = k)) (h23 : k ≠ 23) (h24 : k ≠ 24) : ∃ S', f_X10_must 140 (nI m) S = some ((), S') ∧ FN S S' ∧ SRm v len (tkS v len k st) S' := by
  unfold f_X10_must
  match st, h with
  | .inl (f, u), h =>
    rw [is_d h, bdq, if_pos rfl, fail_d h, bdq]
    exact ⟨S, rfl, FN.rf, h⟩
  | .inr (t, mk), h =>
    have hkl : kdT v len t < 128 := kd_lt
    rw [is_l hr h.1 hm, bdq]
    by_cases c : kdT v len t = k
    · obtain ⟨S1, e1, f1, s1⟩ := go_S hr h c h23 h24
      rw [if_pos ((hkm _ hkl).mpr c), if_neg ne10, e1, bdq]
      exact ⟨S1, rfl, f1, s1⟩
    · rw [if_neg (fun q => c ((hkm _ hkl).mp q)), if_pos rfl, show (1 : Int32) = nI 1 from rfl, fail_l hr h.1, bdq]
      refine ⟨_, rfl, ⟨rfl, fun a k q => by rw [sI_ne (by omega), sI_ne (by omega)]⟩, ?_⟩
      unfold tkS
      rw [adv_at, if_neg c]
      exact DDm_of h.1 (Or.inl rfl)
theorem km4 : ∀ x, x < 128 → (kmN x = 4 ↔ x = 59) := fun x hx => (km_b x hx).2.2.1
theorem km1 : ∀ x, x < 128 → (kmN x = 1 ↔ x = 21) := fun x hx => (km_b x hx).1
theorem LVm.ps2 {t u : Nat} (h : LVm v len t S) (hu : u ≤ t) : S.1 144 u = nI (psT v len u) := (h.2.2.2.2 u (by have := h.1; omega) (by have := h.1; omega) (fun i hi => h.2.2.2.1 i (by omega))).2.1
theorem wrong_l {t u k : Nat} {mk : Mk} (hr : RFM S.2.2) (hlen : len ≤ 2000) (h : LVm v len t S) (hu : u ≤ t) (hmk : MKm mk S) (hk : 3 ≤ k ∧ k ≤ 5) (hm : ∀ k0 p0, mk = some (k0, p0) → p0 < psT v len u ∨ (p0 = psT v len u ∧ k0 ≤ k)) : ∃ S', f_X10_wrong 140 (nI k) (nI u) S = some ((), S') ∧ S'.2 = S.2 ∧ (∀ a j, (a = 140 → j ≠ 15 ∧ j ≠ 16) → S'.1 a j = S.1 a j) ∧ MKm (mkS mk k (psT v len u)) S' := by
  have ht := h.1
  have hp := psT_le (v := v) (len := len) u
  unfold f_X10_wrong b_X10_wrong_46
  rw [ix_nI (show u < 403 by omega) (by decide), obq, nmq, rq_6 hr, h.ps2 hu, h.2.2.1, if_neg (show ¬ (0 : Int32) < 0 by decide)]
  match mk, hmk, hm with
  | none, hmk, _ =>
    have hmk : S.1 140 15 = 0 := hmk
    rw [hmk, if_pos rfl, nmq, nmq]
    refine ⟨_, rfl, rfl, fun a j q => by rw [sI_ne (by omega), sI_ne (by omega)], ?_⟩
    exact ⟨by rw [sI_ne (Or.inr (by decide)), sI_at], sI_at, hk⟩
  | some (k0, p0), hmk, hm =>
    obtain ⟨y1, y2, y3, y4⟩ := hmk
    rw [y1, y2, if_neg (nI_ne0 (by omega) (by omega))]
    have hh := hm k0 p0 rfl
    by_cases c : p0 < psT v len u
    · rw [if_pos ((nI_ltI (by omega) (by omega)).mpr c)]
      exact ⟨S, rfl, rfl, fun _ _ _ => rfl, y1, y2, y3, y4⟩
    · have e : p0 = psT v len u := by omega
      rw [if_neg (fun q => c ((nI_ltI (by omega) (by omega)).mp q)), if_pos (by rw [e]), if_neg (fun q => by have := (nI_ltI (by omega) (by omega)).mp q; omega)]
      exact ⟨S, rfl, rfl, fun _ _ _ => rfl, y1, y2, y3, y4⟩
theorem LVm_o {t : Nat} (h : LVm v len t S) (h2 : S'.2 = S.2) (ho : ∀ a j, (a = 140 → j ≠ 15 ∧ j ≠ 16) → S'.1 a j = S.1 a j) : LVm v len t S' := by
  obtain ⟨a1, a2, a3, a4, a5⟩ := h
  refine ⟨a1, (ho _ _ (fun _ => by decide)).trans a2, (ho _ _ (fun _ => by decide)).trans a3, a4, fun j h1 h2' h3 => ?_⟩
  obtain ⟨b1, b2, b3, b4⟩ := a5 j h1 h2' h3
  refine ⟨(ho _ _ (fun q => absurd q (by decide))).trans b1, (ho _ _ (fun q => absurd q (by decide))).trans b2, fun q => (ho _ _ (fun q => absurd q (by decide))).trans (b3 q), fun q => ?_⟩
  rw [h2]
  exact b4 q
theorem bounded_S {st : Stt} {lo hi : Nat} (hlen : len ≤ 2000) (hr : RFM S.2.2) (h : SRm v len st S) (hlo : lo < 2 ^ 31) (hhi : hi < 2 ^ 31) : ∃ r S', f_X10_bounded 140 (nI lo) (nI hi) S = some (r, S') ∧ FN S S' ∧ SRm v len (nuS v len (okR lo hi) st) S' ∧ (liv (nuS v len (okR lo hi) st) → r = nI (vlV v len (tkn st))) := by
  unfold f_X10_bounded b_X10_bounded_15 b_X10_bounded_42 b_X10_bounded_51
  match st, h with
  | .inl (f, u), h =>
    have h' : DDm f (psT v len u) S := h
    rw [if_pos (show 0 < S.1 140 13 by rw [h'.1]; rcases h'.2.2.1 with e | e <;> rw [e] <;> decide), fail_d h, bdq]
    exact ⟨_, S, rfl, FN.rf, h, fun q => absurd q not_liv⟩
  | .inr (t, mk), h =>
    have hkl : kdT v len t < 128 := kd_lt
    obtain ⟨h1, h2, h3⟩ := h
    have ht := h1.1
    rw [if_neg (show ¬ 0 < S.1 140 13 by rw [h1.2.2.1]; decide), show (2 : Int32) = nI 2 from rfl, is_l hr h1 (by decide), bdq]
    unfold nuS
    rw [adv_at]
    by_cases c : kdT v len t = 22
    · have hv := vl_lt c
      have h145 : S.1 145 t = nI (vlV v len t) := (h1.2.2.2.2 t (by omega) ht h1.2.2.2.1).2.2.1 c
      rw [if_pos (((km_a _ hkl).2.2.2.2.2.2.1).mpr c), if_neg ne10, h1.2.1, ix_nI (show t < 403 by omega) (by decide), obq, nmq, rq_7 hr, h145, rng_if, if_pos c]
      have ok_iff : (lo ≤ vlV v len t ∧ vlV v len t ≤ hi) ↔ okR lo hi (vlV v len t) = true := by
        unfold okR
        rw [Bool.and_eq_true, decide_eq_true_eq, decide_eq_true_eq]
      by_cases ok : lo ≤ vlV v len t ∧ vlV v len t ≤ hi
      · obtain ⟨S1, e1, f1, s1⟩ := go_S hr ⟨h1, h2, h3⟩ c (by decide) (by decide)
        unfold tkS at s1
        rw [adv_at, if_pos c] at s1
        rw [if_pos (show nI lo ≤ nI (vlV v len t) ∧ nI (vlV v len t) ≤ nI hi from ⟨(nI_leI hlo (by omega)).mpr ok.1, (nI_leI (by omega) hhi).mpr ok.2⟩), e1, bdq, if_pos (ok_iff.mp ok)]
        exact ⟨_, S1, rfl, f1, s1, fun _ => rfl⟩
      · obtain ⟨S0, e0, i0, o0, m0⟩ := wrong_l (k := 5) hr hlen h1 (Nat.le_refl t) h2 (by decide) (fun k0 p0 e => Or.inl (h3 k0 p0 e))
        have hr0 : RFM S0.2.2 := by rw [i0]; exact hr
        obtain ⟨S1, e1, -, o1, r1⟩ := goes_l hr0 (LVm_o h1 i0 o0) (by omega) (by omega)
        obtain ⟨S1', e1', f1', -⟩ := go_S (mk := none) (S := sI S0 140 15 0) (k := 22) (t := t) hr0 ⟨LVm_o (LVm_o h1 i0 o0) rfl (fun a j q => sI_ne (by omega)), sI_at, fun _ _ e => by cases e⟩ c (by decide) (by decide)
        have i1 : S1.2 = S0.2 := by
          unfold f_X10_goesOn at e1
          by_cases c4 : S0.1 140 11 = 400
          · rw [if_pos c4, show (2 : Int32) = nI 2 from rfl, fail_l hr0 (LVm_o h1 i0 o0), bdq] at e1
            cases e1
            rfl
          · rw [if_neg c4, nmq] at e1
            cases e1
            rfl
        rw [if_neg (show ¬ (nI lo ≤ nI (vlV v len t) ∧ nI (vlV v len t) ≤ nI hi) from fun q => ok ⟨(nI_leI hlo (by omega)).mp q.1, (nI_leI (by omega) hhi).mp q.2⟩), show f_X10_wrong 140 5 (nI t) S = some ((), S0) from e0, bdq, e1, bdq, if_neg (fun q => ok (ok_iff.mpr q))]
        refine ⟨_, S1, rfl, ⟨i1.trans i0, fun a k q => (o1 a k (fun e => by have := q e; omega)).trans (o0 a k (fun e => by have := q e; omega))⟩, ?_, fun _ => rfl⟩
        by_cases c4 : t < 400
        · rw [if_pos c4] at r1
          rw [if_pos c4]
          exact ⟨r1, MKm_set m0 (o1 _ _ (fun _ => by decide)) (o1 _ _ (fun _ => by decide)), mok_mk h3 (by omega)⟩
        · rw [if_neg c4] at r1
          rw [if_neg c4]
          exact r1
    · rw [if_neg (fun q => c (((km_a _ hkl).2.2.2.2.2.2.1).mp q)), if_pos rfl, show (1 : Int32) = nI 1 from rfl, fail_l hr h1, bdq, if_neg c]
      exact ⟨_, _, rfl, ⟨rfl, fun a k q => by rw [sI_ne (by omega), sI_ne (by omega)]⟩, DDm_of h1 (Or.inl rfl), fun q => absurd q not_liv⟩
theorem okR3 : okR 0 3 = ok3 := by
  funext n
  unfold okR ok3
  rw [decide_eq_true (Nat.zero_le n), Bool.true_and]
theorem tstep_S {st : Stt} (hlen : len ≤ 2000) (hr : RFM S.2.2) (h : SRm v len st S) : ∃ r S', f_X10_toldStep 140 S = some (r, S') ∧ FN S S' ∧ SRm v len (spS v len st) S' ∧ (liv (spS v len st) → r = spV v len st) := by
  unfold f_X10_toldStep b_X10_toldStep_20 b_X10_toldStep_21 b_X10_toldStep_30
  match st, h with
  | .inl (f, u), h =>
    have h' : DDm f (psT v len u) S := h
    obtain ⟨r, S1, e1, f1, s1, l1⟩ := bounded_S (st := .inl (f, u)) (lo := 0) (hi := 3) hlen hr h (by decide) (by decide)
    rw [if_neg (by rw [h'.1]; exact f_nz h'.2.2.1), if_pos rfl, show f_X10_bounded 140 0 3 S = some (r, S1) from e1, bdq, if_pos rfl]
    exact ⟨r, S1, rfl, f1, s1, fun q => absurd q not_liv⟩
  | .inr (t, mk), h =>
    have hkl : kdT v len t < 128 := kd_lt
    rw [if_pos h.1.2.2.1, show (9 : Int32) = nI 9 from rfl, is_l hr h.1 (by decide), bdq, spS_at]
    by_cases c : kdT v len t = 45
    · obtain ⟨S1, e1, f1, s1⟩ := go_S hr h c (by decide) (by decide)
      obtain ⟨r, S2, e2, f2, s2, l2⟩ := bounded_S (lo := 0) (hi := 3) hlen (FN_rr f1 hr) s1 (by decide) (by decide)
      rw [if_pos (((km_a _ hkl).2.2.2.1).mpr c), if_neg ne10, if_neg ne10, e1, bdq, show f_X10_bounded 140 0 3 S1 = some (r, S2) from e2, bdq, if_neg ne10, if_pos c]
      rw [okR3] at s2 l2
      refine ⟨_, S2, rfl, f1.tr f2, s2, fun q => ?_⟩
      rw [l2 q]
      obtain ⟨t2, mk2, hq⟩ := q
      obtain ⟨t3, mk3, g1, g2, g3, g4, g5⟩ := adv_inr hq
      obtain ⟨t4, mk4, k1, k2, k3, k4, k5⟩ := adv_inr g1
      cases k1
      unfold spV
      rw [g1, k4]
      show -(nI (vlV v len (t + 1))) = if kdT v len t = 45 then -(nI (vlV v len (t + 1))) else nI (vlV v len t)
      rw [if_pos c]
    · obtain ⟨r, S2, e2, f2, s2, l2⟩ := bounded_S (lo := 0) (hi := 3) hlen hr h (by decide) (by decide)
      rw [if_neg (fun q => c (((km_a _ hkl).2.2.2.1).mp q)), if_pos rfl, if_pos rfl, show f_X10_bounded 140 0 3 S = some (r, S2) from e2, bdq, if_pos rfl, if_neg c]
      rw [okR3] at s2 l2
      refine ⟨_, S2, rfl, f2, s2, fun q => ?_⟩
      rw [l2 q]
      show nI (vlV v len t) = if kdT v len t = 45 then -(nI (vlV v len (t + 1))) else nI (vlV v len t)
      rw [if_neg c]
/-! names -/
def NMm (v : Nat → Int32) (len : Nat) (A : RA) (S : St) : Prop := ∀ k, k < rN A → S.2.1 148 k = Int64.ofNat (nm27 v len (psT v len (rT A k))) ∧ S.1 149 k = nI (rA A k)
def anF (p : Nat → Bool) : Nat → Nat → Bool
  | 0, _ => false
  | m + 1, k => p k || anF p m (k + 1)
theorem anF_iff {p : Nat → Bool} : ∀ (m k : Nat), anF p m k = true ↔ ∃ j, k ≤ j ∧ j < k + m ∧ p j = true := by
  intro m
  induction m with
  | zero => intro k; exact ⟨fun h => (by cases h), fun ⟨j, h1, h2, _⟩ => (by omega)⟩
  | succ m ih =>
    intro k
    rw [anF, Bool.or_eq_true, ih (k + 1)]
    constructor
    · rintro (h | ⟨j, h1, h2, h3⟩)
      · exact ⟨k, by omega, by omega, h⟩
      · exact ⟨j, by omega, by omega, h3⟩
    · rintro ⟨j, h1, h2, h3⟩
      by_cases e : j = k
      · subst e; exact Or.inl h3
      · exact Or.inr ⟨j, by omega, by omega, h3⟩
theorem anF_dup {A : RA} {i : Nat} : anF (fun k => eqT v len (rT A k) i) (rN A) 0 = dupA v len A i := by
  rw [Bool.eq_iff_iff, anF_iff, dupA_iff]
  constructor
  · rintro ⟨j, h1, h2, h3⟩; exact ⟨j, by omega, h3⟩
  · rintro ⟨j, h1, h2⟩; exact ⟨j, by omega, by omega, h2⟩
def mk3 (mk : Mk) (p : Nat) (b : Bool) : Mk := if b then mkS mk 3 p else mk
theorem named_loop {A : RA} {u : Nat} {mk : Mk} (hlen : len ≤ 2000) (hN : NI v len A) (hn : rN A ≤ 10) (hu : kdT v len u = 21) (hm : mok v len u mk) : ∀ (m fu k : Nat) (b : Bool) (S : St), m < fu → k + m = rN A → RFM S.2.2 → S.1 140 20 = nI (rN A) → NMm v len A S → LVm v len (u + 1) S → MKm (mk3 mk (psT v len u) b) S → ∃ S', b_X10_named_12 fu 140 (nI u) (nI k) S = some (nI u, S') ∧ S'.2 = S.2 ∧ (∀ a j, (a = 140 → j ≠ 15 ∧ j ≠ 16) → S'.1 a j = S.1 a j) ∧ MKm (mk3 mk (psT v len u) (b || anF (fun k => eqT v len (rT A k) u) m k)) S' := by
  intro m
  induction m with
  | zero =>
    intro fu k b S hf hk hr h20 hNM hL hM
    obtain ⟨fu, rfl⟩ : ∃ f, fu = f + 1 := ⟨fu - 1, by omega⟩
    rw [b_X10_named_12, h20, if_pos (le_l (by omega) (by omega) (by omega))]
    refine ⟨S, rfl, rfl, fun _ _ _ => rfl, ?_⟩
    rw [anF, Bool.or_false]
    exact hM
  | succ m ih =>
    intro fu k b S hf hk hr h20 hNM hL hM
    obtain ⟨fu, rfl⟩ : ∃ f, fu = f + 1 := ⟨fu - 1, by omega⟩
    have hu4 := hL.1
    have h146 : S.2.1 146 u = Int64.ofNat (nm27 v len (psT v len u)) := (hL.2.2.2.2 u (by omega) (by omega) (fun i hi => hL.2.2.2.1 i (by omega))).2.2.2 hu
    have h148 := (hNM k (by omega)).1
    rw [b_X10_named_12, h20, if_neg (nle_l (by omega) (by omega) (by omega)), if_pos hL.2.2.1, ix_nI (show k < 10 by omega) (by decide), obq, ix_nI (show u < 403 by omega) (by decide), obq, rq_21 hr, rq_8 hr, h148, h146]
    unfold b_X10_named_49
    by_cases c : eqT v len (rT A k) u = true
    · rw [if_pos (lg0.mpr ((eqT_m (hN.2.2.1 k (by omega)).2 hu).mpr c))]
      obtain ⟨S1, e1, i1, o1, m1⟩ := wrong_l (k := 3) (u := u) hr hlen hL (by omega) hM (by decide) (fun k0 p0 e => by
        unfold mk3 at e
        cases b with
        | false => rw [if_neg (by decide)] at e; exact Or.inl (hm k0 p0 e)
        | true =>
          rw [if_pos rfl] at e
          cases mk with
          | none =>
            have e : some (3, psT v len u) = some (k0, p0) := e
            cases e
            exact Or.inr ⟨rfl, by decide⟩
          | some m => exact Or.inl (hm k0 p0 e))
      have em : mkS (mk3 mk (psT v len u) b) 3 (psT v len u) = mk3 mk (psT v len u) true := by
        unfold mk3
        cases b <;> cases mk <;> rfl
      rw [em] at m1
      obtain ⟨S2, e2, i2, o2, m2⟩ := ih fu (k + 1) true S1 (by omega) (by omega) (by rw [i1]; exact hr) ((o1 _ _ (fun _ => by decide)).trans h20) (fun j hj => by rw [i1]; exact ⟨(hNM j hj).1, (o1 _ _ (fun q => absurd q (by decide))).trans (hNM j hj).2⟩) (LVm_o hL i1 o1) m1
      rw [show f_X10_wrong 140 3 (nI u) S = some ((), S1) from e1, bdq, nmq, nI_1, e2]
      refine ⟨S2, rfl, i2.trans i1, fun a j q => (o2 a j q).trans (o1 a j q), ?_⟩
      rw [anF, c, Bool.true_or, Bool.or_true]
      rw [Bool.true_or] at m2
      exact m2
    · rw [if_neg (fun q => c ((eqT_m (hN.2.2.1 k (by omega)).2 hu).mp (lg0.mp q))), nmq, nI_1]
      obtain ⟨S2, e2, i2, o2, m2⟩ := ih fu (k + 1) b S (by omega) (by omega) hr h20 hNM hL hM
      rw [e2]
      refine ⟨S2, rfl, i2, o2, ?_⟩
      rw [anF, show eqT v len (rT A k) u = false by simpa using c, Bool.false_or]
      exact m2
theorem SRm_t {st : Stt} (h : SRm v len st S) : ∃ u, u ≤ 400 ∧ S.1 140 11 = nI u ∧ ∀ t mk, st = .inr (t, mk) → u = t := by
  match st, h with
  | .inl (f, w), h =>
    have h : DDm f (psT v len w) S := h
    obtain ⟨t, ht, e⟩ := h.2.2.2
    exact ⟨t, ht, e, fun t mk q => by cases q⟩
  | .inr (t, mk), h => exact ⟨t, h.1.1, h.1.2.1, fun t' mk' q => by cases q; rfl⟩
theorem named_S {st : Stt} {A : RA} (hlen : len ≤ 2000) (hr : RFM S.2.2) (h : SRm v len st S) (hN : NI v len A) (hn : rN A ≤ 10) (h20 : S.1 140 20 = nI (rN A)) (hS : NMm v len A S) : ∃ u S', f_X10_named 140 S = some (nI u, S') ∧ u ≤ 400 ∧ FN S S' ∧ SRm v len (naS v len (dupA v len A) st) S' ∧ (liv (naS v len (dupA v len A) st) → u = tkn st) := by
  obtain ⟨u, hu, e11, t1⟩ := SRm_t h
  obtain ⟨S1, e1, f1, s1⟩ := must_S hr h (m := 1) (k := 21) (by decide) km1 (by decide) (by decide)
  have hadv : naS v len (dupA v len A) st = mapM (tkS v len 21 st) (fun mk => if dupA v len A (tkn st) then mkS mk 3 (psT v len (tkn st)) else mk) := adv_tk
  unfold f_X10_named
  rw [nmq, e11, show f_X10_must 140 1 S = some ((), S1) from e1, bdq, show FU = 4999 + 1 from rfl, hadv]
  have r1 := FN_rr f1 hr
  cases hst : tkS v len 21 st with
  | inl e =>
    rw [hst] at s1
    obtain ⟨f, w⟩ := e
    have s1 : DDm f (psT v len w) S1 := s1
    have hz : b_X10_named_12 (4999 + 1) 140 (nI u) 0 S1 = some (nI u, S1) := by
      rw [b_X10_named_12]
      by_cases c : S1.1 140 20 ≤ 0
      · rw [if_pos c]
      · rw [if_neg c, if_neg (by rw [s1.1]; exact f_nz s1.2.2.1)]
    exact ⟨u, S1, hz, hu, f1, s1, fun q => absurd q not_liv⟩
  | inr w =>
    obtain ⟨t', mk'⟩ := w
    obtain ⟨t, mk, a1, a2, a3, a4, a5⟩ := adv_inr hst
    have eu := t1 t mk a1
    subst eu
    rw [hst, a4] at s1
    obtain ⟨l1, m1, k1⟩ := s1
    have hmok : mok v len u mk' := by
      rw [a1] at h
      have : mk' = mk := a5
      rw [this]
      exact h.2.2
    obtain ⟨S2, e2, i2, o2, m2⟩ := named_loop (A := A) (u := u) (mk := mk') hlen hN hn a2 hmok (rN A) (4999 + 1) 0 false S1 (by omega) (by omega) r1 ((f1.2 _ _ (by omega)).trans h20) (fun k hk => by rw [f1.1]; exact ⟨(hS k hk).1, (f1.2 _ _ (by omega)).trans (hS k hk).2⟩) l1 m1
    rw [Bool.false_or, anF_dup] at m2
    have et : tkn st = u := by rw [a1]; rfl
    refine ⟨u, S2, e2, hu, f1.tr ⟨i2, fun a j q => o2 a j (fun e => by have := q e; omega)⟩, ?_, fun _ => et.symm⟩
    show SRm v len (.inr (t', if dupA v len A (tkn st) = true then mkS mk' 3 (psT v len (tkn st)) else mk')) S2
    rw [et, a4]
    refine ⟨LVm_o l1 i2 o2, m2, ?_⟩
    by_cases c : dupA v len A u = true
    · rw [if_pos c]; exact mok_mk hmok (by omega)
    · rw [if_neg c]; exact k1
theorem known_loop {A : RA} {u lo : Nat} (hN : NI v len A) (hn : rN A ≤ 10) (hu : kdT v len u = 21) (hu4 : u < 400) (hlo : lo = 0 ∨ lo = 10) (hm4 : bM (rB A) ≤ 4) (hp6 : bP (rB A) ≤ 6) (hr : RFM S.2.2) (h20 : S.1 140 20 = nI (rN A)) (hNM : NMm v len A S) (h146 : S.2.1 146 u = Int64.ofNat (nm27 v len (psT v len u))) : ∀ (m fu k : Nat), m < fu → k + m = rN A → b_X10_known_21 fu 140 (nI lo) (nI u) (nI k) S = match lokF (fun k => eqT v len (rT A k) u && (decide (lo ≤ rA A k) && decide (rA A k < lo + 10))) (fun k => rA A k - lo) m k with
    | some a => some (nI a, S)
    | none => bd (f_X10_wrong 140 (4 : Int32) (nI u) S) fun _ S1 => some ((-1 : Int32), S1) := by
  intro m
  induction m with
  | zero =>
    intro fu k hf hk
    obtain ⟨fu, rfl⟩ : ∃ f, fu = f + 1 := ⟨fu - 1, by omega⟩
    rw [b_X10_known_21, h20, if_pos (le_l (by omega) (by omega) (by omega))]
    rfl
  | succ m ih =>
    intro fu k hf hk
    obtain ⟨fu, rfl⟩ : ∃ f, fu = f + 1 := ⟨fu - 1, by omega⟩
    obtain ⟨h148, h149⟩ := hNM k (by omega)
    have n3 := (hN.2.2.1 k (by omega)).1
    rw [b_X10_known_21, h20, if_neg (nle_l (by omega) (by omega) (by omega)), ix_nI (show k < 10 by omega) (by decide), obq, ix_nI (show u < 403 by omega) (by decide), obq, obq, obq, obq, rq_21 hr, rq_8 hr, rq_22 hr, h148, h146, h149, lokF]
    unfold b_X10_known_77
    rw [nmq, nI_1, ih fu (k + 1) (by omega) (by omega), show nI lo + 10 = nI (lo + 10) from nI_add lo 10]
    by_cases c : eqT v len (rT A k) u = true
    · rw [if_pos (lg0.mpr ((eqT_m (hN.2.2.1 k (by omega)).2 hu).mpr c)), c, Bool.true_and]
      by_cases c1 : rA A k < lo
      · rw [if_pos ((nI_ltI (by omega) (by omega)).mpr c1), decide_eq_false (show ¬ lo ≤ rA A k by omega), Bool.false_and, if_neg (by decide)]
      · rw [if_neg (fun q => c1 ((nI_ltI (by omega) (by omega)).mp q)), decide_eq_true (show lo ≤ rA A k by omega), Bool.true_and]
        by_cases c2 : lo + 10 ≤ rA A k
        · rw [if_pos ((nI_leI (by omega) (by omega)).mpr c2), decide_eq_false (show ¬ rA A k < lo + 10 by omega), if_neg (by decide)]
        · rw [if_neg (fun q => c2 ((nI_leI (by omega) (by omega)).mp q)), decide_eq_true (show rA A k < lo + 10 by omega), if_pos rfl, pk_sub (by omega)]
    · rw [if_neg (fun q => c ((eqT_m (hN.2.2.1 k (by omega)).2 hu).mp (lg0.mp q))), show eqT v len (rT A k) u = false by simpa using c, Bool.false_and, if_neg (by decide)]
theorem known_S {st : Stt} {A : RA} {lo : Nat} (hlen : len ≤ 2000) (hr : RFM S.2.2) (h : SRm v len st S) (hN : NI v len A) (hn : rN A ≤ 10) (hlo : lo = 0 ∨ lo = 10) (hm4 : bM (rB A) ≤ 4) (hp6 : bP (rB A) ≤ 6) (h20 : S.1 140 20 = nI (rN A)) (hS : NMm v len A S) : ∃ r S', f_X10_known 140 (nI lo) S = some (r, S') ∧ FN S S' ∧ SRm v len (whS v len (okN v len A lo) st) S' ∧ (liv (whS v len (okN v len A lo) st) → r = oI (lkA v len A lo (tkn st))) := by
  obtain ⟨u, hu, e11, t1⟩ := SRm_t h
  obtain ⟨S1, e1, f1, s1⟩ := must_S hr h (m := 1) (k := 21) (by decide) km1 (by decide) (by decide)
  have hadv : whS v len (okN v len A lo) st = mapM (tkS v len 21 st) (fun mk => if okN v len A lo (tkn st) then mk else mkS mk 4 (psT v len (tkn st))) := adv_tk
  unfold f_X10_known
  rw [nmq, e11, show f_X10_must 140 1 S = some ((), S1) from e1, bdq, hadv]
  have r1 := FN_rr f1 hr
  cases hst : tkS v len 21 st with
  | inl e =>
    rw [hst] at s1
    obtain ⟨f, w⟩ := e
    have s1 : DDm f (psT v len w) S1 := s1
    rw [if_neg (by rw [s1.1]; exact f_pos s1.2.2.1)]
    exact ⟨_, S1, rfl, f1, s1, fun q => absurd q not_liv⟩
  | inr w =>
    obtain ⟨t', mk'⟩ := w
    obtain ⟨t, mk, a1, a2, a3, a4, a5⟩ := adv_inr hst
    have eu := t1 t mk a1
    subst eu
    rw [hst, a4] at s1
    obtain ⟨l1, m1, k1⟩ := s1
    have hmok : mok v len u mk' := by
      rw [a1] at h
      have : mk' = mk := a5
      rw [this]
      exact h.2.2
    have et : tkn st = u := by rw [a1]; rfl
    have h146 : S1.2.1 146 u = Int64.ofNat (nm27 v len (psT v len u)) := (l1.2.2.2.2 u (by omega) (by omega) (fun i hi => l1.2.2.2.1 i (by omega))).2.2.2 a2
    have hl := known_loop (A := A) (lo := lo) hN hn a2 a3 hlo hm4 hp6 r1 ((f1.2 _ _ (by omega)).trans h20) (fun k hk => by rw [f1.1]; exact ⟨(hS k hk).1, (f1.2 _ _ (by omega)).trans (hS k hk).2⟩) h146 (rN A) FU 0 (show rN A < 5000 by omega) (by omega)
    rw [if_pos (by rw [l1.2.2.1]; decide), show (0 : Int32) = nI 0 from rfl, hl]
    show ∃ r S', _ ∧ FN S S' ∧ SRm v len (.inr (t', if okN v len A lo (tkn st) = true then mk' else mkS mk' 4 (psT v len (tkn st)))) S' ∧ _
    rw [et, a4]
    cases hlk : lkA v len A lo u with
    | some a =>
      have hlk' : lokF (fun k => eqT v len (rT A k) u && (decide (lo ≤ rA A k) && decide (rA A k < lo + 10))) (fun k => rA A k - lo) (rN A) 0 = some a := hlk
      rw [hlk']
      refine ⟨_, S1, rfl, f1, ?_, fun _ => rfl⟩
      rw [if_pos (show okN v len A lo u = true by unfold okN; rw [hlk]; rfl)]
      exact ⟨l1, m1, k1⟩
    | none =>
      have hlk' : lokF (fun k => eqT v len (rT A k) u && (decide (lo ≤ rA A k) && decide (rA A k < lo + 10))) (fun k => rA A k - lo) (rN A) 0 = none := hlk
      rw [hlk']
      obtain ⟨S2, e2, i2, o2, m2⟩ := wrong_l (k := 4) (u := u) r1 hlen l1 (by omega) m1 (by decide) (fun k0 p0 e => Or.inl (hmok k0 p0 e))
      refine ⟨_, S2, by rw [show f_X10_wrong 140 4 (nI u) S1 = some ((), S2) from e2, bdq]; rfl, f1.tr ⟨i2, fun a j q => o2 a j (fun e => by have := q e; omega)⟩, ?_, fun _ => rfl⟩
      rw [if_neg (show ¬ okN v len A lo u = true by unfold okN; rw [hlk]; decide)]
      exact ⟨LVm_o l1 i2 o2, m2, mok_mk hmok (by omega)⟩
/-- the end of a MERMAID's, or a PERSON's -/
theorem ends_S {st : Stt} {u n : Nat} {at' : Int32} (hr : RFM S.2.2) (h : SRm v len st S) (hu : u ≤ 400) (hn : n < 10) (h20 : S.1 140 20 = nI n) : ∃ S', f_X10_endsName 140 (nI u) at' S = some ((), S') ∧ SRm v len (tkS v len 59 st) S' ∧ S'.2.2 = S.2.2 ∧ (∀ a k, (a = 140 → k < 11 ∨ k = 12 ∨ (16 < k ∧ k ≠ 20)) → a ≠ 149 → S'.1 a k = S.1 a k) ∧ (∀ a k, a ≠ 148 → S'.2.1 a k = S.2.1 a k) ∧ (liv (tkS v len 59 st) → S'.1 140 20 = nI (n + 1) ∧ S'.2.1 148 n = S.2.1 146 u ∧ S'.1 149 n = at' ∧ ∀ k, k ≠ n → S'.2.1 148 k = S.2.1 148 k ∧ S'.1 149 k = S.1 149 k) := by
  obtain ⟨S1, e1, f1, s1⟩ := must_S hr h (m := 4) (k := 59) (by decide) km4 (by decide) (by decide)
  have r1 := FN_rr f1 hr
  have g20 : S1.1 140 20 = nI n := (f1.2 _ _ (by omega)).trans h20
  unfold f_X10_endsName
  rw [show f_X10_must 140 4 S = some ((), S1) from e1, bdq]
  cases hst : tkS v len 59 st with
  | inl e =>
    rw [hst] at s1
    obtain ⟨f, w⟩ := e
    have s1 : DDm f (psT v len w) S1 := s1
    rw [if_neg (by rw [s1.1]; exact f_pos s1.2.2.1)]
    exact ⟨S1, rfl, s1, by rw [f1.1], fun a k q _ => f1.2 a k (by omega), fun a k _ => by rw [f1.1], fun q => absurd q not_liv⟩
  | inr w =>
    obtain ⟨t', mk'⟩ := w
    rw [hst] at s1
    obtain ⟨l1, m1, k1⟩ := s1
    have r2 : RFM (sL S1 148 n (S1.2.1 146 u)).2.2 := r1
    have g2 : (sL S1 148 n (S1.2.1 146 u)).1 140 20 = nI n := g20
    have g3 : (sI (sL S1 148 n (S1.2.1 146 u)) 149 n at').1 140 20 = nI n := (sI_ne (by omega)).trans g2
    rw [if_pos (by rw [l1.2.2.1]; decide), ix_nI (show u < 403 by omega) (by decide), obq, g20, ix_nI hn (by decide), obq, nmq, rq_21 r1, rq_8 r1, g2, ix_nI hn (by decide), obq, nmq, rq_22 r2, nmq, g3, nI_1]
    have o : ∀ a k, (a = 140 → k ≠ 20) → a ≠ 149 → (sI (sI (sL S1 148 n (S1.2.1 146 u)) 149 n at') 140 20 (nI (n + 1))).1 a k = S1.1 a k := fun a k h1 h2 => by rw [sI_ne (by omega), sI_ne (Or.inl h2), sL_1]
    have oL : ∀ a k, (a = 148 → k ≠ n) → (sI (sI (sL S1 148 n (S1.2.1 146 u)) 149 n at') 140 20 (nI (n + 1))).2.1 a k = S1.2.1 a k := fun a k h1 => by
      show (sL S1 148 n (S1.2.1 146 u)).2.1 a k = S1.2.1 a k
      rw [sL_2, if_neg (by omega)]
    refine ⟨_, rfl, ⟨⟨l1.1, (o _ _ (by omega) (by omega)).trans l1.2.1, (o _ _ (by omega) (by omega)).trans l1.2.2.1, l1.2.2.2.1, fun j h1 h2 h3 => ?_⟩, MKm_set m1 (o _ _ (by omega) (by omega)) (o _ _ (by omega) (by omega)), k1⟩, (show S1.2.2 = S.2.2 by rw [f1.1]), fun a k h1 h2 => (o a k (by omega) h2).trans (f1.2 a k (by omega)), fun a k h1 => (oL a k (by omega)).trans (by rw [f1.1]), fun _ => ⟨sI_at, ?_, ?_, fun k hk => ⟨(oL _ _ (fun _ => hk)).trans (by rw [f1.1]), ?_⟩⟩⟩
    · obtain ⟨b1, b2, b3, b4⟩ := l1.2.2.2.2 j h1 h2 h3
      exact ⟨(o _ _ (by omega) (by omega)).trans b1, (o _ _ (by omega) (by omega)).trans b2, fun q => (o _ _ (by omega) (by omega)).trans (b3 q), fun q => (oL _ _ (by omega)).trans (b4 q)⟩
    · show (sL S1 148 n (S1.2.1 146 u)).2.1 148 n = S.2.1 146 u
      rw [sL_2, if_pos ⟨rfl, rfl⟩, f1.1]
    · rw [sI_ne (by omega), sI_at]
    · rw [sI_ne (by omega), sI_ne (by omega), sL_1]
      exact f1.2 _ _ (by omega)
end MOP

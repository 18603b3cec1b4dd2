/-! where the reading of a text is: dead at a FAULT, or at a token, with what was marked so far -/
abbrev Mk : Type := Option (Nat × Nat)
abbrev Stt : Type := (Nat × Nat) ⊕ (Nat × Mk)
def mkS (mk : Mk) (k p : Nat) : Mk := match mk with
  | none => some (k, p)
  | some m => some m
def tkn : Stt → Nat
  | .inl _ => 0
  | .inr (t, _) => t
def liv (st : Stt) : Prop := ∃ t mk, st = .inr (t, mk)
def mapM (st : Stt) (g : Mk → Mk) : Stt := match st with
  | .inl e => .inl e
  | .inr (t, mk) => .inr (t, g mk)
def adv (v : Nat → Int32) (len : Nat) (st : Stt) (k : Nat) (g : Nat → Mk → Mk) : Stt := match st with
  | .inl e => .inl e
  | .inr (t, mk) => if kdT v len t = k then (if t < 400 then .inr (t + 1, g t mk) else .inl (2, t)) else .inl (1, t)
def tkS (v : Nat → Int32) (len : Nat) (k : Nat) (st : Stt) : Stt := adv v len st k (fun _ mk => mk)
def nuS (v : Nat → Int32) (len : Nat) (ok : Nat → Bool) (st : Stt) : Stt := adv v len st 22 (fun t mk => if ok (vlV v len t) then mk else mkS mk 5 (psT v len t))
def naS (v : Nat → Int32) (len : Nat) (dup : Nat → Bool) (st : Stt) : Stt := adv v len st 21 (fun t mk => if dup t then mkS mk 3 (psT v len t) else mk)
def whS (v : Nat → Int32) (len : Nat) (ok : Nat → Bool) (st : Stt) : Stt := adv v len st 21 (fun t mk => if ok t then mk else mkS mk 4 (psT v len t))
def ok3 (n : Nat) : Bool := decide (n ≤ 3)
def okR (lo hi n : Nat) : Bool := decide (lo ≤ n) && decide (n ≤ hi)
def spS (v : Nat → Int32) (len : Nat) (st : Stt) : Stt := match st with
  | .inl e => .inl e
  | .inr (t, mk) => if kdT v len t = 45 then nuS v len ok3 (tkS v len 45 (.inr (t, mk))) else nuS v len ok3 (.inr (t, mk))
def spV (v : Nat → Int32) (len : Nat) (st : Stt) : Int32 := if kdT v len (tkn st) = 45 then -(nI (vlV v len (tkn st + 1))) else nI (vlV v len (tkn st))
section STT
variable {v : Nat → Int32} {len : Nat} {S S' : St}
theorem adv_at {t k : Nat} {mk : Mk} {g : Nat → Mk → Mk} : adv v len (.inr (t, mk)) k g = if kdT v len t = k then (if t < 400 then .inr (t + 1, g t mk) else .inl (2, t)) else .inl (1, t) := rfl
theorem adv_inr {st : Stt} {k t' : Nat} {mk' : Mk} {g : Nat → Mk → Mk} (h : adv v len st k g = .inr (t', mk')) : ∃ t mk, st = .inr (t, mk) ∧ kdT v len t = k ∧ t < 400 ∧ t' = t + 1 ∧ mk' = g t mk := by
  match st, h with
  | .inl e, h => cases h
  | .inr (t, mk), h =>
    rw [adv_at] at h
    by_cases c : kdT v len t = k
    · rw [if_pos c] at h
      by_cases c2 : t < 400
      · rw [if_pos c2] at h
        cases h
        exact ⟨t, mk, rfl, c, c2, rfl, rfl⟩
      · rw [if_neg c2] at h; cases h
    · rw [if_neg c] at h; cases h
theorem adv_tk {st : Stt} {k : Nat} {g : Nat → Mk → Mk} : adv v len st k g = mapM (tkS v len k st) (g (tkn st)) := by
  match st with
  | .inl e => rfl
  | .inr (t, mk) =>
    unfold tkS
    rw [adv_at, adv_at]
    by_cases c : kdT v len t = k
    · rw [if_pos c, if_pos c]
      by_cases c2 : t < 400
      · rw [if_pos c2, if_pos c2]; rfl
      · rw [if_neg c2, if_neg c2]; rfl
    · rw [if_neg c, if_neg c]; rfl
theorem spS_at {t : Nat} {mk : Mk} : spS v len (.inr (t, mk)) = if kdT v len t = 45 then nuS v len ok3 (tkS v len 45 (.inr (t, mk))) else nuS v len ok3 (.inr (t, mk)) := rfl
theorem spS_inr {st : Stt} {t' : Nat} {mk' : Mk} (h : spS v len st = .inr (t', mk')) : ∃ t mk, st = .inr (t, mk) ∧ t < t' ∧ t' ≤ 400 ∧ (kdT v len t = 45 ∧ t' = t + 2 ∧ kdT v len (t + 1) = 22 ∧ mk' = (if ok3 (vlV v len (t + 1)) then mk else mkS mk 5 (psT v len (t + 1))) ∨ kdT v len t ≠ 45 ∧ t' = t + 1 ∧ kdT v len t = 22 ∧ mk' = (if ok3 (vlV v len t) then mk else mkS mk 5 (psT v len t))) := by
  match st, h with
  | .inl e, h => cases h
  | .inr (t, mk), h =>
    rw [spS_at] at h
    by_cases c : kdT v len t = 45
    · rw [if_pos c] at h
      obtain ⟨t1, mk1, h1, h2, h3, h4, h5⟩ := adv_inr h
      obtain ⟨t2, mk2, g1, g2, g3, g4, g5⟩ := adv_inr h1
      cases g1
      subst g4 g5 h4 h5
      exact ⟨_, _, rfl, by omega, by omega, Or.inl ⟨c, rfl, h2, rfl⟩⟩
    · rw [if_neg c] at h
      obtain ⟨t1, mk1, h1, h2, h3, h4, h5⟩ := adv_inr h
      cases h1
      subst h4 h5
      exact ⟨_, _, rfl, by omega, by omega, Or.inr ⟨c, rfl, h2, rfl⟩⟩
theorem not_liv {e : Nat × Nat} : ¬ liv (.inl e) := fun ⟨_, _, h⟩ => by cases h
theorem mkS_some {mk : Mk} {k p : Nat} : mkS mk k p ≠ none := by
  cases mk with
  | none => intro h; cases h
  | some m => intro h; cases h
/-- places go up -/
theorem ps_lt {t : Nat} (h23 : kdT v len t ≠ 23) : psT v len t < psT v len (t + 1) := by
  have hp := psT_le (v := v) (len := len) t
  have hlt : psT v len t < len := by
    by_cases c : psT v len t < len
    · exact c
    · exact absurd (show kdP v len (psT v len t) = 23 by unfold kdP; rw [if_pos c]) h23
  have h1 := nxP_gt (v := v) hlt
  have h2 := (skB_le (v := v) (nxP_le (v := v) hp).2).1
  have e : psT v len (t + 1) = skB v len (nxP v len (psT v len t)) := rfl
  omega
/-! names -/
theorem name_k {t : Nat} (h : kdT v len t = 21) : letB (v (psT v len t)) = true ∧ rnL v len (psT v len t) ≤ 8 := by
  unfold kdT kdP at h
  by_cases c0 : ¬ psT v len t < len
  · rw [if_pos c0] at h; omega
  · rw [if_neg c0] at h
    by_cases c1 : letB (v (psT v len t)) = true
    · rw [if_pos c1] at h
      by_cases c2 : rnL v len (psT v len t) ≤ 8
      · exact ⟨c1, c2⟩
      · rw [if_neg c2] at h; omega
    · rw [if_neg c1] at h
      by_cases c2 : digB (v (psT v len t)) = true
      · rw [if_pos c2] at h
        by_cases c3 : rnD v len (psT v len t) ≤ 4
        · rw [if_pos c3] at h; omega
        · rw [if_neg c3] at h; omega
      · rw [if_neg c2] at h
        by_cases c3 : sgnB (v (psT v len t)) = true
        · rw [if_pos c3] at h
          have h40 : ∀ x : Int32, sgnB x = true → 40 ≤ x.toInt.toNat := fun x hx => by
            unfold sgnB at hx
            simp only [Bool.or_eq_true, decide_eq_true_eq] at hx
            rcases hx with (((((((h | h) | h) | h) | h) | h) | h) | h) | h <;> subst h <;> decide
          have := h40 _ c3
          omega
        · rw [if_neg c3] at h; omega
theorem N27_lt {p : Nat} (h : rnL v len p ≤ 8) : NB 27 (dgL v p) (rnL v len p) < 2 ^ 63 := by
  have h1 := NB_lt (B0 := 27) (d := dgL v p) (rnL v len p) (fun k hk => by have := dgL_rng hk; omega)
  have h2 : 27 ^ rnL v len p ≤ 27 ^ 8 := Nat.pow_le_pow_right (by decide) h
  have h3 : (27 : Nat) ^ 8 < 2 ^ 63 := by decide
  omega
def eqT (v : Nat → Int32) (len : Nat) (i j : Nat) : Bool := decide (vlV v len i = vlV v len j)
theorem eqT_c {i j : Nat} (hi : kdT v len i = 21) (hj : kdT v len j = 21) : Int64.ofNat (vlV v len i) = Int64.ofNat (vlV v len j) ↔ eqT v len i j = true := by
  obtain ⟨a1, a2⟩ := name_k hi
  obtain ⟨b1, b2⟩ := name_k hj
  have e1 : vlV v len i < 2 ^ 63 := by
    show vlN v len (psT v len i) < 2 ^ 63
    unfold vlN
    rw [if_pos a1]
    exact N32_lt a2
  have e2 : vlV v len j < 2 ^ 63 := by
    show vlN v len (psT v len j) < 2 ^ 63
    unfold vlN
    rw [if_pos b1]
    exact N32_lt b2
  rw [i64_inj e1 e2]
  unfold eqT
  rw [decide_eq_true_eq]
theorem eqT_m {i j : Nat} (hi : kdT v len i = 21) (hj : kdT v len j = 21) : Int64.ofNat (nm27 v len (psT v len i)) = Int64.ofNat (nm27 v len (psT v len j)) ↔ eqT v len i j = true := by
  obtain ⟨a1, a2⟩ := name_k hi
  obtain ⟨b1, b2⟩ := name_k hj
  have e1 : nm27 v len (psT v len i) = NB 27 (dgL v (psT v len i)) (rnL v len (psT v len i)) := by
    unfold nm27
    rw [if_pos a1, Nat.min_eq_right a2]
  have e2 : nm27 v len (psT v len j) = NB 27 (dgL v (psT v len j)) (rnL v len (psT v len j)) := by
    unfold nm27
    rw [if_pos b1, Nat.min_eq_right b2]
  rw [e1, e2, i64_inj (N27_lt a2) (N27_lt b2), ← NB_iff _ _ (fun k hk => dgL_rng hk) (fun k hk => dgL_rng hk)]
  unfold eqT
  rw [decide_eq_true_eq]
  show _ ↔ vlN v len (psT v len i) = vlN v len (psT v len j)
  unfold vlN
  rw [if_pos a1, if_pos b1]
/-! to look something up -/
def lokF (p : Nat → Bool) (g : Nat → Nat) : Nat → Nat → Option Nat
  | 0, _ => none
  | m + 1, k => if p k then some (g k) else lokF p g m (k + 1)
def oI : Option Nat → Int32
  | none => -1
  | some a => nI a
theorem lokF_none {p : Nat → Bool} {g : Nat → Nat} : ∀ (m k : Nat), lokF p g m k = none → ∀ j, k ≤ j → j < k + m → p j = false := by
  intro m
  induction m with
  | zero => intro k _ j h1 h2; omega
  | succ m ih =>
    intro k h j h1 h2
    rw [lokF] at h
    by_cases c : p k = true
    · rw [if_pos c] at h; cases h
    · rw [if_neg c] at h
      by_cases e : j = k
      · rw [e]; simpa using c
      · exact ih (k + 1) h j (by omega) (by omega)
theorem lokF_some {p : Nat → Bool} {g : Nat → Nat} {a : Nat} : ∀ (m k : Nat), lokF p g m k = some a → ∃ j, k ≤ j ∧ j < k + m ∧ p j = true ∧ (∀ i, k ≤ i → i < j → p i = false) ∧ a = g j := by
  intro m
  induction m with
  | zero => intro k h; cases h
  | succ m ih =>
    intro k h
    rw [lokF] at h
    by_cases c : p k = true
    · rw [if_pos c] at h
      cases h
      exact ⟨k, by omega, by omega, c, fun i h1 h2 => by omega, rfl⟩
    · rw [if_neg c] at h
      obtain ⟨j, h1, h2, h3, h4, h5⟩ := ih (k + 1) h
      refine ⟨j, by omega, by omega, h3, fun i i1 i2 => ?_, h5⟩
      by_cases e : i = k
      · rw [e]; simpa using c
      · exact h4 i (by omega) i2
def fsF (p : Nat → Bool) : Nat → Nat → Int32
  | 0, _ => -1
  | m + 1, i => if p i then nI i else fsF p m (i + 1)
theorem fsF_none {p : Nat → Bool} : ∀ (m i : Nat), (∀ j, i ≤ j → j < i + m → p j = false) → fsF p m i = -1 := by
  intro m
  induction m with
  | zero => intro i _; rfl
  | succ m ih =>
    intro i h
    rw [fsF, if_neg (by rw [h i (by omega) (by omega)]; decide)]
    exact ih (i + 1) (fun j h1 h2 => h j (by omega) (by omega))
theorem fsF_at {p : Nat → Bool} {j : Nat} (hj : p j = true) : ∀ (m i : Nat), i ≤ j → j < i + m → (∀ l, i ≤ l → l < j → p l = false) → fsF p m i = nI j := by
  intro m
  induction m with
  | zero => intro i h1 h2; omega
  | succ m ih =>
    intro i h1 h2 h3
    rw [fsF]
    by_cases e : i = j
    · rw [e, if_pos hj]
    · rw [if_neg (by rw [h3 i (by omega) (by omega)]; decide)]
      exact ih (i + 1) (by omega) (by omega) (fun l l1 l2 => h3 l (by omega) l2)
theorem fsF_m1 {p : Nat → Bool} : ∀ (m i : Nat), i + m < 2 ^ 31 → (fsF p m i = -1 ↔ ∀ j, i ≤ j → j < i + m → p j = false) := by
  intro m
  induction m with
  | zero => intro i _; exact ⟨fun _ j h1 h2 => by omega, fun _ => rfl⟩
  | succ m ih =>
    intro i hi
    rw [fsF]
    by_cases c : p i = true
    · rw [if_pos c]
      constructor
      · intro h
        have := congrArg Int32.toInt h
        rw [nI_toInt (by omega)] at this
        have z : (-1 : Int32).toInt = -1 := by decide
        omega
      · intro h
        have := h i (by omega) (by omega)
        rw [c] at this
        cases this
    · rw [if_neg c, ih (i + 1) (by omega)]
      constructor
      · intro h j h1 h2
        by_cases e : j = i
        · rw [e]; simpa using c
        · exact h j (by omega) (by omega)
      · intro h j h1 h2
        exact h j (by omega) (by omega)
/-! what was read so far: a book, where all begin, the names told (token, and whose: a MERMAID's number, or 10 and a PERSON's) -/
abbrev RA : Type := Bk × (Nat → Int32) × (Nat → Nat) × (Nat → Nat)
abbrev rB (A : RA) : Bk := A.1
abbrev rF (A : RA) : Nat → Int32 := A.2.1
abbrev rT (A : RA) : Nat → Nat := A.2.2.1
abbrev rA (A : RA) : Nat → Nat := A.2.2.2
def rN (A : RA) : Nat := bM (rB A) + bP (rB A)
def NI (v : Nat → Int32) (len : Nat) (A : RA) : Prop := (∀ i, i < bM (rB A) → ∃ k, k < rN A ∧ rA A k = i) ∧ (∀ i, i < bP (rB A) → ∃ k, k < rN A ∧ rA A k = 10 + i) ∧ (∀ k, k < rN A → (rA A k < bM (rB A) ∨ (10 ≤ rA A k ∧ rA A k < 10 + bP (rB A))) ∧ kdT v len (rT A k) = 21) ∧ ∀ k k', k < k' → k' < rN A → (rA A k < 10 ↔ rA A k' < 10) → rA A k < rA A k'
def dupA (v : Nat → Int32) (len : Nat) (A : RA) (i : Nat) : Bool := (List.range (rN A)).any (fun k => eqT v len (rT A k) i)
def lkA (v : Nat → Int32) (len : Nat) (A : RA) (lo i : Nat) : Option Nat := lokF (fun k => eqT v len (rT A k) i && (decide (lo ≤ rA A k) && decide (rA A k < lo + 10))) (fun k => rA A k - lo) (rN A) 0
theorem dupA_iff {A : RA} {i : Nat} : dupA v len A i = true ↔ ∃ k, k < rN A ∧ eqT v len (rT A k) i = true := by
  unfold dupA
  rw [List.any_eq_true]
  constructor
  · rintro ⟨k, h1, h2⟩
    exact ⟨k, List.mem_range.mp h1, h2⟩
  · rintro ⟨k, h1, h2⟩
    exact ⟨k, List.mem_range.mpr h1, h2⟩
/-- the first of the class's that fits is the reference's -/
theorem lk_first {A : RA} {lo i M : Nat} {pc : Nat → Bool} (hlo : lo = 0 ∨ lo = 10) (hM : M ≤ 6) (hM2 : M = if lo = 0 then bM (rB A) else bP (rB A)) (hm4 : bM (rB A) ≤ 4) (hN : NI v len A) (hpc : ∀ k, k < rN A → lo ≤ rA A k → rA A k < lo + 10 → pc (rA A k - lo) = eqT v len (rT A k) i) : fsF pc M 0 = oI (lkA v len A lo i) := by
  obtain ⟨n1, n2, n3, n4⟩ := hN
  have hat : ∀ j, j < M → ∃ k, k < rN A ∧ rA A k = lo + j := by
    intro j hj
    rcases hlo with e | e
    · subst e
      rw [if_pos rfl] at hM2
      obtain ⟨k, k1, k2⟩ := n1 j (by omega)
      exact ⟨k, k1, by omega⟩
    · subst e
      rw [if_neg (by decide)] at hM2
      exact n2 j (by omega)
  cases h : lkA v len A lo i with
  | none =>
    refine fsF_none M 0 (fun j _ hj => ?_)
    obtain ⟨k, k1, k2⟩ := hat j (by omega)
    have h3 := lokF_none _ _ h k (by omega) (by omega)
    have h4 := hpc k k1 (by omega) (by omega)
    rw [show rA A k - lo = j by omega] at h4
    rw [h4]
    have d1 : decide (lo ≤ rA A k) = true := decide_eq_true (by omega)
    have d2 : decide (rA A k < lo + 10) = true := decide_eq_true (by omega)
    simpa [d1, d2] using h3
  | some a =>
    obtain ⟨k, k1, k2, k3, k4, k5⟩ := lokF_some _ _ h
    have k6 : eqT v len (rT A k) i = true ∧ lo ≤ rA A k ∧ rA A k < lo + 10 := by
      simpa [Bool.and_eq_true, decide_eq_true_eq] using k3
    have h4 := hpc k (by omega) k6.2.1 k6.2.2
    have ha : rA A k - lo = a := k5.symm
    have haM : a < M := by
      have := (n3 k (by omega)).1
      rcases hlo with e | e
      · subst e; rw [if_pos rfl] at hM2; omega
      · subst e; rw [if_neg (by decide)] at hM2; omega
    refine fsF_at (by rw [← ha, h4]; exact k6.1) M 0 (by omega) (by omega) (fun l _ hl => ?_)
    obtain ⟨k', g1, g2⟩ := hat l (by omega)
    have h5 := hpc k' g1 (by omega) (by omega)
    rw [show rA A k' - lo = l by omega] at h5
    have hlt : k' < k := by
      by_cases c : k' < k
      · exact c
      · by_cases e : k' = k
        · subst e; omega
        · have := n4 k k' (by omega) g1 (by rcases hlo with e | e <;> subst e <;> omega)
          omega
    have h6 := k4 k' (by omega) hlt
    have d1 : decide (lo ≤ rA A k') = true := decide_eq_true (by omega)
    have d2 : decide (rA A k' < lo + 10) = true := decide_eq_true (by omega)
    rw [h5]
    simpa [d1, d2] using h6
end STT

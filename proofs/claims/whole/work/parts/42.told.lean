/-! told: class -/
def RTc (n : Nat) (td : Nat → Nat × Nat × Int32 × Int32) (S : St) : Prop := n ≤ 20 ∧ S.1 133 4 = nI n ∧ ∀ i, i < n → S.1 134 i = nI (td i).1 ∧ S.1 135 i = nI (td i).2.1 ∧ S.1 136 i = (td i).2.2.1 ∧ S.1 137 i = (td i).2.2.2 ∧ (td i).1 < 10 ∧ (td i).2.1 < 10
def fit1 (td : Nat → Nat × Nat × Int32 × Int32) (pl i : Nat) : Bool := decide (wy (pl % 10) (td i).1 = (td i).2.2.1) && decide (wy (pl / 10) (td i).2.1 = (td i).2.2.2)
def fitA (td : Nat → Nat × Nat × Int32 × Int32) (k pl : Nat) : Bool := allF (fit1 td pl) k 0
section TC
variable {B B1 C n : Nat} {td : Nat → Nat × Nat × Int32 × Int32}
theorem fits_loop {S : St} (hr : S.2.2 = RB B B1 C) (hT : RTc n td S) {pl k : Nat} (hpl : pl < 100) (hk : k ≤ n) : ∀ (m fu i : Nat), m < fu → i + m = k → b_X7_fits_2 fu 133 (nI pl) (nI k) (nI i) S = some (if allF (fit1 td pl) m i then 1 else 0, S)
  | m, 0, _, h, _ => absurd h (Nat.not_lt_zero _)
  | 0, fu + 1, i, _, hi => by
    have h20 := hT.1
    rw [b_X7_fits_2, if_pos ((nI_leI (by omega) (by omega)).mpr (by omega))]
    rfl
  | m + 1, fu + 1, i, hf, hi => by
    have h20 := hT.1
    obtain ⟨t1, t2, t3, t4, t5, t6⟩ := hT.2.2 i (by omega)
    have hix : ix (nI i) 20 = some i := ix_nI (by omega) (by decide)
    rw [b_X7_fits_2, if_neg (fun q => by have := (nI_leI (by omega) (by omega)).mp q; omega), hT.2.1, if_neg (fun q => by have := (nI_leI (by omega) (by omega)).mp q; omega)]
    simp only [hix, Option.bind_some, hr, rb_133_0, rb_133_1, rb_133_2, rb_133_3, t1, mod10 (show pl < 2 ^ 31 by omega)]
    simp only [div10 (show pl < 2 ^ 31 by omega)]
    rw [wayTo_eq (by omega) (by omega), bd_some]
    simp only [hr, rb_133_0, rb_133_1, rb_133_2, rb_133_3, t2, t3]
    by_cases h1 : wy (pl % 10) (td i).1 = (td i).2.2.1
    · rw [if_pos h1, wayTo_eq (by omega) (by omega), bd_some]
      simp only [hr, rb_133_3, t4]
      by_cases h2 : wy (pl / 10) (td i).2.1 = (td i).2.2.2
      · rw [if_pos h2, nm_eq, nI_1, fits_loop hr hT hpl hk m fu (i + 1) (by omega) (by omega)]
        simp [allF, fit1, h1, h2]
      · rw [if_neg h2]
        simp [allF, fit1, h2]
    · rw [if_neg h1]
      simp [allF, fit1, h1]
theorem fits_eq {S : St} (hr : S.2.2 = RB B B1 C) (hT : RTc n td S) {pl k : Nat} (hpl : pl < 100) (hk : k ≤ n) : f_X7_fits 133 (nI pl) (nI k) S = some (if fitA td k pl then 1 else 0, S) := by
  have h20 := hT.1
  exact fits_loop hr hT hpl hk k FU 0 (by unfold FU; omega) (by omega)
/-- what lookBy leaves: open tells which places fit, left how many; nothing else is changed -/
def LK (td : Nat → Nat × Nat × Int32 × Int32) (k m : Nat) (S S' : St) : Prop := S'.2 = S.2 ∧ (∀ pl, pl < m → S'.1 138 pl = if fitA td k pl then 1 else 0) ∧ S'.1 133 7 = nI (cntF (fitA td k) m 0) ∧ ∀ a i, a ≠ 138 → (a = 133 → i ≠ 7) → S'.1 a i = S.1 a i
theorem LK_T {S S' : St} {k m : Nat} (h : LK td k m S S') (hT : RTc n td S) : RTc n td S' := by
  obtain ⟨-, -, -, h4⟩ := h
  refine ⟨hT.1, (h4 133 4 (by decide) (by decide)).trans hT.2.1, fun i hi => ?_⟩
  obtain ⟨t1, t2, t3, t4, t5, t6⟩ := hT.2.2 i hi
  exact ⟨(h4 134 i (by decide) (by omega)).trans t1, (h4 135 i (by decide) (by omega)).trans t2, (h4 136 i (by decide) (by omega)).trans t3, (h4 137 i (by decide) (by omega)).trans t4, t5, t6⟩
theorem look_loop {S0 : St} (hr : S0.2.2 = RB B B1 C) (hT : RTc n td S0) {k : Nat} (hk : k ≤ n) : ∀ (m fu i : Nat) (S : St), m < fu → i + m = 100 → LK td k i S0 S → RN (b_X7_lookBy_7 fu 133 (nI k) (nI i) S) (fun _ S' => LK td k 100 S0 S')
  | m, 0, _, _, h, _, _ => absurd h (Nat.not_lt_zero _)
  | 0, fu + 1, i, S, _, hi, hL => by
    have : i = 100 := by omega
    subst this
    rw [b_X7_lookBy_7, if_pos (show (100 : Int32) ≤ nI 100 by decide)]
    exact RN_some hL
  | m + 1, fu + 1, i, S, hf, hi, hL => by
    have hrS : S.2.2 = RB B B1 C := by rw [hL.1]; exact hr
    have hTS := LK_T hL hT
    have hix : ix (nI i) 100 = some i := ix_nI (by omega) (by decide)
    rw [b_X7_lookBy_7, if_neg (fun q => by have := (nI_leI (a := 100) (by omega) (by omega)).mp q; omega), fits_eq hrS hTS (by omega) hk, bd_some, hix]
    simp only [Option.bind_some, nm_eq, hrS, rb_133_5, sI_2, sI_1]
    by_cases hfit : fitA td k i = true
    · simp only [hfit, if_true, nar_bool1, and_self, if_neg (show ¬ (1 : Int32) = 0 by decide)]
      rw [b_X7_lookBy_44, nm_eq, nI_1]
      refine look_loop hr hT hk m fu (i + 1) _ (by omega) (by omega) ⟨hL.1, fun pl hpl => ?_, ?_, fun a j ha hj => ?_⟩
      · simp only [sI_1]
        rw [if_neg (by omega)]
        by_cases e : pl = i
        · subst e; simp [hfit]
        · rw [if_neg (by omega)]
          exact hL.2.1 pl (by omega)
      · simp only [sI_1, and_self, if_true]
        rw [if_neg (by omega), hL.2.2.1, cntF_snoc, Nat.zero_add, hfit, nI_1]
        rfl
      · simp only [sI_1]
        rw [if_neg (fun q => hj q.1 q.2), if_neg (fun q => ha q.1)]
        exact hL.2.2.2 a j ha hj
    · simp only [Bool.not_eq_true] at hfit
      simp only [hfit, Bool.false_eq_true, if_false, nar_bool0, and_self, if_true]
      rw [b_X7_lookBy_44, nm_eq, nI_1]
      refine look_loop hr hT hk m fu (i + 1) _ (by omega) (by omega) ⟨hL.1, fun pl hpl => ?_, ?_, fun a j ha hj => ?_⟩
      · simp only [sI_1]
        by_cases e : pl = i
        · subst e; simp [hfit]
        · rw [if_neg (by omega)]
          exact hL.2.1 pl (by omega)
      · simp only [sI_1]
        rw [if_neg (by omega), hL.2.2.1, cntF_snoc, Nat.zero_add, hfit]
        rfl
      · simp only [sI_1]
        rw [if_neg (fun q => ha q.1)]
        exact hL.2.2.2 a j ha hj
theorem look_run {S : St} (hr : S.2.2 = RB B B1 C) (hT : RTc n td S) {k : Nat} (hk : k ≤ n) : RN (f_X7_lookBy 133 (nI k) S) (fun _ S' => LK td k 100 S S') := by
  unfold f_X7_lookBy
  rw [nm_eq]
  have hL0 : LK td k 0 S (sI S 133 7 0) := ⟨rfl, fun pl h => absurd h (Nat.not_lt_zero _), by rw [sI_1, if_pos ⟨rfl, rfl⟩]; rfl, fun a i ha hi => by rw [sI_1, if_neg (fun q => hi q.1 q.2)]⟩
  exact look_loop hr hT hk 100 FU 0 _ (by decide) (by omega) hL0
end TC

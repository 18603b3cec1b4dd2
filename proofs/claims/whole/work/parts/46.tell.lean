/-! tell and forget -/
def tellOk (n : Nat) (x y a d : Int32) : Prop := n < 20 ∧ (0 ≤ x ∧ x ≤ 9) ∧ (0 ≤ y ∧ y ≤ 9) ∧ (-1 ≤ a ∧ a ≤ 1) ∧ (-1 ≤ d ∧ d ≤ 1)
def tdAdd (td : Nat → Nat × Nat × Int32 × Int32) (n : Nat) (x y a d : Int32) : Nat → Nat × Nat × Int32 × Int32 := fun i => if i = n then (x.toInt.toNat, y.toInt.toNat, a, d) else td i
/-- nothing that can be seen is changed but what is told -/
def ECt (B : Nat) (S S' : St) : Prop := S'.2 = S.2 ∧ ∀ a i, obs B a i → (a = 133 → i ≠ 4) → ¬ (134 ≤ a ∧ a ≤ 137) → S'.1 a i = S.1 a i
def EMt (S S' : St) : Prop := S'.2 = S.2 ∧ ∀ a i, obm a i → (a = 140 → i ≠ 64) → ¬ (181 ≤ a ∧ a ≤ 183) → S'.1 a i = S.1 a i
section TL
variable {B B1 C n : Nat} {td : Nat → Nat × Nat × Int32 × Int32} {S : St}
theorem c_tell (hr : S.2.2 = RB B B1 C) (hB : B = 2 ∨ B = 16) (hT : RTc n td S) (x y a d : Int32) : RN (f_X9_tell 0 x y a d S) (fun r S' => (tellOk n x y a d ∧ r = nI n ∧ RTc (n + 1) (tdAdd td n x y a d) S' ∧ ECt B S S') ∨ (¬ tellOk n x y a d ∧ r = -1 ∧ S' = S)) := by
  have h20 := hT.1
  unfold f_X9_tell
  simp only [within_eq, bd_some, ite10]
  by_cases h1 : 0 ≤ x ∧ x ≤ 9
  rotate_left
  · rw [if_pos h1]; exact RN_some (Or.inr ⟨fun q => h1 q.2.1, rfl, rfl⟩)
  by_cases h2 : 0 ≤ y ∧ y ≤ 9
  rotate_left
  · rw [if_neg (fun q => q h1), if_pos h2]; exact RN_some (Or.inr ⟨fun q => h2 q.2.2.1, rfl, rfl⟩)
  by_cases h3 : -1 ≤ a ∧ a ≤ 1
  rotate_left
  · rw [if_neg (fun q => q h1), if_neg (fun q => q h2), if_pos h3]; exact RN_some (Or.inr ⟨fun q => h3 q.2.2.2.1, rfl, rfl⟩)
  by_cases h4 : -1 ≤ d ∧ d ≤ 1
  rotate_left
  · rw [if_neg (fun q => q h1), if_neg (fun q => q h2), if_neg (fun q => q h3), if_pos h4]; exact RN_some (Or.inr ⟨fun q => h4 q.2.2.2.2, rfl, rfl⟩)
  rw [if_neg (fun q => q h1), if_neg (fun q => q h2), if_neg (fun q => q h3), if_neg (fun q => q h4), hr, rb_0_13]
  unfold f_X7_add
  rw [hT.2.1]
  by_cases hn : n < 20
  rotate_left
  · rw [if_neg (show ¬ nI n < 20 from fun q => hn ((nI_ltI (b := 20) (by omega) (by omega)).mp q)), bd_some]
    exact RN_some (Or.inr ⟨fun q => hn q.1, rfl, rfl⟩)
  have hix : ix (nI n) 20 = some n := ix_nI hn (by decide)
  rw [if_pos (show nI n < 20 from (nI_ltI (b := 20) (by omega) (by omega)).mpr hn)]
  simp only [hix, Option.bind_some, nm_eq, hr, rb_133_0, rb_133_1, rb_133_2, rb_133_3, sI_2, sI_1, hT.2.1, bd_some, show ¬ (133 : Nat) = 134 by decide, show ¬ (133 : Nat) = 135 by decide, show ¬ (133 : Nat) = 136 by decide, show ¬ (133 : Nat) = 137 by decide, false_and, if_false, and_self, if_true]
  obtain ⟨jx, hjx, rfl⟩ := k_of (n := 9) (by decide) h1
  obtain ⟨jy, hjy, rfl⟩ := k_of (n := 9) (by decide) h2
  refine RN_some (Or.inl ⟨⟨hn, h1, h2, h3, h4⟩, ?_, ⟨by omega, ?_, fun i hi => ?_⟩, ⟨rfl, fun b j o hb1 hb2 => ?_⟩⟩)
  · rw [nI_1, nI_pred]
  · simp only [sI_1, and_self, if_true, nI_1]
  · unfold tdAdd
    by_cases e : i = n
    · subst e
      simp only [sI_1, if_true, nI_nat (show jx < 2 ^ 31 by omega), nI_nat (show jy < 2 ^ 31 by omega)]
      exact ⟨by simp, by simp, by simp, by simp, by omega, by omega⟩
    · obtain ⟨t1, t2, t3, t4, t5, t6⟩ := hT.2.2 i (by omega)
      simp only [sI_1, if_neg e]
      exact ⟨by simp [e, t1], by simp [e, t2], by simp [e, t3], by simp [e, t4], t5, t6⟩
  · simp only [sI_1]
    rw [if_neg (by omega), if_neg (by omega), if_neg (by omega), if_neg (by omega), if_neg (by omega)]
theorem c_forget (hr : S.2.2 = RB B B1 C) (hB : B = 2 ∨ B = 16) (hT : RTc n td S) : RN (f_X9_forget 0 S) (fun r S' => r = nI n ∧ RTc 0 td S' ∧ ECt B S S') := by
  unfold f_X9_forget f_X7_clearAll
  simp only [nm_eq, hr, rb_0_13, bd_some, hT.2.1]
  refine RN_some ⟨rfl, ⟨by omega, by simp only [sI_1, and_self, if_true]; rfl, fun i hi => absurd hi (Nat.not_lt_zero _)⟩, rfl, fun a i o h1 h2 => ?_⟩
  simp only [sI_1]
  rw [if_neg (by omega)]
theorem m_tell (hr : S.2.2 = RB B B1 C) (hT : RTm n td S) (x y a d : Int32) : RN (f_X10_tell 140 x y a d S) (fun r S' => (tellOk n x y a d ∧ r = nI n ∧ RTm (n + 1) (tdAdd td n x y a d) S' ∧ EMt S S') ∨ (¬ tellOk n x y a d ∧ r = -1 ∧ S' = S)) := by
  have h20 := hT.1
  unfold f_X10_tell
  rw [hT.2.1]
  by_cases hn : n = 20
  · rw [if_pos (by rw [hn]; rfl)]
    exact RN_some (Or.inr ⟨fun q => by have := q.1; omega, rfl, rfl⟩)
  rw [if_neg (show ¬ nI n = 20 from fun q => hn ((nI_eq (b := 20) (by omega) (by omega)).mp q))]
  simp only [in_eq, near_eq, bd_some, ite10]
  by_cases h1 : 0 ≤ x ∧ x ≤ 9
  rotate_left
  · rw [if_pos h1]; exact RN_some (Or.inr ⟨fun q => h1 q.2.1, rfl, rfl⟩)
  by_cases h2 : 0 ≤ y ∧ y ≤ 9
  rotate_left
  · rw [if_neg (fun q => q h1), if_pos h2]; exact RN_some (Or.inr ⟨fun q => h2 q.2.2.1, rfl, rfl⟩)
  by_cases h3 : -1 ≤ a ∧ a ≤ 1
  rotate_left
  · rw [if_neg (fun q => q h1), if_neg (fun q => q h2), if_pos h3]; exact RN_some (Or.inr ⟨fun q => h3 q.2.2.2.1, rfl, rfl⟩)
  by_cases h4 : -1 ≤ d ∧ d ≤ 1
  rotate_left
  · rw [if_neg (fun q => q h1), if_neg (fun q => q h2), if_neg (fun q => q h3), if_pos h4]; exact RN_some (Or.inr ⟨fun q => h4 q.2.2.2.2, rfl, rfl⟩)
  rw [if_neg (fun q => q h1), if_neg (fun q => q h2), if_neg (fun q => q h3), if_neg (fun q => q h4)]
  have hix : ix (nI n) 20 = some n := ix_nI (by omega) (by decide)
  simp only [hT.2.1, hix, Option.bind_some, nm_eq, hr, rb_140_65, rb_140_66, rb_140_67, sI_2, sI_1, show ¬ (140 : Nat) = 181 by decide, show ¬ (140 : Nat) = 182 by decide, show ¬ (140 : Nat) = 183 by decide, false_and, if_false, and_self, if_true]
  obtain ⟨jx, hjx, rfl⟩ := k_of (n := 9) (by decide) h1
  obtain ⟨jy, hjy, rfl⟩ := k_of (n := 9) (by decide) h2
  refine RN_some (Or.inl ⟨⟨by omega, h1, h2, h3, h4⟩, ?_, ⟨by omega, ?_, fun i hi => ?_⟩, ⟨rfl, fun b j o hb1 hb2 => ?_⟩⟩)
  · rw [nI_1, nI_pred]
  · simp only [sI_1, and_self, if_true, nI_1]
  · unfold tdAdd
    have e10 : (10 : Int32) * nI jy + nI jx = nI (10 * jy + jx) := by
      rw [show (10 : Int32) = nI 10 from rfl, pk_mul, nI_add]
    by_cases e : i = n
    · subst e
      simp only [sI_1, if_true, nI_nat (show jx < 2 ^ 31 by omega), nI_nat (show jy < 2 ^ 31 by omega), e10]
      exact ⟨by simp, by simp, by simp, by omega, by omega⟩
    · obtain ⟨t1, t3, t4, t5, t6⟩ := hT.2.2 i (by omega)
      simp only [sI_1, if_neg e]
      exact ⟨by simp [e, t1], by simp [e, t3], by simp [e, t4], t5, t6⟩
  · simp only [sI_1]
    rw [if_neg (by omega), if_neg (by omega), if_neg (by omega), if_neg (by omega)]
theorem m_forget (hr : S.2.2 = RB B B1 C) (hT : RTm n td S) : RN (f_X10_forget 140 S) (fun r S' => r = nI n ∧ RTm 0 td S' ∧ EMt S S') := by
  unfold f_X10_forget
  simp only [nm_eq, hT.2.1]
  refine RN_some ⟨rfl, ⟨by omega, by simp only [sI_1, and_self, if_true]; rfl, fun i hi => absurd hi (Nat.not_lt_zero _)⟩, rfl, fun a i o h1 h2 => ?_⟩
  simp only [sI_1]
  rw [if_neg (by omega)]
end TL

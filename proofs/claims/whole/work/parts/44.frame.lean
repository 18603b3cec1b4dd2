/-! what of the class's cells later calls can see (B: the book at hand), and what of the reference's -/
def obs (B a i : Nat) : Prop := (a = 0 ∧ (i = 1 ∨ i = 11)) ∨ a = 1 ∨ (a = 30 ∧ i = 4) ∨ (a = B ∧ i < 5) ∨ (B + 3 ≤ a ∧ a ≤ B + 5) ∨ (B + 8 ≤ a ∧ a ≤ B + 10) ∨ (35 ≤ a ∧ a ≤ 36) ∨ (a = 41 ∧ (i = 1 ∨ i = 2)) ∨ (43 ≤ a ∧ a ≤ 122) ∨ (124 ≤ a ∧ a ≤ 129) ∨ (a = 133 ∧ i = 4) ∨ (134 ≤ a ∧ a ≤ 137)
def EC (B : Nat) (S S' : St) : Prop := S'.2.2 = S.2.2 ∧ ∀ a i, obs B a i → S'.1 a i = S.1 a i
theorem EC.rf {B : Nat} {S : St} : EC B S S := ⟨rfl, fun _ _ _ => rfl⟩
theorem EC.tr {B : Nat} {S S' S'' : St} (h : EC B S S') (g : EC B S' S'') : EC B S S'' := ⟨g.1.trans h.1, fun a i o => (g.2 a i o).trans (h.2 a i o)⟩
def obm (a i : Nat) : Prop := (a = 140 ∧ (i = 2 ∨ i = 17 ∨ i = 18 ∨ i = 61 ∨ i = 64)) ∨ a = 141 ∨ (150 ≤ a ∧ a ≤ 170) ∨ a = 174 ∨ (180 ≤ a ∧ a ≤ 183) ∨ a = 185 ∨ a = 186
def EM (S S' : St) : Prop := S'.2.2 = S.2.2 ∧ (∀ a i, obm a i → S'.1 a i = S.1 a i) ∧ ∀ i, S'.2.1 147 i = S.2.1 147 i
theorem EM.rf {S : St} : EM S S := ⟨rfl, fun _ _ _ => rfl, fun _ => rfl⟩
theorem EM.tr {S S' S'' : St} (h : EM S S') (g : EM S' S'') : EM S S'' := ⟨g.1.trans h.1, fun a i o => (g.2.1 a i o).trans (h.2.1 a i o), fun i => (g.2.2 i).trans (h.2.2 i)⟩
/-! the reference's told ones -/
def RTm (n : Nat) (td : Nat → Nat × Nat × Int32 × Int32) (S : St) : Prop := n ≤ 20 ∧ S.1 140 64 = nI n ∧ ∀ i, i < n → S.1 181 i = nI (10 * (td i).2.1 + (td i).1) ∧ S.1 182 i = (td i).2.2.1 ∧ S.1 183 i = (td i).2.2.2 ∧ (td i).1 < 10 ∧ (td i).2.1 < 10
def whereA (n : Nat) (td : Nat → Nat × Nat × Int32 × Int32) (k : Int32) : Int32 := if 0 ≤ k ∧ k ≤ nI n then nI (cntF (fitA td k.toInt.toNat) 100 0) else -1
def surestA (n : Nat) (td : Nat → Nat × Nat × Int32 × Int32) (k : Int32) : Int32 := if 0 ≤ k ∧ k ≤ nI n then firstF (fitA td k.toInt.toNat) 100 0 else -1
def holdNextA (n : Nat) (td : Nat → Nat × Nat × Int32 × Int32) (k : Int32) : Int32 := if 0 ≤ k ∧ k ≤ nI n then holdA (fitA td k.toInt.toNat) else -1
theorem nI_nat {j : Nat} (h : j < 2 ^ 31) : (nI j).toInt.toNat = j := by rw [nI_toInt h]; rfl
section TP
variable {B B1 C n : Nat} {td : Nat → Nat × Nat × Int32 × Int32} {S : St}
theorem LK_EC {k m : Nat} {S' : St} (hB : B = 2 ∨ B = 16) (h : LK td k m S S') : EC B S S' := ⟨by rw [h.1], fun a i o => h.2.2.2 a i (by unfold obs at o; omega) (by unfold obs at o; omega)⟩
theorem c_where (hr : S.2.2 = RB B B1 C) (hB : B = 2 ∨ B = 16) (hT : RTc n td S) (k : Int32) : RN (f_X9_where 0 k S) (fun r S' => r = whereA n td k ∧ EC B S S') := by
  have h20 := hT.1
  unfold f_X9_where whereA
  rw [hr, rb_0_13, hT.2.1, within_eq, bd_some]
  by_cases hk : 0 ≤ k ∧ k ≤ nI n
  · obtain ⟨j, hj, rfl⟩ := k_of (by omega) hk
    rw [if_pos hk, if_pos hk, if_neg (by decide), nI_nat (by omega), hr, rb_0_13]
    refine RN_bd (look_run hr hT hj) (fun _ S1 h1 => ?_)
    have hr1 : S1.2.2 = RB B B1 C := by rw [h1.1]; exact hr
    rw [hr1, rb_0_13]
    exact RN_some ⟨h1.2.2.1, LK_EC hB h1⟩
  · rw [if_neg hk, if_neg hk, if_pos rfl]
    exact RN_some ⟨rfl, EC.rf⟩
theorem c_surest (hr : S.2.2 = RB B B1 C) (hB : B = 2 ∨ B = 16) (hT : RTc n td S) (k : Int32) : RN (f_X9_surest 0 k S) (fun r S' => r = surestA n td k ∧ EC B S S') := by
  have h20 := hT.1
  unfold f_X9_surest surestA
  rw [hr, rb_0_13, hT.2.1, within_eq, bd_some]
  by_cases hk : 0 ≤ k ∧ k ≤ nI n
  · obtain ⟨j, hj, rfl⟩ := k_of (by omega) hk
    rw [if_pos hk, if_pos hk, if_neg (by decide), nI_nat (by omega), hr, rb_0_13]
    refine RN_bd (look_run hr hT hj) (fun _ S1 h1 => ?_)
    have hr1 : S1.2.2 = RB B B1 C := by rw [h1.1]; exact hr
    rw [hr1, rb_0_13]
    unfold f_X7_firstLeft
    rw [show b_X7_firstLeft_2 FU 133 0 S1 = _ from first_loop (p := fitA td j) hr1 h1.2.1 100 FU 0 (by decide) (by omega), bd_some]
    exact RN_some ⟨rfl, LK_EC hB h1⟩
  · rw [if_neg hk, if_neg hk, if_pos rfl]
    exact RN_some ⟨rfl, EC.rf⟩
theorem c_holdNext (hr : S.2.2 = RB B B1 C) (hB : B = 2 ∨ B = 16) (hT : RTc n td S) (k : Int32) : RN (f_X9_holdNext 0 k S) (fun r S' => r = holdNextA n td k ∧ EC B S S') := by
  have h20 := hT.1
  unfold f_X9_holdNext holdNextA
  rw [hr, rb_0_13, hT.2.1, within_eq, bd_some]
  by_cases hk : 0 ≤ k ∧ k ≤ nI n
  · obtain ⟨j, hj, rfl⟩ := k_of (by omega) hk
    rw [if_pos hk, if_pos hk, if_neg (by decide), nI_nat (by omega), hr, rb_0_13]
    refine RN_bd (look_run hr hT hj) (fun _ S1 h1 => ?_)
    have hr1 : S1.2.2 = RB B B1 C := by rw [h1.1]; exact hr
    have hc : cntF (fitA td j) 100 0 ≤ 100 := cntF_le 100 0
    rw [hr1, rb_0_13, h1.2.2.1]
    unfold holdA
    by_cases h0 : cntF (fitA td j) 100 0 = 0
    · rw [if_pos h0, if_pos (by rw [h0]; rfl)]
      exact RN_some ⟨rfl, LK_EC hB h1⟩
    · rw [if_neg h0, if_neg (nI_ne0 (by omega) (by omega))]
      refine RN_bd (best_run hr1 h1.2.1) (fun r S2 h2 => ?_)
      exact RN_some ⟨h2.1, (LK_EC hB h1).tr ⟨by rw [h2.2.1], fun a i o => h2.2.2 a i (by unfold obs at o; omega)⟩⟩
  · rw [if_neg hk, if_neg hk, if_pos rfl]
    exact RN_some ⟨rfl, EC.rf⟩
/-! the reference -/
theorem so_loop (hr : S.2.2 = RB B B1 C) (hT : RTm n td S) {pl k : Nat} (hpl : pl < 100) (hk : k ≤ n) : ∀ (m fu i : Nat), m < fu → i + m = k → b_X10_isSo_2 fu 140 (nI pl) (nI k) (nI i) S = some (if allF (fit1 td pl) m i then 1 else 0, S)
  | m, 0, _, h, _ => absurd h (Nat.not_lt_zero _)
  | 0, fu + 1, i, _, hi => by
    have h20 := hT.1
    rw [b_X10_isSo_2, if_pos ((nI_leI (by omega) (by omega)).mpr (by omega))]
    rfl
  | m + 1, fu + 1, i, hf, hi => by
    have h20 := hT.1
    obtain ⟨t1, t3, t4, t5, t6⟩ := hT.2.2 i (by omega)
    have hix : ix (nI i) 20 = some i := ix_nI (by omega) (by decide)
    rw [b_X10_isSo_2, if_neg (fun q => by have := (nI_leI (by omega) (by omega)).mp q; omega)]
    have e1 : (10 * (td i).2.1 + (td i).1) % 10 = (td i).1 := by omega
    have e2 : (10 * (td i).2.1 + (td i).1) / 10 = (td i).2.1 := by omega
    simp only [hix, Option.bind_some, hr, rb_140_65, rb_140_66, rb_140_67, t1, mod10 (show pl < 2 ^ 31 by omega), mod10 (show 10 * (td i).2.1 + (td i).1 < 2 ^ 31 by omega), e1]
    rw [signOf_eq (by omega) (by omega), bd_some]
    simp only [hr, rb_140_65, rb_140_66, rb_140_67, t1, t3, div10 (show pl < 2 ^ 31 by omega), div10 (show 10 * (td i).2.1 + (td i).1 < 2 ^ 31 by omega), e2]
    by_cases h1 : wy (pl % 10) (td i).1 = (td i).2.2.1
    · rw [if_pos h1, signOf_eq (by omega) (by omega), bd_some]
      simp only [hr, rb_140_67, t4]
      by_cases h2 : wy (pl / 10) (td i).2.1 = (td i).2.2.2
      · rw [if_pos h2, nm_eq, nI_1, so_loop hr hT hpl hk m fu (i + 1) (by omega) (by omega)]
        simp [allF, fit1, h1, h2]
      · rw [if_neg h2]
        simp [allF, fit1, h2]
    · rw [if_neg h1]
      simp [allF, fit1, h1]
theorem so_eq (hr : S.2.2 = RB B B1 C) (hT : RTm n td S) {pl k : Nat} (hpl : pl < 100) (hk : k ≤ n) : f_X10_isSo 140 (nI pl) (nI k) S = some (if fitA td k pl then 1 else 0, S) := by
  have h20 := hT.1
  exact so_loop hr hT hpl hk k FU 0 (by unfold FU; omega) (by omega)
theorem mw_loop (hr : S.2.2 = RB B B1 C) (hT : RTm n td S) {k : Nat} (hk : k ≤ n) : ∀ (m fu i c : Nat), m < fu → i + m = 100 → c ≤ i → b_X10_where_18 fu 140 (nI k) (nI c) (nI i) S = some (nI (c + cntF (fitA td k) m i), S)
  | m, 0, _, _, h, _, _ => absurd h (Nat.not_lt_zero _)
  | 0, fu + 1, i, c, _, hi, _ => by
    have : i = 100 := by omega
    subst this
    rw [b_X10_where_18, if_pos (show (100 : Int32) ≤ nI 100 by decide)]
    rfl
  | m + 1, fu + 1, i, c, hf, hi, hc => by
    rw [b_X10_where_18, if_neg (fun q => by have := (nI_leI (a := 100) (by omega) (by omega)).mp q; omega), so_eq hr hT (by omega) hk, bd_some]
    simp only [ite10]
    by_cases h : fitA td k i = true
    · rw [if_neg (fun q => q h), nm_eq, nI_1, b_X10_where_36, nm_eq, nI_1, mw_loop hr hT hk m fu (i + 1) (c + 1) (by omega) (by omega) (by omega)]
      simp only [cntF, h, if_true]
      rw [Nat.add_assoc]
    · rw [if_pos h, b_X10_where_36, nm_eq, nI_1, mw_loop hr hT hk m fu (i + 1) c (by omega) (by omega) (by omega)]
      simp [cntF, h]
theorem m_where (hr : S.2.2 = RB B B1 C) (hT : RTm n td S) (k : Int32) : f_X10_where 140 k S = some (whereA n td k, S) := by
  have h20 := hT.1
  unfold f_X10_where whereA
  rw [hT.2.1, in_eq, bd_some]
  by_cases hk : 0 ≤ k ∧ k ≤ nI n
  · obtain ⟨j, hj, rfl⟩ := k_of (by omega) hk
    rw [if_pos hk, if_pos hk, if_neg (by decide), nI_nat (by omega)]
    have := mw_loop hr hT hj 100 FU 0 0 (by decide) (by omega) (by omega)
    rw [Nat.zero_add] at this
    exact this
  · rw [if_neg hk, if_neg hk, if_pos rfl]
theorem ms_loop (hr : S.2.2 = RB B B1 C) (hT : RTm n td S) {k : Nat} (hk : k ≤ n) : ∀ (m fu i : Nat), m < fu → i + m = 100 → b_X10_surest_16 fu 140 (nI k) (nI i) S = some (firstF (fitA td k) m i, S)
  | m, 0, _, h, _ => absurd h (Nat.not_lt_zero _)
  | 0, fu + 1, i, _, hi => by
    have : i = 100 := by omega
    subst this
    rw [b_X10_surest_16, if_pos (show (100 : Int32) ≤ nI 100 by decide)]
    rfl
  | m + 1, fu + 1, i, hf, hi => by
    rw [b_X10_surest_16, if_neg (fun q => by have := (nI_leI (a := 100) (by omega) (by omega)).mp q; omega), so_eq hr hT (by omega) hk, bd_some]
    simp only [ite10]
    by_cases h : fitA td k i = true
    · rw [if_neg (fun q => q h)]
      simp [firstF, h]
    · rw [if_pos h, nm_eq, nI_1, ms_loop hr hT hk m fu (i + 1) (by omega) (by omega)]
      simp [firstF, h]
theorem m_surest (hr : S.2.2 = RB B B1 C) (hT : RTm n td S) (k : Int32) : f_X10_surest 140 k S = some (surestA n td k, S) := by
  have h20 := hT.1
  unfold f_X10_surest surestA
  rw [hT.2.1, in_eq, bd_some]
  by_cases hk : 0 ≤ k ∧ k ≤ nI n
  · obtain ⟨j, hj, rfl⟩ := k_of (by omega) hk
    rw [if_pos hk, if_pos hk, if_neg (by decide), nI_nat (by omega)]
    exact ms_loop hr hT hj 100 FU 0 (by decide) (by omega)
  · rw [if_neg hk, if_neg hk, if_pos rfl]
end TP

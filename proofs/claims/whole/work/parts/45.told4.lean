/-! told: the reference's holdNext; tell and forget of both -/
def km9 (a b : Int32) : Nat := (3 * a + b + (4 : Int32)).toInt.toNat
theorem km9_lt {a b : Int32} (ha : a = -1 ∨ a = 0 ∨ a = 1) (hb : b = -1 ∨ b = 0 ∨ b = 1) : ix ((3 : Int32) * a + b + 4) 9 = some (km9 a b) ∧ km9 a b < 9 := by
  rcases ha with rfl | rfl | rfl <;> rcases hb with rfl | rfl | rfl <;> decide
theorem km9_inj {a b c d : Int32} (ha : a = -1 ∨ a = 0 ∨ a = 1) (hb : b = -1 ∨ b = 0 ∨ b = 1) (hc : c = -1 ∨ c = 0 ∨ c = 1) (hd : d = -1 ∨ d = 0 ∨ d = 1) (h : km9 a b = km9 c d) : a = c ∧ b = d := by
  revert h
  rcases ha with rfl | rfl | rfl <;> rcases hb with rfl | rfl | rfl <;> rcases hc with rfl | rfl | rfl <;> rcases hd with rfl | rfl | rfl <;> decide
theorem amin_1 {w : Nat → Nat} (h : w 0 ≤ 100) : amin w 1 = (0, w 0) := if_pos (show w 0 < 101 by omega)
section TM
variable {B B1 C n : Nat} {td : Nat → Nat × Nat × Int32 × Int32}
def WM (p : Nat → Bool) (held m : Nat) (S0 S : St) : Prop := S.2 = S0.2 ∧ (∀ a b, (a, b) ∈ nine → S.1 184 (km9 a b) = nI (cab p held a b m)) ∧ ∀ a i, a ≠ 184 → S.1 a i = S0.1 a i
theorem RTm_keep {S S' : St} (hT : RTm n td S) (h : ∀ a i, a ≠ 184 → S'.1 a i = S.1 a i) : RTm n td S' := by
  refine ⟨hT.1, (h 140 64 (by decide)).trans hT.2.1, fun i hi => ?_⟩
  obtain ⟨t1, t3, t4, t5, t6⟩ := hT.2.2 i hi
  exact ⟨(h 181 i (by decide)).trans t1, (h 182 i (by decide)).trans t3, (h 183 i (by decide)).trans t4, t5, t6⟩
theorem mworst_loop {S0 : St} (hr : S0.2.2 = RB B B1 C) (hT : RTm n td S0) {k held : Nat} (hk : k ≤ n) (hh : held < 100) : ∀ (m fu i : Nat) (S : St), m < fu → i + m = 100 → WM (fitA td k) held i S0 S → RN (b_X10_worstFrom_26 fu 140 (nI held) (nI k) (nI (worstA (fitA td k) held i)) (nI i) S) (fun r S' => r = nI (worstA (fitA td k) held 100) ∧ S'.2 = S0.2 ∧ ∀ a i, a ≠ 184 → S'.1 a i = S0.1 a i)
  | m, 0, _, _, h, _, _ => absurd h (Nat.not_lt_zero _)
  | 0, fu + 1, i, S, _, hi, hI => by
    have : i = 100 := by omega
    subst this
    rw [b_X10_worstFrom_26, if_pos (show (100 : Int32) ≤ nI 100 by decide)]
    exact RN_some ⟨rfl, hI.1, hI.2.2⟩
  | m + 1, fu + 1, i, S, hf, hi, hI => by
    have hrS : S.2.2 = RB B B1 C := by rw [hI.1]; exact hr
    have hTS := RTm_keep hT hI.2.2
    rw [b_X10_worstFrom_26, if_neg (fun q => by have := (nI_leI (a := 100) (by omega) (by omega)).mp q; omega), so_eq hrS hTS (by omega) hk, bd_some]
    simp only [ite10, mod10 (show i < 2 ^ 31 by omega), mod10 (show held < 2 ^ 31 by omega)]
    simp only [div10 (show i < 2 ^ 31 by omega), div10 (show held < 2 ^ 31 by omega)]
    by_cases h : fitA td k i = true
    · rw [if_neg (fun q => q h), signOf_eq (by omega) (by omega), bd_some, signOf_eq (by omega) (by omega), bd_some, nm_eq]
      have ha := wy_cases (i % 10) (held % 10)
      have hb := wy_cases (i / 10) (held / 10)
      obtain ⟨hk9, -⟩ := km9_lt ha hb
      simp only [hk9, Option.bind_some, nm_eq, hrS, rb_140_68, sI_2, sI_1, and_self, if_true]
      have hold := hI.2.1 _ _ (nine_in ha hb)
      rw [hold, nI_1]
      have hc1 : cab (fitA td k) held (wy (i % 10) (held % 10)) (wy (i / 10) (held / 10)) i + 1 = cab (fitA td k) held (wy (i % 10) (held % 10)) (wy (i / 10) (held / 10)) (i + 1) := by
        rw [cab_snoc, if_pos ⟨h, rfl, rfl⟩]
      rw [hc1]
      have hle1 : worstA (fitA td k) held i ≤ i := worst_le
      have hle2 : cab (fitA td k) held (wy (i % 10) (held % 10)) (wy (i / 10) (held / 10)) (i + 1) ≤ i + 1 := cab_le
      have hw := worst_snoc (p := fitA td k) (held := held) (m := i)
      rw [if_pos h] at hw
      have hI' : WM (fitA td k) held (i + 1) S0 (sI S 184 (km9 (wy (i % 10) (held % 10)) (wy (i / 10) (held / 10))) (nI (cab (fitA td k) held (wy (i % 10) (held % 10)) (wy (i / 10) (held / 10)) (i + 1)))) := by
        refine ⟨hI.1, fun a b hab => ?_, fun a j ha' => ?_⟩
        · simp only [sI_1, true_and]
          by_cases e : km9 a b = km9 (wy (i % 10) (held % 10)) (wy (i / 10) (held / 10))
          · rw [if_pos e]
            obtain ⟨e1, e2⟩ := km9_inj (nine_of hab).1 (nine_of hab).2 ha hb e
            rw [e1, e2]
          · rw [if_neg e, hI.2.1 a b hab, cab_snoc, if_neg (fun q => e (by rw [q.2.1, q.2.2])), Nat.add_zero]
        · simp only [sI_1]
          rw [if_neg (fun q => ha' q.1)]
          exact hI.2.2 a j ha'
      have ih := mworst_loop hr hT hk hh m fu (i + 1) _ (by omega) (by omega) hI'
      by_cases g : cab (fitA td k) held (wy (i % 10) (held % 10)) (wy (i / 10) (held / 10)) (i + 1) ≤ worstA (fitA td k) held i
      · rw [if_pos ((nI_leI (by omega) (by omega)).mpr g), b_X10_worstFrom_109, nm_eq, nI_1]
        rw [hw, Nat.max_eq_left g] at ih
        exact ih
      · rw [if_neg (fun q => g ((nI_leI (by omega) (by omega)).mp q)), b_X10_worstFrom_109, nm_eq, nI_1]
        rw [hw, Nat.max_eq_right (by omega)] at ih
        exact ih
    · rw [if_pos h, b_X10_worstFrom_109, nm_eq, nI_1]
      have hw : worstA (fitA td k) held i = worstA (fitA td k) held (i + 1) := by rw [worst_snoc, if_neg h]
      rw [hw]
      refine mworst_loop hr hT hk hh m fu (i + 1) _ (by omega) (by omega) ⟨hI.1, fun a b hab => ?_, hI.2.2⟩
      rw [hI.2.1 a b hab, cab_snoc, if_neg (fun q => h q.1), Nat.add_zero]
theorem mzero_loop {S0 : St} (hr : S0.2.2 = RB B B1 C) (hT : RTm n td S0) {k held : Nat} (hk : k ≤ n) (hh : held < 100) : ∀ (m fu i : Nat) (S : St), m < fu → i + m = 9 → (S.2 = S0.2 ∧ (∀ j, j < i → S.1 184 j = 0) ∧ ∀ a j, a ≠ 184 → S.1 a j = S0.1 a j) → RN (b_X10_worstFrom_2 fu 140 (nI held) (nI k) (nI i) S) (fun r S' => r = nI (worstA (fitA td k) held 100) ∧ S'.2 = S0.2 ∧ ∀ a i, a ≠ 184 → S'.1 a i = S0.1 a i)
  | m, 0, _, _, h, _, _ => absurd h (Nat.not_lt_zero _)
  | 0, fu + 1, i, S, _, hi, hI => by
    have : i = 9 := by omega
    subst this
    have hrS : S.2.2 = RB B B1 C := by rw [hI.1]; exact hr
    rw [b_X10_worstFrom_2, if_pos (show (9 : Int32) ≤ nI 9 by decide)]
    have h0 : worstA (fitA td k) held 0 = 0 := Nat.le_zero.mp worst_le
    rw [show b_X10_worstFrom_26 FU 140 (nI held) (nI k) 0 0 S = b_X10_worstFrom_26 FU 140 (nI held) (nI k) (nI (worstA (fitA td k) held 0)) (nI 0) S by rw [h0]; rfl]
    refine RN_mono (mworst_loop (S0 := S) hrS (RTm_keep hT hI.2.2) hk hh 100 FU 0 S (by decide) (by omega) ⟨rfl, fun a b hab => ?_, fun _ _ _ => rfl⟩) (fun r S' hq => ⟨hq.1, hq.2.1.trans hI.1, fun a i ha => (hq.2.2 a i ha).trans (hI.2.2 a i ha)⟩)
    rw [hI.2.1 _ (km9_lt (nine_of hab).1 (nine_of hab).2).2]
    rfl
  | m + 1, fu + 1, i, S, hf, hi, hI => by
    have hrS : S.2.2 = RB B B1 C := by rw [hI.1]; exact hr
    rw [b_X10_worstFrom_2, if_neg (fun q => by have := (nI_leI (a := 9) (by omega) (by omega)).mp q; omega), ix_nI (by omega) (by decide)]
    simp only [Option.bind_some, nm_eq, hrS, rb_140_68, nI_1]
    refine mzero_loop hr hT hk hh m fu (i + 1) _ (by omega) (by omega) ⟨hI.1, fun j hj => ?_, fun a j ha => ?_⟩
    · rw [sI_1]
      by_cases e : j = i
      · rw [if_pos ⟨rfl, e⟩]
      · rw [if_neg (fun q => e q.2)]
        exact hI.2.1 j (by omega)
    · rw [sI_1, if_neg (fun q => ha q.1)]
      exact hI.2.2 a j ha
theorem mworst_run {S : St} (hr : S.2.2 = RB B B1 C) (hT : RTm n td S) {k held : Nat} (hk : k ≤ n) (hh : held < 100) : RN (f_X10_worstFrom 140 (nI held) (nI k) S) (fun r S' => r = nI (worstA (fitA td k) held 100) ∧ S'.2 = S.2 ∧ ∀ a i, a ≠ 184 → S'.1 a i = S.1 a i) :=
  mzero_loop hr hT hk hh 9 FU 0 S (by decide) (by omega) ⟨rfl, fun j h => absurd h (Nat.not_lt_zero _), fun _ _ _ => rfl⟩
theorem cntF_pos {p : Nat → Bool} : ∀ (m i : Nat), cntF p m i ≠ 0 → ∃ j, i ≤ j ∧ j < i + m ∧ p j = true
  | 0, i, h => absurd rfl h
  | m + 1, i, h => by
    by_cases hp : p i = true
    · exact ⟨i, Nat.le_refl _, by omega, hp⟩
    · simp [cntF, hp] at h
      obtain ⟨j, h1, h2, h3⟩ := cntF_pos m (i + 1) h
      exact ⟨j, by omega, by omega, h3⟩
theorem cntF_ge {p : Nat → Bool} : ∀ (m i j : Nat), i ≤ j → j < i + m → p j = true → 0 < cntF p m i
  | 0, i, j, h1, h2, _ => by omega
  | m + 1, i, j, h1, h2, hp => by
    simp only [cntF]
    by_cases e : i = j
    · subst e; simp [hp]; omega
    · have := cntF_ge (p := p) m (i + 1) j (by omega) (by omega) hp
      omega
theorem worst_zero {p : Nat → Bool} {held : Nat} (h : cntF p 100 0 = 0) : worstA p held 100 = 0 := by
  apply Nat.le_zero.mp
  apply maxL_le
  intro x hx
  obtain ⟨q, -, rfl⟩ := List.mem_map.mp hx
  apply Nat.le_of_not_lt
  intro hc
  obtain ⟨j, h1, h2, h3⟩ := cntF_pos 100 0 (Nat.ne_of_gt hc)
  simp only [Bool.and_eq_true] at h3
  have := cntF_ge (p := p) 100 0 j h1 h2 h3.1.1
  omega
theorem worst_pos {p : Nat → Bool} {held : Nat} (h : cntF p 100 0 ≠ 0) : 0 < worstA p held 100 := by
  obtain ⟨j, h1, h2, h3⟩ := cntF_pos 100 0 h
  have h4 : 0 < cab p held (wy (j % 10) (held % 10)) (wy (j / 10) (held / 10)) 100 := cntF_ge 100 0 j h1 h2 (by simp [h3])
  have h5 : cab p held (wy (j % 10) (held % 10)) (wy (j / 10) (held / 10)) 100 ≤ worstA p held 100 := maxL_ge (List.mem_map.mpr ⟨_, nine_in (wy_cases _ _) (wy_cases _ _), rfl⟩)
  omega
theorem mh0_loop {S0 : St} (hr : S0.2.2 = RB B B1 C) (hT : RTm n td S0) {k : Nat} (hk : k ≤ n) (hc : cntF (fitA td k) 100 0 = 0) : ∀ (m fu i : Nat) (S : St), m < fu → i + m = 100 → (S.2 = S0.2 ∧ ∀ a j, a ≠ 184 → S.1 a j = S0.1 a j) → RN (b_X10_holdNext_22 fu 140 (nI k) (-2) 0 (nI i) S) (fun r S' => r = -2 ∧ S'.2 = S0.2 ∧ ∀ a j, a ≠ 184 → S'.1 a j = S0.1 a j)
  | m, 0, _, _, h, _, _ => absurd h (Nat.not_lt_zero _)
  | 0, fu + 1, i, S, _, hi, hI => by
    have : i = 100 := by omega
    subst this
    rw [b_X10_holdNext_22, if_pos (show (100 : Int32) ≤ nI 100 by decide)]
    exact RN_some ⟨rfl, hI⟩
  | m + 1, fu + 1, i, S, hf, hi, hI => by
    rw [b_X10_holdNext_22, if_neg (fun q => by have := (nI_leI (a := 100) (by omega) (by omega)).mp q; omega)]
    refine RN_bd (mworst_run (by rw [hI.1]; exact hr) (RTm_keep hT hI.2) hk (by omega)) (fun r S1 h1 => ?_)
    obtain ⟨rfl, h2, h3⟩ := h1
    rw [worst_zero hc, if_pos (show nI 0 = 0 from rfl), b_X10_holdNext_62, nm_eq, nI_1]
    exact mh0_loop hr hT hk hc m fu (i + 1) S1 (by omega) (by omega) ⟨h2.trans hI.1, fun a j ha => (h3 a j ha).trans (hI.2 a j ha)⟩
theorem mh1_loop {S0 : St} (hr : S0.2.2 = RB B B1 C) (hT : RTm n td S0) {k : Nat} (hk : k ≤ n) (hc : cntF (fitA td k) 100 0 ≠ 0) : ∀ (m fu i : Nat) (S : St), m < fu → i + m = 100 → 1 ≤ i → (S.2 = S0.2 ∧ ∀ a j, a ≠ 184 → S.1 a j = S0.1 a j) → RN (b_X10_holdNext_22 fu 140 (nI k) (nI (amin (fun h => worstA (fitA td k) h 100) i).1) (nI (amin (fun h => worstA (fitA td k) h 100) i).2) (nI i) S) (fun r S' => r = nI (amin (fun h => worstA (fitA td k) h 100) 100).1 ∧ S'.2 = S0.2 ∧ ∀ a j, a ≠ 184 → S'.1 a j = S0.1 a j)
  | m, 0, _, _, h, _, _, _ => absurd h (Nat.not_lt_zero _)
  | 0, fu + 1, i, S, _, hi, _, hI => by
    have : i = 100 := by omega
    subst this
    rw [b_X10_holdNext_22, if_pos (show (100 : Int32) ≤ nI 100 by decide)]
    exact RN_some ⟨rfl, hI⟩
  | m + 1, fu + 1, i, S, hf, hi, h1i, hI => by
    rw [b_X10_holdNext_22, if_neg (fun q => by have := (nI_leI (a := 100) (by omega) (by omega)).mp q; omega)]
    refine RN_bd (mworst_run (by rw [hI.1]; exact hr) (RTm_keep hT hI.2) hk (by omega)) (fun r S1 h1 => ?_)
    obtain ⟨rfl, h2, h3⟩ := h1
    have hS1 : S1.2 = S0.2 ∧ ∀ a j, a ≠ 184 → S1.1 a j = S0.1 a j := ⟨h2.trans hI.1, fun a j ha => (h3 a j ha).trans (hI.2 a j ha)⟩
    have hle : worstA (fitA td k) i 100 ≤ 100 := worst_le
    have hwp := worst_pos (held := i) hc
    have hm := amin_lt (w := fun h => worstA (fitA td k) h 100) i
    have ih := mh1_loop hr hT hk hc m fu (i + 1) S1 (by omega) (by omega) (by omega) hS1
    rw [if_neg (nI_ne0 hwp (by omega)), if_neg (nI_pos (by omega))]
    by_cases g : worstA (fitA td k) i 100 < (amin (fun h => worstA (fitA td k) h 100) i).2
    · rw [if_pos ((nI_ltI (by omega) (by omega)).mpr g), b_X10_holdNext_56, b_X10_holdNext_62, nm_eq, nI_1]
      rw [show amin (fun h => worstA (fitA td k) h 100) (i + 1) = (i, worstA (fitA td k) i 100) by simp only [amin]; rw [if_pos g]] at ih
      exact ih
    · rw [if_neg (fun q => g ((nI_ltI (by omega) (by omega)).mp q)), b_X10_holdNext_62, nm_eq, nI_1]
      rw [show amin (fun h => worstA (fitA td k) h 100) (i + 1) = amin (fun h => worstA (fitA td k) h 100) i by simp only [amin]; rw [if_neg g]] at ih
      exact ih
theorem m_holdNext {S : St} (hr : S.2.2 = RB B B1 C) (hT : RTm n td S) (k : Int32) : RN (f_X10_holdNext 140 k S) (fun r S' => r = holdNextA n td k ∧ EM S S') := by
  have h20 := hT.1
  unfold f_X10_holdNext holdNextA
  rw [hT.2.1, in_eq, bd_some]
  by_cases hk : 0 ≤ k ∧ k ≤ nI n
  · obtain ⟨j, hj, rfl⟩ := k_of (by omega) hk
    rw [if_pos hk, if_pos hk, if_neg (by decide), nI_nat (by omega)]
    unfold holdA
    by_cases hc : cntF (fitA td j) 100 0 = 0
    · rw [if_pos hc]
      exact RN_mono (mh0_loop hr hT hj hc 100 FU 0 S (by decide) (by omega) ⟨rfl, fun _ _ _ => rfl⟩) (fun r S' h => ⟨h.1, by rw [h.2.1], fun a i o => h.2.2 a i (by unfold obm at o; omega), fun i => by rw [h.2.1]⟩)
    · rw [if_neg hc]
      have hwp := worst_pos (held := 0) hc
      have hle : worstA (fitA td j) 0 100 ≤ 100 := worst_le
      rw [show FU = 4999 + 1 from rfl, b_X10_holdNext_22, if_neg (by decide)]
      refine RN_bd (mworst_run hr hT hj (by decide)) (fun r S1 h1 => ?_)
      obtain ⟨rfl, h2, h3⟩ := h1
      rw [if_neg (nI_ne0 hwp (by omega)), if_pos (by decide), b_X10_holdNext_56, b_X10_holdNext_62, nm_eq]
      have ih := mh1_loop hr hT hj hc 99 4999 1 S1 (by decide) (by omega) (by omega) ⟨h2, h3⟩
      rw [amin_1 (w := fun h => worstA (fitA td j) h 100) hle] at ih
      exact RN_mono ih (fun r S' h => ⟨h.1, by rw [h.2.1], fun a i o => h.2.2 a i (by unfold obm at o; omega), fun i => by rw [h.2.1]⟩)
  · rw [if_neg hk, if_neg hk, if_pos rfl]
    exact RN_some ⟨rfl, EM.rf⟩
end TM

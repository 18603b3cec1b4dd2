/-! told: class, what is answered -/
theorem k_of {k : Int32} {n : Nat} (hn : n < 2 ^ 31) (h : 0 ≤ k ∧ k ≤ nI n) : ∃ j, j ≤ n ∧ k = nI j := by
  obtain ⟨h1, h2⟩ := h
  rw [i32_le] at h1 h2
  rw [nI_toInt hn] at h2
  have h1 : 0 ≤ k.toInt := h1
  refine ⟨k.toInt.toNat, by omega, ?_⟩
  rw [i32_eq, nI_toInt (by omega)]
  omega
def firstF (p : Nat → Bool) : Nat → Nat → Int32
  | 0, _ => -2
  | m + 1, i => if p i then nI i else firstF p m (i + 1)
/-- how many of those that fit pull so from there -/
def cab (p : Nat → Bool) (held : Nat) (a b : Int32) (m : Nat) : Nat := cntF (fun pl => p pl && decide (wy (pl % 10) (held % 10) = a) && decide (wy (pl / 10) (held / 10) = b)) m 0
def nine : List (Int32 × Int32) := [(-1, -1), (0, -1), (1, -1), (-1, 0), (0, 0), (1, 0), (-1, 1), (0, 1), (1, 1)]
def maxL : List Nat → Nat
  | [] => 0
  | x :: t => max x (maxL t)
theorem maxL_ge {x : Nat} : ∀ {l : List Nat}, x ∈ l → x ≤ maxL l
  | [], h => by cases h
  | y :: t, h => by
    rcases List.mem_cons.mp h with rfl | h
    · exact Nat.le_max_left _ _
    · exact Nat.le_trans (maxL_ge h) (Nat.le_max_right _ _)
theorem maxL_le {n : Nat} : ∀ {l : List Nat}, (∀ x ∈ l, x ≤ n) → maxL l ≤ n
  | [], _ => Nat.zero_le _
  | y :: t, h => Nat.max_le.mpr ⟨h y List.mem_cons_self, maxL_le (fun x hx => h x (List.mem_cons_of_mem _ hx))⟩
def worstA (p : Nat → Bool) (held m : Nat) : Nat := maxL (nine.map (fun q => cab p held q.1 q.2 m))
theorem cab_le {p : Nat → Bool} {held m : Nat} {a b : Int32} : cab p held a b m ≤ m := cntF_le m 0
theorem worst_le {p : Nat → Bool} {held m : Nat} : worstA p held m ≤ m := maxL_le (fun x hx => by
  obtain ⟨q, -, rfl⟩ := List.mem_map.mp hx
  exact cab_le)
theorem wy_cases (a b : Nat) : wy a b = -1 ∨ wy a b = 0 ∨ wy a b = 1 := by
  unfold wy
  split
  · exact Or.inr (Or.inl rfl)
  · split
    · exact Or.inr (Or.inr rfl)
    · exact Or.inl rfl
theorem nine_in {a b : Int32} (ha : a = -1 ∨ a = 0 ∨ a = 1) (hb : b = -1 ∨ b = 0 ∨ b = 1) : (a, b) ∈ nine := by
  rcases ha with rfl | rfl | rfl <;> rcases hb with rfl | rfl | rfl <;> decide
theorem cab_snoc {p : Nat → Bool} {held m : Nat} {a b : Int32} : cab p held a b (m + 1) = cab p held a b m + (if p m = true ∧ wy (m % 10) (held % 10) = a ∧ wy (m / 10) (held / 10) = b then 1 else 0) := by
  unfold cab
  rw [cntF_snoc, Nat.zero_add]
  congr 1
  simp [Bool.and_eq_true, and_assoc]
/-- one place more: the count of its kind grows, the greatest with it -/
theorem worst_snoc {p : Nat → Bool} {held m : Nat} : worstA p held (m + 1) = if p m = true then max (worstA p held m) (cab p held (wy (m % 10) (held % 10)) (wy (m / 10) (held / 10)) (m + 1)) else worstA p held m := by
  by_cases hp : p m = true
  · rw [if_pos hp]
    apply Nat.le_antisymm
    · apply maxL_le
      intro x hx
      obtain ⟨q, hq, rfl⟩ := List.mem_map.mp hx
      by_cases e : wy (m % 10) (held % 10) = q.1 ∧ wy (m / 10) (held / 10) = q.2
      · rw [← e.1, ← e.2]
        exact Nat.le_max_right _ _
      · rw [cab_snoc, if_neg (fun h => e h.2), Nat.add_zero]
        exact Nat.le_trans (maxL_ge (List.mem_map.mpr ⟨q, hq, rfl⟩)) (Nat.le_max_left _ _)
    · apply Nat.max_le.mpr
      constructor
      · apply maxL_le
        intro x hx
        obtain ⟨q, hq, rfl⟩ := List.mem_map.mp hx
        refine Nat.le_trans ?_ (maxL_ge (List.mem_map.mpr ⟨q, hq, rfl⟩))
        show cab p held q.1 q.2 m ≤ cab p held q.1 q.2 (m + 1)
        rw [cab_snoc]
        omega
      · exact maxL_ge (List.mem_map.mpr ⟨_, nine_in (wy_cases _ _) (wy_cases _ _), rfl⟩)
  · rw [if_neg hp]
    unfold worstA
    congr 1
    apply List.map_congr_left
    intro q _
    rw [cab_snoc, if_neg (fun h => hp h.1), Nat.add_zero]
/-- the first place with the least: (which, how much) of the first m -/
def amin (w : Nat → Nat) : Nat → Nat × Nat
  | 0 => (0, 101)
  | m + 1 => if w m < (amin w m).2 then (m, w m) else amin w m
def holdA (p : Nat → Bool) : Int32 := if cntF p 100 0 = 0 then -2 else nI (amin (fun h => worstA p h 100) 100).1
theorem amin_lt {w : Nat → Nat} : ∀ m, (amin w m).1 ≤ m ∧ (amin w m).2 ≤ 101
  | 0 => ⟨Nat.le_refl _, Nat.le_refl _⟩
  | m + 1 => by
    have := amin_lt (w := w) m
    simp only [amin]
    split
    · exact ⟨by omega, by omega⟩
    · exact ⟨by omega, this.2⟩
def kc9 (a b : Int32) : Nat := ((4 : Int32) + a + 3 * b).toInt.toNat
theorem kc9_lt {a b : Int32} (ha : a = -1 ∨ a = 0 ∨ a = 1) (hb : b = -1 ∨ b = 0 ∨ b = 1) : ix ((4 : Int32) + a + 3 * b) 9 = some (kc9 a b) ∧ kc9 a b < 9 := by
  rcases ha with rfl | rfl | rfl <;> rcases hb with rfl | rfl | rfl <;> decide
theorem kc9_inj {a b c d : Int32} (ha : a = -1 ∨ a = 0 ∨ a = 1) (hb : b = -1 ∨ b = 0 ∨ b = 1) (hc : c = -1 ∨ c = 0 ∨ c = 1) (hd : d = -1 ∨ d = 0 ∨ d = 1) (h : kc9 a b = kc9 c d) : a = c ∧ b = d := by
  revert h
  rcases ha with rfl | rfl | rfl <;> rcases hb with rfl | rfl | rfl <;> rcases hc with rfl | rfl | rfl <;> rcases hd with rfl | rfl | rfl <;> decide
theorem fill_loop {l a : Nat} {v : Int32} (hl : l < 2 ^ 31) {S0 : St} : ∀ (m fu i : Nat) (S : St), m < fu → i + m = l → (S.2 = S0.2 ∧ (∀ j, j < i → S.1 a j = v) ∧ ∀ b j, (b = a → i ≤ j) → S.1 b j = S0.1 b j) → RN (b_J7_fill_53178_5 l fu a v (nI i) (nI l) S) (fun _ S' => S'.2 = S0.2 ∧ (∀ j, j < l → S'.1 a j = v) ∧ ∀ b j, (b = a → l ≤ j) → S'.1 b j = S0.1 b j)
  | m, 0, _, _, h, _, _ => absurd h (Nat.not_lt_zero _)
  | 0, fu + 1, i, S, _, hi, hI => by
    have : i = l := by omega
    subst this
    rw [b_J7_fill_53178_5, if_pos ((nI_leI hl hl).mpr (Nat.le_refl _))]
    exact RN_some hI
  | m + 1, fu + 1, i, S, hf, hi, hI => by
    rw [b_J7_fill_53178_5, if_neg (fun q => by have := (nI_leI hl (by omega)).mp q; omega), ix_nI (by omega) hl]
    simp only [Option.bind_some, nm_eq, nI_1]
    refine fill_loop hl m fu (i + 1) _ (by omega) (by omega) ⟨hI.1, fun j hj => ?_, fun b j hb => ?_⟩
    · rw [sI_1]
      by_cases e : j = i
      · rw [if_pos ⟨rfl, e⟩]
      · rw [if_neg (fun q => e q.2)]
        exact hI.2.1 j (by omega)
    · rw [sI_1, if_neg (fun q => by have := hb q.1; omega)]
      exact hI.2.2 b j (fun q => by have := hb q; omega)
theorem fill_run {l a : Nat} {v : Int32} (hl : l < 5000) {S : St} : RN (f_J7_fill_53178 l a v S) (fun _ S' => S'.2 = S.2 ∧ (∀ j, j < l → S'.1 a j = v) ∧ ∀ b j, (b = a → l ≤ j) → S'.1 b j = S.1 b j) := by
  unfold f_J7_fill_53178
  rw [nm_eq]
  exact fill_loop (by omega) l FU 0 S (by unfold FU; omega) (by omega) ⟨rfl, fun j h => absurd h (Nat.not_lt_zero _), fun b j _ => rfl⟩
section TC2
variable {B B1 C n : Nat} {td : Nat → Nat × Nat × Int32 × Int32}
theorem first_loop {p : Nat → Bool} {S : St} (hr : S.2.2 = RB B B1 C) (hp : ∀ pl, pl < 100 → S.1 138 pl = if p pl then 1 else 0) : ∀ (m fu i : Nat), m < fu → i + m = 100 → b_X7_firstLeft_2 fu 133 (nI i) S = some (firstF p m i, S)
  | m, 0, _, h, _ => absurd h (Nat.not_lt_zero _)
  | 0, fu + 1, i, _, hi => by
    have : i = 100 := by omega
    subst this
    rw [b_X7_firstLeft_2, if_pos (show (100 : Int32) ≤ nI 100 by decide)]
    rfl
  | m + 1, fu + 1, i, hf, hi => by
    rw [b_X7_firstLeft_2, if_neg (fun q => by have := (nI_leI (a := 100) (by omega) (by omega)).mp q; omega), ix_nI (by omega) (by decide)]
    simp only [Option.bind_some, hr, rb_133_5, hp i (by omega), ite10, nm_eq, nI_1]
    by_cases h : p i = true
    · simp [h, firstF]
    · rw [if_pos h, first_loop hr hp m fu (i + 1) (by omega) (by omega)]
      simp [h, firstF]
/-- the state in worstLeft's loop -/
def WL (p : Nat → Bool) (held m : Nat) (S0 S : St) : Prop := S.2 = S0.2 ∧ (∀ a b, (a, b) ∈ nine → S.1 139 (kc9 a b) = nI (cab p held a b m)) ∧ ∀ a i, a ≠ 139 → S.1 a i = S0.1 a i
theorem nine_of {a b : Int32} (h : (a, b) ∈ nine) : (a = -1 ∨ a = 0 ∨ a = 1) ∧ (b = -1 ∨ b = 0 ∨ b = 1) := by
  simp only [nine, List.mem_cons, Prod.mk.injEq, List.not_mem_nil, or_false] at h
  rcases h with ⟨rfl, rfl⟩ | ⟨rfl, rfl⟩ | ⟨rfl, rfl⟩ | ⟨rfl, rfl⟩ | ⟨rfl, rfl⟩ | ⟨rfl, rfl⟩ | ⟨rfl, rfl⟩ | ⟨rfl, rfl⟩ | ⟨rfl, rfl⟩ <;> simp
theorem worst_loop {p : Nat → Bool} {S0 : St} (hr : S0.2.2 = RB B B1 C) (hp : ∀ pl, pl < 100 → S0.1 138 pl = if p pl then 1 else 0) {held : Nat} (hh : held < 100) : ∀ (m fu i : Nat) (S : St), m < fu → i + m = 100 → WL p held i S0 S → RN (b_X7_worstLeft_12 fu 133 (nI held) (nI (worstA p held i)) (nI i) S) (fun r S' => r = nI (worstA p held 100) ∧ S'.2 = S0.2 ∧ ∀ a i, a ≠ 139 → S'.1 a i = S0.1 a i)
  | m, 0, _, _, h, _, _ => absurd h (Nat.not_lt_zero _)
  | 0, fu + 1, i, S, _, hi, hI => by
    have : i = 100 := by omega
    subst this
    rw [b_X7_worstLeft_12, if_pos (show (100 : Int32) ≤ nI 100 by decide)]
    exact RN_some ⟨rfl, hI.1, hI.2.2⟩
  | m + 1, fu + 1, i, S, hf, hi, hI => by
    have hrS : S.2.2 = RB B B1 C := by rw [hI.1]; exact hr
    have hopen : S.1 138 i = if p i then 1 else 0 := (hI.2.2 138 i (by decide)).trans (hp i (by omega))
    rw [b_X7_worstLeft_12, if_neg (fun q => by have := (nI_leI (a := 100) (by omega) (by omega)).mp q; omega), ix_nI (by omega) (by decide)]
    simp only [Option.bind_some, hrS, rb_133_5, hopen, ite10, mod10 (show i < 2 ^ 31 by omega), mod10 (show held < 2 ^ 31 by omega)]
    simp only [div10 (show i < 2 ^ 31 by omega), div10 (show held < 2 ^ 31 by omega)]
    by_cases h : p i = true
    · rw [if_neg (fun q => q h), wayTo_eq (by omega) (by omega), bd_some, wayTo_eq (by omega) (by omega), bd_some, nm_eq]
      have ha := wy_cases (i % 10) (held % 10)
      have hb := wy_cases (i / 10) (held / 10)
      obtain ⟨hk, hk9⟩ := kc9_lt ha hb
      simp only [hk, Option.bind_some, nm_eq, hrS, rb_133_6, sI_2, sI_1, and_self, if_true]
      have hold := hI.2.1 _ _ (nine_in ha hb)
      rw [hold, nI_1, b_X7_worstLeft_79, nm_eq, nI_1]
      have hc1 : cab p held (wy (i % 10) (held % 10)) (wy (i / 10) (held / 10)) i + 1 = cab p held (wy (i % 10) (held % 10)) (wy (i / 10) (held / 10)) (i + 1) := by
        rw [cab_snoc, if_pos ⟨h, rfl, rfl⟩]
      rw [hc1]
      have hle1 : worstA p held i ≤ i := worst_le
      have hle2 : cab p held (wy (i % 10) (held % 10)) (wy (i / 10) (held / 10)) (i + 1) ≤ i + 1 := cab_le
      have hmx : mxI (nI (worstA p held i)) (nI (cab p held (wy (i % 10) (held % 10)) (wy (i / 10) (held / 10)) (i + 1))) = nI (worstA p held (i + 1)) := by
        rw [worst_snoc, if_pos h]
        unfold mxI
        by_cases g : worstA p held i < cab p held (wy (i % 10) (held % 10)) (wy (i / 10) (held / 10)) (i + 1)
        · rw [if_pos ((nI_ltI (by omega) (by omega)).mpr g), Nat.max_eq_right (by omega)]
        · rw [if_neg (fun q => g ((nI_ltI (by omega) (by omega)).mp q)), Nat.max_eq_left (by omega)]
      rw [hmx]
      refine worst_loop hr hp hh m fu (i + 1) _ (by omega) (by omega) ⟨hI.1, fun a b hab => ?_, fun a j ha' => ?_⟩
      · simp only [sI_1, true_and]
        by_cases e : kc9 a b = kc9 (wy (i % 10) (held % 10)) (wy (i / 10) (held / 10))
        · rw [if_pos e]
          obtain ⟨e1, e2⟩ := kc9_inj (nine_of hab).1 (nine_of hab).2 ha hb e
          rw [e1, e2]
        · rw [if_neg e, hI.2.1 a b hab, cab_snoc, if_neg (fun q => e (by rw [q.2.1, q.2.2])), Nat.add_zero]
      · simp only [sI_1]
        rw [if_neg (fun q => ha' q.1)]
        exact hI.2.2 a j ha'
    · rw [if_pos h, b_X7_worstLeft_79, nm_eq, nI_1]
      have hw : worstA p held i = worstA p held (i + 1) := by rw [worst_snoc, if_neg h]
      rw [hw]
      refine worst_loop hr hp hh m fu (i + 1) _ (by omega) (by omega) ⟨hI.1, fun a b hab => ?_, hI.2.2⟩
      rw [hI.2.1 a b hab, cab_snoc, if_neg (fun q => h q.1), Nat.add_zero]
theorem worst_run {p : Nat → Bool} {S : St} (hr : S.2.2 = RB B B1 C) (hp : ∀ pl, pl < 100 → S.1 138 pl = if p pl then 1 else 0) {held : Nat} (hh : held < 100) : RN (f_X7_worstLeft 133 (nI held) S) (fun r S' => r = nI (worstA p held 100) ∧ S'.2 = S.2 ∧ ∀ a i, a ≠ 139 → S'.1 a i = S.1 a i) := by
  unfold f_X7_worstLeft
  rw [hr, rb_133_6]
  refine RN_bd (fill_run (by decide)) (fun _ S1 h1 => ?_)
  have h0 : worstA p held 0 = 0 := Nat.le_zero.mp worst_le
  have hz : (0 : Int32) = nI (worstA p held 0) := by rw [h0]; rfl
  rw [show b_X7_worstLeft_12 FU 133 (nI held) 0 0 S1 = b_X7_worstLeft_12 FU 133 (nI held) (nI (worstA p held 0)) (nI 0) S1 by rw [h0]; rfl]
  refine RN_mono (worst_loop (S0 := S1) (by rw [h1.1]; exact hr) (fun pl hpl => (h1.2.2 138 pl (by omega)).trans (hp pl hpl)) hh 100 FU 0 S1 (by decide) (by omega) ⟨rfl, fun a b hab => ?_, fun _ _ _ => rfl⟩) (fun r S' hq => ⟨hq.1, hq.2.1.trans h1.1, fun a i ha => (hq.2.2 a i ha).trans (h1.2.2 a i (fun q => absurd q ha))⟩)
  rw [h1.2.1 _ (kc9_lt (nine_of hab).1 (nine_of hab).2).2]
  rfl
theorem best_loop {p : Nat → Bool} {S0 : St} (hr : S0.2.2 = RB B B1 C) (hp : ∀ pl, pl < 100 → S0.1 138 pl = if p pl then 1 else 0) : ∀ (m fu i : Nat) (S : St), m < fu → i + m = 100 → (S.2 = S0.2 ∧ ∀ a j, a ≠ 139 → S.1 a j = S0.1 a j) → RN (b_X7_bestNext_7 fu 133 (nI (amin (fun h => worstA p h 100) i).1) (nI (amin (fun h => worstA p h 100) i).2) (nI i) S) (fun r S' => r = nI (amin (fun h => worstA p h 100) 100).1 ∧ S'.2 = S0.2 ∧ ∀ a j, a ≠ 139 → S'.1 a j = S0.1 a j)
  | m, 0, _, _, h, _, _ => absurd h (Nat.not_lt_zero _)
  | 0, fu + 1, i, S, _, hi, hI => by
    have : i = 100 := by omega
    subst this
    rw [b_X7_bestNext_7, if_pos (show (100 : Int32) ≤ nI 100 by decide)]
    exact RN_some ⟨rfl, hI⟩
  | m + 1, fu + 1, i, S, hf, hi, hI => by
    rw [b_X7_bestNext_7, if_neg (fun q => by have := (nI_leI (a := 100) (by omega) (by omega)).mp q; omega)]
    refine RN_bd (worst_run (p := p) (by rw [hI.1]; exact hr) (fun pl hpl => (hI.2 138 pl (by decide)).trans (hp pl hpl)) (by omega)) (fun r S1 h1 => ?_)
    obtain ⟨rfl, h2, h3⟩ := h1
    have hS1 : S1.2 = S0.2 ∧ ∀ a j, a ≠ 139 → S1.1 a j = S0.1 a j := ⟨h2.trans hI.1, fun a j ha => (h3 a j ha).trans (hI.2 a j ha)⟩
    have hle : worstA p i 100 ≤ 100 := worst_le
    have hm := amin_lt (w := fun h => worstA p h 100) i
    have ih := best_loop hr hp m fu (i + 1) S1 (by omega) (by omega) hS1
    by_cases g : worstA p i 100 < (amin (fun h => worstA p h 100) i).2
    · rw [if_neg (fun q => by have := (nI_leI (by omega) (by omega)).mp q; omega), b_X7_bestNext_31, nm_eq, nI_1]
      rw [show amin (fun h => worstA p h 100) (i + 1) = (i, worstA p i 100) by simp only [amin]; rw [if_pos g]] at ih
      exact ih
    · rw [if_pos ((nI_leI (by omega) (by omega)).mpr (by omega)), b_X7_bestNext_31, nm_eq, nI_1]
      rw [show amin (fun h => worstA p h 100) (i + 1) = amin (fun h => worstA p h 100) i by simp only [amin]; rw [if_neg g]] at ih
      exact ih
theorem best_run {p : Nat → Bool} {S : St} (hr : S.2.2 = RB B B1 C) (hp : ∀ pl, pl < 100 → S.1 138 pl = if p pl then 1 else 0) : RN (f_X7_bestNext 133 S) (fun r S' => r = nI (amin (fun h => worstA p h 100) 100).1 ∧ S'.2 = S.2 ∧ ∀ a j, a ≠ 139 → S'.1 a j = S.1 a j) := by
  unfold f_X7_bestNext
  exact best_loop hr hp 100 FU 0 S (by decide) (by omega) ⟨rfl, fun _ _ _ => rfl⟩
end TC2

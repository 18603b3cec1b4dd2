/-! the reference's row; distances; copies -/
def In9 (x : Int32) : Prop := ∃ j : Nat, j < 10 ∧ x = nI j
def In3 (x : Int32) : Prop := ∃ j : Nat, j < 7 ∧ x = nI j - 3
def dI (x y : Int32) : Int32 := abI (x - y)
def farA (s : ASea) (m : Nat) (x y : Int32) : Int32 := mxI (dI (aR s m) x) (dI (aR s (4 + m)) y)
def wfP (nm np ns : Nat) (s : ASea) : Prop := (∀ m, m < nm → In9 (aR s m) ∧ In9 (aR s (4 + m)) ∧ In3 (aR s (8 + m)) ∧ In3 (aR s (12 + m))) ∧ (∀ p, p < np → In9 (aR s (16 + p)) ∧ In9 (aR s (22 + p))) ∧ ∀ e, e < ns → ∃ j, j < np ∧ aR s (28 + e) = nI j
section SEA2
variable {B B1 C : Nat} {s : ASea} {S : St} {a : Nat}
theorem off9 : ∀ i : Nat, i < 10 → ∀ j : Nat, j < 10 → (if nI j ≤ nI i then nI i - nI j else nI j - nI i) = dI (nI i) (nI j) := by decide
theorem off_eq {x y : Int32} (hx : In9 x) (hy : In9 y) : f_X10_off x y S = some (dI x y, S) := by
  obtain ⟨i, hi, rfl⟩ := hx
  obtain ⟨j, hj, rfl⟩ := hy
  unfold f_X10_off
  rw [← off9 i hi j hj]
  split <;> rfl
theorem more_eq {x y : Int32} : f_X10_more x y S = some (mxI x y, S) := by
  unfold f_X10_more mxI
  simp only [i32_le, i32_lt]
  by_cases h : x.toInt < y.toInt
  · rw [if_pos (by omega), if_pos h]
  · rw [if_neg h]
    by_cases h2 : x.toInt ≤ y.toInt
    · rw [if_pos h2, show y = x from i32_eq.mpr (by omega)]
    · rw [if_neg h2]
theorem farOf_eq (hr0 : S.2.2 a 0 = a + 1) (hS : RS a s S) {m : Nat} (hm : m < 4) (x y : Int32) : f_X5_farOf a (nI m) x y S = some (farA s m x y, S) := by
  unfold f_X5_farOf f_X9_farApart farA dI
  rw [show (0 : Int32) + nI m = nI m by rw [show (0 : Int32) = nI 0 from rfl, nI_add, Nat.zero_add], show (4 : Int32) + nI m = nI (4 + m) from nI_add 4 m, ix_nI (by omega) (by decide), ix_nI (by omega) (by decide)]
  simp only [Option.bind_some, bd_some, hr0]
  rw [hS.1 m (by omega), hS.1 (4 + m) (by omega)]
theorem farFrom_eq (hr : S.2.2 = RB B B1 C) (hS : RW s S) {m : Nat} (hm : m < 4) (h1 : In9 (aR s m)) (h2 : In9 (aR s (4 + m))) {x y : Int32} (hx : In9 x) (hy : In9 y) : f_X10_farFrom 140 (nI m) x y S = some (farA s m x y, S) := by
  unfold f_X10_farFrom farA
  rw [show (4 : Int32) + nI m = nI (4 + m) from nI_add 4 m, ix_nI (by omega) (by decide), ix_nI (by omega) (by decide)]
  simp only [Option.bind_some, hr, rb_140_52, hS m (by omega), menc_m (show m < 16 by omega)]
  rw [off_eq h1 hx, bd_some]
  simp only [hr, rb_140_52, hS (4 + m) (by omega), menc_m (show 4 + m < 16 by omega)]
  rw [off_eq h2 hy, bd_some, more_eq, bd_some]
theorem misOff_eq (hr : S.2.2 = RB B B1 C) (hS : RW s S) {p : Nat} (hp : p < 6) : f_X10_isOff 140 (nI p) S = some (if (aO s).testBit p then 1 else 0, S) := by
  unfold f_X10_isOff
  rw [show (32 : Int32) + nI p = nI (32 + p) from nI_add 32 p, ix_nI (by omega) (by decide)]
  simp only [Option.bind_some, hr, rb_140_52, hS (32 + p) (by omega), menc_o hp, bitI_1]
  split <;> rfl
theorem misCut_eq (hr : S.2.2 = RB B B1 C) (hS : RW s S) {e : Nat} (he : e < 8) : f_X10_isCut 140 (nI e) S = some (if (aC s).testBit e then 1 else 0, S) := by
  unfold f_X10_isCut
  rw [show (46 : Int32) + nI e = nI (46 + e) from nI_add 46 e, ix_nI (by omega) (by decide)]
  simp only [Option.bind_some, hr, rb_140_52, hS (46 + e) (by omega), menc_c he, bitI_1]
  split <;> rfl
theorem ms_step (hr : S.2.2 = RB B B1 C) {m k : Nat} (hm : m < 4) (hk : k = 0 ∨ k = 4) {fu : Nat} : ∃ S', b_X10_swimsOne_2 (fu + 1) 140 (nI m) (nI k) S = b_X10_swimsOne_2 fu 140 (nI m) (nI (k + 4)) S' ∧ S'.2 = S.2 ∧ (∀ b i, b ≠ 175 → S'.1 b i = S.1 b i) ∧ ∀ i, S'.1 175 i = if i = k + m then (sw1 (S.1 175 (k + m)) (S.1 175 (8 + k + m))).1 else if i = 8 + k + m then (sw1 (S.1 175 (k + m)) (S.1 175 (8 + k + m))).2 else S.1 175 i := by
  have e1 : nI k + nI m = nI (k + m) := nI_add k m
  have e2 : (8 : Int32) + nI k + nI m = nI (8 + k + m) := by rw [show (8 : Int32) + nI k = nI (8 + k) from nI_add 8 k, nI_add]
  have e4 : nI k + 4 = nI (k + 4) := nI_add k 4
  rw [b_X10_swimsOne_2, if_neg (show ¬ (8 : Int32) ≤ nI k from fun q => by have := (nI_leI (a := 8) (by omega) (by omega)).mp q; omega)]
  unfold b_X10_swimsOne_39 b_X10_swimsOne_62 b_X10_swimsOne_92 sw1
  simp only [e1, e2, e4, ix_nI (show k + m < 55 by omega) (by decide), ix_nI (show 8 + k + m < 55 by omega) (by decide), Option.bind_some, nm_eq, hr, rb_140_52, sI_2]
  by_cases h1 : 0 ≤ S.1 175 (k + m) + S.1 175 (8 + k + m)
  · rw [if_neg (show ¬ S.1 175 (k + m) + S.1 175 (8 + k + m) < 0 from fun q => by rw [i32_le] at h1; rw [i32_lt] at q; omega)]
    simp only [if_pos h1]
    by_cases h2 : S.1 175 (k + m) + S.1 175 (8 + k + m) ≤ 9
    · simp only [if_pos h2]
      refine ⟨_, rfl, rfl, fun b i hb => ?_, fun i => ?_⟩
      · rw [sI_1, if_neg (fun e => hb e.1)]
      · rw [sI_1]
        by_cases e : i = k + m
        · rw [if_pos ⟨rfl, e⟩, if_pos e]
        · rw [if_neg (fun g => e g.2), if_neg e]
          by_cases e2 : i = 8 + k + m
          · rw [if_pos e2, e2]
          · rw [if_neg e2]
    · simp only [if_neg h2]
      refine ⟨_, rfl, rfl, fun b i hb => ?_, fun i => ?_⟩
      · rw [sI_1, if_neg (fun e => hb e.1), sI_1, if_neg (fun e => hb e.1)]
      · rw [sI_1, sI_1]
        by_cases e : i = k + m
        · rw [if_pos ⟨rfl, e⟩, if_pos e]
        · rw [if_neg (fun g => e g.2), if_neg e]
          by_cases e2 : i = 8 + k + m
          · rw [if_pos ⟨rfl, e2⟩, if_pos e2]
          · rw [if_neg (fun g => e2 g.2), if_neg e2]
  · rw [if_pos (show S.1 175 (k + m) + S.1 175 (8 + k + m) < 0 from by rw [i32_le] at h1; rw [i32_lt]; omega)]
    simp only [if_neg h1]
    refine ⟨_, rfl, rfl, fun b i hb => ?_, fun i => ?_⟩
    · rw [sI_1, if_neg (fun e => hb e.1), sI_1, if_neg (fun e => hb e.1)]
    · rw [sI_1, sI_1]
      by_cases e : i = k + m
      · rw [if_pos ⟨rfl, e⟩, if_pos e]
      · rw [if_neg (fun g => e g.2), if_neg e]
        by_cases e2 : i = 8 + k + m
        · rw [if_pos ⟨rfl, e2⟩, if_pos e2]
        · rw [if_neg (fun g => e2 g.2), if_neg e2]
theorem mswim_run (hr : S.2.2 = RB B B1 C) (hS : RW s S) {m : Nat} (hm : m < 4) : RN (f_X10_swimsOne 140 (nI m) S) (fun _ S' => S'.2 = S.2 ∧ (∀ b i, b ≠ 175 → S'.1 b i = S.1 b i) ∧ RW (swimN s m) S') := by
  unfold f_X10_swimsOne
  obtain ⟨S1, e1, p1, f1, r1⟩ := ms_step (fu := 4999) hr hm (k := 0) (by decide)
  obtain ⟨S2, e2, p2, f2, r2⟩ := ms_step (S := S1) (fu := 4998) (by rw [p1]; exact hr) hm (k := 4) (by decide)
  rw [show b_X10_swimsOne_2 FU 140 (nI m) 0 S = b_X10_swimsOne_2 (4999 + 1) 140 (nI m) (nI 0) S from rfl, e1, show (4999 : Nat) = 4998 + 1 from rfl, show 0 + 4 = 4 from rfl, e2, show (4998 : Nat) = 4997 + 1 from rfl, b_X10_swimsOne_2, if_pos (by decide)]
  refine RN_some ⟨p2.trans p1, fun b i hb => (f2 b i hb).trans (f1 b i hb), fun k hk => ?_⟩
  rw [r2]
  simp only [r1]
  rw [show 0 + m = m by omega, show 8 + 0 + m = 8 + m by omega, show 8 + 4 + m = 12 + m by omega]
  rw [if_neg (show ¬ 4 + m = m by omega), if_neg (show ¬ 4 + m = 8 + m by omega), if_neg (show ¬ 12 + m = m by omega), if_neg (show ¬ 12 + m = 8 + m by omega), hS m (by omega), hS (8 + m) (by omega), hS (4 + m) (by omega), hS (12 + m) (by omega), hS k hk, menc_m (show m < 16 by omega), menc_m (show 8 + m < 16 by omega), menc_m (show 4 + m < 16 by omega), menc_m (show 12 + m < 16 by omega)]
  by_cases hk16 : k < 16
  · rw [menc_m hk16, menc_m hk16]
    show _ = if k = m then _ else if k = 8 + m then _ else if k = 4 + m then _ else if k = 12 + m then _ else aR s k
    by_cases g1 : k = m
    · rw [if_neg (by omega), if_neg (by omega), if_pos g1, if_pos g1]
    · by_cases g2 : k = 8 + m
      · rw [if_neg (by omega), if_neg (by omega), if_neg g1, if_pos g2, if_neg g1, if_pos g2]
      · rw [if_neg g1, if_neg g2, if_neg g1, if_neg g2]
  · rw [if_neg (by omega), if_neg (by omega), if_neg (by omega), if_neg (by omega)]
    have hrow : ∀ j, 16 ≤ j → aR (swimN s m) j = aR s j := fun j hj => by
      show (if j = m then _ else if j = 8 + m then _ else if j = 4 + m then _ else if j = 12 + m then _ else aR s j) = _
      rw [if_neg (by omega), if_neg (by omega), if_neg (by omega), if_neg (by omega)]
    unfold menc
    rw [if_neg hk16, if_neg hk16]
    by_cases k20 : k < 20
    · rw [if_pos k20, if_pos k20]; rfl
    · rw [if_neg k20, if_neg k20]
      by_cases k32 : k < 32
      · rw [if_pos k32, if_pos k32, hrow _ (by omega)]
      · rw [if_neg k32, if_neg k32]
        by_cases k38 : k < 38
        · rw [if_pos k38, if_pos k38]; rfl
        · rw [if_neg k38, if_neg k38]
          by_cases k46 : k < 46
          · rw [if_pos k46, if_pos k46, hrow _ (by omega)]
          · rw [if_neg k46, if_neg k46]; rfl
/-- a Sea comes into another -/
theorem copy_run {b : Nat} (hra : S.2.2 a 0 = a + 1) (hrb : S.2.2 b 0 = b + 1) (hab : a ≠ b) (hab1 : a ≠ b + 1) (hba1 : b ≠ a + 1) (hS : RS b s S) : RN (f_X5_copyFrom a b S) (fun _ S' => S'.2 = S.2 ∧ (∀ c i, c ≠ a → c ≠ a + 1 → S'.1 c i = S.1 c i) ∧ (∀ i, i = 0 ∨ 5 ≤ i → S'.1 a i = S.1 a i) ∧ RS a s S') := by
  unfold f_X5_copyFrom
  simp only [nm_eq, hra, hrb]
  have h2 : (cpI S (b + 1) (a + 1) 36).2 = S.2 := rfl
  have h1 : ∀ c i, (cpI S (b + 1) (a + 1) 36).1 c i = if c = a + 1 ∧ i < 36 then S.1 (b + 1) i else S.1 c i := fun c i => by
    simp only [cpI]
    by_cases hc : c = a + 1
    · subst hc
      by_cases hi : i < 36 <;> simp [hi]
    · simp [hc]
  have hne : a ≠ a + 1 := by omega
  refine RN_some ⟨rfl, fun c i hc hc1 => ?_, fun i hi => ?_, ⟨fun k hk => ?_, ?_, ?_, ?_, ?_⟩⟩
  · simp only [sI_1, h1]
    rw [if_neg (fun q => hc q.1), if_neg (fun q => hc q.1), if_neg (fun q => hc q.1), if_neg (fun q => hc q.1), if_neg (fun q => hc1 q.1)]
  · simp only [sI_1, h1]
    rw [if_neg (by omega), if_neg (by omega), if_neg (by omega), if_neg (by omega), if_neg (by omega)]
  · simp only [sI_1, h1]
    rw [if_neg (by omega), if_neg (by omega), if_neg (by omega), if_neg (by omega), if_pos ⟨trivial, hk⟩]
    exact hS.1 k hk
  · simp only [sI_1, h1]
    simp [hne, hba1, Ne.symm hab, hS.2.1]
  · simp only [sI_1, h1]
    simp [hne, hba1, Ne.symm hab, hS.2.2.1]
  · simp only [sI_1, h1]
    simp [hne, hba1, Ne.symm hab, hS.2.2.2.1]
  · simp only [sI_1, h1]
    simp [hne, hba1, Ne.symm hab, hS.2.2.2.2]
end SEA2

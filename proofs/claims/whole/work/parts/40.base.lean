/-! pure level: runs of the decompiled functions, numbers -/
def RN {α : Type} (e : Option (α × St)) (Q : α → St → Prop) : Prop := ∃ r S', e = some (r, S') ∧ Q r S'
section RNR
variable {α β : Type} {Q : α → St → Prop}
theorem RN_some {v : α} {S : St} (h : Q v S) : RN (some (v, S)) Q := ⟨v, S, rfl, h⟩
theorem bd_some {v : β} {S : St} {f : β → St → Option (α × St)} : bd (some (v, S)) f = f v S := rfl
theorem nm_eq {v : β} {γ : Type} {f : β → γ} : nm v f = f v := rfl
theorem RN_bd {e1 : Option (β × St)} {Q1 : β → St → Prop} {f : β → St → Option (α × St)} (h1 : RN e1 Q1) (h : ∀ r S1, Q1 r S1 → RN (f r S1) Q) : RN (bd e1 f) Q := by
  obtain ⟨r, S1, rfl, hq⟩ := h1
  exact h r S1 hq
theorem RN_nm {v : β} {f : β → Option (α × St)} (h : RN (f v) Q) : RN (nm v f) Q := h
theorem RN_ix {i : Int32} {n j : Nat} {f : Nat → Option (α × St)} (hi : ix i n = some j) (h : RN (f j) Q) : RN ((ix i n).bind f) Q := by rw [hi]; exact h
theorem RN_ite {c : Prop} [Decidable c] {e1 e2 : Option (α × St)} (h1 : c → RN e1 Q) (h2 : ¬ c → RN e2 Q) : RN (if c then e1 else e2) Q := by
  by_cases hc : c
  · rw [if_pos hc]; exact h1 hc
  · rw [if_neg hc]; exact h2 hc
theorem RN_mono {e : Option (α × St)} {Q' : α → St → Prop} (h : RN e Q) (hq : ∀ r S, Q r S → Q' r S) : RN e Q' := by
  obtain ⟨r, S, h1, h2⟩ := h
  exact ⟨r, S, h1, hq r S h2⟩
theorem RN_eq {e : Option (α × St)} {v : α} {S : St} (he : e = some (v, S)) (h : Q v S) : RN e Q := ⟨v, S, he, h⟩
end RNR
theorem ix_nI {j n : Nat} (h : j < n) (hn : n < 2 ^ 31) : ix (nI j) n = some j := by
  have hj : (nI j).toInt = (j : Int) := nI_toInt (by omega)
  unfold ix
  rw [hj, if_pos ⟨by omega, by omega⟩]
  rfl
theorem sI_at {S : St} {a i : Nat} {v : Int32} : (sI S a i v).1 a i = v := by simp [sI, uu]
theorem sI_1 {S : St} {a i b j : Nat} {v : Int32} : (sI S a i v).1 b j = if b = a ∧ j = i then v else S.1 b j := by
  simp only [sI, uu]
  by_cases h1 : b = a
  · subst h1
    by_cases h2 : j = i <;> simp [h2]
  · simp [h1]
theorem sI_2 {S : St} {a i : Nat} {v : Int32} : (sI S a i v).2 = S.2 := rfl
theorem sL_1 {S : St} {a i : Nat} {v : Int64} : (sL S a i v).1 = S.1 := rfl
theorem sL_22 {S : St} {a i : Nat} {v : Int64} : (sL S a i v).2.2 = S.2.2 := rfl
theorem sL_2 {S : St} {a i b j : Nat} {v : Int64} : (sL S a i v).2.1 b j = if b = a ∧ j = i then v else S.2.1 b j := by
  simp only [sL, uu]
  by_cases h1 : b = a
  · subst h1
    by_cases h2 : j = i <;> simp [h2]
  · simp [h1]
theorem nar_bool0 : vp_nar .boolean 0 = 0 := by decide
theorem nar_bool1 : vp_nar .boolean 1 = 1 := by decide
/-- all of p at i, i + 1 .. i + m - 1 -/
def allF (p : Nat → Bool) : Nat → Nat → Bool
  | 0, _ => true
  | m + 1, i => p i && allF p m (i + 1)
def cntF (p : Nat → Bool) : Nat → Nat → Nat
  | 0, _ => 0
  | m + 1, i => (if p i then 1 else 0) + cntF p m (i + 1)
theorem allF_iff {p : Nat → Bool} : ∀ (m i : Nat), allF p m i = true ↔ ∀ j, i ≤ j → j < i + m → p j = true
  | 0, i => by simp [allF]; intro j h1 h2; omega
  | m + 1, i => by
    simp only [allF, Bool.and_eq_true, allF_iff m (i + 1)]
    constructor
    · rintro ⟨h1, h2⟩ j h3 h4
      rcases Nat.lt_or_ge i j with g | g
      · exact h2 j g (by omega)
      · have : j = i := by omega
        subst this
        exact h1
    · intro h
      exact ⟨h i (Nat.le_refl _) (by omega), fun j h1 h2 => h j (by omega) (by omega)⟩
theorem cntF_le {p : Nat → Bool} : ∀ (m i : Nat), cntF p m i ≤ m
  | 0, _ => Nat.le_refl _
  | m + 1, i => by
    have := cntF_le (p := p) m (i + 1)
    simp only [cntF]
    split <;> omega
theorem cntF_snoc {p : Nat → Bool} : ∀ (m i : Nat), cntF p (m + 1) i = cntF p m i + (if p (i + m) then 1 else 0)
  | 0, i => by simp [cntF]
  | m + 1, i => by
    have h := cntF_snoc (p := p) m (i + 1)
    rw [show cntF p (m + 1 + 1) i = (if p i then 1 else 0) + cntF p (m + 1) (i + 1) from rfl, h, show cntF p (m + 1) i = (if p i then 1 else 0) + cntF p m (i + 1) from rfl, show i + 1 + m = i + (m + 1) by omega]
    omega
/-- less, alike, more -/
def wy (a b : Nat) : Int32 := if a = b then 0 else if b ≤ a then 1 else -1
theorem wayTo_eq {a b : Nat} {S : St} (ha : a < 2 ^ 31) (hb : b < 2 ^ 31) : f_X9_wayTo (nI a) (nI b) S = some (wy a b, S) := by
  unfold f_X9_wayTo wy
  by_cases h : a = b
  · rw [if_pos h, if_pos (by rw [h])]
  · rw [if_neg h, if_neg (fun q => h ((nI_eq ha hb).mp q))]
    by_cases h2 : b ≤ a
    · rw [if_pos h2, if_pos ((nI_leI hb ha).mpr h2)]
    · rw [if_neg h2, if_neg (fun q => h2 ((nI_leI hb ha).mp q))]
theorem sub_toInt {a b : Nat} (ha : a < 2 ^ 30) (hb : b < 2 ^ 30) : (nI a - nI b).toInt = (a : Int) - b := pk_sub_toInt ha hb
theorem i32_le {x y : Int32} : x ≤ y ↔ x.toInt ≤ y.toInt := Int32.le_iff_toInt_le
theorem i32_lt {x y : Int32} : x < y ↔ x.toInt < y.toInt := Int32.lt_iff_toInt_lt
theorem i32_eq {x y : Int32} : x = y ↔ x.toInt = y.toInt := Int32.toInt_inj.symm
theorem signOf_eq {a b : Nat} {S : St} (ha : a < 2 ^ 30) (hb : b < 2 ^ 30) : f_X10_signOf (nI a - nI b) S = some (wy a b, S) := by
  have h0 := sub_toInt ha hb
  have z : (0 : Int32).toInt = 0 := rfl
  unfold f_X10_signOf wy
  simp only [i32_le, h0, z]
  by_cases h : a = b
  · rw [if_pos (by omega), if_pos (by omega), if_pos h]
  · rw [if_neg h]
    by_cases h2 : b ≤ a
    · rw [if_pos (by omega), if_neg (by omega), if_pos h2]
    · rw [if_neg (by omega), if_neg h2]
theorem within_eq {x a b : Int32} {S : St} : f_X9_isWithin x a b S = some (if a ≤ x ∧ x ≤ b then 1 else 0, S) := by
  unfold f_X9_isWithin
  simp only [i32_le, i32_lt]
  by_cases h1 : x.toInt < a.toInt
  · rw [if_pos h1, if_neg (by omega)]
  · rw [if_neg h1]
    by_cases h2 : b.toInt < x.toInt
    · rw [if_pos h2, if_neg (by omega)]
    · rw [if_neg h2, if_pos (by omega)]
theorem in_eq {x a b : Int32} {S : St} : f_X10_in x a b S = some (if a ≤ x ∧ x ≤ b then 1 else 0, S) := by
  unfold f_X10_in
  simp only [i32_le, i32_lt]
  by_cases h1 : x.toInt < a.toInt
  · rw [if_pos h1, if_neg (by omega)]
  · rw [if_neg h1]
    by_cases h2 : b.toInt < x.toInt
    · rw [if_pos h2, if_neg (by omega)]
    · rw [if_neg h2, if_pos (by omega)]
theorem gb_ite {c : Prop} [Decidable c] : gb (if c then 1 else 0) = some (if c then 1 else 0) := by
  unfold gb
  split <;> simp
theorem near_eq {x : Int32} {S : St} : f_X10_isNear x S = some (if 0 ≤ x ∧ x ≤ 9 then 1 else 0, S) := by
  unfold f_X10_isNear
  rw [in_eq, bd_some, gb_ite]
  rfl
theorem lit_nI (n : Nat) [OfNat Int32 n] (h : (OfNat.ofNat n : Int32) = nI n) : (OfNat.ofNat n : Int32) = nI n := h
theorem div10 {a : Nat} (ha : a < 2 ^ 31) : nI a / (10 : Int32) = nI (a / 10) := pk_div (d := 10) ha (by decide) (by decide)
theorem mod10 {a : Nat} (ha : a < 2 ^ 31) : nI a - nI a / (10 : Int32) * (10 : Int32) = nI (a % 10) := pk_rem (d := 10) ha (by decide) (by decide)
theorem ite10 {c : Prop} [Decidable c] : ((if c then (1 : Int32) else 0) = 0) ↔ ¬ c := by
  split <;> simp_all

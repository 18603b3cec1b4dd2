/-! swims and months: what they keep -/
section MO2
variable {b : Bk} {s s' : ASea} {p m : Nat} {sd : Option Int32}
theorem swimA_row {k : Nat} (hm : m < 4) (hk : 16 ≤ k) : aR (swimA s m) k = aR s k := by
  unfold swimA
  split
  · rfl
  · show (if k = m then _ else if k = 8 + m then _ else if k = 4 + m then _ else if k = 12 + m then _ else aR s k) = _
    rw [if_neg (by omega), if_neg (by omega), if_neg (by omega), if_neg (by omega)]
theorem swimA_2 : (swimA s m).2 = s.2 := by unfold swimA; split <;> rfl
theorem swimA_cong (h : ∀ k, k < 16 → aR s k = aR s' k) (hd : aD s = aD s') (hm : m < 4) {k : Nat} (hk : k < 16) : aR (swimA s m) k = aR (swimA s' m) k := by
  unfold swimA
  rw [hd]
  split
  · exact h k hk
  · show (if k = m then _ else if k = 8 + m then _ else if k = 4 + m then _ else if k = 12 + m then _ else aR s k) = (if k = m then _ else if k = 8 + m then _ else if k = 4 + m then _ else if k = 12 + m then _ else aR s' k)
    rw [h m (by omega), h (8 + m) (by omega), h (4 + m) (by omega), h (12 + m) (by omega), h k hk]
theorem swim_sim (hm : m < 4) (h : sim p s s') : sim p (swimA s m) (swimA s' m) := by
  have e1 : ∀ t : ASea, ∀ e, wornA (swimA t m) e p = wornA t e p := fun t e => by
    unfold wornA
    rw [swimA_row hm (by omega)]
    show (_ && !((swimA t m).2.2.2.2).testBit e) = _
    rw [swimA_2]
  refine ⟨fun k hk => swimA_cong h.1 h.2.2.1 hm hk, ?_, ?_, ?_, fun e he => ?_, ?_, ?_⟩
  · show (swimA s m).2.1 = (swimA s' m).2.1
    rw [swimA_2, swimA_2]; exact h.2.1
  · show (swimA s m).2.2.2.1 = (swimA s' m).2.2.2.1
    rw [swimA_2, swimA_2]; exact h.2.2.1
  · show ((swimA s m).2.2.1).testBit p = ((swimA s' m).2.2.1).testBit p
    rw [swimA_2, swimA_2]; exact h.2.2.2.1
  · rw [e1, e1]; exact h.2.2.2.2.1 e he
  · rw [swimA_row hm (by omega), swimA_row hm (by omega)]; exact h.2.2.2.2.2.1
  · rw [swimA_row hm (by omega), swimA_row hm (by omega)]; exact h.2.2.2.2.2.2
theorem swimAll_2 : ∀ n, (swimAll s n).2 = s.2
  | 0 => rfl
  | n + 1 => swimA_2.trans (swimAll_2 n)
theorem swimAll_row {k : Nat} (hk : 16 ≤ k) : ∀ n, n ≤ 4 → aR (swimAll s n) k = aR s k
  | 0, _ => rfl
  | n + 1, h => (swimA_row (by omega) hk).trans (swimAll_row hk n (by omega))
theorem swimAll_sim (h : sim p s s') : ∀ n, n ≤ 4 → sim p (swimAll s n) (swimAll s' n)
  | 0, _ => h
  | n + 1, hn => swim_sim (by omega) (swimAll_sim h n (by omega))
theorem goM_M {lo : Nat} : ∀ n, aM (goM b sd s lo n) = aM s
  | 0 => rfl
  | n + 1 => goP_M.trans (goM_M n)
theorem goM_D {lo : Nat} : ∀ n, aD (goM b sd s lo n) = aD s
  | 0 => rfl
  | n + 1 => goP_D.trans (goM_D n)
theorem goM_C {lo : Nat} : ∀ n, aC (goM b sd s lo n) = aC s
  | 0 => rfl
  | n + 1 => goP_C.trans (goM_C n)
theorem month_sim0 {lo lo' n n' : Nat} (hb : wfB b) (hM : aM s = aM s') (h : sim p (goM b sd s lo n) (goM b sd s' lo' n')) : sim p (monthA b sd lo n s) (monthA b sd lo' n' s') := by
  have h1 := swimAll_sim h (bM b) hb.m4
  refine ⟨h1.1, ?_, h1.2.2.1, h1.2.2.2.1, h1.2.2.2.2.1, h1.2.2.2.2.2.1, h1.2.2.2.2.2.2⟩
  show aM s + 1 = aM s' + 1
  rw [hM]
theorem month_sim {lo lo' n n' : Nat} (hb : wfB b) (hp : p < 6) (h : sim p s s') (h1 : lo + n ≤ 6) (h2 : lo' + n' ≤ 6) (h3 : lo ≤ p) (h4 : p < lo + n) (h5 : lo' ≤ p) (h6 : p < lo' + n') : sim p (monthA b sd lo n s) (monthA b sd lo' n' s') := month_sim0 hb h.2.1 (goM_in hb hp h n n' h1 h2 h3 h4 h5 h6)
/-! well-formed it stays -/
theorem goneI_9 {x f st : Int32} (h : In9 x) : In9 (goneI x f st) := by
  unfold goneI
  split
  · exact h
  · have hw : ∀ v : Int32, In9 (mxI 0 (mnI 9 v)) := by
      intro v
      have e0 : (0 : Int32).toInt = 0 := rfl
      have e9 : (9 : Int32).toInt = 9 := rfl
      unfold mxI mnI
      simp only [i32_lt]
      by_cases h1 : v.toInt < (9 : Int32).toInt
      · rw [if_pos h1]
        by_cases h2 : (0 : Int32).toInt < v.toInt
        · rw [if_pos h2]
          refine ⟨v.toInt.toNat, by omega, ?_⟩
          rw [i32_eq, nI_toInt (by omega)]
          omega
        · rw [if_neg h2]
          exact ⟨0, by decide, rfl⟩
      · rw [if_neg h1, if_pos (by decide)]
        exact ⟨9, by decide, rfl⟩
    exact hw _
theorem sw1_wf : ∀ i : Nat, i < 10 → ∀ j : Nat, j < 7 → (∃ i' : Nat, i' < 10 ∧ (sw1 (nI i) (nI j - 3)).1 = nI i') ∧ (∃ j' : Nat, j' < 7 ∧ (sw1 (nI i) (nI j - 3)).2 = nI j' - 3) := by decide +kernel
theorem sw1_9 {x st : Int32} (hx : In9 x) (hs : In3 st) : In9 (sw1 x st).1 ∧ In3 (sw1 x st).2 := by
  obtain ⟨i, hi, rfl⟩ := hx
  obtain ⟨j, hj, rfl⟩ := hs
  exact sw1_wf i hi j hj
theorem goP_wfS (h : wfS s) (hp : p < 6) : wfS (goP b sd s p) := by
  refine ⟨by rw [goP_M]; exact h.1, ?_, by rw [goP_D]; exact h.2.2.1, by rw [goP_C]; exact h.2.2.2⟩
  unfold goP
  split
  · exact h.2.1
  · show (if _ then _ else _ : Nat) < 64
    split
    · exact or64 h.2.1 hp
    · exact h.2.1
theorem goP_wfP (hb : wfB b) (h : wfP (bM b) (bP b) (bS b) s) (hp : p < bP b) : wfP (bM b) (bP b) (bS b) (goP b sd s p) := by
  have h4 := hb.m4
  have h6 := hb.p6
  refine ⟨fun m hm => ?_, fun q hq => ?_, fun e he => ?_⟩
  · rw [goP_row (by omega) (by omega), goP_row (by omega) (by omega), goP_row (by omega) (by omega), goP_row (by omega) (by omega)]
    exact h.1 m hm
  · by_cases e : q = p
    · subst e
      unfold goP
      split
      · exact h.2.1 q hq
      · refine ⟨?_, ?_⟩
        · show In9 (if 16 + q = 22 + q then _ else if 16 + q = 16 + q then gX b s q else _)
          rw [if_neg (show ¬ 16 + q = 22 + q by omega), if_pos rfl]
          exact goneI_9 (h.2.1 q hq).1
        · show In9 (if 22 + q = 22 + q then gY b s q else _)
          rw [if_pos rfl]
          exact goneI_9 (h.2.1 q hq).2
    · rw [goP_row (by omega) (by omega), goP_row (by omega) (by omega)]
      exact h.2.1 q hq
  · rw [goP_row (by omega) (by omega)]
    exact h.2.2 e he
theorem goM_wf (hb : wfB b) {lo : Nat} (h : wfS s) (h' : wfP (bM b) (bP b) (bS b) s) : ∀ n, lo + n ≤ bP b → wfS (goM b sd s lo n) ∧ wfP (bM b) (bP b) (bS b) (goM b sd s lo n)
  | 0, _ => ⟨h, h'⟩
  | n + 1, hn => by
    obtain ⟨h1, h2⟩ := goM_wf (lo := lo) hb h h' n (by omega)
    exact ⟨goP_wfS h1 (by have := hb.p6; omega), goP_wfP hb h2 (by omega)⟩
theorem swimA_wfS (h : wfS s) : wfS (swimA s m) := by
  unfold wfS at *
  show (swimA s m).2.1 ≤ 40000 ∧ (swimA s m).2.2.1 < 64 ∧ (swimA s m).2.2.2.1 < 16 ∧ (swimA s m).2.2.2.2 < 256
  rw [swimA_2]
  exact h
theorem swimA_wfP (hb : wfB b) (h : wfP (bM b) (bP b) (bS b) s) (hm : m < bM b) : wfP (bM b) (bP b) (bS b) (swimA s m) := by
  have h4 := hb.m4
  refine ⟨fun q hq => ?_, fun q hq => ?_, fun e he => ?_⟩
  · unfold swimA
    split
    · exact h.1 q hq
    · obtain ⟨a1, a2, a3, a4⟩ := h.1 m hm
      have s1 := sw1_9 a1 a3
      have s2 := sw1_9 a2 a4
      by_cases e : q = m
      · subst e
        show In9 (if q = q then _ else _) ∧ In9 (if 4 + q = q then _ else if 4 + q = 8 + q then _ else if 4 + q = 4 + q then _ else _) ∧ In3 (if 8 + q = q then _ else if 8 + q = 8 + q then _ else _) ∧ In3 (if 12 + q = q then _ else if 12 + q = 8 + q then _ else if 12 + q = 4 + q then _ else if 12 + q = 12 + q then _ else _)
        rw [if_pos rfl, if_neg (show ¬ 4 + q = q by omega), if_neg (show ¬ 4 + q = 8 + q by omega), if_pos rfl, if_neg (show ¬ 8 + q = q by omega), if_pos rfl, if_neg (show ¬ 12 + q = q by omega), if_neg (show ¬ 12 + q = 8 + q by omega), if_neg (show ¬ 12 + q = 4 + q by omega), if_pos rfl]
        exact ⟨s1.1, s2.1, s1.2, s2.2⟩
      · have hr : ∀ k, k ≠ m → k ≠ 8 + m → k ≠ 4 + m → k ≠ 12 + m → aR (swimN s m) k = aR s k := fun k h1 h2 h3 h4 => by
          show (if k = m then _ else if k = 8 + m then _ else if k = 4 + m then _ else if k = 12 + m then _ else aR s k) = _
          rw [if_neg h1, if_neg h2, if_neg h3, if_neg h4]
        rw [hr q (by omega) (by omega) (by omega) (by omega), hr (4 + q) (by omega) (by omega) (by omega) (by omega), hr (8 + q) (by omega) (by omega) (by omega) (by omega), hr (12 + q) (by omega) (by omega) (by omega) (by omega)]
        exact h.1 q hq
  · rw [swimA_row (by omega) (by omega), swimA_row (by omega) (by omega)]
    exact h.2.1 q hq
  · rw [swimA_row (by omega) (by omega)]
    exact h.2.2 e he
theorem swimAll_wf (hb : wfB b) (h : wfS s) (h' : wfP (bM b) (bP b) (bS b) s) : ∀ n, n ≤ bM b → wfS (swimAll s n) ∧ wfP (bM b) (bP b) (bS b) (swimAll s n)
  | 0, _ => ⟨h, h'⟩
  | n + 1, hn => by
    obtain ⟨h1, h2⟩ := swimAll_wf hb h h' n (by omega)
    exact ⟨swimA_wfS h1, swimA_wfP hb h2 (by omega)⟩
theorem month_wf (hb : wfB b) {lo n : Nat} (h : wfS s) (hM : aM s + 1 ≤ 40000) (h' : wfP (bM b) (bP b) (bS b) s) (hn : lo + n ≤ bP b) : wfS (monthA b sd lo n s) ∧ wfP (bM b) (bP b) (bS b) (monthA b sd lo n s) := by
  obtain ⟨h1, h2⟩ := goM_wf (sd := sd) hb h h' n hn
  obtain ⟨h3, h4⟩ := swimAll_wf hb h1 h2 (bM b) (Nat.le_refl _)
  exact ⟨⟨hM, h3.2⟩, h4⟩
theorem month_M {lo n : Nat} : aM (monthA b sd lo n s) = aM s + 1 := rfl
end MO2

/-! what is read can be reckoned -/
section WFD
variable {kd vl : Nat → Nat}
def wfE (c : List Nat) (d : Nat) : Prop := ∀ rest, wfd rest (d + 1) → wfd (c ++ rest) d
def GPr (r : PR) (t D : Nat) : Prop := ∀ t2 c, r = .inr (t2, c) → t < t2 ∧ t2 ≤ 400 ∧ c.length ≤ t2 - t ∧ ∀ d, d ≤ D → wfE c d
theorem wfE_push {c d : Nat} (ho : okT c) (hc : c < 20000) (hd : d < 15) : wfE [c] d := fun rest h => by
  show okT c ∧ if c < 20000 then d < 15 ∧ wfd rest (d + 1) else _
  rw [if_pos hc]
  exact ⟨ho, hd, h⟩
theorem wfE_op {c c2 : List Nat} {x d : Nat} (ho : okT x) (hx : ¬ x < 20000) (h1 : wfE c d) (h2 : wfE c2 (d + 1)) : wfE (c ++ c2 ++ [x]) d := fun rest h => by
  rw [List.append_assoc, List.append_assoc]
  refine h1 _ (h2 _ ?_)
  show okT x ∧ if x < 20000 then _ else 2 ≤ d + 1 + 1 ∧ wfd rest (d + 1 + 1 - 1)
  rw [if_neg hx]
  exact ⟨ho, by omega, h⟩
theorem unit_gp (hv : ∀ t, kd t = 22 → vl t < 10000) {rs : Nat → Nat → PR} {w : Nat} (hs : ∀ t, t ≤ 400 → w < 6 → GPr (rs (w + 1) t) t (2 * (w + 1))) (hw : w ≤ 6) {t : Nat} (ht : t ≤ 400) : GPr (unitR kd vl rs w t) t (2 * w + 2) := by
  intro t2 c e
  unfold unitR at e
  by_cases c1 : kd t = 22
  · rw [if_pos c1] at e
    by_cases c2 : t < 400
    · rw [if_pos c2] at e
      injection e with e; injection e with e1 e2
      subst e1; subst e2
      refine ⟨by omega, by omega, by simp, fun d hd => wfE_push ?_ (by have := hv t c1; omega) (by omega)⟩
      have := hv t c1
      unfold okT
      omega
    · rw [if_neg c2] at e; cases e
  · rw [if_neg c1] at e
    by_cases c2 : 12 ≤ kd t ∧ kd t ≤ 20
    · rw [if_pos c2] at e
      by_cases c3 : t < 400
      · rw [if_pos c3] at e
        injection e with e; injection e with e1 e2
        subst e1; subst e2
        refine ⟨by omega, by omega, by simp, fun d hd => wfE_push ?_ (by omega) (by omega)⟩
        unfold okT
        omega
      · rw [if_neg c3] at e; cases e
    · rw [if_neg c2] at e
      by_cases c3 : kd t = 40
      · rw [if_pos c3] at e
        by_cases c4 : w < 6
        · rw [if_pos c4] at e
          by_cases c5 : t < 400
          · rw [if_pos c5] at e
            have h1 := hs (t + 1) (by omega) c4
            cases hr : rs (w + 1) (t + 1) with
            | inl q => rw [hr] at e; cases e
            | inr tc =>
              obtain ⟨t3, c'⟩ := tc
              obtain ⟨a1, a2, a3, a4⟩ := h1 t3 c' hr
              rw [hr] at e
              have e : (if kd t3 = 41 then (if t3 < 400 then (Sum.inr (t3 + 1, c') : PR) else .inl (2, t3)) else .inl (1, t3)) = .inr (t2, c) := e
              by_cases c6 : kd t3 = 41
              · rw [if_pos c6] at e
                by_cases c7 : t3 < 400
                · rw [if_pos c7] at e
                  injection e with e; injection e with e1 e2
                  subst e1; subst e2
                  exact ⟨by omega, by omega, by omega, fun d hd => a4 d (by omega)⟩
                · rw [if_neg c7] at e; cases e
              · rw [if_neg c6] at e; cases e
          · rw [if_neg c5] at e; cases e
        · rw [if_neg c4] at e; cases e
      · rw [if_neg c3] at e; cases e
theorem prodL_gp (hv : ∀ t, kd t = 22 → vl t < 10000) {rs : Nat → Nat → PR} {w : Nat} (hs : ∀ t, t ≤ 400 → w < 6 → GPr (rs (w + 1) t) t (2 * (w + 1))) (hw : w ≤ 6) {t : Nat} : ∀ (n u : Nat) (c : List Nat), t < u → u ≤ 400 → c.length ≤ u - t → (∀ d, d ≤ 2 * w + 1 → wfE c d) → GPr (prodL kd vl rs w n u c) t (2 * w + 1) := by
  intro n
  induction n with
  | zero => intro u c h1 h2 h3 h4 t2 c2 e; cases e
  | succ n ih =>
    intro u c h1 h2 h3 h4
    unfold prodL
    by_cases c1 : kd u = 42 ∨ kd u = 47
    · rw [if_pos c1]
      by_cases c2 : u < 400
      · rw [if_pos c2]
        have h5 := unit_gp hv hs hw (t := u + 1) (by omega)
        cases hr : unitR kd vl rs w (u + 1) with
        | inl q => intro t2 c2 e; cases e
        | inr tc =>
          obtain ⟨t3, c3⟩ := tc
          obtain ⟨a1, a2, a3, a4⟩ := h5 t3 c3 hr
          refine ih t3 _ (by omega) a2 (by simp only [List.length_append, List.length_singleton]; omega) (fun d hd => wfE_op ?_ (by omega) (h4 d hd) (a4 (d + 1) (by omega)))
          unfold okT
          omega
      · rw [if_neg c2]
        intro t2 c2 e; cases e
    · rw [if_neg c1]
      intro t2 c2 e
      injection e with e; injection e with e1 e2
      subst e1; subst e2
      exact ⟨h1, h2, h3, h4⟩
theorem prod_gp (hv : ∀ t, kd t = 22 → vl t < 10000) {rs : Nat → Nat → PR} {w : Nat} (hs : ∀ t, t ≤ 400 → w < 6 → GPr (rs (w + 1) t) t (2 * (w + 1))) (hw : w ≤ 6) {t : Nat} (ht : t ≤ 400) : GPr (prodR kd vl rs w t) t (2 * w + 1) := by
  unfold prodR
  have h5 := unit_gp hv hs hw ht
  cases hr : unitR kd vl rs w t with
  | inl q => intro t2 c2 e; cases e
  | inr tc =>
    obtain ⟨t3, c3⟩ := tc
    obtain ⟨a1, a2, a3, a4⟩ := h5 t3 c3 hr
    exact prodL_gp hv hs hw 401 t3 c3 a1 a2 a3 (fun d hd => a4 d (by omega))
theorem sumL_gp (hv : ∀ t, kd t = 22 → vl t < 10000) {rs : Nat → Nat → PR} {w : Nat} (hs : ∀ t, t ≤ 400 → w < 6 → GPr (rs (w + 1) t) t (2 * (w + 1))) (hw : w ≤ 6) {t : Nat} : ∀ (n u : Nat) (c : List Nat), t < u → u ≤ 400 → c.length ≤ u - t → (∀ d, d ≤ 2 * w → wfE c d) → GPr (sumL kd vl rs w n u c) t (2 * w) := by
  intro n
  induction n with
  | zero => intro u c h1 h2 h3 h4 t2 c2 e; cases e
  | succ n ih =>
    intro u c h1 h2 h3 h4
    unfold sumL
    by_cases c1 : kd u = 43 ∨ kd u = 45
    · rw [if_pos c1]
      by_cases c2 : u < 400
      · rw [if_pos c2]
        have h5 := prod_gp hv hs hw (t := u + 1) (by omega)
        cases hr : prodR kd vl rs w (u + 1) with
        | inl q => intro t2 c2 e; cases e
        | inr tc =>
          obtain ⟨t3, c3⟩ := tc
          obtain ⟨a1, a2, a3, a4⟩ := h5 t3 c3 hr
          refine ih t3 _ (by omega) a2 (by simp only [List.length_append, List.length_singleton]; omega) (fun d hd => wfE_op ?_ (by omega) (h4 d hd) (a4 (d + 1) (by omega)))
          unfold okT
          omega
      · rw [if_neg c2]
        intro t2 c2 e; cases e
    · rw [if_neg c1]
      intro t2 c2 e
      injection e with e; injection e with e1 e2
      subst e1; subst e2
      exact ⟨h1, h2, h3, h4⟩
theorem sum_gp (hv : ∀ t, kd t = 22 → vl t < 10000) : ∀ (n w : Nat), w ≤ 6 → ∀ t, t ≤ 400 → GPr (sumR kd vl n w t) t (2 * w)
  | 0, w, _, t, _ => fun t2 c e => by cases e
  | n + 1, w, hw, t, ht => by
    have hs : ∀ t, t ≤ 400 → w < 6 → GPr (sumR kd vl n (w + 1) t) t (2 * (w + 1)) := fun t ht h => sum_gp hv n (w + 1) (by omega) t ht
    show GPr (sumR1 kd vl (sumR kd vl n) w t) t (2 * w)
    unfold sumR1
    have h5 := prod_gp hv hs hw ht
    cases hr : prodR kd vl (sumR kd vl n) w t with
    | inl q => intro t2 c2 e; cases e
    | inr tc =>
      obtain ⟨t3, c3⟩ := tc
      obtain ⟨a1, a2, a3, a4⟩ := h5 t3 c3 hr
      exact sumL_gp hv hs hw 401 t3 c3 a1 a2 a3 (fun d hd => a4 d (by omega))
/-- a whole sum can be reckoned -/
theorem sum_wfd (hv : ∀ t, kd t = 22 → vl t < 10000) {t t2 : Nat} {c : List Nat} (ht : t ≤ 400) (h : sumR kd vl 9 0 t = .inr (t2, c)) : t < t2 ∧ t2 ≤ 400 ∧ c.length ≤ t2 - t ∧ wfd c 0 := by
  obtain ⟨a1, a2, a3, a4⟩ := sum_gp hv 9 0 (by decide) t ht t2 c h
  refine ⟨a1, a2, a3, ?_⟩
  have := a4 0 (Nat.le_refl _) [] rfl
  rw [List.append_nil] at this
  exact this
end WFD

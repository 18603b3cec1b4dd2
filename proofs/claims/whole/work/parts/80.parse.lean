/-! how a sum is read, in the abstract: as the class does it, and by a pile of waiting signs -/
abbrev PR : Type := (Nat × Nat) ⊕ (Nat × List Nat)
section PRS
variable (kd vl : Nat → Nat)
def unitR (rs : Nat → Nat → PR) (w t : Nat) : PR :=
  if kd t = 22 then (if t < 400 then .inr (t + 1, [vl t]) else .inl (2, t))
  else if 12 ≤ kd t ∧ kd t ≤ 20 then (if t < 400 then .inr (t + 1, [10000 + kd t - 12]) else .inl (2, t))
  else if kd t = 40 then (if w < 6 then (if t < 400 then (match rs (w + 1) (t + 1) with
    | .inl e => .inl e
    | .inr (t2, c) => if kd t2 = 41 then (if t2 < 400 then .inr (t2 + 1, c) else .inl (2, t2)) else .inl (1, t2)) else .inl (2, t)) else .inl (2, t))
  else .inl (1, t)
def prodL (rs : Nat → Nat → PR) (w : Nat) : Nat → Nat → List Nat → PR
  | 0, t, _ => .inl (9, t)
  | n + 1, t, c => if kd t = 42 ∨ kd t = 47 then (if t < 400 then (match unitR kd vl rs w (t + 1) with
    | .inl e => .inl e
    | .inr (t2, c2) => prodL rs w n t2 (c ++ c2 ++ [20000 + kd t])) else .inl (2, t)) else .inr (t, c)
def prodR (rs : Nat → Nat → PR) (w t : Nat) : PR := match unitR kd vl rs w t with
  | .inl e => .inl e
  | .inr (t1, c1) => prodL kd vl rs w 401 t1 c1
def sumL (rs : Nat → Nat → PR) (w : Nat) : Nat → Nat → List Nat → PR
  | 0, t, _ => .inl (9, t)
  | n + 1, t, c => if kd t = 43 ∨ kd t = 45 then (if t < 400 then (match prodR kd vl rs w (t + 1) with
    | .inl e => .inl e
    | .inr (t2, c2) => sumL rs w n t2 (c ++ c2 ++ [20000 + kd t])) else .inl (2, t)) else .inr (t, c)
def sumR1 (rs : Nat → Nat → PR) (w t : Nat) : PR := match prodR kd vl rs w t with
  | .inl e => .inl e
  | .inr (t1, c1) => sumL kd vl rs w 401 t1 c1
def sumR : Nat → Nat → Nat → PR
  | 0, _, t => .inl (9, t)
  | n + 1, w, t => sumR1 kd vl (sumR n) w t
/-! the pile -/
def opn (p : List Nat) : Nat := p.count 40
def popA : List Nat → List Nat × List Nat
  | [] => ([], [])
  | x :: xs => if x = 40 then ([], x :: xs) else ((20000 + x) :: (popA xs).1, (popA xs).2)
def popS : List Nat → List Nat × List Nat
  | [] => ([], [])
  | x :: xs => if x = 42 ∨ x = 47 then ((20000 + x) :: (popS xs).1, (popS xs).2) else ([], x :: xs)
def sy : Nat → Bool → Nat → List Nat → List Nat → PR
  | 0, _, t, _, _ => .inl (9, t)
  | n + 1, true, t, p, o => if kd t = 40 then (if opn p = 6 then .inl (2, t) else if t < 400 then sy n true (t + 1) (40 :: p) o else .inl (2, t))
    else if kd t = 22 then (if t < 400 then sy n false (t + 1) p (o ++ [vl t]) else .inl (2, t))
    else if 12 ≤ kd t ∧ kd t ≤ 20 then (if t < 400 then sy n false (t + 1) p (o ++ [10000 + kd t - 12]) else .inl (2, t))
    else .inl (1, t)
  | n + 1, false, t, p, o => if kd t = 41 ∧ 0 < opn p then (if t < 400 then sy n false (t + 1) (popA p).2.tail (o ++ (popA p).1) else .inl (2, t))
    else if kd t = 42 ∨ kd t = 47 then (if t < 400 then sy n true (t + 1) (kd t :: (popS p).2) (o ++ (popS p).1) else .inl (2, t))
    else if kd t = 43 ∨ kd t = 45 then (if t < 400 then sy n true (t + 1) (kd t :: (popA p).2) (o ++ (popA p).1) else .inl (2, t))
    else if 0 < opn p then .inl (1, t) else .inr (t, o ++ (popA p).1)
def syT (b : Bool) (t : Nat) (p o : List Nat) : PR := sy kd vl (402 - t) b t p o
end PRS
section PRS2
variable {kd vl : Nat → Nat}
theorem syA {t : Nat} (ht : t ≤ 400) {p o : List Nat} : syT kd vl true t p o = if kd t = 40 then (if opn p = 6 then .inl (2, t) else if t < 400 then syT kd vl true (t + 1) (40 :: p) o else .inl (2, t)) else if kd t = 22 then (if t < 400 then syT kd vl false (t + 1) p (o ++ [vl t]) else .inl (2, t)) else if 12 ≤ kd t ∧ kd t ≤ 20 then (if t < 400 then syT kd vl false (t + 1) p (o ++ [10000 + kd t - 12]) else .inl (2, t)) else .inl (1, t) := by
  unfold syT
  rw [show 402 - t = (402 - (t + 1)) + 1 by omega]
  rfl
theorem syB {t : Nat} (ht : t ≤ 400) {p o : List Nat} : syT kd vl false t p o = if kd t = 41 ∧ 0 < opn p then (if t < 400 then syT kd vl false (t + 1) (popA p).2.tail (o ++ (popA p).1) else .inl (2, t)) else if kd t = 42 ∨ kd t = 47 then (if t < 400 then syT kd vl true (t + 1) (kd t :: (popS p).2) (o ++ (popS p).1) else .inl (2, t)) else if kd t = 43 ∨ kd t = 45 then (if t < 400 then syT kd vl true (t + 1) (kd t :: (popA p).2) (o ++ (popA p).1) else .inl (2, t)) else if 0 < opn p then .inl (1, t) else .inr (t, o ++ (popA p).1) := by
  unfold syT
  rw [show 402 - t = (402 - (t + 1)) + 1 by omega]
  rfl
theorem opn_c {x : Nat} {p : List Nat} (h : x ≠ 40) : opn (x :: p) = opn p := by
  unfold opn
  rw [List.count_cons]
  simp [h]
theorem opn_o {p : List Nat} : opn (40 :: p) = opn p + 1 := by
  unfold opn
  rw [List.count_cons]
  simp
/-- a strong sign comes out first -/
theorem syB_s {t : Nat} (ht : t ≤ 400) {x : Nat} {p o : List Nat} (hx : x = 42 ∨ x = 47) : syT kd vl false t (x :: p) o = syT kd vl false t p (o ++ [20000 + x]) := by
  have hx4 : x ≠ 40 := by omega
  have e1 : popA (x :: p) = ((20000 + x) :: (popA p).1, (popA p).2) := by show (if x = 40 then _ else _) = _; rw [if_neg hx4]
  have e2 : popS (x :: p) = ((20000 + x) :: (popS p).1, (popS p).2) := by show (if x = 42 ∨ x = 47 then _ else _) = _; rw [if_pos hx]
  rw [syB ht, syB ht, opn_c hx4, e1, e2]
  simp only [List.append_assoc, List.singleton_append, List.cons_append, List.nil_append]
/-- a weak one too, but ahead of a strong one -/
theorem syB_w {t : Nat} (ht : t ≤ 400) {x : Nat} {p o : List Nat} (hx : x = 43 ∨ x = 45) (hn : ¬ (kd t = 42 ∨ kd t = 47)) : syT kd vl false t (x :: p) o = syT kd vl false t p (o ++ [20000 + x]) := by
  have hx4 : x ≠ 40 := by omega
  have e1 : popA (x :: p) = ((20000 + x) :: (popA p).1, (popA p).2) := by show (if x = 40 then _ else _) = _; rw [if_neg hx4]
  rw [syB ht, syB ht, opn_c hx4, e1, if_neg hn, if_neg hn]
  simp only [List.append_assoc, List.singleton_append, List.cons_append, List.nil_append]
/-- what a reading ends with, and that the pile does so too -/
def OKp (kd vl : Nat → Nat) (r : PR) (t : Nat) (p o : List Nat) (Q : Nat → Prop) : Prop := match r with
  | .inl e => syT kd vl true t p o = .inl e
  | .inr (t2, c) => t < t2 ∧ t2 ≤ 400 ∧ Q t2 ∧ syT kd vl true t p o = syT kd vl false t2 p (o ++ c)
def nst (p : List Nat) : Prop := ∀ x xs, p = x :: xs → ¬ (x = 42 ∨ x = 47)
def nop (p : List Nat) : Prop := p = [] ∨ ∃ xs, p = 40 :: xs
def SOK (kd vl : Nat → Nat) (rs : Nat → Nat → PR) (w : Nat) : Prop := ∀ t p o, t ≤ 400 → nop p → opn p = w → OKp kd vl (rs w t) t p o (fun u => ¬ (kd u = 42 ∨ kd u = 47) ∧ ¬ (kd u = 43 ∨ kd u = 45))
theorem unit_ok {rs : Nat → Nat → PR} {w : Nat} (hs : w < 6 → SOK kd vl rs (w + 1)) (hw : w ≤ 6) {t : Nat} {p o : List Nat} (ht : t ≤ 400) (hp : opn p = w) : OKp kd vl (unitR kd vl rs w t) t p o (fun _ => True) := by
  unfold unitR
  by_cases c1 : kd t = 22
  · rw [if_pos c1]
    have hs0 := syA (kd := kd) (vl := vl) ht (p := p) (o := o)
    rw [if_neg (show ¬ kd t = 40 by omega), if_pos c1] at hs0
    by_cases c2 : t < 400
    · rw [if_pos c2] at hs0 ⊢
      exact ⟨by omega, by omega, trivial, hs0⟩
    · rw [if_neg c2] at hs0 ⊢
      exact hs0
  · rw [if_neg c1]
    by_cases c2 : 12 ≤ kd t ∧ kd t ≤ 20
    · rw [if_pos c2]
      have hs0 := syA (kd := kd) (vl := vl) ht (p := p) (o := o)
      rw [if_neg (show ¬ kd t = 40 by omega), if_neg c1, if_pos c2] at hs0
      by_cases c3 : t < 400
      · rw [if_pos c3] at hs0 ⊢
        exact ⟨by omega, by omega, trivial, hs0⟩
      · rw [if_neg c3] at hs0 ⊢
        exact hs0
    · rw [if_neg c2]
      by_cases c3 : kd t = 40
      · have hs0 := syA (kd := kd) (vl := vl) ht (p := p) (o := o)
        rw [if_pos c3] at hs0
        rw [if_pos c3]
        by_cases c4 : w < 6
        · rw [if_neg (show ¬ opn p = 6 by omega)] at hs0
          rw [if_pos c4]
          by_cases c5 : t < 400
          · rw [if_pos c5] at hs0 ⊢
            have h1 := hs c4 (t + 1) (40 :: p) o (by omega) (Or.inr ⟨p, rfl⟩) (by rw [opn_o, hp])
            cases hr : rs (w + 1) (t + 1) with
            | inl e =>
              rw [hr] at h1
              exact hs0.trans h1
            | inr tc =>
              obtain ⟨t2, c⟩ := tc
              rw [hr] at h1
              obtain ⟨a1, a2, ⟨a3, a4⟩, a5⟩ := h1
              have h2 := syB (kd := kd) (vl := vl) a2 (p := 40 :: p) (o := o ++ c)
              have e1 : popA (40 :: p) = ([], 40 :: p) := rfl
              rw [opn_o, if_neg a3, if_neg a4, if_pos (show 0 < opn p + 1 by omega), e1, List.append_nil] at h2
              show OKp kd vl (if kd t2 = 41 then (if t2 < 400 then .inr (t2 + 1, c) else .inl (2, t2)) else .inl (1, t2)) t p o (fun _ => True)
              by_cases c6 : kd t2 = 41
              · rw [if_pos c6]
                rw [if_pos (show kd t2 = 41 ∧ 0 < opn p + 1 from ⟨c6, by omega⟩)] at h2
                by_cases c7 : t2 < 400
                · rw [if_pos c7] at h2 ⊢
                  exact ⟨by omega, by omega, trivial, hs0.trans (a5.trans h2)⟩
                · rw [if_neg c7] at h2 ⊢
                  exact hs0.trans (a5.trans h2)
              · rw [if_neg c6]
                rw [if_neg (fun q => c6 q.1)] at h2
                exact hs0.trans (a5.trans h2)
          · rw [if_neg c5] at hs0 ⊢
            exact hs0
        · rw [if_pos (show opn p = 6 by omega)] at hs0
          rw [if_neg c4]
          exact hs0
      · have hs0 := syA (kd := kd) (vl := vl) ht (p := p) (o := o)
        rw [if_neg c3, if_neg c1, if_neg c2] at hs0
        rw [if_neg c3]
        exact hs0
theorem prodL_ok {rs : Nat → Nat → PR} {w : Nat} (hs : w < 6 → SOK kd vl rs (w + 1)) (hw : w ≤ 6) {t : Nat} {p o : List Nat} (hp : opn p = w) (hn : nst p) : ∀ (n u : Nat) (c : List Nat), 400 < n + u → t < u → u ≤ 400 → syT kd vl true t p o = syT kd vl false u p (o ++ c) → OKp kd vl (prodL kd vl rs w n u c) t p o (fun u => ¬ (kd u = 42 ∨ kd u = 47)) := by
  intro n
  induction n with
  | zero => intro u c h1 h2 h3; omega
  | succ n ih =>
    intro u c h1 h2 h3 h4
    unfold prodL
    by_cases c1 : kd u = 42 ∨ kd u = 47
    · rw [if_pos c1]
      have hps : popS p = ([], p) := by
        cases p with
        | nil => rfl
        | cons x xs => show (if x = 42 ∨ x = 47 then _ else _) = _; rw [if_neg (hn x xs rfl)]
      have h5 := syB (kd := kd) (vl := vl) h3 (p := p) (o := o ++ c)
      rw [if_neg (show ¬ (kd u = 41 ∧ 0 < opn p) by omega), if_pos c1, hps, List.append_nil] at h5
      by_cases c2 : u < 400
      · rw [if_pos c2] at h5 ⊢
        have h6 := unit_ok (o := o ++ c) hs hw (t := u + 1) (p := kd u :: p) (by omega) (by rw [opn_c (by omega)]; exact hp)
        cases hr : unitR kd vl rs w (u + 1) with
        | inl e =>
          rw [hr] at h6
          exact h4.trans (h5.trans h6)
        | inr tc =>
          obtain ⟨t2, c2'⟩ := tc
          rw [hr] at h6
          obtain ⟨a1, a2, -, a3⟩ := h6
          refine ih t2 _ (by omega) (by omega) a2 ?_
          rw [h4, h5, a3, syB_s a2 c1]
          simp only [List.append_assoc]
      · rw [if_neg c2] at h5 ⊢
        exact h4.trans h5
    · rw [if_neg c1]
      exact ⟨h2, h3, c1, h4⟩
theorem prod_ok {rs : Nat → Nat → PR} {w : Nat} (hs : w < 6 → SOK kd vl rs (w + 1)) (hw : w ≤ 6) {t : Nat} {p o : List Nat} (ht : t ≤ 400) (hp : opn p = w) (hn : nst p) : OKp kd vl (prodR kd vl rs w t) t p o (fun u => ¬ (kd u = 42 ∨ kd u = 47)) := by
  have h1 := unit_ok (o := o) hs hw ht hp
  unfold prodR
  cases hr : unitR kd vl rs w t with
  | inl e => rw [hr] at h1; exact h1
  | inr tc =>
    obtain ⟨t2, c⟩ := tc
    rw [hr] at h1
    obtain ⟨a1, a2, -, a3⟩ := h1
    exact prodL_ok hs hw hp hn 401 t2 c (by omega) a1 a2 a3
theorem sumL_ok {rs : Nat → Nat → PR} {w : Nat} (hs : w < 6 → SOK kd vl rs (w + 1)) (hw : w ≤ 6) {t : Nat} {p o : List Nat} (hp : opn p = w) (hn : nop p) : ∀ (n u : Nat) (c : List Nat), 400 < n + u → t < u → u ≤ 400 → ¬ (kd u = 42 ∨ kd u = 47) → syT kd vl true t p o = syT kd vl false u p (o ++ c) → OKp kd vl (sumL kd vl rs w n u c) t p o (fun u => ¬ (kd u = 42 ∨ kd u = 47) ∧ ¬ (kd u = 43 ∨ kd u = 45)) := by
  intro n
  induction n with
  | zero => intro u c h1 h2 h3; omega
  | succ n ih =>
    intro u c h1 h2 h3 h0 h4
    unfold sumL
    by_cases c1 : kd u = 43 ∨ kd u = 45
    · rw [if_pos c1]
      have hps : popA p = ([], p) := by
        rcases hn with rfl | ⟨xs, rfl⟩
        · rfl
        · rfl
      have h5 := syB (kd := kd) (vl := vl) h3 (p := p) (o := o ++ c)
      rw [if_neg (show ¬ (kd u = 41 ∧ 0 < opn p) by omega), if_neg h0, if_pos c1, hps, List.append_nil] at h5
      by_cases c2 : u < 400
      · rw [if_pos c2] at h5 ⊢
        have h6 := prod_ok (o := o ++ c) hs hw (t := u + 1) (p := kd u :: p) (by omega) (by rw [opn_c (by omega)]; exact hp) (fun x xs e => by injection e with e1 e2; omega)
        cases hr : prodR kd vl rs w (u + 1) with
        | inl e =>
          rw [hr] at h6
          exact h4.trans (h5.trans h6)
        | inr tc =>
          obtain ⟨t2, c2'⟩ := tc
          rw [hr] at h6
          obtain ⟨a1, a2, a4, a3⟩ := h6
          refine ih t2 _ (by omega) (by omega) a2 a4 ?_
          rw [h4, h5, a3, syB_w a2 c1 a4]
          simp only [List.append_assoc]
      · rw [if_neg c2] at h5 ⊢
        exact h4.trans h5
    · rw [if_neg c1]
      exact ⟨h2, h3, ⟨h0, c1⟩, h4⟩
theorem sum_ok : ∀ (n w : Nat), w ≤ 6 → 6 < n + w → SOK kd vl (sumR kd vl n) w
  | 0, w, h1, h2 => by omega
  | n + 1, w, hw, h2 => by
    intro t p o ht hn hp
    have hs : w < 6 → SOK kd vl (sumR kd vl n) (w + 1) := fun h => sum_ok n (w + 1) (by omega) (by omega)
    have hn2 : nst p := fun x xs e => by
      rcases hn with rfl | ⟨ys, rfl⟩
      · cases e
      · injection e with e1 e2; omega
    show OKp kd vl (sumR1 kd vl (sumR kd vl n) w t) t p o _
    unfold sumR1
    have h1 := prod_ok (o := o) hs hw ht hp hn2
    cases hr : prodR kd vl (sumR kd vl n) w t with
    | inl e => rw [hr] at h1; exact h1
    | inr tc =>
      obtain ⟨t2, c⟩ := tc
      rw [hr] at h1
      obtain ⟨a1, a2, a4, a3⟩ := h1
      exact sumL_ok hs hw hp hn 401 t2 c (by omega) a1 a2 a4 a3
/-- a whole sum -/
theorem sum_top {t : Nat} (ht : t ≤ 400) : syT kd vl true t [] [] = sumR kd vl 9 0 t := by
  have h := sum_ok (kd := kd) (vl := vl) 9 0 (by decide) (by decide) t [] [] ht (Or.inl rfl) rfl
  cases hr : sumR kd vl 9 0 t with
  | inl e => rw [hr] at h; exact h
  | inr tc =>
    obtain ⟨t2, c⟩ := tc
    rw [hr] at h
    obtain ⟨a1, a2, ⟨a3, a4⟩, a5⟩ := h
    rw [a5, syB a2, if_neg (show ¬ (kd t2 = 41 ∧ 0 < opn []) from fun q => absurd q.2 (by decide)), if_neg a3, if_neg a4, if_neg (by decide)]
    show Sum.inr (t2, [] ++ c ++ []) = Sum.inr (t2, c)
    rw [List.nil_append, List.append_nil]
end PRS2

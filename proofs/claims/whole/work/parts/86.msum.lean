/-! the reference: what comes out of the pile -/
section MSU
variable {v : Nat → Int32} {len : Nat} {S S' : St}
def ppX (b : Bool) (p : List Nat) : List Nat × List Nat := if b then popS p else popA p
def sgn5 (x : Nat) : Prop := x = 40 ∨ x = 42 ∨ x = 43 ∨ x = 45 ∨ x = 47
theorem SHP_5 : ∀ {p : List Nat}, SHP p → ∀ x ∈ p, sgn5 x
  | [], _, x, hx => by cases hx
  | y :: ys, h, x, hx => by
    rcases List.mem_cons.mp hx with e | e
    · subst e
      unfold sgn5
      rcases h.2 with e | ⟨e, -⟩ | ⟨e, -⟩ <;> omega
    · exact SHP_5 h.1 x e
theorem SHP_tl {x : Nat} {xs : List Nat} (h : SHP (x :: xs)) : SHP xs := h.1
theorem pp_stop {b : Bool} {x : Nat} {xs : List Nat} (h5 : sgn5 x) (h : x = 40 ∨ (b = true ∧ (x = 43 ∨ x = 45))) : ppX b (x :: xs) = ([], x :: xs) := by
  unfold ppX
  cases b with
  | true =>
    show (if x = 42 ∨ x = 47 then _ else _) = _
    rw [if_neg (by omega)]
  | false =>
    show (if x = 40 then _ else _) = _
    rw [if_pos (by rcases h with h | ⟨h, -⟩; exact h; cases h)]
theorem pp_go {b : Bool} {x : Nat} {xs : List Nat} (h5 : sgn5 x) (h : ¬ (x = 40 ∨ (b = true ∧ (x = 43 ∨ x = 45)))) : ppX b (x :: xs) = ((20000 + x) :: (ppX b xs).1, (ppX b xs).2) := by
  have h4 : ¬ x = 40 := fun q => h (Or.inl q)
  unfold sgn5 at h5
  unfold ppX
  cases b with
  | true =>
    have h3 : ¬ (x = 43 ∨ x = 45) := fun q => h (Or.inr ⟨rfl, q⟩)
    show (if x = 42 ∨ x = 47 then _ else _) = _
    rw [if_pos (by omega)]
    rfl
  | false =>
    show (if x = 40 then _ else _) = _
    rw [if_neg h4]
    rfl
/-- only the pile's height and the codes are changed -/
def FO (n m : Nat) (S S' : St) : Prop := S'.2 = S.2 ∧ (∀ a k, (a = 140 → k ≠ 43 ∧ k ≠ 47) → a ≠ 169 → a ≠ 170 → S'.1 a k = S.1 a k) ∧ ∀ k, k < n ∨ m ≤ k → S'.1 169 k = S.1 169 k ∧ S'.1 170 k = S.1 170 k
theorem FO.fm {n m : Nat} (h : FO n m S S') : FM S S' := ⟨h.1, fun a k h1 h2 => h.2.1 a k (fun q => ⟨(h1 q).2.2.2.2.1, (h1 q).2.2.2.2.2⟩) (by omega) (by omega)⟩
theorem WP_hd {x : Nat} {xs : List Nat} (h : WP (x :: xs) S) : S.1 171 xs.length = nI (kmN x) := h.1
theorem CDm_cons {n x : Nat} {c : List Nat} (hx : 20000 ≤ x) (h0 : S.1 169 n = nI (mk1 x)) (h : CDm (n + 1) c S) : CDm n (x :: c) S := by
  intro j d hj
  cases j with
  | zero =>
    simp at hj
    subst hj
    exact ⟨h0, fun q => by omega⟩
  | succ j =>
    have := h j d (by simpa using hj)
    rw [show n + 1 + j = n + (j + 1) by omega] at this
    exact this
theorem come_run {b : Bool} : ∀ (p : List Nat) (n fu : Nat) (S : St), p.length < fu → SHP p → RFM S.2.2 → WP p S → S.1 140 47 = nI p.length → S.1 140 43 = nI n → p.length ≤ 64 → n + p.length ≤ 840 → RN (b_X10_comesOut_0 fu 140 (if b then 1 else 0) S) (fun _ S' => WP (ppX b p).2 S' ∧ S'.1 140 47 = nI (ppX b p).2.length ∧ S'.1 140 43 = nI (n + (ppX b p).1.length) ∧ CDm n (ppX b p).1 S' ∧ FO n (n + p.length) S S') := by
  intro p
  induction p with
  | nil =>
    intro n fu S hf hsh hr hw h47 h43 h64 h8
    obtain ⟨fu, rfl⟩ : ∃ f, fu = f + 1 := ⟨fu - 1, by omega⟩
    have e : ppX b [] = ([], []) := by cases b <;> rfl
    rw [b_X10_comesOut_0, h47, if_pos (by decide), e]
    exact RN_some ⟨trivial, h47, h43, fun j d hj => by simp at hj, rfl, fun _ _ _ _ _ => rfl, fun _ _ => ⟨rfl, rfl⟩⟩
  | cons x xs ih =>
    intro n fu S hf hsh hr hw h47 h43 h64 h8
    obtain ⟨fu, rfl⟩ : ∃ f, fu = f + 1 := ⟨fu - 1, by omega⟩
    have h5 : sgn5 x := SHP_5 hsh x List.mem_cons_self
    have hl : (x :: xs).length = xs.length + 1 := rfl
    rw [hl] at hf h47 h64 h8
    have hkm : kmN x < 128 ∧ (kmN x = 6 ↔ x = 40) ∧ (kmN x = 8 ↔ x = 43) ∧ (kmN x = 9 ↔ x = 45) ∧ (kmN x = 10 ↔ x = 42) := by
      have hx : x < 128 := by unfold sgn5 at h5; omega
      have := km_a x hx
      exact ⟨this.2.2.2.2.2.2.2, this.1, this.2.2.1, this.2.2.2.1, this.2.2.2.2.1⟩
    obtain ⟨k0, k6, k8, k9, k10⟩ := hkm
    have neI : ∀ c : Nat, c < 128 → (nI (kmN x) = nI c ↔ kmN x = c) := fun c hc => nI_eq (by omega) (by omega)
    rw [b_X10_comesOut_0, h47, if_neg (show ¬ nI (xs.length + 1) ≤ 0 from nle_l (b := 0) (by omega) (by omega) (by omega)), s1_eq (by omega), show xs.length + 1 - 1 = xs.length by omega, ix_nI (show xs.length < 64 by omega) (by decide), obq, nmq, rq_46 hr, WP_hd hw]
    by_cases cs : x = 40 ∨ (b = true ∧ (x = 43 ∨ x = 45))
    · rw [pp_stop h5 cs]
      have done : RN (some ((), S)) (fun _ S' => WP (x :: xs) S' ∧ S'.1 140 47 = nI (x :: xs).length ∧ S'.1 140 43 = nI (n + ([] : List Nat).length) ∧ CDm n [] S' ∧ FO n (n + (xs.length + 1)) S S') := RN_some ⟨hw, h47, h43, fun j d hj => by simp at hj, rfl, fun _ _ _ _ _ => rfl, fun _ _ => ⟨rfl, rfl⟩⟩
      by_cases c40 : x = 40
      · rw [if_pos (show nI (kmN x) = 6 from (neI 6 (by decide)).mpr (k6.mpr c40))]
        exact done
      · have hb : b = true := by rcases cs with q | q; exact absurd q c40; exact q.1
        have hx : x = 43 ∨ x = 45 := by rcases cs with q | q; exact absurd q c40; exact q.2
        rw [if_neg (show ¬ nI (kmN x) = 6 from fun q => c40 (k6.mp ((neI 6 (by decide)).mp q))), hb, if_neg (show ¬ (if true = true then (1 : Int32) else 0) = 0 by decide)]
        by_cases c43 : x = 43
        · rw [if_pos (show nI (kmN x) = 8 from (neI 8 (by decide)).mpr (k8.mpr c43))]
          exact done
        · rw [if_neg (show ¬ nI (kmN x) = 8 from fun q => c43 (k8.mp ((neI 8 (by decide)).mp q))), if_pos (show nI (kmN x) = 9 from (neI 9 (by decide)).mpr (k9.mpr (by omega)))]
          exact done
    · rw [pp_go h5 cs]
      have c40 : ¬ x = 40 := fun q => cs (Or.inl q)
      have go : RN (b_X10_comesOut_42 (b_X10_comesOut_0 fu) 140 (if b = true then 1 else 0) (nI (kmN x)) S) (fun _ S' => WP (ppX b xs).2 S' ∧ S'.1 140 47 = nI (ppX b xs).2.length ∧ S'.1 140 43 = nI (n + ((20000 + x) :: (ppX b xs).1).length) ∧ CDm n ((20000 + x) :: (ppX b xs).1) S' ∧ FO n (n + (xs.length + 1)) S S') := by
        unfold b_X10_comesOut_42
        rw [nmq, h47, s1_eq (by omega), show xs.length + 1 - 1 = xs.length by omega]
        have r1 : RFM (sI S 140 47 (nI xs.length)).2.2 := hr
        have e43 : (sI S 140 47 (nI xs.length)).1 140 43 = nI n := (sI_ne (Or.inr (by decide))).trans h43
        have step : RN (b_X10_comesOut_84 (b_X10_comesOut_0 fu) 140 (if b = true then 1 else 0) 140 (nI (mk1 (20000 + x))) (sI S 140 47 (nI xs.length))) (fun _ S' => WP (ppX b xs).2 S' ∧ S'.1 140 47 = nI (ppX b xs).2.length ∧ S'.1 140 43 = nI (n + ((20000 + x) :: (ppX b xs).1).length) ∧ CDm n ((20000 + x) :: (ppX b xs).1) S' ∧ FO n (n + (xs.length + 1)) S S') := by
          unfold b_X10_comesOut_84
          rw [emit_l r1 e43 (by omega), bdq]
          have fo : ∀ a k, (a = 140 → k ≠ 43 ∧ k ≠ 47) → (a = 169 → k ≠ n) → (a = 170 → k ≠ n) → (sI (sI (sI (sI S 140 47 (nI xs.length)) 169 n (nI (mk1 (20000 + x)))) 170 n 0) 140 43 (nI (n + 1))).1 a k = S.1 a k := fun a k h1 h2 h3 => by rw [sI_ne (by omega), sI_ne (by omega), sI_ne (by omega), sI_ne (by omega)]
          have f169 : (sI (sI (sI (sI S 140 47 (nI xs.length)) 169 n (nI (mk1 (20000 + x)))) 170 n 0) 140 43 (nI (n + 1))).1 169 n = nI (mk1 (20000 + x)) := by rw [sI_ne (Or.inl (by decide)), sI_ne (Or.inl (by decide)), sI_at]
          have f47 : (sI (sI (sI (sI S 140 47 (nI xs.length)) 169 n (nI (mk1 (20000 + x)))) 170 n 0) 140 43 (nI (n + 1))).1 140 47 = nI xs.length := by rw [sI_ne (Or.inr (by decide)), sI_ne (Or.inl (by decide)), sI_ne (Or.inl (by decide)), sI_at]
          have f43 : (sI (sI (sI (sI S 140 47 (nI xs.length)) 169 n (nI (mk1 (20000 + x)))) 170 n 0) 140 43 (nI (n + 1))).1 140 43 = nI (n + 1) := sI_at
          have fe : (sI (sI (sI (sI S 140 47 (nI xs.length)) 169 n (nI (mk1 (20000 + x)))) 170 n 0) 140 43 (nI (n + 1))).2 = S.2 := rfl
          revert fo f169 f47 f43 fe
          generalize sI (sI (sI (sI S 140 47 (nI xs.length)) 169 n (nI (mk1 (20000 + x)))) 170 n 0) 140 43 (nI (n + 1)) = S1
          intro fo f169 f47 f43 fe
          refine RN_mono (ih (n + 1) fu S1 (by omega) hsh.1 (by rw [fe]; exact hr) (WP_set hw.2 (fun k hk => fo _ _ (fun q => absurd q (by decide)) (fun q => absurd q (by decide)) (fun q => absurd q (by decide)))) f47 f43 (by omega) (by omega)) (fun _ S' hh => ?_)
          obtain ⟨g1, g2, g3, g4, g5, g6, g7⟩ := hh
          refine ⟨g1, g2, ?_, CDm_cons (by omega) ((g7 n (by omega)).1.trans f169) g4, g5.trans fe, fun a k h1 h2 h3 => (g6 a k h1 h2 h3).trans (fo a k h1 (fun q => absurd q h2) (fun q => absurd q h3)), fun k hk => ⟨(g7 k (by omega)).1.trans (fo _ _ (fun q => absurd q (by decide)) (fun _ => by omega) (fun q => absurd q (by decide))), (g7 k (by omega)).2.trans (fo _ _ (fun q => absurd q (by decide)) (fun q => absurd q (by decide)) (fun _ => by omega))⟩⟩
          rw [g3, List.length_cons]
          congr 1
          omega
        unfold sgn5 at h5
        by_cases d1 : x = 43
        · rw [if_pos (show nI (kmN x) = 8 from (neI 8 (by decide)).mpr (k8.mpr d1))]
          subst d1
          exact step
        · rw [if_neg (show ¬ nI (kmN x) = 8 from fun q => d1 (k8.mp ((neI 8 (by decide)).mp q)))]
          by_cases d2 : x = 45
          · rw [if_pos (show nI (kmN x) = 9 from (neI 9 (by decide)).mpr (k9.mpr d2))]
            subst d2
            exact step
          · rw [if_neg (show ¬ nI (kmN x) = 9 from fun q => d2 (k9.mp ((neI 9 (by decide)).mp q)))]
            by_cases d3 : x = 42
            · rw [if_pos (show nI (kmN x) = 10 from (neI 10 (by decide)).mpr (k10.mpr d3))]
              subst d3
              exact step
            · rw [if_neg (show ¬ nI (kmN x) = 10 from fun q => d3 (k10.mp ((neI 10 (by decide)).mp q)))]
              have : x = 47 := by omega
              subst this
              exact step
      rw [if_neg (show ¬ nI (kmN x) = 6 from fun q => c40 (k6.mp ((neI 6 (by decide)).mp q)))]
      cases b with
      | false => rw [if_pos (show (if false = true then (1 : Int32) else 0) = 0 by decide)]; exact go
      | true =>
        have c4 : ¬ (x = 43 ∨ x = 45) := fun q => cs (Or.inr ⟨rfl, q⟩)
        rw [if_neg (show ¬ (if true = true then (1 : Int32) else 0) = 0 by decide), if_neg (show ¬ nI (kmN x) = 8 from fun q => c4 (Or.inl (k8.mp ((neI 8 (by decide)).mp q)))), if_neg (show ¬ nI (kmN x) = 9 from fun q => c4 (Or.inr (k9.mp ((neI 9 (by decide)).mp q))))]
        exact go
end MSU

/-! the reference reads a sum: what the pile keeps, and when it is stuck -/
section MPI
variable {v : Nat → Int32} {len : Nat} {S S' : St}
theorem pp_len {b : Bool} : ∀ {p : List Nat}, SHP p → (ppX b p).1.length + (ppX b p).2.length = p.length ∧ SHP (ppX b p).2 ∧ opn (ppX b p).2 = opn p
  | [], _ => by cases b <;> exact ⟨rfl, trivial, rfl⟩
  | x :: xs, h => by
    have h5 : sgn5 x := SHP_5 h x List.mem_cons_self
    by_cases c : x = 40 ∨ (b = true ∧ (x = 43 ∨ x = 45))
    · rw [pp_stop h5 c]
      exact ⟨by simp, h, rfl⟩
    · rw [pp_go h5 c]
      obtain ⟨i1, i2, i3⟩ := pp_len (b := b) (p := xs) h.1
      refine ⟨?_, i2, i3.trans (opn_c (fun q => c (Or.inl q))).symm⟩
      show (ppX b xs).1.length + 1 + (ppX b xs).2.length = xs.length + 1
      omega
theorem pp_hdA : ∀ {p : List Nat}, SHP p → (ppX false p).2 = [] ∨ ∃ ys, (ppX false p).2 = 40 :: ys
  | [], _ => Or.inl rfl
  | x :: xs, h => by
    have h5 : sgn5 x := SHP_5 h x List.mem_cons_self
    by_cases c : x = 40 ∨ (false = true ∧ (x = 43 ∨ x = 45))
    · rw [pp_stop h5 c]
      exact Or.inr ⟨xs, by rcases c with c | ⟨c, -⟩; rw [c]; cases c⟩
    · rw [pp_go h5 c]
      exact pp_hdA h.1
theorem pp_hdS : ∀ {p : List Nat}, SHP p → (ppX true p).2 = [] ∨ ∃ y ys, (ppX true p).2 = y :: ys ∧ (y = 40 ∨ y = 43 ∨ y = 45)
  | [], _ => Or.inl rfl
  | x :: xs, h => by
    have h5 : sgn5 x := SHP_5 h x List.mem_cons_self
    by_cases c : x = 40 ∨ (true = true ∧ (x = 43 ∨ x = 45))
    · rw [pp_stop h5 c]
      exact Or.inr ⟨x, xs, rfl, by rcases c with c | ⟨-, c⟩ <;> omega⟩
    · rw [pp_go h5 c]
      exact pp_hdS h.1
theorem opn_nil : opn [] = 0 := rfl
theorem CDm_app {q : Nat} {c d : List Nat} (h : CDm q c S) (h2 : CDm (q + c.length) d S) : CDm q (c ++ d) S := by
  intro j e hj
  by_cases k : j < c.length
  · rw [List.getElem?_append_left k] at hj
    exact h j e hj
  · rw [List.getElem?_append_right (by omega)] at hj
    have := h2 (j - c.length) e hj
    rw [show q + c.length + (j - c.length) = q + j by omega] at this
    exact this
theorem CDm_k {q n : Nat} {c : List Nat} (h : CDm q c S) (hn : q + c.length ≤ n) (hk : ∀ k, k < n → S'.1 169 k = S.1 169 k ∧ S'.1 170 k = S.1 170 k) : CDm q c S' := by
  intro j e hj
  have hl : j < c.length := by
    obtain ⟨h1, -⟩ := List.getElem?_eq_some_iff.mp hj
    exact h1
  have h1 := h j e hj
  have h2 := hk (q + j) (by omega)
  exact ⟨h2.1.trans h1.1, fun q => h2.2.trans (h1.2 q)⟩
theorem munit_d {f p : Nat} (h : DDm f p S) : f_X10_unit 140 S = some ((), S) := by
  unfold f_X10_unit
  rw [is_d h, bdq, if_pos rfl, if_neg (by rw [h.1]; exact f_nz h.2.2.1)]
  unfold b_X10_unit_88
  rw [fail_d h, bdq]
theorem A_d {q12 : Nat → Int32 → Int32 → St → Option (Unit × St)} {f p fu : Nat} {w : Int32} (h : DDm f p S) : b_X10_expression_23 q12 (fu + 1) 140 w S = some ((), S) := by
  rw [b_X10_expression_23, is_d h, bdq, if_pos rfl, munit_d h, bdq, if_neg (by rw [h.1]; exact f_pos h.2.2.1)]
/-- what a reading has written -/
def XRm (v : Nat → Int32) (len q hi : Nat) (S0 : St) (r : PR) (S' : St) : Prop := FM S0 S' ∧ (∀ k, k < q ∨ hi ≤ k → S'.1 169 k = S0.1 169 k ∧ S'.1 170 k = S0.1 170 k) ∧ match r with
  | .inl (f, u) => DDm f (psT v len u) S' ∧ ∃ q', q ≤ q' ∧ q' ≤ 840 ∧ S'.1 140 43 = nI q'
  | .inr (t2, c) => LVm v len t2 S' ∧ S'.1 140 43 = nI (q + c.length) ∧ CDm q c S' ∧ S'.1 140 12 = 0
theorem out_d {q hi : Nat} {S0 : St} {f u n : Nat} {p : List Nat} (hr : RFM S.2.2) (h : DDm f (psT v len u) S) (hF : FM S0 S) (hk : ∀ k, k < q ∨ hi ≤ k → S.1 169 k = S0.1 169 k ∧ S.1 170 k = S0.1 170 k) (hw : WP p S) (hs : SHP p) (h47 : S.1 140 47 = nI p.length) (h43 : S.1 140 43 = nI n) (h64 : p.length ≤ 64) (h8 : n + p.length ≤ 840) (hq : q ≤ n) (hhi : n + p.length ≤ hi) : RN (b_X10_expression_204 140 S) (fun _ S' => XRm v len q hi S0 (.inl (f, u)) S') := by
  unfold b_X10_expression_204 f_X10_comesOut
  refine RN_bd (come_run (b := false) p n FU S (by show p.length < 5000; omega) hs hr hw h47 h43 h64 h8) (fun _ S1 hh => ?_)
  obtain ⟨-, -, g3, -, g5⟩ := hh
  have hl := (pp_len (b := false) hs).1
  exact RN_some ⟨hF.tr g5.fm, fun k hk' => ⟨(g5.2.2 k (by omega)).1.trans (hk k hk').1, (g5.2.2 k (by omega)).2.trans (hk k hk').2⟩, DDm_k h (g5.2.1 _ _ (fun _ => by omega) (by decide) (by decide)) (g5.2.1 _ _ (fun _ => by omega) (by decide) (by decide)) (g5.2.1 _ _ (fun _ => by omega) (by decide) (by decide)), _, by omega, by omega, g3⟩
theorem B_d {q12 : Nat → Int32 → Int32 → St → Option (Unit × St)} {q hi : Nat} {S0 : St} {f u n fu : Nat} {w : Int32} {p : List Nat} (hr : RFM S.2.2) (h : DDm f (psT v len u) S) (hF : FM S0 S) (hk : ∀ k, k < q ∨ hi ≤ k → S.1 169 k = S0.1 169 k ∧ S.1 170 k = S0.1 170 k) (hw : WP p S) (hs : SHP p) (h47 : S.1 140 47 = nI p.length) (h43 : S.1 140 43 = nI n) (h64 : p.length ≤ 64) (h8 : n + p.length ≤ 840) (hq : q ≤ n) (hhi : n + p.length ≤ hi) : RN (b_X10_expression_96 q12 (fu + 1) 140 w S) (fun _ S' => XRm v len q hi S0 (.inl (f, u)) S') := by
  rw [b_X10_expression_96, is_d h, bdq, if_pos rfl]
  unfold b_X10_expression_145
  rw [is_d h, bdq, if_pos rfl, is_d h, bdq, if_pos rfl, is_d h, bdq, if_pos rfl, is_d h, bdq, if_pos rfl]
  unfold b_X10_expression_186
  rw [if_pos rfl]
  by_cases c : S.1 140 12 ≤ w
  · rw [if_pos c]
    exact out_d hr h hF hk hw hs h47 h43 h64 h8 hq hhi
  · rw [if_neg c, fail_d h, bdq]
    exact out_d hr h hF hk hw hs h47 h43 h64 h8 hq hhi
end MPI

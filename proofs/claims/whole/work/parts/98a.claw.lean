/-! a LAW, in the abstract; the class reads it -/
abbrev Tp : Type := List Nat × List Nat × List Nat
def suS (v : Nat → Int32) (len : Nat) (st : Stt) : Stt := match st with
  | .inl e => .inl e
  | .inr (t, mk) => match sumR (kdV v len) (vlV v len) 9 0 t with
    | .inl e => .inl e
    | .inr (t2, _) => .inr (t2, mk)
def suC (v : Nat → Int32) (len : Nat) (st : Stt) : List Nat := match st with
  | .inl _ => []
  | .inr (t, _) => match sumR (kdV v len) (vlV v len) 9 0 t with
    | .inl _ => []
    | .inr (_, c) => c
def if1 (v : Nat → Int32) (len : Nat) (st : Stt) : Stt := tkS v len 9 st
def if2 (v : Nat → Int32) (len : Nat) (st : Stt) : Stt := suS v len (if1 v len st)
def if3 (v : Nat → Int32) (len : Nat) (st : Stt) : Stt := tkS v len 60 (if2 v len st)
def if4 (v : Nat → Int32) (len : Nat) (st : Stt) : Stt := suS v len (if3 v len st)
def if5 (v : Nat → Int32) (len : Nat) (st : Stt) : Stt := tkS v len 10 (if4 v len st)
def if6 (v : Nat → Int32) (len : Nat) (st : Stt) : Stt := suS v len (if5 v len st)
def if7 (v : Nat → Int32) (len : Nat) (st : Stt) : Stt := tkS v len 11 (if6 v len st)
def ifT (v : Nat → Int32) (len : Nat) (st : Stt) : Tp := (suC v len (if1 v len st), suC v len (if3 v len st), suC v len (if5 v len st))
def ifL (v : Nat → Int32) (len : Nat) : Nat → Stt → List Tp → Stt × List Tp
  | 0, st, acc => (match st with
    | .inl e => .inl e
    | .inr (t, mk) => if kdT v len t = 9 then .inl (2, t) else .inr (t, mk), acc)
  | n + 1, st, acc => match st with
    | .inl e => (.inl e, acc)
    | .inr (t, mk) => if kdT v len t = 9 then ifL v len n (if7 v len (.inr (t, mk))) (acc ++ [ifT v len (.inr (t, mk))]) else (.inr (t, mk), acc)
def la2 (v : Nat → Int32) (len w t : Nat) (mk : Mk) : Stt := tkS v len 61 (tkS v len w (.inr (t, mk)))
def la3 (v : Nat → Int32) (len w t : Nat) (mk : Mk) : Stt := (ifL v len 4 (la2 v len w t mk) []).1
def laT (v : Nat → Int32) (len w t : Nat) (mk : Mk) : List Tp := (ifL v len 4 (la2 v len w t mk) []).2
def la4 (v : Nat → Int32) (len w t : Nat) (mk : Mk) : Stt := suS v len (la3 v len w t mk)
def la5 (v : Nat → Int32) (len w t : Nat) (mk : Mk) : Stt := tkS v len 59 (la4 v len w t mk)
def laA (v : Nat → Int32) (len w : Nat) (A : RA) (t : Nat) (mk : Mk) : RA := (((rB A).1, bWt (rB A), bWho (rB A), bLen (rB A), updN (bLaw (rB A)) (w - 3) (laT v len w t mk, suC v len (la3 v len w t mk))), A.2)
def flatT : List Tp → List (List Nat)
  | [] => []
  | (a, b, c) :: ts => a :: b :: c :: flatT ts
theorem flat_T : ∀ (ts : List Tp) (f : List Nat), flat ts f = flatT ts ++ [f]
  | [], _ => rfl
  | (a, b, c) :: ts, f => by
    show a :: b :: c :: flat ts f = a :: b :: c :: (flatT ts ++ [f])
    rw [flat_T ts f]
theorem flatT_app : ∀ (ts : List Tp) (x : Tp), flatT (ts ++ [x]) = flatT ts ++ [x.1] ++ [x.2.1] ++ [x.2.2]
  | [], (a, b, c) => rfl
  | (a, b, c) :: ts, x => by
    show a :: b :: c :: flatT (ts ++ [x]) = a :: b :: c :: (flatT ts ++ [x.1] ++ [x.2.1] ++ [x.2.2])
    rw [flatT_app ts x]
theorem flatT_len : ∀ (ts : List Tp), (flatT ts).length = 3 * ts.length
  | [] => rfl
  | (a, b, c) :: ts => by
    show (flatT ts).length + 1 + 1 + 1 = 3 * (ts.length + 1)
    rw [flatT_len ts]
    omega
theorem totL_app : ∀ (cs : List (List Nat)) (c : List Nat), totL (cs ++ [c]) = totL cs + c.length
  | [], c => by show c.length + 0 = 0 + c.length; omega
  | d :: cs, c => by
    show d.length + totL (cs ++ [c]) = d.length + totL cs + c.length
    rw [totL_app cs c]
    omega
section LWP
variable {v : Nat → Int32} {len : Nat}
theorem su_inr {st : Stt} {t' : Nat} {mk' : Mk} (h4 : ∀ t mk, st = .inr (t, mk) → t ≤ 400) (h : suS v len st = .inr (t', mk')) : ∃ t, st = .inr (t, mk') ∧ t < t' ∧ t' ≤ 400 ∧ (suC v len st).length ≤ t' - t ∧ wfd (suC v len st) 0 ∧ sumR (kdV v len) (vlV v len) 9 0 t = .inr (t', suC v len st) := by
  match st, h, h4 with
  | .inl e, h, _ => cases h
  | .inr (t, mk), h, h4 =>
    have h : (match sumR (kdV v len) (vlV v len) 9 0 t with | .inl e => (.inl e : Stt) | .inr (t2, _) => .inr (t2, mk)) = .inr (t', mk') := h
    have hc : suC v len (.inr (t, mk)) = (match sumR (kdV v len) (vlV v len) 9 0 t with | .inl _ => [] | .inr (_, c) => c) := rfl
    rw [hc]
    cases hs : sumR (kdV v len) (vlV v len) 9 0 t with
    | inl e => rw [hs] at h; cases h
    | inr w =>
      obtain ⟨t2, c⟩ := w
      rw [hs] at h
      cases h
      obtain ⟨g1, g2, g3, g4⟩ := sum_wfd (fun t ht => vl_lt ht) (h4 t _ rfl) hs
      exact ⟨t, rfl, g1, g2, g3, g4, hs⟩
theorem tk_le {st : Stt} {k : Nat} : ∀ t mk, tkS v len k st = .inr (t, mk) → t ≤ 400 := fun t mk h => by
  obtain ⟨t0, _, _, h3, h4, _⟩ := tk_inr h
  omega
theorem if7_inr {st : Stt} {t' : Nat} {mk' : Mk} (h : if7 v len st = .inr (t', mk')) : ∃ t, st = .inr (t, mk') ∧ kdT v len t = 9 ∧ t + 7 ≤ t' ∧ t' ≤ 400 ∧ (ifT v len st).1.length + (ifT v len st).2.1.length + (ifT v len st).2.2.length + t ≤ t' ∧ wfd (ifT v len st).1 0 ∧ wfd (ifT v len st).2.1 0 ∧ wfd (ifT v len st).2.2 0 ∧ liv (if1 v len st) ∧ liv (if2 v len st) ∧ liv (if3 v len st) ∧ liv (if4 v len st) ∧ liv (if5 v len st) ∧ liv (if6 v len st) := by
  obtain ⟨t6, h6, -, l6, e6, -⟩ := tk_inr h
  obtain ⟨t5, h5, l5, m5, n5, o5, -⟩ := su_inr tk_le h6
  obtain ⟨t4, h4, -, l4, e4, -⟩ := tk_inr h5
  obtain ⟨t3, h3, l3, m3, n3, o3, -⟩ := su_inr tk_le h4
  obtain ⟨t2, h2, -, l2, e2, -⟩ := tk_inr h3
  obtain ⟨t1, h1, l1, m1, n1, o1, -⟩ := su_inr tk_le h2
  obtain ⟨t0, h0, k0, l0, e0, -⟩ := tk_inr h1
  have n1' : (suC v len (if1 v len st)).length ≤ t2 - t1 := n1
  have n3' : (suC v len (if3 v len st)).length ≤ t4 - t3 := n3
  have n5' : (suC v len (if5 v len st)).length ≤ t6 - t5 := n5
  unfold ifT
  exact ⟨t0, h0, k0, by omega, by omega, by show (suC v len (if1 v len st)).length + (suC v len (if3 v len st)).length + (suC v len (if5 v len st)).length + t0 ≤ t'; omega, o1, o3, o5, ⟨_, _, h1⟩, ⟨_, _, h2⟩, ⟨_, _, h3⟩, ⟨_, _, h4⟩, ⟨_, _, h5⟩, ⟨_, _, h6⟩⟩
theorem ifL_0 {t : Nat} {mk : Mk} {acc : List Tp} : ifL v len 0 (.inr (t, mk)) acc = (if kdT v len t = 9 then .inl (2, t) else .inr (t, mk), acc) := rfl
theorem ifL_d {n : Nat} {e : Nat × Nat} {acc : List Tp} : ifL v len n (.inl e) acc = (.inl e, acc) := by cases n <;> rfl
theorem ifL_s {n t : Nat} {mk : Mk} {acc : List Tp} : ifL v len (n + 1) (.inr (t, mk)) acc = if kdT v len t = 9 then ifL v len n (if7 v len (.inr (t, mk))) (acc ++ [ifT v len (.inr (t, mk))]) else (.inr (t, mk), acc) := rfl
theorem ifL_inr : ∀ (n : Nat) (st : Stt) (acc : List Tp) {t' : Nat} {mk' : Mk}, (∀ t mk, st = .inr (t, mk) → t ≤ 400) → wfT acc → (ifL v len n st acc).1 = .inr (t', mk') → ∃ t, st = .inr (t, mk') ∧ t ≤ t' ∧ t' ≤ 400 ∧ wfT (ifL v len n st acc).2 ∧ (ifL v len n st acc).2.length ≤ acc.length + n ∧ 7 * (ifL v len n st acc).2.length + t ≤ 7 * acc.length + t' := by
  intro n
  induction n with
  | zero =>
    intro st acc t' mk' h4 hw h
    match st, h, h4 with
    | .inl e, h, _ => cases h
    | .inr (t, mk), h, h4 =>
      rw [ifL_0] at h ⊢
      by_cases c : kdT v len t = 9
      · rw [if_pos c] at h; cases h
      · rw [if_neg c] at h
        have h5 := h4 t mk rfl
        cases h
        exact ⟨_, rfl, Nat.le_refl _, h5, hw, Nat.le_refl _, Nat.le_refl _⟩
  | succ n ih =>
    intro st acc t' mk' h4 hw h
    match st, h, h4 with
    | .inl e, h, _ => cases h
    | .inr (t, mk), h, h4 =>
      rw [ifL_s] at h ⊢
      by_cases c : kdT v len t = 9
      · rw [if_pos c] at h ⊢
        cases h7 : if7 v len (.inr (t, mk)) with
        | inl e => rw [h7, ifL_d] at h; cases h
        | inr w =>
          obtain ⟨t7, mk7⟩ := w
          obtain ⟨t0, g0, g1, g2, g3, g4, g5, g6, g7, -⟩ := if7_inr h7
          cases g0
          have hw' : wfT (acc ++ [ifT v len (.inr (t, mk))]) := fun x hx => by
            rcases List.mem_append.mp hx with q | q
            · exact hw x q
            · rw [List.mem_singleton.mp q]
              exact ⟨g5, g6, g7⟩
          obtain ⟨t1, k1, k2, k3, k4, k5, k6⟩ := ih (if7 v len (.inr (t, mk))) (acc ++ [ifT v len (.inr (t, mk))]) (fun a b q => by rw [h7] at q; cases q; exact g3) hw' h
          rw [h7] at k1
          cases k1
          rw [List.length_append, List.length_singleton] at k5 k6
          rw [h7] at k4 k5 k6
          exact ⟨_, rfl, by omega, k3, k4, by omega, by omega⟩
      · rw [if_neg c] at h ⊢
        have h5 := h4 t mk rfl
        cases h
        exact ⟨_, rfl, Nat.le_refl _, h5, hw, by show acc.length ≤ _; omega, Nat.le_refl _⟩
theorem la_inr {w t t' : Nat} {mk mk' : Mk} (h : la5 v len w t mk = .inr (t', mk')) : mk' = mk ∧ t + 3 < t' ∧ t' ≤ 400 ∧ wfL (laT v len w t mk, suC v len (la3 v len w t mk)) ∧ 7 * (laT v len w t mk).length + t + 4 ≤ t' ∧ liv (la3 v len w t mk) ∧ liv (la4 v len w t mk) := by
  obtain ⟨t4, h4, -, l4, e4, -⟩ := tk_inr h
  have l3 : ∀ a b, la3 v len w t mk = .inr (a, b) → a ≤ 400 := fun a b q => by
    obtain ⟨_, _, _, z, _⟩ := ifL_inr 4 _ [] tk_le (fun x hx => absurd hx List.not_mem_nil) q
    exact z
  obtain ⟨t3, h3, k3, m3, n3, o3, -⟩ := su_inr l3 h4
  obtain ⟨t2, h2, k2, m2, n2, o2, p2⟩ := ifL_inr 4 _ [] tk_le (fun x hx => absurd hx List.not_mem_nil) h3
  obtain ⟨t1, h1, -, l1, e1, -⟩ := tk_inr h2
  obtain ⟨t0, h0, -, l0, e0, -⟩ := tk_inr h1
  cases h0
  have z : ([] : List Tp).length = 0 := rfl
  have o2' : (laT v len w t mk).length ≤ ([] : List Tp).length + 4 := o2
  have p2' : 7 * (laT v len w t mk).length + t2 ≤ 7 * ([] : List Tp).length + t3 := p2
  rw [z] at o2' p2'
  exact ⟨rfl, by omega, by omega, ⟨by omega, n2, o3⟩, by omega, ⟨_, _, h3⟩, ⟨_, _, h4⟩⟩
end LWP
/-! the class -/
section CLW
variable {v : Nat → Int32} {len Bc k q0 : Nat} {S S' : St}
/-- only the reader's own numbers, and law k, are changed -/
def FL (Bc k q0 : Nat) (S S' : St) : Prop := S'.2 = S.2 ∧ ∀ a i, (a = 30 → i < 2) → (a = Bc + 6 → i ≠ 2) → (a = Bc + 8 → i < q0) → (a = Bc + 9 → i < 14 * k ∨ 14 * k + 13 < i) → (a = Bc + 10 → i ≠ k) → S'.1 a i = S.1 a i
theorem FL.rf : FL Bc k q0 S S := ⟨rfl, fun _ _ _ _ _ _ _ => rfl⟩
theorem FL.tr {S S' S'' : St} (h : FL Bc k q0 S S') (h' : FL Bc k q0 S' S'') : FL Bc k q0 S S'' := ⟨h'.1.trans h.1, fun a i h1 h2 h3 h4 h5 => (h'.2 a i h1 h2 h3 h4 h5).trans (h.2 a i h1 h2 h3 h4 h5)⟩
theorem FY.fl (h : FY S S') : FL Bc k q0 S S' := ⟨h.1, fun a i h1 _ _ _ _ => h.2 a i h1⟩
def QS (v : Nat → Int32) (len Bc k q0 : Nat) (st : Stt) (cs : List (List Nat)) (S : St) : Prop := RRf Bc S.2.2 ∧ SRc v len st S ∧ (∃ p, p ≤ 13 ∧ S.1 (Bc + 10) k = nI p) ∧ ∀ t mk, st = .inr (t, mk) → PCs (Bc + 6) k cs 0 q0 S ∧ S.1 (Bc + 10) k = nI cs.length ∧ S.1 (Bc + 6) 2 = nI (q0 + totL cs) ∧ q0 + totL cs ≤ t + 4
theorem PCs_keep {lw : Nat} : ∀ {cs : List (List Nat)} {j p : Nat} {S S' : St}, PCs lw k cs j p S → (∀ i, 14 * k + j ≤ i → i ≤ 14 * k + j + cs.length → S'.1 (lw + 3) i = S.1 (lw + 3) i) → (∀ i, i < p + totL cs → S'.1 (lw + 2) i = S.1 (lw + 2) i) → PCs lw k cs j p S'
  | [], _, _, _, _, h, h3, _ => (h3 _ (by omega) (by simp)).trans h
  | c :: cs, j, p, S, S', h, h3, h2 => by
    obtain ⟨a1, a2, a3, a4⟩ := h
    have el : (c :: cs).length = cs.length + 1 := rfl
    have et : totL (c :: cs) = c.length + totL cs := rfl
    refine ⟨(h3 _ (by omega) (by omega)).trans a1, fun i d hi => ?_, a3, PCs_keep a4 (fun i h1 h2 => h3 i (by omega) (by omega)) (fun i hi => h2 i (by omega))⟩
    have : i < c.length := (List.getElem?_eq_some_iff.mp hi).1
    rw [h2 _ (by omega)]
    exact a2 i d hi
theorem PCs_snoc {lw : Nat} {c : List Nat} : ∀ {cs : List (List Nat)} {j p : Nat} {S : St}, PCs lw k cs j p S → S.1 (lw + 3) (14 * k + (j + cs.length + 1)) = nI (p + totL cs + c.length) → CDs (lw + 2) (p + totL cs) c S → p + totL cs + c.length ≤ 404 → PCs lw k (cs ++ [c]) j p S
  | [], j, p, S, h, h1, h2, h3 => by
    have et : totL ([] : List (List Nat)) = 0 := rfl
    have el : ([] : List (List Nat)).length = 0 := rfl
    rw [et, Nat.add_zero] at h1 h2 h3
    rw [el, Nat.add_zero] at h1
    exact ⟨h, h2, h3, h1⟩
  | d :: cs, j, p, S, h, h1, h2, h3 => by
    obtain ⟨a1, a2, a3, a4⟩ := h
    have el : (d :: cs).length = cs.length + 1 := rfl
    have et : totL (d :: cs) = d.length + totL cs := rfl
    rw [et, show p + (d.length + totL cs) = p + d.length + totL cs by omega] at h1 h2 h3
    rw [el, show j + (cs.length + 1) + 1 = j + 1 + cs.length + 1 by omega] at h1
    exact ⟨a1, a2, a3, PCs_snoc a4 h1 h2 h3⟩
theorem endp_run {p : Nat} (hr : RRf Bc S.2.2) (hk : k < 4) (hp : p ≤ 13) (h : S.1 (Bc + 10) k = nI p) : ∃ S', f_X2_endPiece (Bc + 6) (nI k) S = some ((), S') ∧ S'.2 = S.2 ∧ (∀ a i, (a = Bc + 9 → i < 14 * k ∨ 14 * k + 13 < i) → (a = Bc + 10 → i ≠ k) → S'.1 a i = S.1 a i) ∧ (∃ p', p' ≤ 13 ∧ S'.1 (Bc + 10) k = nI p') ∧ (p < 13 → S'.1 (Bc + 10) k = nI (p + 1) ∧ S'.1 (Bc + 9) (14 * k + (p + 1)) = S.1 (Bc + 6) 2 ∧ ∀ i, i ≠ 14 * k + (p + 1) → S'.1 (Bc + 9) i = S.1 (Bc + 9) i) := by
  unfold f_X2_endPiece
  rw [ix_nI hk (by decide), obq, rr_l4 hr, h]
  by_cases c : p < 13
  · have r2 : RRf Bc (sI S (Bc + 10) k (nI (p + 1))).2.2 := hr
    have g2 : (sI S (Bc + 10) k (nI (p + 1))).1 (Bc + 10) k = nI (p + 1) := sI_at
    rw [if_neg (show ¬ (13 : Int32) ≤ nI p from nle_l (a := 13) (by omega) (by omega) c), obq, obq, nmq, h, nI_1, obq, rr_l4 r2, g2, show nI k * (14 : Int32) + nI (p + 1) = nI (14 * k + (p + 1)) by rw [show (14 : Int32) = nI 14 from rfl, pk_mul, nI_add, Nat.mul_comm], ix_nI (show 14 * k + (p + 1) < 56 by omega) (by decide), obq, nmq, rr_l3 r2, sI_ne (Or.inl (by omega))]
    refine ⟨_, rfl, rfl, fun a i h1 h2 => by rw [sI_ne (by omega), sI_ne (by omega)], ⟨p + 1, by omega, by rw [sI_ne (by omega), sI_at]⟩, fun _ => ⟨by rw [sI_ne (by omega), sI_at], sI_at, fun i hi => by rw [sI_ne (by omega), sI_ne (by omega)]⟩⟩
  · rw [if_pos (show (13 : Int32) ≤ nI p from le_l (a := 13) (by omega) (by omega) (by omega))]
    exact ⟨S, rfl, rfl, fun _ _ _ _ => rfl, ⟨p, hp, h⟩, fun q => absurd q c⟩
theorem csu_S {st : Stt} {cs : List (List Nat)} (h : QS v len Bc k q0 st cs S) : ∃ S', f_X4_readSum RF 30 0 S = some ((), S') ∧ FX Bc S S' ∧ (∀ i, i < q0 → S'.1 (Bc + 8) i = S.1 (Bc + 8) i) ∧ SRc v len (suS v len st) S' ∧ (∀ t mk, suS v len st = .inr (t, mk) → (∀ i, i < q0 + totL cs → S'.1 (Bc + 8) i = S.1 (Bc + 8) i) ∧ CDs (Bc + 8) (q0 + totL cs) (suC v len st) S' ∧ S'.1 (Bc + 6) 2 = nI (q0 + totL cs + (suC v len st).length) ∧ q0 + totL cs + (suC v len st).length ≤ t + 4) := by
  obtain ⟨hr, hs, -, hl⟩ := h
  have hB := hr.1
  match st, hs, hl with
  | .inl (f, u), hs, _ =>
    refine ⟨S, sum_d (n := 8) hs, FX.rf, fun _ _ => rfl, hs, fun t mk q => by cases q⟩
  | .inr (t, mk), hs, hl =>
    obtain ⟨l1, l2, l3, l4⟩ := hl t mk rfl
    obtain ⟨_, S1, e1, x1, x2, x3⟩ := csum_run hs.1 hr l3 l4
    have g5 : S1.1 30 5 = S.1 30 5 := x1.2 _ _ (fun _ => by omega) (by omega) (by omega)
    have g6 : S1.1 30 6 = S.1 30 6 := x1.2 _ _ (fun _ => by omega) (by omega) (by omega)
    refine ⟨S1, e1, x1, fun i hi => x2 i (by omega), ?_, fun t' mk' q => ?_⟩
    · show SRc v len (match sumR (kdV v len) (vlV v len) 9 0 t with | .inl e => (.inl e : Stt) | .inr (t2, _) => .inr (t2, mk)) S1
      cases hsr : sumR (kdV v len) (vlV v len) 9 0 t with
      | inl e =>
        obtain ⟨f, u⟩ := e
        rw [hsr] at x3
        exact x3.1
      | inr w =>
        obtain ⟨t2, c⟩ := w
        rw [hsr] at x3
        exact ⟨x3.1, MKc_set hs.2 g5 g6⟩
    · obtain ⟨t0, h0, h1, h2, h3, h4, h5⟩ := su_inr (fun a b q => by cases q; exact hs.1.1) q
      cases h0
      rw [h5] at x3
      exact ⟨fun i hi => x2 i hi, x3.2.2, x3.2.1, by omega⟩
/-- a piece -/
theorem piece_S {st : Stt} {cs : List (List Nat)} (hk : k < 4) (hc : cs.length ≤ 12) (h : QS v len Bc k q0 st cs S) : ∃ S1 S3, f_X4_readSum RF 30 0 S = some ((), S1) ∧ f_X2_endPiece (S1.2.2 (S1.2.2 30 1) 10) (nI k) S1 = some ((), S3) ∧ FL Bc k q0 S S3 ∧ QS v len Bc k q0 (suS v len st) (cs ++ [suC v len st]) S3 := by
  obtain ⟨S1, e1, x1, x2, x3, x4⟩ := csu_S h
  obtain ⟨hr, hs, ⟨p, hp, hp'⟩, hl⟩ := h
  have hB := hr.1
  have r1 : RRf Bc S1.2.2 := FX_rr x1 hr
  have p1 : S1.1 (Bc + 10) k = nI p := (x1.2 _ _ (by omega) (by omega) (by omega)).trans hp'
  obtain ⟨S3, e3, i3, o3, z3, y3⟩ := endp_run r1 hk hp p1
  refine ⟨S1, S3, e1, by rw [rr_301 r1, rr_b10 r1]; exact e3, ⟨i3.trans x1.1, fun a i h1 h2 h3 h4 h5 => ?_⟩, by rw [i3]; exact r1, SRc_30 x3 (by rw [i3]) (fun a i ha => o3 a i (by omega) (by omega)), z3, fun t mk q => ?_⟩
  · rw [o3 a i h4 h5]
    by_cases c : a = Bc + 8
    · rw [c]; exact x2 i (h3 c)
    · exact x1.2 a i (fun e => Or.inl (h1 e)) h2 c
  · obtain ⟨w1, w2, w3, w4⟩ := x4 t mk q
    obtain ⟨t0, g0⟩ : ∃ t0, st = .inr (t0, mk) := by
      match st, hs, q with
      | .inl e, _, q => cases q
      | .inr (t0, mk0), hs, q =>
        obtain ⟨t1, h0, -⟩ := su_inr (fun a b q => by cases q; exact hs.1.1) q
        exact ⟨t1, h0⟩
    obtain ⟨l1, l2, l3, l4⟩ := hl t0 mk g0
    have ep : p = cs.length := (nI_eq (by omega) (by omega)).mp (hp'.symm.trans l2)
    obtain ⟨y4, y5, y6⟩ := y3 (by omega)
    have e6 : S3.1 (Bc + 6) 2 = S1.1 (Bc + 6) 2 := o3 _ _ (by omega) (by omega)
    have htt : t ≤ 400 := by rw [q] at x3; exact x3.1.1
    refine ⟨?_, ?_, ?_, ?_⟩
    · refine PCs_snoc (PCs_keep l1 (fun i h1 h2 => ?_) (fun i hi => ?_)) ?_ ?_ (by omega)
      · exact (y6 i (by omega)).trans (x1.2 _ _ (by omega) (by omega) (by omega))
      · exact (o3 _ _ (by omega) (by omega)).trans (w1 i hi)
      · rw [show 0 + cs.length + 1 = p + 1 by omega]
        exact y5.trans w3
      · exact CDs_set w2 (fun i => o3 _ _ (by omega) (by omega))
    · rw [y4, List.length_append, List.length_singleton, ep]
    · rw [e6, w3, totL_app, Nat.add_assoc]
    · rw [totL_app]; omega
theorem takeL_S {st : Stt} {cs : List (List Nat)} {m : Nat} (hm : m < 128) (h23 : m ≠ 23) (h24 : m ≠ 24) (h : QS v len Bc k q0 st cs S) : ∃ u S', f_X4_take 30 (nI m) S = some (nI u, S') ∧ FL Bc k q0 S S' ∧ QS v len Bc k q0 (tkS v len m st) cs S' := by
  obtain ⟨hr, hs, ⟨p, hp, hp'⟩, hl⟩ := h
  have hB := hr.1
  obtain ⟨u, S1, e1, -, f1, s1, -⟩ := take_S hr hs hm h23 h24
  refine ⟨u, S1, e1, f1.fl, FY_rr f1 hr, s1, ⟨p, hp, (f1.2 _ _ (by omega)).trans hp'⟩, fun t mk q => ?_⟩
  obtain ⟨t0, g0, -, -, e0, -⟩ := tk_inr q
  obtain ⟨l1, l2, l3, l4⟩ := hl t0 mk g0
  exact ⟨PCs_set l1 (fun i => f1.2 _ _ (by omega)) (fun i => f1.2 _ _ (by omega)), (f1.2 _ _ (by omega)).trans l2, (f1.2 _ _ (by omega)).trans l3, by omega⟩
/-- an if -/
theorem cbody_S {st : Stt} {acc : List Tp} {i : Nat} {q47 : Nat → Int32 → Int32 → St → Option (Unit × St)} (hk : k < 4) (hc : acc.length ≤ 3) (h : QS v len Bc k q0 st (flatT acc) S) : ∃ S', b_X4_readLaw_71 q47 30 (nI k) (nI i) S = q47 30 (nI k) (nI (i + 1)) S' ∧ FL Bc k q0 S S' ∧ QS v len Bc k q0 (if7 v len st) (flatT (acc ++ [ifT v len st])) S' := by
  have hl := flatT_len acc
  obtain ⟨u1, S1, e1, f1, s1⟩ := takeL_S (m := 9) (by decide) (by decide) (by decide) h
  obtain ⟨S2, S3, e2, e3, f3, s3⟩ := piece_S hk (by omega) s1
  obtain ⟨u4, S4, e4, f4, s4⟩ := takeL_S (m := 60) (by decide) (by decide) (by decide) s3
  obtain ⟨S5, S6, e5, e6, f6, s6⟩ := piece_S hk (by rw [List.length_append, List.length_singleton]; omega) s4
  obtain ⟨u7, S7, e7, f7, s7⟩ := takeL_S (m := 10) (by decide) (by decide) (by decide) s6
  obtain ⟨S8, S9, e8, e9, f9, s9⟩ := piece_S hk (by rw [List.length_append, List.length_append, List.length_singleton, List.length_singleton]; omega) s7
  obtain ⟨u10, S10, e10, f10, s10⟩ := takeL_S (m := 11) (by decide) (by decide) (by decide) s9
  unfold b_X4_readLaw_71
  rw [show f_X4_take 30 9 S = some (nI u1, S1) from e1, bdq, e2, bdq, e3, bdq, show f_X4_take 30 60 S3 = some (nI u4, S4) from e4, bdq, e5, bdq, e6, bdq, show f_X4_take 30 10 S6 = some (nI u7, S7) from e7, bdq, e8, bdq, e9, bdq, show f_X4_take 30 11 S9 = some (nI u10, S10) from e10, bdq, nmq, nI_1]
  refine ⟨S10, rfl, (((((f1.tr f3).tr f4).tr f6).tr f7).tr f9).tr f10, ?_⟩
  rw [flatT_app]
  exact s10
theorem cfin_S {st : Stt} {acc : List Tp} (hk : k < 4) (hc : acc.length ≤ 4) (h : QS v len Bc k q0 st (flatT acc) S) : RN (b_X4_readLaw_153 30 (nI k) S) (fun _ S' => FL Bc k q0 S S' ∧ QS v len Bc k q0 (tkS v len 59 (suS v len st)) (flat acc (suC v len st)) S') := by
  have hl := flatT_len acc
  obtain ⟨S2, S3, e2, e3, f3, s3⟩ := piece_S hk (by omega) h
  obtain ⟨u4, S4, e4, f4, s4⟩ := takeL_S (m := 59) (by decide) (by decide) (by decide) s3
  unfold b_X4_readLaw_153
  rw [e2, bdq, e3, bdq, show f_X4_take 30 59 S3 = some (nI u4, S4) from e4, bdq, flat_T]
  exact RN_some ⟨f3.tr f4, s4⟩
theorem cif_loop (hk : k < 4) : ∀ (n i fu : Nat) (st : Stt) (acc : List Tp) (S : St), i + n = 4 → n + 1 < fu → acc.length ≤ i → QS v len Bc k q0 st (flatT acc) S → RN (b_X4_readLaw_47 fu 30 (nI k) (nI i) S) (fun _ S' => FL Bc k q0 S S' ∧ QS v len Bc k q0 (tkS v len 59 (suS v len (ifL v len n st acc).1)) (flat (ifL v len n st acc).2 (suC v len (ifL v len n st acc).1)) S') := by
  intro n
  induction n with
  | zero =>
    intro i fu st acc S hi hf ha h
    obtain ⟨fu, rfl⟩ : ∃ f, fu = f + 1 := ⟨fu - 1, by omega⟩
    have hi : i = 4 := by omega
    subst hi
    have hr := h.1
    rw [b_X4_readLaw_47, if_neg (show ¬ (4 : Int32) < nI 4 by decide)]
    match st, h with
    | .inl (f, u), h =>
      rw [hand_d h.2.1, bdq, if_neg (show ¬ (-1 : Int32) = 9 by decide), ifL_d]
      exact cfin_S (acc := acc) hk ha h
    | .inr (t, mk), h =>
      have hkl : kdT v len t < 128 := kd_lt
      rw [hand_l hr h.2.1.1, bdq, ifL_0]
      by_cases c : kdT v len t = 9
      · rw [if_pos (show nI (kdT v len t) = 9 by rw [c]; rfl), if_pos (show nI 4 = 4 by decide), show (2 : Int32) = nI 2 from rfl, refuse_l hr h.2.1.1, bdq]
        simp only [if_pos c]
        have f1 : FY S (sI (sI S 30 3 (nI 2)) 30 4 (nI (psT v len t))) := ⟨rfl, fun a k q => by rw [sI_ne (by omega), sI_ne (by omega)]⟩
        have d1 : QS v len Bc k q0 (.inl (2, t)) (flatT acc) (sI (sI S 30 3 (nI 2)) 30 4 (nI (psT v len t))) := ⟨hr, DDc_of h.2.1.1 (Or.inr rfl), by
          obtain ⟨p, hp, hp'⟩ := h.2.2.1
          have hB := hr.1
          exact ⟨p, hp, (f1.2 _ _ (by omega)).trans hp'⟩, fun t mk q => by cases q⟩
        revert f1 d1
        generalize sI (sI S 30 3 (nI 2)) 30 4 (nI (psT v len t)) = S0
        intro f1 d1
        obtain ⟨fu, rfl⟩ : ∃ f, fu = f + 1 := ⟨fu - 1, by omega⟩
        have dz : QS v len Bc k q0 (.inl (2, t)) (flatT []) S0 := ⟨d1.1, d1.2.1, d1.2.2.1, fun t mk q => by cases q⟩
        obtain ⟨S1, e1, f2, s1⟩ := cbody_S (acc := []) (i := 4) (q47 := b_X4_readLaw_47 (fu + 1)) hk (by decide) dz
        have s1' : QS v len Bc k q0 (.inl (2, t)) (flatT acc) S1 := ⟨s1.1, s1.2.1, s1.2.2.1, fun t mk q => by cases q⟩
        rw [e1, b_X4_readLaw_47, if_pos (show (4 : Int32) < nI (4 + 1) by decide)]
        exact RN_mono (cfin_S (acc := acc) hk ha s1') (fun _ S' hh => ⟨(f1.fl.tr f2).tr hh.1, hh.2⟩)
      · rw [if_neg (show ¬ nI (kdT v len t) = 9 from fun q => c ((nI_eq (b := 9) (by omega) (by decide)).mp q))]
        simp only [if_neg c]
        exact cfin_S (acc := acc) hk ha h
  | succ n ih =>
    intro i fu st acc S hi hf ha h
    obtain ⟨fu, rfl⟩ : ∃ f, fu = f + 1 := ⟨fu - 1, by omega⟩
    have hr := h.1
    rw [b_X4_readLaw_47, if_neg (show ¬ (4 : Int32) < nI i from nlt_l (a := 4) (by omega) (by omega) (by omega))]
    match st, h with
    | .inl (f, u), h =>
      rw [hand_d h.2.1, bdq, if_neg (show ¬ (-1 : Int32) = 9 by decide), ifL_d]
      exact cfin_S (acc := acc) hk (by omega) h
    | .inr (t, mk), h =>
      have hkl : kdT v len t < 128 := kd_lt
      rw [hand_l hr h.2.1.1, bdq, ifL_s]
      by_cases c : kdT v len t = 9
      · obtain ⟨S1, e1, f1, s1⟩ := cbody_S (i := i) (q47 := b_X4_readLaw_47 fu) hk (by omega) h
        rw [if_pos (show nI (kdT v len t) = 9 by rw [c]; rfl), if_neg (show ¬ nI i = 4 from fun q => by have := (nI_eq (b := 4) (by omega) (by decide)).mp q; omega), e1]
        simp only [if_pos c]
        exact RN_mono (ih (i + 1) fu _ _ S1 (by omega) (by omega) (by rw [List.length_append, List.length_singleton]; omega) s1) (fun _ S' hh => ⟨f1.tr hh.1, hh.2⟩)
      · rw [if_neg (show ¬ nI (kdT v len t) = 9 from fun q => c ((nI_eq (b := 9) (by omega) (by decide)).mp q))]
        simp only [if_neg c]
        exact cfin_S (acc := acc) hk (by omega) h
theorem open_run (hr : RRf Bc S.2.2) (hk : k < 4) : f_X2_open (Bc + 6) (nI k) S = some ((), sI (sI S (Bc + 10) k 0) (Bc + 9) (14 * k) (S.1 (Bc + 6) 2)) := by
  have r2 : RRf Bc (sI S (Bc + 10) k 0).2.2 := hr
  unfold f_X2_open
  rw [ix_nI hk (by decide), obq, nmq, rr_l4 hr, show nI k * (14 : Int32) = nI (14 * k) by rw [show (14 : Int32) = nI 14 from rfl, pk_mul, Nat.mul_comm], ix_nI (show 14 * k < 56 by omega) (by decide), obq, nmq, rr_l3 r2, sI_ne (Or.inl (by omega))]
theorem c_law {A : RA} {t w : Nat} {mk : Mk} (hw : 3 ≤ w ∧ w ≤ 6) (hW : WA v len mk A) (h : KCs v len Bc (.inr (t, mk)) A S) : RN (f_X4_readLaw 30 (nI w) S) (fun _ S' => FZ Bc S S' ∧ KCs v len Bc (la5 v len w t mk) (laA v len w A t mk) S') := by
  obtain ⟨hr, hs, ⟨b0, b1, b2⟩, hN, ⟨q, q1, q2, q3⟩, hc⟩ := h
  obtain ⟨w1, w2, w3, w4, w5, w6⟩ := hW
  have hB := hr.1
  obtain ⟨k, rfl⟩ : ∃ k, w = 3 + k := ⟨w - 3, by omega⟩
  have hk : k < 4 := by omega
  obtain ⟨u1, S1, e1, -, f1, s1, -⟩ := take_S (k := 3 + k) hr hs (by omega) (by omega) (by omega)
  obtain ⟨u2, S2, e2, -, f2, s2, -⟩ := take_S (k := 61) (FY_rr f1 hr) s1 (by decide) (by decide) (by decide)
  have g2 := f1.tr f2
  have r2 := FY_rr g2 hr
  have q6 : S2.1 (Bc + 6) 2 = nI q := (g2.2 _ _ (by omega)).trans q1
  have i3 : (sI (sI S2 (Bc + 10) k 0) (Bc + 9) (14 * k) (S2.1 (Bc + 6) 2)).2 = S.2 := g2.1
  have o3 : ∀ a i, a ≠ 30 → (a = Bc + 9 → i ≠ 14 * k) → (a = Bc + 10 → i ≠ k) → (sI (sI S2 (Bc + 10) k 0) (Bc + 9) (14 * k) (S2.1 (Bc + 6) 2)).1 a i = S.1 a i := fun a i h1 h2 h3 => by
    rw [sI_ne (by omega), sI_ne (by omega)]
    exact g2.2 a i (fun e => absurd e h1)
  have fl3 : FL Bc k q S (sI (sI S2 (Bc + 10) k 0) (Bc + 9) (14 * k) (S2.1 (Bc + 6) 2)) := ⟨i3, fun a i h1 h2 h3 h4 h5 => by
    rw [sI_ne (by omega), sI_ne (by omega)]
    exact g2.2 a i h1⟩
  have s3 : QS v len Bc k q (la2 v len (3 + k) t mk) (flatT []) (sI (sI S2 (Bc + 10) k 0) (Bc + 9) (14 * k) (S2.1 (Bc + 6) 2)) := by
    refine ⟨by rw [i3]; exact hr, SRc_30 s2 rfl (fun a i ha => by rw [sI_ne (by omega), sI_ne (by omega)]), ⟨0, by omega, by rw [sI_ne (by omega), sI_at]; rfl⟩, fun t' mk' hq => ⟨?_, ?_, ?_, ?_⟩⟩
    · show (sI (sI S2 (Bc + 10) k 0) (Bc + 9) (14 * k) (S2.1 (Bc + 6) 2)).1 (Bc + 9) (14 * k) = nI q
      rw [sI_at]
      exact q6
    · rw [sI_ne (by omega), sI_at]; rfl
    · rw [sI_ne (by omega), sI_ne (by omega)]; exact q6
    · obtain ⟨t1, g1, -, -, g1', -⟩ := tk_inr hq
      obtain ⟨t0, g0, -, -, g0', -⟩ := tk_inr g1
      cases g0
      show q + 0 ≤ t' + 4
      omega
  unfold f_X4_readLaw
  rw [if_neg (show ¬ nI (3 + k) < 3 from nlt_l (b := 3) (by omega) (by omega) (by omega)), if_pos (show nI (3 + k) ≤ 6 from le_l (b := 6) (by omega) (by omega) (by omega)), nmq, show nI (3 + k) - 3 = nI k by rw [show (3 : Int32) = nI 3 from rfl, pk_sub (by omega)]; congr 1; omega, e1, bdq, show f_X4_take 30 61 S1 = some (nI u2, S2) from e2, bdq, rr_301 r2, rr_b10 r2, open_run r2 hk, bdq]
  refine RN_mono (cif_loop hk 4 0 FU _ [] _ (by decide) (by decide) (by decide) s3) (fun _ S' hh => ?_)
  obtain ⟨hf, hq⟩ := hh
  have fl := fl3.tr hf
  have z : FZ Bc S S' := ⟨by rw [fl.1], fun a i h1 h2 => fl.2 a i h1 (by omega) (by omega) (by omega) (by omega), fun a i _ _ => by rw [fl.1], fun i => fl.2 _ _ (by omega) (by omega) (by omega) (by omega) (by omega)⟩
  refine ⟨z, hq.1, hq.2.1, ?_⟩
  cases hst : la5 v len (3 + k) t mk with
  | inl e => exact trivial
  | inr w =>
    obtain ⟨t', mk'⟩ := w
    obtain ⟨m1, m2, m3, m4, m5, m6, m7⟩ := la_inr hst
    obtain ⟨p1, p2, p3, p4⟩ := hq.2.2.2 t' mk' hst
    have oo : ∀ a i, a ≠ 30 → (a = Bc + 6 → i ≠ 2) → a ≠ Bc + 8 → a ≠ Bc + 9 → a ≠ Bc + 10 → S'.1 a i = S.1 a i := fun a i h1 h2 h3 h4 h5 => fl.2 a i (by omega) h2 (by omega) (by omega) (by omega)
    refine ⟨⟨(oo _ _ (by omega) (by omega) (by omega) (by omega) (by omega)).trans b0, (oo _ _ (by omega) (by omega) (by omega) (by omega) (by omega)).trans b1, (oo _ _ (by omega) (by omega) (by omega) (by omega) (by omega)).trans b2⟩, fun i hi => by rw [fl.1]; exact hN i hi, ⟨_, p3, p4, fun j hj => ?_⟩, fun hn => ?_⟩
    · show RLq Bc j (updN (bLaw (rB A)) (3 + k - 3) (laT v len (3 + k) t mk, suC v len (la3 v len (3 + k) t mk)) j) _ S'
      rw [show 3 + k - 3 = k by omega]
      by_cases ej : j = k
      · rw [ej, updN_at]
        refine ⟨?_, q, p1, Nat.le_refl _⟩
        rw [p2, flat_len]
        rfl
      · rw [updN_ne ej]
        obtain ⟨r1, p, r3, r4⟩ := q3 j hj
        have hl := w5 j hj
        have hfl := flat_len (bLaw (rB A) j).1 (bLaw (rB A) j).2
        have hl4 := hl.1
        refine ⟨(fl.2 _ _ (by omega) (by omega) (by omega) (by omega) (by omega)).trans r1, p, PCs_keep r3 (fun i h1 h2 => fl.2 _ _ (by omega) (by omega) (by omega) (by omega) (by omega)) (fun i hi => fl.2 _ _ (by omega) (by omega) (by omega) (by omega) (by omega)), by omega⟩
    · obtain ⟨c1, c2, c3, c4, c5⟩ := hc (m1.symm.trans hn)
      exact ⟨(oo _ _ (by omega) (by omega) (by omega) (by omega) (by omega)).trans c1, (oo _ _ (by omega) (by omega) (by omega) (by omega) (by omega)).trans c2, fun p hp => (oo _ _ (by omega) (by omega) (by omega) (by omega) (by omega)).trans (c3 p hp), fun e he => ⟨(oo _ _ (by omega) (by omega) (by omega) (by omega) (by omega)).trans (c4 e he).1, (oo _ _ (by omega) (by omega) (by omega) (by omega) (by omega)).trans (c4 e he).2⟩, fun i hi => (oo _ _ (by omega) (by omega) (by omega) (by omega) (by omega)).trans (c5 i hi)⟩
theorem c_nolaw {A : RA} {t w : Nat} {mk : Mk} (hw : w < 128) (hw3 : ¬ (3 ≤ w ∧ w ≤ 6)) (h : KCs v len Bc (.inr (t, mk)) A S) : RN (f_X4_readLaw 30 (nI w) S) (fun _ S' => FZ Bc S S' ∧ KCs v len Bc (.inl (1, t)) A S') := by
  obtain ⟨hr, hs, -⟩ := h
  have hB := hr.1
  have go : RN (b_X4_readLaw_11 30 S) (fun _ S' => FZ Bc S S' ∧ KCs v len Bc (.inl (1, t)) A S') := by
    unfold b_X4_readLaw_11
    rw [show (1 : Int32) = nI 1 from rfl, refuse_l hr hs.1, bdq]
    have f1 : FY S (sI (sI S 30 3 (nI 1)) 30 4 (nI (psT v len t))) := ⟨rfl, fun a k q => by rw [sI_ne (by omega), sI_ne (by omega)]⟩
    exact RN_some ⟨f1.fz hB, hr, DDc_of hs.1 (Or.inl rfl), trivial⟩
  unfold f_X4_readLaw
  by_cases c : w < 3
  · rw [if_pos (show nI w < 3 from lt_l (b := 3) (by omega) (by omega) c)]
    exact go
  · rw [if_neg (show ¬ nI w < 3 from nlt_l (b := 3) (by omega) (by omega) (by omega)), if_neg (show ¬ nI w ≤ 6 from nle_l (b := 6) (by omega) (by omega) (by omega))]
    exact go
end CLW

/-! the class reads a sum -/
def RRf (Bc : Nat) (f : Nat → Nat → Nat) : Prop := (Bc = 2 ∨ Bc = 16) ∧ ∃ B B1, f = RB B B1 Bc
section RRS
variable {Bc : Nat} {f : Nat → Nat → Nat}
theorem rr_300 (h : RRf Bc f) : f 30 0 = 31 := by obtain ⟨-, B, B1, rfl⟩ := h; exact rb_30_0
theorem rr_301 (h : RRf Bc f) : f 30 1 = Bc := by obtain ⟨-, B, B1, rfl⟩ := h; exact rb_30_1
theorem rr_310 (h : RRf Bc f) : f 31 0 = 32 := by obtain ⟨-, B, B1, rfl⟩ := h; exact rb_31_0
theorem rr_311 (h : RRf Bc f) : f 31 1 = 33 := by obtain ⟨-, B, B1, rfl⟩ := h; exact rb_31_1
theorem rr_312 (h : RRf Bc f) : f 31 2 = 34 := by obtain ⟨-, B, B1, rfl⟩ := h; exact rb_31_2
theorem rr_b10 (h : RRf Bc f) : f Bc 10 = Bc + 6 := by
  obtain ⟨h1 | h1, B, B1, rfl⟩ := h <;> subst h1 <;> rfl
theorem rr_b5 (h : RRf Bc f) : f Bc 5 = Bc + 1 := by
  obtain ⟨h1 | h1, B, B1, rfl⟩ := h <;> subst h1 <;> rfl
theorem rr_b6 (h : RRf Bc f) : f Bc 6 = Bc + 2 := by
  obtain ⟨h1 | h1, B, B1, rfl⟩ := h <;> subst h1 <;> rfl
theorem rr_b7 (h : RRf Bc f) : f Bc 7 = Bc + 3 := by
  obtain ⟨h1 | h1, B, B1, rfl⟩ := h <;> subst h1 <;> rfl
theorem rr_b8 (h : RRf Bc f) : f Bc 8 = Bc + 4 := by
  obtain ⟨h1 | h1, B, B1, rfl⟩ := h <;> subst h1 <;> rfl
theorem rr_b9 (h : RRf Bc f) : f Bc 9 = Bc + 5 := by
  obtain ⟨h1 | h1, B, B1, rfl⟩ := h <;> subst h1 <;> rfl
theorem rr_b11 (h : RRf Bc f) : f Bc 11 = Bc + 12 := by
  obtain ⟨h1 | h1, B, B1, rfl⟩ := h <;> subst h1 <;> rfl
theorem rr_s (h : RRf Bc f) : f (Bc + 12) 0 = Bc + 13 := by
  obtain ⟨h1 | h1, B, B1, rfl⟩ := h <;> subst h1 <;> rfl
theorem rr_l1 (h : RRf Bc f) : f (Bc + 6) 1 = Bc + 8 := by
  obtain ⟨h1 | h1, B, B1, rfl⟩ := h <;> subst h1 <;> rfl
theorem rr_l3 (h : RRf Bc f) : f (Bc + 6) 3 = Bc + 9 := by
  obtain ⟨h1 | h1, B, B1, rfl⟩ := h <;> subst h1 <;> rfl
theorem rr_l4 (h : RRf Bc f) : f (Bc + 6) 4 = Bc + 10 := by
  obtain ⟨h1 | h1, B, B1, rfl⟩ := h <;> subst h1 <;> rfl
end RRS
abbrev kdV (v : Nat → Int32) (len : Nat) : Nat → Nat := kdT v len
abbrev vlV (v : Nat → Int32) (len : Nat) : Nat → Nat := fun t => vlN v len (psT v len t)
section CEX
variable {v : Nat → Int32} {len Bc : Nat} {S S' : St}
/-- at the token t, with no FAULT so far -/
def LVc (v : Nat → Int32) (len t : Nat) (S : St) : Prop := t ≤ 400 ∧ S.1 30 2 = nI t ∧ S.1 30 3 = 0 ∧ gdT v len t ∧ TKc v len 401 S ∧ S.1 30 4 = -1
/-- stuck -/
def DDc (f p : Nat) (S : St) : Prop := S.1 30 3 = nI f ∧ S.1 30 4 = nI p ∧ (f = 1 ∨ f = 2) ∧ ∃ t, t ≤ 400 ∧ S.1 30 2 = nI t
/-- only where the reader is, and the codes, are changed -/
def FX (Bc : Nat) (S S' : St) : Prop := S'.2 = S.2 ∧ ∀ a k, (a = 30 → k < 2 ∨ 4 < k) → (a = Bc + 6 → k ≠ 2) → a ≠ Bc + 8 → S'.1 a k = S.1 a k
theorem FX.rf : FX Bc S S := ⟨rfl, fun _ _ _ _ _ => rfl⟩
theorem FX.tr {S S' S'' : St} (h : FX Bc S S') (h' : FX Bc S' S'') : FX Bc S S'' := ⟨h'.1.trans h.1, fun a k h1 h2 h3 => (h'.2 a k h1 h2 h3).trans (h.2 a k h1 h2 h3)⟩
theorem FX_30 {i : Nat} {x : Int32} (h : 2 ≤ i) (h2 : i ≤ 4) : FX Bc S (sI S 30 i x) := ⟨rfl, fun a k h _ _ => sI_ne (by omega)⟩
theorem FX_tk (hB : Bc = 2 ∨ Bc = 16) (h : FX Bc S S') (hT : TKc v len 401 S) : TKc v len 401 S' := fun t h1 h2 h3 => by
  obtain ⟨a1, a2, a3⟩ := hT t h1 h2 h3
  refine ⟨(h.2 _ _ (by omega) (by omega) (by omega)).trans a1, (h.2 _ _ (by omega) (by omega) (by omega)).trans a2, fun q => ?_⟩
  rw [h.1]
  exact a3 q
theorem FX_rr (h : FX Bc S S') (hr : RRf Bc S.2.2) : RRf Bc S'.2.2 := by rw [h.1]; exact hr
theorem LVc.kd {t : Nat} (h : LVc v len t S) : S.1 32 t = nI (kdT v len t) := (h.2.2.2.2.1 t (by have := h.1; omega) h.1 h.2.2.2.1).1
theorem LVc.ps {t : Nat} (h : LVc v len t S) : S.1 33 t = nI (psT v len t) := (h.2.2.2.2.1 t (by have := h.1; omega) h.1 h.2.2.2.1).2.1
theorem hand_l {t : Nat} (hr : RRf Bc S.2.2) (h : LVc v len t S) : f_X4_atHand 30 S = some (nI (kdT v len t), S) := by
  unfold f_X4_atHand
  rw [if_pos h.2.2.1, h.2.1, ix_nI (show t < 401 by have := h.1; omega) (by decide), obq, rr_300 hr, rr_310 hr, h.kd]
theorem f_nz {f : Nat} (h : f = 1 ∨ f = 2) : ¬ nI f = 0 := by rcases h with rfl | rfl <;> decide
theorem hand_d {f p : Nat} (h : DDc f p S) : f_X4_atHand 30 S = some (-1, S) := by
  unfold f_X4_atHand
  rw [if_neg (by rw [h.1]; exact f_nz h.2.2.1)]
theorem refuse_l {t k : Nat} (hr : RRf Bc S.2.2) (h : LVc v len t S) : f_X4_refuse 30 (nI k) S = some ((), sI (sI S 30 3 (nI k)) 30 4 (nI (psT v len t))) := by
  unfold f_X4_refuse
  have r1 : RRf Bc (sI S 30 3 (nI k)).2.2 := hr
  rw [if_pos h.2.2.1, nmq, show (sI S 30 3 (nI k)).1 30 2 = nI t from (sI_ne (Or.inr (by decide))).trans h.2.1, ix_nI (show t < 401 by have := h.1; omega) (by decide), obq, nmq, rr_300 r1, rr_311 r1, sI_ne (Or.inl (by decide)), h.ps]
theorem refuse_d {f p : Nat} {k : Int32} (h : DDc f p S) : f_X4_refuse 30 k S = some ((), S) := by
  unfold f_X4_refuse
  rw [if_neg (by rw [h.1]; exact f_nz h.2.2.1)]
theorem DDc_of {t k : Nat} (h : LVc v len t S) (hk : k = 1 ∨ k = 2) : DDc k (psT v len t) (sI (sI S 30 3 (nI k)) 30 4 (nI (psT v len t))) := ⟨(sI_ne (Or.inr (by decide))).trans sI_at, sI_at, hk, t, h.1, by rw [sI_ne (Or.inr (by decide)), sI_ne (Or.inr (by decide))]; exact h.2.1⟩
theorem take_d {f p t : Nat} {k : Int32} (h : DDc f p S) (hk : k ≠ -1) (ht : S.1 30 2 = nI t) : f_X4_take 30 k S = some (nI t, S) := by
  unfold f_X4_take
  rw [hand_d h, bdq, if_neg (fun q => hk q.symm), refuse_d h, bdq, ht]
/-- a take at the token t -/
def tkA (v : Nat → Int32) (len k t : Nat) : (Nat × Nat) ⊕ Nat := if kdT v len t = k then (if t < 400 then .inr (t + 1) else .inl (2, t)) else .inl (1, t)
theorem take_l {t k : Nat} (hr : RRf Bc S.2.2) (h : LVc v len t S) (hk : k < 128) (h23 : k ≠ 23) (h24 : k ≠ 24) : ∃ S', f_X4_take 30 (nI k) S = some (nI t, S') ∧ FX Bc S S' ∧ (∀ a k, a ≠ 30 → S'.1 a k = S.1 a k) ∧ match tkA v len k t with | .inl (f, u) => DDc f (psT v len u) S' | .inr u => LVc v len u S' := by
  have ht := h.1
  have hkd : kdT v len t < 128 := kd_lt
  unfold f_X4_take tkA
  rw [hand_l hr h, bdq]
  by_cases c1 : kdT v len t = k
  · rw [if_pos (by rw [c1]), if_pos c1, h.2.1]
    by_cases c2 : t < 400
    · rw [if_pos (show nI t < 400 from lt_l (b := 400) (by omega) (by omega) c2), if_pos c2, nmq, nI_1, show (sI S 30 2 (nI (t + 1))).1 30 2 = nI (t + 1) from sI_at, s1_eq (by omega), show t + 1 - 1 = t by omega]
      refine ⟨_, rfl, FX_30 (by decide) (by decide), fun a k ha => sI_ne (Or.inl ha), by omega, sI_at, (sI_ne (Or.inr (by decide))).trans h.2.2.1, fun i hi => ?_, ?_, (sI_ne (Or.inr (by decide))).trans h.2.2.2.2.2⟩
      · by_cases e : i = t
        · subst e; rw [c1]; exact ⟨h23, h24⟩
        · exact h.2.2.2.1 i (by omega)
      · intro j h1 h2 h3
        obtain ⟨a1, a2, a3⟩ := h.2.2.2.2.1 j h1 h2 h3
        exact ⟨(sI_ne (Or.inl (by decide))).trans a1, (sI_ne (Or.inl (by decide))).trans a2, a3⟩
    · rw [if_neg (show ¬ nI t < 400 from nlt_l (b := 400) (by omega) (by omega) (by omega)), if_neg c2, show (2 : Int32) = nI 2 from rfl, refuse_l hr h, bdq]
      refine ⟨_, by rw [sI_ne (Or.inr (by decide)), sI_ne (Or.inr (by decide)), h.2.1], (FX_30 (by decide) (by decide)).tr (FX_30 (by decide) (by decide)), fun a k ha => by rw [sI_ne (Or.inl ha), sI_ne (Or.inl ha)], DDc_of h (Or.inr rfl)⟩
  · rw [if_neg (fun q => c1 ((nI_eq (by omega) (by omega)).mp q)), if_neg c1, show (1 : Int32) = nI 1 from rfl, refuse_l hr h, bdq]
    refine ⟨_, by rw [sI_ne (Or.inr (by decide)), sI_ne (Or.inr (by decide)), h.2.1], (FX_30 (by decide) (by decide)).tr (FX_30 (by decide) (by decide)), fun a k ha => by rw [sI_ne (Or.inl ha), sI_ne (Or.inl ha)], DDc_of h (Or.inl rfl)⟩
theorem put_run {q c : Nat} (hr : RRf Bc S.2.2) (hq : S.1 (Bc + 6) 2 = nI q) (h4 : q < 404) : f_X2_put (Bc + 6) (nI c) S = some ((), sI (sI S (Bc + 8) q (nI c)) (Bc + 6) 2 (nI (q + 1))) := by
  unfold f_X2_put
  rw [hq, if_neg (show ¬ Int32.ofNat 404 ≤ nI q from nle_l (a := 404) (by omega) (by omega) h4), ix_nI h4 (by decide), obq, nmq, rr_l1 hr, nmq, sI_ne (Or.inl (by omega)), hq, nI_1]
/-- what a reading has written -/
def XRc (v : Nat → Int32) (len Bc q : Nat) (r : PR) (S S' : St) : Prop := FX Bc S S' ∧ (∀ k, k < q → S'.1 (Bc + 8) k = S.1 (Bc + 8) k) ∧ match r with
  | .inl (f, u) => DDc f (psT v len u) S' ∧ ∃ q', q ≤ q' ∧ q' ≤ 404 ∧ S'.1 (Bc + 6) 2 = nI q'
  | .inr (t2, c) => LVc v len t2 S' ∧ S'.1 (Bc + 6) 2 = nI (q + c.length) ∧ CDs (Bc + 8) q c S'
theorem CDs_app {q : Nat} {c : List Nat} {x : Nat} (h : CDs (Bc + 8) q c S) (hx : S.1 (Bc + 8) (q + c.length) = nI x) : CDs (Bc + 8) q (c ++ [x]) S := by
  intro j d hj
  by_cases e : j < c.length
  · rw [List.getElem?_append_left e] at hj
    exact h j d hj
  · rw [List.getElem?_append_right (by omega)] at hj
    have hj0 : j - c.length = 0 := by
      cases hz : j - c.length with
      | zero => rfl
      | succ k => rw [hz] at hj; simp at hj
    rw [hj0] at hj
    simp at hj
    rw [show q + j = q + c.length by omega, hx, hj]
theorem CDs_app2 {q : Nat} {c d : List Nat} (h : CDs (Bc + 8) q c S) (hd : CDs (Bc + 8) (q + c.length) d S) : CDs (Bc + 8) q (c ++ d) S := by
  intro j x hj
  by_cases e : j < c.length
  · rw [List.getElem?_append_left e] at hj
    exact h j x hj
  · rw [List.getElem?_append_right (by omega)] at hj
    have := hd (j - c.length) x hj
    rw [show q + c.length + (j - c.length) = q + j by omega] at this
    exact this
theorem CDs_keep {q : Nat} {c : List Nat} (h : CDs (Bc + 8) q c S) (hk : ∀ k, k < q + c.length → S'.1 (Bc + 8) k = S.1 (Bc + 8) k) : CDs (Bc + 8) q c S' := fun j d hj => by
  have : j < c.length := (List.getElem?_eq_some_iff.mp hj).1
  rw [hk _ (by omega)]
  exact h j d hj
theorem LVc_fx {t : Nat} (hB : Bc = 2 ∨ Bc = 16) (h : LVc v len t S) (hE : FX Bc S S') (h2 : S'.1 30 2 = S.1 30 2) (h3 : S'.1 30 3 = S.1 30 3) (h4 : S'.1 30 4 = S.1 30 4) : LVc v len t S' := ⟨h.1, h2.trans h.2.1, h3.trans h.2.2.1, h.2.2.2.1, FX_tk hB hE h.2.2.2.2.1, h4.trans h.2.2.2.2.2⟩
/-- a code is put behind what was read -/
theorem put_x {q t x : Nat} {c : List Nat} (hr : RRf Bc S'.2.2) (h : XRc v len Bc q (.inr (t, c)) S S') (h4 : q + c.length < 404) : ∃ S2, f_X2_put (Bc + 6) (nI x) S' = some ((), S2) ∧ XRc v len Bc q (.inr (t, c ++ [x])) S S2 := by
  obtain ⟨h1, h2, h3, h5, h6⟩ := h
  have hB := hr.1
  refine ⟨_, put_run hr h5 h4, h1.tr ⟨rfl, fun a k a1 a2 a3 => by rw [sI_ne (by omega), sI_ne (by omega)]⟩, fun k hk => ?_, LVc_fx hB h3 ⟨rfl, fun a k a1 a2 a3 => by rw [sI_ne (by omega), sI_ne (by omega)]⟩ (by rw [sI_ne (by omega), sI_ne (by omega)]) (by rw [sI_ne (by omega), sI_ne (by omega)]) (by rw [sI_ne (by omega), sI_ne (by omega)]), ?_, CDs_app (CDs_keep h6 (fun k hk => by rw [sI_ne (by omega), sI_ne (by omega)])) ?_⟩
  · rw [sI_ne (by omega), sI_ne (by omega)]; exact h2 k hk
  · rw [sI_at, List.length_append, List.length_singleton]; rfl
  · rw [sI_ne (by omega), sI_at]
end CEX

/-! the reference reads a sum, by a pile of waiting signs -/
section MEX
variable {v : Nat → Int32} {len : Nat} {S S' : St}
theorem km_a : ∀ k : Nat, k < 128 → (kmN k = 6 ↔ k = 40) ∧ (kmN k = 7 ↔ k = 41) ∧ (kmN k = 8 ↔ k = 43) ∧ (kmN k = 9 ↔ k = 45) ∧ (kmN k = 10 ↔ k = 42) ∧ (kmN k = 15 ↔ k = 47) ∧ (kmN k = 2 ↔ k = 22) ∧ kmN k < 128 := by decide +kernel
theorem km_b : ∀ k : Nat, k < 128 → (kmN k = 1 ↔ k = 21) ∧ (kmN k = 0 ↔ k = 23) ∧ (kmN k = 4 ↔ k = 59) ∧ (kmN k = 5 ↔ k = 61) ∧ (kmN k = 13 ↔ k = 60) ∧ (kmN k = 29 ↔ k = 9) ∧ (kmN k = 30 ↔ k = 10) ∧ (kmN k = 31 ↔ k = 11) := by decide +kernel
theorem km_c : ∀ k : Nat, k < 128 → ((32 ≤ kmN k ∧ kmN k ≤ 40) ↔ (12 ≤ k ∧ k ≤ 20)) ∧ (12 ≤ k → k ≤ 20 → kmN k - 32 = k - 12) := by decide +kernel
def LVm (v : Nat → Int32) (len t : Nat) (S : St) : Prop := t ≤ 400 ∧ S.1 140 11 = nI t ∧ S.1 140 13 = 0 ∧ gdT v len t ∧ TKm v len 401 S
def DDm (f p : Nat) (S : St) : Prop := S.1 140 13 = nI f ∧ S.1 140 14 = nI p ∧ (f = 1 ∨ f = 2) ∧ ∃ t, t ≤ 400 ∧ S.1 140 11 = nI t
/-- only where the reader is, the pile and the codes are changed -/
def FM (S S' : St) : Prop := S'.2 = S.2 ∧ ∀ a k, (a = 140 → k ≠ 11 ∧ k ≠ 12 ∧ k ≠ 13 ∧ k ≠ 14 ∧ k ≠ 43 ∧ k ≠ 47) → (a < 169 ∨ 171 < a) → S'.1 a k = S.1 a k
theorem FM.rf : FM S S := ⟨rfl, fun _ _ _ _ => rfl⟩
theorem FM.tr {S S' S'' : St} (h : FM S S') (h' : FM S' S'') : FM S S'' := ⟨h'.1.trans h.1, fun a k h1 h2 => (h'.2 a k h1 h2).trans (h.2 a k h1 h2)⟩
theorem FM_0 {i : Nat} {x : Int32} (h : i = 11 ∨ i = 12 ∨ i = 13 ∨ i = 14 ∨ i = 43 ∨ i = 47) : FM S (sI S 140 i x) := ⟨rfl, fun a k h1 _ => sI_ne (by omega)⟩
theorem FM_1 {c k : Nat} {x : Int32} (h : 169 ≤ c) (h2 : c ≤ 171) : FM S (sI S c k x) := ⟨rfl, fun a k _ h3 => sI_ne (by omega)⟩
theorem FM_tk (h : FM S S') (hT : TKm v len 401 S) : TKm v len 401 S' := fun t h1 h2 h3 => by
  obtain ⟨a1, a2, a3, a4⟩ := hT t h1 h2 h3
  refine ⟨(h.2 _ _ (fun q => absurd q (by decide)) (by decide)).trans a1, (h.2 _ _ (fun q => absurd q (by decide)) (by decide)).trans a2, fun q => (h.2 _ _ (fun q => absurd q (by decide)) (by decide)).trans (a3 q), fun q => ?_⟩
  rw [h.1]
  exact a4 q
theorem FM_rf (h : FM S S') (hr : RFM S.2.2) : RFM S'.2.2 := by rw [h.1]; exact hr
theorem LVm.kd {t : Nat} (h : LVm v len t S) : S.1 143 t = nI (kmN (kdT v len t)) := (h.2.2.2.2 t (by have := h.1; omega) h.1 h.2.2.2.1).1
theorem LVm.ps {t : Nat} (h : LVm v len t S) : S.1 144 t = nI (psT v len t) := (h.2.2.2.2 t (by have := h.1; omega) h.1 h.2.2.2.1).2.1
theorem LVm_fm {t : Nat} (h : LVm v len t S) (hE : FM S S') (h2 : S'.1 140 11 = S.1 140 11) (h3 : S'.1 140 13 = S.1 140 13) : LVm v len t S' := ⟨h.1, h2.trans h.2.1, h3.trans h.2.2.1, h.2.2.2.1, FM_tk hE h.2.2.2.2⟩
theorem is_l {t k : Nat} (hr : RFM S.2.2) (h : LVm v len t S) (hk : k < 128) : f_X10_is 140 (nI k) S = some (if kmN (kdT v len t) = k then 1 else 0, S) := by
  have hkm := (km_a (kdT v len t) kd_lt).2.2.2.2.2.2.2
  unfold f_X10_is
  rw [if_pos h.2.2.1, h.2.1, ix_nI (show t < 403 by have := h.1; omega) (by decide), obq, rq_5 hr, h.kd]
  by_cases c : kmN (kdT v len t) = k
  · rw [if_pos (by rw [c]), if_pos c]
  · rw [if_neg (fun q => c ((nI_eq (by omega) (by omega)).mp q)), if_neg c]
theorem is_d {f p : Nat} {k : Int32} (h : DDm f p S) : f_X10_is 140 k S = some (0, S) := by
  unfold f_X10_is
  rw [if_neg (by rw [h.1]; exact f_nz h.2.2.1)]
theorem f_pos {f : Nat} (h : f = 1 ∨ f = 2) : ¬ nI f ≤ 0 := by rcases h with rfl | rfl <;> decide
theorem fail_l {t k : Nat} (hr : RFM S.2.2) (h : LVm v len t S) : f_X10_fail 140 (nI k) S = some ((), sI (sI S 140 13 (nI k)) 140 14 (nI (psT v len t))) := by
  have r1 : RFM (sI S 140 13 (nI k)).2.2 := hr
  unfold f_X10_fail
  rw [if_pos (by rw [h.2.2.1]; decide), nmq, show (sI S 140 13 (nI k)).1 140 11 = nI t from (sI_ne (Or.inr (by decide))).trans h.2.1, ix_nI (show t < 403 by have := h.1; omega) (by decide), obq, nmq, rq_6 r1, sI_ne (Or.inl (by decide)), h.ps]
theorem fail_d {f p : Nat} {k : Int32} (h : DDm f p S) : f_X10_fail 140 k S = some ((), S) := by
  unfold f_X10_fail
  rw [if_neg (by rw [h.1]; exact f_pos h.2.2.1)]
theorem DDm_of {t k : Nat} (h : LVm v len t S) (hk : k = 1 ∨ k = 2) : DDm k (psT v len t) (sI (sI S 140 13 (nI k)) 140 14 (nI (psT v len t))) := ⟨(sI_ne (Or.inr (by decide))).trans sI_at, sI_at, hk, t, h.1, by rw [sI_ne (Or.inr (by decide)), sI_ne (Or.inr (by decide))]; exact h.2.1⟩
theorem DDm_k {f p : Nat} (h : DDm f p S) (h1 : S'.1 140 13 = S.1 140 13) (h2 : S'.1 140 14 = S.1 140 14) (h3 : S'.1 140 11 = S.1 140 11) : DDm f p S' := by
  obtain ⟨a1, a2, a3, t, a4, a5⟩ := h
  exact ⟨h1.trans a1, h2.trans a2, a3, t, a4, h3.trans a5⟩
/-- a step on -/
theorem goes_l {t : Nat} (hr : RFM S.2.2) (h : LVm v len t S) (h23 : kdT v len t ≠ 23) (h24 : kdT v len t ≠ 24) : ∃ S', f_X10_goesOn 140 S = some ((), S') ∧ FM S S' ∧ (∀ a k, (a = 140 → k ≠ 11 ∧ k ≠ 13 ∧ k ≠ 14) → S'.1 a k = S.1 a k) ∧ if t < 400 then LVm v len (t + 1) S' else DDm 2 (psT v len t) S' := by
  have ht := h.1
  unfold f_X10_goesOn
  rw [h.2.1]
  by_cases c : t < 400
  · rw [if_neg (show ¬ nI t = 400 from fun q => by have := (nI_eq (b := 400) (by omega) (by decide)).mp q; omega), nmq, nI_1]
    simp only [if_pos c]
    refine ⟨_, rfl, FM_0 (by decide), fun a k h1 => sI_ne (by omega), by omega, sI_at, (sI_ne (Or.inr (by decide))).trans h.2.2.1, fun i hi => ?_, FM_tk (FM_0 (by decide)) h.2.2.2.2⟩
    by_cases e : i = t
    · subst e; exact ⟨h23, h24⟩
    · exact h.2.2.2.1 i (by omega)
  · have : t = 400 := by omega
    rw [if_pos (by rw [this]; rfl), show (2 : Int32) = nI 2 from rfl, fail_l hr h, bdq]
    simp only [if_neg c]
    exact ⟨_, rfl, (FM_0 (by decide)).tr (FM_0 (by decide)), fun a k h1 => by rw [sI_ne (by omega), sI_ne (by omega)], DDm_of h (Or.inr rfl)⟩
theorem goes_d {f p : Nat} (h : DDm f p S) : ∃ S', f_X10_goesOn 140 S = some ((), S') ∧ FM S S' ∧ (∀ a k, (a = 140 → k ≠ 11) → S'.1 a k = S.1 a k) ∧ DDm f p S' := by
  obtain ⟨h1, h2, h3, t, h4, h5⟩ := h
  unfold f_X10_goesOn
  rw [h5]
  by_cases c : t = 400
  · rw [if_pos (by rw [c]; rfl), fail_d ⟨h1, h2, h3, t, h4, h5⟩, bdq]
    exact ⟨S, rfl, FM.rf, fun _ _ _ => rfl, h1, h2, h3, t, h4, h5⟩
  · rw [if_neg (show ¬ nI t = 400 from fun q => c ((nI_eq (b := 400) (by omega) (by decide)).mp q)), nmq, nI_1]
    exact ⟨_, rfl, FM_0 (by decide), fun a k h1 => sI_ne (by omega), (sI_ne (Or.inr (by decide))).trans h1, (sI_ne (Or.inr (by decide))).trans h2, h3, t + 1, by omega, sI_at⟩
/-- a code more -/
theorem emit_l {n : Nat} {k x : Int32} (hr : RFM S.2.2) (hn : S.1 140 43 = nI n) (h8 : n < 840) : f_X10_emit 140 k x S = some ((), sI (sI (sI S 169 n k) 170 n x) 140 43 (nI (n + 1))) := by
  have r1 : RFM (sI S 169 n k).2.2 := hr
  unfold f_X10_emit
  rw [hn, ix_nI h8 (by decide), obq, nmq, rq_44 hr, show (sI S 169 n k).1 140 43 = nI n from (sI_ne (Or.inl (by decide))).trans hn, ix_nI h8 (by decide), obq, nmq, rq_45 r1, nmq, show (sI (sI S 169 n k) 170 n x).1 140 43 = nI n by rw [sI_ne (Or.inl (by decide)), sI_ne (Or.inl (by decide))]; exact hn, nI_1]
/-- the pile -/
def WP : List Nat → St → Prop
  | [], _ => True
  | x :: xs, S => S.1 171 xs.length = nI (kmN x) ∧ WP xs S
theorem WP_set : ∀ {p : List Nat}, WP p S → (∀ k, k < p.length → S'.1 171 k = S.1 171 k) → WP p S'
  | [], _, _ => trivial
  | x :: xs, h, hk => ⟨(hk _ (by simp)).trans h.1, WP_set h.2 (fun k hk' => hk k (by simp; omega))⟩
/-- of each level one weak and one strong sign at most -/
def SHP : List Nat → Prop
  | [] => True
  | x :: xs => SHP xs ∧ (x = 40 ∨ ((x = 43 ∨ x = 45) ∧ (xs = [] ∨ ∃ ys, xs = 40 :: ys)) ∨ ((x = 42 ∨ x = 47) ∧ (xs = [] ∨ ∃ y ys, xs = y :: ys ∧ (y = 40 ∨ y = 43 ∨ y = 45))))
def hdN : List Nat → Nat
  | [] => 0
  | x :: _ => if x = 40 then 0 else if x = 43 ∨ x = 45 then 1 else 2
theorem hdN_c {x : Nat} {xs : List Nat} : hdN (x :: xs) = if x = 40 then 0 else if x = 43 ∨ x = 45 then 1 else 2 := rfl
theorem hdN_le {p : List Nat} : hdN p ≤ 2 := by
  cases p with
  | nil => decide
  | cons x xs =>
    rw [hdN_c]
    by_cases c : x = 40
    · rw [if_pos c]; decide
    · rw [if_neg c]
      by_cases d : x = 43 ∨ x = 45
      · rw [if_pos d]; decide
      · rw [if_neg d]; decide
theorem SHP_len : ∀ {p : List Nat}, SHP p → p.length ≤ 3 * opn p + hdN p
  | [], _ => Nat.zero_le _
  | x :: xs, h => by
    have ih := SHP_len h.1
    have hh : hdN xs ≤ 2 := hdN_le
    rcases h.2 with e | ⟨e, e2⟩ | ⟨e, e2⟩
    · subst e
      rw [opn_o]
      show xs.length + 1 ≤ 3 * (opn xs + 1) + 0
      omega
    · rw [opn_c (by omega)]
      have h0 : hdN xs = 0 := by rcases e2 with rfl | ⟨ys, rfl⟩ <;> rfl
      have h1 : hdN (x :: xs) = 1 := by rw [hdN_c, if_neg (by omega), if_pos e]
      rw [h1]
      show xs.length + 1 ≤ _
      omega
    · rw [opn_c (by omega)]
      have h0 : hdN xs ≤ 1 := by
        rcases e2 with rfl | ⟨y, ys, rfl, e3⟩
        · decide
        · rw [hdN_c]
          rcases e3 with rfl | rfl | rfl <;> decide
      have h1 : hdN (x :: xs) = 2 := by rw [hdN_c, if_neg (by omega), if_neg (by omega)]
      rw [h1]
      show xs.length + 1 ≤ _
      omega
end MEX

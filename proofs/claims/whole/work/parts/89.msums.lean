/-! the reference reads a whole sum -/
section MSS
variable {v : Nat → Int32} {len : Nat} {S S' : St}
abbrev kdW (v : Nat → Int32) (len : Nat) (b : Bool) (t : Nat) (p o : List Nat) : PR := syT (kdV v len) (vlV v len) b t p o
theorem is_y {t k : Nat} (hr : RFM S.2.2) (h : LVm v len t S) (hk : k < 128) (e : kmN (kdT v len t) = k) : f_X10_is 140 (nI k) S = some (1, S) := by rw [is_l hr h hk, if_pos e]
theorem is_n {t k : Nat} (hr : RFM S.2.2) (h : LVm v len t S) (hk : k < 128) (e : ¬ kmN (kdT v len t) = k) : f_X10_is 140 (nI k) S = some (0, S) := by rw [is_l hr h hk, if_neg e]
theorem b145_s {t : Nat} {w : Int32} {q12 : Nat → Int32 → Int32 → St → Option (Unit × St)} (hr : RFM S.2.2) (h : LVm v len t S) (c : kdT v len t = 42 ∨ kdT v len t = 47) : b_X10_expression_145 q12 140 w S = b_X10_expression_234 q12 140 w 1 140 1 S := by
  have ka := km_a (kdT v len t) kd_lt
  unfold b_X10_expression_145 b_X10_expression_181 b_X10_expression_186 b_X10_expression_229
  rw [show (8 : Int32) = nI 8 from rfl, show (9 : Int32) = nI 9 from rfl, show (10 : Int32) = nI 10 from rfl, show (15 : Int32) = nI 15 from rfl, is_n hr h (by decide) (fun q => by have := ka.2.2.1.mp q; omega), bdq, if_pos rfl, is_n hr h (by decide) (fun q => by have := ka.2.2.2.1.mp q; omega), bdq, if_pos rfl]
  by_cases d : kdT v len t = 42
  · rw [is_y hr h (by decide) (ka.2.2.2.2.1.mpr d), bdq, if_neg (by decide), if_neg (by decide), is_y hr h (by decide) (ka.2.2.2.2.1.mpr d), bdq, if_neg (by decide)]
  · rw [is_n hr h (by decide) (fun q => d (ka.2.2.2.2.1.mp q)), bdq, if_pos rfl, is_y hr h (by decide) (ka.2.2.2.2.2.1.mpr (by omega)), bdq, if_neg (by decide), if_neg (by decide), is_n hr h (by decide) (fun q => d (ka.2.2.2.2.1.mp q)), bdq, if_pos rfl, is_y hr h (by decide) (ka.2.2.2.2.2.1.mpr (by omega)), bdq, if_neg (by decide)]
theorem b145_w {t : Nat} {w : Int32} {q12 : Nat → Int32 → Int32 → St → Option (Unit × St)} (hr : RFM S.2.2) (h : LVm v len t S) (c : kdT v len t = 43 ∨ kdT v len t = 45) : b_X10_expression_145 q12 140 w S = b_X10_expression_234 q12 140 w 1 140 0 S := by
  have ka := km_a (kdT v len t) kd_lt
  have e : b_X10_expression_181 q12 140 w S = b_X10_expression_234 q12 140 w 1 140 0 S := by
    unfold b_X10_expression_181 b_X10_expression_186
    rw [if_neg (by decide), show (10 : Int32) = nI 10 from rfl, show (15 : Int32) = nI 15 from rfl, is_n hr h (by decide) (fun q => by have := ka.2.2.2.2.1.mp q; omega), bdq, if_pos rfl, is_n hr h (by decide) (fun q => by have := ka.2.2.2.2.2.1.mp q; omega), bdq, if_pos rfl]
  unfold b_X10_expression_145
  rw [show (8 : Int32) = nI 8 from rfl, show (9 : Int32) = nI 9 from rfl]
  by_cases d : kdT v len t = 43
  · rw [is_y hr h (by decide) (ka.2.2.1.mpr d), bdq, if_neg (by decide)]
    exact e
  · rw [is_n hr h (by decide) (fun q => d (ka.2.2.1.mp q)), bdq, if_pos rfl, is_y hr h (by decide) (ka.2.2.2.1.mpr (by omega)), bdq, if_neg (by decide)]
    exact e
theorem b145_o {t : Nat} {w : Int32} {q12 : Nat → Int32 → Int32 → St → Option (Unit × St)} (hr : RFM S.2.2) (h : LVm v len t S) (c : ¬ (kdT v len t = 42 ∨ kdT v len t = 47)) (c2 : ¬ (kdT v len t = 43 ∨ kdT v len t = 45)) : b_X10_expression_145 q12 140 w S = b_X10_expression_186 q12 140 w 0 S := by
  have ka := km_a (kdT v len t) kd_lt
  unfold b_X10_expression_145
  rw [show (8 : Int32) = nI 8 from rfl, show (9 : Int32) = nI 9 from rfl, show (10 : Int32) = nI 10 from rfl, show (15 : Int32) = nI 15 from rfl, is_n hr h (by decide) (fun q => by have := ka.2.2.1.mp q; omega), bdq, if_pos rfl, is_n hr h (by decide) (fun q => by have := ka.2.2.2.1.mp q; omega), bdq, if_pos rfl, is_n hr h (by decide) (fun q => by have := ka.2.2.2.2.1.mp q; omega), bdq, if_pos rfl, is_n hr h (by decide) (fun q => by have := ka.2.2.2.2.2.1.mp q; omega), bdq, if_pos rfl]
/-- a bracket is put on the pile -/
theorem open_l {q hi t0 : Nat} {S0 : St} {t : Nat} {p o : List Nat} {w : Int32} {q12 : Nat → Int32 → Int32 → St → Option (Unit × St)} {q23 : Nat → Int32 → St → Option (Unit × St)} {Q : Unit → St → Prop} (hr0 : RFM S0.2.2) (hq : q ≤ t0 + 420) (hhi : q + 407 ≤ hi + t0) (h : EX v len q hi t0 S0 t p o S) (h40 : kdT v len t = 40) (h6 : opn p < 6) (hl : ∀ S7, t < 400 → EX v len q hi t0 S0 (t + 1) (40 :: p) o S7 → RN (q23 140 w S7) Q) (hd : ∀ S7, ¬ t < 400 → XRm v len q hi S0 (.inl (2, t)) S7 → RN (q23 140 w S7) Q) : RN (b_X10_expression_46 q12 q23 140 w S) Q := by
  obtain ⟨h1, h2, h3, h4, h5, -, h7, h8, h9, h10, h11⟩ := h
  have ht := h1.1
  have hr : RFM S.2.2 := FM_rf h10 hr0
  have hpl := SHP_len h5
  have hhd := hdN_le (p := p)
  unfold b_X10_expression_46
  rw [nmq, h2, nI_1]
  have fm1 : FM S (sI S 140 12 (nI (opn p + 1))) := FM_0 (by decide)
  have k1 : LVm v len t (sI S 140 12 (nI (opn p + 1))) := LVm_fm h1 fm1 (sI_ne (Or.inr (by decide))) (sI_ne (Or.inr (by decide)))
  obtain ⟨S3, e3, m3, o3, r3⟩ := goes_l (S := sI S 140 12 (nI (opn p + 1))) hr k1 (by omega) (by omega)
  have o4 : ∀ a k, (a = 140 → k ≠ 11 ∧ k ≠ 13 ∧ k ≠ 14 ∧ k ≠ 12) → S3.1 a k = S.1 a k := fun a k hh => (o3 a k (fun q => ⟨(hh q).1, (hh q).2.1, (hh q).2.2.1⟩)).trans (sI_ne (by omega))
  have e12 : S3.1 140 12 = nI (opn p + 1) := (o3 _ _ (fun _ => by decide)).trans sI_at
  have hr3 : RFM S3.2.2 := FM_rf m3 hr
  rw [e3, bdq, (o4 140 47 (fun _ => by decide)).trans h3, ix_nI (show p.length < 64 by omega) (by decide), obq, nmq, rq_46 hr3, nmq, show (sI S3 171 p.length 6).1 140 47 = nI p.length from (sI_ne (Or.inl (by decide))).trans ((o4 140 47 (fun _ => by decide)).trans h3), nI_1]
  have fo : ∀ a k, (a = 140 → k ≠ 47) → (a = 171 → k ≠ p.length) → (sI (sI S3 171 p.length 6) 140 47 (nI (p.length + 1))).1 a k = S3.1 a k := fun a k q1 q2 => by rw [sI_ne (by omega), sI_ne (by omega)]
  have f1 : (sI (sI S3 171 p.length 6) 140 47 (nI (p.length + 1))).1 171 p.length = 6 := (sI_ne (Or.inl (by decide))).trans sI_at
  have f2 : (sI (sI S3 171 p.length 6) 140 47 (nI (p.length + 1))).1 140 47 = nI (p.length + 1) := sI_at
  have fm : FM S3 (sI (sI S3 171 p.length 6) 140 47 (nI (p.length + 1))) := (FM_1 (by decide) (by decide)).tr (FM_0 (by decide))
  revert fo f1 f2 fm
  generalize sI (sI S3 171 p.length 6) 140 47 (nI (p.length + 1)) = S4
  intro fo f1 f2 fm
  have F4 : FM S0 S4 := h10.tr (fm1.tr (m3.tr fm))
  have c4 : ∀ k, S4.1 169 k = S.1 169 k ∧ S4.1 170 k = S.1 170 k := fun k => ⟨(fo _ _ (fun q => absurd q (by decide)) (fun q => absurd q (by decide))).trans (o4 _ _ (fun q => absurd q (by decide))), (fo _ _ (fun q => absurd q (by decide)) (fun q => absurd q (by decide))).trans (o4 _ _ (fun q => absurd q (by decide)))⟩
  have c5 : ∀ k, k < q ∨ hi ≤ k → S4.1 169 k = S0.1 169 k ∧ S4.1 170 k = S0.1 170 k := fun k hk => ⟨(c4 k).1.trans (h11 k hk).1, (c4 k).2.trans (h11 k hk).2⟩
  have e43 : S4.1 140 43 = nI (q + o.length) := (fo _ _ (fun _ => by decide) (fun q => absurd q (by decide))).trans ((o4 _ _ (fun _ => by decide)).trans h7)
  by_cases c : t < 400
  · rw [if_pos c] at r3
    refine hl S4 c ⟨LVm_fm r3 fm (fo _ _ (fun _ => by decide) (fun q => absurd q (by decide))) (fo _ _ (fun _ => by decide) (fun q => absurd q (by decide))), ?_, f2, ⟨f1, WP_set h4 (fun k hk => (fo _ _ (fun q => absurd q (by decide)) (fun _ => by omega)).trans (o4 _ _ (fun q => absurd q (by decide))))⟩, ⟨h5, Or.inl rfl⟩, ?_, e43, CDm_k h8 (Nat.le_refl _) (fun k _ => c4 k), ?_, F4, c5⟩
    · rw [opn_o]
      exact (fo _ _ (fun _ => by decide) (fun q => absurd q (by decide))).trans e12
    · rw [opn_o]; omega
    · rw [opn_o, List.length_cons]; omega
  · rw [if_neg c] at r3
    exact hd S4 c ⟨F4, c5, DDm_k r3 (fo _ _ (fun _ => by decide) (fun q => absurd q (by decide))) (fo _ _ (fun _ => by decide) (fun q => absurd q (by decide))) (fo _ _ (fun _ => by decide) (fun q => absurd q (by decide))), _, by omega, by omega, e43⟩
end MSS

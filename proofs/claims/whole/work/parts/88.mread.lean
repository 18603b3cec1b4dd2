/-! the reference reads a sum as the pile does -/
section MRD
variable {v : Nat → Int32} {len : Nat} {S S' : St}
theorem emit_go {n t c : Nat} {k x : Int32} (hr : RFM S.2.2) (h : LVm v len t S) (hn : S.1 140 43 = nI n) (h8 : n < 840) (h23 : kdT v len t ≠ 23) (h24 : kdT v len t ≠ 24) (hk : k = nI (mk1 c)) (hx : x = nI (if c < 10000 then c else c - 10000)) : ∃ S', (bd (f_X10_emit 140 k x S) fun _ S6 => bd (f_X10_goesOn 140 S6) fun _ S8 => some ((), S8)) = some ((), S') ∧ FM S S' ∧ (∀ a k, (a = 140 → k ≠ 11 ∧ k ≠ 13 ∧ k ≠ 14 ∧ k ≠ 43) → a ≠ 169 → a ≠ 170 → S'.1 a k = S.1 a k) ∧ (∀ k, k ≠ n → S'.1 169 k = S.1 169 k ∧ S'.1 170 k = S.1 170 k) ∧ S'.1 140 43 = nI (n + 1) ∧ CDm n [c] S' ∧ if t < 400 then LVm v len (t + 1) S' else DDm 2 (psT v len t) S' := by
  rw [emit_l hr hn h8, bdq]
  have fo : ∀ a k', (a = 140 → k' ≠ 43) → (a = 169 → k' ≠ n) → (a = 170 → k' ≠ n) → (sI (sI (sI S 169 n k) 170 n x) 140 43 (nI (n + 1))).1 a k' = S.1 a k' := fun a k' h1 h2 h3 => by rw [sI_ne (by omega), sI_ne (by omega), sI_ne (by omega)]
  have f1 : (sI (sI (sI S 169 n k) 170 n x) 140 43 (nI (n + 1))).1 169 n = k := by rw [sI_ne (Or.inl (by decide)), sI_ne (Or.inl (by decide)), sI_at]
  have f2 : (sI (sI (sI S 169 n k) 170 n x) 140 43 (nI (n + 1))).1 170 n = x := by rw [sI_ne (Or.inl (by decide)), sI_at]
  have f3 : (sI (sI (sI S 169 n k) 170 n x) 140 43 (nI (n + 1))).1 140 43 = nI (n + 1) := sI_at
  have fm : FM S (sI (sI (sI S 169 n k) 170 n x) 140 43 (nI (n + 1))) := ((FM_1 (by decide) (by decide)).tr (FM_1 (by decide) (by decide))).tr (FM_0 (by decide))
  have hr1 : RFM (sI (sI (sI S 169 n k) 170 n x) 140 43 (nI (n + 1))).2.2 := hr
  revert fo f1 f2 f3 fm hr1
  generalize sI (sI (sI S 169 n k) 170 n x) 140 43 (nI (n + 1)) = S1
  intro fo f1 f2 f3 fm hr1
  have l1 : LVm v len t S1 := LVm_fm h fm (fo _ _ (fun _ => by decide) (fun q => absurd q (by decide)) (fun q => absurd q (by decide))) (fo _ _ (fun _ => by decide) (fun q => absurd q (by decide)) (fun q => absurd q (by decide)))
  obtain ⟨S2, e2, m2, o2, l2⟩ := goes_l hr1 l1 h23 h24
  rw [e2, bdq]
  refine ⟨S2, rfl, fm.tr m2, fun a k' h1 h2 h3 => (o2 a k' (fun q => ⟨(h1 q).1, (h1 q).2.1, (h1 q).2.2.1⟩)).trans (fo a k' (fun q => (h1 q).2.2.2) (fun q => absurd q h2) (fun q => absurd q h3)), fun k' hk' => ⟨(o2 _ _ (fun q => absurd q (by decide))).trans (fo _ _ (fun q => absurd q (by decide)) (fun _ => by omega) (fun q => absurd q (by decide))), (o2 _ _ (fun q => absurd q (by decide))).trans (fo _ _ (fun q => absurd q (by decide)) (fun q => absurd q (by decide)) (fun _ => by omega))⟩, (o2 _ _ (fun _ => by decide)).trans f3, ?_, l2⟩
  intro j d hj
  cases j with
  | zero =>
    simp at hj
    subst hj
    exact ⟨(o2 _ _ (fun q => absurd q (by decide))).trans (f1.trans hk), fun _ => (o2 _ _ (fun q => absurd q (by decide))).trans (f2.trans hx)⟩
  | succ j => simp at hj
/-- the code of a unit -/
def cxT (v : Nat → Int32) (len t : Nat) : Nat := if kdT v len t = 22 then vlV v len t else 10000 + kdT v len t - 12
theorem km_e : ∀ k : Nat, k < 128 → 12 ≤ k → k ≤ 20 → nI (kmN k) - 32 = nI (10000 + k - 12 - 10000) := by decide +kernel
theorem munit_l {n t : Nat} (hr : RFM S.2.2) (h : LVm v len t S) (hn : S.1 140 43 = nI n) (h8 : n < 840) : ∃ S', f_X10_unit 140 S = some ((), S') ∧ FM S S' ∧ (∀ a k, (a = 140 → k ≠ 11 ∧ k ≠ 13 ∧ k ≠ 14 ∧ k ≠ 43) → a ≠ 169 → a ≠ 170 → S'.1 a k = S.1 a k) ∧ (∀ k, k ≠ n → S'.1 169 k = S.1 169 k ∧ S'.1 170 k = S.1 170 k) ∧ if kdT v len t = 22 ∨ (12 ≤ kdT v len t ∧ kdT v len t ≤ 20) then (S'.1 140 43 = nI (n + 1) ∧ CDm n [cxT v len t] S' ∧ if t < 400 then LVm v len (t + 1) S' else DDm 2 (psT v len t) S') else (S'.1 140 43 = nI n ∧ DDm 1 (psT v len t) S') := by
  have ht := h.1
  have hkl : kdT v len t < 128 := kd_lt
  have ka := km_a (kdT v len t) hkl
  have kc := km_c (kdT v len t) hkl
  unfold f_X10_unit
  rw [show (2 : Int32) = nI 2 from rfl, is_l hr h (by decide), bdq]
  by_cases c1 : kdT v len t = 22
  · rw [if_pos (ka.2.2.2.2.2.2.1.mpr c1), if_neg (show ¬ (1 : Int32) = 0 by decide), h.2.1, ix_nI (show t < 403 by omega) (by decide), obq, rq_7 hr, (h.2.2.2.2 t (by omega) ht h.2.2.2.1).2.2.1 c1]
    have hv : vlV v len t < 10000 := vl_lt c1
    have hc : cxT v len t = vlV v len t := if_pos c1
    obtain ⟨S1, e1, e2, e3, e4, e5, e6, e7⟩ := emit_go (c := cxT v len t) (k := 0) (x := nI (vlN v len (psT v len t))) hr h hn h8 (by omega) (by omega) (by rw [hc]; unfold mk1; rw [if_pos hv]; rfl) (by rw [hc, if_pos hv])
    refine ⟨S1, e1, e2, e3, e4, ?_⟩
    rw [if_pos (Or.inl c1)]
    exact ⟨e5, e6, e7⟩
  · rw [if_neg (fun q => c1 (ka.2.2.2.2.2.2.1.mp q)), if_pos rfl, if_pos h.2.2.1, h.2.1, ix_nI (show t < 403 by omega) (by decide), obq, obq, obq, rq_5 hr, h.kd]
    have dead : ∃ S', b_X10_unit_88 140 S = some ((), S') ∧ FM S S' ∧ (∀ a k, (a = 140 → k ≠ 11 ∧ k ≠ 13 ∧ k ≠ 14 ∧ k ≠ 43) → a ≠ 169 → a ≠ 170 → S'.1 a k = S.1 a k) ∧ (∀ k, k ≠ n → S'.1 169 k = S.1 169 k ∧ S'.1 170 k = S.1 170 k) ∧ S'.1 140 43 = nI n ∧ DDm 1 (psT v len t) S' := by
      unfold b_X10_unit_88
      rw [show (1 : Int32) = nI 1 from rfl, fail_l hr h, bdq]
      have fo : ∀ a k, (a = 140 → k ≠ 13 ∧ k ≠ 14) → (sI (sI S 140 13 (nI 1)) 140 14 (nI (psT v len t))).1 a k = S.1 a k := fun a k h1 => by rw [sI_ne (by omega), sI_ne (by omega)]
      exact ⟨_, rfl, (FM_0 (by decide)).tr (FM_0 (by decide)), fun a k h1 _ _ => fo a k (fun q => ⟨(h1 q).2.1, (h1 q).2.2.1⟩), fun k _ => ⟨fo _ _ (fun q => absurd q (by decide)), fo _ _ (fun q => absurd q (by decide))⟩, (fo _ _ (fun _ => by decide)).trans hn, DDm_of h (Or.inl rfl)⟩
    by_cases c2 : 12 ≤ kdT v len t ∧ kdT v len t ≤ 20
    · have k1 := kc.1.mpr c2
      have k2 := kc.2 c2.1 c2.2
      rw [if_neg (show ¬ nI (kmN (kdT v len t)) < 32 from fun q => by have := (nI_ltI (b := 32) (by omega) (by decide)).mp q; omega), if_neg (show ¬ (40 : Int32) < nI (kmN (kdT v len t)) from fun q => by have := (nI_ltI (a := 40) (by decide) (by omega)).mp q; omega)]
      have hc : cxT v len t = 10000 + kdT v len t - 12 := if_neg c1
      obtain ⟨S1, e1, e2, e3, e4, e5, e6, e7⟩ := emit_go (c := cxT v len t) (k := 1) (x := nI (kmN (kdT v len t)) - 32) hr h hn h8 (by omega) (by omega) (by rw [hc]; unfold mk1; rw [if_neg (by omega), if_pos (by omega)]; rfl) (by rw [hc, if_neg (by omega)]; exact km_e _ hkl c2.1 c2.2)
      refine ⟨S1, e1, e2, e3, e4, ?_⟩
      rw [if_pos (Or.inr c2)]
      exact ⟨e5, e6, e7⟩
    · have hno : ¬ (kdT v len t = 22 ∨ (12 ≤ kdT v len t ∧ kdT v len t ≤ 20)) := fun q => by rcases q with q | q; exact c1 q; exact c2 q
      simp only [if_neg hno]
      by_cases c3 : kmN (kdT v len t) < 32
      · rw [if_pos (show nI (kmN (kdT v len t)) < 32 from (nI_ltI (b := 32) (by omega) (by decide)).mpr c3)]
        exact dead
      · have c4 : 40 < kmN (kdT v len t) := by
          have : ¬ (32 ≤ kmN (kdT v len t) ∧ kmN (kdT v len t) ≤ 40) := fun q => c2 (kc.1.mp q)
          omega
        rw [if_neg (show ¬ nI (kmN (kdT v len t)) < 32 from fun q => c3 ((nI_ltI (b := 32) (by omega) (by decide)).mp q)), if_pos (show (40 : Int32) < nI (kmN (kdT v len t)) from (nI_ltI (a := 40) (by decide) (by omega)).mpr c4)]
        exact dead
/-- where the reading of a sum is -/
def EX (v : Nat → Int32) (len q hi t0 : Nat) (S0 : St) (t : Nat) (p o : List Nat) (S : St) : Prop := LVm v len t S ∧ S.1 140 12 = nI (opn p) ∧ S.1 140 47 = nI p.length ∧ WP p S ∧ SHP p ∧ opn p ≤ 6 ∧ S.1 140 43 = nI (q + o.length) ∧ CDm q o S ∧ o.length + p.length + t0 ≤ t + opn p ∧ FM S0 S ∧ ∀ k, k < q ∨ hi ≤ k → S.1 169 k = S0.1 169 k ∧ S.1 170 k = S0.1 170 k
/-- a sign is put on the pile -/
theorem sign_l {b : Bool} {q hi t0 : Nat} {S0 : St} {t : Nat} {p o : List Nat} {w y : Int32} {q12 : Nat → Int32 → Int32 → St → Option (Unit × St)} {Q : Unit → St → Prop} (hr0 : RFM S0.2.2) (hq : q ≤ t0 + 420) (hhi : q + 407 ≤ hi + t0) (h : EX v len q hi t0 S0 t p o S) (h23 : kdT v len t ≠ 23) (h24 : kdT v len t ≠ 24) (hs : SHP (kdT v len t :: (ppX b p).2)) (h40 : kdT v len t ≠ 40) (hl : ∀ S7, t < 400 → EX v len q hi t0 S0 (t + 1) (kdT v len t :: (ppX b p).2) (o ++ (ppX b p).1) S7 → RN (q12 140 w y S7) Q) (hd : ∀ S7, ¬ t < 400 → S7.1 140 13 ≠ 0 → XRm v len q hi S0 (.inl (2, t)) S7 → RN (q12 140 w y S7) Q) : RN (b_X10_expression_234 q12 140 w y 140 (if b then 1 else 0) S) Q := by
  obtain ⟨h1, h2, h3, h4, h5, h6, h7, h8, h9, h10, h11⟩ := h
  have ht := h1.1
  have hr : RFM S.2.2 := FM_rf h10 hr0
  have hpl := SHP_len h5
  have hhd := hdN_le (p := p)
  obtain ⟨l1, l2, l3⟩ := pp_len (b := b) h5
  unfold b_X10_expression_234 f_X10_comesOut
  refine RN_bd (come_run (b := b) p (q + o.length) FU S (by show p.length < 5000; omega) h5 hr h4 h3 h7 (by omega) (by omega)) (fun _ S1 hh => ?_)
  obtain ⟨g1, g2, g3, g4, g5⟩ := hh
  have hr1 : RFM S1.2.2 := by rw [g5.1]; exact hr
  have k1 : LVm v len t S1 := LVm_fm h1 g5.fm (g5.2.1 _ _ (fun _ => by decide) (by decide) (by decide)) (g5.2.1 _ _ (fun _ => by decide) (by decide) (by decide))
  have k12 : S1.1 140 12 = nI (opn p) := (g5.2.1 _ _ (fun _ => by decide) (by decide) (by decide)).trans h2
  rw [k1.2.1, ix_nI (show t < 403 by omega) (by decide), obq, g2, ix_nI (show (ppX b p).2.length < 64 by omega) (by decide), obq, nmq, rq_46 hr1, rq_5 hr1, k1.kd, nmq, show (sI S1 171 (ppX b p).2.length (nI (kmN (kdT v len t)))).1 140 47 = nI (ppX b p).2.length from (sI_ne (Or.inl (by decide))).trans g2, nI_1]
  have fo : ∀ a k, (a = 140 → k ≠ 47) → (a = 171 → k ≠ (ppX b p).2.length) → (sI (sI S1 171 (ppX b p).2.length (nI (kmN (kdT v len t)))) 140 47 (nI ((ppX b p).2.length + 1))).1 a k = S1.1 a k := fun a k q1 q2 => by rw [sI_ne (by omega), sI_ne (by omega)]
  have f1 : (sI (sI S1 171 (ppX b p).2.length (nI (kmN (kdT v len t)))) 140 47 (nI ((ppX b p).2.length + 1))).1 171 (ppX b p).2.length = nI (kmN (kdT v len t)) := (sI_ne (Or.inl (by decide))).trans sI_at
  have f2 : (sI (sI S1 171 (ppX b p).2.length (nI (kmN (kdT v len t)))) 140 47 (nI ((ppX b p).2.length + 1))).1 140 47 = nI ((ppX b p).2.length + 1) := sI_at
  have fm : FM S1 (sI (sI S1 171 (ppX b p).2.length (nI (kmN (kdT v len t)))) 140 47 (nI ((ppX b p).2.length + 1))) := (FM_1 (by decide) (by decide)).tr (FM_0 (by decide))
  have hr2 : RFM (sI (sI S1 171 (ppX b p).2.length (nI (kmN (kdT v len t)))) 140 47 (nI ((ppX b p).2.length + 1))).2.2 := hr1
  revert fo f1 f2 fm hr2
  generalize sI (sI S1 171 (ppX b p).2.length (nI (kmN (kdT v len t)))) 140 47 (nI ((ppX b p).2.length + 1)) = S2
  intro fo f1 f2 fm hr2
  have k2 : LVm v len t S2 := LVm_fm k1 fm (fo _ _ (fun _ => by decide) (fun q => absurd q (by decide))) (fo _ _ (fun _ => by decide) (fun q => absurd q (by decide)))
  obtain ⟨S3, e3, m3, o3, r3⟩ := goes_l hr2 k2 h23 h24
  rw [e3, bdq]
  have F3 : FM S0 S3 := h10.tr (g5.fm.tr (fm.tr m3))
  have c3 : ∀ k, k < q + o.length → S3.1 169 k = S.1 169 k ∧ S3.1 170 k = S.1 170 k := fun k hk => ⟨(o3 _ _ (fun q => absurd q (by decide))).trans ((fo _ _ (fun q => absurd q (by decide)) (fun q => absurd q (by decide))).trans (g5.2.2 k (Or.inl hk)).1), (o3 _ _ (fun q => absurd q (by decide))).trans ((fo _ _ (fun q => absurd q (by decide)) (fun q => absurd q (by decide))).trans (g5.2.2 k (Or.inl hk)).2)⟩
  have c4 : ∀ k, S3.1 169 k = S1.1 169 k ∧ S3.1 170 k = S1.1 170 k := fun k => ⟨(o3 _ _ (fun q => absurd q (by decide))).trans (fo _ _ (fun q => absurd q (by decide)) (fun q => absurd q (by decide))), (o3 _ _ (fun q => absurd q (by decide))).trans (fo _ _ (fun q => absurd q (by decide)) (fun q => absurd q (by decide)))⟩
  have c5 : ∀ k, k < q ∨ hi ≤ k → S3.1 169 k = S0.1 169 k ∧ S3.1 170 k = S0.1 170 k := fun k hk => ⟨((c4 k).1.trans (g5.2.2 k (by omega)).1).trans (h11 k hk).1, ((c4 k).2.trans (g5.2.2 k (by omega)).2).trans (h11 k hk).2⟩
  have e43 : S3.1 140 43 = nI (q + o.length + (ppX b p).1.length) := (o3 _ _ (fun _ => by decide)).trans ((fo _ _ (fun _ => by decide) (fun q => absurd q (by decide))).trans g3)
  by_cases c : t < 400
  · rw [if_pos c] at r3
    refine hl S3 c ⟨r3, ?_, ?_, ⟨?_, ?_⟩, hs, ?_, ?_, ?_, ?_, F3, c5⟩
    · rw [opn_c h40, l3]
      exact (o3 _ _ (fun _ => by decide)).trans ((fo _ _ (fun _ => by decide) (fun q => absurd q (by decide))).trans k12)
    · exact (o3 _ _ (fun _ => by decide)).trans f2
    · exact (o3 _ _ (fun q => absurd q (by decide))).trans f1
    · exact WP_set g1 (fun k hk => (o3 _ _ (fun q => absurd q (by decide))).trans (fo _ _ (fun q => absurd q (by decide)) (fun _ => by omega)))
    · rw [opn_c h40, l3]; exact h6
    · rw [e43, List.length_append, Nat.add_assoc]
    · exact CDm_app (CDm_k h8 (Nat.le_refl _) c3) (CDm_k g4 (Nat.le_refl _) (fun k _ => c4 k))
    · rw [opn_c h40, l3, List.length_append, List.length_cons]; omega
  · rw [if_neg c] at r3
    refine hd S3 c (by rw [r3.1]; exact f_nz r3.2.2.1) ⟨F3, c5, r3, _, ?_, ?_, e43⟩
    · omega
    · omega
end MRD

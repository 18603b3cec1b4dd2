/-! the reference reads a whole sum: the end -/
section MSX
variable {v : Nat → Int32} {len : Nat} {S S' : St}
theorem b12_d {fu : Nat} {w y : Int32} (h : S.1 140 13 ≠ 0) : b_X10_expression_12 (fu + 1) 140 w y S = some ((), S) := by
  rw [b_X10_expression_12]
  by_cases c : y = 0
  · rw [if_pos c]
  · rw [if_neg c, if_neg h]
theorem pile_run {q hi t0 : Nat} {S0 : St} (hr0 : RFM S0.2.2) (hq : q ≤ t0 + 420) (hhi : q + 407 ≤ hi + t0) : ∀ (n t : Nat) (p o : List Nat) (S : St) (f1 f2 : Nat), t + n = 402 → n ≤ f1 → n ≤ f2 → f2 ≤ 5000 → EX v len q hi t0 S0 t p o S → RN (b_X10_expression_23 (b_X10_expression_12 f2) f1 140 0 S) (fun _ S' => XRm v len q hi S0 (kdW v len true t p o) S') ∧ RN (b_X10_expression_96 (b_X10_expression_12 f2) f1 140 0 S) (fun _ S' => XRm v len q hi S0 (kdW v len false t p o) S') := by
  intro n
  induction n with
  | zero => intro t p o S f1 f2 h1 _ _ _ h; have := h.1.1; omega
  | succ n ih =>
    intro t p o S f1 f2 hn hf1 hf2 hf5 h
    have hX := h
    obtain ⟨h1, h2, h3, h4, h5, h6, h7, h8, h9, h10, h11⟩ := h
    have ht := h1.1
    have hr : RFM S.2.2 := FM_rf h10 hr0
    have hpl := SHP_len h5
    have hhd := hdN_le (p := p)
    have ka := km_a (kdT v len t) kd_lt
    obtain ⟨f1, rfl⟩ : ∃ f, f1 = f + 1 := ⟨f1 - 1, by omega⟩
    obtain ⟨f2, rfl⟩ : ∃ f, f2 = f + 1 := ⟨f2 - 1, by omega⟩
    obtain ⟨n1, rfl⟩ : ∃ f, n = f + 1 := ⟨n - 1, by omega⟩
    obtain ⟨f1, rfl⟩ : ∃ f, f1 = f + 1 := ⟨f1 - 1, by omega⟩
    refine ⟨?_, ?_⟩
    · rw [b_X10_expression_23, show (6 : Int32) = nI 6 from rfl, is_l hr h1 (by decide), bdq, show kdW v len true t p o = _ from syA ht]
      by_cases c : kdT v len t = 40
      · rw [if_pos (ka.1.mpr c), if_neg (show ¬ (1 : Int32) = 0 by decide), h2]
        simp only [if_pos c]
        by_cases c6 : opn p = 6
        · rw [if_pos (by rw [c6]), show (2 : Int32) = nI 2 from rfl, fail_l hr h1, bdq]
          simp only [if_pos c6]
          have hd := DDm_of (k := 2) h1 (Or.inr rfl)
          have fo : ∀ a k, (a = 140 → k ≠ 13 ∧ k ≠ 14) → (sI (sI S 140 13 (nI 2)) 140 14 (nI (psT v len t))).1 a k = S.1 a k := fun a k h1 => by rw [sI_ne (by omega), sI_ne (by omega)]
          have fm : FM S (sI (sI S 140 13 (nI 2)) 140 14 (nI (psT v len t))) := (FM_0 (by decide)).tr (FM_0 (by decide))
          revert hd fo fm
          generalize sI (sI S 140 13 (nI 2)) 140 14 (nI (psT v len t)) = S1
          intro hd fo fm
          unfold b_X10_expression_46
          rw [nmq]
          have hd2 : DDm 2 (psT v len t) (sI S1 140 12 (S1.1 140 12 + 1)) := DDm_k hd (sI_ne (Or.inr (by decide))) (sI_ne (Or.inr (by decide))) (sI_ne (Or.inr (by decide)))
          have fm2 : FM S (sI S1 140 12 (S1.1 140 12 + 1)) := fm.tr (FM_0 (by decide))
          have fo2 : ∀ a k, (a = 140 → k ≠ 12 ∧ k ≠ 13 ∧ k ≠ 14) → (sI S1 140 12 (S1.1 140 12 + 1)).1 a k = S.1 a k := fun a k hh => (sI_ne (by omega)).trans (fo a k (fun q => (hh q).2))
          revert hd2 fm2 fo2
          generalize sI S1 140 12 (S1.1 140 12 + 1) = S2
          intro hd2 fm2 fo2
          obtain ⟨S3, e3, m3, o3, d3⟩ := goes_d hd2
          have e47 : S3.1 140 47 = nI p.length := (o3 _ _ (fun _ => by decide)).trans ((fo2 _ _ (fun _ => by decide)).trans h3)
          have hr3 : RFM S3.2.2 := FM_rf m3 (FM_rf fm2 hr)
          rw [e3, bdq, e47, ix_nI (show p.length < 64 by omega) (by decide), obq, nmq, rq_46 hr3, nmq, A_d (f := 2) (p := psT v len t) (DDm_k d3 (by rw [sI_ne (Or.inr (by decide)), sI_ne (Or.inl (by decide))]) (by rw [sI_ne (Or.inr (by decide)), sI_ne (Or.inl (by decide))]) (by rw [sI_ne (Or.inr (by decide)), sI_ne (Or.inl (by decide))]))]
          refine RN_some ⟨h10.tr (fm2.tr (m3.tr ((FM_1 (by decide) (by decide)).tr (FM_0 (by decide))))), fun k hk => ?_, DDm_k d3 (by rw [sI_ne (Or.inr (by decide)), sI_ne (Or.inl (by decide))]) (by rw [sI_ne (Or.inr (by decide)), sI_ne (Or.inl (by decide))]) (by rw [sI_ne (Or.inr (by decide)), sI_ne (Or.inl (by decide))]), q + o.length, by omega, by omega, ?_⟩
          · rw [sI_ne (Or.inl (by decide)), sI_ne (Or.inl (by decide)), sI_ne (Or.inl (by decide)), sI_ne (Or.inl (by decide)), o3 _ _ (fun q => absurd q (by decide)), o3 _ _ (fun q => absurd q (by decide)), fo2 _ _ (fun q => absurd q (by decide)), fo2 _ _ (fun q => absurd q (by decide))]
            exact h11 k hk
          · rw [sI_ne (Or.inr (by decide)), sI_ne (Or.inl (by decide)), o3 _ _ (fun _ => by decide), fo2 _ _ (fun _ => by decide)]
            exact h7
        · rw [if_neg (show ¬ nI (opn p) = nI 6 from fun q => c6 ((nI_eq (by omega) (by decide)).mp q))]
          simp only [if_neg c6]
          refine open_l hr0 hq hhi hX c (by omega) (fun S7 c7 e7 => ?_) (fun S7 c7 e7 => ?_)
          · simp only [if_pos c7]
            exact (ih (t + 1) (40 :: p) o S7 (f1 + 1) (f2 + 1) (by omega) (by omega) (by omega) (by omega) e7).1
          · simp only [if_neg c7]
            rw [A_d e7.2.2.1]
            exact RN_some e7
      · rw [if_neg (fun q => c (ka.1.mp q)), if_pos rfl]
        simp only [if_neg c]
        obtain ⟨S1, e1, m1, o1, k1, r1⟩ := munit_l (n := q + o.length) hr h1 h7 (by omega)
        rw [e1, bdq]
        have kq : ∀ k, k < q ∨ hi ≤ k → S1.1 169 k = S0.1 169 k ∧ S1.1 170 k = S0.1 170 k := fun k hk => ⟨(k1 k (by omega)).1.trans (h11 k hk).1, (k1 k (by omega)).2.trans (h11 k hk).2⟩
        by_cases cu : kdT v len t = 22 ∨ (12 ≤ kdT v len t ∧ kdT v len t ≤ 20)
        · rw [if_pos cu] at r1
          obtain ⟨r1, r2, r3⟩ := r1
          have hres : ∀ Q : PR → Prop, (t < 400 → Q (kdW v len false (t + 1) p (o ++ [cxT v len t]))) → (¬ t < 400 → Q (.inl (2, t))) → Q (if kdT v len t = 22 then (if t < 400 then kdW v len false (t + 1) p (o ++ [vlV v len t]) else .inl (2, t)) else if 12 ≤ kdT v len t ∧ kdT v len t ≤ 20 then (if t < 400 then kdW v len false (t + 1) p (o ++ [10000 + kdT v len t - 12]) else .inl (2, t)) else .inl (1, t)) := by
            intro Q qa qb
            unfold cxT at qa
            by_cases c22 : kdT v len t = 22
            · rw [if_pos c22] at qa ⊢
              by_cases c7 : t < 400
              · rw [if_pos c7]; exact qa c7
              · rw [if_neg c7]; exact qb c7
            · rw [if_neg c22] at qa ⊢
              rw [if_pos (show 12 ≤ kdT v len t ∧ kdT v len t ≤ 20 by rcases cu with q | q; exact absurd q c22; exact q)]
              by_cases c7 : t < 400
              · rw [if_pos c7]; exact qa c7
              · rw [if_neg c7]; exact qb c7
          refine hres (fun z => RN (if S1.1 140 13 ≤ 0 then b_X10_expression_96 (b_X10_expression_12 (f2 + 1)) FU 140 0 S1 else some ((), S1)) (fun _ S' => XRm v len q hi S0 z S')) (fun c7 => ?_) (fun c7 => ?_)
          · rw [if_pos c7] at r3
            rw [if_pos (by rw [r3.2.2.1]; decide)]
            refine (ih (t + 1) p (o ++ [cxT v len t]) S1 FU (f2 + 1) (by omega) (show n1 + 1 ≤ 5000 by omega) (by omega) (by omega) ⟨r3, (o1 _ _ (fun _ => by decide) (by decide) (by decide)).trans h2, (o1 _ _ (fun _ => by decide) (by decide) (by decide)).trans h3, WP_set h4 (fun k _ => o1 _ _ (fun q => absurd q (by decide)) (by decide) (by decide)), h5, h6, ?_, CDm_app (CDm_k h8 (Nat.le_refl _) (fun k hk => k1 k (by omega))) r2, ?_, h10.tr m1, kq⟩).2
            · rw [r1, List.length_append]; rfl
            · rw [List.length_append, List.length_singleton]; omega
          · rw [if_neg c7] at r3
            rw [if_neg (by rw [r3.1]; exact f_pos r3.2.2.1)]
            exact RN_some ⟨h10.tr m1, kq, r3, _, by omega, by omega, r1⟩
        · rw [if_neg cu] at r1
          simp only [if_neg (show ¬ kdT v len t = 22 from fun q => cu (Or.inl q)), if_neg (show ¬ (12 ≤ kdT v len t ∧ kdT v len t ≤ 20) from fun q => cu (Or.inr q))]
          rw [if_neg (by rw [r1.2.1]; exact f_pos r1.2.2.2.1)]
          exact RN_some ⟨h10.tr m1, kq, r1.2, _, by omega, by omega, r1.1⟩
    · rw [show kdW v len false t p o = _ from syB ht]
      by_cases c : kdT v len t = 41 ∧ 0 < opn p
      · simp only [if_pos c]
        rw [b_X10_expression_96, show (7 : Int32) = nI 7 from rfl, is_y hr h1 (by decide) (ka.2.1.mpr c.1), bdq, if_neg (show ¬ (1 : Int32) = 0 by decide), h2, if_neg (show ¬ nI (opn p) ≤ 0 from nle_l (b := 0) (by omega) (by omega) c.2)]
        unfold f_X10_comesOut
        refine RN_bd (come_run (b := false) p (q + o.length) FU S (by show p.length < 5000; omega) h5 hr h4 h3 h7 (by omega) (by omega)) (fun _ S1 hh => ?_)
        obtain ⟨g1, g2, g3, g4, g5⟩ := hh
        obtain ⟨l1, l2, l3⟩ := pp_len (b := false) h5
        obtain ⟨ys, hy⟩ : ∃ ys, (ppX false p).2 = 40 :: ys := by
          rcases pp_hdA h5 with e | e
          · rw [e, opn_nil] at l3; omega
          · exact e
        have ep : (popA p).2.tail = ys := by show (ppX false p).2.tail = ys; rw [hy]; rfl
        rw [hy] at g1 g2 l1 l2 l3
        rw [List.length_cons] at g2 l1
        rw [opn_o] at l3
        have hr1 : RFM S1.2.2 := by rw [g5.1]; exact hr
        have k1 : LVm v len t S1 := LVm_fm h1 g5.fm (g5.2.1 _ _ (fun _ => by decide) (by decide) (by decide)) (g5.2.1 _ _ (fun _ => by decide) (by decide) (by decide))
        have k12 : S1.1 140 12 = nI (opn ys + 1) := (g5.2.1 _ _ (fun _ => by decide) (by decide) (by decide)).trans (by rw [h2, l3])
        rw [nmq, g2, s1_eq (by omega), show ys.length + 1 - 1 = ys.length by omega, nmq, show (sI S1 140 47 (nI ys.length)).1 140 12 = nI (opn ys + 1) from (sI_ne (Or.inr (by decide))).trans k12, s1_eq (by omega), show opn ys + 1 - 1 = opn ys by omega]
        have fo : ∀ a k, (a = 140 → k ≠ 47 ∧ k ≠ 12) → (sI (sI S1 140 47 (nI ys.length)) 140 12 (nI (opn ys))).1 a k = S1.1 a k := fun a k hh => by rw [sI_ne (by omega), sI_ne (by omega)]
        have f1' : (sI (sI S1 140 47 (nI ys.length)) 140 12 (nI (opn ys))).1 140 47 = nI ys.length := (sI_ne (Or.inr (by decide))).trans sI_at
        have f2' : (sI (sI S1 140 47 (nI ys.length)) 140 12 (nI (opn ys))).1 140 12 = nI (opn ys) := sI_at
        have fm : FM S1 (sI (sI S1 140 47 (nI ys.length)) 140 12 (nI (opn ys))) := (FM_0 (by decide)).tr (FM_0 (by decide))
        revert fo f1' f2' fm
        generalize sI (sI S1 140 47 (nI ys.length)) 140 12 (nI (opn ys)) = S2
        intro fo f1' f2' fm
        have k2 : LVm v len t S2 := LVm_fm k1 fm (fo _ _ (fun _ => by decide)) (fo _ _ (fun _ => by decide))
        obtain ⟨S3, e3, m3, o3, r3⟩ := goes_l (FM_rf fm hr1) k2 (by omega) (by omega)
        rw [e3, bdq]
        have F3 : FM S0 S3 := h10.tr (g5.fm.tr (fm.tr m3))
        have c4 : ∀ k, S3.1 169 k = S1.1 169 k ∧ S3.1 170 k = S1.1 170 k := fun k => ⟨(o3 _ _ (fun q => absurd q (by decide))).trans (fo _ _ (fun q => absurd q (by decide))), (o3 _ _ (fun q => absurd q (by decide))).trans (fo _ _ (fun q => absurd q (by decide)))⟩
        have c3 : ∀ k, k < q + o.length → S3.1 169 k = S.1 169 k ∧ S3.1 170 k = S.1 170 k := fun k hk => ⟨(c4 k).1.trans (g5.2.2 k (Or.inl hk)).1, (c4 k).2.trans (g5.2.2 k (Or.inl hk)).2⟩
        have c5 : ∀ k, k < q ∨ hi ≤ k → S3.1 169 k = S0.1 169 k ∧ S3.1 170 k = S0.1 170 k := fun k hk => ⟨((c4 k).1.trans (g5.2.2 k (by omega)).1).trans (h11 k hk).1, ((c4 k).2.trans (g5.2.2 k (by omega)).2).trans (h11 k hk).2⟩
        have e43 : S3.1 140 43 = nI (q + o.length + (ppX false p).1.length) := (o3 _ _ (fun _ => by decide)).trans ((fo _ _ (fun _ => by decide)).trans g3)
        have e47 : S3.1 140 47 = nI ys.length := (o3 _ _ (fun _ => by decide)).trans f1'
        have w3 : WP ys S3 := WP_set g1.2 (fun k hk => (o3 _ _ (fun q => absurd q (by decide))).trans (fo _ _ (fun q => absurd q (by decide))))
        by_cases c7 : t < 400
        · rw [if_pos c7] at r3
          simp only [if_pos c7]
          rw [ep]
          refine (ih (t + 1) ys (o ++ (popA p).1) S3 (f1 + 1) (f2 + 1) (by omega) (by omega) (by omega) (by omega) ⟨r3, (o3 _ _ (fun _ => by decide)).trans f2', e47, w3, l2.1, by omega, ?_, CDm_app (CDm_k h8 (Nat.le_refl _) c3) (CDm_k g4 (Nat.le_refl _) (fun k _ => c4 k)), ?_, F3, c5⟩).2
          · rw [List.length_append, ← Nat.add_assoc]; exact e43
          · rw [List.length_append]
            have : (popA p).1.length = (ppX false p).1.length := rfl
            omega
        · rw [if_neg c7] at r3
          simp only [if_neg c7]
          exact B_d (FM_rf F3 hr0) r3 F3 c5 w3 l2.1 e47 e43 (by omega) (by omega) (by omega) (by omega)
      · simp only [if_neg c]
        have e145 : b_X10_expression_96 (b_X10_expression_12 (f2 + 1)) (f1 + 1 + 1) 140 0 S = b_X10_expression_145 (b_X10_expression_12 (f2 + 1)) 140 0 S := by
          rw [b_X10_expression_96, show (7 : Int32) = nI 7 from rfl]
          by_cases c41 : kdT v len t = 41
          · rw [is_y hr h1 (by decide) (ka.2.1.mpr c41), bdq, if_neg (show ¬ (1 : Int32) = 0 by decide), h2, if_pos (show nI (opn p) ≤ 0 from le_l (b := 0) (by omega) (by omega) (by omega))]
          · rw [is_n hr h1 (by decide) (fun q => c41 (ka.2.1.mp q)), bdq, if_pos rfl]
        rw [e145]
        have hgo : ∀ (b : Bool), kdT v len t ≠ 23 → kdT v len t ≠ 24 → SHP (kdT v len t :: (ppX b p).2) → kdT v len t ≠ 40 → RN (b_X10_expression_234 (b_X10_expression_12 (f2 + 1)) 140 0 1 140 (if b then 1 else 0) S) (fun _ S' => XRm v len q hi S0 (if t < 400 then kdW v len true (t + 1) (kdT v len t :: (ppX b p).2) (o ++ (ppX b p).1) else .inl (2, t)) S') := by
          intro b d1 d2 d3 d4
          refine sign_l hr0 hq hhi hX d1 d2 d3 d4 (fun S7 c7 e7 => ?_) (fun S7 c7 e7 e8 => ?_)
          · rw [if_pos c7, b_X10_expression_12, if_neg (show ¬ (1 : Int32) = 0 by decide), if_pos e7.1.2.2.1]
            exact (ih (t + 1) _ _ S7 FU f2 (by omega) (show n1 + 1 ≤ 5000 by omega) (by omega) (by omega) e7).1
          · rw [if_neg c7, b12_d e7]
            exact RN_some e8
        have hgs := (pp_len (b := true) h5).2.1
        have hga := (pp_len (b := false) h5).2.1
        by_cases cs : kdT v len t = 42 ∨ kdT v len t = 47
        · simp only [if_pos cs]
          rw [b145_s hr h1 cs]
          exact hgo true (by omega) (by omega) ⟨hgs, Or.inr (Or.inr ⟨cs, pp_hdS h5⟩)⟩ (by omega)
        · simp only [if_neg cs]
          by_cases cw : kdT v len t = 43 ∨ kdT v len t = 45
          · simp only [if_pos cw]
            rw [b145_w hr h1 cw]
            exact hgo false (by omega) (by omega) ⟨hga, Or.inr (Or.inl ⟨cw, pp_hdA h5⟩)⟩ (by omega)
          · simp only [if_neg cw]
            rw [b145_o hr h1 cs cw]
            unfold b_X10_expression_186
            rw [if_pos rfl, h2]
            by_cases c0 : 0 < opn p
            · rw [if_neg (show ¬ nI (opn p) ≤ 0 from nle_l (b := 0) (by omega) (by omega) c0), show (1 : Int32) = nI 1 from rfl, fail_l hr h1, bdq]
              simp only [if_pos c0]
              have fo : ∀ a k, (a = 140 → k ≠ 13 ∧ k ≠ 14) → (sI (sI S 140 13 (nI 1)) 140 14 (nI (psT v len t))).1 a k = S.1 a k := fun a k h1 => by rw [sI_ne (by omega), sI_ne (by omega)]
              exact out_d (n := q + o.length) hr (DDm_of h1 (Or.inl rfl)) (h10.tr ((FM_0 (by decide)).tr (FM_0 (by decide)))) (fun k hk => ⟨(fo _ _ (fun q => absurd q (by decide))).trans (h11 k hk).1, (fo _ _ (fun q => absurd q (by decide))).trans (h11 k hk).2⟩) (WP_set h4 (fun k _ => fo _ _ (fun q => absurd q (by decide)))) h5 ((fo _ _ (fun _ => by decide)).trans h3) ((fo _ _ (fun _ => by decide)).trans h7) (by omega) (by omega) (by omega) (by omega)
            · have z0 : opn p = 0 := by omega
              rw [if_pos (show nI (opn p) ≤ 0 from le_l (b := 0) (by omega) (by omega) (by omega))]
              simp only [if_neg c0]
              unfold b_X10_expression_204 f_X10_comesOut
              refine RN_bd (come_run (b := false) p (q + o.length) FU S (by show p.length < 5000; omega) h5 hr h4 h3 h7 (by omega) (by omega)) (fun _ S1 hh => ?_)
              obtain ⟨g1, g2, g3, g4, g5⟩ := hh
              refine RN_some ⟨h10.tr g5.fm, fun k hk => ⟨(g5.2.2 k (by omega)).1.trans (h11 k hk).1, (g5.2.2 k (by omega)).2.trans (h11 k hk).2⟩, LVm_fm h1 g5.fm (g5.2.1 _ _ (fun _ => by decide) (by decide) (by decide)) (g5.2.1 _ _ (fun _ => by decide) (by decide) (by decide)), ?_, CDm_app (CDm_k h8 (Nat.le_refl _) (fun k hk => g5.2.2 k (Or.inl hk))) g4, ?_⟩
              · rw [g3, List.length_append, Nat.add_assoc]; rfl
              · rw [(g5.2.1 140 12 (fun _ => by decide) (by decide) (by decide)).trans h2, z0]; rfl
/-- a whole sum -/
theorem msum_run {t q hi : Nat} (hr : RFM S.2.2) (h : LVm v len t S) (h12 : S.1 140 12 = 0) (h43 : S.1 140 43 = nI q) (hq : q ≤ t + 420) (hhi : q + 407 ≤ hi + t) : RN (f_X10_expression 140 S) (fun _ S' => XRm v len q hi S (sumR (kdV v len) (vlV v len) 9 0 t) S') := by
  have ht := h.1
  have fm : FM S (sI S 140 47 0) := FM_0 (by decide)
  have e12 : (sI S 140 47 0).1 140 12 = 0 := (sI_ne (Or.inr (by decide))).trans h12
  unfold f_X10_expression
  rw [nmq, nmq, e12, show FU = 4999 + 1 from rfl, b_X10_expression_12, if_neg (show ¬ (1 : Int32) = 0 by decide), if_pos ((sI_ne (Or.inr (by decide))).trans h.2.2.1), ← sum_top ht]
  exact (pile_run (S0 := S) (t0 := t) hr hq hhi (402 - t) t [] [] (sI S 140 47 0) (4999 + 1) 4999 (by omega) (by omega) (by omega) (by omega) ⟨LVm_fm h fm (sI_ne (Or.inr (by decide))) (sI_ne (Or.inr (by decide))), e12, sI_at, trivial, trivial, by decide, (sI_ne (Or.inr (by decide))).trans h43, fun j d hj => by simp at hj, by simp [opn], fm, fun k _ => ⟨sI_ne (Or.inl (by decide)), sI_ne (Or.inl (by decide))⟩⟩).1
theorem msum_d {f p : Nat} (h : DDm f p S) : f_X10_expression 140 S = some ((), sI S 140 47 0) := by
  unfold f_X10_expression
  rw [nmq, nmq, show FU = 4999 + 1 from rfl, b12_d (by rw [sI_ne (Or.inr (by decide)), h.1]; exact f_nz h.2.2.1)]
end MSX

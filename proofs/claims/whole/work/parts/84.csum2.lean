/-! the class reads products and sums -/
section CS2
variable {v : Nat → Int32} {len Bc : Nat} {S S' : St}
def seqR (c : List Nat) (r : PR) : PR := match r with | .inl e => .inl e | .inr (t2, c2) => .inr (t2, c ++ c2)
theorem XRc_seq {q t u : Nat} {c : List Nat} {r : PR} {S1 S2 S3 : St} (hB : Bc = 2 ∨ Bc = 16) (h1 : XRc v len Bc q (.inr (t, c)) S S1) (ht : FX Bc S1 S2) (ho : ∀ a k, a ≠ 30 → S2.1 a k = S1.1 a k) (h2 : XRc v len Bc (q + c.length) r S2 S3) : XRc v len Bc q (seqR c r) S S3 := by
  obtain ⟨a1, a2, a3, a4, a5⟩ := h1
  obtain ⟨b1, b2, b3⟩ := h2
  have hf : FX Bc S S3 := (a1.tr ht).tr b1
  have hk : ∀ k, k < q → S3.1 (Bc + 8) k = S.1 (Bc + 8) k := fun k hk => ((b2 k (by omega)).trans (ho _ _ (by omega))).trans (a2 k hk)
  cases r with
  | inl e =>
    obtain ⟨f, w⟩ := e
    obtain ⟨b4, q', b5, b6, b7⟩ := b3
    exact ⟨hf, hk, b4, q', by omega, b6, b7⟩
  | inr tc =>
    obtain ⟨t2, c2⟩ := tc
    obtain ⟨d1, d2, d3⟩ := b3
    refine ⟨hf, hk, d1, ?_, CDs_app2 (CDs_keep a5 (fun k hk => (b2 k hk).trans (ho _ _ (by omega)))) d3⟩
    rw [d2, List.length_append, Nat.add_assoc]
theorem ploop_d {rs : Nat → Int32 → St → Option (Unit × St)} {f p fu : Nat} {w i : Int32} (h : DDc f p S) : b_X4_readProduct_7 rs (fu + 1) 30 w i S = some ((), S) := by
  rw [b_X4_readProduct_7]
  by_cases c : (400 : Int32) ≤ i
  · rw [if_pos c]
  · rw [if_neg c, hand_d h, bdq, if_neg (by decide), hand_d h, bdq, if_neg (by decide)]
theorem sloop_d {rs : Nat → Int32 → St → Option (Unit × St)} {f p fu : Nat} {w i : Int32} (h : DDc f p S) : b_X4_readSum_7 rs (fu + 1) 30 w i S = some ((), S) := by
  rw [b_X4_readSum_7]
  by_cases c : (400 : Int32) ≤ i
  · rw [if_pos c]
  · rw [if_neg c, hand_d h, bdq, if_neg (by decide), hand_d h, bdq, if_neg (by decide)]
theorem XRc_dead {q f u : Nat} {S1 S2 : St} {q0 : Nat} (hB : Bc = 2 ∨ Bc = 16) (h1 : FX Bc S S1) (hk1 : ∀ k, k < q → S1.1 (Bc + 8) k = S.1 (Bc + 8) k) (hd : DDc f (psT v len u) S1) (hq0 : q ≤ q0) (h2 : FX Bc S1 S2 ∧ (∀ k, k < q0 → S2.1 (Bc + 8) k = S1.1 (Bc + 8) k) ∧ (∃ q', q0 ≤ q' ∧ q' ≤ 404 ∧ S2.1 (Bc + 6) 2 = nI q') ∧ ∀ k, S2.1 30 k = S1.1 30 k) : XRc v len Bc q (.inl (f, u)) S S2 := by
  obtain ⟨b1, b2, ⟨q', b5, b6, b3⟩, b4⟩ := h2
  exact ⟨h1.tr b1, fun k hk => (b2 k (by omega)).trans (hk1 k hk), DDc_30 hd b4, q', by omega, b6, b3⟩
theorem prodL_c {rsC : Nat → Int32 → St → Option (Unit × St)} {rsA : Nat → Nat → PR} {w : Nat} (hd : w < 6 → ∀ (f p : Nat) (x : Int32) (S : St), DDc f p S → rsC 30 x S = some ((), S)) (hs : w < 6 → HRS v len Bc rsC rsA (w + 1)) (hgp : ∀ t, t ≤ 400 → w < 6 → GPr (rsA (w + 1) t) t (2 * (w + 1))) (hw : w ≤ 6) (hB : Bc = 2 ∨ Bc = 16) {t q : Nat} (hqt : q ≤ t + 4) : ∀ (n fu u i : Nat) (c : List Nat) (S1 : St), n < fu → 400 < n + u → t < u → 2 * i < u → c.length ≤ u - t → RRf Bc S1.2.2 → XRc v len Bc q (.inr (u, c)) S S1 → RN (b_X4_readProduct_7 rsC fu 30 (nI w) (nI i) S1) (fun _ S' => XRc v len Bc q (prodL (kdV v len) (vlV v len) rsA w n u c) S S') := by
  intro n
  induction n with
  | zero =>
    intro fu u i c S1 h1 h2 h3 h4 h5 hr hx
    have := hx.2.2.1.1
    omega
  | succ n ih =>
    intro fu u i c S1 h1 h2 h3 h4 h5 hr hx
    obtain ⟨fu, rfl⟩ : ∃ f, fu = f + 1 := ⟨fu - 1, by omega⟩
    have hl := hx.2.2.1
    have hu := hl.1
    have hkd : kdT v len u < 128 := kd_lt
    have hq1 := hx.2.2.2.1
    rw [b_X4_readProduct_7, if_neg (show ¬ (400 : Int32) ≤ nI i from nle_l (a := 400) (by omega) (by omega) (by omega)), hand_l hr hl, bdq, hand_l hr hl, bdq]
    unfold prodL
    have h32 : (kdT v len u = 42 ∨ kdT v len u = 47) → RN (b_X4_readProduct_32 rsC (b_X4_readProduct_7 rsC fu) 30 (nI w) (nI i) S1) (fun _ S' => XRc v len Bc q (if u < 400 then (match unitR (kdV v len) (vlV v len) rsA w (u + 1) with | .inl e => .inl e | .inr (t2, c2) => prodL (kdV v len) (vlV v len) rsA w n t2 (c ++ c2 ++ [20000 + kdT v len u])) else .inl (2, u)) S S') := by
      intro ck
      unfold b_X4_readProduct_32
      obtain ⟨S2, e2, fx, fo, hm⟩ := take_l hr hl (k := kdT v len u) hkd (by omega) (by omega)
      have r2 := FX_rr fx hr
      have eT : tkA v len (kdT v len u) u = if u < 400 then .inr (u + 1) else .inl (2, u) := by unfold tkA; rw [if_pos rfl]
      rw [eT] at hm
      rw [hand_l hr hl, bdq, e2, bdq]
      have hq2 : S2.1 (Bc + 6) 2 = nI (q + c.length) := (fo _ _ (by omega)).trans hq1
      have eN : (20000 : Int32) + nI (kdT v len u) = nI (20000 + kdT v len u) := nI_add 20000 _
      by_cases c2 : u < 400
      · rw [if_pos c2] at hm ⊢
        refine RN_bd (unit_c hd hs hgp hw hm r2 hq2 (by omega)) (fun _ S3 h3' => ?_)
        have r3 := FX_rr h3'.1 r2
        have hsq := XRc_seq (t := u) (u := u) hB hx fx fo h3'
        have hg := unit_gp (kd := kdV v len) (vl := vlV v len) (fun t ht => vl_lt ht) hgp hw (t := u + 1) (by omega)
        rw [rr_301 r3, rr_b10 r3, eN]
        cases hU : unitR (kdV v len) (vlV v len) rsA w (u + 1) with
        | inl e =>
          obtain ⟨f, z⟩ := e
          rw [hU] at hsq
          obtain ⟨s1, s2, s3, q0, g1, g2, g3⟩ := hsq
          refine RN_bd (put_any r3 g3 g2) (fun _ S4 h4' => ?_)
          have xd := XRc_dead hB s1 s2 s3 g1 h4'
          rw [nmq, nI_1]
          obtain ⟨fu2, rfl⟩ : ∃ f, fu = f + 1 := ⟨fu - 1, by omega⟩
          rw [ploop_d xd.2.2.1]
          exact RN_some xd
        | inr tc =>
          obtain ⟨t3, c3⟩ := tc
          rw [hU] at hsq
          obtain ⟨a1, a2, a3, -⟩ := hg t3 c3 hU
          obtain ⟨S4, e4, x4⟩ := put_x (x := 20000 + kdT v len u) r3 hsq (by rw [List.length_append]; omega)
          have r4 := FX_rr x4.1 (show RRf Bc S.2.2 by rw [← hx.1.1]; exact hr)
          rw [e4, bdq, nmq, nI_1]
          exact ih fu t3 (i + 1) _ S4 (by omega) (by omega) (by omega) (by omega) (by simp only [List.length_append, List.length_singleton]; omega) r4 x4
      · rw [if_neg c2] at hm ⊢
        rw [unit_d hm, bdq, rr_301 r2, rr_b10 r2]
        refine RN_bd (put_any r2 hq2 (by omega)) (fun _ S4 h4' => ?_)
        have xd := XRc_dead (q := q) hB (hx.1.tr fx) (fun k hk => (fo _ _ (by omega)).trans (hx.2.1 k hk)) hm (by omega) h4'
        rw [nmq, nI_1]
        obtain ⟨fu2, rfl⟩ : ∃ f, fu = f + 1 := ⟨fu - 1, by omega⟩
        rw [ploop_d xd.2.2.1]
        exact RN_some xd
    by_cases c1 : kdT v len u = 42
    · rw [if_pos (show nI (kdT v len u) = 42 by rw [c1]; rfl), if_pos (show kdV v len u = 42 ∨ kdV v len u = 47 from Or.inl c1)]
      exact h32 (Or.inl c1)
    · rw [if_neg (show ¬ nI (kdT v len u) = 42 from fun e => c1 ((nI_eq (b := 42) (by omega) (by decide)).mp e))]
      by_cases c2 : kdT v len u = 47
      · rw [if_pos (show nI (kdT v len u) = 47 by rw [c2]; rfl), if_pos (show kdV v len u = 42 ∨ kdV v len u = 47 from Or.inr c2)]
        exact h32 (Or.inr c2)
      · rw [if_neg (show ¬ nI (kdT v len u) = 47 from fun e => c2 ((nI_eq (b := 47) (by omega) (by decide)).mp e)), if_neg (show ¬ (kdV v len u = 42 ∨ kdV v len u = 47) from fun e => e.elim c1 c2)]
        exact RN_some hx
theorem prod_c {rsC : Nat → Int32 → St → Option (Unit × St)} {rsA : Nat → Nat → PR} {w : Nat} (hd : w < 6 → ∀ (f p : Nat) (x : Int32) (S : St), DDc f p S → rsC 30 x S = some ((), S)) (hs : w < 6 → HRS v len Bc rsC rsA (w + 1)) (hgp : ∀ t, t ≤ 400 → w < 6 → GPr (rsA (w + 1) t) t (2 * (w + 1))) (hw : w ≤ 6) {t q : Nat} (h : LVc v len t S) (hr : RRf Bc S.2.2) (hq : S.1 (Bc + 6) 2 = nI q) (hqt : q ≤ t + 4) : RN (f_X4_readProduct rsC 30 (nI w) S) (fun _ S' => XRc v len Bc q (prodR (kdV v len) (vlV v len) rsA w t) S S') := by
  have ht := h.1
  unfold f_X4_readProduct prodR
  refine RN_bd (unit_c hd hs hgp hw h hr hq hqt) (fun _ S1 h1 => ?_)
  have r1 := FX_rr h1.1 hr
  have hg := unit_gp (kd := kdV v len) (vl := vlV v len) (fun t ht => vl_lt ht) hgp hw (t := t) ht
  cases hU : unitR (kdV v len) (vlV v len) rsA w t with
  | inl e =>
    obtain ⟨f, z⟩ := e
    rw [hU] at h1
    rw [show FU = 4999 + 1 from rfl, ploop_d h1.2.2.1]
    exact RN_some h1
  | inr tc =>
    obtain ⟨t3, c3⟩ := tc
    rw [hU] at h1
    obtain ⟨a1, a2, a3, -⟩ := hg t3 c3 hU
    exact prodL_c hd hs hgp hw hr.1 hqt 401 FU t3 0 c3 S1 (by decide) (by omega) a1 (by omega) a3 r1 h1
theorem sumL_c {rsC : Nat → Int32 → St → Option (Unit × St)} {rsA : Nat → Nat → PR} {w : Nat} (hd : w < 6 → ∀ (f p : Nat) (x : Int32) (S : St), DDc f p S → rsC 30 x S = some ((), S)) (hs : w < 6 → HRS v len Bc rsC rsA (w + 1)) (hgp : ∀ t, t ≤ 400 → w < 6 → GPr (rsA (w + 1) t) t (2 * (w + 1))) (hw : w ≤ 6) (hB : Bc = 2 ∨ Bc = 16) {t q : Nat} (hqt : q ≤ t + 4) : ∀ (n fu u i : Nat) (c : List Nat) (S1 : St), n < fu → 400 < n + u → t < u → 2 * i < u → c.length ≤ u - t → RRf Bc S1.2.2 → XRc v len Bc q (.inr (u, c)) S S1 → RN (b_X4_readSum_7 rsC fu 30 (nI w) (nI i) S1) (fun _ S' => XRc v len Bc q (sumL (kdV v len) (vlV v len) rsA w n u c) S S') := by
  intro n
  induction n with
  | zero =>
    intro fu u i c S1 h1 h2 h3 h4 h5 hr hx
    have := hx.2.2.1.1
    omega
  | succ n ih =>
    intro fu u i c S1 h1 h2 h3 h4 h5 hr hx
    obtain ⟨fu, rfl⟩ : ∃ f, fu = f + 1 := ⟨fu - 1, by omega⟩
    have hl := hx.2.2.1
    have hu := hl.1
    have hkd : kdT v len u < 128 := kd_lt
    have hq1 := hx.2.2.2.1
    rw [b_X4_readSum_7, if_neg (show ¬ (400 : Int32) ≤ nI i from nle_l (a := 400) (by omega) (by omega) (by omega)), hand_l hr hl, bdq, hand_l hr hl, bdq]
    unfold sumL
    have h32 : (kdT v len u = 43 ∨ kdT v len u = 45) → RN (b_X4_readSum_32 rsC (b_X4_readSum_7 rsC fu) 30 (nI w) (nI i) S1) (fun _ S' => XRc v len Bc q (if u < 400 then (match prodR (kdV v len) (vlV v len) rsA w (u + 1) with | .inl e => .inl e | .inr (t2, c2) => sumL (kdV v len) (vlV v len) rsA w n t2 (c ++ c2 ++ [20000 + kdT v len u])) else .inl (2, u)) S S') := by
      intro ck
      unfold b_X4_readSum_32
      obtain ⟨S2, e2, fx, fo, hm⟩ := take_l hr hl (k := kdT v len u) hkd (by omega) (by omega)
      have r2 := FX_rr fx hr
      have eT : tkA v len (kdT v len u) u = if u < 400 then .inr (u + 1) else .inl (2, u) := by unfold tkA; rw [if_pos rfl]
      rw [eT] at hm
      rw [hand_l hr hl, bdq, e2, bdq]
      have hq2 : S2.1 (Bc + 6) 2 = nI (q + c.length) := (fo _ _ (by omega)).trans hq1
      have eN : (20000 : Int32) + nI (kdT v len u) = nI (20000 + kdT v len u) := nI_add 20000 _
      by_cases c2 : u < 400
      · rw [if_pos c2] at hm ⊢
        refine RN_bd (prod_c hd hs hgp hw hm r2 hq2 (by omega)) (fun _ S3 h3' => ?_)
        have r3 := FX_rr h3'.1 r2
        have hsq := XRc_seq (t := u) (u := u) hB hx fx fo h3'
        have hg := prod_gp (kd := kdV v len) (vl := vlV v len) (fun t ht => vl_lt ht) hgp hw (t := u + 1) (by omega)
        rw [rr_301 r3, rr_b10 r3, eN]
        cases hU : prodR (kdV v len) (vlV v len) rsA w (u + 1) with
        | inl e =>
          obtain ⟨f, z⟩ := e
          rw [hU] at hsq
          obtain ⟨s1, s2, s3, q0, g1, g2, g3⟩ := hsq
          refine RN_bd (put_any r3 g3 g2) (fun _ S4 h4' => ?_)
          have xd := XRc_dead hB s1 s2 s3 g1 h4'
          rw [nmq, nI_1]
          obtain ⟨fu2, rfl⟩ : ∃ f, fu = f + 1 := ⟨fu - 1, by omega⟩
          rw [sloop_d xd.2.2.1]
          exact RN_some xd
        | inr tc =>
          obtain ⟨t3, c3⟩ := tc
          rw [hU] at hsq
          obtain ⟨a1, a2, a3, -⟩ := hg t3 c3 hU
          obtain ⟨S4, e4, x4⟩ := put_x (x := 20000 + kdT v len u) r3 hsq (by rw [List.length_append]; omega)
          have r4 := FX_rr x4.1 (show RRf Bc S.2.2 by rw [← hx.1.1]; exact hr)
          rw [e4, bdq, nmq, nI_1]
          exact ih fu t3 (i + 1) _ S4 (by omega) (by omega) (by omega) (by omega) (by simp only [List.length_append, List.length_singleton]; omega) r4 x4
      · rw [if_neg c2] at hm ⊢
        rw [prod_d hm, bdq, rr_301 r2, rr_b10 r2]
        refine RN_bd (put_any r2 hq2 (by omega)) (fun _ S4 h4' => ?_)
        have xd := XRc_dead (q := q) hB (hx.1.tr fx) (fun k hk => (fo _ _ (by omega)).trans (hx.2.1 k hk)) hm (by omega) h4'
        rw [nmq, nI_1]
        obtain ⟨fu2, rfl⟩ : ∃ f, fu = f + 1 := ⟨fu - 1, by omega⟩
        rw [sloop_d xd.2.2.1]
        exact RN_some xd
    by_cases c1 : kdT v len u = 43
    · rw [if_pos (show nI (kdT v len u) = 43 by rw [c1]; rfl), if_pos (show kdV v len u = 43 ∨ kdV v len u = 45 from Or.inl c1)]
      exact h32 (Or.inl c1)
    · rw [if_neg (show ¬ nI (kdT v len u) = 43 from fun e => c1 ((nI_eq (b := 43) (by omega) (by decide)).mp e))]
      by_cases c2 : kdT v len u = 45
      · rw [if_pos (show nI (kdT v len u) = 45 by rw [c2]; rfl), if_pos (show kdV v len u = 43 ∨ kdV v len u = 45 from Or.inr c2)]
        exact h32 (Or.inr c2)
      · rw [if_neg (show ¬ nI (kdT v len u) = 45 from fun e => c2 ((nI_eq (b := 45) (by omega) (by decide)).mp e)), if_neg (show ¬ (kdV v len u = 43 ∨ kdV v len u = 45) from fun e => e.elim c1 c2)]
        exact RN_some hx
theorem sum_c : ∀ (n w : Nat), w ≤ 6 → 6 < n + w → HRS v len Bc (f_X4_readSum n) (sumR (kdV v len) (vlV v len) n) w
  | 0, w, h1, h2 => by omega
  | n + 1, w, hw, h2 => by
    intro t q S h hr hq hqt
    have ht := h.1
    have hd : w < 6 → ∀ (f p : Nat) (x : Int32) (S : St), DDc f p S → f_X4_readSum n 30 x S = some ((), S) := fun hw6 f p x S hh => by
      obtain ⟨m, rfl⟩ : ∃ m, n = m + 1 := ⟨n - 1, by omega⟩
      exact sum_d hh
    have hs : w < 6 → HRS v len Bc (f_X4_readSum n) (sumR (kdV v len) (vlV v len) n) (w + 1) := fun h6 => sum_c n (w + 1) (by omega) (by omega)
    have hgp : ∀ t, t ≤ 400 → w < 6 → GPr (sumR (kdV v len) (vlV v len) n (w + 1) t) t (2 * (w + 1)) := fun t ht h6 => sum_gp (fun t ht => vl_lt ht) n (w + 1) (by omega) t ht
    show RN (g_X4_readSum (f_X4_readSum n) 30 (nI w) S) (fun _ S' => XRc v len Bc q (sumR1 (kdV v len) (vlV v len) (sumR (kdV v len) (vlV v len) n) w t) S S')
    unfold g_X4_readSum sumR1
    refine RN_bd (prod_c hd hs hgp hw h hr hq hqt) (fun _ S1 h1 => ?_)
    have r1 := FX_rr h1.1 hr
    have hg := prod_gp (kd := kdV v len) (vl := vlV v len) (fun t ht => vl_lt ht) hgp hw (t := t) ht
    cases hU : prodR (kdV v len) (vlV v len) (sumR (kdV v len) (vlV v len) n) w t with
    | inl e =>
      obtain ⟨f, z⟩ := e
      rw [hU] at h1
      rw [show FU = 4999 + 1 from rfl, sloop_d h1.2.2.1]
      exact RN_some h1
    | inr tc =>
      obtain ⟨t3, c3⟩ := tc
      rw [hU] at h1
      obtain ⟨a1, a2, a3, -⟩ := hg t3 c3 hU
      exact sumL_c hd hs hgp hw hr.1 hqt 401 FU t3 0 c3 S1 (by decide) (by omega) a1 (by omega) a3 r1 h1
/-- a whole sum -/
theorem csum_run {t q : Nat} (h : LVc v len t S) (hr : RRf Bc S.2.2) (hq : S.1 (Bc + 6) 2 = nI q) (hqt : q ≤ t + 4) : RN (f_X4_readSum RF 30 0 S) (fun _ S' => XRc v len Bc q (sumR (kdV v len) (vlV v len) 9 0 t) S S') := sum_c 9 0 (by decide) (by decide) t q S h hr hq hqt
end CS2

/-! the class reads a sum: its loops -/
section CSM
variable {v : Nat → Int32} {len Bc : Nat} {S S' : St}
theorem vl_lt {t : Nat} (h : kdT v len t = 22) : vlV v len t < 10000 := by
  show vlN v len (psT v len t) < 10000
  unfold kdT kdP at h
  by_cases c0 : ¬ psT v len t < len
  · rw [if_pos c0] at h; omega
  · rw [if_neg c0] at h
    by_cases c1 : letB (v (psT v len t)) = true
    · rw [if_pos c1] at h
      by_cases c2 : rnL v len (psT v len t) ≤ 8
      · rw [if_pos c2] at h
        have := wdF_le (x := NB 32 (dgL v (psT v len t)) (rnL v len (psT v len t))) 21 0 (by decide)
        omega
      · rw [if_neg c2] at h; omega
    · rw [if_neg c1] at h
      unfold vlN
      rw [if_neg c1]
      by_cases c2 : digB (v (psT v len t)) = true
      · rw [if_pos c2] at h
        by_cases c3 : rnD v len (psT v len t) ≤ 4
        · exact N10_lt c3
        · rw [if_neg c3] at h; omega
      · rw [if_neg c2] at h
        by_cases c3 : sgnB (v (psT v len t)) = true
        · rw [if_pos c3] at h
          have h40 : ∀ x : Int32, sgnB x = true → 40 ≤ x.toInt.toNat := fun x hx => by
            unfold sgnB at hx
            simp only [Bool.or_eq_true, decide_eq_true_eq] at hx
            rcases hx with (((((((h | h) | h) | h) | h) | h) | h) | h) | h <;> subst h <;> decide
          have := h40 _ c3
          omega
        · rw [if_neg c3] at h; omega
theorem i64_32 {n : Nat} (h : n < 2 ^ 31) : (Int64.ofNat n).toInt32 = nI n := by
  rw [i32_eq, nI_toInt h, Int64.toInt_toInt32, Int64.toInt_ofNat_of_lt (by omega)]
  exact Int.bmod_eq_of_le (by omega) (by omega)
theorem put_any {q : Nat} {x : Int32} (hr : RRf Bc S.2.2) (hq : S.1 (Bc + 6) 2 = nI q) (h4 : q ≤ 404) : RN (f_X2_put (Bc + 6) x S) (fun _ S' => FX Bc S S' ∧ (∀ k, k < q → S'.1 (Bc + 8) k = S.1 (Bc + 8) k) ∧ (∃ q', q ≤ q' ∧ q' ≤ 404 ∧ S'.1 (Bc + 6) 2 = nI q') ∧ ∀ k, S'.1 30 k = S.1 30 k) := by
  have hB := hr.1
  by_cases c : q = 404
  · unfold f_X2_put
    rw [hq, if_pos (show Int32.ofNat 404 ≤ nI q by rw [c]; decide)]
    exact RN_some ⟨FX.rf, fun _ _ => rfl, ⟨q, Nat.le_refl _, h4, hq⟩, fun _ => rfl⟩
  · unfold f_X2_put
    rw [hq, if_neg (show ¬ Int32.ofNat 404 ≤ nI q from nle_l (a := 404) (by omega) (by omega) (by omega)), ix_nI (show q < 404 by omega) (by decide), obq, nmq, rr_l1 hr, nmq, sI_ne (Or.inl (by omega)), hq, nI_1]
    refine RN_some ⟨⟨rfl, fun a k a1 a2 a3 => by rw [sI_ne (by omega), sI_ne (by omega)]⟩, fun k hk => by rw [sI_ne (by omega), sI_ne (by omega)], ⟨q + 1, by omega, by omega, sI_at⟩, fun k => by rw [sI_ne (by omega), sI_ne (by omega)]⟩
theorem DDc_30 {f p : Nat} (h : DDc f p S) (hk : ∀ k, S'.1 30 k = S.1 30 k) : DDc f p S' := by
  obtain ⟨h1, h2, h3, t, h4, h5⟩ := h
  exact ⟨(hk _).trans h1, (hk _).trans h2, h3, t, h4, (hk _).trans h5⟩
theorem unit_d {rs : Nat → Int32 → St → Option (Unit × St)} {f p : Nat} {w : Int32} (h : DDc f p S) : f_X4_readUnit rs 30 w S = some ((), S) := by
  unfold f_X4_readUnit b_X4_readUnit_78
  rw [hand_d h, bdq, if_neg (show ¬ (-1 : Int32) = 22 by decide), if_pos (show (-1 : Int32) < 12 by decide), if_neg (show ¬ (-1 : Int32) = 40 by decide), refuse_d h, bdq]
theorem prod_d {rs : Nat → Int32 → St → Option (Unit × St)} {f p : Nat} {w : Int32} (h : DDc f p S) : f_X4_readProduct rs 30 w S = some ((), S) := by
  unfold f_X4_readProduct
  rw [unit_d h, bdq, show FU = 4999 + 1 from rfl, b_X4_readProduct_7, if_neg (by decide), hand_d h, bdq, if_neg (by decide), hand_d h, bdq, if_neg (by decide)]
theorem sum_d {f p n : Nat} {w : Int32} (h : DDc f p S) : f_X4_readSum (n + 1) 30 w S = some ((), S) := by
  unfold f_X4_readSum g_X4_readSum
  rw [prod_d h, bdq, show FU = 4999 + 1 from rfl, b_X4_readSum_7, if_neg (by decide), hand_d h, bdq, if_neg (by decide), hand_d h, bdq, if_neg (by decide)]
/-- the class's reading is as told -/
def HRS (v : Nat → Int32) (len Bc : Nat) (rsC : Nat → Int32 → St → Option (Unit × St)) (rsA : Nat → Nat → PR) (w : Nat) : Prop := ∀ t q S, LVc v len t S → RRf Bc S.2.2 → S.1 (Bc + 6) 2 = nI q → q ≤ t + 4 → RN (rsC 30 (nI w) S) (fun _ S' => XRc v len Bc q (rsA w t) S S')
theorem XRc_0 {q t : Nat} (h : LVc v len t S) (hq : S.1 (Bc + 6) 2 = nI q) : XRc v len Bc q (.inr (t, [])) S S := ⟨FX.rf, fun _ _ => rfl, h, hq, fun j c hj => by simp at hj⟩
theorem unit_c {rsC : Nat → Int32 → St → Option (Unit × St)} {rsA : Nat → Nat → PR} {w : Nat} (hd : w < 6 → ∀ (f p : Nat) (x : Int32) (S : St), DDc f p S → rsC 30 x S = some ((), S)) (hs : w < 6 → HRS v len Bc rsC rsA (w + 1)) (hgp : ∀ t, t ≤ 400 → w < 6 → GPr (rsA (w + 1) t) t (2 * (w + 1))) (hw : w ≤ 6) {t q : Nat} (h : LVc v len t S) (hr : RRf Bc S.2.2) (hq : S.1 (Bc + 6) 2 = nI q) (hqt : q ≤ t + 4) : RN (f_X4_readUnit rsC 30 (nI w) S) (fun _ S' => XRc v len Bc q (unitR (kdV v len) (vlV v len) rsA w t) S S') := by
  have ht := h.1
  have hkd : kdT v len t < 128 := kd_lt
  have hB := hr.1
  unfold f_X4_readUnit
  rw [hand_l hr h, bdq]
  by_cases c1 : kdT v len t = 22
  · obtain ⟨S1, e1, fx, fo, hm⟩ := take_l hr h (k := 22) (by decide) (by decide) (by decide)
    have r1 := FX_rr fx hr
    have hv : S1.2.1 34 t = Int64.ofNat (vlV v len t) := by rw [fx.1]; exact (h.2.2.2.2.1 t (by omega) ht h.2.2.2.1).2.2 (by omega)
    have hq1 : S1.1 (Bc + 6) 2 = nI q := (fo _ _ (by omega)).trans hq
    rw [if_pos (show nI (kdT v len t) = 22 by rw [c1]; rfl), show f_X4_take 30 (22 : Int32) S = _ from e1, bdq, ix_nI (show t < 401 by omega) (by decide), obq, rr_301 hr, rr_b10 hr, rr_300 hr, rr_312 hr, hv, i64_32 (Nat.lt_trans (vl_lt c1) (by decide))]
    have eA : unitR (kdV v len) (vlV v len) rsA w t = if t < 400 then .inr (t + 1, [vlV v len t]) else .inl (2, t) := by unfold unitR; rw [if_pos c1]
    have eT : tkA v len 22 t = if t < 400 then .inr (t + 1) else .inl (2, t) := by unfold tkA; rw [if_pos c1]
    rw [eA]
    rw [eT] at hm
    by_cases c2 : t < 400
    · rw [if_pos c2] at hm ⊢
      have hx : XRc v len Bc q (.inr (t + 1, [])) S S1 := ⟨fx, fun k hk => fo _ _ (by omega), hm, hq1, fun j c hj => by simp at hj⟩
      obtain ⟨S2, e2, x2⟩ := put_x (x := vlV v len t) r1 hx (by simp; omega)
      rw [e2, bdq]
      exact RN_some x2
    · rw [if_neg c2] at hm ⊢
      refine RN_bd (put_any r1 hq1 (by omega)) (fun _ S2 h2 => RN_some ⟨fx.tr h2.1, fun k hk => (h2.2.1 k hk).trans (fo _ _ (by omega)), DDc_30 hm h2.2.2.2, h2.2.2.1⟩)
  · rw [if_neg (show ¬ nI (kdT v len t) = 22 from fun e => c1 ((nI_eq (b := 22) (by omega) (by decide)).mp e))]
    by_cases c2 : 12 ≤ kdT v len t ∧ kdT v len t ≤ 20
    · obtain ⟨S1, e1, fx, fo, hm⟩ := take_l hr h (k := kdT v len t) (by omega) (by omega) (by omega)
      have r1 := FX_rr fx hr
      have hq1 : S1.1 (Bc + 6) 2 = nI q := (fo _ _ (by omega)).trans hq
      have eN : (10000 : Int32) + nI (kdT v len t) - 12 = nI (10000 + kdT v len t - 12) := by
        rw [show (10000 : Int32) + nI (kdT v len t) = nI (10000 + kdT v len t) from nI_add 10000 _, show (12 : Int32) = nI 12 from rfl, pk_sub (by omega)]
      rw [if_neg (show ¬ nI (kdT v len t) < 12 from nlt_l (b := 12) (by omega) (by omega) (by omega)), if_neg (show ¬ (20 : Int32) < nI (kdT v len t) from nlt_l (a := 20) (by omega) (by omega) (by omega)), e1, bdq, rr_301 r1, rr_b10 r1, eN]
      have eA : unitR (kdV v len) (vlV v len) rsA w t = if t < 400 then .inr (t + 1, [10000 + kdT v len t - 12]) else .inl (2, t) := by unfold unitR; rw [if_neg c1, if_pos c2]
      have eT : tkA v len (kdT v len t) t = if t < 400 then .inr (t + 1) else .inl (2, t) := by unfold tkA; rw [if_pos rfl]
      rw [eA]
      rw [eT] at hm
      by_cases c3 : t < 400
      · rw [if_pos c3] at hm ⊢
        have hx : XRc v len Bc q (.inr (t + 1, [])) S S1 := ⟨fx, fun k hk => fo _ _ (by omega), hm, hq1, fun j c hj => by simp at hj⟩
        obtain ⟨S2, e2, x2⟩ := put_x (x := 10000 + kdT v len t - 12) r1 hx (by simp; omega)
        rw [e2, bdq]
        exact RN_some x2
      · rw [if_neg c3] at hm ⊢
        refine RN_bd (put_any r1 hq1 (by omega)) (fun _ S2 h2 => RN_some ⟨fx.tr h2.1, fun k hk => (h2.2.1 k hk).trans (fo _ _ (by omega)), DDc_30 hm h2.2.2.2, h2.2.2.1⟩)
    · have hb : RN (b_X4_readUnit_78 rsC 30 (nI w) (nI (kdT v len t)) S) (fun _ S' => XRc v len Bc q (unitR (kdV v len) (vlV v len) rsA w t) S S') := by
        unfold b_X4_readUnit_78
        have dead : ∀ k : Nat, (k = 1 ∨ k = 2) → unitR (kdV v len) (vlV v len) rsA w t = .inl (k, t) → RN (bd (f_X4_refuse 30 (nI k) S) fun _ S7 => some ((), S7)) (fun _ S' => XRc v len Bc q (unitR (kdV v len) (vlV v len) rsA w t) S S') := fun k hk e => by
          rw [refuse_l hr h, bdq, e]
          exact RN_some ⟨(FX_30 (by decide) (by decide)).tr (FX_30 (by decide) (by decide)), fun j hj => by rw [sI_ne (by omega), sI_ne (by omega)], DDc_of h hk, q, Nat.le_refl _, by omega, by rw [sI_ne (by omega), sI_ne (by omega)]; exact hq⟩
        by_cases c3 : kdT v len t = 40
        · rw [if_pos (show nI (kdT v len t) = 40 by rw [c3]; rfl)]
          by_cases c4 : w < 6
          · rw [if_pos (show nI w < 6 from lt_l (b := 6) (by omega) (by omega) c4)]
            obtain ⟨S1, e1, fx, fo, hm⟩ := take_l hr h (k := 40) (by decide) (by decide) (by decide)
            have r1 := FX_rr fx hr
            have hq1 : S1.1 (Bc + 6) 2 = nI q := (fo _ _ (by omega)).trans hq
            have eT : tkA v len 40 t = if t < 400 then .inr (t + 1) else .inl (2, t) := by unfold tkA; rw [if_pos c3]
            rw [eT] at hm
            rw [show f_X4_take 30 (40 : Int32) S = _ from e1, bdq, nI_1]
            by_cases c5 : t < 400
            · rw [if_pos c5] at hm
              refine RN_bd (hs c4 (t + 1) q S1 hm r1 hq1 (by omega)) (fun _ S2 h2 => ?_)
              obtain ⟨x1, x2, x3⟩ := h2
              have r2 := FX_rr x1 r1
              cases hrs : rsA (w + 1) (t + 1) with
              | inl e =>
                obtain ⟨f, u⟩ := e
                rw [hrs] at x3
                obtain ⟨d1, d2⟩ := x3
                obtain ⟨d3, d4, d5, t', d6, d7⟩ := d1
                have eA : unitR (kdV v len) (vlV v len) rsA w t = .inl (f, u) := by unfold unitR; rw [if_neg c1, if_neg c2, if_pos c3, if_pos c4, if_pos c5, hrs]
                rw [take_d ⟨d3, d4, d5, t', d6, d7⟩ (by decide) d7, bdq, eA]
                exact RN_some ⟨fx.tr x1, fun k hk => (x2 k hk).trans (fo _ _ (by omega)), ⟨d3, d4, d5, t', d6, d7⟩, d2⟩
              | inr tc =>
                obtain ⟨t2, c⟩ := tc
                rw [hrs] at x3
                obtain ⟨y1, y2, y3⟩ := x3
                have eA : unitR (kdV v len) (vlV v len) rsA w t = if kdT v len t2 = 41 then (if t2 < 400 then .inr (t2 + 1, c) else .inl (2, t2)) else .inl (1, t2) := by unfold unitR; rw [if_neg c1, if_neg c2, if_pos c3, if_pos c4, if_pos c5, hrs]
                obtain ⟨S3, e3, gx, go, gm⟩ := take_l r2 y1 (k := 41) (by decide) (by decide) (by decide)
                have eT2 : tkA v len 41 t2 = if kdT v len t2 = 41 then (if t2 < 400 then .inr (t2 + 1) else .inl (2, t2)) else .inl (1, t2) := rfl
                rw [eT2] at gm
                rw [show f_X4_take 30 (41 : Int32) S2 = _ from e3, bdq, eA]
                obtain ⟨z1, z2, z3, -⟩ := hgp (t + 1) (by omega) c4 t2 c hrs
                have base : FX Bc S S3 ∧ ∀ k, k < q → S3.1 (Bc + 8) k = S.1 (Bc + 8) k := ⟨(fx.tr x1).tr gx, fun k hk => ((go _ _ (by omega)).trans (x2 k hk)).trans (fo _ _ (by omega))⟩
                by_cases c6 : kdT v len t2 = 41
                · rw [if_pos c6] at gm ⊢
                  by_cases c7 : t2 < 400
                  · rw [if_pos c7] at gm ⊢
                    exact RN_some ⟨base.1, base.2, gm, (go _ _ (by omega)).trans y2, CDs_keep y3 (fun k hk => go _ _ (by omega))⟩
                  · rw [if_neg c7] at gm ⊢
                    exact RN_some ⟨base.1, base.2, gm, q + c.length, by omega, by omega, (go _ _ (by omega)).trans y2⟩
                · rw [if_neg c6] at gm ⊢
                  exact RN_some ⟨base.1, base.2, gm, q + c.length, by omega, by omega, (go _ _ (by omega)).trans y2⟩
            · rw [if_neg c5] at hm
              have eA : unitR (kdV v len) (vlV v len) rsA w t = .inl (2, t) := by unfold unitR; rw [if_neg c1, if_neg c2, if_pos c3, if_pos c4, if_neg c5]
              obtain ⟨d3, d4, d5, t', d6, d7⟩ := hm
              rw [hd c4 2 _ _ S1 ⟨d3, d4, d5, t', d6, d7⟩, bdq, take_d ⟨d3, d4, d5, t', d6, d7⟩ (by decide) d7, bdq, eA]
              exact RN_some ⟨fx, fun k hk => fo _ _ (by omega), ⟨d3, d4, d5, t', d6, d7⟩, q, Nat.le_refl _, by omega, hq1⟩
          · rw [if_neg (show ¬ nI w < 6 from nlt_l (b := 6) (by omega) (by omega) (by omega))]
            exact dead 2 (Or.inr rfl) (by unfold unitR; rw [if_neg c1, if_neg c2, if_pos c3, if_neg c4])
        · rw [if_neg (show ¬ nI (kdT v len t) = 40 from fun e => c3 ((nI_eq (b := 40) (by omega) (by decide)).mp e))]
          exact dead 1 (Or.inl rfl) (by unfold unitR; rw [if_neg c1, if_neg c2, if_neg c3])
      by_cases c3 : kdT v len t < 12
      · rw [if_pos (show nI (kdT v len t) < 12 from lt_l (b := 12) (by omega) (by omega) c3)]
        exact hb
      · rw [if_neg (show ¬ nI (kdT v len t) < 12 from nlt_l (b := 12) (by omega) (by omega) (by omega)), if_pos (show (20 : Int32) < nI (kdT v len t) from lt_l (a := 20) (by omega) (by omega) (by omega))]
        exact hb
end CSM

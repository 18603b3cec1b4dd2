/-! the reference: what is worn, felt; how fast one stands, storms, prices -/
section MGO
variable {lv : Nat} {b : Bk} {s : ASea} {S : St}
theorem wears_loop (h : CMx lv b s S) {p : Nat} : ∀ (m fu i c : Nat), m < fu → i + m = bS b → b_X10_wearsOf_4 fu 140 (nI p) (nI c) (nI i) S = some (nI (c + cntF (fun e => wornA s e p) m i), S) := by
  have h8 : bS b ≤ 8 := h.wb.s8
  intro m
  induction m with
  | zero =>
    intro fu i c hf hi
    obtain ⟨fu, rfl⟩ : ∃ f, fu = f + 1 := ⟨fu - 1, by omega⟩
    rw [b_X10_wearsOf_4, h.k.ixl, obq, rq_29 h.rf, h.k.nS, if_pos (le_l (by omega) (by omega) (by omega))]
    rfl
  | succ m ih =>
    intro fu i c hf hi
    obtain ⟨fu, rfl⟩ : ∃ f, fu = f + 1 := ⟨fu - 1, by omega⟩
    rw [b_X10_wearsOf_4, h.k.ixl, obq, rq_29 h.rf, h.k.nS, if_neg (nle_l (by omega) (by omega) (by omega)), ix55_38 (by omega), obq, rq_52 h.rf, h.wrr (by omega)]
    by_cases hq : aR s (28 + i) = nI p
    · rw [if_pos hq, mcut_eq h (by omega), bdq]
      by_cases hc : (aC s).testBit i = true
      · rw [if_pos hc, if_neg (by decide), b_X10_wearsOf_41, nmq, nI_1, ih fu (i + 1) c (by omega) (by omega)]
        simp [cntF, wornA, hc]
      · rw [if_neg hc, if_pos rfl, nmq, nI_1, b_X10_wearsOf_41, nmq, nI_1, ih fu (i + 1) (c + 1) (by omega) (by omega)]
        simp only [cntF, wornA, hc, hq]
        rw [Nat.add_assoc]
        rfl
    · rw [if_neg hq, b_X10_wearsOf_41, nmq, nI_1, ih fu (i + 1) c (by omega) (by omega)]
      simp [cntF, wornA, hq]
theorem wears_eq (h : CMx lv b s S) {p : Nat} : f_X10_wearsOf 140 (nI p) S = some (nI (wornN b s p), S) := by
  have h8 : bS b ≤ 8 := h.wb.s8
  unfold f_X10_wearsOf
  rw [show b_X10_wearsOf_4 FU 140 (nI p) 0 0 S = _ from wears_loop h (bS b) FU 0 0 (by unfold FU; omega) (by omega), Nat.zero_add]
  rfl
theorem mstands_run (h : CMx lv b s S) {p : Nat} (hp : p < bP b) {x y : Int32} : RN (f_X10_standsAt 140 (nI p) x y S) (fun r S' => r = standsA b s p x y ∧ MV S S') := by
  have hp6 : p < 6 := Nat.lt_of_lt_of_le hp h.wb.p6
  unfold f_X10_standsAt
  refine RN_bd (looks_run h) (fun _ S1 h1 => ?_)
  obtain ⟨hv, hE⟩ := h1
  have h2 := CMx_v h hE
  rw [h2.k.l18, ix6lv h.k.lt hp6, obq, ix9_4, obq, nmq, rq_48 h2.rf, rq_28 h2.rf, h2.k.wt hp, ix9_5, obq, nmq]
  simp only [sI_2, rq_48 h2.rf]
  rw [ix9_6, obq, nmq]
  simp only [sI_2, rq_48 h2.rf]
  have h3 := CMx_v h2 (((MV_w (k := 4) (v := nI (bWt b p))).tr (MV_w (k := 5) (v := x))).tr (MV_w (k := 6) (v := y)))
  rw [wears_eq h3, bdq, ix9_8, obq, nmq, obq]
  have hv2 : ∀ k, k < 9 → (sI (sI (sI (sI S1 172 4 (nI (bWt b p))) 172 5 x) 172 6 y) 172 8 (nI (wornN b s p))).1 172 k = vS b s p x y k := fun k hk => by simp only [sI_1, true_and, vS, hv k hk]
  simp only [sI_2, rq_48 h2.rf]
  rw [hv2 4 (by decide)]
  exact RN_mono (lawm_run (k := 1) (CMx_v h3 MV_w) (by decide) hv2 dflt_1 (by decide)) (fun r S' hh => ⟨hh.1, hE.tr ((((MV_w.tr MV_w).tr MV_w).tr MV_w).tr hh.2)⟩)
theorem mstorm_run (h : CMx lv b s S) {p : Nat} (hp : p < bP b) : RN (f_X10_stormOf 140 (nI p) S) (fun r S' => r = stormA b s p ∧ MV S S') := by
  have hp6 : p < 6 := Nat.lt_of_lt_of_le hp h.wb.p6
  unfold f_X10_stormOf
  refine RN_bd (looks_run h) (fun _ S1 h1 => ?_)
  obtain ⟨hv, hE⟩ := h1
  have h2 := CMx_v h hE
  rw [h2.k.l18, ix6lv h.k.lt hp6, obq, ix9_4, obq, nmq, rq_48 h2.rf, rq_28 h2.rf, h2.k.wt hp, ix55_20 hp6, obq, ix9_5, obq, nmq]
  have h2a := CMx_v h2 (MV_w (k := 4) (v := nI (bWt b p)))
  simp only [sI_2, rq_48 h2.rf, rq_52 h2.rf]
  rw [h2a.px hp, ix55_26 hp6, obq, ix9_6, obq, nmq]
  have h2b := CMx_v h2a (MV_w (k := 5) (v := pX s p))
  simp only [sI_2, rq_48 h2.rf, rq_52 h2.rf]
  rw [h2b.py hp]
  have h3 := CMx_v h2b (MV_w (k := 6) (v := pY s p))
  rw [wears_eq h3, bdq, ix9_8, obq, nmq]
  have hv2 : ∀ k, k < 9 → (sI (sI (sI (sI S1 172 4 (nI (bWt b p))) 172 5 (pX s p)) 172 6 (pY s p)) 172 8 (nI (wornN b s p))).1 172 k = vS b s p (pX s p) (pY s p) k := fun k hk => by simp only [sI_1, true_and, vS, hv k hk]
  exact RN_mono (lawm_run (k := 3) (CMx_v h3 MV_w) (by decide) hv2 dflt_3 (by decide)) (fun r S' hh => ⟨hh.1, hE.tr ((((MV_w.tr MV_w).tr MV_w).tr MV_w).tr hh.2)⟩)
theorem mprice_run (h : CMx lv b s S) {e : Nat} (he : e < bS b) : RN (f_X10_priceOf 140 (nI e) S) (fun r S' => r = priceA b s e ∧ MV S S') := by
  have he8 : e < 8 := Nat.lt_of_lt_of_le he h.wb.s8
  obtain ⟨w1, w2⟩ := wr_eq h.wp h.wb he
  have w6 : wr s e < 6 := Nat.lt_of_lt_of_le w2 h.wb.p6
  unfold f_X10_priceOf
  rw [ix55_38 he8, obq, nmq, rq_52 h.rf, h.wrr he8, w1]
  refine RN_bd (looks_run h) (fun _ S1 h1 => ?_)
  obtain ⟨hv, hE⟩ := h1
  have h2 := CMx_v h hE
  rw [h2.k.l18, ix8lv h.k.lt he8, obq, ix9_0, obq, nmq, rq_48 h2.rf, rq_32 h2.rf, h2.k.len he]
  have hva : ∀ k, k < 9 → (sI S1 172 0 (nI (bLen b e))).1 172 k = if k = 0 then nI (bLen b e) else v0 s k := fun k hk => by simp only [sI_1, true_and, hv k hk]
  have hEa : MV S (sI S1 172 0 (nI (bLen b e))) := hE.tr MV_w
  revert hva hEa
  generalize sI S1 172 0 (nI (bLen b e)) = S2
  intro hva hEa
  have h2a := CMx_v h hEa
  rw [whose_eq h2a he, bdq, ix55_20 w6, obq, ix55_26 w6, obq, rq_52 h2a.rf, rq_48 h2a.rf, h2a.px w2, h2a.py w2, mfar_eq h2a he (h.p9 w2).1 (h.p9 w2).2, bdq, ix9_1, obq, nmq]
  have hvb : ∀ k, k < 9 → (sI S2 172 1 (farA s (bWho b e) (pX s (wr s e)) (pY s (wr s e)))).1 172 k = if k = 1 then farA s (bWho b e) (pX s (wr s e)) (pY s (wr s e)) else if k = 0 then nI (bLen b e) else v0 s k := fun k hk => by simp only [sI_1, true_and, hva k hk]
  have hEb : MV S (sI S2 172 1 (farA s (bWho b e) (pX s (wr s e)) (pY s (wr s e)))) := hEa.tr MV_w
  revert hvb hEb
  generalize sI S2 172 1 (farA s (bWho b e) (pX s (wr s e)) (pY s (wr s e))) = S3
  intro hvb hEb
  have h2b := CMx_v h hEb
  rw [ix9_7, obq, nmq, rq_48 h2b.rf]
  have hvc : ∀ k, k < 9 → (sI S3 172 7 (nI e)).1 172 k = if k = 7 then nI e else if k = 1 then farA s (bWho b e) (pX s (wr s e)) (pY s (wr s e)) else if k = 0 then nI (bLen b e) else v0 s k := fun k hk => by simp only [sI_1, true_and, hvb k hk]
  have hEc : MV S (sI S3 172 7 (nI e)) := hEb.tr MV_w
  revert hvc hEc
  generalize sI S3 172 7 (nI e) = S4
  intro hvc hEc
  have h3 := CMx_v h hEc
  rw [wears_eq h3, bdq, ix9_8, obq, nmq, rq_48 h3.rf, obq]
  have hv2 : ∀ k, k < 9 → (sI S4 172 8 (nI (wornN b s (wr s e)))).1 172 k = vC b s e k := fun k hk => by
    simp only [sI_1, true_and, hvc k hk]
    unfold vC
    by_cases e8 : k = 8
    · rw [if_pos e8, if_neg (by omega), if_pos e8]
    · by_cases e7 : k = 7
      · rw [if_neg e8, if_pos e7, if_neg (by omega), if_neg e8, if_pos e7]
      · by_cases e1 : k = 1
        · rw [if_neg e8, if_neg e7, if_pos e1, if_pos e1]
          rfl
        · rw [if_neg e8, if_neg e7, if_neg e1, if_neg e1, if_neg e8, if_neg e7]
  have hEd : MV S (sI S4 172 8 (nI (wornN b s (wr s e)))) := hEc.tr MV_w
  revert hv2 hEd
  generalize sI S4 172 8 (nI (wornN b s (wr s e))) = S5
  intro hv2 hEd
  have h4 := CMx_v h hEd
  rw [rq_48 h4.rf, hv2 0 (by decide)]
  exact RN_mono (lawm_run (k := 2) h4 (by decide) hv2 dflt_2 (by decide)) (fun r S' hh => ⟨hh.1, hEd.tr hh.2⟩)
/-- a set as bits -/
def bitsF (q : Nat → Bool) : Nat → Nat → Nat → Nat
  | 0, _, x => x
  | m + 1, i, x => bitsF q m (i + 1) (if q i then x ||| 1 <<< i else x)
theorem bitsF_tb {q : Nat → Bool} {e : Nat} : ∀ (m i x : Nat), (bitsF q m i x).testBit e = (x.testBit e || (decide (i ≤ e) && decide (e < i + m) && q e))
  | 0, i, x => by
    have : (decide (i ≤ e) && decide (e < i + 0)) = false := by
      by_cases h : i ≤ e
      · simp
      · simp [h]
    rw [this]
    simp [bitsF]
  | m + 1, i, x => by
    rw [bitsF, bitsF_tb m (i + 1)]
    by_cases h : i = e
    · subst h
      by_cases hq : q i = true
      · rw [if_pos hq, tb_or]
        simp [hq]
      · rw [if_neg hq]
        simp [hq]
    · have e1 : (decide (i + 1 ≤ e) && decide (e < i + 1 + m)) = (decide (i ≤ e) && decide (e < i + (m + 1))) := by
        by_cases h1 : i + 1 ≤ e
        · have : i ≤ e := by omega
          simp [h1, this, show i + 1 + m = i + (m + 1) by omega]
        · have : ¬ i ≤ e := by omega
          simp [h1, this]
      rw [e1]
      by_cases hq : q i = true
      · rw [if_pos hq, tb_or]
        simp [h]
      · rw [if_neg hq]
theorem bitsF_lt {q : Nat → Bool} : ∀ (m i x : Nat), x < 256 → i + m ≤ 8 → bitsF q m i x < 256
  | 0, _, _, h, _ => h
  | m + 1, i, x, h, hi => by
    rw [bitsF]
    refine bitsF_lt m (i + 1) _ ?_ (by omega)
    split
    · exact or256 h (by omega)
    · exact h
theorem wbits_loop (h : CMx lv b s S) {p : Nat} : ∀ (m fu i x : Nat), m < fu → i + m = bS b → x < 256 → b_X10_wornBits_4 fu 140 (nI p) (nI x) (nI i) S = some (nI (bitsF (fun e => wornA s e p) m i x), S) := by
  have h8 : bS b ≤ 8 := h.wb.s8
  intro m
  induction m with
  | zero =>
    intro fu i x hf hi hx
    obtain ⟨fu, rfl⟩ : ∃ f, fu = f + 1 := ⟨fu - 1, by omega⟩
    rw [b_X10_wornBits_4, h.k.ixl, obq, rq_29 h.rf, h.k.nS, if_pos (le_l (by omega) (by omega) (by omega))]
    rfl
  | succ m ih =>
    intro fu i x hf hi hx
    obtain ⟨fu, rfl⟩ : ∃ f, fu = f + 1 := ⟨fu - 1, by omega⟩
    rw [b_X10_wornBits_4, h.k.ixl, obq, rq_29 h.rf, h.k.nS, if_neg (nle_l (by omega) (by omega) (by omega)), ix55_38 (by omega), obq, rq_52 h.rf, h.wrr (by omega)]
    by_cases hq : aR s (28 + i) = nI p
    · rw [if_pos hq, mcut_eq h (by omega), bdq]
      by_cases hc : (aC s).testBit i = true
      · rw [if_pos hc, if_neg (by decide), b_X10_wornBits_44, nmq, nI_1, ih fu (i + 1) x (by omega) (by omega) hx]
        simp [bitsF, wornA, hc]
      · rw [if_neg hc, if_pos rfl, nmq, orI x hx i (by omega), b_X10_wornBits_44, nmq, nI_1, ih fu (i + 1) _ (by omega) (by omega) (or256 hx (by omega))]
        simp [bitsF, wornA, hc, hq]
    · rw [if_neg hq, b_X10_wornBits_44, nmq, nI_1, ih fu (i + 1) x (by omega) (by omega) hx]
      simp [bitsF, wornA, hq]
def wbN (b : Bk) (s : ASea) (p : Nat) : Nat := bitsF (fun e => wornA s e p) (bS b) 0 0
theorem wbN_lt (hb : wfB b) {p : Nat} : wbN b s p < 256 := bitsF_lt _ _ _ (by decide) (by have := hb.s8; omega)
theorem wbN_tb {p e : Nat} (he : e < bS b) : (wbN b s p).testBit e = wornA s e p := by
  unfold wbN
  rw [bitsF_tb]
  simp [he]
theorem wbits_eq (h : CMx lv b s S) {p : Nat} : f_X10_wornBits 140 (nI p) S = some (nI (wbN b s p), S) := by
  have h8 : bS b ≤ 8 := h.wb.s8
  unfold f_X10_wornBits
  exact wbits_loop h (bS b) FU 0 0 (by unfold FU; omega) (by omega) (by decide)
theorem sgn9 : ∀ i : Nat, i < 10 → ∀ j : Nat, j < 10 → (if 0 ≤ nI i - nI j then (if nI i - nI j ≤ 0 then (0 : Int32) else 1) else -1) = wayI (nI i) (nI j) := by decide
theorem sign9 {x y : Int32} (hx : In9 x) (hy : In9 y) : f_X10_signOf (x - y) S = some (wayI x y, S) := by
  obtain ⟨i, hi, rfl⟩ := hx
  obtain ⟨j, hj, rfl⟩ := hy
  unfold f_X10_signOf
  rw [← sgn9 i hi j hj]
  split
  · split <;> rfl
  · rfl
theorem sign_eq {x : Int32} : f_X10_signOf x S = some (wayI x 0, S) := by
  have z : (0 : Int32).toInt = 0 := rfl
  unfold f_X10_signOf wayI
  simp only [i32_le, i32_eq]
  by_cases h : x.toInt = (0 : Int32).toInt
  · rw [if_pos (by omega), if_pos (by omega), if_pos h]
  · rw [if_neg h]
    by_cases h2 : (0 : Int32).toInt ≤ x.toInt
    · rw [if_pos h2, if_neg (by omega), if_pos h2]
    · rw [if_neg h2, if_neg h2]
theorem sub_0 {x : Int32} : x - 0 = x := by
  rw [i32_eq, Int32.toInt_sub]
  have := Int32.le_toInt x
  have := Int32.toInt_lt x
  show (x.toInt - 0).bmod _ = _
  rw [Int.sub_zero]
  exact Int.bmod_eq_of_le (by omega) (by omega)
theorem ab_eq {x : Int32} : f_X10_off x 0 S = some (abI x, S) := by
  unfold f_X10_off abI
  by_cases h : (0 : Int32) ≤ x
  · rw [if_pos h, if_pos h, sub_0]
  · rw [if_neg h, if_neg h]
theorem pby_loop {set p : Nat} (hset : set < 256) (hp : p < bP b) (hb : wfB b) {x y : Int32} (hx : In9 x) (hy : In9 y) : ∀ (m fu i : Nat) (S : St) (u v : Int32), m < fu → i + m = bS b → CMx lv b s S → S.1 140 55 = u → S.1 140 56 = v → RN (b_X10_pullsBy_13 fu 140 (nI set) (nI p) x y (nI i) S) (fun _ S' => (S'.1 140 55, S'.1 140 56) = feelF (fun e => pullA b s e p x y) (fun e => wayI (aR s (bWho b e)) x) (fun e => wayI (aR s (4 + bWho b e)) y) (fun e => set.testBit e) m i u v ∧ MW S S') := by
  have h8 := hb.s8
  intro m
  induction m with
  | zero =>
    intro fu i S u v hf hi h hu hv
    obtain ⟨fu, rfl⟩ : ∃ f, fu = f + 1 := ⟨fu - 1, by omega⟩
    rw [b_X10_pullsBy_13, h.k.ixl, obq, rq_29 h.rf, h.k.nS, if_pos (le_l (by omega) (by omega) (by omega))]
    exact RN_some ⟨by rw [hu, hv]; rfl, MW.rf⟩
  | succ m ih =>
    intro fu i S u v hf hi h hu hv
    obtain ⟨fu, rfl⟩ : ∃ f, fu = f + 1 := ⟨fu - 1, by omega⟩
    have hi' : i < bS b := by omega
    have h4 := hb.w4 hi'
    rw [b_X10_pullsBy_13, h.k.ixl, obq, rq_29 h.rf, h.k.nS, if_neg (nle_l (by omega) (by omega) (by omega)), flag_eq hset (by omega)]
    unfold feelF
    by_cases hq : set.testBit i = true
    · rw [if_pos hq, if_pos hq]
      refine RN_bd (mpull_run h hi' hp hx hy) (fun r S1 h1 => ?_)
      obtain ⟨rfl, hE⟩ := h1
      have h2 := CMx_v h hE
      have f2 : S1.1 140 55 = u := (hE.2 _ _ (by decide) (by decide) (by decide)).trans hu
      have f3 : S1.1 140 56 = v := (hE.2 _ _ (by decide) (by decide) (by decide)).trans hv
      rw [whose_eq h2 hi', bdq, ix_nI (show bWho b i < 55 by omega) (by decide), obq, rq_52 h2.rf, h2.row _ (by omega), menc_m (by omega), sign9 (h.m9 hi').1 hx, bdq, nmq, f2]
      have h3 := CMx_w h2 (MW_55 (v := u + pullA b s i p x y * wayI (aR s (bWho b i)) x))
      rw [whose_eq h3 hi', bdq, show ix (4 + nI (bWho b i)) 55 = some (4 + bWho b i) from ixm (c := 4) (by omega) (by decide), obq, rq_52 h3.rf, h3.row _ (by omega), menc_m (by omega), sign9 (h.m9 hi').2 hy, bdq, nmq, sI_ne (Or.inr (by decide)), f3, b_X10_pullsBy_110, nmq, nI_1]
      refine RN_mono (ih fu (i + 1) _ _ _ (by omega) (by omega) (CMx_w h3 MW_56) ?_ sI_at) (fun _ S' hh => ⟨hh.1, (hE.mw.tr (MW_55.tr MW_56)).tr hh.2⟩)
      rw [sI_ne (Or.inr (by decide)), sI_at]
    · rw [if_neg hq, if_neg hq, b_X10_pullsBy_110, nmq, nI_1]
      exact ih fu (i + 1) S u v (by omega) (by omega) h hu hv
theorem pby_run (h : CMx lv b s S) {set p : Nat} (hset : set < 256) (hp : p < bP b) {x y : Int32} (hx : In9 x) (hy : In9 y) : RN (f_X10_pullsBy 140 (nI set) (nI p) x y S) (fun _ S' => (S'.1 140 55, S'.1 140 56) = feelQ b s (fun e => set.testBit e) p x y ∧ MW S S') := by
  have h8 := h.wb.s8
  unfold f_X10_pullsBy
  rw [nmq, nmq]
  refine RN_mono (pby_loop hset hp h.wb hx hy (bS b) FU 0 _ 0 0 (by unfold FU; omega) (by omega) (CMx_w h (MW_55.tr MW_56)) (by rw [sI_ne (Or.inr (by decide)), sI_at]) sI_at) (fun _ S' hh => ⟨hh.1, (MW_55.tr MW_56).tr hh.2⟩)
theorem feelQ_wb {p : Nat} {x y : Int32} : feelQ b s (fun e => (wbN b s p).testBit e) p x y = feelA b s p x y := by
  unfold feelA feelQ
  exact feelF_congr _ _ _ _ (fun j _ hj => ⟨wbN_tb (by omega), fun _ => ⟨rfl, rfl, rfl⟩⟩)
theorem pworn_run (h : CMx lv b s S) {p : Nat} (hp : p < bP b) {x y : Int32} (hx : In9 x) (hy : In9 y) : RN (f_X10_pullsBy 140 (nI (wbN b s p)) (nI p) x y S) (fun _ S' => (S'.1 140 55, S'.1 140 56) = feelA b s p x y ∧ MW S S') := by
  rw [← feelQ_wb]
  exact pby_run h (wbN_lt h.wb) hp hx hy
def movI (b : Bk) (s : ASea) (p : Nat) (x y : Int32) : Int32 := (if abI (feelA b s p x y).1 ≤ standsA b s p x y then (0 : Int32) else 1) + (if abI (feelA b s p x y).2 ≤ standsA b s p x y then (0 : Int32) else 2)
theorem moves_run (h : CMx lv b s S) {p : Nat} (hp : p < bP b) {x y : Int32} (hx : In9 x) (hy : In9 y) : RN (f_X10_movesAt 140 (nI p) x y S) (fun r S' => ((aO s).testBit p = true → r = 0) ∧ ((aO s).testBit p = false → r = movI b s p x y ∧ (S'.1 140 55, S'.1 140 56) = feelA b s p x y) ∧ MW S S') := by
  have hp6 : p < 6 := Nat.lt_of_lt_of_le hp h.wb.p6
  unfold f_X10_movesAt
  rw [moff_eq h hp6, bdq]
  by_cases ho : (aO s).testBit p = true
  · rw [if_pos ho, if_neg (by decide)]
    exact RN_some ⟨fun _ => rfl, fun q => (by rw [ho] at q; cases q), MW.rf⟩
  · rw [if_neg ho, if_pos rfl, wbits_eq h, bdq]
    refine RN_bd (pworn_run h hp hx hy) (fun _ S1 h1 => ?_)
    have h2 := CMx_w h h1.2
    refine RN_bd (mstands_run h2 hp) (fun r S2 h3 => ?_)
    obtain ⟨rfl, hE⟩ := h3
    have e2 : S2.1 140 55 = (feelA b s p x y).1 := (hE.2 _ _ (by decide) (by decide) (by decide)).trans (congrArg Prod.fst h1.1)
    have e3 : S2.1 140 56 = (feelA b s p x y).2 := (hE.2 _ _ (by decide) (by decide) (by decide)).trans (congrArg Prod.snd h1.1)
    rw [e2, ab_eq, bdq]
    have hr : RN (if abI (feelA b s p x y).1 ≤ standsA b s p x y then b_X10_movesAt_49 140 (standsA b s p x y) 0 S2 else b_X10_movesAt_49 140 (standsA b s p x y) 1 S2) (fun r S' => r = movI b s p x y ∧ S' = S2) := by
      unfold b_X10_movesAt_49 movI
      rw [e3, ab_eq, bdq, bdq]
      by_cases c1 : abI (feelA b s p x y).1 ≤ standsA b s p x y
      · rw [if_pos c1, if_pos c1]
        by_cases c2 : abI (feelA b s p x y).2 ≤ standsA b s p x y
        · rw [if_pos c2, if_pos c2]; exact RN_some ⟨rfl, rfl⟩
        · rw [if_neg c2, if_neg c2]; exact RN_some ⟨rfl, rfl⟩
      · rw [if_neg c1, if_neg c1]
        by_cases c2 : abI (feelA b s p x y).2 ≤ standsA b s p x y
        · rw [if_pos c2, if_pos c2]; exact RN_some ⟨rfl, rfl⟩
        · rw [if_neg c2, if_neg c2]; exact RN_some ⟨rfl, rfl⟩
    refine RN_mono hr (fun r S' hh => ?_)
    obtain ⟨rfl, rfl⟩ := hh
    exact ⟨fun q => absurd q ho, fun _ => ⟨rfl, by rw [e2, e3]⟩, h1.2.tr hE.mw⟩
theorem movI_pos {p : Nat} {x y : Int32} : movI b s p x y ≤ 0 ↔ movedA b s p x y = false := by
  unfold movI movedA
  have hn : ∀ u v : Int32, decide (u < v) = !decide (v ≤ u) := fun u v => by
    by_cases h : v ≤ u
    · have : ¬ u < v := i32_nlt.mpr h
      simp [h, this]
    · have : u < v := i32_nle.mp h
      simp [h, this]
  rw [hn, hn]
  by_cases c1 : abI (feelA b s p x y).1 ≤ standsA b s p x y
  · by_cases c2 : abI (feelA b s p x y).2 ≤ standsA b s p x y
    · simp only [c1, c2]; decide
    · simp only [c1, c2]; decide
  · by_cases c2 : abI (feelA b s p x y).2 ≤ standsA b s p x y
    · simp only [c1, c2]; decide
    · simp only [c1, c2]; decide
theorem movesNow_run (h : CMx lv b s S) {p : Nat} (hp : p < bP b) : RN (f_X10_movesNow 140 (nI p) S) (fun r S' => ((aO s).testBit p = true → r = 0) ∧ ((aO s).testBit p = false → r = movI b s p (pX s p) (pY s p) ∧ (S'.1 140 55, S'.1 140 56) = feelA b s p (pX s p) (pY s p)) ∧ MW S S') := by
  have hp6 : p < 6 := Nat.lt_of_lt_of_le hp h.wb.p6
  unfold f_X10_movesNow
  rw [ix55_20 hp6, obq, ix55_26 hp6, obq, rq_52 h.rf, h.px hp, h.py hp]
  exact RN_bd (moves_run h hp (h.p9 hp).1 (h.p9 hp).2) (fun r S' hh => RN_some hh)
end MGO

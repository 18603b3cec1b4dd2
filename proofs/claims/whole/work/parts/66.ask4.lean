/-! bits; market, worth, strongest, safe -/
section ASK4
variable {B lv : Nat} {b : Bk} {s : ASea} {S S' : St}
theorem offb_loop (h : CMx lv b s S) : ∀ (m fu i x : Nat), m < fu → i + m = bP b → x < 256 → b_X10_offBits_4 fu 140 (nI x) (nI i) S = some (nI (bitsF (fun p => (aO s).testBit p) m i x), S) := by
  have h8 : bP b ≤ 6 := h.wb.p6
  intro m
  induction m with
  | zero =>
    intro fu i x hf hi hx
    obtain ⟨fu, rfl⟩ : ∃ f, fu = f + 1 := ⟨fu - 1, by omega⟩
    rw [b_X10_offBits_4, h.k.ixl, obq, rq_25 h.rf, h.k.nP, if_pos (le_l (by omega) (by omega) (by omega))]
    rfl
  | succ m ih =>
    intro fu i x hf hi hx
    obtain ⟨fu, rfl⟩ : ∃ f, fu = f + 1 := ⟨fu - 1, by omega⟩
    rw [b_X10_offBits_4, h.k.ixl, obq, rq_25 h.rf, h.k.nP, if_neg (nle_l (by omega) (by omega) (by omega)), moff_eq h (by omega), bdq]
    by_cases hc : (aO s).testBit i = true
    · rw [if_pos hc, if_neg ne10, nmq, orI x hx i (by omega), b_X10_offBits_31, nmq, nI_1, ih fu (i + 1) _ (by omega) (by omega) (or256 hx (by omega))]
      simp [bitsF, hc]
    · rw [if_neg hc, if_pos rfl, b_X10_offBits_31, nmq, nI_1, ih fu (i + 1) x (by omega) (by omega) hx]
      simp [bitsF, hc]
theorem nat_ext {x y : Nat} (h : ∀ i, x.testBit i = y.testBit i) : x = y := Nat.eq_of_testBit_eq h
theorem bitsF_eq {x n : Nat} (h : ∀ i, n ≤ i → x.testBit i = false) : bitsF (fun p => x.testBit p) n 0 0 = x := by
  refine nat_ext (fun i => ?_)
  rw [bitsF_tb]
  by_cases c : i < n
  · simp [c]
  · simp [c, h i (by omega)]
theorem offb_eq (h : CMx lv b s S) (ho : ∀ i, bP b ≤ i → (aO s).testBit i = false) : f_X10_offBits 140 S = some (nI (aO s), S) := by
  have h6 := h.wb.p6
  unfold f_X10_offBits
  rw [show b_X10_offBits_4 FU 140 0 0 S = _ from offb_loop h (bP b) FU 0 0 (by unfold FU; omega) (by omega) (by decide), bitsF_eq ho]
theorem whole_loop (h : CMx lv b s S) : ∀ (m fu i x : Nat), m < fu → i + m = bS b → x < 256 → b_X10_wholeBits_4 fu 140 (nI x) (nI i) S = some (nI (bitsF (fun e => !(aC s).testBit e) m i x), S) := by
  have h8 : bS b ≤ 8 := h.wb.s8
  intro m
  induction m with
  | zero =>
    intro fu i x hf hi hx
    obtain ⟨fu, rfl⟩ : ∃ f, fu = f + 1 := ⟨fu - 1, by omega⟩
    rw [b_X10_wholeBits_4, h.k.ixl, obq, rq_29 h.rf, h.k.nS, if_pos (le_l (by omega) (by omega) (by omega))]
    rfl
  | succ m ih =>
    intro fu i x hf hi hx
    obtain ⟨fu, rfl⟩ : ∃ f, fu = f + 1 := ⟨fu - 1, by omega⟩
    rw [b_X10_wholeBits_4, h.k.ixl, obq, rq_29 h.rf, h.k.nS, if_neg (nle_l (by omega) (by omega) (by omega)), mcut_eq h (by omega), bdq]
    by_cases hc : (aC s).testBit i = true
    · rw [if_pos hc, if_neg ne10, b_X10_wholeBits_31, nmq, nI_1, ih fu (i + 1) x (by omega) (by omega) hx]
      simp [bitsF, hc]
    · rw [if_neg hc, if_pos rfl, nmq, orI x hx i (by omega), b_X10_wholeBits_31, nmq, nI_1, ih fu (i + 1) _ (by omega) (by omega) (or256 hx (by omega))]
      simp [bitsF, hc]
def whN (b : Bk) (s : ASea) : Nat := bitsF (fun e => !(aC s).testBit e) (bS b) 0 0
theorem whN_lt (hb : wfB b) : whN b s < 256 := bitsF_lt _ _ _ (by decide) (by have := hb.s8; omega)
theorem whN_tb {e : Nat} : (whN b s).testBit e = (decide (e < bS b) && !(aC s).testBit e) := by
  unfold whN
  rw [bitsF_tb]
  simp
theorem whole_eq (h : CMx lv b s S) : f_X10_wholeBits 140 S = some (nI (whN b s), S) := by
  have h8 := h.wb.s8
  unfold f_X10_wholeBits
  exact whole_loop h (bS b) FU 0 0 (by unfold FU; omega) (by omega) (by decide)
theorem bit_1 : ∀ o : Nat, o < 256 → ∀ p : Nat, p < 8 → (((nI o >>> (nI p &&& 31)) &&& (1 : Int32)) = 1 ↔ o.testBit p = true) := by decide +kernel
theorem mprices_loop {set : Nat} (hset : set < 256) (hb : wfB b) : ∀ (m fu i : Nat) (S : St) (u : Int32), m < fu → i + m = bS b → CMx lv b s S → RN (b_X10_pricesOf_4 fu 140 (nI set) u (nI i) S) (fun r S' => r = sumF (priceA b s) (fun e => set.testBit e) m i u ∧ MV S S') := by
  have h8 := hb.s8
  intro m
  induction m with
  | zero =>
    intro fu i S u hf hi h
    obtain ⟨fu, rfl⟩ : ∃ f, fu = f + 1 := ⟨fu - 1, by omega⟩
    rw [b_X10_pricesOf_4, h.k.ixl, obq, rq_29 h.rf, h.k.nS, if_pos (le_l (by omega) (by omega) (by omega))]
    exact RN_some ⟨rfl, MV.rf⟩
  | succ m ih =>
    intro fu i S u hf hi h
    obtain ⟨fu, rfl⟩ : ∃ f, fu = f + 1 := ⟨fu - 1, by omega⟩
    have hi' : i < bS b := by omega
    rw [b_X10_pricesOf_4, h.k.ixl, obq, rq_29 h.rf, h.k.nS, if_neg (nle_l (by omega) (by omega) (by omega))]
    unfold sumF
    by_cases hq : set.testBit i = true
    · rw [if_pos ((bit_1 set hset i (by omega)).mpr hq)]
      refine RN_bd (mprice_run h hi') (fun r S1 h1 => ?_)
      obtain ⟨rfl, hE⟩ := h1
      rw [nmq, b_X10_pricesOf_34, nmq, nI_1, if_pos hq]
      exact RN_mono (ih fu (i + 1) S1 _ (by omega) (by omega) (CMx_v h hE)) (fun r S' hh => ⟨hh.1, hE.tr hh.2⟩)
    · rw [if_neg (fun q => hq ((bit_1 set hset i (by omega)).mp q)), b_X10_pricesOf_34, nmq, nI_1, if_neg hq]
      exact ih fu (i + 1) S u (by omega) (by omega) h
theorem mprices_run (h : CMx lv b s S) {set : Nat} (hset : set < 256) : RN (f_X10_pricesOf 140 (nI set) S) (fun r S' => r = sumF (priceA b s) (fun e => set.testBit e) (bS b) 0 0 ∧ MV S S') := by
  have h8 := h.wb.s8
  exact mprices_loop hset h.wb (bS b) FU 0 S 0 (by unfold FU; omega) (by omega) h
theorem sumF_congr {f : Nat → Int32} {q q' : Nat → Bool} : ∀ (m i : Nat) (x : Int32), (∀ j, i ≤ j → j < i + m → q j = q' j) → sumF f q m i x = sumF f q' m i x
  | 0, _, _, _ => rfl
  | m + 1, i, x, h => by
    unfold sumF
    rw [h i (Nat.le_refl _) (by omega)]
    exact sumF_congr m (i + 1) _ (fun j h1 h2 => h j (by omega) (by omega))
theorem sum_wh : sumF (priceA b s) (fun e => (whN b s).testBit e) (bS b) 0 0 = sumF (priceA b s) (fun e => !(aC s).testBit e) (bS b) 0 0 := sumF_congr _ _ _ (fun j _ hj => by rw [whN_tb]; simp; omega)
theorem sum_wb {p : Nat} : sumF (priceA b s) (fun e => (wbN b s p).testBit e) (bS b) 0 0 = sumF (priceA b s) (fun e => wornA s e p) (bS b) 0 0 := sumF_congr _ _ _ (fun j _ hj => wbN_tb (by omega))
theorem cmarket_loop {n : Nat} (hn : n ≤ 60) (hM : aM s ≤ 31000) : ∀ (k fu i : Nat) (S : St), k < fu → i + k = n → CW B 40 37 b (mths b none 0 (bP b) s i) S → RFC B S.2.2 → RN (b_X9_market_25 fu 0 (nI n) (nI i) S) (fun r S' => r = sumF (priceA b (mths b none 0 (bP b) s n)) (fun e => !(aC (mths b none 0 (bP b) s n)).testBit e) (bS b) 0 0 ∧ GO B 40 37 S S') := by
  intro k
  induction k with
  | zero =>
    intro fu i S hf hi h hr
    obtain ⟨fu, rfl⟩ : ∃ f, fu = f + 1 := ⟨fu - 1, by omega⟩
    have hi : i = n := by omega
    subst hi
    rw [b_X9_market_25, if_pos (le_l (by omega) (by omega) (Nat.le_refl _)), rc_8 hr]
    exact RN_bd (prices_run h) (fun r S1 h1 => RN_some ⟨h1.1, h1.2.ew.go⟩)
  | succ k ih =>
    intro fu i S hf hi h hr
    obtain ⟨fu, rfl⟩ : ∃ f, fu = f + 1 := ⟨fu - 1, by omega⟩
    rw [b_X9_market_25, if_neg (nle_l (by omega) (by omega) (by omega)), rc_8 hr, rc_3 hr, h.nP, show nI (bP b) = nI (0 + bP b) by rw [Nat.zero_add]]
    refine RN_bd (month_run h (by rw [mths_M]; omega) (lo := 0) (n := bP b) (by omega) 0) (fun _ S1 h1 => ?_)
    rw [nmq, nI_1]
    exact RN_mono (ih fu (i + 1) S1 (by omega) (by omega) h1.1 (by rw [h1.2.1]; exact hr)) (fun _ S' hh => ⟨hh.1, h1.2.tr hh.2⟩)
theorem q_market (n : Int32) : PQ B lv b s (f_X9_market 0 n) (f_X10_market 140 n) := by
  cases hn : idx 61 n with
  | none =>
    refine ⟨-1, fun S h => ?_, fun S h => ?_⟩
    · unfold f_X9_market
      rw [show (60 : Int32) = nI 60 from rfl, cin_eq 60 (by decide), bdq, hn, is1_n, if_pos rfl]
      exact RN_some ⟨rfl, CQ.rf⟩
    · unfold f_X10_market
      rw [long_eq, bdq, hn, is1_n, if_pos rfl]
      exact RN_some ⟨rfl, QF.rf⟩
  | some k =>
    obtain ⟨rfl, hk⟩ := idx_some (by decide) hn
    refine ⟨sumF (priceA b (mths b none 0 (bP b) s k)) (fun e => !(aC (mths b none 0 (bP b) s k)).testBit e) (bS b) 0 0, fun S h => ?_, fun S h => ?_⟩
    · unfold f_X9_market
      rw [show (60 : Int32) = nI 60 from rfl, cin_eq 60 (by decide), bdq, hn, is1_s, if_neg ne10]
      refine RN_bd (ctrial_run h) (fun _ S1 h1 => ?_)
      exact RN_mono (cmarket_loop (by omega) h.wa.1 k FU 0 S1 (by unfold FU; omega) (by omega) h1.1 (by rw [h1.2.1]; exact h.rf)) (fun _ S' hh => ⟨hh.1, h1.2.tr hh.2.cq⟩)
    · unfold f_X10_market
      rw [long_eq, bdq, hn, is1_s, if_neg ne10]
      refine RN_bd (still_run h) (fun _ S1 h1 => ?_)
      refine RN_bd (mgoes_run h1.1 (n := k) (by omega) (by have := h.wa.1; omega)) (fun _ S2 h2 => ?_)
      obtain ⟨c2, g2⟩ := h2
      rw [sdM_none h1.2.2.1] at c2
      rw [whole_eq c2, bdq]
      refine RN_bd (mprices_run c2 (whN_lt h.wb)) (fun r S3 h3 => RN_some ⟨?_, (h1.2.2.2.tr g2.mq).tr h3.2.mq⟩)
      rw [h3.1, sum_wh]
theorem cworth_loop {p : Nat} (hp : p < bP b) (hb : wfB b) : ∀ (m fu i : Nat) (S : St) (u : Int32), m < fu → i + m = bS b → QC B b s S → RN (b_X9_worth_14 fu 0 (nI p) u (nI i) S) (fun r S' => r = sumF (priceA b s) (fun e => wornA s e p) m i u ∧ CQ B S S') := by
  have h8 := hb.s8
  intro m
  induction m with
  | zero =>
    intro fu i S u hf hi h
    obtain ⟨fu, rfl⟩ : ∃ f, fu = f + 1 := ⟨fu - 1, by omega⟩
    rw [b_X9_worth_14, rc_3 h.rf, h.w.nS, if_pos (le_l (by omega) (by omega) (by omega))]
    exact RN_some ⟨rfl, CQ.rf⟩
  | succ m ih =>
    intro fu i S u hf hi h
    obtain ⟨fu, rfl⟩ : ∃ f, fu = f + 1 := ⟨fu - 1, by omega⟩
    have hi' : i < bS b := by omega
    rw [b_X9_worth_14, rc_3 h.rf, h.w.nS, if_neg (nle_l (by omega) (by omega) (by omega)), rc_5 h.rf, isWorn_eq h.w.ra h.w.rs h.w.ws (by omega), bdq]
    unfold sumF
    by_cases hq : wornA s i p = true
    · rw [if_pos hq, if_neg ne10, rc_7 h.rf]
      refine RN_bd (price_run h.w hi') (fun r S1 h1 => ?_)
      obtain ⟨rfl, hE⟩ := h1
      rw [nmq, b_X9_worth_48, nmq, nI_1, if_pos hq]
      exact RN_mono (ih fu (i + 1) S1 _ (by omega) (by omega) (QC_q h hE.cq)) (fun r S' hh => ⟨hh.1, hE.cq.tr hh.2⟩)
    · rw [if_neg hq, if_pos rfl, b_X9_worth_48, nmq, nI_1, if_neg hq]
      exact ih fu (i + 1) S u (by omega) (by omega) h
theorem q_worth (v : Int32) : PQ B lv b s (f_X9_worth 0 v) (f_X10_worth 140 v) := by
  cases hv : idx (bP b) v with
  | none =>
    refine ⟨-1, fun S h => ?_, fun S h => ?_⟩
    · unfold f_X9_worth
      rw [cP_eq h, bdq, hv, is1_n, if_pos rfl]
      exact RN_some ⟨rfl, CQ.rf⟩
    · unfold f_X10_worth
      rw [mP_eq h, bdq, hv, is1_n, if_pos rfl]
      exact RN_some ⟨rfl, QF.rf⟩
  | some p =>
    refine ⟨sumF (priceA b s) (fun e => wornA s e p) (bS b) 0 0, fun S h => ?_, fun S h => ?_⟩
    · obtain ⟨e, hp⟩ := idx_some (by have := h.wb.p6; omega) hv
      unfold f_X9_worth
      rw [cP_eq h, bdq, hv, is1_s, if_neg ne10, e]
      exact cworth_loop hp h.wb (bS b) FU 0 S 0 (by have := h.wb.s8; unfold FU; omega) (by omega) h
    · obtain ⟨e, hp⟩ := idx_some (by have := h.wb.p6; omega) hv
      unfold f_X10_worth
      rw [mP_eq h, bdq, hv, is1_s, if_neg ne10, e]
      refine RN_bd (copies_run h) (fun _ S1 h1 => ?_)
      rw [wbits_eq h1.1, bdq]
      refine RN_bd (mprices_run h1.1 (wbN_lt h.wb)) (fun r S3 h3 => RN_some ⟨?_, h1.2.2.2.tr h3.2.mq⟩)
      rw [h3.1, sum_wb]
/-! strongest -/
def strF (q : Nat → Bool) (f : Nat → Int32) : Nat → Nat → Int32 → Int32 → Int32 × Int32
  | 0, _, x, y => (x, y)
  | m + 1, i, x, y => if q i then (if f i ≤ y then strF q f m (i + 1) x y else strF q f m (i + 1) (nI i) (f i)) else strF q f m (i + 1) x y
theorem cstr_loop {p w : Nat} (hp : p < bP b) (hb : wfB b) (hw : w < 2) : ∀ (m fu i : Nat) (S : St) (x y : Int32), m < fu → i + m = bS b → QC B b s S → RN (b_X9_strongest_29 fu 0 (nI p) (nI w) x y (nI i) S) (fun r S' => r = (if w = 0 then (strF (fun e => wornA s e p) (fun e => pullA b s e p (pX s p) (pY s p)) m i x y).1 else (strF (fun e => wornA s e p) (fun e => pullA b s e p (pX s p) (pY s p)) m i x y).2) ∧ CQ B S S') := by
  have h8 := hb.s8
  intro m
  induction m with
  | zero =>
    intro fu i S x y hf hi h
    obtain ⟨fu, rfl⟩ : ∃ f, fu = f + 1 := ⟨fu - 1, by omega⟩
    rw [b_X9_strongest_29, rc_3 h.rf, h.w.nS, if_pos (le_l (by omega) (by omega) (by omega))]
    have h5 : w = 0 ∨ w = 1 := by omega
    rcases h5 with rfl | rfl
    · rw [if_pos (by decide)]
      exact RN_some ⟨rfl, CQ.rf⟩
    · rw [if_neg (by decide)]
      exact RN_some ⟨rfl, CQ.rf⟩
  | succ m ih =>
    intro fu i S x y hf hi h
    obtain ⟨fu, rfl⟩ : ∃ f, fu = f + 1 := ⟨fu - 1, by omega⟩
    have hi' : i < bS b := by omega
    rw [b_X9_strongest_29, rc_3 h.rf, h.w.nS, if_neg (nle_l (by omega) (by omega) (by omega)), rc_5 h.rf, isWorn_eq h.w.ra h.w.rs h.w.ws (by omega), bdq]
    unfold strF
    by_cases hq : wornA s i p = true
    · rw [if_pos hq, if_neg ne10, ix16 hp hb, obq, ix22 hp hb, obq, rc_5 h.rf, rc_35 h.rf, h.row (lt36_16 hp hb), h.row (lt36_22 hp hb), rc_7 h.rf, if_pos hq]
      refine RN_bd (pull_run h.w hi' hp _ _) (fun r S1 h1 => ?_)
      obtain ⟨hr, hE⟩ := h1
      have hr : r = pullA b s i p (pX s p) (pY s p) := hr
      subst hr
      unfold b_X9_strongest_104
      rw [nmq, nI_1]
      have h2 := QC_q h hE.cq
      by_cases c : pullA b s i p (pX s p) (pY s p) ≤ y
      · rw [if_pos c, if_pos c]
        exact RN_mono (ih fu (i + 1) S1 x y (by omega) (by omega) h2) (fun r S' hh => ⟨hh.1, hE.cq.tr hh.2⟩)
      · rw [if_neg c, if_neg c]
        exact RN_mono (ih fu (i + 1) S1 _ _ (by omega) (by omega) h2) (fun r S' hh => ⟨hh.1, hE.cq.tr hh.2⟩)
    · rw [if_neg hq, if_pos rfl, if_neg hq, b_X9_strongest_104, nmq, nI_1]
      exact ih fu (i + 1) S x y (by omega) (by omega) h
theorem wr_worn {e p : Nat} (hp : p < 6) (h : wornA s e p = true) : wr s e = p := by
  unfold wornA at h
  have h1 : aR s (28 + e) = nI p := by simpa using (Bool.and_eq_true_iff.mp h).1
  unfold wr
  rw [h1, nI_nat (by omega)]
theorem pullNow_run (h : CMx lv b s S) {e : Nat} (he : e < bS b) : RN (f_X10_pullNow 140 (nI e) S) (fun r S' => r = pullA b s e (wr s e) (pX s (wr s e)) (pY s (wr s e)) ∧ MV S S') := by
  have he8 : e < 8 := Nat.lt_of_lt_of_le he h.wb.s8
  obtain ⟨w1, w2⟩ := wr_eq h.wp h.wb he
  have w6 : wr s e < 6 := Nat.lt_of_lt_of_le w2 h.wb.p6
  unfold f_X10_pullNow
  rw [ix55_38 he8, obq, nmq, rq_52 h.rf, h.wrr he8, w1, ix55_20 w6, obq, ix55_26 w6, obq, h.px w2, h.py w2]
  exact RN_bd (mpull_run h he w2 (h.p9 w2).1 (h.p9 w2).2) (fun r S' hh => RN_some hh)
theorem mstr_loop {p w : Nat} (hp : p < bP b) (hb : wfB b) (hw : w < 2) : ∀ (m fu i : Nat) (S : St) (x y : Int32), m < fu → i + m = bS b → CMx lv b s S → RN (b_X10_strongest_40 fu 140 (nI w) (nI (wbN b s p)) x y (nI i) S) (fun r S' => r = (if w = 0 then (strF (fun e => wornA s e p) (fun e => pullA b s e p (pX s p) (pY s p)) m i x y).1 else (strF (fun e => wornA s e p) (fun e => pullA b s e p (pX s p) (pY s p)) m i x y).2) ∧ MV S S') := by
  have h8 := hb.s8
  have h6 := hb.p6
  intro m
  induction m with
  | zero =>
    intro fu i S x y hf hi h
    obtain ⟨fu, rfl⟩ : ∃ f, fu = f + 1 := ⟨fu - 1, by omega⟩
    rw [b_X10_strongest_40, h.k.ixl, obq, rq_29 h.rf, h.k.nS, if_pos (le_l (by omega) (by omega) (by omega))]
    have h5 : w = 0 ∨ w = 1 := by omega
    rcases h5 with rfl | rfl
    · rw [if_pos (by decide)]
      exact RN_some ⟨rfl, MV.rf⟩
    · rw [if_neg (by decide)]
      exact RN_some ⟨rfl, MV.rf⟩
  | succ m ih =>
    intro fu i S x y hf hi h
    obtain ⟨fu, rfl⟩ : ∃ f, fu = f + 1 := ⟨fu - 1, by omega⟩
    have hi' : i < bS b := by omega
    rw [b_X10_strongest_40, h.k.ixl, obq, rq_29 h.rf, h.k.nS, if_neg (nle_l (by omega) (by omega) (by omega)), flag_eq (wbN_lt hb) (by omega), wbN_tb hi']
    unfold strF
    by_cases hq : wornA s i p = true
    · rw [if_pos hq, if_pos hq]
      refine RN_bd (pullNow_run h hi') (fun r S1 h1 => ?_)
      obtain ⟨hr, hE⟩ := h1
      rw [wr_worn (by omega) hq] at hr
      subst hr
      have h2 := CMx_v h hE
      unfold b_X10_strongest_89
      by_cases c : pullA b s i p (pX s p) (pY s p) ≤ y
      · rw [if_neg (i32_nlt.mpr c), if_pos c, nmq, nI_1]
        exact RN_mono (ih fu (i + 1) S1 x y (by omega) (by omega) h2) (fun r S' hh => ⟨hh.1, hE.tr hh.2⟩)
      · rw [if_pos (i32_nle.mp c), if_neg c]
        refine RN_bd (pullNow_run h2 hi') (fun r S2 h3 => ?_)
        obtain ⟨hr, hE2⟩ := h3
        rw [wr_worn (by omega) hq] at hr
        subst hr
        rw [nmq, nI_1]
        exact RN_mono (ih fu (i + 1) S2 _ _ (by omega) (by omega) (CMx_v h2 hE2)) (fun r S' hh => ⟨hh.1, (hE.tr hE2).tr hh.2⟩)
    · rw [if_neg hq, if_neg hq, b_X10_strongest_89, nmq, nI_1]
      exact ih fu (i + 1) S x y (by omega) (by omega) h
theorem q_strongest (v w : Int32) : PQ B lv b s (f_X9_strongest 0 v w) (f_X10_strongest 140 v w) := by
  cases hv : idx (bP b) v with
  | none =>
    refine ⟨-1, fun S h => ?_, fun S h => ?_⟩
    · unfold f_X9_strongest
      rw [cP_eq h, bdq, hv, is1_n, if_pos rfl]
      exact RN_some ⟨rfl, CQ.rf⟩
    · unfold f_X10_strongest
      rw [mP_eq h, bdq, hv, is1_n, if_pos rfl]
      exact RN_some ⟨rfl, QF.rf⟩
  | some p =>
    cases hw : idx 2 w with
    | none =>
      refine ⟨-1, fun S h => ?_, fun S h => ?_⟩
      · unfold f_X9_strongest
        rw [cP_eq h, bdq, hv, is1_s, if_neg ne10, show (1 : Int32) = nI 1 from rfl, cin_eq 1 (by decide), bdq, hw, is1_n, if_pos rfl]
        exact RN_some ⟨rfl, CQ.rf⟩
      · unfold f_X10_strongest
        rw [mP_eq h, bdq, hv, is1_s, if_neg ne10, show (1 : Int32) = nI 1 from rfl, min_eq 1 (by decide), bdq, hw, is1_n, if_pos rfl]
        exact RN_some ⟨rfl, QF.rf⟩
    | some j =>
      obtain ⟨rfl, hj⟩ := idx_some (by decide) hw
      refine ⟨if j = 0 then (strF (fun e => wornA s e p) (fun e => pullA b s e p (pX s p) (pY s p)) (bS b) 0 (-2) (-2)).1 else (strF (fun e => wornA s e p) (fun e => pullA b s e p (pX s p) (pY s p)) (bS b) 0 (-2) (-2)).2, fun S h => ?_, fun S h => ?_⟩
      · obtain ⟨e, hp⟩ := idx_some (by have := h.wb.p6; omega) hv
        unfold f_X9_strongest
        rw [cP_eq h, bdq, hv, is1_s, if_neg ne10, show (1 : Int32) = nI 1 from rfl, cin_eq 1 (by decide), bdq, hw, is1_s, if_neg ne10, e]
        exact cstr_loop hp h.wb hj (bS b) FU 0 S (-2) (-2) (by have := h.wb.s8; unfold FU; omega) (by omega) h
      · obtain ⟨e, hp⟩ := idx_some (by have := h.wb.p6; omega) hv
        unfold f_X10_strongest
        rw [mP_eq h, bdq, hv, is1_s, if_neg ne10, show (1 : Int32) = nI 1 from rfl, min_eq 1 (by decide), bdq, hw, is1_s, if_neg ne10, e]
        refine RN_bd (copies_run h) (fun _ S1 h1 => ?_)
        rw [wbits_eq h1.1, bdq]
        exact RN_mono (mstr_loop hp h.wb hj (bS b) FU 0 S1 (-2) (-2) (by have := h.wb.s8; unfold FU; omega) (by omega) h1.1) (fun r S' hh => ⟨hh.1, h1.2.2.2.tr hh.2.mq⟩)
/-! safe -/
def sfF (q : Nat → Bool) (far : Nat → Int32) : Nat → Nat → Nat → Option (Nat × Int32) → Nat × Option (Nat × Int32)
  | 0, _, c, o => (c, o)
  | m + 1, i, c, o => if q i then sfF q far m (i + 1) c o else sfF q far m (i + 1) (c + 1) (match o with | none => some (i, far i) | some (k, f) => if f ≤ far i then some (k, f) else some (i, far i))
def sfB (o : Option (Nat × Int32)) : Int32 := match o with | none => -2 | some (k, _) => nI k
def sfC (o : Option (Nat × Int32)) (z : Int32) : Int32 := match o with | none => z | some (_, f) => f
theorem far9 : ∀ i : Nat, i < 10 → ∀ j : Nat, j < 10 → abI (nI i - nI j) = abI (nI j - nI i) ∧ abI (nI i - nI j) < 10 ∧ 0 ≤ abI (nI i - nI j) := by decide
theorem mx10 {x y : Int32} (hx : x < 10) (hy : y < 10) : ¬ 10 ≤ mxI x y := by
  unfold mxI
  split
  · exact i32_nle.mpr hy
  · exact i32_nle.mpr hx
def sfar (s : ASea) (p k : Nat) : Int32 := mxI (dI (pX s p) (nI (k % 10))) (dI (pY s p) (nI (k / 10)))
theorem sfar_c {p k : Nat} (hk : k < 100) (hx : In9 (pX s p)) (hy : In9 (pY s p)) : mxI (abI (nI (k % 10) - pX s p)) (abI (nI (k / 10) - pY s p)) = sfar s p k ∧ ¬ 10 ≤ sfar s p k := by
  obtain ⟨i, hi, ex⟩ := hx
  obtain ⟨j, hj, ey⟩ := hy
  unfold sfar dI
  rw [ex, ey]
  have f1 := far9 (k % 10) (by omega) i hi
  have f2 := far9 (k / 10) (by omega) j hj
  rw [← f1.1, ← f2.1]
  exact ⟨rfl, mx10 f1.2.1 f2.2.1⟩
theorem csafe_loop {p w : Nat} (hp : p < bP b) (hb : wfB b) (hw : w < 2) : ∀ (m fu i c : Nat) (S : St) (o : Option (Nat × Int32)), m < fu → i + m = 10 * (bPier b + 1) → QC B b s S → RN (b_X9_safe_46 fu 0 (nI p) (nI w) (nI c) (sfB o) (sfC o 10) (nI i) S) (fun r S' => r = (if w = 0 then nI (sfF (fun k => movedA b s p (nI (k % 10)) (nI (k / 10))) (sfar s p) m i c o).1 else sfB (sfF (fun k => movedA b s p (nI (k % 10)) (nI (k / 10))) (sfar s p) m i c o).2) ∧ CQ B S S') := by
  have h9 : bPier b ≤ 9 := hb.2.2.2.1
  intro m
  induction m with
  | zero =>
    intro fu i c S o hf hi h
    obtain ⟨fu, rfl⟩ : ∃ f, fu = f + 1 := ⟨fu - 1, by omega⟩
    rw [b_X9_safe_46, rc_3 h.rf, h.w.pier, nI_1, show (10 : Int32) * nI (bPier b + 1) = nI (10 * (bPier b + 1)) from pk_mul 10 _, if_pos (le_l (by omega) (by omega) (by omega))]
    have h5 : w = 0 ∨ w = 1 := by omega
    rcases h5 with rfl | rfl
    · rw [if_pos (by decide)]
      exact RN_some ⟨rfl, CQ.rf⟩
    · rw [if_neg (by decide)]
      exact RN_some ⟨rfl, CQ.rf⟩
  | succ m ih =>
    intro fu i c S o hf hi h
    obtain ⟨fu, rfl⟩ : ∃ f, fu = f + 1 := ⟨fu - 1, by omega⟩
    rw [b_X9_safe_46, rc_3 h.rf, h.w.pier, nI_1, show (10 : Int32) * nI (bPier b + 1) = nI (10 * (bPier b + 1)) from pk_mul 10 _, if_neg (nle_l (by omega) (by omega) (by omega)), nmq, nmq, mod10 (by omega), div10 (by omega), rc_7 h.rf]
    refine RN_bd (moved_run h.w hp _ _) (fun r S1 h1 => ?_)
    obtain ⟨rfl, hE⟩ := h1
    have h2 := QC_q h hE.cq9
    unfold sfF b_X9_safe_143
    by_cases q : movedA b s p (nI (i % 10)) (nI (i / 10)) = true
    · rw [if_pos q, if_neg ne10, if_pos q, nmq, nI_1]
      exact RN_mono (ih fu (i + 1) c S1 o (by omega) (by omega) h2) (fun r S' hh => ⟨hh.1, hE.cq9.tr hh.2⟩)
    · rw [if_neg q, if_pos rfl, if_neg q, nmq, nI_1, ix16 hp hb, obq, ix22 hp hb, obq, rc_5 h2.rf, rc_35 h2.rf, h2.row (lt36_16 hp hb), h2.row (lt36_22 hp hb)]
      obtain ⟨f1, f2⟩ := sfar_c (k := i) (by omega) (h.w.wp.2.1 p hp).1 (h.w.wp.2.1 p hp).2
      unfold f_X9_farApart
      rw [bdq, show mxI (abI (nI (i % 10) - aR s (16 + p))) (abI (nI (i / 10) - aR s (22 + p))) = sfar s p i from f1]
      cases o with
      | none =>
        rw [if_neg (show ¬ sfC none 10 ≤ sfar s p i from f2), nmq, nI_1]
        exact RN_mono (ih fu (i + 1) (c + 1) S1 (some (i, sfar s p i)) (by omega) (by omega) h2) (fun r S' hh => ⟨hh.1, hE.cq9.tr hh.2⟩)
      | some kf =>
        obtain ⟨k, f⟩ := kf
        show RN (if f ≤ sfar s p i then _ else _) _
        by_cases c2 : f ≤ sfar s p i
        · rw [if_pos c2, nmq, nI_1]
          simp only [if_pos c2]
          exact RN_mono (ih fu (i + 1) (c + 1) S1 (some (k, f)) (by omega) (by omega) h2) (fun r S' hh => ⟨hh.1, hE.cq9.tr hh.2⟩)
        · rw [if_neg c2, nmq, nI_1]
          simp only [if_neg c2]
          exact RN_mono (ih fu (i + 1) (c + 1) S1 (some (i, sfar s p i)) (by omega) (by omega) h2) (fun r S' hh => ⟨hh.1, hE.cq9.tr hh.2⟩)
theorem in9_nI {k : Nat} (h : k < 10) : In9 (nI k) := ⟨k, h, rfl⟩
theorem msafe_loop {p w : Nat} (hp : p < bP b) (hb : wfB b) (hw : w < 2) (ho : (aO s).testBit p = false) : ∀ (m fu i c : Nat) (S : St) (o : Option (Nat × Int32)), m < fu → i + m = 10 * (bPier b + 1) → CMx lv b s S → (∀ k f, o = some (k, f) → k < 100) → RN (b_X10_safe_46 fu 140 (nI p) (nI w) (nI c) (sfB o) (sfC o 0) (nI i) S) (fun r S' => r = (if w = 0 then nI (sfF (fun k => movedA b s p (nI (k % 10)) (nI (k / 10))) (sfar s p) m i c o).1 else sfB (sfF (fun k => movedA b s p (nI (k % 10)) (nI (k / 10))) (sfar s p) m i c o).2) ∧ MW S S') := by
  have h9 : bPier b ≤ 9 := hb.2.2.2.1
  have hp6 : p < 6 := Nat.lt_of_lt_of_le hp hb.p6
  have e10 : (10 : Int32) * nI (bPier b) + 10 = nI (10 * (bPier b + 1)) := by
    rw [show (10 : Int32) * nI (bPier b) = nI (10 * bPier b) from pk_mul 10 _]
    exact nI_add (10 * bPier b) 10
  intro m
  induction m with
  | zero =>
    intro fu i c S o hf hi h hk
    obtain ⟨fu, rfl⟩ : ∃ f, fu = f + 1 := ⟨fu - 1, by omega⟩
    rw [b_X10_safe_46, h.k.ixl, obq, rq_33 h.rf, h.k.pier, e10, if_pos (le_l (by omega) (by omega) (by omega))]
    have h5 : w = 0 ∨ w = 1 := by omega
    rcases h5 with rfl | rfl
    · rw [if_pos (by decide)]
      exact RN_some ⟨rfl, MW.rf⟩
    · rw [if_neg (by decide)]
      exact RN_some ⟨rfl, MW.rf⟩
  | succ m ih =>
    intro fu i c S o hf hi h hk
    obtain ⟨fu, rfl⟩ : ∃ f, fu = f + 1 := ⟨fu - 1, by omega⟩
    have x9 : In9 (nI (i % 10)) := in9_nI (by omega)
    have y9 : In9 (nI (i / 10)) := in9_nI (by omega)
    rw [b_X10_safe_46, h.k.ixl, obq, rq_33 h.rf, h.k.pier, e10, if_neg (nle_l (by omega) (by omega) (by omega)), mod10 (by omega), div10 (by omega)]
    refine RN_bd (moves_run h hp x9 y9) (fun r S1 h1 => ?_)
    obtain ⟨-, g2, hE⟩ := h1
    obtain ⟨rfl, -⟩ := g2 ho
    have h2 := CMx_w h hE
    unfold sfF b_X10_safe_144 b_X10_safe_152
    by_cases q : movedA b s p (nI (i % 10)) (nI (i / 10)) = true
    · rw [if_neg (fun g => by rw [movI_pos.mp g] at q; cases q), if_pos q, nmq, nI_1]
      exact RN_mono (ih fu (i + 1) c S1 o (by omega) (by omega) h2 hk) (fun r S' hh => ⟨hh.1, hE.tr hh.2⟩)
    · rw [if_pos (movI_pos.mpr (by simpa using q)), if_neg q, nmq, nI_1, ix55_20 hp6, obq, rq_52 h2.rf, h2.px hp, off_eq (h.p9 hp).1 x9, bdq, ix55_26 hp6, obq, rq_52 h2.rf, h2.py hp, off_eq (h.p9 hp).2 y9, bdq, more_eq, bdq, show mxI (dI (pX s p) (nI (i % 10))) (dI (pY s p) (nI (i / 10))) = sfar s p i from rfl]
      cases o with
      | none =>
        rw [if_pos (show sfB none < 0 by decide), nmq, nI_1]
        exact RN_mono (ih fu (i + 1) (c + 1) S1 (some (i, sfar s p i)) (by omega) (by omega) h2 (fun k f e => by cases e; omega)) (fun r S' hh => ⟨hh.1, hE.tr hh.2⟩)
      | some kf =>
        obtain ⟨k, f⟩ := kf
        have hk2 := hk k f rfl
        rw [if_neg (show ¬ sfB (some (k, f)) < 0 from nlt_l (b := 0) (by omega) (by omega) (by omega))]
        show RN (if sfar s p i < f then _ else _) _
        by_cases c2 : f ≤ sfar s p i
        · rw [if_neg (i32_nlt.mpr c2), nmq, nI_1]
          simp only [if_pos c2]
          exact RN_mono (ih fu (i + 1) (c + 1) S1 (some (k, f)) (by omega) (by omega) h2 hk) (fun r S' hh => ⟨hh.1, hE.tr hh.2⟩)
        · rw [if_pos (i32_nle.mp c2), nmq, nI_1]
          simp only [if_neg c2]
          exact RN_mono (ih fu (i + 1) (c + 1) S1 (some (i, sfar s p i)) (by omega) (by omega) h2 (fun k f e => by cases e; omega)) (fun r S' hh => ⟨hh.1, hE.tr hh.2⟩)
theorem q_safe (v w : Int32) : PQ B lv b s (f_X9_safe 0 v w) (f_X10_safe 140 v w) := by
  cases hv : idx (bP b) v with
  | none =>
    refine ⟨-1, fun S h => ?_, fun S h => ?_⟩
    · unfold f_X9_safe
      rw [cP_eq h, bdq, hv, is1_n, if_pos rfl]
      exact RN_some ⟨rfl, CQ.rf⟩
    · unfold f_X10_safe
      rw [mP_eq h, bdq, hv, is1_n, if_pos rfl]
      exact RN_some ⟨rfl, QF.rf⟩
  | some p =>
    cases hw : idx 2 w with
    | none =>
      refine ⟨-1, fun S h => ?_, fun S h => ?_⟩
      · unfold f_X9_safe
        rw [cP_eq h, bdq, hv, is1_s, if_neg ne10, show (1 : Int32) = nI 1 from rfl, cin_eq 1 (by decide), bdq, hw, is1_n, if_pos rfl]
        exact RN_some ⟨rfl, CQ.rf⟩
      · unfold f_X10_safe
        rw [mP_eq h, bdq, hv, is1_s, if_neg ne10, show (1 : Int32) = nI 1 from rfl, min_eq 1 (by decide), bdq, hw, is1_n, if_pos rfl]
        exact RN_some ⟨rfl, QF.rf⟩
    | some j =>
      obtain ⟨rfl, hj⟩ := idx_some (by decide) hw
      by_cases ho : (aO s).testBit p = true
      · refine ⟨-3, fun S h => ?_, fun S h => ?_⟩
        · obtain ⟨e, hp⟩ := idx_some (by have := h.wb.p6; omega) hv
          have hp6 : p < 6 := Nat.lt_of_lt_of_le hp h.wb.p6
          unfold f_X9_safe
          rw [cP_eq h, bdq, hv, is1_s, if_neg ne10, show (1 : Int32) = nI 1 from rfl, cin_eq 1 (by decide), bdq, hw, is1_s, if_neg ne10, e, rc_5 h.rf, isOff_eq h.w.rs h.w.ws hp6, bdq, if_pos ho, if_neg ne10]
          exact RN_some ⟨rfl, CQ.rf⟩
        · obtain ⟨e, hp⟩ := idx_some (by have := h.wb.p6; omega) hv
          have hp6 : p < 6 := Nat.lt_of_lt_of_le hp h.wb.p6
          unfold f_X10_safe
          rw [mP_eq h, bdq, hv, is1_s, if_neg ne10, show (1 : Int32) = nI 1 from rfl, min_eq 1 (by decide), bdq, hw, is1_s, if_neg ne10, e]
          refine RN_bd (copies_run h) (fun _ S1 h1 => ?_)
          rw [moff_eq h1.1 hp6, bdq, if_pos ho, if_neg ne10]
          exact RN_some ⟨rfl, h1.2.2.2⟩
      · refine ⟨if j = 0 then nI (sfF (fun k => movedA b s p (nI (k % 10)) (nI (k / 10))) (sfar s p) (10 * (bPier b + 1)) 0 0 none).1 else sfB (sfF (fun k => movedA b s p (nI (k % 10)) (nI (k / 10))) (sfar s p) (10 * (bPier b + 1)) 0 0 none).2, fun S h => ?_, fun S h => ?_⟩
        · obtain ⟨e, hp⟩ := idx_some (by have := h.wb.p6; omega) hv
          have hp6 : p < 6 := Nat.lt_of_lt_of_le hp h.wb.p6
          have h9 : bPier b ≤ 9 := h.wb.2.2.2.1
          unfold f_X9_safe
          rw [cP_eq h, bdq, hv, is1_s, if_neg ne10, show (1 : Int32) = nI 1 from rfl, cin_eq 1 (by decide), bdq, hw, is1_s, if_neg ne10, e, rc_5 h.rf, isOff_eq h.w.rs h.w.ws hp6, bdq, if_neg ho, if_pos rfl]
          exact csafe_loop hp h.wb hj (10 * (bPier b + 1)) FU 0 0 S none (by unfold FU; omega) (by omega) h
        · obtain ⟨e, hp⟩ := idx_some (by have := h.wb.p6; omega) hv
          have hp6 : p < 6 := Nat.lt_of_lt_of_le hp h.wb.p6
          have h9 : bPier b ≤ 9 := h.wb.2.2.2.1
          unfold f_X10_safe
          rw [mP_eq h, bdq, hv, is1_s, if_neg ne10, show (1 : Int32) = nI 1 from rfl, min_eq 1 (by decide), bdq, hw, is1_s, if_neg ne10, e]
          refine RN_bd (copies_run h) (fun _ S1 h1 => ?_)
          rw [moff_eq h1.1 hp6, bdq, if_neg ho, if_pos rfl]
          exact RN_mono (msafe_loop hp h.wb hj (by simpa using ho) (10 * (bPier b + 1)) FU 0 0 S1 none (by unfold FU; omega) (by omega) h1.1 (fun k f e => by cases e)) (fun r S' hh => ⟨hh.1, h1.2.2.2.tr hh.2.mq⟩)
end ASK4

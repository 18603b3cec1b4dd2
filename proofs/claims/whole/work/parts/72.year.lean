/-! year -/
section YR
variable {B lv : Nat} {b : Bk} {s : ASea} {S S' : St} {p : Nat}
def drJ (b : Bk) (s : ASea) (p k j : Nat) : Bool := drownA b (mths b none p 1 s j) p (nI (bSeed b + k))
def anyJ (b : Bk) (s : ASea) (p k : Nat) : Nat → Bool
  | 0 => false
  | n + 1 => anyJ b s p k n || drJ b s p k n
def DRn (b : Bk) (s : ASea) (p sN : Nat) : Nat → Nat
  | 0 => 0
  | n + 1 => DRn b s p sN n ||| drF b (mths b none p 1 s n) p sN 0 0
theorem drF_bits : ∀ (m i x : Nat), drF b s p m i x = bitsF (fun i => drownA b s p (nI (bSeed b + i))) m i x := by
  intro m
  induction m with
  | zero =>
    intro i x
    unfold drF bitsF
    rfl
  | succ m ih =>
    intro i x
    unfold drF bitsF
    exact ih (i + 1) _
theorem drF_tb {k : Nat} (m i x : Nat) : (drF b s p m i x).testBit k = (x.testBit k || (decide (i ≤ k) && decide (k < i + m) && drownA b s p (nI (bSeed b + k)))) := by
  rw [drF_bits, bitsF_tb]
theorem DRn_tb {sN k : Nat} : ∀ n, (DRn b s p sN n).testBit k = (decide (k < sN) && anyJ b s p k n)
  | 0 => by
    show Nat.testBit 0 k = (_ && false)
    rw [Nat.zero_testBit, Bool.and_false]
  | n + 1 => by
    show (DRn b s p sN n ||| drF b (mths b none p 1 s n) p sN 0 0).testBit k = (decide (k < sN) && (anyJ b s p k n || drJ b s p k n))
    rw [Nat.testBit_or, DRn_tb n, drF_tb, Nat.zero_testBit, Bool.false_or, Nat.zero_add]
    show _ = (decide (k < sN) && (anyJ b s p k n || drownA b (mths b none p 1 s n) p (nI (bSeed b + k))))
    generalize drownA b (mths b none p 1 s n) p (nI (bSeed b + k)) = y
    generalize anyJ b s p k n = z
    by_cases h : k < sN
    · simp [h]
    · simp [h]
theorem DRn_lt {sN : Nat} (h : sN ≤ 20) {n : Nat} : DRn b s p sN n < 2 ^ 20 := by
  refine Nat.lt_pow_two_of_testBit _ (fun i hi => ?_)
  rw [DRn_tb]
  simp
  omega
theorem goM_1 {sd : Option Int32} : goM b sd s p 1 = goP b sd s p := rfl
theorem goP_sd {d : Int32} (h : (aO s).testBit p = true ∨ drownA b s p d = false) : goP b (some d) s p = goP b none s p := by
  unfold goP gO
  rcases h with h | h
  · rw [if_pos h, if_pos h]
  · simp only [h]
theorem month_sd {d : Int32} (h : (aO s).testBit p = true ∨ drownA b s p d = false) : monthA b (some d) p 1 s = monthA b none p 1 s := by
  unfold monthA
  rw [goM_1, goM_1, goP_sd h]
theorem goP_drown {d : Int32} (ho : (aO s).testBit p = false) (hd : drownA b s p d = true) : (aO (goP b (some d) s p)).testBit p = true := by
  unfold goP gO
  rw [if_neg (by rw [ho]; decide)]
  show (if (drownA b s p d || _) = true then _ else _ : Nat).testBit p = true
  rw [hd, if_pos (by simp), tb_or]
  simp
theorem year_off (hb : wfB b) (hp : p < bP b) {k : Nat} : ∀ n, (anyJ b s p k n = false → sim p (mths b none p 1 s n) (mths b (some (nI (bSeed b + k))) 0 (bP b) s n)) ∧ (anyJ b s p k n = true → (aO (mths b (some (nI (bSeed b + k))) 0 (bP b) s n)).testBit p = true)
  | 0 => ⟨fun _ => sim.rf, fun h => (by cases h)⟩
  | n + 1 => by
    have h6 := hb.p6
    obtain ⟨i1, i2⟩ := year_off hb hp (k := k) n
    have keep : (aO (mths b (some (nI (bSeed b + k))) 0 (bP b) s n)).testBit p = true → (aO (mths b (some (nI (bSeed b + k))) 0 (bP b) s (n + 1))).testBit p = true := fun h => by
      show (aO (monthA b _ 0 (bP b) (mths b _ 0 (bP b) s n))).testBit p = true
      rw [month_O]
      exact goM_mono h _
    have hA : anyJ b s p k (n + 1) = (anyJ b s p k n || drJ b s p k n) := rfl
    rw [hA]
    cases ha : anyJ b s p k n with
    | true => exact ⟨fun h => (by cases h), fun _ => keep (i2 ha)⟩
    | false =>
      have hs := i1 ha
      have hdr : drJ b s p k n = drownA b (mths b (some (nI (bSeed b + k))) 0 (bP b) s n) p (nI (bSeed b + k)) := drown_sim hb hs
      cases hd : drJ b s p k n with
      | false =>
        refine ⟨fun _ => ?_, fun h => (by cases h)⟩
        rw [hdr] at hd
        have s1 : sim p (monthA b none p 1 (mths b none p 1 s n)) (monthA b none p 1 (mths b (some (nI (bSeed b + k))) 0 (bP b) s n)) := month_sim hb (by omega) hs (by omega) (by omega) (Nat.le_refl _) (by omega) (Nat.le_refl _) (by omega)
        rw [← month_sd (Or.inr hd)] at s1
        exact s1.tr (month_sim hb (by omega) sim.rf (by omega) (by omega) (Nat.le_refl _) (by omega) (Nat.zero_le _) (by omega))
      | true =>
        refine ⟨fun h => (by cases h), fun _ => ?_⟩
        rw [hdr] at hd
        by_cases ho : (aO (mths b (some (nI (bSeed b + k))) 0 (bP b) s n)).testBit p = true
        · exact keep ho
        · have h1 := goP_drown (by simpa using ho) hd
          have h2 : sim p (goM b (some (nI (bSeed b + k))) (mths b (some (nI (bSeed b + k))) 0 (bP b) s n) p 1) (goM b (some (nI (bSeed b + k))) (mths b (some (nI (bSeed b + k))) 0 (bP b) s n) 0 (bP b)) := goM_in hb (by omega) sim.rf 1 (bP b) (by omega) (by omega) (Nat.le_refl _) (by omega) (Nat.zero_le _) (by omega)
          show (aO (monthA b _ 0 (bP b) (mths b _ 0 (bP b) s n))).testBit p = true
          rw [month_O, ← h2.2.2.2.1]
          exact h1
theorem year_end (hb : wfB b) (hp : p < bP b) {k n : Nat} : (aO (mths b (some (nI (bSeed b + k))) 0 (bP b) s n)).testBit p = ((aO (mths b none p 1 s n)).testBit p || anyJ b s p k n) := by
  obtain ⟨i1, i2⟩ := year_off (s := s) hb hp (k := k) n
  cases ha : anyJ b s p k n with
  | true => rw [i2 ha]; simp
  | false => rw [(i1 ha).2.2.2.1]; simp
theorem cyear_loop {n sN : Nat} (hp : p < bP b) (hn : n ≤ 60) (hsN : sN ≤ 20) (hM : aM s ≤ 31000) : ∀ (k fu i : Nat) (S : St), k < fu → i + k = n → CW B 40 37 b (mths b none p 1 s i) S → RFC B S.2.2 → RN (b_X9_year_47 fu 0 (nI p) (nI n) (nI sN) (nI (DRn b s p sN i)) (nI i) S) (fun r S' => r = (if (aO (mths b none p 1 s n)).testBit p then 0 else nI sN - nI (cntF (fun k => (DRn b s p sN n).testBit k) 24 0)) ∧ GO B 40 37 S S') := by
  intro k
  induction k with
  | zero =>
    intro fu i S hf hi h hr
    obtain ⟨fu, rfl⟩ : ∃ f, fu = f + 1 := ⟨fu - 1, by omega⟩
    have hi : i = n := by omega
    subst hi
    have hp6 : p < 6 := Nat.lt_of_lt_of_le hp h.wb.p6
    rw [b_X9_year_47, if_pos (le_l (by omega) (by omega) (Nat.le_refl _)), rc_6 hr, isOff_eq h.rs h.ws hp6, bdq]
    by_cases ho : (aO (mths b none p 1 s i)).testBit p = true
    · rw [if_pos ho, if_neg ne10, if_pos ho]
      exact RN_some ⟨rfl, GO.rf⟩
    · rw [if_neg ho, if_pos rfl, if_neg ho, bc24 (Nat.lt_of_lt_of_le (DRn_lt hsN) (by decide)), bdq]
      exact RN_some ⟨rfl, GO.rf⟩
  | succ k ih =>
    intro fu i S hf hi h hr
    obtain ⟨fu, rfl⟩ : ∃ f, fu = f + 1 := ⟨fu - 1, by omega⟩
    rw [b_X9_year_47, if_neg (nle_l (by omega) (by omega) (by omega)), rc_8 hr]
    refine RN_bd (drowns_run h hp hsN) (fun r S1 h1 => ?_)
    obtain ⟨rfl, hE⟩ := h1
    have h2 := CW_v h hE
    have hr2 : RFC B S1.2.2 := by rw [hE.1]; exact hr
    rw [nmq, nI_or, rc_8 hr2, nI_1]
    refine RN_bd (month_run h2 (by rw [mths_M]; omega) (lo := p) (n := 1) (by omega) 0) (fun _ S2 h3 => ?_)
    rw [nmq, nI_1]
    exact RN_mono (ih fu (i + 1) S2 (by omega) (by omega) h3.1 (by rw [h3.2.1]; exact hr2)) (fun _ S' hh => ⟨hh.1, (hE.ew.go.tr h3.2).tr hh.2⟩)
theorem myear_loop {n sN : Nat} (hp : p < bP b) (hn : n ≤ 60) (hsN : sN ≤ 20) : ∀ (k fu i c : Nat) (S : St), k < fu → i + k = sN → QM lv b s S → RN (b_X10_year_33 fu 140 (nI p) (nI n) (nI sN) (nI c) (nI i) S) (fun r S' => r = nI (c + cntF (fun k => !((aO (mths b none p 1 s n)).testBit p || anyJ b s p k n)) k i) ∧ QF S S') := by
  intro k
  induction k with
  | zero =>
    intro fu i c S hf hi h
    obtain ⟨fu, rfl⟩ : ∃ f, fu = f + 1 := ⟨fu - 1, by omega⟩
    rw [b_X10_year_33, if_pos (le_l (by omega) (by omega) (by omega))]
    exact RN_some ⟨rfl, QF.rf⟩
  | succ k ih =>
    intro fu i c S hf hi h
    obtain ⟨fu, rfl⟩ : ∃ f, fu = f + 1 := ⟨fu - 1, by omega⟩
    have hp6 : p < 6 := Nat.lt_of_lt_of_le hp h.wb.p6
    rw [b_X10_year_33, if_neg (nle_l (by omega) (by omega) (by omega))]
    refine RN_bd (copies_run h) (fun _ S1 h1 => ?_)
    obtain ⟨c1, l1, t1, q1⟩ := h1
    rw [nmq, l1, nI_add]
    have c2 : CMx lv b s (sI S1 140 53 (nI (bSeed b + i))) := ⟨KM_set c1.k rfl (sI_ne (Or.inr (by decide))) (fun a i h1 h2 => sI_ne (Or.inl (by omega))), RW_set c1.row (fun i => sI_ne (Or.inl (by decide))), c1.2.2⟩
    have q2 : QF S1 (sI S1 140 53 (nI (bSeed b + i))) := ⟨rfl, fun a k _ _ _ _ h5 => sI_ne (by omega)⟩
    have hsd : sdM (sI S1 140 53 (nI (bSeed b + i))) = some (nI (bSeed b + i)) := sdM_some sI_at ((sI_ne (Or.inr (by decide))).trans t1)
    refine RN_bd (mgoes_run c2 (n := n) (by omega) (by have := h.wa.1; omega)) (fun _ S2 h2 => ?_)
    obtain ⟨c3, g3⟩ := h2
    rw [hsd] at c3
    have hq := (q1.tr q2).tr g3.mq
    rw [moff_eq c3 hp6, bdq, year_end h.wb hp]
    unfold b_X10_year_70 cntF
    by_cases c4 : ((aO (mths b none p 1 s n)).testBit p || anyJ b s p i n) = true
    · rw [if_pos c4, if_neg ne10, nmq, nI_1, c4]
      refine RN_mono (ih fu (i + 1) c S2 (by omega) (by omega) (QM_q h hq)) (fun r S' hh => ⟨?_, hq.tr hh.2⟩)
      rw [hh.1]
      simp
    · rw [if_neg c4, if_pos rfl, nmq, nmq, nI_1, nI_1]
      refine RN_mono (ih fu (i + 1) (c + 1) S2 (by omega) (by omega) (QM_q h hq)) (fun r S' hh => ⟨?_, hq.tr hh.2⟩)
      rw [hh.1, Nat.add_assoc]
      simp [c4]
theorem cnt_not {q : Nat → Bool} : ∀ (m i : Nat), cntF (fun k => !q k) m i + cntF q m i = m
  | 0, _ => rfl
  | m + 1, i => by
    have := cnt_not (q := q) m (i + 1)
    show ((if (!q i) = true then 1 else 0) + cntF (fun k => !q k) m (i + 1)) + ((if q i = true then 1 else 0) + cntF q m (i + 1)) = m + 1
    cases q i <;> simp <;> omega
theorem cnt_zero {q : Nat → Bool} : ∀ (m i : Nat), (∀ j, i ≤ j → q j = false) → cntF q m i = 0
  | 0, _, _ => rfl
  | m + 1, i, h => by
    show (if q i = true then 1 else 0) + cntF q m (i + 1) = 0
    rw [h i (Nat.le_refl _), cnt_zero m (i + 1) (fun j hj => h j (by omega))]
    rfl
theorem year_sum {n sN : Nat} (hsN : sN ≤ 20) : nI (0 + cntF (fun k => !((aO (mths b none p 1 s n)).testBit p || anyJ b s p k n)) sN 0) = if (aO (mths b none p 1 s n)).testBit p then 0 else nI sN - nI (cntF (fun k => (DRn b s p sN n).testBit k) 24 0) := by
  by_cases ho : (aO (mths b none p 1 s n)).testBit p = true
  · rw [if_pos ho, cnt_zero sN 0 (fun j _ => by rw [ho]; rfl)]
    rfl
  · rw [if_neg ho]
    have e1 : cntF (fun k => (DRn b s p sN n).testBit k) 24 0 = cntF (fun k => anyJ b s p k n) sN 0 := by
      rw [show (24 : Nat) = sN + (24 - sN) by omega, cntF_app, cnt_zero (24 - sN) (0 + sN) (fun j hj => by rw [DRn_tb]; simp; omega), Nat.add_zero]
      exact cntF_congr _ _ (fun j _ hj => by rw [DRn_tb]; simp; omega)
    have e2 : cntF (fun k => !((aO (mths b none p 1 s n)).testBit p || anyJ b s p k n)) sN 0 = cntF (fun k => !anyJ b s p k n) sN 0 := cntF_congr _ _ (fun j _ hj => by simp [ho])
    have e3 := cnt_not (q := fun k => anyJ b s p k n) sN 0
    have e4 : 0 + cntF (fun k => !anyJ b s p k n) sN 0 = sN - cntF (fun k => anyJ b s p k n) sN 0 := by omega
    rw [e1, e2, pk_sub (by omega), e4]
theorem q_year (v n w : Int32) : PQ B lv b s (f_X9_year 0 v n w) (f_X10_year 140 v n w) := by
  cases hv : idx (bP b) v with
  | none =>
    refine ⟨-1, fun S h => ?_, fun S h => ?_⟩
    · unfold f_X9_year
      rw [cP_eq h, bdq, hv, is1_n, if_pos rfl]
      exact RN_some ⟨rfl, CQ.rf⟩
    · unfold f_X10_year
      rw [mP_eq h, bdq, hv, is1_n, if_pos rfl]
      exact RN_some ⟨rfl, QF.rf⟩
  | some p =>
    cases hn : idx 61 n with
    | none =>
      refine ⟨-1, fun S h => ?_, fun S h => ?_⟩
      · unfold f_X9_year
        rw [cP_eq h, bdq, hv, is1_s, if_neg ne10, show f_X9_isWithin n 0 60 S = _ from cin_eq 60 (by decide), bdq, hn, is1_n, if_pos rfl]
        exact RN_some ⟨rfl, CQ.rf⟩
      · unfold f_X10_year
        rw [mP_eq h, bdq, hv, is1_s, if_neg ne10, long_eq, bdq, hn, is1_n, if_pos rfl]
        exact RN_some ⟨rfl, QF.rf⟩
    | some k =>
      obtain ⟨rfl, hk⟩ := idx_some (by decide) hn
      by_cases hw : (1 : Int32) ≤ w ∧ w ≤ 20
      · have hw2 : ∃ sN, sN ≤ 20 ∧ w = nI sN := by
          obtain ⟨j, hj, e⟩ := k_of (k := w) (n := 20) (by decide) ⟨by have := hw.1; rw [i32_le] at this ⊢; have z : (0 : Int32).toInt = 0 := rfl; have o : (1 : Int32).toInt = 1 := rfl; omega, hw.2⟩
          exact ⟨j, hj, e⟩
        obtain ⟨sN, hsN, rfl⟩ := hw2
        refine ⟨nI (0 + cntF (fun i => !((aO (mths b none p 1 s k)).testBit p || anyJ b s p i k)) sN 0), fun S h => ?_, fun S h => ?_⟩
        · obtain ⟨e, hp⟩ := idx_some (by have := h.wb.p6; omega) hv
          unfold f_X9_year
          rw [cP_eq h, bdq, hv, is1_s, if_neg ne10, show f_X9_isWithin (nI k) 0 60 S = _ from cin_eq 60 (by decide), bdq, hn, is1_s, if_neg ne10, within_eq, bdq, if_pos hw, if_neg ne10, e]
          refine RN_bd (ctrial_run h) (fun _ S1 h1 => ?_)
          refine RN_mono (cyear_loop hp (by omega) hsN h.wa.1 k FU 0 S1 (by unfold FU; omega) (by omega) h1.1 (by rw [h1.2.1]; exact h.rf)) (fun _ S' hh => ⟨?_, h1.2.tr hh.2.cq⟩)
          rw [hh.1, year_sum hsN]
        · obtain ⟨e, hp⟩ := idx_some (by have := h.wb.p6; omega) hv
          unfold f_X10_year
          rw [mP_eq h, bdq, hv, is1_s, if_neg ne10, long_eq, bdq, hn, is1_s, if_neg ne10, in_eq, bdq, if_pos hw, if_neg ne10, e]
          exact myear_loop hp (by omega) hsN sN FU 0 0 S (by unfold FU; omega) (by omega) h
      · refine ⟨-1, fun S h => ?_, fun S h => ?_⟩
        · unfold f_X9_year
          rw [cP_eq h, bdq, hv, is1_s, if_neg ne10, show f_X9_isWithin (nI k) 0 60 S = _ from cin_eq 60 (by decide), bdq, hn, is1_s, if_neg ne10, within_eq, bdq, if_neg hw, if_pos rfl]
          exact RN_some ⟨rfl, CQ.rf⟩
        · unfold f_X10_year
          rw [mP_eq h, bdq, hv, is1_s, if_neg ne10, long_eq, bdq, hn, is1_s, if_neg ne10, in_eq, bdq, if_neg hw, if_pos rfl]
          exact RN_some ⟨rfl, QF.rf⟩
end YR

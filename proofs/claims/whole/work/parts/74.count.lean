/-! count -/
section CNT
variable {B lv T : Nat} {g : GS} {b : Bk} {s : ASea} {S S' : St}
theorem orb : ∀ (x : Nat), x < 256 → ∀ i, i < 8 → ∀ t : Bool, nI x ||| ((if t then (1 : Int32) else 0) <<< (nI i &&& 31)) = nI (if t then x ||| 1 <<< i else x) := by
  intro x hx i hi t
  cases t with
  | true => exact orI x hx i hi
  | false =>
    have : ∀ i : Nat, i < 8 → (0 : Int32) <<< (nI i &&& 31) = 0 := by decide
    show nI x ||| ((0 : Int32) <<< (nI i &&& 31)) = nI x
    rw [this i hi, show (0 : Int32) = nI 0 from rfl, nI_or, Nat.or_zero]
theorem c131_loop (h : CMx lv b s S) : ∀ (m fu i x : Nat), m < fu → i + m = bM b → x < 256 → b_X10_count_131 fu 140 (nI x) (nI i) S = some (nI (bitsF (fun p => (aD s).testBit p) m i x), S) := by
  have h8 : bM b ≤ 4 := h.wb.m4
  intro m
  induction m with
  | zero =>
    intro fu i x hf hi hx
    obtain ⟨fu, rfl⟩ : ∃ f, fu = f + 1 := ⟨fu - 1, by omega⟩
    rw [b_X10_count_131, h.k.ixl, obq, rq_23 h.rf, h.k.nM, if_pos (le_l (by omega) (by omega) (by omega))]
    rfl
  | succ m ih =>
    intro fu i x hf hi hx
    obtain ⟨fu, rfl⟩ : ∃ f, fu = f + 1 := ⟨fu - 1, by omega⟩
    rw [b_X10_count_131, h.k.ixl, obq, rq_23 h.rf, h.k.nM, if_neg (nle_l (by omega) (by omega) (by omega)), ix55_16 (by omega), obq, rq_52 h.rf, h.row _ (by omega), menc_d (by omega), nmq, nmq, nI_1]
    unfold bitI
    rw [orb x hx i (by omega), ih fu (i + 1) _ (by omega) (by omega) (by split <;> first | exact or256 hx (by omega) | exact hx)]
    rfl
theorem c168_loop (h : CMx lv b s S) : ∀ (m fu i x : Nat), m < fu → i + m = bS b → x < 256 → b_X10_count_168 fu 140 (nI x) (nI i) S = some (nI (bitsF (fun p => (aC s).testBit p) m i x), S) := by
  have h8 : bS b ≤ 8 := h.wb.s8
  intro m
  induction m with
  | zero =>
    intro fu i x hf hi hx
    obtain ⟨fu, rfl⟩ : ∃ f, fu = f + 1 := ⟨fu - 1, by omega⟩
    rw [b_X10_count_168, h.k.ixl, obq, rq_29 h.rf, h.k.nS, if_pos (le_l (by omega) (by omega) (by omega))]
    rfl
  | succ m ih =>
    intro fu i x hf hi hx
    obtain ⟨fu, rfl⟩ : ∃ f, fu = f + 1 := ⟨fu - 1, by omega⟩
    rw [b_X10_count_168, h.k.ixl, obq, rq_29 h.rf, h.k.nS, if_neg (nle_l (by omega) (by omega) (by omega)), ix55_46 (by omega), obq, rq_52 h.rf, h.row _ (by omega), menc_c (by omega), nmq, nmq, nI_1]
    unfold bitI
    rw [orb x hx i (by omega), ih fu (i + 1) _ (by omega) (by omega) (by split <;> first | exact or256 hx (by omega) | exact hx)]
    rfl
theorem c274_loop (hb : wfB b) : ∀ (m fu i x : Nat) (S : St), m < fu → i + m = bP b → x < 256 → CMx lv b s S → RN (b_X10_count_274 fu 140 (nI x) (nI i) S) (fun r S' => r = nI (bitsF (fun p => movedA b s p (pX s p) (pY s p)) m i x) ∧ MW S S') := by
  have h8 : bP b ≤ 6 := hb.p6
  intro m
  induction m with
  | zero =>
    intro fu i x S hf hi hx h
    obtain ⟨fu, rfl⟩ : ∃ f, fu = f + 1 := ⟨fu - 1, by omega⟩
    rw [b_X10_count_274, h.k.ixl, obq, rq_25 h.rf, h.k.nP, if_pos (le_l (by omega) (by omega) (by omega))]
    exact RN_some ⟨rfl, MW.rf⟩
  | succ m ih =>
    intro fu i x S hf hi hx h
    obtain ⟨fu, rfl⟩ : ∃ f, fu = f + 1 := ⟨fu - 1, by omega⟩
    have hp : i < bP b := by omega
    rw [b_X10_count_274, h.k.ixl, obq, rq_25 h.rf, h.k.nP, if_neg (nle_l (by omega) (by omega) (by omega))]
    refine RN_bd (movesNow_run h hp) (fun r S1 h1 => ?_)
    obtain ⟨g1, g2, hE⟩ := h1
    have h2 := CMx_w h hE
    have hr : (r ≤ 0) ↔ movedA b s i (pX s i) (pY s i) = false := by
      by_cases ho : (aO s).testBit i = true
      · rw [g1 ho, moved_off ho]; decide
      · rw [(g2 (by simpa using ho)).1]; exact movI_pos
    unfold bitsF b_X10_count_301
    by_cases c : movedA b s i (pX s i) (pY s i) = true
    · rw [if_neg (fun q => by rw [hr.mp q] at c; cases c), if_pos c, nmq, nmq, nI_1, orI x hx i (by omega)]
      exact RN_mono (ih fu (i + 1) _ S1 (by omega) (by omega) (or256 hx (by omega)) h2) (fun r S' hh => ⟨hh.1, hE.tr hh.2⟩)
    · rw [if_pos (hr.mpr (by simpa using c)), if_neg c, nmq, nI_1]
      exact RN_mono (ih fu (i + 1) x S1 (by omega) (by omega) hx h2) (fun r S' hh => ⟨hh.1, hE.tr hh.2⟩)
theorem cmn_loop (hb : wfB b) : ∀ (m fu i x : Nat) (S : St), m < fu → i + m = bP b → x < 256 → QC B b s S → RN (b_X9_movedNow_4 fu 0 (nI x) (nI i) S) (fun r S' => r = nI (bitsF (fun p => movedA b s p (pX s p) (pY s p)) m i x) ∧ CQ B S S') := by
  have h8 : bP b ≤ 6 := hb.p6
  intro m
  induction m with
  | zero =>
    intro fu i x S hf hi hx h
    obtain ⟨fu, rfl⟩ : ∃ f, fu = f + 1 := ⟨fu - 1, by omega⟩
    rw [b_X9_movedNow_4, rc_3 h.rf, h.w.nP, if_pos (le_l (by omega) (by omega) (by omega))]
    exact RN_some ⟨rfl, CQ.rf⟩
  | succ m ih =>
    intro fu i x S hf hi hx h
    obtain ⟨fu, rfl⟩ : ∃ f, fu = f + 1 := ⟨fu - 1, by omega⟩
    have hp : i < bP b := by omega
    rw [b_X9_movedNow_4, rc_3 h.rf, h.w.nP, if_neg (nle_l (by omega) (by omega) (by omega)), ix16 hp hb, obq, ix22 hp hb, obq, rc_5 h.rf, rc_35 h.rf, h.row (lt36_16 hp hb), h.row (lt36_22 hp hb), rc_7 h.rf]
    refine RN_bd (moved_run h.w hp _ _) (fun r S1 h1 => ?_)
    obtain ⟨rfl, hE⟩ := h1
    have h2 := QC_q h hE.cq9
    unfold bitsF b_X9_movedNow_56
    by_cases c : movedA b s i (pX s i) (pY s i) = true
    · rw [if_pos (show movedA b s i (aR s (16 + i)) (aR s (22 + i)) = true from c), if_neg ne10, if_pos c, nmq, nmq, nI_1, orI x hx i (by omega)]
      exact RN_mono (ih fu (i + 1) _ S1 (by omega) (by omega) (or256 hx (by omega)) h2) (fun r S' hh => ⟨hh.1, hE.cq9.tr hh.2⟩)
    · rw [if_neg (show ¬ movedA b s i (aR s (16 + i)) (aR s (22 + i)) = true from c), if_pos rfl, if_neg c, nmq, nI_1]
      exact RN_mono (ih fu (i + 1) x S1 (by omega) (by omega) hx h2) (fun r S' hh => ⟨hh.1, hE.cq9.tr hh.2⟩)
theorem held3 : ∀ hm : Nat, hm < 8 → nI (pcN hm) = ((if hm.testBit 0 then (1 : Int32) else 0) + (if hm.testBit 1 then 1 else 0)) + (if hm.testBit 2 then 1 else 0) := by decide
theorem flagF {α : Type} (F : Int32 → α) (x : Bool) : (if (if x then (1 : Int32) else 0) = 0 then F 0 else F 1) = F (if x then 1 else 0) := by cases x <;> rfl
theorem HC.sz {hl : Nat} {hf : Nat → ASea} (h : HC hl hf S) : S.1 41 2 = nI hl := by obtain ⟨nx, -, -, e, -⟩ := h; exact e
theorem cnt_c {r : Int32} {v : Int32} (hT : T ≤ 31000) (h : RC B T g S) (hh : RN (f_X9_count 0 v S) (fun r' S' => r' = r ∧ CQ B S S')) : RN (f_X9_count 0 v S) (fun r' S' => r' = r ∧ EC B S S') := RN_mono hh (fun r' S' q => ⟨q.1, q.2.ec h.hB⟩)
theorem g_count (hT : T ≤ 31000) (v : Int32) : PG B lv T g (f_X9_count 0 v) (f_X10_count 140 v) := by
  have hmm : ∀ S, RM lv T g S → ∃ S1, CMx lv (gB g) (gS g) S1 ∧ EM S S1 ∧ RM lv T g S1 ∧ f_X10_count 140 v S = (if v = (0 : Int32) then ((ix (S1.1 140 18) 2).bind fun j3 => some (S1.1 (S1.2.2 140 23) j3, S1)) else if v = (1 : Int32) then ((ix (S1.1 140 18) 2).bind fun j4 => some (S1.1 (S1.2.2 140 25) j4, S1)) else if v = (2 : Int32) then ((ix (S1.1 140 18) 2).bind fun j5 => some (S1.1 (S1.2.2 140 29) j5, S1)) else if v = (3 : Int32) then ((ix (54 : Int32) 55).bind fun j6 => some (S1.1 (S1.2.2 140 52) j6, S1)) else if v = (4 : Int32) then ((ix (54 : Int32) 55).bind fun j7 => some ((S1.1 (S1.2.2 140 52) j7) - (S1.1 (S1.2.2 140 52) j7) / (4 : Int32) * (4 : Int32), S1)) else if v = (5 : Int32) then (bd (f_X10_offBits 140 S1) fun r9 S8 => some (r9, S8)) else if v = (6 : Int32) then (b_X10_count_131 FU 140 (0 : Int32) (0 : Int32) S1) else if v = (7 : Int32) then (b_X10_count_168 FU 140 (0 : Int32) (0 : Int32) S1) else if v = (8 : Int32) then (some (S1.1 140 2, S1)) else if v = (9 : Int32) then (some (S1.1 140 61, S1)) else if v = (10 : Int32) then (some (S1.1 140 64, S1)) else if v = (11 : Int32) then ((ix (0 : Int32) 3).bind fun j10 => if (S1.1 (S1.2.2 140 69) j10) = 0 then (b_X10_count_232 140 (0 : Int32) S1) else (b_X10_count_232 140 (1 : Int32) S1)) else if v = (12 : Int32) then (bd (f_X10_wholeBits 140 S1) fun r12 S11 => bd (f_X10_pricesOf 140 r12 S11) fun r14 S13 => some (r14, S13)) else if v = (13 : Int32) then (b_X10_count_274 FU 140 (0 : Int32) (0 : Int32) S1) else (some ((-1 : Int32), S1))) := fun S h => by
    obtain ⟨_, S1, e1, c1, -, -, q1⟩ := copies_run (h.qm hT)
    refine ⟨S1, c1, q1.em, RM_e h q1.em, ?_⟩
    unfold f_X10_count
    rw [e1, bdq]
  by_cases w0 : v = 0
  · refine PG_e (r := nI (bM (gB g))) (fun S h => ?_) (fun S h => ?_)
    · unfold f_X9_count
      rw [if_pos w0, rc_3 h.rfc, h.bk.1]
      exact RN_some ⟨rfl, EC.rf⟩
    · obtain ⟨S1, c1, m1, r1, e1⟩ := hmm S h
      rw [e1, if_pos w0, c1.k.ixl, obq, rq_23 c1.rf, c1.k.nM]
      exact RN_some ⟨rfl, m1⟩
  by_cases w1 : v = 1
  · refine PG_e (r := nI (bP (gB g))) (fun S h => ?_) (fun S h => ?_)
    · unfold f_X9_count
      rw [if_neg w0, if_pos w1, rc_3 h.rfc, h.bk.2.1]
      exact RN_some ⟨rfl, EC.rf⟩
    · obtain ⟨S1, c1, m1, r1, e1⟩ := hmm S h
      rw [e1, if_neg w0, if_pos w1, c1.k.ixl, obq, rq_25 c1.rf, c1.k.nP]
      exact RN_some ⟨rfl, m1⟩
  by_cases w2 : v = 2
  · refine PG_e (r := nI (bS (gB g))) (fun S h => ?_) (fun S h => ?_)
    · unfold f_X9_count
      rw [if_neg w0, if_neg w1, if_pos w2, rc_3 h.rfc, h.bk.2.2.1]
      exact RN_some ⟨rfl, EC.rf⟩
    · obtain ⟨S1, c1, m1, r1, e1⟩ := hmm S h
      rw [e1, if_neg w0, if_neg w1, if_pos w2, c1.k.ixl, obq, rq_29 c1.rf, c1.k.nS]
      exact RN_some ⟨rfl, m1⟩
  by_cases w3 : v = 3
  · refine PG_e (r := nI (aM (gS g))) (fun S h => ?_) (fun S h => ?_)
    · unfold f_X9_count
      rw [if_neg w0, if_neg w1, if_neg w2, if_pos w3, rc_5 h.rfc, h.sea.2.1]
      exact RN_some ⟨rfl, EC.rf⟩
    · obtain ⟨S1, c1, m1, r1, e1⟩ := hmm S h
      rw [e1, if_neg w0, if_neg w1, if_neg w2, if_pos w3, ix55_54, obq, rq_52 c1.rf, c1.t]
      exact RN_some ⟨rfl, m1⟩
  by_cases w4 : v = 4
  · refine PG_e (r := nI (aM (gS g) % 4)) (fun S h => ?_) (fun S h => ?_)
    · unfold f_X9_count
      rw [if_neg w0, if_neg w1, if_neg w2, if_neg w3, if_pos w4, rc_5 h.rfc, h.sea.2.1, mod4 h.wf.2.1.2.1.1]
      exact RN_some ⟨rfl, EC.rf⟩
    · obtain ⟨S1, c1, m1, r1, e1⟩ := hmm S h
      rw [e1, if_neg w0, if_neg w1, if_neg w2, if_neg w3, if_pos w4, ix55_54, obq, rq_52 c1.rf, c1.t, mod4 h.wf.2.1.2.1.1]
      exact RN_some ⟨rfl, m1⟩
  by_cases w5 : v = 5
  · refine PG_e (r := nI (aO (gS g))) (fun S h => ?_) (fun S h => ?_)
    · unfold f_X9_count
      rw [if_neg w0, if_neg w1, if_neg w2, if_neg w3, if_neg w4, if_pos w5, rc_5 h.rfc, h.sea.2.2.1]
      exact RN_some ⟨rfl, EC.rf⟩
    · obtain ⟨S1, c1, m1, r1, e1⟩ := hmm S h
      rw [e1, if_neg w0, if_neg w1, if_neg w2, if_neg w3, if_neg w4, if_pos w5, offb_eq c1 h.wf.2.1.2.2.2.1, bdq]
      exact RN_some ⟨rfl, m1⟩
  by_cases w6 : v = 6
  · refine PG_e (r := nI (aD (gS g))) (fun S h => ?_) (fun S h => ?_)
    · unfold f_X9_count
      rw [if_neg w0, if_neg w1, if_neg w2, if_neg w3, if_neg w4, if_neg w5, if_pos w6, rc_5 h.rfc, h.sea.2.2.2.1]
      exact RN_some ⟨rfl, EC.rf⟩
    · obtain ⟨S1, c1, m1, r1, e1⟩ := hmm S h
      rw [e1, if_neg w0, if_neg w1, if_neg w2, if_neg w3, if_neg w4, if_neg w5, if_pos w6, show b_X10_count_131 FU 140 0 0 S1 = _ from c131_loop c1 (bM (gB g)) FU 0 0 (by have := h.wf.1.m4; unfold FU; omega) (by omega) (by decide), bitsF_eq h.wf.2.1.2.2.2.2.1]
      exact RN_some ⟨rfl, m1⟩
  by_cases w7 : v = 7
  · refine PG_e (r := nI (aC (gS g))) (fun S h => ?_) (fun S h => ?_)
    · unfold f_X9_count
      rw [if_neg w0, if_neg w1, if_neg w2, if_neg w3, if_neg w4, if_neg w5, if_neg w6, if_pos w7, rc_5 h.rfc, h.sea.2.2.2.2]
      exact RN_some ⟨rfl, EC.rf⟩
    · obtain ⟨S1, c1, m1, r1, e1⟩ := hmm S h
      rw [e1, if_neg w0, if_neg w1, if_neg w2, if_neg w3, if_neg w4, if_neg w5, if_neg w6, if_pos w7, show b_X10_count_168 FU 140 0 0 S1 = _ from c168_loop c1 (bS (gB g)) FU 0 0 (by have := h.wf.1.s8; unfold FU; omega) (by omega) (by decide), bitsF_eq h.wf.2.1.2.2.2.2.2]
      exact RN_some ⟨rfl, m1⟩
  by_cases w8 : v = 8
  · refine PG_e (r := nI (gPl g)) (fun S h => ?_) (fun S h => ?_)
    · unfold f_X9_count
      rw [if_neg w0, if_neg w1, if_neg w2, if_neg w3, if_neg w4, if_neg w5, if_neg w6, if_neg w7, if_pos w8, h.tap.2.1]
      exact RN_some ⟨rfl, EC.rf⟩
    · obtain ⟨S1, c1, m1, r1, e1⟩ := hmm S h
      rw [e1, if_neg w0, if_neg w1, if_neg w2, if_neg w3, if_neg w4, if_neg w5, if_neg w6, if_neg w7, if_pos w8, r1.tap.2.1]
      exact RN_some ⟨rfl, m1⟩
  by_cases w9 : v = 9
  · refine PG_e (r := nI (gHl g)) (fun S h => ?_) (fun S h => ?_)
    · unfold f_X9_count
      rw [if_neg w0, if_neg w1, if_neg w2, if_neg w3, if_neg w4, if_neg w5, if_neg w6, if_neg w7, if_neg w8, if_pos w9, rc_9 h.rfc, h.hst.sz]
      exact RN_some ⟨rfl, EC.rf⟩
    · obtain ⟨S1, c1, m1, r1, e1⟩ := hmm S h
      rw [e1, if_neg w0, if_neg w1, if_neg w2, if_neg w3, if_neg w4, if_neg w5, if_neg w6, if_neg w7, if_neg w8, if_pos w9, r1.hst.1]
      exact RN_some ⟨rfl, m1⟩
  by_cases w10 : v = 10
  · refine PG_e (r := nI (gTn g)) (fun S h => ?_) (fun S h => ?_)
    · unfold f_X9_count
      rw [if_neg w0, if_neg w1, if_neg w2, if_neg w3, if_neg w4, if_neg w5, if_neg w6, if_neg w7, if_neg w8, if_neg w9, if_pos w10, rc_13 h.rfc, h.tld.2.1]
      exact RN_some ⟨rfl, EC.rf⟩
    · obtain ⟨S1, c1, m1, r1, e1⟩ := hmm S h
      rw [e1, if_neg w0, if_neg w1, if_neg w2, if_neg w3, if_neg w4, if_neg w5, if_neg w6, if_neg w7, if_neg w8, if_neg w9, if_pos w10, r1.tld.2.1]
      exact RN_some ⟨rfl, m1⟩
  by_cases w11 : v = 11
  · refine PG_e (r := nI (pcN (gLm g))) (fun S h => ?_) (fun S h => ?_)
    · unfold f_X9_count
      rw [if_neg w0, if_neg w1, if_neg w2, if_neg w3, if_neg w4, if_neg w5, if_neg w6, if_neg w7, if_neg w8, if_neg w9, if_neg w10, if_pos w11, h.slt.1, bitc_eq (by have := h.wf.2.2.2.1; omega), bdq]
      exact RN_some ⟨rfl, EC.rf⟩
    · obtain ⟨S1, c1, m1, r1, e1⟩ := hmm S h
      rw [e1, if_neg w0, if_neg w1, if_neg w2, if_neg w3, if_neg w4, if_neg w5, if_neg w6, if_neg w7, if_neg w8, if_neg w9, if_neg w10, if_pos w11]
      have i0 : ix (0 : Int32) 3 = some 0 := by decide
      have i1 : ix (1 : Int32) 3 = some 1 := by decide
      have i2 : ix (2 : Int32) 3 = some 2 := by decide
      have f2 : ∀ u w : Int32, b_X10_count_246 140 u w S1 = some (u + w + (if (gLm g).testBit 2 then 1 else 0), S1) := fun u w => by
        unfold b_X10_count_246
        rw [i2, obq, rq_69 c1.rf, (r1.slt 2 (by decide)).1]
        exact flagF (fun y => some (u + w + y, S1)) _
      have f1 : ∀ u : Int32, b_X10_count_232 140 u S1 = some (u + (if (gLm g).testBit 1 then 1 else 0) + (if (gLm g).testBit 2 then 1 else 0), S1) := fun u => by
        unfold b_X10_count_232
        rw [i1, obq, rq_69 c1.rf, (r1.slt 1 (by decide)).1, f2, f2]
        exact flagF (fun y => some (u + y + (if (gLm g).testBit 2 then 1 else 0), S1)) _
      rw [i0, obq, rq_69 c1.rf, (r1.slt 0 (by decide)).1, f1, f1, held3 _ h.wf.2.2.2.1, flagF (fun y => some (y + (if (gLm g).testBit 1 then (1 : Int32) else 0) + (if (gLm g).testBit 2 then 1 else 0), S1)) ((gLm g).testBit 0)]
      exact RN_some ⟨rfl, m1⟩
  by_cases w12 : v = 12
  · refine PG_e (r := sumF (priceA (gB g) (gS g)) (fun e => !(aC (gS g)).testBit e) (bS (gB g)) 0 0) (fun S h => ?_) (fun S h => ?_)
    · unfold f_X9_count
      rw [if_neg w0, if_neg w1, if_neg w2, if_neg w3, if_neg w4, if_neg w5, if_neg w6, if_neg w7, if_neg w8, if_neg w9, if_neg w10, if_neg w11, if_pos w12, rc_7 h.rfc]
      exact RN_bd (prices_run (h.qc hT).w) (fun r S1 h1 => RN_some ⟨h1.1, h1.2.cq.ec h.hB⟩)
    · obtain ⟨S1, c1, m1, r1, e1⟩ := hmm S h
      rw [e1, if_neg w0, if_neg w1, if_neg w2, if_neg w3, if_neg w4, if_neg w5, if_neg w6, if_neg w7, if_neg w8, if_neg w9, if_neg w10, if_neg w11, if_pos w12, whole_eq c1, bdq]
      refine RN_bd (mprices_run c1 (whN_lt h.wf.1)) (fun r S3 h3 => RN_some ⟨?_, m1.tr h3.2.mq.em⟩)
      rw [h3.1, sum_wh]
  by_cases w13 : v = 13
  · refine PG_e (r := nI (bitsF (fun p => movedA (gB g) (gS g) p (pX (gS g) p) (pY (gS g) p)) (bP (gB g)) 0 0)) (fun S h => ?_) (fun S h => ?_)
    · unfold f_X9_count f_X9_movedNow
      rw [if_neg w0, if_neg w1, if_neg w2, if_neg w3, if_neg w4, if_neg w5, if_neg w6, if_neg w7, if_neg w8, if_neg w9, if_neg w10, if_neg w11, if_neg w12, if_pos w13]
      exact RN_bd (cmn_loop h.wf.1 (bP (gB g)) FU 0 0 S (by have := h.wf.1.p6; unfold FU; omega) (by omega) (by decide) (h.qc hT)) (fun r S1 h1 => RN_some ⟨h1.1, h1.2.ec h.hB⟩)
    · obtain ⟨S1, c1, m1, r1, e1⟩ := hmm S h
      rw [e1, if_neg w0, if_neg w1, if_neg w2, if_neg w3, if_neg w4, if_neg w5, if_neg w6, if_neg w7, if_neg w8, if_neg w9, if_neg w10, if_neg w11, if_neg w12, if_pos w13]
      exact RN_mono (c274_loop h.wf.1 (bP (gB g)) FU 0 0 S1 (by have := h.wf.1.p6; unfold FU; omega) (by omega) (by decide) c1) (fun r S' hh => ⟨hh.1, m1.tr hh.2.mq.em⟩)
  · refine PG_e (r := -1) (fun S h => ?_) (fun S h => ?_)
    · unfold f_X9_count
      rw [if_neg w0, if_neg w1, if_neg w2, if_neg w3, if_neg w4, if_neg w5, if_neg w6, if_neg w7, if_neg w8, if_neg w9, if_neg w10, if_neg w11, if_neg w12, if_neg w13]
      exact RN_some ⟨rfl, EC.rf⟩
    · obtain ⟨S1, c1, m1, r1, e1⟩ := hmm S h
      rw [e1, if_neg w0, if_neg w1, if_neg w2, if_neg w3, if_neg w4, if_neg w5, if_neg w6, if_neg w7, if_neg w8, if_neg w9, if_neg w10, if_neg w11, if_neg w12, if_neg w13]
      exact RN_some ⟨rfl, m1⟩
end CNT

/-! calls that only ask: class and reference answer alike -/
def PQ (B lv : Nat) (b : Bk) (s : ASea) (fc fm : St → Option (Int32 × St)) : Prop := ∃ r, (∀ S, QC B b s S → RN (fc S) (fun r' S' => r' = r ∧ CQ B S S')) ∧ ∀ S, QM lv b s S → RN (fm S) (fun r' S' => r' = r ∧ QF S S')
theorem fst_of {α β : Type} {x : α} {y : β} {p : α × β} (h : (x, y) = p) : x = p.1 := congrArg Prod.fst h
theorem snd_of {α β : Type} {x : α} {y : β} {p : α × β} (h : (x, y) = p) : y = p.2 := congrArg Prod.snd h
section ASK
variable {B lv : Nat} {b : Bk} {s : ASea} {S S' : St}
theorem z_nI {n : Nat} : (0 : Int32) + nI n = nI n := by rw [show (0 : Int32) = nI 0 from rfl, nI_add, Nat.zero_add]
theorem QC.M (h : QC B b s S) {v : Int32} {j : Nat} (hj : idx (bM b) v = some j) : v = nI j ∧ j < bM b := idx_some (by have := h.wb.m4; omega) hj
theorem QC.row (h : QC B b s S) {k : Nat} (hk : k < 36) : S.1 36 k = aR s k := h.w.rs.row hk
theorem mw4 : ∀ w : Nat, w < 5 → (4 : Int32) * nI w = nI (4 * w) := fun w _ => by rw [show (4 : Int32) = nI 4 from rfl, pk_mul]
theorem q_mermaid (m w : Int32) : PQ B lv b s (f_X9_mermaid 0 m w) (f_X10_mermaid 140 m w) := by
  cases hm : idx (bM b) m with
  | none =>
    refine ⟨-100, fun S h => ?_, fun S h => ?_⟩
    · unfold f_X9_mermaid
      rw [cM_eq h, bdq, hm, is1_n, if_pos rfl]
      exact RN_some ⟨rfl, CQ.rf⟩
    · unfold f_X10_mermaid
      rw [mM_eq h, bdq, hm, is1_n, if_pos rfl]
      exact RN_some ⟨rfl, QF.rf⟩
  | some j =>
    have hc : ∀ (S : St) (r : Int32), QC B b s S → (m = nI j → j < 4 → RN (if w = (0 : Int32) then ((ix ((0 : Int32) + m) 36).bind fun j3 => some (S.1 (S.2.2 (S.2.2 0 5) 0) j3, S)) else if w = (1 : Int32) then ((ix ((4 : Int32) + m) 36).bind fun j4 => some (S.1 (S.2.2 (S.2.2 0 5) 0) j4, S)) else if w = (2 : Int32) then ((ix ((8 : Int32) + m) 36).bind fun j5 => some (S.1 (S.2.2 (S.2.2 0 5) 0) j5, S)) else if w = (3 : Int32) then ((ix ((12 : Int32) + m) 36).bind fun j6 => some (S.1 (S.2.2 (S.2.2 0 5) 0) j6, S)) else if w = (4 : Int32) then (bd (f_X5_isDead (S.2.2 0 5) m S) fun r8 S7 => if r8 = 0 then (some ((1 : Int32), S7)) else (some ((0 : Int32), S7))) else (some ((-100 : Int32), S))) (fun r' S' => r' = r ∧ CQ B S S')) → RN (f_X9_mermaid 0 m w S) (fun r' S' => r' = r ∧ CQ B S S') := fun S r h hh => by
      obtain ⟨e, hj⟩ := h.M hm
      unfold f_X9_mermaid
      rw [cM_eq h, bdq, hm, is1_s, if_neg (show ¬ (1 : Int32) = 0 by decide)]
      exact hh e (by have := h.wb.m4; omega)
    cases hw : idx 5 w with
    | none =>
      have hw' : ∀ k : Nat, k < 5 → w ≠ nI k := fun k hk q => by rw [q, idx_nI (by decide) hk] at hw; cases hw
      refine ⟨-100, fun S h => hc S _ h (fun e hj => ?_), fun S h => ?_⟩
      · rw [if_neg (show ¬ w = 0 from hw' 0 (by decide)), if_neg (show ¬ w = 1 from hw' 1 (by decide)), if_neg (show ¬ w = 2 from hw' 2 (by decide)), if_neg (show ¬ w = 3 from hw' 3 (by decide)), if_neg (show ¬ w = 4 from hw' 4 (by decide))]
        exact RN_some ⟨rfl, CQ.rf⟩
      · unfold f_X10_mermaid
        rw [mM_eq h, bdq, hm, is1_s, if_neg (show ¬ (1 : Int32) = 0 by decide), show (4 : Int32) = nI 4 from rfl, min_eq 4 (by decide), bdq, hw, is1_n, if_pos rfl]
        exact RN_some ⟨rfl, QF.rf⟩
    | some k =>
      obtain ⟨rfl, hk⟩ := idx_some (by decide) hw
      have hmm : ∀ (S : St) (r : Int32), QM lv b s S → (m = nI j → j < 4 → RN (if nI k = (4 : Int32) then ((ix ((16 : Int32) + m) 55).bind fun j5 => some ((1 : Int32) - (S.1 (S.2.2 140 51) j5), S)) else ((ix (((4 : Int32) * nI k) + m) 55).bind fun j6 => some (S.1 (S.2.2 140 51) j6, S))) (fun r' S' => r' = r ∧ QF S S')) → RN (f_X10_mermaid 140 m (nI k) S) (fun r' S' => r' = r ∧ QF S S') := fun S r h hh => by
        obtain ⟨e, hj⟩ := idx_some (by have := h.wb.m4; omega) hm
        unfold f_X10_mermaid
        rw [mM_eq h, bdq, hm, is1_s, if_neg (show ¬ (1 : Int32) = 0 by decide), show (4 : Int32) = nI 4 from rfl, min_eq 4 (by decide), bdq, hw, is1_s, if_neg (show ¬ (1 : Int32) = 0 by decide)]
        exact hh e (by have := h.wb.m4; omega)
      by_cases k4 : k = 4
      · subst k4
        refine ⟨if (aD s).testBit j then 0 else 1, fun S h => hc S _ h (fun e hj => ?_), fun S h => hmm S _ h (fun e hj => ?_)⟩
        · rw [if_neg (by decide), if_neg (by decide), if_neg (by decide), if_neg (by decide), if_pos (by decide), rc_5 h.rf, e, isDead_eq h.w.rs h.w.ws hj, bdq]
          by_cases hd : (aD s).testBit j = true
          · rw [if_pos hd, if_neg (by decide), if_pos hd]
            exact RN_some ⟨rfl, CQ.rf⟩
          · rw [if_neg hd, if_pos rfl, if_neg hd]
            exact RN_some ⟨rfl, CQ.rf⟩
        · rw [if_pos (by decide), e, ix55_16 hj, obq, rq_51 h.rf, h.now (by omega), menc_d hj]
          unfold bitI
          by_cases hd : (aD s).testBit j = true
          · rw [if_pos hd, if_pos hd]
            exact RN_some ⟨rfl, QF.rf⟩
          · rw [if_neg hd, if_neg hd]
            exact RN_some ⟨rfl, QF.rf⟩
      · have k4' : ¬ nI k = (4 : Int32) := fun q => k4 ((nI_eq (b := 4) (by omega) (by decide)).mp q)
        refine ⟨aR s (4 * k + j), fun S h => hc S _ h (fun e hj => ?_), fun S h => hmm S _ h (fun e hj => ?_)⟩
        · rw [e, z_nI, show (4 : Int32) + nI j = nI (4 + j) from nI_add 4 j, show (8 : Int32) + nI j = nI (8 + j) from nI_add 8 j, show (12 : Int32) + nI j = nI (12 + j) from nI_add 12 j, ix_nI (show j < 36 by omega) (by decide), ix_nI (show 4 + j < 36 by omega) (by decide), ix_nI (show 8 + j < 36 by omega) (by decide), ix_nI (show 12 + j < 36 by omega) (by decide), obq, obq, obq, obq, rc_5 h.rf, rc_35 h.rf, h.row (by omega), h.row (by omega), h.row (by omega), h.row (by omega)]
          have h5 : k = 0 ∨ k = 1 ∨ k = 2 ∨ k = 3 := by omega
          rcases h5 with rfl | rfl | rfl | rfl
          · rw [if_pos (by decide)]
            exact RN_some ⟨by rw [show 4 * 0 + j = j by omega], CQ.rf⟩
          · rw [if_neg (by decide), if_pos (by decide)]
            exact RN_some ⟨rfl, CQ.rf⟩
          · rw [if_neg (by decide), if_neg (by decide), if_pos (by decide)]
            exact RN_some ⟨rfl, CQ.rf⟩
          · rw [if_neg (by decide), if_neg (by decide), if_neg (by decide), if_pos (by decide)]
            exact RN_some ⟨rfl, CQ.rf⟩
        · rw [if_neg k4', e, mw4 k hk, ixm (by omega) (by decide), obq, rq_51 h.rf, h.now (by omega), menc_m (by omega)]
          exact RN_some ⟨rfl, QF.rf⟩
theorem CMx.off (h : CMx lv b s S) {p : Nat} (hp : p < 6) : S.1 175 (32 + p) = bitI (aO s) p := (h.row _ (by omega)).trans (menc_o hp)
theorem CMx.cut (h : CMx lv b s S) {e : Nat} (he : e < 8) : S.1 175 (46 + e) = bitI (aC s) e := (h.row _ (by omega)).trans (menc_c he)
theorem q_person (v w : Int32) : PQ B lv b s (f_X9_person 0 v w) (f_X10_person 140 v w) := by
  cases hv : idx (bP b) v with
  | none =>
    refine ⟨-100000, fun S h => ?_, fun S h => ?_⟩
    · unfold f_X9_person
      rw [cP_eq h, bdq, hv, is1_n, if_pos rfl]
      exact RN_some ⟨rfl, CQ.rf⟩
    · unfold f_X10_person
      rw [mP_eq h, bdq, hv, is1_n, if_pos rfl]
      exact RN_some ⟨rfl, QF.rf⟩
  | some p =>
    have hmm : ∀ S, QM lv b s S → ∃ S11, v = nI p ∧ p < bP b ∧ CMx lv b s S11 ∧ QF S S11 ∧ S11.1 140 55 = (feelA b s p (pX s p) (pY s p)).1 ∧ S11.1 140 56 = (feelA b s p (pX s p) (pY s p)).2 ∧ f_X10_person 140 v w S = if w = (0 : Int32) then (some (pX s p, S11)) else if w = (1 : Int32) then (some (pY s p, S11)) else if w = (2 : Int32) then ((ix (((6 : Int32) * (S11.1 140 18)) + nI p) 12).bind fun j13 => some (S11.1 (S11.2.2 140 28) j13, S11)) else if w = (3 : Int32) then ((ix ((32 : Int32) + nI p) 55).bind fun j14 => some (S11.1 (S11.2.2 140 52) j14, S11)) else if w = (4 : Int32) then (some (S11.1 140 55, S11)) else if w = (5 : Int32) then (some (S11.1 140 56, S11)) else if w = (6 : Int32) then (bd (f_X10_standsAt 140 (nI p) (pX s p) (pY s p) S11) fun r16 S15 => some (r16, S15)) else if w = (7 : Int32) then (bd (f_X10_stormOf 140 (nI p) S11) fun r18 S17 => some (r18, S17)) else if w = (8 : Int32) then (bd (f_X10_wearsOf 140 (nI p) S11) fun r20 S19 => some (r20, S19)) else (some ((-100000 : Int32), S11)) := fun S h => by
      obtain ⟨e, hp⟩ := idx_some (by have := h.wb.p6; omega) hv
      have hp6 : p < 6 := Nat.lt_of_lt_of_le hp h.wb.p6
      obtain ⟨_, S3, e3, c3, -, -, q3⟩ := copies_run h
      obtain ⟨_, S4, e4, g4, w4⟩ := pworn_run c3 hp (c3.p9 hp).1 (c3.p9 hp).2
      refine ⟨S4, e, hp, CMx_w c3 w4, q3.tr w4.mq, fst_of g4, snd_of g4, ?_⟩
      unfold f_X10_person
      rw [mP_eq h, bdq, hv, is1_s, if_neg (show ¬ (1 : Int32) = 0 by decide), e3, bdq, e, ix55_20 hp6, obq, nmq, ix55_26 hp6, obq, nmq, rq_52 c3.rf, c3.px hp, c3.py hp, wbits_eq c3, bdq, e4, bdq]
    have hc : ∀ S, QC B b s S → v = nI p ∧ p < bP b ∧ f_X9_person 0 v w S = if w = (0 : Int32) then (some (pX s p, S)) else if w = (1 : Int32) then (some (pY s p, S)) else if w = (2 : Int32) then ((ix (nI p) 6).bind fun j7 => some (S.1 (S.2.2 (S.2.2 0 3) 7) j7, S)) else if w = (3 : Int32) then (bd (f_X5_isOff (S.2.2 0 5) (nI p) S) fun r9 S8 => if r9 = 0 then (some ((0 : Int32), S8)) else (some ((1 : Int32), S8))) else if w = (4 : Int32) then (bd (f_X8_feel (S.2.2 0 7) (nI p) (pX s p) (pY s p) S) fun _ S10 => some (S10.1 (S10.2.2 0 7) 2, S10)) else if w = (5 : Int32) then (bd (f_X8_feel (S.2.2 0 7) (nI p) (pX s p) (pY s p) S) fun _ S12 => some (S12.1 (S12.2.2 0 7) 3, S12)) else if w = (6 : Int32) then (bd (f_X8_standsAt (S.2.2 0 7) (nI p) (pX s p) (pY s p) S) fun r15 S14 => some (r15, S14)) else if w = (7 : Int32) then (bd (f_X8_stormOf (S.2.2 0 7) (nI p) S) fun r17 S16 => some (r17, S16)) else if w = (8 : Int32) then (bd (f_X8_wornBy (S.2.2 0 7) (nI p) S) fun r19 S18 => some (r19, S18)) else (some ((-100000 : Int32), S)) := fun S h => by
      obtain ⟨e, hp⟩ := idx_some (by have := h.wb.p6; omega) hv
      refine ⟨e, hp, ?_⟩
      unfold f_X9_person
      rw [cP_eq h, bdq, hv, is1_s, if_neg (show ¬ (1 : Int32) = 0 by decide), e, ix16 hp h.wb, obq, nmq, ix22 hp h.wb, obq, nmq, rc_5 h.rf, rc_35 h.rf, h.row (lt36_16 hp h.wb), h.row (lt36_22 hp h.wb)]
      rfl
    by_cases w0 : w = 0
    · refine ⟨pX s p, fun S h => ?_, fun S h => ?_⟩
      · obtain ⟨e, hp, e2⟩ := hc S h
        rw [e2, if_pos w0]
        exact RN_some ⟨rfl, CQ.rf⟩
      · obtain ⟨S1, e, hp, c1, q1, -, -, e2⟩ := hmm S h
        rw [e2, if_pos w0]
        exact RN_some ⟨rfl, q1⟩
    by_cases w1 : w = 1
    · refine ⟨pY s p, fun S h => ?_, fun S h => ?_⟩
      · obtain ⟨e, hp, e2⟩ := hc S h
        rw [e2, if_neg w0, if_pos w1]
        exact RN_some ⟨rfl, CQ.rf⟩
      · obtain ⟨S1, e, hp, c1, q1, -, -, e2⟩ := hmm S h
        rw [e2, if_neg w0, if_pos w1]
        exact RN_some ⟨rfl, q1⟩
    by_cases w2 : w = 2
    · refine ⟨nI (bWt b p), fun S h => ?_, fun S h => ?_⟩
      · obtain ⟨e, hp, e2⟩ := hc S h
        rw [e2, if_neg w0, if_neg w1, if_pos w2, ixP hp h.wb, obq, rc_3 h.rf, h.w.b7, h.w.wt hp]
        exact RN_some ⟨rfl, CQ.rf⟩
      · obtain ⟨S1, e, hp, c1, q1, -, -, e2⟩ := hmm S h
        rw [e2, if_neg w0, if_neg w1, if_pos w2, c1.k.l18, ix6lv c1.k.lt (Nat.lt_of_lt_of_le hp h.wb.p6), obq, rq_28 c1.rf, c1.k.wt hp]
        exact RN_some ⟨rfl, q1⟩
    by_cases w3 : w = 3
    · refine ⟨bitI (aO s) p, fun S h => ?_, fun S h => ?_⟩
      · obtain ⟨e, hp, e2⟩ := hc S h
        rw [e2, if_neg w0, if_neg w1, if_neg w2, if_pos w3, rc_5 h.rf, isOff_eq h.w.rs h.w.ws (Nat.lt_of_lt_of_le hp h.wb.p6), bdq]
        unfold bitI
        by_cases ho : (aO s).testBit p = true
        · rw [if_pos ho, if_neg (by decide)]
          exact RN_some ⟨rfl, CQ.rf⟩
        · rw [if_neg ho, if_pos rfl]
          exact RN_some ⟨rfl, CQ.rf⟩
      · obtain ⟨S1, e, hp, c1, q1, -, -, e2⟩ := hmm S h
        rw [e2, if_neg w0, if_neg w1, if_neg w2, if_pos w3, ix55_32 (Nat.lt_of_lt_of_le hp h.wb.p6), obq, rq_52 c1.rf, c1.off (Nat.lt_of_lt_of_le hp h.wb.p6)]
        exact RN_some ⟨rfl, q1⟩
    by_cases w4 : w = 4
    · refine ⟨(feelA b s p (pX s p) (pY s p)).1, fun S h => ?_, fun S h => ?_⟩
      · obtain ⟨e, hp, e2⟩ := hc S h
        rw [e2, if_neg w0, if_neg w1, if_neg w2, if_neg w3, if_pos w4, rc_7 h.rf]
        refine RN_bd (feel_run h.w hp _ _) (fun _ S1 h1 => ?_)
        have h2 := QC_q h h1.2.cq9
        rw [rc_7 h2.rf]
        exact RN_some ⟨fst_of h1.1, h1.2.cq9⟩
      · obtain ⟨S1, e, hp, c1, q1, f1, -, e2⟩ := hmm S h
        rw [e2, if_neg w0, if_neg w1, if_neg w2, if_neg w3, if_pos w4]
        exact RN_some ⟨f1, q1⟩
    by_cases w5 : w = 5
    · refine ⟨(feelA b s p (pX s p) (pY s p)).2, fun S h => ?_, fun S h => ?_⟩
      · obtain ⟨e, hp, e2⟩ := hc S h
        rw [e2, if_neg w0, if_neg w1, if_neg w2, if_neg w3, if_neg w4, if_pos w5, rc_7 h.rf]
        refine RN_bd (feel_run h.w hp _ _) (fun _ S1 h1 => ?_)
        have h2 := QC_q h h1.2.cq9
        rw [rc_7 h2.rf]
        exact RN_some ⟨snd_of h1.1, h1.2.cq9⟩
      · obtain ⟨S1, e, hp, c1, q1, -, f1, e2⟩ := hmm S h
        rw [e2, if_neg w0, if_neg w1, if_neg w2, if_neg w3, if_neg w4, if_pos w5]
        exact RN_some ⟨f1, q1⟩
    by_cases w6 : w = 6
    · refine ⟨standsA b s p (pX s p) (pY s p), fun S h => ?_, fun S h => ?_⟩
      · obtain ⟨e, hp, e2⟩ := hc S h
        rw [e2, if_neg w0, if_neg w1, if_neg w2, if_neg w3, if_neg w4, if_neg w5, if_pos w6, rc_7 h.rf]
        exact RN_bd (stands_run h.w hp _ _) (fun _ S1 h1 => RN_some ⟨h1.1, h1.2.cq⟩)
      · obtain ⟨S1, e, hp, c1, q1, -, -, e2⟩ := hmm S h
        rw [e2, if_neg w0, if_neg w1, if_neg w2, if_neg w3, if_neg w4, if_neg w5, if_pos w6]
        exact RN_bd (mstands_run c1 hp) (fun _ S1 h1 => RN_some ⟨h1.1, q1.tr h1.2.mq⟩)
    by_cases w7 : w = 7
    · refine ⟨stormA b s p, fun S h => ?_, fun S h => ?_⟩
      · obtain ⟨e, hp, e2⟩ := hc S h
        rw [e2, if_neg w0, if_neg w1, if_neg w2, if_neg w3, if_neg w4, if_neg w5, if_neg w6, if_pos w7, rc_7 h.rf]
        exact RN_bd (storm_run h.w hp) (fun _ S1 h1 => RN_some ⟨h1.1, h1.2.cq⟩)
      · obtain ⟨S1, e, hp, c1, q1, -, -, e2⟩ := hmm S h
        rw [e2, if_neg w0, if_neg w1, if_neg w2, if_neg w3, if_neg w4, if_neg w5, if_neg w6, if_pos w7]
        exact RN_bd (mstorm_run c1 hp) (fun _ S1 h1 => RN_some ⟨h1.1, q1.tr h1.2.mq⟩)
    by_cases w8 : w = 8
    · refine ⟨nI (wornN b s p), fun S h => ?_, fun S h => ?_⟩
      · obtain ⟨e, hp, e2⟩ := hc S h
        rw [e2, if_neg w0, if_neg w1, if_neg w2, if_neg w3, if_neg w4, if_neg w5, if_neg w6, if_neg w7, if_pos w8, rc_7 h.rf, wornBy_eq h.w, bdq]
        exact RN_some ⟨rfl, CQ.rf⟩
      · obtain ⟨S1, e, hp, c1, q1, -, -, e2⟩ := hmm S h
        rw [e2, if_neg w0, if_neg w1, if_neg w2, if_neg w3, if_neg w4, if_neg w5, if_neg w6, if_neg w7, if_pos w8, wears_eq c1, bdq]
        exact RN_some ⟨rfl, q1⟩
    · refine ⟨-100000, fun S h => ?_, fun S h => ?_⟩
      · obtain ⟨e, hp, e2⟩ := hc S h
        rw [e2, if_neg w0, if_neg w1, if_neg w2, if_neg w3, if_neg w4, if_neg w5, if_neg w6, if_neg w7, if_neg w8]
        exact RN_some ⟨rfl, CQ.rf⟩
      · obtain ⟨S1, e, hp, c1, q1, -, -, e2⟩ := hmm S h
        rw [e2, if_neg w0, if_neg w1, if_neg w2, if_neg w3, if_neg w4, if_neg w5, if_neg w6, if_neg w7, if_neg w8]
        exact RN_some ⟨rfl, q1⟩
theorem q_strand (v w : Int32) : PQ B lv b s (f_X9_strand 0 v w) (f_X10_strand 140 v w) := by
  cases hv : idx (bS b) v with
  | none =>
    refine ⟨-1, fun S h => ?_, fun S h => ?_⟩
    · unfold f_X9_strand
      rw [cS_eq h, bdq, hv, is1_n, if_pos rfl]
      exact RN_some ⟨rfl, CQ.rf⟩
    · unfold f_X10_strand
      rw [mS_eq h, bdq, hv, is1_n, if_pos rfl]
      exact RN_some ⟨rfl, QF.rf⟩
  | some e =>
    have hmm : ∀ S, QM lv b s S → ∃ S3, v = nI e ∧ e < bS b ∧ (wr s e < bP b) ∧ CMx lv b s S3 ∧ QF S S3 ∧ f_X10_strand 140 v w S = if w = (0 : Int32) then (bd (f_X10_whose 140 (nI e) S3) fun r8 S7 => some (r8, S7)) else if w = (1 : Int32) then (some (nI (wr s e), S3)) else if w = (2 : Int32) then ((ix (((8 : Int32) * (S3.1 140 18)) + nI e) 16).bind fun j9 => some (S3.1 (S3.2.2 140 32) j9, S3)) else if w = (3 : Int32) then ((ix ((46 : Int32) + nI e) 55).bind fun j10 => some (S3.1 (S3.2.2 140 52) j10, S3)) else if w = (4 : Int32) then ((ix ((20 : Int32) + nI (wr s e)) 55).bind fun j11 => (ix ((26 : Int32) + nI (wr s e)) 55).bind fun j12 => bd (f_X10_pullAt 140 (nI e) (nI (wr s e)) (S3.1 (S3.2.2 140 52) j11) (S3.1 (S3.2.2 140 52) j12) S3) fun r14 S13 => some (r14, S13)) else if w = (5 : Int32) then (bd (f_X10_priceOf 140 (nI e) S3) fun r16 S15 => some (r16, S15)) else if w = (6 : Int32) then (bd (f_X10_whose 140 (nI e) S3) fun r18 S17 => (ix ((20 : Int32) + nI (wr s e)) 55).bind fun j19 => (ix ((26 : Int32) + nI (wr s e)) 55).bind fun j20 => bd (f_X10_farFrom 140 r18 (S17.1 (S17.2.2 140 52) j19) (S17.1 (S17.2.2 140 52) j20) S17) fun r22 S21 => some (r22, S21)) else (some ((-1 : Int32), S3)) := fun S h => by
      obtain ⟨ev, he⟩ := idx_some (by have := h.wb.s8; omega) hv
      have he8 : e < 8 := Nat.lt_of_lt_of_le he h.wb.s8
      obtain ⟨_, S3, e3, c3, -, -, q3⟩ := copies_run h
      obtain ⟨w1, w2⟩ := wr_eq c3.wp c3.wb he
      refine ⟨S3, ev, he, w2, c3, q3, ?_⟩
      unfold f_X10_strand
      rw [mS_eq h, bdq, hv, is1_s, if_neg (show ¬ (1 : Int32) = 0 by decide), e3, bdq, ev, ix55_38 he8, obq, nmq, rq_52 c3.rf, c3.wrr he8, w1]
    have hc : ∀ S, QC B b s S → v = nI e ∧ e < bS b ∧ wr s e < bP b ∧ f_X9_strand 0 v w S = if w = (0 : Int32) then ((ix (nI e) 8).bind fun j9 => some (S.1 (S.2.2 (S.2.2 0 3) 8) j9, S)) else if w = (1 : Int32) then (some (nI (wr s e), S)) else if w = (2 : Int32) then ((ix (nI e) 8).bind fun j10 => some (S.1 (S.2.2 (S.2.2 0 3) 9) j10, S)) else if w = (3 : Int32) then (bd (f_X5_isCut (S.2.2 0 5) (nI e) S) fun r12 S11 => if r12 = 0 then (some ((0 : Int32), S11)) else (some ((1 : Int32), S11))) else if w = (4 : Int32) then (bd (f_X8_pullAt (S.2.2 0 7) (nI e) (nI (wr s e)) (pX s (wr s e)) (pY s (wr s e)) S) fun r14 S13 => some (r14, S13)) else if w = (5 : Int32) then (bd (f_X8_priceOf (S.2.2 0 7) (nI e) S) fun r16 S15 => some (r16, S15)) else if w = (6 : Int32) then ((ix (nI e) 8).bind fun j17 => bd (f_X5_farOf (S.2.2 0 5) (S.1 (S.2.2 (S.2.2 0 3) 8) j17) (pX s (wr s e)) (pY s (wr s e)) S) fun r19 S18 => some (r19, S18)) else (some ((-1 : Int32), S)) := fun S h => by
      obtain ⟨ev, he⟩ := idx_some (by have := h.wb.s8; omega) hv
      obtain ⟨w1, w2⟩ := wr_eq h.w.wp h.wb he
      refine ⟨ev, he, w2, ?_⟩
      unfold f_X9_strand
      rw [cS_eq h, bdq, hv, is1_s, if_neg (show ¬ (1 : Int32) = 0 by decide), ev, ix28 he h.wb, obq, nmq, rc_5 h.rf, rc_35 h.rf, h.row (lt36_28 he h.wb), w1, ix16 w2 h.wb, obq, nmq, ix22 w2 h.wb, obq, nmq, h.row (lt36_16 w2 h.wb), h.row (lt36_22 w2 h.wb)]
      rfl
    by_cases w0 : w = 0
    · refine ⟨nI (bWho b e), fun S h => ?_, fun S h => ?_⟩
      · obtain ⟨ev, he, hp, e2⟩ := hc S h
        rw [e2, if_pos w0, ixS he h.wb, obq, rc_3 h.rf, h.w.b8, h.w.who he]
        exact RN_some ⟨rfl, CQ.rf⟩
      · obtain ⟨S1, ev, he, hp, c1, q1, e2⟩ := hmm S h
        rw [e2, if_pos w0, whose_eq c1 he, bdq]
        exact RN_some ⟨rfl, q1⟩
    by_cases w1 : w = 1
    · refine ⟨nI (wr s e), fun S h => ?_, fun S h => ?_⟩
      · obtain ⟨ev, he, hp, e2⟩ := hc S h
        rw [e2, if_neg w0, if_pos w1]
        exact RN_some ⟨rfl, CQ.rf⟩
      · obtain ⟨S1, ev, he, hp, c1, q1, e2⟩ := hmm S h
        rw [e2, if_neg w0, if_pos w1]
        exact RN_some ⟨rfl, q1⟩
    by_cases w2 : w = 2
    · refine ⟨nI (bLen b e), fun S h => ?_, fun S h => ?_⟩
      · obtain ⟨ev, he, hp, e2⟩ := hc S h
        rw [e2, if_neg w0, if_neg w1, if_pos w2, ixS he h.wb, obq, rc_3 h.rf, h.w.b9, h.w.len he]
        exact RN_some ⟨rfl, CQ.rf⟩
      · obtain ⟨S1, ev, he, hp, c1, q1, e2⟩ := hmm S h
        rw [e2, if_neg w0, if_neg w1, if_pos w2, c1.k.l18, ix8lv c1.k.lt (Nat.lt_of_lt_of_le he h.wb.s8), obq, rq_32 c1.rf, c1.k.len he]
        exact RN_some ⟨rfl, q1⟩
    by_cases w3 : w = 3
    · refine ⟨bitI (aC s) e, fun S h => ?_, fun S h => ?_⟩
      · obtain ⟨ev, he, hp, e2⟩ := hc S h
        rw [e2, if_neg w0, if_neg w1, if_neg w2, if_pos w3, rc_5 h.rf, isCut_eq h.w.rs h.w.ws (Nat.lt_of_lt_of_le he h.wb.s8), bdq]
        unfold bitI
        by_cases ho : (aC s).testBit e = true
        · rw [if_pos ho, if_neg (by decide)]
          exact RN_some ⟨rfl, CQ.rf⟩
        · rw [if_neg ho, if_pos rfl]
          exact RN_some ⟨rfl, CQ.rf⟩
      · obtain ⟨S1, ev, he, hp, c1, q1, e2⟩ := hmm S h
        rw [e2, if_neg w0, if_neg w1, if_neg w2, if_pos w3, ix55_46 (Nat.lt_of_lt_of_le he h.wb.s8), obq, rq_52 c1.rf, c1.cut (Nat.lt_of_lt_of_le he h.wb.s8)]
        exact RN_some ⟨rfl, q1⟩
    by_cases w4 : w = 4
    · refine ⟨pullA b s e (wr s e) (pX s (wr s e)) (pY s (wr s e)), fun S h => ?_, fun S h => ?_⟩
      · obtain ⟨ev, he, hp, e2⟩ := hc S h
        rw [e2, if_neg w0, if_neg w1, if_neg w2, if_neg w3, if_pos w4, rc_7 h.rf]
        exact RN_bd (pull_run h.w he hp _ _) (fun _ S1 h1 => RN_some ⟨h1.1, h1.2.cq⟩)
      · obtain ⟨S1, ev, he, hp, c1, q1, e2⟩ := hmm S h
        have w6 : wr s e < 6 := Nat.lt_of_lt_of_le hp h.wb.p6
        rw [e2, if_neg w0, if_neg w1, if_neg w2, if_neg w3, if_pos w4, ix55_20 w6, obq, ix55_26 w6, obq, rq_52 c1.rf, c1.px hp, c1.py hp]
        exact RN_bd (mpull_run c1 he hp (c1.p9 hp).1 (c1.p9 hp).2) (fun _ S1 h1 => RN_some ⟨h1.1, q1.tr h1.2.mq⟩)
    by_cases w5 : w = 5
    · refine ⟨priceA b s e, fun S h => ?_, fun S h => ?_⟩
      · obtain ⟨ev, he, hp, e2⟩ := hc S h
        rw [e2, if_neg w0, if_neg w1, if_neg w2, if_neg w3, if_neg w4, if_pos w5, rc_7 h.rf]
        exact RN_bd (price_run h.w he) (fun _ S1 h1 => RN_some ⟨h1.1, h1.2.cq⟩)
      · obtain ⟨S1, ev, he, hp, c1, q1, e2⟩ := hmm S h
        rw [e2, if_neg w0, if_neg w1, if_neg w2, if_neg w3, if_neg w4, if_pos w5]
        exact RN_bd (mprice_run c1 he) (fun _ S1 h1 => RN_some ⟨h1.1, q1.tr h1.2.mq⟩)
    by_cases w6 : w = 6
    · refine ⟨farA s (bWho b e) (pX s (wr s e)) (pY s (wr s e)), fun S h => ?_, fun S h => ?_⟩
      · obtain ⟨ev, he, hp, e2⟩ := hc S h
        rw [e2, if_neg w0, if_neg w1, if_neg w2, if_neg w3, if_neg w4, if_neg w5, if_pos w6, ixS he h.wb, obq, rc_3 h.rf, h.w.b8, h.w.who he, rc_5 h.rf, farOf_eq (rc_35 h.rf) h.w.rs (h.wb.w4 he), bdq]
        exact RN_some ⟨rfl, CQ.rf⟩
      · obtain ⟨S1, ev, he, hp, c1, q1, e2⟩ := hmm S h
        have w66 : wr s e < 6 := Nat.lt_of_lt_of_le hp h.wb.p6
        rw [e2, if_neg w0, if_neg w1, if_neg w2, if_neg w3, if_neg w4, if_neg w5, if_pos w6, whose_eq c1 he, bdq, ix55_20 w66, obq, ix55_26 w66, obq, rq_52 c1.rf, c1.px hp, c1.py hp, mfar_eq c1 he (c1.p9 hp).1 (c1.p9 hp).2, bdq]
        exact RN_some ⟨rfl, q1⟩
    · refine ⟨-1, fun S h => ?_, fun S h => ?_⟩
      · obtain ⟨ev, he, hp, e2⟩ := hc S h
        rw [e2, if_neg w0, if_neg w1, if_neg w2, if_neg w3, if_neg w4, if_neg w5, if_neg w6]
        exact RN_some ⟨rfl, CQ.rf⟩
      · obtain ⟨S1, ev, he, hp, c1, q1, e2⟩ := hmm S h
        rw [e2, if_neg w0, if_neg w1, if_neg w2, if_neg w3, if_neg w4, if_neg w5, if_neg w6]
        exact RN_some ⟨rfl, q1⟩
end ASK

/-! hand, cut, die, months, undo, hold, restore -/
section UPD
variable {B lv T : Nat} {g : GS} {b : Bk} {s : ASea} {S S' : St}
/-- a Sea is kept, then changed -/
theorem RC_k {T' : Nat} {S1 S2 : St} (h : RC B T g S) (hT : T ≤ T') (hH : HC (hkL (gHl g)) (hkF (gHf g) (gS g)) S1) (hE : EK S S1) (hF : GO B 39 35 S1 S2) (hs : RS 35 s S2) (hw : wfM T' (gB g) s) : RC B T' (gB g, s, (hkL (gHl g), hkF (gHf g) (gS g)), (gLm g, gLf g), (gTn g, gTd g), (gPl g, gPt g), gPc g) S2 := by
  have hB := h.hB
  have o : ∀ a i, obs B a i → ¬ (35 ≤ a ∧ a ≤ 36) → S2.1 a i = S1.1 a i := fun a i ho hn => by
    unfold obs at ho
    exact hF.2 a i (by omega) (by omega) (by omega) (by omega) (by omega) (by omega)
  refine RC_s h (by rw [hF.1, hE.1]) (fun a i ho h1 h2 h3 => ?_) hs ?_ (wfG_k h.wf hT hw)
  · rw [o a i ho h1]
    exact hE.2 a i (by omega) (by omega)
  · exact HC_set hH (o _ _ (by unfold obs; omega) (by omega)) (o _ _ (by unfold obs; omega) (by omega)) (fun a i h1 h2 => o _ _ (by unfold obs; omega) (by omega))
theorem EK_sea (hE : EK S S') (hs : RS 35 s S) : RS 35 s S' := RS_set hs (fun i => hE.2 _ _ (by omega) (by omega)) (fun i => hE.2 _ _ (by omega) (by omega))
theorem cutS_wfM {T : Nat} {e : Nat} (hb : wfB b) (he : e < bS b) (h : wfM T b s) : wfM T b (cutS s e) := by
  have h8 := hb.s8
  refine ⟨h.1, ⟨h.2.1.1, h.2.1.2.1, h.2.1.2.2.1, or256 h.2.1.2.2.2 (by omega)⟩, h.2.2.1, h.2.2.2.1, h.2.2.2.2.1, fun i hi => ?_⟩
  show (aC s ||| 1 <<< e).testBit i = false
  rw [tb_or, h.2.2.2.2.2 i hi]
  simp
  omega
def dieS (s : ASea) (m : Nat) : ASea := (s.1, s.2.1, s.2.2.1, s.2.2.2.1 ||| 1 <<< m, s.2.2.2.2)
theorem dieS_wfM {T : Nat} {m : Nat} (hb : wfB b) (hm : m < bM b) (h : wfM T b s) : wfM T b (dieS s m) := by
  have h4 := hb.m4
  refine ⟨h.1, ⟨h.2.1.1, h.2.1.2.1, or16 h.2.1.2.2.1 (by omega), h.2.1.2.2.2⟩, h.2.2.1, h.2.2.2.1, fun i hi => ?_, h.2.2.2.2.2⟩
  show (aD s ||| 1 <<< m).testBit i = false
  rw [tb_or, h.2.2.2.2.1 i hi]
  simp
  omega
theorem giveS_wfM {T : Nat} {e p : Nat} (hb : wfB b) (hp : p < bP b) (h : wfM T b s) : wfM T b (giveS s e p) := ⟨h.1, h.2.1, giveS_wfP hb hp h.2.2.1, h.2.2.2⟩
theorem RS_die {a o : Nat} {t : ASea} (h : RS a t S) : RS a (t.1, t.2.1, t.2.2.1, o, t.2.2.2.2) (sI S a 3 (nI o)) := ⟨fun k hk => (sI_ne (by omega)).trans (h.1 k hk), (sI_ne (by omega)).trans h.2.1, (sI_ne (by omega)).trans h.2.2.1, sI_at, (sI_ne (by omega)).trans h.2.2.2.2⟩
theorem PG_same {fc fm : St → Option (Int32 × St)} {r : Int32} (h1 : ∀ S, RC B T g S → fc S = some (r, S)) (h2 : ∀ S, RM lv T g S → fm S = some (r, S)) : PG B lv T g fc fm := PG_e (r := r) (fun S h => RN_eq (h1 S h) ⟨rfl, EC.rf⟩) (fun S h => RN_eq (h2 S h) ⟨rfl, EM.rf⟩)
theorem g_hand (hT : T ≤ 30940) (v w : Int32) : PG B lv T g (f_X9_hand 0 v w) (f_X10_hand 140 v w) := by
  have hT1 : T ≤ 31000 := by omega
  cases hv : idx (bS (gB g)) v with
  | none =>
    refine PG_same (r := 0) (fun S h => ?_) (fun S h => ?_)
    · unfold f_X9_hand
      rw [cS_eq (h.qc hT1), bdq, hv, is1_n, if_pos rfl]
    · unfold f_X10_hand
      rw [mS_eq (h.qm hT1), bdq, hv, is1_n, if_pos rfl]
  | some e =>
    cases hw : idx (bP (gB g)) w with
    | none =>
      refine PG_same (r := 0) (fun S h => ?_) (fun S h => ?_)
      · unfold f_X9_hand
        rw [cS_eq (h.qc hT1), bdq, hv, is1_s, if_neg ne10, cP_eq (h.qc hT1), bdq, hw, is1_n, if_pos rfl]
      · unfold f_X10_hand
        rw [mS_eq (h.qm hT1), bdq, hv, is1_s, if_neg ne10, mP_eq (h.qm hT1), bdq, hw, is1_n, if_pos rfl]
    | some p =>
      have hc0 : ∀ S, RC B T g S → v = nI e ∧ w = nI p ∧ e < bS (gB g) ∧ p < bP (gB g) ∧ e < 8 ∧ p < 6 ∧ f_X9_hand 0 v w S = if (if ¬ aR (gS g) (28 + e) = nI p ∧ (aC (gS g)).testBit e = false ∧ (aO (gS g)).testBit p = false then (1 : Int32) else 0) = 0 then (some ((0 : Int32), S)) else (bd (f_X1_keep 41 35 S) fun _ S7 => (ix ((28 : Int32) + nI e) 36).bind fun j9 => nm (sI S7 (S7.2.2 (S7.2.2 0 5) 0) j9 (nI p)) fun S10 => some ((1 : Int32), S10)) := fun S h => by
        have q := h.qc hT1
        obtain ⟨ev, he⟩ := idx_some (by have := q.wb.s8; omega) hv
        obtain ⟨ew, hp⟩ := idx_some (by have := q.wb.p6; omega) hw
        have he8 : e < 8 := Nat.lt_of_lt_of_le he q.wb.s8
        have hp6 : p < 6 := Nat.lt_of_lt_of_le hp q.wb.p6
        refine ⟨ev, ew, he, hp, he8, hp6, ?_⟩
        unfold f_X9_hand
        rw [cS_eq q, bdq, hv, is1_s, if_neg ne10, cP_eq q, bdq, hw, is1_s, if_neg ne10, ev, ew, rc_5 q.rf, mayBe_eq q.w.ra q.w.rs q.w.ws he8 hp6, bdq, rc_9 q.rf, rc_5 q.rf]
      have hm0 : ∀ S, RM lv T g S → v = nI e ∧ w = nI p ∧ e < bS (gB g) ∧ p < bP (gB g) ∧ e < 8 ∧ p < 6 ∧ f_X10_hand 140 v w S = (if bitI (aC (gS g)) e = (1 : Int32) then (some ((0 : Int32), S)) else (if aR (gS g) (28 + e) = nI p then (some ((0 : Int32), S)) else (if bitI (aO (gS g)) p = (1 : Int32) then (some ((0 : Int32), S)) else (bd (f_X10_copies 140 S) fun _ S8 => (ix ((38 : Int32) + nI e) 55).bind fun j10 => nm (sI S8 (S8.2.2 140 52) j10 (nI p)) fun S11 => bd (f_X10_records 140 S11) fun _ S12 => some ((1 : Int32), S12))))) := fun S h => by
        have q := h.qm hT1
        obtain ⟨ev, he⟩ := idx_some (by have := q.wb.s8; omega) hv
        obtain ⟨ew, hp⟩ := idx_some (by have := q.wb.p6; omega) hw
        have he8 : e < 8 := Nat.lt_of_lt_of_le he q.wb.s8
        have hp6 : p < 6 := Nat.lt_of_lt_of_le hp q.wb.p6
        refine ⟨ev, ew, he, hp, he8, hp6, ?_⟩
        unfold f_X10_hand
        rw [mS_eq q, bdq, hv, is1_s, if_neg ne10, mP_eq q, bdq, hw, is1_s, if_neg ne10, ev, ew, ix55_46 he8, obq, rq_51 q.rf, q.now (show 46 + e < 55 by omega), menc_c he8, ix55_38 he8, obq, q.wear he8, ix55_32 hp6, obq, q.now (show 32 + p < 55 by omega), menc_o hp6]
      by_cases ok : ¬ aR (gS g) (28 + e) = nI p ∧ (aC (gS g)).testBit e = false ∧ (aO (gS g)).testBit p = false
      · refine ⟨1, (gB g, giveS (gS g) e p, (hkL (gHl g), hkF (gHf g) (gS g)), (gLm g, gLf g), (gTn g, gTd g), (gPl g, gPt g), gPc g), B, lv, fun q => q, fun S h => ?_, fun S h => ?_⟩
        · obtain ⟨ev, ew, he, hp, he8, hp6, e1⟩ := hc0 S h
          have wm := giveS_wfM (e := e) h.wf.1 hp (wfM_le h.wf.2.1 (show T ≤ T + 60 by omega))
          rw [e1, if_pos ok, if_neg ne10]
          refine RN_bd (keep_run h.rfc h.hst h.wf.2.2.1.1 h.sea) (fun _ S1 h1 => ?_)
          obtain ⟨k1, k2⟩ := h1
          have r1 : RFC B S1.2.2 := by rw [k2.1]; exact h.rfc
          rw [ix28 he h.wf.1, obq, nmq, rc_5 r1, rc_35 r1]
          exact RN_some ⟨rfl, RC_k h (by omega) k1 k2 (EA_row (a := 35)).go (RS_row (EK_sea k2 h.sea)) wm⟩
        · obtain ⟨ev, ew, he, hp, he8, hp6, e1⟩ := hm0 S h
          have wm := giveS_wfM (e := e) h.wf.1 hp (wfM_le h.wf.2.1 (show T ≤ T + 60 by omega))
          rw [e1, if_neg (fun q => by rw [bitI_1, ok.2.1] at q; cases q), if_neg ok.1, if_neg (fun q => by rw [bitI_1, ok.2.2] at q; cases q)]
          refine RN_bd (copies_run (h.qm hT1)) (fun _ S1 h1 => ?_)
          rw [ix55_38 he8, obq, nmq, rq_52 h1.1.rf]
          have c3 := CMx_give h1.1 he hp (h.qm hT1).wa
          exact RN_bd (RM_rec h (by omega) (h1.2.2.2.tr MG_175.mq) c3.row wm) (fun _ S2 h2 => RN_some ⟨rfl, h2⟩)
      · refine PG_same (r := 0) (fun S h => ?_) (fun S h => ?_)
        · obtain ⟨ev, ew, he, hp, he8, hp6, e1⟩ := hc0 S h
          rw [e1, if_neg ok, if_pos rfl]
        · obtain ⟨ev, ew, he, hp, he8, hp6, e1⟩ := hm0 S h
          rw [e1]
          by_cases c1 : (aC (gS g)).testBit e = true
          · rw [if_pos (bitI_1.mpr c1)]
          · rw [if_neg (fun q => c1 (bitI_1.mp q))]
            by_cases c2 : aR (gS g) (28 + e) = nI p
            · rw [if_pos c2]
            · rw [if_neg c2]
              by_cases c3 : (aO (gS g)).testBit p = true
              · rw [if_pos (bitI_1.mpr c3)]
              · exact absurd ⟨c2, by simpa using c1, by simpa using c3⟩ ok
theorem g_cut (hT : T ≤ 30940) (v : Int32) : PG B lv T g (f_X9_cut 0 v) (f_X10_cut 140 v) := by
  have hT1 : T ≤ 31000 := by omega
  cases hv : idx (bS (gB g)) v with
  | none =>
    refine PG_same (r := 0) (fun S h => ?_) (fun S h => ?_)
    · unfold f_X9_cut
      rw [cS_eq (h.qc hT1), bdq, hv, is1_n, if_pos rfl]
    · unfold f_X10_cut
      rw [mS_eq (h.qm hT1), bdq, hv, is1_n, if_pos rfl]
  | some e =>
    by_cases c : (aC (gS g)).testBit e = true
    · refine PG_same (r := 0) (fun S h => ?_) (fun S h => ?_)
      · have q := h.qc hT1
        obtain ⟨ev, he⟩ := idx_some (by have := q.wb.s8; omega) hv
        have he8 : e < 8 := Nat.lt_of_lt_of_le he q.wb.s8
        unfold f_X9_cut
        rw [cS_eq q, bdq, hv, is1_s, if_neg ne10, ev, rc_5 q.rf, isCut_eq q.w.rs q.w.ws he8, bdq, if_pos c, if_neg ne10]
      · have q := h.qm hT1
        obtain ⟨ev, he⟩ := idx_some (by have := q.wb.s8; omega) hv
        have he8 : e < 8 := Nat.lt_of_lt_of_le he q.wb.s8
        unfold f_X10_cut
        rw [mS_eq q, bdq, hv, is1_s, if_neg ne10, ev, ix55_46 he8, obq, rq_51 q.rf, q.now (show 46 + e < 55 by omega), menc_c he8, if_pos (bitI_1.mpr c)]
    · refine ⟨1, (gB g, cutS (gS g) e, (hkL (gHl g), hkF (gHf g) (gS g)), (gLm g, gLf g), (gTn g, gTd g), (gPl g, gPt g), gPc g), B, lv, fun q => q, fun S h => ?_, fun S h => ?_⟩
      · have q := h.qc hT1
        obtain ⟨ev, he⟩ := idx_some (by have := q.wb.s8; omega) hv
        have he8 : e < 8 := Nat.lt_of_lt_of_le he q.wb.s8
        have wm := cutS_wfM h.wf.1 he (wfM_le h.wf.2.1 (show T ≤ T + 60 by omega))
        unfold f_X9_cut
        rw [cS_eq q, bdq, hv, is1_s, if_neg ne10, ev, rc_5 q.rf, isCut_eq q.w.rs q.w.ws he8, bdq, if_neg c, if_pos rfl, rc_9 q.rf, rc_5 q.rf]
        refine RN_bd (keep_run h.rfc h.hst h.wf.2.2.1.1 h.sea) (fun _ S1 h1 => ?_)
        obtain ⟨k1, k2⟩ := h1
        have r1 : RFC B S1.2.2 := by rw [k2.1]; exact h.rfc
        have s1 := EK_sea k2 h.sea
        rw [nmq, rc_5 r1, s1.2.2.2.2, orI (aC (gS g)) q.w.ws.2.2.2 e he8]
        exact RN_some ⟨rfl, RC_k h (by omega) k1 k2 (EA_fld (a := 35) (by decide) (by decide)).go (RS_cut s1) wm⟩
      · have q := h.qm hT1
        obtain ⟨ev, he⟩ := idx_some (by have := q.wb.s8; omega) hv
        have he8 : e < 8 := Nat.lt_of_lt_of_le he q.wb.s8
        have wm := cutS_wfM h.wf.1 he (wfM_le h.wf.2.1 (show T ≤ T + 60 by omega))
        unfold f_X10_cut
        rw [mS_eq q, bdq, hv, is1_s, if_neg ne10, ev, ix55_46 he8, obq, rq_51 q.rf, q.now (show 46 + e < 55 by omega), menc_c he8, if_neg (fun x => c (bitI_1.mp x))]
        refine RN_bd (copies_run q) (fun _ S1 h1 => ?_)
        rw [obq, nmq, rq_52 h1.1.rf]
        have c3 := CMx_cut h1.1 he q.wa
        exact RN_bd (RM_rec h (by omega) (h1.2.2.2.tr MG_175.mq) c3.row wm) (fun _ S2 h2 => RN_some ⟨rfl, h2⟩)
theorem g_die (hT : T ≤ 30940) (v : Int32) : PG B lv T g (f_X9_die 0 v) (f_X10_die 140 v) := by
  have hT1 : T ≤ 31000 := by omega
  cases hv : idx (bM (gB g)) v with
  | none =>
    refine PG_same (r := 0) (fun S h => ?_) (fun S h => ?_)
    · unfold f_X9_die
      rw [cM_eq (h.qc hT1), bdq, hv, is1_n, if_pos rfl]
    · unfold f_X10_die
      rw [mM_eq (h.qm hT1), bdq, hv, is1_n, if_pos rfl]
  | some e =>
    by_cases c : (aD (gS g)).testBit e = true
    · refine PG_same (r := 0) (fun S h => ?_) (fun S h => ?_)
      · have q := h.qc hT1
        obtain ⟨ev, he⟩ := idx_some (by have := q.wb.m4; omega) hv
        have he4 : e < 4 := Nat.lt_of_lt_of_le he q.wb.m4
        unfold f_X9_die
        rw [cM_eq q, bdq, hv, is1_s, if_neg ne10, ev, rc_5 q.rf, isDead_eq q.w.rs q.w.ws he4, bdq, if_pos c, if_neg ne10]
      · have q := h.qm hT1
        obtain ⟨ev, he⟩ := idx_some (by have := q.wb.m4; omega) hv
        have he4 : e < 4 := Nat.lt_of_lt_of_le he q.wb.m4
        unfold f_X10_die
        rw [mM_eq q, bdq, hv, is1_s, if_neg ne10, ev, ix55_16 he4, obq, rq_51 q.rf, q.now (show 16 + e < 55 by omega), menc_d he4, if_pos (bitI_1.mpr c)]
    · refine ⟨1, (gB g, dieS (gS g) e, (hkL (gHl g), hkF (gHf g) (gS g)), (gLm g, gLf g), (gTn g, gTd g), (gPl g, gPt g), gPc g), B, lv, fun q => q, fun S h => ?_, fun S h => ?_⟩
      · have q := h.qc hT1
        obtain ⟨ev, he⟩ := idx_some (by have := q.wb.m4; omega) hv
        have he4 : e < 4 := Nat.lt_of_lt_of_le he q.wb.m4
        have wm := dieS_wfM h.wf.1 he (wfM_le h.wf.2.1 (show T ≤ T + 60 by omega))
        unfold f_X9_die
        rw [cM_eq q, bdq, hv, is1_s, if_neg ne10, ev, rc_5 q.rf, isDead_eq q.w.rs q.w.ws he4, bdq, if_neg c, if_pos rfl, rc_9 q.rf, rc_5 q.rf]
        refine RN_bd (keep_run h.rfc h.hst h.wf.2.2.1.1 h.sea) (fun _ S1 h1 => ?_)
        obtain ⟨k1, k2⟩ := h1
        have r1 : RFC B S1.2.2 := by rw [k2.1]; exact h.rfc
        have s1 := EK_sea k2 h.sea
        rw [nmq, rc_5 r1, s1.2.2.2.1, orI (aD (gS g)) (by have := q.w.ws.2.2.1; omega) e (by omega)]
        exact RN_some ⟨rfl, RC_k h (by omega) k1 k2 (EA_fld (a := 35) (by decide) (by decide)).go (RS_die s1) wm⟩
      · have q := h.qm hT1
        obtain ⟨ev, he⟩ := idx_some (by have := q.wb.m4; omega) hv
        have he4 : e < 4 := Nat.lt_of_lt_of_le he q.wb.m4
        have wm := dieS_wfM h.wf.1 he (wfM_le h.wf.2.1 (show T ≤ T + 60 by omega))
        unfold f_X10_die
        rw [mM_eq q, bdq, hv, is1_s, if_neg ne10, ev, ix55_16 he4, obq, rq_51 q.rf, q.now (show 16 + e < 55 by omega), menc_d he4, if_neg (fun x => c (bitI_1.mp x))]
        refine RN_bd (copies_run q) (fun _ S1 h1 => ?_)
        rw [obq, nmq, rq_52 h1.1.rf]
        exact RN_bd (RM_rec (s := dieS (gS g) e) h (by omega) (h1.2.2.2.tr MG_175.mq) (RW_upd h1.1.row (fun k hk => menc_die he4)) wm) (fun _ S2 h2 => RN_some ⟨rfl, h2⟩)
/-! months -/
theorem cmon_loop {n : Nat} (hn : n ≤ 60) (hM : aM s ≤ 31000) : ∀ (k fu i : Nat) (S : St), k < fu → i + k = n → CW B 39 35 b (mths b (some (nI (bSeed b))) 0 (bP b) s i) S → RFC B S.2.2 → RN (b_X9_months_29 fu 0 (nI n) (nI i) S) (fun r S' => r = nI (aM s + n) ∧ CW B 39 35 b (mths b (some (nI (bSeed b))) 0 (bP b) s n) S' ∧ GO B 39 35 S S') := by
  intro k
  induction k with
  | zero =>
    intro fu i S hf hi h hr
    obtain ⟨fu, rfl⟩ : ∃ f, fu = f + 1 := ⟨fu - 1, by omega⟩
    have hi : i = n := by omega
    subst hi
    rw [b_X9_months_29, if_pos (le_l (by omega) (by omega) (Nat.le_refl _)), rc_5 hr, h.rs.2.1, mths_M]
    exact RN_some ⟨rfl, h, GO.rf⟩
  | succ k ih =>
    intro fu i S hf hi h hr
    obtain ⟨fu, rfl⟩ : ∃ f, fu = f + 1 := ⟨fu - 1, by omega⟩
    rw [b_X9_months_29, if_neg (nle_l (by omega) (by omega) (by omega)), rc_7 hr, rc_3 hr, h.nP, show nI (bP b) = nI (0 + bP b) by rw [Nat.zero_add]]
    refine RN_bd (month_run h (by rw [mths_M]; omega) (lo := 0) (n := bP b) (by omega) 1) (fun _ S1 h1 => ?_)
    rw [nmq, nI_1]
    exact RN_mono (ih fu (i + 1) S1 (by omega) (by omega) h1.1 (by rw [h1.2.1]; exact hr)) (fun _ S' hh => ⟨hh.1, hh.2.1, h1.2.tr hh.2.2⟩)
theorem g_months (hT : T ≤ 30940) (v : Int32) : PG B lv T g (f_X9_months 0 v) (f_X10_months 140 v) := by
  have hT1 : T ≤ 31000 := by omega
  cases hv : idx 61 v with
  | none =>
    refine PG_same (r := -1) (fun S h => ?_) (fun S h => ?_)
    · unfold f_X9_months
      rw [show f_X9_isWithin v 0 60 S = _ from cin_eq 60 (by decide), bdq, hv, is1_n, if_pos rfl]
    · unfold f_X10_months
      rw [long_eq, bdq, hv, is1_n, if_pos rfl]
  | some n =>
    obtain ⟨rfl, hn⟩ := idx_some (by decide) hv
    by_cases c : n = 0
    · subst c
      refine PG_same (r := nI (aM (gS g))) (fun S h => ?_) (fun S h => ?_)
      · unfold f_X9_months b_X9_months_27
        rw [show f_X9_isWithin (nI 0) 0 60 S = _ from cin_eq 60 (by decide), bdq, hv, is1_s, if_neg ne10, if_pos (show nI 0 ≤ 0 by decide), show FU = 4999 + 1 from rfl, b_X9_months_29, if_pos (show nI 0 ≤ 0 by decide), rc_5 h.rfc, h.sea.2.1]
      · unfold f_X10_months
        rw [long_eq, bdq, hv, is1_s, if_neg ne10, if_pos (show nI 0 = 0 from rfl), ix55_54, obq, rq_51 h.rfm, h.now (by decide), menc_t]
    · have hwM : ∀ {T0 : Nat}, wfG T0 g → T0 ≤ 30940 → wfM (T0 + 60) (gB g) (mths (gB g) (some (nI (bSeed (gB g)))) 0 (bP (gB g)) (gS g) n) := fun {T0} hw hT0 => by
        obtain ⟨w1, w2⟩ := mths_wf (sd := some (nI (bSeed (gB g)))) (lo := 0) (n := bP (gB g)) hw.1 hw.2.1.2.1 hw.2.1.2.2.1 (by omega) n (by have := hw.2.1.1; omega)
        exact ⟨by rw [mths_M]; have := hw.2.1.1; omega, w1, w2, mths_wfO (by omega) hw.2.1.2.2.2 n⟩
      refine ⟨nI (aM (gS g) + n), (gB g, mths (gB g) (some (nI (bSeed (gB g)))) 0 (bP (gB g)) (gS g) n, (hkL (gHl g), hkF (gHf g) (gS g)), (gLm g, gLf g), (gTn g, gTd g), (gPl g, gPt g), gPc g), B, lv, fun q => q, fun S h => ?_, fun S h => ?_⟩
      · have q := h.qc hT1
        unfold f_X9_months b_X9_months_27
        rw [show f_X9_isWithin (nI n) 0 60 S = _ from cin_eq 60 (by decide), bdq, hv, is1_s, if_neg ne10, if_neg (show ¬ nI n ≤ 0 from nle_l (b := 0) (by omega) (by omega) (by omega)), rc_9 q.rf, rc_5 q.rf]
        refine RN_bd (keep_run h.rfc h.hst h.wf.2.2.1.1 h.sea) (fun _ S1 h1 => ?_)
        obtain ⟨k1, k2⟩ := h1
        have r1 : RFC B S1.2.2 := by rw [k2.1]; exact h.rfc
        have s1 := EK_sea k2 h.sea
        have hB := h.hB
        have c1 : CW B 39 35 (gB g) (gS g) S1 := ⟨(KW_of hB r1).1, CBk_obs h.bk (fun i hi => k2.2 _ _ (by omega) (by omega)) (fun a i ha => k2.2 _ _ (by omega) (by omega)), s1, h.wf.1, h.wf.2.1.2.1, h.wf.2.1.2.2.1⟩
        refine RN_mono (cmon_loop (n := n) (s := gS g) (by omega) (Nat.le_trans h.wf.2.1.1 hT1) n FU 0 S1 (by unfold FU; omega) (by omega) c1 r1) (fun r S2 h2 => ⟨h2.1, RC_k h (by omega) k1 k2 h2.2.2 h2.2.1.rs (hwM h.wf hT)⟩)
      · have q := h.qm hT1
        unfold f_X10_months
        rw [long_eq, bdq, hv, is1_s, if_neg ne10, if_neg (nI_nz c (by omega))]
        refine RN_bd (copies_run q) (fun _ S1 h1 => ?_)
        refine RN_bd (mgoes_run h1.1 (n := n) (by omega) (by have := h.wf.2.1.1; omega)) (fun _ S2 h2 => ?_)
        obtain ⟨c2, g2⟩ := h2
        rw [sdM_some h1.2.1 h1.2.2.1] at c2
        refine RN_bd (RM_rec h (by omega) (h1.2.2.2.tr g2.mq) c2.row (hwM h.wf hT)) (fun _ S3 h3 => ?_)
        rw [ix55_54, obq, rq_51 h3.rfm, h3.now (by decide), menc_t]
        exact RN_some ⟨by show nI (aM (mths (gB g) _ 0 _ (gS g) n)) = _; rw [mths_M], h3⟩
/-! undo -/
theorem g_undo : PG B lv T g (f_X9_undo 0) (f_X10_undo 140) := by
  by_cases c : gHl g = 0
  · refine PG_same (r := 0) (fun S h => ?_) (fun S h => ?_)
    · unfold f_X9_undo f_X1_takeBackInto
      rw [rc_9 h.rfc, h.hst.sz, if_pos (by rw [c]; rfl), bdq]
      rfl
    · unfold f_X10_undo
      rw [h.hst.1, if_pos (by rw [c]; rfl)]
  · have hw : ∀ {T0 : Nat}, wfG T0 g → wfG (T0 + 60) (gB g, gHf g 0, (gHl g - 1, fun i => gHf g (i + 1)), (gLm g, gLf g), (gTn g, gTd g), (gPl g, gPt g), gPc g) := fun {T0} h => by
      refine ⟨h.1, wfM_le (h.2.2.1.2 0 (by omega)) (by omega), ⟨Nat.le_trans (Nat.sub_le _ _) h.2.2.1.1, fun i hi => ?_⟩, h.2.2.2.1, fun i hi ht => wfM_le (h.2.2.2.2 i hi ht) (by omega)⟩
      have hi : i < gHl g - 1 := hi
      exact wfM_le (h.2.2.1.2 (i + 1) (by omega)) (by omega)
    refine ⟨1, (gB g, gHf g 0, (gHl g - 1, fun i => gHf g (i + 1)), (gLm g, gLf g), (gTn g, gTd g), (gPl g, gPt g), gPc g), B, lv, fun q => q, fun S h => ?_, fun S h => ?_⟩
    · have hB := h.hB
      have h40 := h.wf.2.2.1.1
      have hst := h.hst
      obtain ⟨nx, n1, n2, n3, n4⟩ := hst
      unfold f_X9_undo f_X1_takeBackInto
      rw [rc_9 h.rfc, rc_5 h.rfc, n3, if_neg (nI_nz c (by omega)), nmq, s1_eq (by omega), nmq, show (sI S 41 2 (nI (gHl g - 1))).1 41 1 = nI nx from (sI_ne (Or.inr (by decide))).trans n2, show nI nx + (40 : Int32) = nI (nx + 40) from nI_add nx 40, s1_eq (by omega), mod40 (by omega), show nx + 40 - 1 = nx + 39 by omega, show (sI (sI S 41 2 (nI (gHl g - 1))) 41 1 (nI ((nx + 39) % 40))).1 41 1 = nI ((nx + 39) % 40) from sI_at, ix_nI (show (nx + 39) % 40 < 40 by omega) (by decide), obq]
      have fr : ∀ a k, (a = 41 → k ≠ 1 ∧ k ≠ 2) → (sI (sI S 41 2 (nI (gHl g - 1))) 41 1 (nI ((nx + 39) % 40))).1 a k = S.1 a k := fun a k h => by rw [sI_ne (by omega), sI_ne (by omega)]
      have f1 : (sI (sI S 41 2 (nI (gHl g - 1))) 41 1 (nI ((nx + 39) % 40))).1 41 1 = nI ((nx + 39) % 40) := sI_at
      have f2 : (sI (sI S 41 2 (nI (gHl g - 1))) 41 1 (nI ((nx + 39) % 40))).1 41 2 = nI (gHl g - 1) := (sI_ne (Or.inr (by decide))).trans sI_at
      have fe : (sI (sI S 41 2 (nI (gHl g - 1))) 41 1 (nI ((nx + 39) % 40))).2 = S.2 := rfl
      revert fr f1 f2 fe
      generalize sI (sI S 41 2 (nI (gHl g - 1))) 41 1 (nI ((nx + 39) % 40)) = S1
      intro fr f1 f2 fe
      have r1 : RFC B S1.2.2 := by rw [fe]; exact h.rfc
      have hj : (nx + 39) % 40 < 40 := by omega
      rw [rc_41 r1, rc_42 r1 hj]
      have hs0 : RS (43 + 2 * ((nx + 39) % 40)) (gHf g 0) S1 := by
        have := n4 0 (by omega)
        rw [show (nx + 39 - 0) % 40 = (nx + 39) % 40 by omega] at this
        exact RS_set this (fun k => fr _ _ (by omega)) (fun k => fr _ _ (by omega))
      obtain ⟨_, S2, e2, x1, x2, x3, x4⟩ := copy_run (a := 35) (b := 43 + 2 * ((nx + 39) % 40)) (rc_35 r1) (by have := rc_43 r1 hj; omega) (by omega) (by omega) (by omega) hs0
      rw [e2, bdq, bdq]
      refine RN_some ⟨rfl, RC_s h (by rw [x1, fe]) (fun a i ho h1 h2 h3 => ?_) x4 ⟨(nx + 39) % 40, by omega, ?_, ?_, fun i hi => ?_⟩ (hw h.wf)⟩
      · rw [x2 a i (by omega) (by omega), fr a i (by omega)]
      · rw [x2 _ _ (by decide) (by decide)]; exact f1
      · rw [x2 _ _ (by decide) (by decide)]; exact f2
      · have := n4 (i + 1) (by omega)
        rw [show ((nx + 39) % 40 + 39 - i) % 40 = (nx + 39 - (i + 1)) % 40 by omega]
        refine RS_set this (fun k => ?_) (fun k => ?_)
        · rw [x2 _ _ (by omega) (by omega), fr _ _ (by omega)]
        · rw [x2 _ _ (by omega) (by omega), fr _ _ (by omega)]
    · have h40 := h.wf.2.2.1.1
      unfold f_X10_undo
      rw [h.hst.1, if_neg (nI_nz c (by omega)), nmq, s1_eq (by omega)]
      have fr : ∀ a k, (a = 140 → k ≠ 61) → (sI S 140 61 (nI (gHl g - 1))).1 a k = S.1 a k := fun a k h => sI_ne (by omega)
      have f1 : (sI S 140 61 (nI (gHl g - 1))).1 140 61 = nI (gHl g - 1) := sI_at
      have fe : (sI S 140 61 (nI (gHl g - 1))).2 = S.2 := rfl
      revert fr f1 fe
      generalize sI S 140 61 (nI (gHl g - 1)) = S1
      intro fr f1 fe
      have r1 : RFM S1.2.2 := by rw [fe]; exact h.rfm
      have loop : ∀ (m fu i : Nat) (S2 : St), m < fu → i + m = 55 → S2.2 = S1.2 → (∀ k, k < i → S2.1 174 k = menc (gHf g 0) k) → (∀ a k, a ≠ 174 → S2.1 a k = S1.1 a k) → RN (b_X10_undo_21 fu 140 (nI i) S2) (fun r S' => r = 1 ∧ S'.2 = S1.2 ∧ (∀ k, k < 55 → S'.1 174 k = menc (gHf g 0) k) ∧ ∀ a k, a ≠ 174 → S'.1 a k = S1.1 a k) := by
        intro m
        induction m with
        | zero =>
          intro fu i S2 hf hi h2 hz hs
          obtain ⟨fu, rfl⟩ : ∃ f, fu = f + 1 := ⟨fu - 1, by omega⟩
          have hi : i = 55 := by omega
          subst hi
          rw [b_X10_undo_21, if_pos (show (55 : Int32) ≤ nI 55 by decide)]
          exact RN_some ⟨rfl, h2, hz, hs⟩
        | succ m ih =>
          intro fu i S2 hf hi h2 hz hs
          obtain ⟨fu, rfl⟩ : ∃ f, fu = f + 1 := ⟨fu - 1, by omega⟩
          have hr2 : RFM S2.2.2 := by rw [h2]; exact r1
          have hrow : S2.1 180 (55 * (gHl g - 1) + i) = menc (gHf g 0) i := by
            rw [hs _ _ (by decide), fr _ _ (fun q => absurd q (by decide))]
            have := h.hst.2 0 (by omega) i (by omega)
            rw [show gHl g - 1 - 0 = gHl g - 1 by omega] at this
            exact this
          rw [b_X10_undo_21, if_neg (show ¬ (55 : Int32) ≤ nI i from nle_l (a := 55) (by omega) (by omega) (by omega)), hs 140 61 (by decide), f1, ix55h (show 55 * (gHl g - 1) + i < 2200 by omega) (by decide), obq, ix_nI (show i < 55 by omega) (by decide), obq, nmq, nmq, nI_1, rq_51 hr2, rq_62 hr2, hrow]
          refine ih fu (i + 1) _ (by omega) (by omega) h2 (fun k hk => ?_) (fun a k ha => (sI_ne (Or.inl ha)).trans (hs a k ha))
          rw [sI_1]
          by_cases e : k = i
          · rw [if_pos ⟨rfl, e⟩, e]
          · rw [if_neg (fun q => e q.2)]
            exact hz k (by omega)
      refine RN_mono (loop 55 FU 0 S1 (by decide) (by omega) rfl (fun k hk => absurd hk (Nat.not_lt_zero _)) (fun _ _ _ => rfl)) (fun r S2 h2 => ⟨h2.1, ?_⟩)
      obtain ⟨-, x1, x2, x3⟩ := h2
      have o : ∀ a k, a ≠ 174 → (a = 140 → k ≠ 61) → S2.1 a k = S.1 a k := fun a k h1 h2 => (x3 a k h1).trans (fr a k h2)
      refine ⟨KM_set2 h.k (by rw [x1, fe]) (o _ _ (by decide) (by decide)) (fun a i h1 h2 => o _ _ (by omega) (by omega)), x2, ⟨(x3 _ _ (by decide)).trans f1, fun i hi k hk => ?_⟩, LM_set h.slt (fun i => o _ _ (by decide) (fun q => absurd q (by decide))) (fun i => o _ _ (by decide) (fun q => absurd q (by decide))), RTm_set h.tld (o _ _ (by decide) (by decide)) (fun a i h1 h2 => o _ _ (by omega) (by omega)), RPm_set h.tap (o _ _ (by decide) (by decide)) (fun i => o _ _ (by decide) (fun q => absurd q (by decide))), (o _ _ (by decide) (by decide)).trans h.pl, fun k hk => (by rw [x1, fe]; exact h.ky k hk), hw h.wf⟩
      have hi : i < gHl g - 1 := hi
      have := h.hst.2 (i + 1) (by omega) k hk
      show S2.1 180 (55 * (gHl g - 1 - 1 - i) + k) = menc (gHf g (i + 1)) k
      rw [o _ _ (by decide) (fun q => absurd q (by decide)), show gHl g - 1 - 1 - i = gHl g - 1 - (i + 1) by omega]
      exact this
/-! hold, restore -/
def lkF (hs : Nat → ASea) (j : Nat) (s : ASea) : Nat → ASea := fun i => if i = j then s else hs i
theorem orI3 : ∀ o : Nat, o < 8 → ∀ p : Nat, p < 3 → nI o ||| ((1 : Int32) <<< (nI p &&& 31)) = nI (o ||| 1 <<< p) ∧ o ||| 1 <<< p < 8 := by decide
theorem wfG_h {j : Nat} (h : wfG T g) (hj : j < 3) : wfG T (gB g, gS g, (gHl g, gHf g), (gLm g ||| 1 <<< j, lkF (gLf g) j (gS g)), (gTn g, gTd g), (gPl g, gPt g), gPc g) := by
  refine ⟨h.1, h.2.1, h.2.2.1, (orI3 _ h.2.2.2.1 j hj).2, fun i hi ht => ?_⟩
  show wfM T (gB g) (lkF (gLf g) j (gS g) i)
  unfold lkF
  by_cases c : i = j
  · rw [if_pos c]; exact h.2.1
  · rw [if_neg c]
    refine h.2.2.2.2 i hi ?_
    have ht : (gLm g ||| 1 <<< j).testBit i = true := ht
    rw [tb_or] at ht
    have cj : ¬ j = i := fun q => c q.symm
    simpa [cj] using ht
theorem g_hold (v : Int32) : PG B lv T g (f_X9_hold 0 v) (f_X10_hold 140 v) := by
  cases hv : idx 3 v with
  | none =>
    refine PG_same (r := 0) (fun S h => ?_) (fun S h => ?_)
    · unfold f_X9_hold
      rw [show f_X9_isWithin v 0 2 S = _ from cin_eq 2 (by decide), bdq, hv, is1_n, if_pos rfl]
    · unfold f_X10_hold
      rw [show f_X10_in v 0 2 S = _ from min_eq 2 (by decide), bdq, hv, is1_n, if_pos rfl]
  | some j =>
    obtain ⟨rfl, hj⟩ := idx_some (by decide) hv
    refine ⟨1, (gB g, gS g, (gHl g, gHf g), (gLm g ||| 1 <<< j, lkF (gLf g) j (gS g)), (gTn g, gTd g), (gPl g, gPt g), gPc g), B, lv, fun q => q, fun S h => ?_, fun S h => ?_⟩
    · have hB := h.hB
      obtain ⟨q1, q2⟩ := rc_123 h.rfc hj
      unfold f_X9_hold
      rw [show f_X9_isWithin (nI j) 0 2 S = _ from cin_eq 2 (by decide), bdq, hv, is1_s, if_neg ne10, ix_nI hj (by decide), obq, rc_10 h.rfc, q1, rc_5 h.rfc]
      refine RN_bd (copy_run (a := 124 + 2 * j) (b := 35) (by omega) (rc_35 h.rfc) (by omega) (by omega) (by omega) h.sea) (fun _ S1 h1 => ?_)
      obtain ⟨x1, x2, x3, x4⟩ := h1
      have e11 : S1.1 0 11 = nI (gLm g) := (x2 _ _ (by omega) (by omega)).trans h.slt.1
      rw [nmq, e11, (orI3 _ h.wf.2.2.2.1 j hj).1]
      have fr : ∀ a k, (a = 0 → k ≠ 11) → (sI S1 0 11 (nI (gLm g ||| 1 <<< j))).1 a k = S1.1 a k := fun a k h => sI_ne (by omega)
      have o : ∀ a k, (a = 0 → k ≠ 11) → a ≠ 124 + 2 * j → a ≠ 124 + 2 * j + 1 → (sI S1 0 11 (nI (gLm g ||| 1 <<< j))).1 a k = S.1 a k := fun a k h1 h2 h3 => (fr a k h1).trans (x2 a k h2 h3)
      refine RN_some ⟨rfl, ⟨by rw [sI_2, x1]; exact h.1, CBk_obs h.bk (fun i hi => o _ _ (by omega) (by omega) (by omega)) (fun a i ha => o _ _ (by omega) (by omega) (by omega)), RS_set h.sea (fun i => o _ _ (by omega) (by omega) (by omega)) (fun i => o _ _ (by omega) (by omega) (by omega)), HC_set h.hst (o _ _ (by omega) (by omega) (by omega)) (o _ _ (by omega) (by omega) (by omega)) (fun a i h1 h2 => o _ _ (by omega) (by omega) (by omega)), ⟨sI_at, fun i hi ht => ?_⟩, RTc_set h.tld (o _ _ (by omega) (by omega) (by omega)) (fun a i h1 h2 => o _ _ (by omega) (by omega) (by omega)), RPc_set h.tap (o _ _ (by omega) (by omega) (by omega)) (fun i => o _ _ (by omega) (by omega) (by omega)), (o _ _ (by omega) (by omega) (by omega)).trans h.pl, wfG_h (wfG_le h.wf (by omega)) hj⟩⟩
      show RS (124 + 2 * i) (lkF (gLf g) j (gS g) i) _
      unfold lkF
      by_cases c : i = j
      · rw [if_pos c, c]
        exact RS_set x4 (fun k => fr _ _ (by omega)) (fun k => fr _ _ (by omega))
      · rw [if_neg c]
        have ht : (gLm g ||| 1 <<< j).testBit i = true := ht
        rw [tb_or] at ht
        have cj : ¬ j = i := fun q => c q.symm
        have ht2 : (gLm g).testBit i = true := by simpa [cj] using ht
        exact RS_set (h.slt.2 i hi ht2) (fun k => o _ _ (by omega) (by omega) (by omega)) (fun k => o _ _ (by omega) (by omega) (by omega))
    · unfold f_X10_hold
      rw [show f_X10_in (nI j) 0 2 S = _ from min_eq 2 (by decide), bdq, hv, is1_s, if_neg ne10, ix_nI hj (by decide), obq, nmq, rq_69 h.rfm, nar_bool1]
      have fr : ∀ a k, (a = 185 → k ≠ j) → (sI S 185 j 1).1 a k = S.1 a k := fun a k h => sI_ne (by omega)
      have f1 : (sI S 185 j 1).1 185 j = 1 := sI_at
      have fe : (sI S 185 j 1).2 = S.2 := rfl
      revert fr f1 fe
      generalize sI S 185 j 1 = S1
      intro fr f1 fe
      have r1 : RFM S1.2.2 := by rw [fe]; exact h.rfm
      have loop : ∀ (m fu i : Nat) (S2 : St), m < fu → i + m = 55 → S2.2 = S1.2 → (∀ k, S2.1 186 k = if 55 * j ≤ k ∧ k < 55 * j + i then S1.1 174 (k - 55 * j) else S1.1 186 k) → (∀ a k, a ≠ 186 → S2.1 a k = S1.1 a k) → RN (b_X10_hold_20 fu 140 (nI j) (nI i) S2) (fun r S' => r = 1 ∧ S'.2 = S1.2 ∧ (∀ k, S'.1 186 k = if 55 * j ≤ k ∧ k < 55 * j + 55 then S1.1 174 (k - 55 * j) else S1.1 186 k) ∧ ∀ a k, a ≠ 186 → S'.1 a k = S1.1 a k) := by
        intro m
        induction m with
        | zero =>
          intro fu i S2 hf hi h2 hz hs
          obtain ⟨fu, rfl⟩ : ∃ f, fu = f + 1 := ⟨fu - 1, by omega⟩
          have hi : i = 55 := by omega
          subst hi
          rw [b_X10_hold_20, if_pos (show (55 : Int32) ≤ nI 55 by decide)]
          exact RN_some ⟨rfl, h2, hz, hs⟩
        | succ m ih =>
          intro fu i S2 hf hi h2 hz hs
          obtain ⟨fu, rfl⟩ : ∃ f, fu = f + 1 := ⟨fu - 1, by omega⟩
          have hr2 : RFM S2.2.2 := by rw [h2]; exact r1
          rw [b_X10_hold_20, if_neg (show ¬ (55 : Int32) ≤ nI i from nle_l (a := 55) (by omega) (by omega) (by omega)), ix_nI (show i < 55 by omega) (by decide), obq, ix55h (show 55 * j + i < 165 by omega) (by decide), obq, nmq, nmq, nI_1, rq_70 hr2, rq_51 hr2, hs 174 _ (by decide)]
          refine ih fu (i + 1) _ (by omega) (by omega) h2 (fun k => ?_) (fun a k ha => (sI_ne (Or.inl ha)).trans (hs a k ha))
          rw [sI_1]
          by_cases e : k = 55 * j + i
          · rw [if_pos ⟨rfl, e⟩, if_pos (by omega), show k - 55 * j = i by omega]
          · rw [if_neg (fun q => e q.2), hz k]
            by_cases c : 55 * j ≤ k ∧ k < 55 * j + i
            · rw [if_pos c, if_pos (by omega)]
            · rw [if_neg c, if_neg (by omega)]
      refine RN_mono (loop 55 FU 0 S1 (by decide) (by omega) rfl (fun k => by rw [if_neg (by omega)]) (fun _ _ _ => rfl)) (fun r S2 h2 => ⟨h2.1, ?_⟩)
      obtain ⟨-, x1, x2, x3⟩ := h2
      have o : ∀ a k, a ≠ 186 → (a = 185 → k ≠ j) → S2.1 a k = S.1 a k := fun a k h1 h2 => (x3 a k h1).trans (fr a k h2)
      refine ⟨KM_set2 h.k (by rw [x1, fe]) (o _ _ (by decide) (fun q => absurd q (by decide))) (fun a i h1 h2 => o _ _ (by omega) (by omega)), fun k hk => (o _ _ (by decide) (fun q => absurd q (by decide))).trans (h.now hk), HM_set h.hst (o _ _ (by decide) (fun q => absurd q (by decide))) (fun i => o _ _ (by decide) (fun q => absurd q (by decide))), fun i hi => ?_, RTm_set h.tld (o _ _ (by decide) (fun q => absurd q (by decide))) (fun a i h1 h2 => o _ _ (by omega) (by omega)), RPm_set h.tap (o _ _ (by decide) (fun q => absurd q (by decide))) (fun i => o _ _ (by decide) (fun q => absurd q (by decide))), (o _ _ (by decide) (fun q => absurd q (by decide))).trans h.pl, fun k hk => (by rw [x1, fe]; exact h.ky k hk), wfG_h (wfG_le h.wf (by omega)) hj⟩
      show S2.1 185 i = (if (gLm g ||| 1 <<< j).testBit i then 1 else 0) ∧ ((gLm g ||| 1 <<< j).testBit i = true → ∀ k, k < 55 → S2.1 186 (55 * i + k) = menc (lkF (gLf g) j (gS g) i) k)
      rw [tb_or]
      unfold lkF
      by_cases c : i = j
      · subst c
        refine ⟨by rw [x3 _ _ (by decide), f1]; simp, fun _ k hk => ?_⟩
        rw [x2, if_pos (by omega), if_pos rfl, show 55 * i + k - 55 * i = k by omega, fr _ _ (fun q => absurd q (by decide))]
        exact h.now hk
      · have cj : ¬ j = i := fun q => c q.symm
        refine ⟨by rw [o _ _ (by decide) (fun _ => c), (h.slt i hi).1]; simp [cj], fun ht k hk => ?_⟩
        have ht2 : (gLm g).testBit i = true := by simpa [cj] using ht
        rw [x2, if_neg (by omega), if_neg c, fr _ _ (fun q => absurd q (by decide))]
        exact (h.slt i hi).2 ht2 k hk
theorem bit3 : ∀ o : Nat, o < 8 → ∀ p : Nat, p < 3 → (((nI o >>> (nI p &&& 31)) &&& (1 : Int32)) = 0 ↔ ¬ o.testBit p = true) := by decide
theorem g_restore (v : Int32) : PG B lv T g (f_X9_restore 0 v) (f_X10_restore 140 v) := by
  cases hv : idx 3 v with
  | none =>
    refine PG_same (r := 0) (fun S h => ?_) (fun S h => ?_)
    · unfold f_X9_restore
      rw [show f_X9_isWithin v 0 2 S = _ from cin_eq 2 (by decide), bdq, hv, is1_n, if_pos rfl]
    · unfold f_X10_restore
      rw [show f_X10_in v 0 2 S = _ from min_eq 2 (by decide), bdq, hv, is1_n, if_pos rfl]
  | some j =>
    obtain ⟨rfl, hj⟩ := idx_some (by decide) hv
    by_cases c : (gLm g).testBit j = true
    · have hw : ∀ {T0 : Nat}, wfG T0 g → wfG (T0 + 60) (gB g, gLf g j, (0, gHf g), (gLm g, gLf g), (gTn g, gTd g), (gPl g, gPt g), gPc g) := fun {T0} h => ⟨h.1, wfM_le (h.2.2.2.2 j hj c) (by omega), ⟨Nat.zero_le _, fun i hi => absurd hi (Nat.not_lt_zero _)⟩, h.2.2.2.1, fun i hi ht => wfM_le (h.2.2.2.2 i hi ht) (by omega)⟩
      refine ⟨1, (gB g, gLf g j, (0, gHf g), (gLm g, gLf g), (gTn g, gTd g), (gPl g, gPt g), gPc g), B, lv, fun q => q, fun S h => ?_, fun S h => ?_⟩
      · have hB := h.hB
        obtain ⟨q1, q2⟩ := rc_123 h.rfc hj
        obtain ⟨nx, n1, n2, n3, n4⟩ := h.hst
        unfold f_X9_restore
        rw [show f_X9_isWithin (nI j) 0 2 S = _ from cin_eq 2 (by decide), bdq, hv, is1_s, if_neg ne10, h.slt.1, if_neg (fun q => (bit3 _ h.wf.2.2.2.1 j hj).mp q c), ix_nI hj (by decide), obq, rc_10 h.rfc, q1, rc_5 h.rfc]
        refine RN_bd (copy_run (a := 35) (b := 124 + 2 * j) (rc_35 h.rfc) (by omega) (by omega) (by omega) (by omega) (h.slt.2 j hj c)) (fun _ S1 h1 => ?_)
        obtain ⟨x1, x2, x3, x4⟩ := h1
        have r1 : RFC B S1.2.2 := by rw [x1]; exact h.rfc
        unfold f_X1_clearAll
        rw [rc_9 r1, nmq, bdq]
        refine RN_some ⟨rfl, RC_s h (by rw [sI_2, x1]) (fun a i ho h1 h2 h3 => ?_) (RS_set x4 (fun k => sI_ne (by omega)) (fun k => sI_ne (by omega))) ⟨nx, n1, ?_, sI_at, fun i hi => absurd hi (Nat.not_lt_zero _)⟩ (hw h.wf)⟩
        · rw [sI_ne (by omega), x2 a i (by omega) (by omega)]
        · rw [sI_ne (Or.inr (by decide)), x2 _ _ (by decide) (by decide)]; exact n2
      · unfold f_X10_restore
        rw [show f_X10_in (nI j) 0 2 S = _ from min_eq 2 (by decide), bdq, hv, is1_s, if_neg ne10, ix_nI hj (by decide), obq, rq_69 h.rfm, (h.slt j hj).1, if_pos c, if_neg ne10]
        have loop : ∀ (m fu i : Nat) (S2 : St), m < fu → i + m = 55 → S2.2 = S.2 → (∀ k, k < i → S2.1 174 k = menc (gLf g j) k) → (∀ a k, a ≠ 174 → S2.1 a k = S.1 a k) → RN (b_X10_restore_22 fu 140 (nI j) (nI i) S2) (fun r S' => r = 1 ∧ S'.2 = S.2 ∧ (∀ k, k < 55 → S'.1 174 k = menc (gLf g j) k) ∧ S'.1 140 61 = 0 ∧ ∀ a k, a ≠ 174 → (a = 140 → k ≠ 61) → S'.1 a k = S.1 a k) := by
          intro m
          induction m with
          | zero =>
            intro fu i S2 hf hi h2 hz hs
            obtain ⟨fu, rfl⟩ : ∃ f, fu = f + 1 := ⟨fu - 1, by omega⟩
            have hi : i = 55 := by omega
            subst hi
            rw [b_X10_restore_22, if_pos (show (55 : Int32) ≤ nI 55 by decide), nmq]
            exact RN_some ⟨rfl, h2, fun k hk => (sI_ne (Or.inl (by decide))).trans (hz k hk), sI_at, fun a k h1 h2 => (sI_ne (by omega)).trans (hs a k h1)⟩
          | succ m ih =>
            intro fu i S2 hf hi h2 hz hs
            obtain ⟨fu, rfl⟩ : ∃ f, fu = f + 1 := ⟨fu - 1, by omega⟩
            have hr2 : RFM S2.2.2 := by rw [h2]; exact h.rfm
            rw [b_X10_restore_22, if_neg (show ¬ (55 : Int32) ≤ nI i from nle_l (a := 55) (by omega) (by omega) (by omega)), ix55h (show 55 * j + i < 165 by omega) (by decide), obq, ix_nI (show i < 55 by omega) (by decide), obq, nmq, nmq, nI_1, rq_70 hr2, rq_51 hr2, hs 186 _ (by decide), (h.slt j hj).2 c i (by omega)]
            refine ih fu (i + 1) _ (by omega) (by omega) h2 (fun k hk => ?_) (fun a k ha => (sI_ne (Or.inl ha)).trans (hs a k ha))
            rw [sI_1]
            by_cases e : k = i
            · rw [if_pos ⟨rfl, e⟩, e]
            · rw [if_neg (fun q => e q.2)]
              exact hz k (by omega)
        refine RN_mono (loop 55 FU 0 S (by decide) (by omega) rfl (fun k hk => absurd hk (Nat.not_lt_zero _)) (fun _ _ _ => rfl)) (fun r S2 h2 => ⟨h2.1, ?_⟩)
        obtain ⟨-, x1, x2, x4, o⟩ := h2
        exact ⟨KM_set2 h.k (by rw [x1]) (o _ _ (by decide) (by decide)) (fun a i h1 h2 => o _ _ (by omega) (by omega)), x2, ⟨x4, fun i hi => absurd hi (Nat.not_lt_zero _)⟩, LM_set h.slt (fun i => o _ _ (by decide) (fun q => absurd q (by decide))) (fun i => o _ _ (by decide) (fun q => absurd q (by decide))), RTm_set h.tld (o _ _ (by decide) (by decide)) (fun a i h1 h2 => o _ _ (by omega) (by omega)), RPm_set h.tap (o _ _ (by decide) (by decide)) (fun i => o _ _ (by decide) (fun q => absurd q (by decide))), (o _ _ (by decide) (by decide)).trans h.pl, fun k hk => (by rw [x1]; exact h.ky k hk), hw h.wf⟩
    · refine PG_same (r := 0) (fun S h => ?_) (fun S h => ?_)
      · unfold f_X9_restore
        rw [show f_X9_isWithin (nI j) 0 2 S = _ from cin_eq 2 (by decide), bdq, hv, is1_s, if_neg ne10, h.slt.1, if_pos ((bit3 _ h.wf.2.2.2.1 j hj).mpr c)]
      · unfold f_X10_restore
        rw [show f_X10_in (nI j) 0 2 S = _ from min_eq 2 (by decide), bdq, hv, is1_s, if_neg ne10, ix_nI hj (by decide), obq, rq_69 h.rfm, (h.slt j hj).1, if_neg c, if_pos rfl]
end UPD

/-! the class: a MONTH goes by -/
section CMO
variable {B w a : Nat} {b : Bk} {s : ASea} {S : St} {sd : Option Int32}
theorem GO.trEA {S S' S'' : St} (h : GO B w a S S') (h' : EA a S' S'') : GO B w a S S'' := h.tr h'.go
theorem RS_row {p : Nat} {v : Int32} (h : RS a s S) : RS a ((fun k => if k = p then v else aR s k), s.2) (sI S (a + 1) p v) := by
  refine ⟨fun k hk => ?_, (sI_ne (by omega)).trans h.2.1, (sI_ne (by omega)).trans h.2.2.1, (sI_ne (by omega)).trans h.2.2.2.1, (sI_ne (by omega)).trans h.2.2.2.2⟩
  rw [sI_1]
  show _ = if k = p then v else aR s k
  by_cases e : k = p
  · rw [if_pos ⟨rfl, e⟩, if_pos e]
  · rw [if_neg (fun q => e q.2), if_neg e]
    exact h.1 k hk
theorem RS_off {o : Nat} (h : RS a s S) : RS a (s.1, s.2.1, o, s.2.2.2) (sI S a 2 (nI o)) := ⟨fun k hk => (sI_ne (by omega)).trans (h.1 k hk), (sI_ne (by omega)).trans h.2.1, sI_at, (sI_ne (by omega)).trans h.2.2.2.1, (sI_ne (by omega)).trans h.2.2.2.2⟩
theorem RS_ext {s' : ASea} (h : RS a s S) (h1 : ∀ k, k < 36 → aR s' k = aR s k) (h2 : s'.2 = s.2) : RS a s' S := by
  refine ⟨fun k hk => (h.1 k hk).trans (h1 k hk).symm, ?_, ?_, ?_, ?_⟩
  · show _ = nI s'.2.1; rw [h2]; exact h.2.1
  · show _ = nI s'.2.2.1; rw [h2]; exact h.2.2.1
  · show _ = nI s'.2.2.2.1; rw [h2]; exact h.2.2.2.1
  · show _ = nI s'.2.2.2.2; rw [h2]; exact h.2.2.2.2
def sdB (b : Bk) (sd : Option Int32) (s : ASea) (p : Nat) : Bool := match sd with | none => false | some d => drownA b s p d
theorem gop_run {q3 : Nat → Int32 → Int32 → Int32 → St → Option (Unit × St)} {v2 v3 s0 : Int32} (h : CW B w a b s S) {p : Nat} (hp : p < bP b) (ho : (aO s).testBit p = false) (hs0 : s0 = if sdB b sd s p then 1 else 0) : ∃ S', b_X8_goMonth_70 q3 w v2 v3 (nI p) (pX s p) (pY s p) s0 S = q3 w v2 v3 (nI (p + 1)) S' ∧ CW B w a b (goP b sd s p) S' ∧ GO B w a S S' := by
  have hp6 : p < 6 := Nat.lt_of_lt_of_le hp h.wb.p6
  obtain ⟨_, S1, e1, g1, w1⟩ := feel_run h hp (pX s p) (pY s p)
  have h1 := CW_w h w1
  obtain ⟨r2, S2, e2, rfl, w2⟩ := stands_run h1 hp (pX s p) (pY s p)
  have h2 := CW_v h1 w2
  have f2 : S2.1 w 2 = (feelA b s p (pX s p) (pY s p)).1 := (w2.felt h1).trans (congrArg Prod.fst g1)
  have f3 : S2.1 w 3 = (feelA b s p (pX s p) (pY s p)).2 := (w2.felt h1).trans (congrArg Prod.snd g1)
  have hG2 : GO B w a S S2 := (w1.tr w2.ew).go
  unfold b_X8_goMonth_70
  rw [e1, bdq, e2, bdq, f3, gone_eq, bdq, f2, gone_eq, bdq, ix16 hp h.wb, obq, nmq, ix22 hp h.wb, obq, nmq]
  simp only [sI_2, h2.r1, h2.ra, h2.r0]
  rw [show goneI (pX s p) (feelA b s p (pX s p) (pY s p)).1 (standsA b s p (pX s p) (pY s p)) = gX b s p from rfl, show goneI (pY s p) (feelA b s p (pX s p) (pY s p)).2 (standsA b s p (pX s p) (pY s p)) = gY b s p from rfl]
  have hB3 : B ≠ a + 1 := by have := h.hB; have := h.hw; omega
  rw [sI_ne (Or.inl hB3), sI_ne (Or.inl hB3), h2.pier]
  have hwf := goP_wfS (b := b) (sd := sd) h.ws hp6
  have hwp := goP_wfP (sd := sd) h.wb h.wp hp
  have rs3 : RS a ((fun k => if k = 22 + p then gY b s p else if k = 16 + p then gX b s p else aR s k), s.2) (sI (sI S2 (a + 1) (16 + p) (gX b s p)) (a + 1) (22 + p) (gY b s p)) := RS_row (RS_row h2.rs)
  have ea3 : EA a S2 (sI (sI S2 (a + 1) (16 + p) (gX b s p)) (a + 1) (22 + p) (gY b s p)) := EA_row.tr EA_row
  have fin0 : gO b sd s p = false → ∃ S', b_X8_goMonth_179 q3 w v2 v3 (nI p) (sI (sI S2 (a + 1) (16 + p) (gX b s p)) (a + 1) (22 + p) (gY b s p)) = q3 w v2 v3 (nI (p + 1)) S' ∧ CW B w a b (goP b sd s p) S' ∧ GO B w a S S' := by
    intro hg
    rw [b_X8_goMonth_179, nmq, nI_1]
    refine ⟨_, rfl, CW_a h2 ea3 ?_ hwf hwp, hG2.trEA ea3⟩
    unfold goP
    rw [if_neg (by rw [ho]; decide), hg]
    exact rs3
  have fin1 : gO b sd s p = true → ∃ S', b_X8_goMonth_163 q3 w v2 v3 (nI p) (sI (sI S2 (a + 1) (16 + p) (gX b s p)) (a + 1) (22 + p) (gY b s p)) = q3 w v2 v3 (nI (p + 1)) S' ∧ CW B w a b (goP b sd s p) S' ∧ GO B w a S S' := by
    intro hg
    rw [b_X8_goMonth_163, nmq, b_X8_goMonth_179, nmq, nI_1]
    simp only [sI_2, h2.r1]
    rw [rs3.2.2.1, orI (aO s) (by have := h.ws.2.1; omega) p (by omega)]
    have ea4 := ea3.tr (EA_fld (i := 2) (v := nI (aO s ||| 1 <<< p)) (by decide) (by decide))
    refine ⟨_, rfl, CW_a h2 ea4 ?_ hwf hwp, hG2.trEA ea4⟩
    unfold goP
    rw [if_neg (by rw [ho]; decide), hg]
    exact RS_off rs3
  have hgo : gO b sd s p = (sdB b sd s p || !decide (gY b s p ≤ nI (bPier b))) := rfl
  by_cases hd : sdB b sd s p = true
  · rw [hs0, if_pos hd, if_neg (by decide)]
    exact fin1 (by rw [hgo, hd]; rfl)
  · rw [hs0, if_neg hd, if_pos rfl]
    by_cases hy : gY b s p ≤ nI (bPier b)
    · rw [if_pos hy]
      exact fin0 (by rw [hgo]; simp [hd, hy])
    · rw [if_neg hy]
      exact fin1 (by rw [hgo]; simp [hy])
theorem swimc_loop {s0 : ASea} (hb : wfB b) (hS : wfS s0) (hM : aM s0 + 1 ≤ 40000) (hP : wfP (bM b) (bP b) (bS b) s0) : ∀ (m fu i : Nat) (S : St), m < fu → i + m = bM b → CW B w a b (swimAll s0 i) S → RN (b_X8_goMonth_188 fu w (nI i) S) (fun _ S' => CW B w a b ((swimAll s0 (bM b)).1, aM s0 + 1, (swimAll s0 (bM b)).2.2) S' ∧ EA a S S') := by
  have h4 := hb.m4
  intro m
  induction m with
  | zero =>
    intro fu i S hf hi h
    obtain ⟨fu, rfl⟩ : ∃ f, fu = f + 1 := ⟨fu - 1, by omega⟩
    have hi : i = bM b := by omega
    subst hi
    rw [b_X8_goMonth_188, h.r0, h.nM, if_pos (le_l (by omega) (by omega) (Nat.le_refl _)), nmq, h.r1, h.rs.2.1]
    have hm : aM (swimAll s0 (bM b)) = aM s0 := by show (swimAll s0 (bM b)).2.1 = s0.2.1; rw [swimAll_2]
    have ea := EA_fld (a := a) (S := S) (i := 1) (v := nI (aM s0 + 1)) (by decide) (by decide)
    obtain ⟨w1, w2⟩ := swimAll_wf hb hS hP (bM b) (Nat.le_refl _)
    rw [hm, nI_1]
    refine RN_some ⟨CW_a h ea ?_ ⟨hM, w1.2⟩ w2, ea⟩
    exact ⟨fun k hk => (sI_ne (by omega)).trans (h.rs.1 k hk), sI_at, (sI_ne (by omega)).trans h.rs.2.2.1, (sI_ne (by omega)).trans h.rs.2.2.2.1, (sI_ne (by omega)).trans h.rs.2.2.2.2⟩
  | succ m ih =>
    intro fu i S hf hi h
    obtain ⟨fu, rfl⟩ : ∃ f, fu = f + 1 := ⟨fu - 1, by omega⟩
    rw [b_X8_goMonth_188, h.r0, h.nM, if_neg (nle_l (by omega) (by omega) (by omega)), h.r1]
    refine RN_bd (swim_run h.ra h.rs h.ws (by omega)) (fun _ S1 h1 => ?_)
    obtain ⟨g1, g2, g3⟩ := h1
    have ea : EA a S S1 := ⟨g1, fun c k _ hc => g2 c k hc⟩
    obtain ⟨w1, w2⟩ := swimAll_wf hb hS hP (i + 1) (by omega)
    rw [nmq, nI_1]
    exact RN_mono (ih fu (i + 1) S1 (by omega) (by omega) (CW_a h ea g3 w1 w2)) (fun _ S' hh => ⟨hh.1, ea.tr hh.2⟩)
def sdOf (b : Bk) (v3 : Int32) : Option Int32 := if v3 = 0 then none else some (nI (bSeed b))
theorem drF1 {p : Nat} : drF b s p 1 0 0 = if drownA b s p (nI (bSeed b)) then 1 else 0 := by
  show (if drownA b s p (nI (bSeed b + 0)) then 0 ||| 1 <<< 0 else 0) = _
  rw [Nat.add_zero]
  rfl
theorem goc_loop {s0 : ASea} (hb : wfB b) (hS : wfS s0) (hM : aM s0 + 1 ≤ 40000) (hP : wfP (bM b) (bP b) (bS b) s0) {lo n : Nat} (hn : lo + n ≤ bP b) {v3 : Int32} : ∀ (m fu i : Nat) (S : St), m < fu → i + m = n → CW B w a b (goM b (sdOf b v3) s0 lo i) S → RN (b_X8_goMonth_3 fu w (nI (lo + n)) v3 (nI (lo + i)) S) (fun _ S' => CW B w a b (monthA b (sdOf b v3) lo n s0) S' ∧ GO B w a S S') := by
  have h6 := hb.p6
  have h4 := hb.m4
  intro m
  induction m with
  | zero =>
    intro fu i S hf hi h
    obtain ⟨fu, rfl⟩ : ∃ f, fu = f + 1 := ⟨fu - 1, by omega⟩
    have hi : i = n := by omega
    subst hi
    rw [b_X8_goMonth_3, if_pos (le_l (by omega) (by omega) (Nat.le_refl _))]
    obtain ⟨w1, w2⟩ := goM_wf (sd := sdOf b v3) hb hS hP i hn
    have hm : aM (goM b (sdOf b v3) s0 lo i) = aM s0 := goM_M i
    refine RN_mono (swimc_loop hb w1 (by rw [hm]; exact hM) w2 (bM b) FU 0 S (by unfold FU; omega) (by omega) h) (fun _ S' hh => ⟨?_, hh.2.go⟩)
    have h1 := hh.1
    rw [hm] at h1
    exact h1
  | succ m ih =>
    intro fu i S hf hi h
    obtain ⟨fu, rfl⟩ : ∃ f, fu = f + 1 := ⟨fu - 1, by omega⟩
    have hp : lo + i < bP b := by omega
    rw [b_X8_goMonth_3, if_neg (nle_l (by omega) (by omega) (by omega)), h.r1, isOff_eq h.rs h.ws (by omega), bdq]
    by_cases ho : (aO (goM b (sdOf b v3) s0 lo i)).testBit (lo + i) = true
    · rw [if_pos ho, if_neg (by decide), b_X8_goMonth_179, nmq, nI_1]
      refine ih fu (i + 1) S (by omega) (by omega) ?_
      show CW B w a b (goP b (sdOf b v3) (goM b (sdOf b v3) s0 lo i) (lo + i)) S
      unfold goP
      rw [if_pos ho]
      exact h
    · rw [if_neg ho, if_pos rfl, ix16 hp hb, obq, nmq, ix22 hp hb, obq, nmq, h.r1, h.ra, h.rs.row (lt36_16 hp hb), h.rs.row (lt36_22 hp hb)]
      have ho' : (aO (goM b (sdOf b v3) s0 lo i)).testBit (lo + i) = false := by simpa using ho
      by_cases hv : v3 = 0
      · rw [if_pos hv, b_X8_goMonth_69]
        obtain ⟨S1, e1, c1, g1⟩ := gop_run (q3 := b_X8_goMonth_3 fu) (v2 := nI (lo + n)) (v3 := v3) (s0 := 0) (sd := sdOf b v3) h hp ho' (by unfold sdB sdOf; rw [if_pos hv]; rfl)
        unfold pX pY at e1
        rw [e1]
        exact RN_mono (ih fu (i + 1) S1 (by omega) (by omega) c1) (fun _ S' hh => ⟨hh.1, g1.tr hh.2⟩)
      · rw [if_neg hv]
        refine RN_bd (drowns_run (k := 1) h hp (by decide)) (fun r S2 h2 => ?_)
        obtain ⟨hr, hE⟩ := h2
        have hC2 := CW_v h hE
        have hsd : sdOf b v3 = some (nI (bSeed b)) := by unfold sdOf; rw [if_neg hv]
        rw [drF1] at hr
        by_cases hd : drownA b (goM b (sdOf b v3) s0 lo i) (lo + i) (nI (bSeed b)) = true
        · rw [if_pos hd] at hr
          rw [hr, if_neg (by decide)]
          obtain ⟨S1, e1, c1, g1⟩ := gop_run (q3 := b_X8_goMonth_3 fu) (v2 := nI (lo + n)) (v3 := v3) (s0 := 1) (sd := sdOf b v3) hC2 hp ho' (by rw [show sdB b (sdOf b v3) (goM b (sdOf b v3) s0 lo i) (lo + i) = true by rw [hsd] at hd ⊢; exact hd]; rfl)
          unfold pX pY at e1
          rw [e1]
          exact RN_mono (ih fu (i + 1) S1 (by omega) (by omega) c1) (fun _ S' hh => ⟨hh.1, (hE.ew.go.tr g1).tr hh.2⟩)
        · rw [if_neg hd] at hr
          rw [hr, if_pos (by decide), b_X8_goMonth_69]
          obtain ⟨S1, e1, c1, g1⟩ := gop_run (q3 := b_X8_goMonth_3 fu) (v2 := nI (lo + n)) (v3 := v3) (s0 := 0) (sd := sdOf b v3) hC2 hp ho' (by rw [show sdB b (sdOf b v3) (goM b (sdOf b v3) s0 lo i) (lo + i) = false by rw [hsd] at hd ⊢; simpa [sdB] using hd]; rfl)
          unfold pX pY at e1
          rw [e1]
          exact RN_mono (ih fu (i + 1) S1 (by omega) (by omega) c1) (fun _ S' hh => ⟨hh.1, (hE.ew.go.tr g1).tr hh.2⟩)
theorem month_run (h : CW B w a b s S) (hM : aM s + 1 ≤ 40000) {lo n : Nat} (hn : lo + n ≤ bP b) (v3 : Int32) : RN (f_X8_goMonth w (nI lo) (nI (lo + n)) v3 S) (fun _ S' => CW B w a b (monthA b (sdOf b v3) lo n s) S' ∧ GO B w a S S') := by
  have h6 := h.wb.p6
  exact goc_loop h.wb h.ws hM h.wp hn n FU 0 S (by unfold FU; omega) (by omega) h
end CMO

/-! between calls: what a call that only asks stands on -/
def RFC (B : Nat) (f : Nat → Nat → Nat) : Prop := ∃ B1 C, f = RB B B1 C
section RCS
variable {B : Nat} {f : Nat → Nat → Nat}
theorem rc_0 (h : RFC B f) : f 0 0 = 1 := by obtain ⟨B1, C, rfl⟩ := h; exact rb_0_0
theorem rc_2 (h : RFC B f) : f 0 2 = 30 := by obtain ⟨B1, C, rfl⟩ := h; exact rb_0_2
theorem rc_3 (h : RFC B f) : f 0 3 = B := by obtain ⟨B1, C, rfl⟩ := h; exact rb_0_3
theorem rc_5 (h : RFC B f) : f 0 5 = 35 := by obtain ⟨B1, C, rfl⟩ := h; exact rb_0_5
theorem rc_6 (h : RFC B f) : f 0 6 = 37 := by obtain ⟨B1, C, rfl⟩ := h; exact rb_0_6
theorem rc_7 (h : RFC B f) : f 0 7 = 39 := by obtain ⟨B1, C, rfl⟩ := h; exact rb_0_7
theorem rc_8 (h : RFC B f) : f 0 8 = 40 := by obtain ⟨B1, C, rfl⟩ := h; exact rb_0_8
theorem rc_9 (h : RFC B f) : f 0 9 = 41 := by obtain ⟨B1, C, rfl⟩ := h; exact rb_0_9
theorem rc_10 (h : RFC B f) : f 0 10 = 123 := by obtain ⟨B1, C, rfl⟩ := h; exact rb_0_10
theorem rc_12 (h : RFC B f) : f 0 12 = 130 := by obtain ⟨B1, C, rfl⟩ := h; exact rb_0_12
theorem rc_13 (h : RFC B f) : f 0 13 = 133 := by obtain ⟨B1, C, rfl⟩ := h; exact rb_0_13
theorem rc_35 (h : RFC B f) : f 35 0 = 36 := by obtain ⟨B1, C, rfl⟩ := h; exact rb_35_0
theorem rc_37 (h : RFC B f) : f 37 0 = 38 := by obtain ⟨B1, C, rfl⟩ := h; exact rb_37_0
theorem rc_41 (h : RFC B f) : f 41 0 = 42 := by obtain ⟨B1, C, rfl⟩ := h; exact rb_41_0
theorem rc_130 (h : RFC B f) : f 130 0 = 131 := by obtain ⟨B1, C, rfl⟩ := h; exact rb_130_0
theorem rc_131 (h : RFC B f) : f 130 1 = 132 := by obtain ⟨B1, C, rfl⟩ := h; exact rb_130_1
theorem KW_of (hB : B = 2 ∨ B = 16) (h : RFC B f) : KW B 39 35 f ∧ KW B 40 37 f := by
  obtain ⟨B1, C, rfl⟩ := h
  rcases hB with rfl | rfl
  · exact ⟨⟨Or.inl rfl, Or.inl ⟨rfl, rfl⟩, rb_39_0, rb_39_1, rb_35_0, rb_2_7, rb_2_8, rb_2_9, rb_2_10, by decide, rb_8_0, rb_8_1, rb_8_3, rb_8_4, rb_8_5⟩, ⟨Or.inl rfl, Or.inr ⟨rfl, rfl⟩, rb_40_0, rb_40_1, rb_37_0, rb_2_7, rb_2_8, rb_2_9, rb_2_10, by decide, rb_8_0, rb_8_1, rb_8_3, rb_8_4, rb_8_5⟩⟩
  · exact ⟨⟨Or.inr rfl, Or.inl ⟨rfl, rfl⟩, rb_39_0, rb_39_1, rb_35_0, rb_16_7, rb_16_8, rb_16_9, rb_16_10, by decide, rb_22_0, rb_22_1, rb_22_3, rb_22_4, rb_22_5⟩, ⟨Or.inr rfl, Or.inr ⟨rfl, rfl⟩, rb_40_0, rb_40_1, rb_37_0, rb_16_7, rb_16_8, rb_16_9, rb_16_10, by decide, rb_22_0, rb_22_1, rb_22_3, rb_22_4, rb_22_5⟩⟩
theorem RFM_of (h : RFC B f) : RFM f := by
  obtain ⟨B1, C, rfl⟩ := h
  exact ⟨B, B1, C, rfl⟩
end RCS
/-- nobody beyond those who are told is off, dead or cut -/
def wfO (b : Bk) (s : ASea) : Prop := (∀ i, bP b ≤ i → (aO s).testBit i = false) ∧ (∀ i, bM b ≤ i → (aD s).testBit i = false) ∧ ∀ i, bS b ≤ i → (aC s).testBit i = false
/-- a Sea that may be -/
def wfA (b : Bk) (s : ASea) : Prop := aM s ≤ 31000 ∧ wfS s ∧ wfP (bM b) (bP b) (bS b) s ∧ wfO b s
def QC (B : Nat) (b : Bk) (s : ASea) (S : St) : Prop := RFC B S.2.2 ∧ CW B 39 35 b s S ∧ wfA b s
def QM (lv : Nat) (b : Bk) (s : ASea) (S : St) : Prop := KM lv b S ∧ (∀ k, k < 55 → S.1 174 k = menc s k) ∧ wfB b ∧ wfA b s
/-- a class's call that only asks changes no more than this -/
def CQ (B : Nat) (S S' : St) : Prop := S'.2 = S.2 ∧ ∀ a k, a ≠ B + 7 → a ≠ B + 11 → (a = B + 6 → k ≠ 6) → (a = 39 → k < 2) → (a = 40 → k < 2) → (a = 37 → k = 0 ∨ 5 ≤ k) → a ≠ 38 → (a < 130 ∨ 132 < a) → S'.1 a k = S.1 a k
def QF (S S' : St) : Prop := S'.2 = S.2 ∧ ∀ a k, a ≠ 172 → a ≠ 173 → a ≠ 175 → (a < 176 ∨ 179 < a) → (a = 140 → k ≠ 50 ∧ k ≠ 53 ∧ k ≠ 54 ∧ k ≠ 55 ∧ k ≠ 56 ∧ k ≠ 63) → S'.1 a k = S.1 a k
section QRY
variable {B lv : Nat} {b : Bk} {s : ASea} {S S' S'' : St}
theorem CQ.rf : CQ B S S := ⟨rfl, fun _ _ _ _ _ _ _ _ _ _ => rfl⟩
theorem CQ.tr (h : CQ B S S') (h' : CQ B S' S'') : CQ B S S'' := ⟨h'.1.trans h.1, fun a k h1 h2 h3 h4 h5 h6 h7 h8 => (h'.2 a k h1 h2 h3 h4 h5 h6 h7 h8).trans (h.2 a k h1 h2 h3 h4 h5 h6 h7 h8)⟩
theorem QF.rf : QF S S := ⟨rfl, fun _ _ _ _ _ _ _ => rfl⟩
theorem QF.tr (h : QF S S') (h' : QF S' S'') : QF S S'' := ⟨h'.1.trans h.1, fun a k h1 h2 h3 h4 h5 => (h'.2 a k h1 h2 h3 h4 h5).trans (h.2 a k h1 h2 h3 h4 h5)⟩
theorem EV.cq (h : EV B S S') : CQ B S S' := ⟨h.1, fun a k h1 h2 h3 _ _ _ _ _ => h.2 a k h1 h2 h3⟩
theorem EW.cq9 (h : EW B 39 S S') : CQ B S S' := ⟨h.1, fun a k h1 h2 h3 h4 _ _ _ _ => h.2 a k h1 h2 h3 h4⟩
theorem EW.cq0 (h : EW B 40 S S') : CQ B S S' := ⟨h.1, fun a k h1 h2 h3 _ h4 _ _ _ => h.2 a k h1 h2 h3 h4⟩
theorem GO.cq (h : GO B 40 37 S S') : CQ B S S' := ⟨h.1, fun a k h1 h2 h3 _ h4 h5 h6 _ => h.2 a k h1 h2 h3 h4 h5 h6⟩
theorem EA.cq (h : EA 37 S S') : CQ B S S' := (h.go (B := B) (w := 40)).cq
theorem MG.mq (h : MG S S') : QF S S' := ⟨h.1, fun a k h1 h2 h3 h4 h5 => h.2 a k h1 h2 h3 h4 (fun q => ⟨(h5 q).1, (h5 q).2.2.2.1, (h5 q).2.2.2.2.1⟩)⟩
theorem MW.mq (h : MW S S') : QF S S' := h.mg.mq
theorem MV.mq (h : MV S S') : QF S S' := h.mw.mq
theorem CQ.ec (hB : B = 2 ∨ B = 16) (h : CQ B S S') : EC B S S' := ⟨by rw [h.1], fun a i o => by unfold obs at o; exact h.2 a i (by omega) (by omega) (by omega) (by omega) (by omega) (by omega) (by omega) (by omega)⟩
theorem QF.em (h : QF S S') : EM S S' := ⟨by rw [h.1], fun a i o => by unfold obm at o; exact h.2 a i (by omega) (by omega) (by omega) (by omega) (by omega), fun i => by rw [h.1]⟩
theorem QC.rf (h : QC B b s S) : RFC B S.2.2 := h.1
theorem QC.w (h : QC B b s S) : CW B 39 35 b s S := h.2.1
theorem QC.wa (h : QC B b s S) : wfA b s := h.2.2
theorem QC.hB (h : QC B b s S) : B = 2 ∨ B = 16 := h.w.hB
theorem QC.wb (h : QC B b s S) : wfB b := h.w.wb
theorem QC_q (h : QC B b s S) (hE : CQ B S S') : QC B b s S' := by
  have hB := h.hB
  exact ⟨by rw [hE.1]; exact h.rf, ⟨by rw [hE.1]; exact h.w.1, CBk_set h.w.2.1 (fun i => hE.2 _ _ (by omega) (by omega) (by omega) (by omega) (by omega) (by omega) (by omega) (by omega)) (fun c i hc => hE.2 _ _ (by omega) (by omega) (by omega) (by omega) (by omega) (by omega) (by omega) (by omega)), RS_set h.w.rs (fun i => hE.2 _ _ (by omega) (by omega) (by omega) (by omega) (by omega) (by omega) (by omega) (by omega)) (fun i => hE.2 _ _ (by omega) (by omega) (by omega) (by omega) (by omega) (by omega) (by omega) (by omega)), h.wb, h.w.ws, h.w.wp⟩, h.wa⟩
theorem QM.k (h : QM lv b s S) : KM lv b S := h.1
theorem QM.rf (h : QM lv b s S) : RFM S.2.2 := h.1.1
theorem QM.now (h : QM lv b s S) {k : Nat} (hk : k < 55) : S.1 174 k = menc s k := h.2.1 k hk
theorem QM.wb (h : QM lv b s S) : wfB b := h.2.2.1
theorem QM.wa (h : QM lv b s S) : wfA b s := h.2.2.2
theorem QM_q (h : QM lv b s S) (hE : QF S S') : QM lv b s S' := ⟨KM_set h.1 hE.1 (hE.2 _ _ (by decide) (by decide) (by decide) (by decide) (by decide)) (fun a i h1 h2 => hE.2 a i (by omega) (by omega) (by omega) (by omega) (by omega)), fun k hk => (hE.2 _ _ (by decide) (by decide) (by decide) (by decide) (fun q => absurd q (by decide))).trans (h.now hk), h.wb, h.wa⟩
/-- one of so many -/
def idx (n : Nat) (v : Int32) : Option Nat := if 0 ≤ v ∧ v < nI n then some v.toInt.toNat else none
theorem idx_some {n : Nat} (hn : n < 2 ^ 31) {v : Int32} {j : Nat} (h : idx n v = some j) : v = nI j ∧ j < n := by
  unfold idx at h
  by_cases c : 0 ≤ v ∧ v < nI n
  · rw [if_pos c] at h
    obtain ⟨c1, c2⟩ := c
    rw [i32_le] at c1
    rw [i32_lt, nI_toInt hn] at c2
    have z : (0 : Int32).toInt = 0 := rfl
    have hj : v.toInt.toNat = j := by injection h
    refine ⟨?_, by omega⟩
    rw [i32_eq, nI_toInt (by omega)]
    omega
  · rw [if_neg c] at h
    cases h
theorem idx_nI {n j : Nat} (hn : n < 2 ^ 31) (h : j < n) : idx n (nI j) = some j := by
  unfold idx
  rw [if_pos ⟨(nI_leI (a := 0) (by omega) (by omega)).mpr (Nat.zero_le _), (nI_ltI (by omega) hn).mpr h⟩, nI_nat (by omega)]
def is1 (o : Option Nat) : Int32 := if o.isSome then 1 else 0
theorem is1_n : is1 none = 0 := rfl
theorem is1_s {j : Nat} : is1 (some j) = 1 := rfl
theorem cidx {n : Nat} (hn : n < 2 ^ 31) {v : Int32} {α : Type} {x y : α} : (if v < 0 then x else if nI n ≤ v then x else y) = if is1 (idx n v) = 0 then x else y := by
  have z : (0 : Int32).toInt = 0 := rfl
  unfold idx
  by_cases c : 0 ≤ v ∧ v < nI n
  · rw [if_neg (i32_nlt.mpr c.1), if_neg (i32_nle.mpr c.2), if_pos c, is1_s, if_neg (show ¬ (1 : Int32) = 0 by decide)]
  · rw [if_neg c, is1_n, if_pos (show (0 : Int32) = 0 from rfl)]
    by_cases c1 : v < 0
    · rw [if_pos c1]
    · rw [if_neg c1, if_pos (i32_nlt.mp (fun q => c ⟨i32_nlt.mp c1, q⟩))]
theorem cM_eq (h : QC B b s S) {v : Int32} : f_X9_isMermaid 0 v S = some (is1 (idx (bM b) v), S) := by
  have h4 := h.wb.m4
  unfold f_X9_isMermaid
  rw [rc_3 h.rf, h.w.nM, cidx (by omega)]
  unfold is1
  cases idx (bM b) v <;> rfl
theorem cP_eq (h : QC B b s S) {v : Int32} : f_X9_isPerson 0 v S = some (is1 (idx (bP b) v), S) := by
  have h4 := h.wb.p6
  unfold f_X9_isPerson
  rw [rc_3 h.rf, h.w.nP, cidx (by omega)]
  unfold is1
  cases idx (bP b) v <;> rfl
theorem cS_eq (h : QC B b s S) {v : Int32} : f_X9_isStrand 0 v S = some (is1 (idx (bS b) v), S) := by
  have h4 := h.wb.s8
  unfold f_X9_isStrand
  rw [rc_3 h.rf, h.w.nS, cidx (by omega)]
  unfold is1
  cases idx (bS b) v <;> rfl
theorem midx {n : Nat} (hn : n ≤ 5000) {v : Int32} : (if 0 ≤ v ∧ v ≤ nI n - 1 then (1 : Int32) else 0) = is1 (idx n v) := by
  have z : (0 : Int32).toInt = 0 := rfl
  have e1 : (nI n - 1).toInt = (n : Int) - 1 := sub_toInt (b := 1) (by omega) (by decide)
  have e2 : (nI n).toInt = n := nI_toInt (by omega)
  unfold idx is1
  simp only [i32_le, i32_lt, e1, e2, z]
  by_cases c : 0 ≤ v.toInt ∧ v.toInt < n
  · rw [if_pos (by omega), if_pos c]; rfl
  · rw [if_neg (by omega), if_neg c]; rfl
theorem gb_is1 {o : Option Nat} : gb (is1 o) = some (is1 o) := by cases o <;> rfl
theorem mM_eq (h : QM lv b s S) {v : Int32} : f_X10_isMermaid 140 v S = some (is1 (idx (bM b) v), S) := by
  have h4 := h.wb.m4
  unfold f_X10_isMermaid
  rw [h.k.ixl, obq, rq_23 h.rf, h.k.nM, in_eq, bdq, midx (by omega), gb_is1, obq]
theorem mP_eq (h : QM lv b s S) {v : Int32} : f_X10_isPerson 140 v S = some (is1 (idx (bP b) v), S) := by
  have h4 := h.wb.p6
  unfold f_X10_isPerson
  rw [h.k.ixl, obq, rq_25 h.rf, h.k.nP, in_eq, bdq, midx (by omega), gb_is1, obq]
theorem mS_eq (h : QM lv b s S) {v : Int32} : f_X10_isStrand 140 v S = some (is1 (idx (bS b) v), S) := by
  have h4 := h.wb.s8
  unfold f_X10_isStrand
  rw [h.k.ixl, obq, rq_29 h.rf, h.k.nS, in_eq, bdq, midx (by omega), gb_is1, obq]
theorem widx {n : Nat} (hn : n ≤ 4000) {v : Int32} : (if 0 ≤ v ∧ v ≤ nI n then (1 : Int32) else 0) = is1 (idx (n + 1) v) := by
  rw [← midx (n := n + 1) (by omega), nI_pred]
theorem cin_eq (n : Nat) (hn : n ≤ 4000) {v : Int32} : f_X9_isWithin v 0 (nI n) S = some (is1 (idx (n + 1) v), S) := by rw [within_eq, widx hn]
theorem min_eq (n : Nat) (hn : n ≤ 4000) {v : Int32} : f_X10_in v 0 (nI n) S = some (is1 (idx (n + 1) v), S) := by rw [in_eq, widx hn]
theorem long_eq {v : Int32} : f_X10_isLong v S = some (is1 (idx 61 v), S) := by
  unfold f_X10_isLong
  rw [show (60 : Int32) = nI 60 from rfl, min_eq 60 (by decide), bdq, gb_is1, obq]
theorem mnear_eq {v : Int32} : f_X10_isNear v S = some (is1 (idx 10 v), S) := by
  unfold f_X10_isNear
  rw [show (9 : Int32) = nI 9 from rfl, min_eq 9 (by decide), bdq, gb_is1, obq]
/-! copies -/
theorem copies_loop (h : QM lv b s S) : ∀ (m fu i : Nat) (S1 : St), m < fu → i + m = 55 → S1.2 = S.2 → (∀ k, k < i → S1.1 175 k = menc s k) → (∀ a k, a ≠ 175 → S1.1 a k = S.1 a k) → RN (b_X10_copies_2 fu 140 (nI i) S1) (fun _ S' => CMx lv b s S' ∧ S'.1 140 53 = nI (bSeed b) ∧ S'.1 140 54 = 0 ∧ QF S S') := by
  intro m
  induction m with
  | zero =>
    intro fu i S1 hf hi h2 hz hs
    obtain ⟨fu, rfl⟩ : ∃ f, fu = f + 1 := ⟨fu - 1, by omega⟩
    have hi : i = 55 := by omega
    subst hi
    have k1 : KM lv b S1 := KM_set h.k h2 (hs _ _ (by decide)) (fun a i h1 h2 => hs a i (by omega))
    rw [b_X10_copies_2, if_pos (show (55 : Int32) ≤ nI 55 by decide), k1.ixl, obq, rq_34 k1.rf, k1.seed, nmq, nmq]
    have hq : QF S (sI (sI S1 140 53 (nI (bSeed b))) 140 54 0) := ⟨h2, fun a k _ _ h3 _ h5 => by rw [sI_ne (by omega), sI_ne (by omega)]; exact hs a k h3⟩
    refine RN_some ⟨⟨(QM_q h hq).k, fun k hk => ?_, h.wb, h.wa.2.1, h.wa.2.2.1⟩, ?_, sI_at, hq⟩
    · rw [sI_ne (Or.inl (by decide)), sI_ne (Or.inl (by decide))]
      exact hz k hk
    · rw [sI_ne (Or.inr (by decide)), sI_at]
  | succ m ih =>
    intro fu i S1 hf hi h2 hz hs
    obtain ⟨fu, rfl⟩ : ∃ f, fu = f + 1 := ⟨fu - 1, by omega⟩
    have hr1 : RFM S1.2.2 := by rw [h2]; exact h.rf
    rw [b_X10_copies_2, if_neg (show ¬ (55 : Int32) ≤ nI i from nle_l (a := 55) (by omega) (by omega) (by omega)), ix_nI (by omega) (by decide), obq, obq, nmq, nmq, nI_1, rq_52 hr1, rq_51 hr1, hs _ _ (by decide), h.now (by omega)]
    refine ih fu (i + 1) _ (by omega) (by omega) h2 (fun k hk => ?_) (fun a k ha => (sI_ne (Or.inl ha)).trans (hs a k ha))
    rw [sI_1]
    by_cases e : k = i
    · rw [if_pos ⟨rfl, e⟩, e]
    · rw [if_neg (fun q => e q.2)]
      exact hz k (by omega)
theorem copies_run (h : QM lv b s S) : RN (f_X10_copies 140 S) (fun _ S' => CMx lv b s S' ∧ S'.1 140 53 = nI (bSeed b) ∧ S'.1 140 54 = 0 ∧ QF S S') := copies_loop h 55 FU 0 S (by decide) (by omega) rfl (fun k hk => absurd hk (Nat.not_lt_zero _)) (fun _ _ _ => rfl)
theorem still_run (h : QM lv b s S) : RN (f_X10_copiesStill 140 S) (fun _ S' => CMx lv b s S' ∧ S'.1 140 53 = nI (bSeed b) ∧ S'.1 140 54 = 1 ∧ QF S S') := by
  unfold f_X10_copiesStill
  refine RN_bd (copies_run h) (fun _ S1 h1 => ?_)
  obtain ⟨c1, c2, c3, c4⟩ := h1
  rw [nmq]
  have hq : QF S1 (sI S1 140 54 1) := ⟨rfl, fun a k _ _ _ _ h5 => sI_ne (by omega)⟩
  exact RN_some ⟨⟨KM_set c1.k rfl (sI_ne (Or.inr (by decide))) (fun a i h1 h2 => sI_ne (Or.inl (by omega))), RW_set c1.row (fun i => sI_ne (Or.inl (by decide))), c1.2.2⟩, (sI_ne (Or.inr (by decide))).trans c2, sI_at, c4.tr hq⟩
/-- the trial Sea comes to be as the Sea is -/
theorem ctrial_run (h : QC B b s S) : RN (f_X5_copyFrom (S.2.2 0 6) (S.2.2 0 5) S) (fun _ S' => CW B 40 37 b s S' ∧ CQ B S S') := by
  have hB := h.hB
  rw [rc_6 h.rf, rc_5 h.rf]
  refine RN_mono (copy_run (a := 37) (b := 35) (rc_37 h.rf) (rc_35 h.rf) (by decide) (by decide) (by decide) h.w.rs) (fun _ S' hh => ?_)
  obtain ⟨g1, g2, g3, g4⟩ := hh
  refine ⟨⟨by rw [g1]; exact (KW_of hB h.rf).2, CBk_set h.w.2.1 (fun i => g2 _ _ (by omega) (by omega)) (fun c i hc => g2 _ _ (by omega) (by omega)), g4, h.wb, h.w.ws, h.w.wp⟩, g1, fun a k _ _ _ _ _ h6 h7 _ => ?_⟩
  by_cases e : a = 37
  · subst e
    exact g3 k (h6 rfl)
  · exact g2 a k e h7
end QRY

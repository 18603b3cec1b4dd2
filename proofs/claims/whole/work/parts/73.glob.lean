/-! what is between calls: the whole of it -/
abbrev TD : Type := Nat → Nat × Nat × Int32 × Int32
abbrev GS : Type := Bk × ASea × (Nat × (Nat → ASea)) × (Nat × (Nat → ASea)) × (Nat × TD) × (Nat × (Nat → Int32)) × Int32
abbrev gB (g : GS) : Bk := g.1
abbrev gS (g : GS) : ASea := g.2.1
abbrev gHl (g : GS) : Nat := g.2.2.1.1
abbrev gHf (g : GS) : Nat → ASea := g.2.2.1.2
abbrev gLm (g : GS) : Nat := g.2.2.2.1.1
abbrev gLf (g : GS) : Nat → ASea := g.2.2.2.1.2
abbrev gTn (g : GS) : Nat := g.2.2.2.2.1.1
abbrev gTd (g : GS) : TD := g.2.2.2.2.1.2
abbrev gPl (g : GS) : Nat := g.2.2.2.2.2.1.1
abbrev gPt (g : GS) : Nat → Int32 := g.2.2.2.2.2.1.2
abbrev gPc (g : GS) : Int32 := g.2.2.2.2.2.2
def wfM (T : Nat) (b : Bk) (s : ASea) : Prop := aM s ≤ T ∧ wfS s ∧ wfP (bM b) (bP b) (bS b) s ∧ wfO b s
def wfG (T : Nat) (g : GS) : Prop := wfB (gB g) ∧ wfM T (gB g) (gS g) ∧ (gHl g ≤ 40 ∧ ∀ i, i < gHl g → wfM T (gB g) (gHf g i)) ∧ gLm g < 8 ∧ ∀ i, i < 3 → (gLm g).testBit i = true → wfM T (gB g) (gLf g i)
/-- the class's History -/
def HC (hl : Nat) (hf : Nat → ASea) (S : St) : Prop := ∃ nx, nx < 40 ∧ S.1 41 1 = nI nx ∧ S.1 41 2 = nI hl ∧ ∀ i, i < hl → RS (43 + 2 * ((nx + 39 - i) % 40)) (hf i) S
def LC (hm : Nat) (hs : Nat → ASea) (S : St) : Prop := S.1 0 11 = nI hm ∧ ∀ i, i < 3 → hm.testBit i = true → RS (124 + 2 * i) (hs i) S
def HM (hl : Nat) (hf : Nat → ASea) (S : St) : Prop := S.1 140 61 = nI hl ∧ ∀ i, i < hl → ∀ k, k < 55 → S.1 180 (55 * (hl - 1 - i) + k) = menc (hf i) k
def LM (hm : Nat) (hs : Nat → ASea) (S : St) : Prop := ∀ i, i < 3 → S.1 185 i = (if hm.testBit i then 1 else 0) ∧ (hm.testBit i = true → ∀ k, k < 55 → S.1 186 (55 * i + k) = menc (hs i) k)
def wordL (k : Nat) : List Nat := [[13, 5, 18, 13, 1, 9, 4], [16, 5, 18, 19, 15, 14], [19, 20, 18, 1, 14, 4], [16, 21, 12, 12], [19, 20, 1, 14, 4, 19], [16, 18, 9, 3, 5], [19, 20, 15, 18, 13], [16, 9, 5, 18], [19, 5, 5, 4], [9, 6], [20, 8, 5, 14], [5, 12, 19, 5], [12, 5, 14, 7, 20, 8], [6, 1, 18], [13, 15, 15, 14], [13, 15, 14, 20, 8], [23, 5, 9, 7, 8, 20], [1, 3, 18, 15, 19, 19], [4, 15, 23, 14], [23, 8, 9, 3, 8], [23, 5, 1, 18, 19]].getD k []
def key27 (l : List Nat) : Nat := l.foldl (fun n c => 27 * n + c) 0
def KY (S : St) : Prop := ∀ k, k < 21 → S.2.1 147 k = Int64.ofNat (key27 (wordL k))
def RC (B T : Nat) (g : GS) (S : St) : Prop := (∃ B1 C, S.2.2 = RB B B1 C ∧ ((B = 2 ∧ B1 = 16) ∨ (B = 16 ∧ B1 = 2))) ∧ CBk B (gB g) S ∧ RS 35 (gS g) S ∧ HC (gHl g) (gHf g) S ∧ LC (gLm g) (gLf g) S ∧ RTc (gTn g) (gTd g) S ∧ RPc (gPl g) (gPt g) S ∧ S.1 30 4 = gPc g ∧ wfG T g
def RM (lv T : Nat) (g : GS) (S : St) : Prop := KM lv (gB g) S ∧ (∀ k, k < 55 → S.1 174 k = menc (gS g) k) ∧ HM (gHl g) (gHf g) S ∧ LM (gLm g) (gLf g) S ∧ RTm (gTn g) (gTd g) S ∧ RPm (gPl g) (gPt g) S ∧ S.1 140 17 = gPc g ∧ KY S ∧ wfG T g
/-- a byte -/
def isB (v : Int32) : Prop := -128 ≤ v ∧ v ≤ 127
def BT (g : GS) : Prop := ∀ i, i < gPl g → isB (gPt g i)
/-- class and reference answer alike, and what is between calls stays alike -/
def PG (B lv T : Nat) (g : GS) (fc fm : St → Option (Int32 × St)) : Prop := ∃ r g' B' lv', (BT g → BT g') ∧ (∀ S, RC B T g S → RN (fc S) (fun r' S' => r' = r ∧ RC B' (T + 60) g' S')) ∧ ∀ S, RM lv T g S → RN (fm S) (fun r' S' => r' = r ∧ RM lv' (T + 60) g' S')
theorem wfM_le {T T' : Nat} {b : Bk} {s : ASea} (h : wfM T b s) (hT : T ≤ T') : wfM T' b s := ⟨Nat.le_trans h.1 hT, h.2⟩
theorem wfM_A {T : Nat} {b : Bk} {s : ASea} (h : wfM T b s) (hT : T ≤ 31000) : wfA b s := ⟨Nat.le_trans h.1 hT, h.2⟩
theorem wfG_le {T T' : Nat} {g : GS} (h : wfG T g) (hT : T ≤ T') : wfG T' g := ⟨h.1, wfM_le h.2.1 hT, ⟨h.2.2.1.1, fun i hi => wfM_le (h.2.2.1.2 i hi) hT⟩, h.2.2.2.1, fun i hi ht => wfM_le (h.2.2.2.2 i hi ht) hT⟩
section GLB
variable {B lv T : Nat} {g : GS} {S S' : St}
theorem RC_le {T' : Nat} (h : RC B T g S) (hT : T ≤ T') : RC B T' g S := ⟨h.1, h.2.1, h.2.2.1, h.2.2.2.1, h.2.2.2.2.1, h.2.2.2.2.2.1, h.2.2.2.2.2.2.1, h.2.2.2.2.2.2.2.1, wfG_le h.2.2.2.2.2.2.2.2 hT⟩
theorem RM_le {T' : Nat} (h : RM lv T g S) (hT : T ≤ T') : RM lv T' g S := ⟨h.1, h.2.1, h.2.2.1, h.2.2.2.1, h.2.2.2.2.1, h.2.2.2.2.2.1, h.2.2.2.2.2.2.1, h.2.2.2.2.2.2.2.1, wfG_le h.2.2.2.2.2.2.2.2 hT⟩
theorem RC.rfc (h : RC B T g S) : RFC B S.2.2 := by obtain ⟨B1, C, e, -⟩ := h.1; exact ⟨B1, C, e⟩
theorem RC.hB (h : RC B T g S) : B = 2 ∨ B = 16 := by obtain ⟨B1, C, -, e⟩ := h.1; omega
theorem RC.bk (h : RC B T g S) : CBk B (gB g) S := h.2.1
theorem RC.sea (h : RC B T g S) : RS 35 (gS g) S := h.2.2.1
theorem RC.hst (h : RC B T g S) : HC (gHl g) (gHf g) S := h.2.2.2.1
theorem RC.slt (h : RC B T g S) : LC (gLm g) (gLf g) S := h.2.2.2.2.1
theorem RC.tld (h : RC B T g S) : RTc (gTn g) (gTd g) S := h.2.2.2.2.2.1
theorem RC.tap (h : RC B T g S) : RPc (gPl g) (gPt g) S := h.2.2.2.2.2.2.1
theorem RC.pl (h : RC B T g S) : S.1 30 4 = gPc g := h.2.2.2.2.2.2.2.1
theorem RC.wf (h : RC B T g S) : wfG T g := h.2.2.2.2.2.2.2.2
theorem RM.k (h : RM lv T g S) : KM lv (gB g) S := h.1
theorem RM.rfm (h : RM lv T g S) : RFM S.2.2 := h.1.1
theorem RM.now (h : RM lv T g S) {k : Nat} (hk : k < 55) : S.1 174 k = menc (gS g) k := h.2.1 k hk
theorem RM.hst (h : RM lv T g S) : HM (gHl g) (gHf g) S := h.2.2.1
theorem RM.slt (h : RM lv T g S) : LM (gLm g) (gLf g) S := h.2.2.2.1
theorem RM.tld (h : RM lv T g S) : RTm (gTn g) (gTd g) S := h.2.2.2.2.1
theorem RM.tap (h : RM lv T g S) : RPm (gPl g) (gPt g) S := h.2.2.2.2.2.1
theorem RM.pl (h : RM lv T g S) : S.1 140 17 = gPc g := h.2.2.2.2.2.2.1
theorem RM.ky (h : RM lv T g S) : KY S := h.2.2.2.2.2.2.2.1
theorem RM.wf (h : RM lv T g S) : wfG T g := h.2.2.2.2.2.2.2.2
theorem RC.qc (h : RC B T g S) (hT : T ≤ 31000) : QC B (gB g) (gS g) S := ⟨h.rfc, ⟨(KW_of h.hB h.rfc).1, h.bk, h.sea, h.wf.1, h.wf.2.1.2.1, h.wf.2.1.2.2.1⟩, wfM_A h.wf.2.1 hT⟩
theorem RM.qm (h : RM lv T g S) (hT : T ≤ 31000) : QM lv (gB g) (gS g) S := ⟨h.k, h.2.1, h.wf.1, wfM_A h.wf.2.1 hT⟩
theorem CBk_obs {b : Bk} (h : CBk B b S) (h0 : ∀ i, i < 5 → S'.1 B i = S.1 B i) (hs : ∀ a i, (B + 3 ≤ a ∧ a ≤ B + 5) ∨ (B + 8 ≤ a ∧ a ≤ B + 10) → S'.1 a i = S.1 a i) : CBk B b S' := by
  obtain ⟨h1, h2, h3, h4, h5, h6, h7, h8⟩ := h
  exact ⟨(h0 _ (by decide)).trans h1, (h0 _ (by decide)).trans h2, (h0 _ (by decide)).trans h3, (h0 _ (by decide)).trans h4, (h0 _ (by decide)).trans h5, fun p hp => (hs _ _ (by omega)).trans (h6 p hp), fun e he => ⟨(hs _ _ (by omega)).trans (h7 e he).1, (hs _ _ (by omega)).trans (h7 e he).2⟩, fun k hk => RLc_set (h8 k hk) (fun _ => hs _ _ (by omega)) (fun _ => hs _ _ (by omega)) (fun _ => hs _ _ (by omega))⟩
theorem HC_set {hl : Nat} {hf : Nat → ASea} (h : HC hl hf S) (h1 : S'.1 41 1 = S.1 41 1) (h2 : S'.1 41 2 = S.1 41 2) (hs : ∀ a i, 43 ≤ a → a ≤ 122 → S'.1 a i = S.1 a i) : HC hl hf S' := by
  obtain ⟨nx, a1, a2, a3, a4⟩ := h
  exact ⟨nx, a1, h1.trans a2, h2.trans a3, fun i hi => RS_set (a4 i hi) (fun k => hs _ _ (by omega) (by omega)) (fun k => hs _ _ (by omega) (by omega))⟩
theorem LC_set {hm : Nat} {hs : Nat → ASea} (h : LC hm hs S) (h1 : S'.1 0 11 = S.1 0 11) (h2 : ∀ a i, 124 ≤ a → a ≤ 129 → S'.1 a i = S.1 a i) : LC hm hs S' := ⟨h1.trans h.1, fun i hi ht => RS_set (h.2 i hi ht) (fun k => h2 _ _ (by omega) (by omega)) (fun k => h2 _ _ (by omega) (by omega))⟩
theorem RTc_set {n : Nat} {td : TD} (h : RTc n td S) (h1 : S'.1 133 4 = S.1 133 4) (h2 : ∀ a i, 134 ≤ a → a ≤ 137 → S'.1 a i = S.1 a i) : RTc n td S' := ⟨h.1, h1.trans h.2.1, fun i hi => by
  obtain ⟨a1, a2, a3, a4, a5⟩ := h.2.2 i hi
  exact ⟨(h2 _ _ (by decide) (by decide)).trans a1, (h2 _ _ (by decide) (by decide)).trans a2, (h2 _ _ (by decide) (by decide)).trans a3, (h2 _ _ (by decide) (by decide)).trans a4, a5⟩⟩
theorem RPc_set {n : Nat} {tp : Nat → Int32} (h : RPc n tp S) (h1 : S'.1 0 1 = S.1 0 1) (h2 : ∀ i, S'.1 1 i = S.1 1 i) : RPc n tp S' := ⟨h.1, h1.trans h.2.1, fun i hi => (h2 i).trans (h.2.2 i hi)⟩
theorem HM_set {hl : Nat} {hf : Nat → ASea} (h : HM hl hf S) (h1 : S'.1 140 61 = S.1 140 61) (hs : ∀ i, S'.1 180 i = S.1 180 i) : HM hl hf S' := ⟨h1.trans h.1, fun i hi k hk => (hs _).trans (h.2 i hi k hk)⟩
theorem LM_set {hm : Nat} {hs : Nat → ASea} (h : LM hm hs S) (h1 : ∀ i, S'.1 185 i = S.1 185 i) (h2 : ∀ i, S'.1 186 i = S.1 186 i) : LM hm hs S' := fun i hi => ⟨(h1 _).trans (h i hi).1, fun ht k hk => (h2 _).trans ((h i hi).2 ht k hk)⟩
theorem RTm_set {n : Nat} {td : TD} (h : RTm n td S) (h1 : S'.1 140 64 = S.1 140 64) (h2 : ∀ a i, 181 ≤ a → a ≤ 183 → S'.1 a i = S.1 a i) : RTm n td S' := ⟨h.1, h1.trans h.2.1, fun i hi => by
  obtain ⟨a1, a2, a3, a5⟩ := h.2.2 i hi
  exact ⟨(h2 _ _ (by decide) (by decide)).trans a1, (h2 _ _ (by decide) (by decide)).trans a2, (h2 _ _ (by decide) (by decide)).trans a3, a5⟩⟩
theorem RPm_set {n : Nat} {tp : Nat → Int32} (h : RPm n tp S) (h1 : S'.1 140 2 = S.1 140 2) (h2 : ∀ i, S'.1 141 i = S.1 141 i) : RPm n tp S' := ⟨h.1, h1.trans h.2.1, fun i hi => (h2 i).trans (h.2.2 i hi)⟩
theorem KM_set2 {b : Bk} (h : KM lv b S) (h2 : S'.2.2 = S.2.2) (h18 : S'.1 140 18 = S.1 140 18) (hs : ∀ a i, 150 ≤ a → a ≤ 170 → S'.1 a i = S.1 a i) : KM lv b S' := by
  obtain ⟨a1, a2, a3, a4, a5, a6, a7, a8, a9, a10, a11⟩ := h
  have q : ∀ a i, 150 ≤ a ∧ a ≤ 170 → S'.1 a i = S.1 a i := fun a i ha => hs a i ha.1 ha.2
  refine ⟨by rw [h2]; exact a1, a2, h18.trans a3, (q _ _ (by decide)).trans a4, (q _ _ (by decide)).trans a5, (q _ _ (by decide)).trans a6, (q _ _ (by decide)).trans a7, (q _ _ (by decide)).trans a8, fun p hp => (q _ _ (by decide)).trans (a9 p hp), fun e he => ⟨(q _ _ (by decide)).trans (a10 e he).1, (q _ _ (by decide)).trans (a10 e he).2⟩, fun k hk => RLm_set (a11 k hk) (fun a i h1 h2 => hs a i (Nat.le_trans (by decide) h1) h2)⟩
/-- only what no call shows is changed -/
theorem RC_e (h : RC B T g S) (hE : EC B S S') : RC B T g S' := by
  have hB := h.hB
  have o : ∀ a i, obs B a i → S'.1 a i = S.1 a i := hE.2
  refine ⟨by rw [hE.1]; exact h.1, CBk_obs h.bk (fun i hi => o _ _ (by unfold obs; omega)) (fun a i ha => o _ _ (by unfold obs; omega)), RS_set h.sea (fun i => o _ _ (by unfold obs; omega)) (fun i => o _ _ (by unfold obs; omega)), HC_set h.hst (o _ _ (by unfold obs; omega)) (o _ _ (by unfold obs; omega)) (fun a i h1 h2 => o _ _ (by unfold obs; omega)), LC_set h.slt (o _ _ (by unfold obs; omega)) (fun a i h1 h2 => o _ _ (by unfold obs; omega)), RTc_set h.tld (o _ _ (by unfold obs; omega)) (fun a i h1 h2 => o _ _ (by unfold obs; omega)), RPc_set h.tap (o _ _ (by unfold obs; omega)) (fun i => o _ _ (by unfold obs; omega)), (o _ _ (by unfold obs; omega)).trans h.pl, h.wf⟩
theorem RM_e (h : RM lv T g S) (hE : EM S S') : RM lv T g S' := by
  have o : ∀ a i, obm a i → S'.1 a i = S.1 a i := hE.2.1
  refine ⟨KM_set2 h.k hE.1 (o _ _ (by unfold obm; omega)) (fun a i h1 h2 => o _ _ (by unfold obm; omega)), fun k hk => (o _ _ (by unfold obm; omega)).trans (h.now hk), HM_set h.hst (o _ _ (by unfold obm; omega)) (fun i => o _ _ (by unfold obm; omega)), LM_set h.slt (fun i => o _ _ (by unfold obm; omega)) (fun i => o _ _ (by unfold obm; omega)), RTm_set h.tld (o _ _ (by unfold obm; omega)) (fun a i h1 h2 => o _ _ (by unfold obm; omega)), RPm_set h.tap (o _ _ (by unfold obm; omega)) (fun i => o _ _ (by unfold obm; omega)), (o _ _ (by unfold obm; omega)).trans h.pl, fun k hk => (hE.2.2 k).trans (h.ky k hk), h.wf⟩
theorem RC_q (h : RC B T g S) (hE : CQ B S S') : RC B T g S' := RC_e h (hE.ec h.hB)
theorem RM_q (h : RM lv T g S) (hE : QF S S') : RM lv T g S' := RM_e h hE.em
theorem PG_q {fc fm : St → Option (Int32 × St)} (hT : T ≤ 31000) (h : PQ B lv (gB g) (gS g) fc fm) : PG B lv T g fc fm := by
  obtain ⟨r, h1, h2⟩ := h
  exact ⟨r, g, B, lv, fun q => q, fun S hS => RN_mono (h1 S (hS.qc hT)) (fun r' S' hh => ⟨hh.1, RC_le (RC_q hS hh.2) (by omega)⟩), fun S hS => RN_mono (h2 S (hS.qm hT)) (fun r' S' hh => ⟨hh.1, RM_le (RM_q hS hh.2) (by omega)⟩)⟩
/-- alike, by each side's own -/
theorem PG_e {fc fm : St → Option (Int32 × St)} {r : Int32} (h1 : ∀ S, RC B T g S → RN (fc S) (fun r' S' => r' = r ∧ EC B S S')) (h2 : ∀ S, RM lv T g S → RN (fm S) (fun r' S' => r' = r ∧ EM S S')) : PG B lv T g fc fm := ⟨r, g, B, lv, fun q => q, fun S hS => RN_mono (h1 S hS) (fun r' S' hh => ⟨hh.1, RC_le (RC_e hS hh.2) (by omega)⟩), fun S hS => RN_mono (h2 S hS) (fun r' S' hh => ⟨hh.1, RM_le (RM_e hS hh.2) (by omega)⟩)⟩
/-! where, surest, holdNext, place -/
theorem g_where (k : Int32) : PG B lv T g (f_X9_where 0 k) (f_X10_where 140 k) := by
  refine PG_e (r := whereA (gTn g) (gTd g) k) (fun S h => ?_) (fun S h => ?_)
  · obtain ⟨B1, C, hr, -⟩ := h.1
    exact c_where hr h.hB h.tld k
  · obtain ⟨B', B1, C, hr⟩ := h.rfm
    rw [m_where hr h.tld]
    exact RN_some ⟨rfl, EM.rf⟩
theorem g_surest (k : Int32) : PG B lv T g (f_X9_surest 0 k) (f_X10_surest 140 k) := by
  refine PG_e (r := surestA (gTn g) (gTd g) k) (fun S h => ?_) (fun S h => ?_)
  · obtain ⟨B1, C, hr, -⟩ := h.1
    exact c_surest hr h.hB h.tld k
  · obtain ⟨B', B1, C, hr⟩ := h.rfm
    rw [m_surest hr h.tld]
    exact RN_some ⟨rfl, EM.rf⟩
theorem g_holdNext (k : Int32) : PG B lv T g (f_X9_holdNext 0 k) (f_X10_holdNext 140 k) := by
  refine PG_e (r := holdNextA (gTn g) (gTd g) k) (fun S h => ?_) (fun S h => ?_)
  · obtain ⟨B1, C, hr, -⟩ := h.1
    exact c_holdNext hr h.hB h.tld k
  · obtain ⟨B', B1, C, hr⟩ := h.rfm
    exact m_holdNext hr h.tld k
theorem g_place : PG B lv T g (f_X9_place 0) (f_X10_place 140) := by
  refine PG_e (r := gPc g) (fun S h => ?_) (fun S h => ?_)
  · unfold f_X9_place
    rw [rc_2 h.rfc, h.pl]
    exact RN_some ⟨rfl, EC.rf⟩
  · unfold f_X10_place
    rw [h.pl]
    exact RN_some ⟨rfl, EM.rf⟩
/-! tell, forget -/
theorem RC_t {n : Nat} {td : TD} (h : RC B T g S) (hE : ECt B S S') (hT : RTc n td S') : RC B T (gB g, gS g, (gHl g, gHf g), (gLm g, gLf g), (n, td), (gPl g, gPt g), gPc g) S' := by
  have hB := h.hB
  have o : ∀ a i, obs B a i → (a = 133 → i ≠ 4) → ¬ (134 ≤ a ∧ a ≤ 137) → S'.1 a i = S.1 a i := hE.2
  refine ⟨by rw [hE.1]; exact h.1, CBk_obs h.bk (fun i hi => o _ _ (by unfold obs; omega) (by omega) (by omega)) (fun a i ha => o _ _ (by unfold obs; omega) (by omega) (by omega)), RS_set h.sea (fun i => o _ _ (by unfold obs; omega) (by omega) (by omega)) (fun i => o _ _ (by unfold obs; omega) (by omega) (by omega)), HC_set h.hst (o _ _ (by unfold obs; omega) (by omega) (by omega)) (o _ _ (by unfold obs; omega) (by omega) (by omega)) (fun a i h1 h2 => o _ _ (by unfold obs; omega) (by omega) (by omega)), LC_set h.slt (o _ _ (by unfold obs; omega) (by omega) (by omega)) (fun a i h1 h2 => o _ _ (by unfold obs; omega) (by omega) (by omega)), hT, RPc_set h.tap (o _ _ (by unfold obs; omega) (by omega) (by omega)) (fun i => o _ _ (by unfold obs; omega) (by omega) (by omega)), (o _ _ (by unfold obs; omega) (by omega) (by omega)).trans h.pl, h.wf⟩
theorem RM_t {n : Nat} {td : TD} (h : RM lv T g S) (hE : EMt S S') (hT : RTm n td S') : RM lv T (gB g, gS g, (gHl g, gHf g), (gLm g, gLf g), (n, td), (gPl g, gPt g), gPc g) S' := by
  have o : ∀ a i, obm a i → (a = 140 → i ≠ 64) → ¬ (181 ≤ a ∧ a ≤ 183) → S'.1 a i = S.1 a i := hE.2
  refine ⟨KM_set2 h.k (by rw [hE.1]) (o _ _ (by unfold obm; omega) (by omega) (by omega)) (fun a i h1 h2 => o _ _ (by unfold obm; omega) (by omega) (by omega)), fun k hk => (o _ _ (by unfold obm; omega) (by omega) (by omega)).trans (h.now hk), HM_set h.hst (o _ _ (by unfold obm; omega) (by omega) (by omega)) (fun i => o _ _ (by unfold obm; omega) (by omega) (by omega)), LM_set h.slt (fun i => o _ _ (by unfold obm; omega) (by omega) (by omega)) (fun i => o _ _ (by unfold obm; omega) (by omega) (by omega)), hT, RPm_set h.tap (o _ _ (by unfold obm; omega) (by omega) (by omega)) (fun i => o _ _ (by unfold obm; omega) (by omega) (by omega)), (o _ _ (by unfold obm; omega) (by omega) (by omega)).trans h.pl, fun k hk => (by rw [hE.1]; exact h.ky k hk), h.wf⟩
theorem g_tell (x y a d : Int32) : PG B lv T g (f_X9_tell 0 x y a d) (f_X10_tell 140 x y a d) := by
  by_cases ok : tellOk (gTn g) x y a d
  · refine ⟨nI (gTn g), (gB g, gS g, (gHl g, gHf g), (gLm g, gLf g), (gTn g + 1, tdAdd (gTd g) (gTn g) x y a d), (gPl g, gPt g), gPc g), B, lv, fun q => q, fun S h => ?_, fun S h => ?_⟩
    · obtain ⟨B1, C, hr, -⟩ := h.1
      refine RN_mono (c_tell hr h.hB h.tld x y a d) (fun r S' hh => ?_)
      rcases hh with ⟨-, h2, h3, h4⟩ | ⟨h1, -⟩
      · exact ⟨h2, RC_le (RC_t h h4 h3) (by omega)⟩
      · exact absurd ok h1
    · obtain ⟨B', B1, C, hr⟩ := h.rfm
      refine RN_mono (m_tell hr h.tld x y a d) (fun r S' hh => ?_)
      rcases hh with ⟨-, h2, h3, h4⟩ | ⟨h1, -⟩
      · exact ⟨h2, RM_le (RM_t h h4 h3) (by omega)⟩
      · exact absurd ok h1
  · refine ⟨-1, g, B, lv, fun q => q, fun S h => ?_, fun S h => ?_⟩
    · obtain ⟨B1, C, hr, -⟩ := h.1
      refine RN_mono (c_tell hr h.hB h.tld x y a d) (fun r S' hh => ?_)
      rcases hh with ⟨h1, -⟩ | ⟨-, h2, rfl⟩
      · exact absurd h1 ok
      · exact ⟨h2, RC_le h (by omega)⟩
    · obtain ⟨B', B1, C, hr⟩ := h.rfm
      refine RN_mono (m_tell hr h.tld x y a d) (fun r S' hh => ?_)
      rcases hh with ⟨h1, -⟩ | ⟨-, h2, rfl⟩
      · exact absurd h1 ok
      · exact ⟨h2, RM_le h (by omega)⟩
theorem g_forget : PG B lv T g (f_X9_forget 0) (f_X10_forget 140) := by
  refine ⟨nI (gTn g), (gB g, gS g, (gHl g, gHf g), (gLm g, gLf g), (0, gTd g), (gPl g, gPt g), gPc g), B, lv, fun q => q, fun S h => ?_, fun S h => ?_⟩
  · obtain ⟨B1, C, hr, -⟩ := h.1
    exact RN_mono (c_forget hr h.hB h.tld) (fun r S' hh => ⟨hh.1, RC_le (RC_t h hh.2.2 hh.2.1) (by omega)⟩)
  · obtain ⟨B', B1, C, hr⟩ := h.rfm
    exact RN_mono (m_forget hr h.tld) (fun r S' hh => ⟨hh.1, RM_le (RM_t h hh.2.2 hh.2.1) (by omega)⟩)
/-! feed, back -/
theorem RC_p {n : Nat} {tp : Nat → Int32} (h : RC B T g S) (hE : ECp B S S') (hT : RPc n tp S') : RC B T (gB g, gS g, (gHl g, gHf g), (gLm g, gLf g), (gTn g, gTd g), (n, tp), gPc g) S' := by
  have hB := h.hB
  have o : ∀ a i, obs B a i → (a = 0 → i ≠ 1) → a ≠ 1 → S'.1 a i = S.1 a i := hE.2
  refine ⟨by rw [hE.1]; exact h.1, CBk_obs h.bk (fun i hi => o _ _ (by unfold obs; omega) (by omega) (by omega)) (fun a i ha => o _ _ (by unfold obs; omega) (by omega) (by omega)), RS_set h.sea (fun i => o _ _ (by unfold obs; omega) (by omega) (by omega)) (fun i => o _ _ (by unfold obs; omega) (by omega) (by omega)), HC_set h.hst (o _ _ (by unfold obs; omega) (by omega) (by omega)) (o _ _ (by unfold obs; omega) (by omega) (by omega)) (fun a i h1 h2 => o _ _ (by unfold obs; omega) (by omega) (by omega)), LC_set h.slt (o _ _ (by unfold obs; omega) (by omega) (by omega)) (fun a i h1 h2 => o _ _ (by unfold obs; omega) (by omega) (by omega)), RTc_set h.tld (o _ _ (by unfold obs; omega) (by omega) (by omega)) (fun a i h1 h2 => o _ _ (by unfold obs; omega) (by omega) (by omega)), hT, (o _ _ (by unfold obs; omega) (by omega) (by omega)).trans h.pl, h.wf⟩
theorem RM_p {n : Nat} {tp : Nat → Int32} (h : RM lv T g S) (hE : EMp S S') (hT : RPm n tp S') : RM lv T (gB g, gS g, (gHl g, gHf g), (gLm g, gLf g), (gTn g, gTd g), (n, tp), gPc g) S' := by
  have o : ∀ a i, obm a i → (a = 140 → i ≠ 2) → a ≠ 141 → S'.1 a i = S.1 a i := hE.2
  refine ⟨KM_set2 h.k (by rw [hE.1]) (o _ _ (by unfold obm; omega) (by omega) (by omega)) (fun a i h1 h2 => o _ _ (by unfold obm; omega) (by omega) (by omega)), fun k hk => (o _ _ (by unfold obm; omega) (by omega) (by omega)).trans (h.now hk), HM_set h.hst (o _ _ (by unfold obm; omega) (by omega) (by omega)) (fun i => o _ _ (by unfold obm; omega) (by omega) (by omega)), LM_set h.slt (fun i => o _ _ (by unfold obm; omega) (by omega) (by omega)) (fun i => o _ _ (by unfold obm; omega) (by omega) (by omega)), RTm_set h.tld (o _ _ (by unfold obm; omega) (by omega) (by omega)) (fun a i h1 h2 => o _ _ (by unfold obm; omega) (by omega) (by omega)), hT, (o _ _ (by unfold obm; omega) (by omega) (by omega)).trans h.pl, fun k hk => (by rw [hE.1]; exact h.ky k hk), h.wf⟩
theorem bt_B {w sh : Int32} : isB (bt w sh) := by
  unfold bt isB
  have h1 := Int8.le_toInt (w >>> (sh &&& 31)).toInt8
  have h2 := Int8.toInt_lt (w >>> (sh &&& 31)).toInt8
  rw [i32_le, i32_le, Int8.toInt_toInt32]
  have a : (-128 : Int32).toInt = -128 := rfl
  have c : (127 : Int32).toInt = 127 := rfl
  omega
theorem tp4_B {tp : Nat → Int32} {len : Nat} {w : Int32} (h : ∀ i, i < len → isB (tp i)) : ∀ i, i < len + 4 → isB (tp4 tp len w i) := fun i hi => by
  unfold tp4 tp1
  by_cases c3 : i = len + 3
  · rw [if_pos c3]; exact bt_B
  · rw [if_neg c3]
    by_cases c2 : i = len + 2
    · rw [if_pos c2]; exact bt_B
    · rw [if_neg c2]
      by_cases c1 : i = len + 1
      · rw [if_pos c1]; exact bt_B
      · rw [if_neg c1]
        by_cases c0 : i = len
        · rw [if_pos c0]; exact bt_B
        · rw [if_neg c0]; exact h i (by omega)
theorem feed5_B {tp : Nat → Int32} {len : Nat} {a b c d e : Int32} (h : ∀ i, i < len → isB (tp i)) : ∀ i, i < len + 20 → isB (feed5 tp len a b c d e i) := tp4_B (len := len + 16) (tp4_B (len := len + 12) (tp4_B (len := len + 8) (tp4_B (len := len + 4) (tp4_B h))))
theorem g_feed (a b c d e : Int32) : PG B lv T g (f_X9_feed 0 a b c d e) (f_X10_feed 140 a b c d e) := by
  by_cases ok : gPl g + 20 ≤ 2000
  · refine ⟨nI (gPl g + 20), (gB g, gS g, (gHl g, gHf g), (gLm g, gLf g), (gTn g, gTd g), (gPl g + 20, feed5 (gPt g) (gPl g) a b c d e), gPc g), B, lv, fun q i hi => feed5_B q i hi, fun S h => ?_, fun S h => ?_⟩
    · obtain ⟨B1, C, hr, -⟩ := h.1
      refine RN_mono (c_feed hr h.tap a b c d e) (fun r S' hh => ?_)
      rcases hh with ⟨-, h2, h3, h4⟩ | ⟨h1, -⟩
      · exact ⟨h2, RC_le (RC_p h h4 h3) (by omega)⟩
      · exact absurd ok h1
    · obtain ⟨B', B1, C, hr⟩ := h.rfm
      refine RN_mono (m_feed hr h.tap a b c d e) (fun r S' hh => ?_)
      rcases hh with ⟨-, h2, h3, h4⟩ | ⟨h1, -⟩
      · exact ⟨h2, RM_le (RM_p h h4 h3) (by omega)⟩
      · exact absurd ok h1
  · refine ⟨-1, g, B, lv, fun q => q, fun S h => ?_, fun S h => ?_⟩
    · obtain ⟨B1, C, hr, -⟩ := h.1
      refine RN_mono (c_feed hr h.tap a b c d e) (fun r S' hh => ?_)
      rcases hh with ⟨h1, -⟩ | ⟨-, h2, rfl⟩
      · exact absurd h1 ok
      · exact ⟨h2, RC_le h (by omega)⟩
    · obtain ⟨B', B1, C, hr⟩ := h.rfm
      refine RN_mono (m_feed hr h.tap a b c d e) (fun r S' hh => ?_)
      rcases hh with ⟨h1, -⟩ | ⟨-, h2, rfl⟩
      · exact absurd h1 ok
      · exact ⟨h2, RM_le h (by omega)⟩
theorem back_u {len : Nat} {n : Int32} {j : Nat} (hl : len ≤ 2000) (hj : j ≤ len) (e : n = nI j) : n.toInt.toNat = j ∧ backOk len n := by
  subst e
  refine ⟨nI_nat (by omega), (nI_leI (a := 0) (by omega) (by omega)).mpr (Nat.zero_le _), (nI_leI (by omega) (by omega)).mpr hj⟩
theorem g_back (n : Int32) : PG B lv T g (f_X9_back 0 n) (f_X10_back 140 n) := by
  by_cases ok : backOk (gPl g) n
  · refine ⟨nI (gPl g - n.toInt.toNat), (gB g, gS g, (gHl g, gHf g), (gLm g, gLf g), (gTn g, gTd g), (gPl g - n.toInt.toNat, gPt g), gPc g), B, lv, fun q i hi => q i (Nat.lt_of_lt_of_le (show i < gPl g - n.toInt.toNat from hi) (Nat.sub_le _ _)), fun S h => ?_, fun S h => ?_⟩
    · refine RN_mono (c_back (B := B) h.tap n) (fun r S' hh => ?_)
      rcases hh with ⟨j, hj, e, h2, h3, h4⟩ | ⟨h1, -⟩
      · obtain ⟨e1, -⟩ := back_u h.tap.1 hj e
        rw [e1]
        exact ⟨h2, RC_le (RC_p h h4 h3) (by omega)⟩
      · exact absurd ok h1
    · refine RN_mono (m_back h.tap n) (fun r S' hh => ?_)
      rcases hh with ⟨j, hj, e, h2, h3, h4⟩ | ⟨h1, -⟩
      · obtain ⟨e1, -⟩ := back_u h.tap.1 hj e
        rw [e1]
        exact ⟨h2, RM_le (RM_p h h4 h3) (by omega)⟩
      · exact absurd ok h1
  · refine ⟨-1, g, B, lv, fun q => q, fun S h => ?_, fun S h => ?_⟩
    · refine RN_mono (c_back (B := B) h.tap n) (fun r S' hh => ?_)
      rcases hh with ⟨j, hj, e, -⟩ | ⟨-, h2, rfl⟩
      · exact absurd (back_u h.tap.1 hj e).2 ok
      · exact ⟨h2, RC_le h (by omega)⟩
    · refine RN_mono (m_back h.tap n) (fun r S' hh => ?_)
      rcases hh with ⟨j, hj, e, -⟩ | ⟨-, h2, rfl⟩
      · exact absurd (back_u h.tap.1 hj e).2 ok
      · exact ⟨h2, RM_le h (by omega)⟩
end GLB

/-! plaits: even, plait, nothing -/
section PLT
variable {B lv : Nat} {b : Bk} {s : ASea} {S S' : St}
def xA (b : Bk) (s : ASea) (p e : Nat) : Int32 := pullA b s e p (pX s p) (pY s p) * wayI (aR s (bWho b e)) (pX s p)
def yA (b : Bk) (s : ASea) (p e : Nat) : Int32 := pullA b s e p (pX s p) (pY s p) * wayI (aR s (4 + bWho b e)) (pY s p)
/-- what layOn lays -/
def LYN (b : Bk) (s : ASea) (p : Nat) (S : St) : Prop := S.1 130 2 = nI (bS b) ∧ S.1 130 3 = nI (aC s) ∧ ∀ e, e < bS b → S.1 131 e = xA b s p e ∧ S.1 132 e = yA b s p e
theorem CQ_pl {a k : Nat} {v : Int32} (h1 : 130 ≤ a) (h2 : a ≤ 132) : CQ B S (sI S a k v) := ⟨rfl, fun c j _ _ _ _ _ _ _ h => sI_ne (by omega)⟩
theorem lay_loop {p : Nat} (hp : p < bP b) (hb : wfB b) : ∀ (m fu i : Nat) (S : St), m < fu → i + m = bS b → QC B b s S → S.1 130 2 = nI (bS b) → S.1 130 3 = nI (aC s) → (∀ e, e < i → S.1 131 e = xA b s p e ∧ S.1 132 e = yA b s p e) → RN (b_X3_layOn_52 fu 130 39 (nI p) (pX s p) (pY s p) (nI i) S) (fun _ S' => LYN b s p S' ∧ CQ B S S') := by
  have h8 := hb.s8
  intro m
  induction m with
  | zero =>
    intro fu i S hf hi h h2 h3 hl
    obtain ⟨fu, rfl⟩ : ∃ f, fu = f + 1 := ⟨fu - 1, by omega⟩
    rw [b_X3_layOn_52, h2, if_pos (le_l (by omega) (by omega) (by omega))]
    have hi : i = bS b := by omega
    exact RN_some ⟨⟨h2, h3, fun e he => hl e (by omega)⟩, CQ.rf⟩
  | succ m ih =>
    intro fu i S hf hi h h2 h3 hl
    obtain ⟨fu, rfl⟩ : ∃ f, fu = f + 1 := ⟨fu - 1, by omega⟩
    have hi' : i < bS b := by omega
    have hB := h.hB
    rw [b_X3_layOn_52, h2, if_neg (nle_l (by omega) (by omega) (by omega))]
    refine RN_bd (pull_run h.w hi' hp _ _) (fun r S1 h1 => ?_)
    obtain ⟨hr, hE⟩ := h1
    have q1 := QC_q h hE.cq
    have ek : ∀ a k, 130 ≤ a → S1.1 a k = S.1 a k := fun a k ha => hE.2 a k (by omega) (by omega) (by omega)
    rw [wayAcross_eq q1.w hi', bdq, ixS hi' hb, obq, nmq, rc_130 q1.rf, hr]
    have q2 : QC B b s (sI S1 131 i (xA b s p i)) := QC_q q1 (CQ_pl (by decide) (by decide))
    rw [show pullA b s i p (pX s p) (pY s p) * wayI (aR s (bWho b i)) (pX s p) = xA b s p i from rfl, wayDown_eq q2.w hi', bdq, obq, nmq, rc_131 q2.rf, show pullA b s i p (pX s p) (pY s p) * wayI (aR s (4 + bWho b i)) (pY s p) = yA b s p i from rfl, nmq, nI_1]
    have q3 : CQ B S (sI (sI S1 131 i (xA b s p i)) 132 i (yA b s p i)) := hE.cq.tr ((CQ_pl (by decide) (by decide)).tr (CQ_pl (by decide) (by decide)))
    refine RN_mono (ih fu (i + 1) _ (by omega) (by omega) (QC_q h q3) ?_ ?_ (fun e he => ?_)) (fun _ S' hh => ⟨hh.1, q3.tr hh.2⟩)
    · rw [sI_ne (Or.inl (by decide)), sI_ne (Or.inl (by decide)), ek _ _ (by decide)]; exact h2
    · rw [sI_ne (Or.inl (by decide)), sI_ne (Or.inl (by decide)), ek _ _ (by decide)]; exact h3
    · by_cases ee : e = i
      · rw [ee]
        refine ⟨?_, sI_at⟩
        rw [sI_ne (Or.inl (by decide)), sI_at]
      · rw [sI_ne (Or.inl (by decide)), sI_ne (Or.inr ee), sI_ne (Or.inr ee), sI_ne (Or.inl (by decide)), ek _ _ (by decide), ek _ _ (by decide)]
        exact hl e (by omega)
theorem lay_run (h : QC B b s S) {p : Nat} (hp : p < bP b) : RN (f_X3_layOn (S.2.2 0 12) (S.2.2 0 7) (nI p) S) (fun _ S' => LYN b s p S' ∧ CQ B S S') := by
  have h8 := h.wb.s8
  unfold f_X3_layOn
  rw [rc_12 h.rf, rc_7 h.rf, ix16 hp h.wb, obq, nmq, ix22 hp h.wb, obq, nmq, h.w.r1, h.w.ra, h.w.rs.row (lt36_16 hp h.wb), h.w.rs.row (lt36_22 hp h.wb), nmq, h.w.r0, h.w.nS, nmq]
  have q1 : CQ B S (sI S 130 2 (nI (bS b))) := CQ_pl (by decide) (by decide)
  have h1 := QC_q h q1
  have ec : (sI S 130 2 (nI (bS b))).1 130 2 = nI (bS b) := sI_at
  revert q1 h1 ec
  generalize sI S 130 2 (nI (bS b)) = S1
  intro q1 h1 ec
  rw [h1.w.r1, h1.w.rs.2.2.2.2]
  have q2 : CQ B S1 (sI S1 130 3 (nI (aC s))) := CQ_pl (by decide) (by decide)
  exact RN_mono (lay_loop hp h.wb (bS b) FU 0 _ (by unfold FU; omega) (by omega) (QC_q h1 q2) ((sI_ne (Or.inr (by decide))).trans ec) sI_at (fun e he => absurd he (Nat.not_lt_zero _))) (fun _ S' hh => ⟨hh.1, (q1.tr q2).tr hh.2⟩)
theorem LYN_q {p : Nat} (h : LYN b s p S) (hE : S'.2 = S.2 ∧ ∀ a k, 130 ≤ a → a ≤ 132 → (a = 130 → k < 4) → S'.1 a k = S.1 a k) : LYN b s p S' := ⟨(hE.2 _ _ (by decide) (by decide) (by decide)).trans h.1, (hE.2 _ _ (by decide) (by decide) (by decide)).trans h.2.1, fun e he => ⟨(hE.2 _ _ (by decide) (by decide) (fun q => absurd q (by decide))).trans (h.2.2 e he).1, (hE.2 _ _ (by decide) (by decide) (fun q => absurd q (by decide))).trans (h.2.2 e he).2⟩⟩
abbrev fQ (b : Bk) (s : ASea) (p set : Nat) : Int32 × Int32 := feelQ b s (fun e => set.testBit e) p (pX s p) (pY s p)
theorem cpb_loop {p set : Nat} (hset : set < 256) (hb : wfB b) (hl : LYN b s p S) (hr : RFC B S.2.2) {wx wy : Int32} : ∀ (m fu i : Nat) (x y : Int32), m < fu → i + m = bS b → b_X3_pullsBy_9 fu 130 (nI set) (wx - x) (wy - y) (nI i) S = some (if feelF (fun e => pullA b s e p (pX s p) (pY s p)) (fun e => wayI (aR s (bWho b e)) (pX s p)) (fun e => wayI (aR s (4 + bWho b e)) (pY s p)) (fun e => set.testBit e) m i x y = (wx, wy) then 1 else 0, S) := by
  have h8 := hb.s8
  intro m
  induction m with
  | zero =>
    intro fu i x y hf hi
    obtain ⟨fu, rfl⟩ : ∃ f, fu = f + 1 := ⟨fu - 1, by omega⟩
    rw [b_X3_pullsBy_9, hl.1, if_pos (le_l (by omega) (by omega) (by omega))]
    have e1 : (wx - x = 0) ↔ x = wx := by rw [Int32.sub_eq_iff_eq_add, Int32.zero_add]; exact eq_comm
    have e2 : (wy - y = 0) ↔ y = wy := by rw [Int32.sub_eq_iff_eq_add, Int32.zero_add]; exact eq_comm
    show _ = some (if (x, y) = (wx, wy) then (1 : Int32) else 0, S)
    by_cases c1 : x = wx
    · rw [if_pos (e1.mpr c1)]
      by_cases c2 : y = wy
      · rw [if_pos (e2.mpr c2), if_pos (by rw [c1, c2])]
      · rw [if_neg (fun q => c2 (e2.mp q)), if_neg (fun q => c2 (congrArg Prod.snd q))]
    · rw [if_neg (fun q => c1 (e1.mp q)), if_neg (fun q => c1 (congrArg Prod.fst q))]
  | succ m ih =>
    intro fu i x y hf hi
    obtain ⟨fu, rfl⟩ : ∃ f, fu = f + 1 := ⟨fu - 1, by omega⟩
    have hi' : i < bS b := by omega
    rw [b_X3_pullsBy_9, hl.1, if_neg (nle_l (by omega) (by omega) (by omega)), flag_eq hset (by omega)]
    unfold feelF b_X3_pullsBy_51
    by_cases c : set.testBit i = true
    · rw [if_pos c, if_pos c, ixS hi' hb, obq, nmq, obq, nmq, rc_130 hr, rc_131 hr, (hl.2.2 i hi').1, (hl.2.2 i hi').2, nmq, nI_1, Int32.sub_sub, Int32.sub_sub]
      exact ih fu (i + 1) _ _ (by omega) (by omega)
    · rw [if_neg c, if_neg c, nmq, nI_1]
      exact ih fu (i + 1) x y (by omega) (by omega)
theorem cpb_eq {p set : Nat} (hset : set < 256) (hb : wfB b) (hl : LYN b s p S) (hr : RFC B S.2.2) {wx wy : Int32} : f_X3_pullsBy 130 (nI set) wx wy S = some (if fQ b s p set = (wx, wy) then 1 else 0, S) := by
  have h8 := hb.s8
  have h := cpb_loop hset hb hl hr (wx := wx) (wy := wy) (bS b) FU 0 0 0 (by unfold FU; omega) (by omega)
  rw [sub_0, sub_0] at h
  exact h
/-- how many bits -/
def pcN (o : Nat) : Nat := cntF (fun k => o.testBit k) 8 0
def bcI (v0 : Int32) : Int32 := (match f_J6_bitCount_0f7a4 v0 (fun _ _ => 0, fun _ _ => 0, fun _ _ => 0) with | some r => r.1 | none => 0)
theorem bcI_eq {v0 : Int32} : f_J6_bitCount_0f7a4 v0 S = some (bcI v0, S) := rfl
theorem bcI_pc : ∀ o : Nat, o < 256 → bcI (nI o) = nI (pcN o) := by decide +kernel
theorem bitc_eq {o : Nat} (h : o < 256) : f_J6_bitCount_0f7a4 (nI o) S = some (nI (pcN o), S) := by rw [bcI_eq, bcI_pc o h]
theorem bit_n : ∀ o : Nat, o < 256 → ∀ p : Nat, p < 8 → ((nI o >>> (nI p &&& 31)) &&& (1 : Int32)) = nI (if o.testBit p then 1 else 0) := by decide +kernel
theorem mbits_loop {o : Nat} (ho : o < 256) : ∀ (m fu i c : Nat), m < fu → i + m = 8 → b_X10_bits_4 fu (nI o) (nI c) (nI i) S = some (nI (c + cntF (fun k => o.testBit k) m i), S) := by
  intro m
  induction m with
  | zero =>
    intro fu i c hf hi
    obtain ⟨fu, rfl⟩ : ∃ f, fu = f + 1 := ⟨fu - 1, by omega⟩
    have hi : i = 8 := by omega
    subst hi
    rw [b_X10_bits_4, if_pos (by decide)]
    rfl
  | succ m ih =>
    intro fu i c hf hi
    obtain ⟨fu, rfl⟩ : ∃ f, fu = f + 1 := ⟨fu - 1, by omega⟩
    rw [b_X10_bits_4, if_neg (show ¬ (8 : Int32) ≤ nI i from nle_l (a := 8) (by omega) (by omega) (by omega)), nmq, nmq, nI_1, bit_n o ho i (by omega), nI_add, ih fu (i + 1) _ (by omega) (by omega), Nat.add_assoc]
    rfl
theorem mbits_eq {o : Nat} (ho : o < 256) : f_X10_bits (nI o) S = some (nI (pcN o), S) := by
  unfold f_X10_bits
  rw [show b_X10_bits_4 FU (nI o) 0 0 S = _ from mbits_loop ho 8 FU 0 0 (by decide) (by omega), Nat.zero_add]
  rfl
theorem pc8 {o : Nat} : pcN o ≤ 8 := cntF_le 8 0
/-- all sets in their order: how many fit, and the first with the fewest -/
def skF (q : Nat → Bool) : Nat → Nat → Nat → Nat → Nat × Nat
  | 0, _, c, f => (c, f)
  | m + 1, i, c, f => if q i then skF q m (i + 1) (c + 1) (if c = 0 ∨ pcN i < pcN f then i else f) else skF q m (i + 1) c f
theorem skF_congr {q q' : Nat → Bool} : ∀ (m i c f : Nat), (∀ j, i ≤ j → j < i + m → q j = q' j) → skF q m i c f = skF q' m i c f
  | 0, _, _, _, _ => rfl
  | m + 1, i, c, f, h => by
    unfold skF
    rw [h i (Nat.le_refl _) (by omega), skF_congr m (i + 1) (c + 1) _ (fun j h1 h2 => h j (by omega) (by omega)), skF_congr m (i + 1) c f (fun j h1 h2 => h j (by omega) (by omega))]
theorem nI_nz {c : Nat} (h : ¬ c = 0) (hc : c < 2 ^ 31) : ¬ nI c = 0 := fun q => h ((nI_eq (b := 0) hc (by decide)).mp q)
theorem sh8 : ∀ n : Nat, n ≤ 8 → (1 : Int32) <<< (nI n &&& 31) = nI (2 ^ n) := by decide
theorem nI_and {x y : Nat} : nI x &&& nI y = nI (x &&& y) := by
  rw [← Int32.toBitVec_inj]
  show BitVec.ofNat 32 x &&& BitVec.ofNat 32 y = BitVec.ofNat 32 (x &&& y)
  apply BitVec.eq_of_getLsbD_eq
  intro i hi
  simp [BitVec.getLsbD_and, BitVec.getLsbD_ofNat, hi]
theorem and_c {o c : Nat} (h : o < 256) : (nI o &&& nI c = 0) ↔ o &&& c = 0 := by
  rw [nI_and]
  have := Nat.and_le_left (n := o) (m := c)
  exact nI_eq (b := 0) (by omega) (by decide)
theorem seek_loop {p : Nat} (hb : wfB b) {wx wy : Int32} (hC : aC s < 256) : ∀ (m fu i c f : Nat) (S : St), m < fu → i + m = 2 ^ bS b → RFC B S.2.2 → LYN b s p S → S.1 130 4 = nI c → S.1 130 5 = nI f → c ≤ i → f < 256 → RN (b_X3_seek_13 fu 130 wx wy (nI i) S) (fun _ S' => S'.1 130 4 = nI (skF (fun k => decide (k &&& aC s = 0) && decide (fQ b s p k = (wx, wy))) m i c f).1 ∧ S'.1 130 5 = nI (skF (fun k => decide (k &&& aC s = 0) && decide (fQ b s p k = (wx, wy))) m i c f).2 ∧ S'.2 = S.2 ∧ ∀ a k, (a = 130 → k < 4) → S'.1 a k = S.1 a k) := by
  have h8 := hb.s8
  have hp : 2 ^ bS b ≤ 256 := Nat.pow_le_pow_right (n := 2) (by decide) h8
  intro m
  induction m with
  | zero =>
    intro fu i c f S hf hi hr hl h4 h5 hc hff
    obtain ⟨fu, rfl⟩ : ∃ f, fu = f + 1 := ⟨fu - 1, by omega⟩
    rw [b_X3_seek_13, hl.1, sh8 _ h8, if_pos (le_l (by omega) (by omega) (by omega))]
    exact RN_some ⟨h4, h5, rfl, fun _ _ _ => rfl⟩
  | succ m ih =>
    intro fu i c f S hf hi hr hl h4 h5 hc hff
    obtain ⟨fu, rfl⟩ : ∃ f, fu = f + 1 := ⟨fu - 1, by omega⟩
    have hi6 : i < 256 := by omega
    rw [b_X3_seek_13, hl.1, sh8 _ h8, if_neg (nle_l (by omega) (by omega) (by omega)), hl.2.1]
    unfold skF
    by_cases c1 : i &&& aC s = 0
    · rw [if_pos ((and_c hi6).mpr c1), cpb_eq hi6 hb hl hr, bdq]
      by_cases c2 : fQ b s p i = (wx, wy)
      · rw [if_pos c2, if_neg ne10, h4, if_pos (show (decide (i &&& aC s = 0) && decide (fQ b s p i = (wx, wy))) = true by rw [decide_eq_true c1, decide_eq_true c2]; rfl)]
        have s73 : ∀ (S1 : St) (f' : Nat), S1.2 = S.2 → (∀ a k, (a = 130 → k < 4) → S1.1 a k = S.1 a k) → S1.1 130 4 = nI c → S1.1 130 5 = nI f' → f' < 256 → RN (b_X3_seek_73 (b_X3_seek_13 fu) 130 wx wy (nI i) S1) (fun _ S' => S'.1 130 4 = nI (skF (fun k => decide (k &&& aC s = 0) && decide (fQ b s p k = (wx, wy))) m (i + 1) (c + 1) f').1 ∧ S'.1 130 5 = nI (skF (fun k => decide (k &&& aC s = 0) && decide (fQ b s p k = (wx, wy))) m (i + 1) (c + 1) f').2 ∧ S'.2 = S.2 ∧ ∀ a k, (a = 130 → k < 4) → S'.1 a k = S.1 a k) := by
          intro S1 f' e2 ek e4 e5 hf'
          unfold b_X3_seek_73 b_X3_seek_83
          rw [nmq, nmq, e4, nI_1, nI_1]
          have g : ∀ a k, (a = 130 → k < 4) → (sI S1 130 4 (nI (c + 1))).1 a k = S.1 a k := fun a k h => (sI_ne (by omega)).trans (ek a k h)
          refine RN_mono (ih fu (i + 1) (c + 1) f' _ (by omega) (by omega) (by rw [sI_2, e2]; exact hr) (LYN_q hl ⟨e2, fun a k _ _ h => g a k h⟩) sI_at ((sI_ne (Or.inr (by decide))).trans e5) (by omega) hf') (fun _ S' hh => ⟨hh.1, hh.2.1, hh.2.2.1.trans e2, fun a k h => (hh.2.2.2 a k h).trans (g a k h)⟩)
        have s67 : RN (b_X3_seek_67 (b_X3_seek_13 fu) 130 wx wy (nI i) S) (fun _ S' => S'.1 130 4 = nI (skF (fun k => decide (k &&& aC s = 0) && decide (fQ b s p k = (wx, wy))) m (i + 1) (c + 1) i).1 ∧ S'.1 130 5 = nI (skF (fun k => decide (k &&& aC s = 0) && decide (fQ b s p k = (wx, wy))) m (i + 1) (c + 1) i).2 ∧ S'.2 = S.2 ∧ ∀ a k, (a = 130 → k < 4) → S'.1 a k = S.1 a k) := by
          unfold b_X3_seek_67
          rw [nmq]
          exact s73 _ i rfl (fun a k h => sI_ne (by omega)) ((sI_ne (Or.inr (by decide))).trans h4) sI_at hi6
        by_cases c0 : c = 0
        · rw [if_pos (by rw [c0]; rfl), if_pos (Or.inl c0)]
          exact s67
        · rw [if_neg (nI_nz c0 (by omega)), bitc_eq hi6, bdq, h5, bitc_eq hff, bdq]
          have p1 := pc8 (o := i)
          have p2 := pc8 (o := f)
          by_cases c3 : pcN i < pcN f
          · rw [if_neg (nle_l (by omega) (by omega) c3), if_pos (Or.inr c3)]
            exact s67
          · rw [if_pos (le_l (by omega) (by omega) (by omega)), if_neg (fun q => by omega)]
            exact s73 S f rfl (fun _ _ _ => rfl) h4 h5 hff
      · rw [if_neg c2, if_pos rfl, if_neg (show ¬ (decide (i &&& aC s = 0) && decide (fQ b s p i = (wx, wy))) = true by simp [c2]), b_X3_seek_83, nmq, nI_1]
        exact ih fu (i + 1) c f S (by omega) (by omega) hr hl h4 h5 (by omega) hff
    · rw [if_neg (fun q => c1 ((and_c hi6).mp q)), if_neg (show ¬ (decide (i &&& aC s = 0) && decide (fQ b s p i = (wx, wy))) = true by simp [c1]), b_X3_seek_83, nmq, nI_1]
      exact ih fu (i + 1) c f S (by omega) (by omega) hr hl h4 h5 (by omega) hff
def skA (b : Bk) (s : ASea) (p : Nat) (wx wy : Int32) (lo : Nat) : Nat × Nat := skF (fun k => decide (k &&& aC s = 0) && decide (fQ b s p k = (wx, wy))) (2 ^ bS b - lo) lo 0 0
theorem seek_run {p : Nat} (hb : wfB b) {wx wy : Int32} (hC : aC s < 256) (hr : RFC B S.2.2) (hl : LYN b s p S) {lo : Nat} (hlo : lo < 2) : RN (f_X3_seek 130 wx wy (nI lo) S) (fun _ S' => S'.1 130 4 = nI (skA b s p wx wy lo).1 ∧ S'.1 130 5 = nI (skA b s p wx wy lo).2 ∧ CQ B S S') := by
  have h8 := hb.s8
  have hp : 2 ^ bS b ≤ 256 := Nat.pow_le_pow_right (n := 2) (by decide) h8
  have hp1 : 1 ≤ 2 ^ bS b := Nat.one_le_two_pow
  unfold f_X3_seek
  rw [nmq, nmq]
  have g : ∀ a k, (a = 130 → k < 4) → (sI (sI S 130 4 0) 130 5 0).1 a k = S.1 a k := fun a k h => by rw [sI_ne (by omega), sI_ne (by omega)]
  refine RN_mono (seek_loop hb hC (2 ^ bS b - lo) FU lo 0 0 (sI (sI S 130 4 0) 130 5 0) (by unfold FU; omega) (by omega) hr (LYN_q hl ⟨rfl, fun a k _ _ h => g a k h⟩) ((sI_ne (Or.inr (by decide))).trans sI_at) sI_at (Nat.zero_le _) (by decide)) (fun _ S' hh => ⟨hh.1, hh.2.1, hh.2.2.1, fun a k _ _ _ _ _ _ _ h => ?_⟩)
  rw [hh.2.2.2 a k (by omega)]
  exact g a k (by omega)
theorem skF_le {q : Nat → Bool} : ∀ (m i c f : Nat), (skF q m i c f).1 ≤ c + m ∧ (f < 256 → i + m ≤ 256 → (skF q m i c f).2 < 256)
  | 0, _, _, _ => ⟨Nat.le_refl _, fun h _ => h⟩
  | m + 1, i, c, f => by
    unfold skF
    split
    · refine ⟨by have := (skF_le (q := q) m (i + 1) (c + 1) (if c = 0 ∨ pcN i < pcN f then i else f)).1; omega, fun h1 h2 => (skF_le m (i + 1) (c + 1) _).2 ?_ (by omega)⟩
      split <;> omega
    · refine ⟨by have := (skF_le (q := q) m (i + 1) c f).1; omega, fun h1 h2 => (skF_le m (i + 1) c f).2 h1 (by omega)⟩
/-! the reference -/
theorem nI_xor {x : Nat} (hx : x < 256) {y : Nat} (hy : y < 256) : (nI x &&& (nI y ^^^ (-1 : Int32)) = 0) ↔ ∀ i, x.testBit i = true → y.testBit i = true := by
  have e : nI x &&& (nI y ^^^ (-1 : Int32)) = 0 ↔ BitVec.ofNat 32 x &&& (BitVec.ofNat 32 y ^^^ BitVec.allOnes 32) = 0#32 := by
    rw [← Int32.toBitVec_inj]
    exact Iff.rfl
  rw [e]
  constructor
  · intro h i hi
    have hi8 : i < 8 := by
      rcases Nat.lt_or_ge i 8 with g | g
      · exact g
      · have : x < 2 ^ i := Nat.lt_of_lt_of_le hx (Nat.pow_le_pow_right (n := 2) (by decide) g)
        rw [Nat.testBit_lt_two_pow this] at hi
        cases hi
    have h2 := congrArg (fun v => v.getLsbD i) h
    simp only [BitVec.getLsbD_and, BitVec.getLsbD_xor, BitVec.getLsbD_ofNat, BitVec.getLsbD_allOnes, show i < 32 by omega, decide_true, Bool.true_and, BitVec.getLsbD_zero, Nat.zero_testBit, hi] at h2
    cases hy2 : y.testBit i with
    | true => rfl
    | false => rw [hy2] at h2; cases h2
  · intro h
    apply BitVec.eq_of_getLsbD_eq
    intro i hi
    simp only [BitVec.getLsbD_and, BitVec.getLsbD_xor, BitVec.getLsbD_ofNat, BitVec.getLsbD_allOnes, hi, decide_true, Bool.true_and, BitVec.getLsbD_zero, Nat.zero_testBit]
    cases hx2 : x.testBit i with
    | false => rfl
    | true => rw [h i hx2]; rfl
theorem allow_iff {k : Nat} (hb : wfB b) (hk : k < 2 ^ bS b) : (nI k &&& (nI (whN b s) ^^^ (-1 : Int32)) = 0) ↔ k &&& aC s = 0 := by
  have h8 := hb.s8
  have hp : 2 ^ bS b ≤ 256 := Nat.pow_le_pow_right (n := 2) (by decide) h8
  rw [nI_xor (by omega) (whN_lt hb)]
  have hlt : ∀ i, k.testBit i = true → i < bS b := fun i hi => by
    rcases Nat.lt_or_ge i (bS b) with g | g
    · exact g
    · have : k < 2 ^ i := Nat.lt_of_lt_of_le hk (Nat.pow_le_pow_right (n := 2) (by decide) g)
      rw [Nat.testBit_lt_two_pow this] at hi
      cases hi
  constructor
  · intro h
    refine nat_ext (fun i => ?_)
    rw [Nat.testBit_and, Nat.zero_testBit]
    by_cases c : k.testBit i = true
    · have := h i c
      rw [whN_tb] at this
      have := (Bool.and_eq_true_iff.mp this).2
      rw [c]
      simpa using this
    · simp [c]
  · intro h i hi
    rw [whN_tb]
    have h2 := congrArg (fun v => v.testBit i) h
    simp only [Nat.testBit_and, Nat.zero_testBit, hi, Bool.true_and] at h2
    simp [hlt i hi, h2]
def bestI (c f : Nat) : Int32 := if c = 0 then -2 else nI f
theorem pf_loop {p : Nat} (hp : p < bP b) (hb : wfB b) {wx wy : Int32} : ∀ (m fu i c f : Nat) (S : St), m < fu → i + m = 2 ^ bS b → CMx lv b s S → c ≤ i → f < 256 → RN (b_X10_plaitFrom_13 fu 140 (nI p) wx wy (nI (whN b s)) (bestI c f) (nI i) S) (fun r S' => r = bestI (skF (fun k => decide (k &&& aC s = 0) && decide (fQ b s p k = (wx, wy))) m i c f).1 (skF (fun k => decide (k &&& aC s = 0) && decide (fQ b s p k = (wx, wy))) m i c f).2 ∧ MW S S') := by
  have h8 := hb.s8
  have hp2 : 2 ^ bS b ≤ 256 := Nat.pow_le_pow_right (n := 2) (by decide) h8
  have hp6 : p < 6 := Nat.lt_of_lt_of_le hp hb.p6
  intro m
  induction m with
  | zero =>
    intro fu i c f S hf hi h hc hff
    obtain ⟨fu, rfl⟩ : ∃ f, fu = f + 1 := ⟨fu - 1, by omega⟩
    rw [b_X10_plaitFrom_13, h.k.ixl, obq, rq_29 h.rf, h.k.nS, sh8 _ h8, if_pos (le_l (by omega) (by omega) (by omega))]
    exact RN_some ⟨rfl, MW.rf⟩
  | succ m ih =>
    intro fu i c f S hf hi h hc hff
    obtain ⟨fu, rfl⟩ : ∃ f, fu = f + 1 := ⟨fu - 1, by omega⟩
    have hi6 : i < 256 := by omega
    rw [b_X10_plaitFrom_13, h.k.ixl, obq, rq_29 h.rf, h.k.nS, sh8 _ h8, if_neg (nle_l (by omega) (by omega) (by omega))]
    unfold skF
    by_cases c1 : i &&& aC s = 0
    · rw [if_pos ((allow_iff hb (by omega)).mpr c1)]
      have s106 : ∀ (S1 : St) (c' f' : Nat), CMx lv b s S1 → c' ≤ i + 1 → f' < 256 → RN (b_X10_plaitFrom_106 (b_X10_plaitFrom_13 fu) 140 (nI p) wx wy (nI (whN b s)) (bestI c' f') (nI i) S1) (fun r S' => r = bestI (skF (fun k => decide (k &&& aC s = 0) && decide (fQ b s p k = (wx, wy))) m (i + 1) c' f').1 (skF (fun k => decide (k &&& aC s = 0) && decide (fQ b s p k = (wx, wy))) m (i + 1) c' f').2 ∧ MW S1 S') := by
        intro S1 c' f' h1 hc' hf'
        unfold b_X10_plaitFrom_106
        rw [nmq, nI_1]
        exact ih fu (i + 1) c' f' S1 (by omega) (by omega) h1 hc' hf'
      have s60 : (c = 0 ∨ pcN i < pcN f) → RN (b_X10_plaitFrom_60 (b_X10_plaitFrom_13 fu) 140 (nI p) wx wy (nI (whN b s)) (bestI c f) (nI i) S) (fun r S' => r = bestI (if (decide (i &&& aC s = 0) && decide (fQ b s p i = (wx, wy))) = true then skF (fun k => decide (k &&& aC s = 0) && decide (fQ b s p k = (wx, wy))) m (i + 1) (c + 1) (if c = 0 ∨ pcN i < pcN f then i else f) else skF (fun k => decide (k &&& aC s = 0) && decide (fQ b s p k = (wx, wy))) m (i + 1) c f).1 (if (decide (i &&& aC s = 0) && decide (fQ b s p i = (wx, wy))) = true then skF (fun k => decide (k &&& aC s = 0) && decide (fQ b s p k = (wx, wy))) m (i + 1) (c + 1) (if c = 0 ∨ pcN i < pcN f then i else f) else skF (fun k => decide (k &&& aC s = 0) && decide (fQ b s p k = (wx, wy))) m (i + 1) c f).2 ∧ MW S S') := by
        intro hu
        unfold b_X10_plaitFrom_60
        rw [ix55_20 hp6, obq, ix55_26 hp6, obq, rq_52 h.rf, h.px hp, h.py hp]
        refine RN_bd (pby_run h hi6 hp (h.p9 hp).1 (h.p9 hp).2) (fun _ S1 h1 => ?_)
        have h2 := CMx_w h h1.2
        rw [fst_of h1.1, snd_of h1.1]
        by_cases c2 : fQ b s p i = (wx, wy)
        · rw [if_pos (congrArg Prod.fst c2), if_pos (congrArg Prod.snd c2), if_pos (show (decide (i &&& aC s = 0) && decide (fQ b s p i = (wx, wy))) = true by rw [decide_eq_true c1, decide_eq_true c2]; rfl), if_pos hu]
          have e : nI i = bestI (c + 1) i := by unfold bestI; rw [if_neg (by omega)]
          have g := s106 S1 (c + 1) i h2 (by omega) hi6
          rw [← e] at g
          exact RN_mono g (fun r S' hh => ⟨hh.1, h1.2.tr hh.2⟩)
        · rw [if_neg (show ¬ (decide (i &&& aC s = 0) && decide (fQ b s p i = (wx, wy))) = true by simp [c2])]
          have g := s106 S1 c f h2 (by omega) hff
          by_cases d1 : (feelQ b s (fun e => i.testBit e) p (pX s p) (pY s p)).1 = wx
          · rw [if_pos d1, if_neg (fun d2 => c2 (Prod.ext d1 d2))]
            exact RN_mono g (fun r S' hh => ⟨hh.1, h1.2.tr hh.2⟩)
          · rw [if_neg d1]
            exact RN_mono g (fun r S' hh => ⟨hh.1, h1.2.tr hh.2⟩)
      by_cases c0 : c = 0
      · rw [if_pos (show bestI c f < 0 by unfold bestI; rw [if_pos c0]; decide)]
        exact s60 (Or.inl c0)
      · have eb : bestI c f = nI f := by unfold bestI; rw [if_neg c0]
        rw [if_neg (show ¬ bestI c f < 0 by rw [eb]; exact nlt_l (b := 0) (by omega) (by omega) (by omega)), mbits_eq hi6, bdq, show f_X10_bits (bestI c f) S = some (nI (pcN f), S) by rw [eb]; exact mbits_eq hff, bdq]
        have p1 := pc8 (o := i)
        have p2 := pc8 (o := f)
        by_cases c3 : pcN i < pcN f
        · rw [if_pos (lt_l (by omega) (by omega) c3)]
          exact s60 (Or.inr c3)
        · rw [if_neg (nlt_l (by omega) (by omega) (by omega))]
          have hno : ¬ (c = 0 ∨ pcN i < pcN f) := fun q => by omega
          by_cases c2 : (decide (i &&& aC s = 0) && decide (fQ b s p i = (wx, wy))) = true
          · rw [if_pos c2, if_neg hno]
            have e2 : bestI c f = bestI (c + 1) f := by unfold bestI; rw [if_neg c0, if_neg (by omega)]
            rw [e2]
            exact s106 S (c + 1) f h (by omega) hff
          · rw [if_neg c2]
            exact s106 S c f h (by omega) hff
    · rw [if_neg (fun q => c1 ((allow_iff hb (by omega)).mp q)), if_neg (show ¬ (decide (i &&& aC s = 0) && decide (fQ b s p i = (wx, wy))) = true by simp [c1])]
      unfold b_X10_plaitFrom_106
      rw [nmq, nI_1]
      exact ih fu (i + 1) c f S (by omega) (by omega) h (by omega) hff
theorem pf_run {p : Nat} (h : CMx lv b s S) (hp : p < bP b) {wx wy : Int32} {lo : Nat} (hlo : lo < 2) : RN (f_X10_plaitFrom 140 (nI p) (nI lo) wx wy S) (fun r S' => r = bestI (skA b s p wx wy lo).1 (skA b s p wx wy lo).2 ∧ MW S S') := by
  have h8 := h.wb.s8
  have hp2 : 2 ^ bS b ≤ 256 := Nat.pow_le_pow_right (n := 2) (by decide) h8
  have hp1 : 1 ≤ 2 ^ bS b := Nat.one_le_two_pow
  unfold f_X10_plaitFrom
  rw [whole_eq h, bdq]
  exact pf_loop hp h.wb (2 ^ bS b - lo) FU lo 0 0 S (by unfold FU; omega) (by omega) h (Nat.zero_le _) (by decide)
theorem mno_loop {p : Nat} (hp : p < bP b) (hb : wfB b) : ∀ (m fu i c f : Nat) (S : St), m < fu → i + m = 2 ^ bS b → CMx lv b s S → RN (b_X10_nothing_67 fu 140 (nI p) (nI (whN b s)) (nI c) (nI i) S) (fun r S' => r = nI (skF (fun k => decide (k &&& aC s = 0) && decide (fQ b s p k = (0, 0))) m i c f).1 ∧ MW S S') := by
  have h8 := hb.s8
  have hp2 : 2 ^ bS b ≤ 256 := Nat.pow_le_pow_right (n := 2) (by decide) h8
  have hp6 : p < 6 := Nat.lt_of_lt_of_le hp hb.p6
  intro m
  induction m with
  | zero =>
    intro fu i c f S hf hi h
    obtain ⟨fu, rfl⟩ : ∃ f, fu = f + 1 := ⟨fu - 1, by omega⟩
    rw [b_X10_nothing_67, h.k.ixl, obq, rq_29 h.rf, h.k.nS, sh8 _ h8, if_pos (le_l (by omega) (by omega) (by omega))]
    exact RN_some ⟨rfl, MW.rf⟩
  | succ m ih =>
    intro fu i c f S hf hi h
    obtain ⟨fu, rfl⟩ : ∃ f, fu = f + 1 := ⟨fu - 1, by omega⟩
    have hi6 : i < 256 := by omega
    rw [b_X10_nothing_67, h.k.ixl, obq, rq_29 h.rf, h.k.nS, sh8 _ h8, if_neg (nle_l (by omega) (by omega) (by omega))]
    unfold skF b_X10_nothing_137
    by_cases c1 : i &&& aC s = 0
    · rw [if_pos ((allow_iff hb (by omega)).mpr c1), ix55_20 hp6, obq, ix55_26 hp6, obq, rq_52 h.rf, h.px hp, h.py hp]
      refine RN_bd (pby_run h hi6 hp (h.p9 hp).1 (h.p9 hp).2) (fun _ S1 h1 => ?_)
      have h2 := CMx_w h h1.2
      rw [fst_of h1.1, snd_of h1.1]
      by_cases c2 : fQ b s p i = (0, 0)
      · rw [if_pos (congrArg Prod.fst c2), if_pos (congrArg Prod.snd c2), if_pos (show (decide (i &&& aC s = 0) && decide (fQ b s p i = (0, 0))) = true by rw [decide_eq_true c1, decide_eq_true c2]; rfl), nmq, nmq, nI_1, nI_1]
        exact RN_mono (ih fu (i + 1) (c + 1) _ S1 (by omega) (by omega) h2) (fun r S' hh => ⟨hh.1, h1.2.tr hh.2⟩)
      · rw [if_neg (show ¬ (decide (i &&& aC s = 0) && decide (fQ b s p i = (0, 0))) = true by simp [c2]), nmq, nI_1]
        have g := ih fu (i + 1) c f S1 (by omega) (by omega) h2
        by_cases d1 : (feelQ b s (fun e => i.testBit e) p (pX s p) (pY s p)).1 = 0
        · rw [if_pos d1, if_neg (fun d2 => c2 (Prod.ext d1 d2))]
          exact RN_mono g (fun r S' hh => ⟨hh.1, h1.2.tr hh.2⟩)
        · rw [if_neg d1]
          exact RN_mono g (fun r S' hh => ⟨hh.1, h1.2.tr hh.2⟩)
    · rw [if_neg (fun q => c1 ((allow_iff hb (by omega)).mp q)), if_neg (show ¬ (decide (i &&& aC s = 0) && decide (fQ b s p i = (0, 0))) = true by simp [c1]), nmq, nI_1]
      exact ih fu (i + 1) c f S (by omega) (by omega) h
theorem skA_le {p : Nat} (hb : wfB b) {wx wy : Int32} {lo : Nat} (hlo : lo < 2) : (skA b s p wx wy lo).1 ≤ 256 ∧ (skA b s p wx wy lo).2 < 256 := by
  have hp2 : 2 ^ bS b ≤ 256 := Nat.pow_le_pow_right (n := 2) (by decide) hb.s8
  have hp1 : 1 ≤ 2 ^ bS b := Nat.one_le_two_pow
  have h := skF_le (q := fun k => decide (k &&& aC s = 0) && decide (fQ b s p k = (wx, wy))) (2 ^ bS b - lo) lo 0 0
  exact ⟨Nat.le_trans h.1 (by omega), h.2 (by decide) (by omega)⟩
theorem q_nothing (v w : Int32) : PQ B lv b s (f_X9_nothing 0 v w) (f_X10_nothing 140 v w) := by
  cases hv : idx (bP b) v with
  | none =>
    refine ⟨-1, fun S h => ?_, fun S h => ?_⟩
    · unfold f_X9_nothing
      rw [cP_eq h, bdq, hv, is1_n, if_pos rfl]
      exact RN_some ⟨rfl, CQ.rf⟩
    · unfold f_X10_nothing
      rw [mP_eq h, bdq, hv, is1_n, if_pos rfl]
      exact RN_some ⟨rfl, QF.rf⟩
  | some p =>
    cases hw : idx 2 w with
    | none =>
      refine ⟨-1, fun S h => ?_, fun S h => ?_⟩
      · unfold f_X9_nothing
        rw [cP_eq h, bdq, hv, is1_s, if_neg ne10, show f_X9_isWithin w 0 1 S = _ from cin_eq 1 (by decide), bdq, hw, is1_n, if_pos rfl]
        exact RN_some ⟨rfl, CQ.rf⟩
      · unfold f_X10_nothing
        rw [mP_eq h, bdq, hv, is1_s, if_neg ne10, show f_X10_in w 0 1 S = _ from min_eq 1 (by decide), bdq, hw, is1_n, if_pos rfl]
        exact RN_some ⟨rfl, QF.rf⟩
    | some j =>
      obtain ⟨rfl, hj⟩ := idx_some (by decide) hw
      have hj2 : j = 0 ∨ j = 1 := by omega
      by_cases ho : (aO s).testBit p = true
      · refine ⟨if j = 0 then 0 else -2, fun S h => ?_, fun S h => ?_⟩
        · obtain ⟨e, hp⟩ := idx_some (by have := h.wb.p6; omega) hv
          have hp6 : p < 6 := Nat.lt_of_lt_of_le hp h.wb.p6
          unfold f_X9_nothing
          rw [cP_eq h, bdq, hv, is1_s, if_neg ne10, show f_X9_isWithin (nI j) 0 1 S = _ from cin_eq 1 (by decide), bdq, hw, is1_s, if_neg ne10, e, rc_5 h.rf, isOff_eq h.w.rs h.w.ws hp6, bdq, if_pos ho, if_neg ne10]
          rcases hj2 with rfl | rfl
          · rw [if_pos (by decide)]; exact RN_some ⟨rfl, CQ.rf⟩
          · rw [if_neg (by decide)]; exact RN_some ⟨rfl, CQ.rf⟩
        · obtain ⟨e, hp⟩ := idx_some (by have := h.wb.p6; omega) hv
          have hp6 : p < 6 := Nat.lt_of_lt_of_le hp h.wb.p6
          unfold f_X10_nothing
          rw [mP_eq h, bdq, hv, is1_s, if_neg ne10, show f_X10_in (nI j) 0 1 S = _ from min_eq 1 (by decide), bdq, hw, is1_s, if_neg ne10, e]
          refine RN_bd (copies_run h) (fun _ S1 h1 => ?_)
          rw [moff_eq h1.1 hp6, bdq, if_pos ho, if_neg ne10]
          rcases hj2 with rfl | rfl
          · rw [if_pos (by decide)]; exact RN_some ⟨rfl, h1.2.2.2⟩
          · rw [if_neg (by decide)]; exact RN_some ⟨rfl, h1.2.2.2⟩
      · refine ⟨if j = 0 then nI (skA b s p 0 0 1).1 else bestI (skA b s p 0 0 1).1 (skA b s p 0 0 1).2, fun S h => ?_, fun S h => ?_⟩
        · obtain ⟨e, hp⟩ := idx_some (by have := h.wb.p6; omega) hv
          have hp6 : p < 6 := Nat.lt_of_lt_of_le hp h.wb.p6
          unfold f_X9_nothing
          rw [cP_eq h, bdq, hv, is1_s, if_neg ne10, show f_X9_isWithin (nI j) 0 1 S = _ from cin_eq 1 (by decide), bdq, hw, is1_s, if_neg ne10, e, rc_5 h.rf, isOff_eq h.w.rs h.w.ws hp6, bdq, if_neg ho, if_pos rfl]
          refine RN_bd (lay_run h hp) (fun _ S1 h1 => ?_)
          have r1 : RFC B S1.2.2 := by rw [h1.2.1]; exact h.rf
          rw [rc_12 r1]
          refine RN_bd (show RN (f_X3_seek 130 0 0 1 S1) _ from seek_run h.wb h.w.ws.2.2.2 r1 h1.1 (lo := 1) (by decide)) (fun _ S2 h2 => ?_)
          have r2 : RFC B S2.2.2 := by rw [h2.2.2.1]; exact r1
          rw [rc_12 r2, h2.1, h2.2.1]
          have hq := h1.2.tr h2.2.2
          rcases hj2 with rfl | rfl
          · rw [if_pos (by decide)]; exact RN_some ⟨rfl, hq⟩
          · rw [if_neg (by decide)]
            have hle := skA_le (s := s) (p := p) h.wb (wx := 0) (wy := 0) (lo := 1) (by decide)
            show RN _ (fun r' S' => r' = bestI _ _ ∧ _)
            unfold bestI
            by_cases c : (skA b s p 0 0 1).1 = 0
            · rw [if_pos (by rw [c]; rfl), if_pos c]; exact RN_some ⟨rfl, hq⟩
            · rw [if_neg (nI_nz c (by omega)), if_neg c]; exact RN_some ⟨rfl, hq⟩
        · obtain ⟨e, hp⟩ := idx_some (by have := h.wb.p6; omega) hv
          have hp6 : p < 6 := Nat.lt_of_lt_of_le hp h.wb.p6
          unfold f_X10_nothing
          rw [mP_eq h, bdq, hv, is1_s, if_neg ne10, show f_X10_in (nI j) 0 1 S = _ from min_eq 1 (by decide), bdq, hw, is1_s, if_neg ne10, e]
          refine RN_bd (copies_run h) (fun _ S1 h1 => ?_)
          rw [moff_eq h1.1 hp6, bdq, if_neg ho, if_pos rfl]
          rcases hj2 with rfl | rfl
          · rw [if_neg (show ¬ nI 0 = 1 by decide), whole_eq h1.1, bdq]
            have hp2 : 2 ^ bS b ≤ 256 := Nat.pow_le_pow_right (n := 2) (by decide) h.wb.s8
            have hp1 : 1 ≤ 2 ^ bS b := Nat.one_le_two_pow
            exact RN_mono (mno_loop hp h.wb (2 ^ bS b - 1) FU 1 0 0 S1 (by unfold FU; omega) (by omega) h1.1) (fun r S' hh => ⟨hh.1, h1.2.2.2.tr hh.2.mq⟩)
          · rw [if_pos (show nI 1 = 1 by decide)]
            exact RN_bd (show RN (f_X10_plaitFrom 140 (nI p) 1 0 0 S1) _ from pf_run h1.1 hp (lo := 1) (by decide)) (fun r S2 h2 => RN_some ⟨h2.1, h1.2.2.2.tr h2.2.mq⟩)
theorem q_plait (v x y w : Int32) : PQ B lv b s (f_X9_plait 0 v x y w) (f_X10_plait 140 v x y w) := by
  cases hv : idx (bP b) v with
  | none =>
    refine ⟨-1, fun S h => ?_, fun S h => ?_⟩
    · unfold f_X9_plait
      rw [cP_eq h, bdq, hv, is1_n, if_pos rfl]
      exact RN_some ⟨rfl, CQ.rf⟩
    · unfold f_X10_plait
      rw [mP_eq h, bdq, hv, is1_n, if_pos rfl]
      exact RN_some ⟨rfl, QF.rf⟩
  | some p =>
    by_cases cx : (-999 : Int32) ≤ x ∧ x ≤ 999
    · by_cases cy : (-999 : Int32) ≤ y ∧ y ≤ 999
      · cases hw : idx 2 w with
        | none =>
          refine ⟨-1, fun S h => ?_, fun S h => ?_⟩
          · unfold f_X9_plait
            rw [cP_eq h, bdq, hv, is1_s, if_neg ne10, show f_X9_isWithin w 0 1 S = _ from cin_eq 1 (by decide), bdq, hw, is1_n, if_pos rfl]
            exact RN_some ⟨rfl, CQ.rf⟩
          · unfold f_X10_plait
            rw [mP_eq h, bdq, hv, is1_s, if_neg ne10, in_eq, bdq, if_pos cx, if_neg ne10, in_eq, bdq, if_pos cy, if_neg ne10, show f_X10_in w 0 1 S = _ from min_eq 1 (by decide), bdq, hw, is1_n, if_pos rfl]
            exact RN_some ⟨rfl, QF.rf⟩
        | some j =>
          obtain ⟨rfl, hj⟩ := idx_some (by decide) hw
          have hj2 : j = 0 ∨ j = 1 := by omega
          have hc0 : ∀ S, QC B b s S → v = nI p ∧ p < bP b ∧ f_X9_plait 0 v x y (nI j) S = bd (f_X5_isOff (S.2.2 0 5) v S) fun r10 S9 => if r10 = 0 then (bd (f_X3_layOn (S9.2.2 0 12) (S9.2.2 0 7) v S9) fun _ S11 => bd (f_X3_seek (S11.2.2 0 12) x y (0 : Int32) S11) fun _ S13 => if (S13.1 (S13.2.2 0 12) 4) = 0 then (some ((-2 : Int32), S13)) else (if nI j = 0 then (bd (f_J6_bitCount_0f7a4 (S13.1 (S13.2.2 0 12) 5) S13) fun r16 S15 => some (r16, S15)) else (some (S13.1 (S13.2.2 0 12) 5, S13)))) else (some ((-2 : Int32), S9)) := fun S h => by
            obtain ⟨e, hp⟩ := idx_some (by have := h.wb.p6; omega) hv
            refine ⟨e, hp, ?_⟩
            unfold f_X9_plait
            rw [cP_eq h, bdq, hv, is1_s, if_neg ne10, show f_X9_isWithin (nI j) 0 1 S = _ from cin_eq 1 (by decide), bdq, hw, is1_s, if_neg ne10, within_eq, bdq, if_pos cx, if_neg ne10, within_eq, bdq, if_pos cy, if_neg ne10]
          have hm0 : ∀ S, QM lv b s S → v = nI p ∧ p < bP b ∧ f_X10_plait 140 v x y (nI j) S = bd (f_X10_copies 140 S) fun _ S9 => bd (f_X10_isOff 140 v S9) fun r12 S11 => if r12 = 0 then (bd (f_X10_plaitFrom 140 v (0 : Int32) x y S11) fun r14 S13 => if r14 < 0 then (b_X10_plait_82 r14 S13) else (if nI j = (1 : Int32) then (b_X10_plait_82 r14 S13) else (bd (f_X10_bits r14 S13) fun r16 S15 => some (r16, S15)))) else (some ((-2 : Int32), S11)) := fun S h => by
            obtain ⟨e, hp⟩ := idx_some (by have := h.wb.p6; omega) hv
            refine ⟨e, hp, ?_⟩
            unfold f_X10_plait
            rw [mP_eq h, bdq, hv, is1_s, if_neg ne10, in_eq, bdq, if_pos cx, if_neg ne10, in_eq, bdq, if_pos cy, if_neg ne10, show f_X10_in (nI j) 0 1 S = _ from min_eq 1 (by decide), bdq, hw, is1_s, if_neg ne10]
          by_cases ho : (aO s).testBit p = true
          · refine ⟨-2, fun S h => ?_, fun S h => ?_⟩
            · obtain ⟨e, hp, e2⟩ := hc0 S h
              have hp6 : p < 6 := Nat.lt_of_lt_of_le hp h.wb.p6
              rw [e2, e, rc_5 h.rf, isOff_eq h.w.rs h.w.ws hp6, bdq, if_pos ho, if_neg ne10]
              exact RN_some ⟨rfl, CQ.rf⟩
            · obtain ⟨e, hp, e2⟩ := hm0 S h
              have hp6 : p < 6 := Nat.lt_of_lt_of_le hp h.wb.p6
              rw [e2, e]
              refine RN_bd (copies_run h) (fun _ S1 h1 => ?_)
              rw [moff_eq h1.1 hp6, bdq, if_pos ho, if_neg ne10]
              exact RN_some ⟨rfl, h1.2.2.2⟩
          · refine ⟨if (skA b s p x y 0).1 = 0 then -2 else if j = 0 then nI (pcN (skA b s p x y 0).2) else nI (skA b s p x y 0).2, fun S h => ?_, fun S h => ?_⟩
            · obtain ⟨e, hp, e2⟩ := hc0 S h
              have hp6 : p < 6 := Nat.lt_of_lt_of_le hp h.wb.p6
              have hle := skA_le (s := s) (p := p) h.wb (wx := x) (wy := y) (lo := 0) (by decide)
              rw [e2, e, rc_5 h.rf, isOff_eq h.w.rs h.w.ws hp6, bdq, if_neg ho, if_pos rfl]
              refine RN_bd (lay_run h hp) (fun _ S1 h1 => ?_)
              have r1 : RFC B S1.2.2 := by rw [h1.2.1]; exact h.rf
              rw [rc_12 r1]
              refine RN_bd (show RN (f_X3_seek 130 x y 0 S1) _ from seek_run h.wb h.w.ws.2.2.2 r1 h1.1 (lo := 0) (by decide)) (fun _ S2 h2 => ?_)
              have r2 : RFC B S2.2.2 := by rw [h2.2.2.1]; exact r1
              rw [rc_12 r2, h2.1, h2.2.1]
              have hq := h1.2.tr h2.2.2
              by_cases c : (skA b s p x y 0).1 = 0
              · rw [if_pos (by rw [c]; rfl), if_pos c]; exact RN_some ⟨rfl, hq⟩
              · rw [if_neg (nI_nz c (by omega)), if_neg c, bitc_eq hle.2, bdq]
                rcases hj2 with rfl | rfl
                · rw [if_pos (by decide)]; exact RN_some ⟨rfl, hq⟩
                · rw [if_neg (by decide)]; exact RN_some ⟨rfl, hq⟩
            · obtain ⟨e, hp, e2⟩ := hm0 S h
              have hp6 : p < 6 := Nat.lt_of_lt_of_le hp h.wb.p6
              have hle := skA_le (s := s) (p := p) h.wb (wx := x) (wy := y) (lo := 0) (by decide)
              rw [e2, e]
              refine RN_bd (copies_run h) (fun _ S1 h1 => ?_)
              rw [moff_eq h1.1 hp6, bdq, if_neg ho, if_pos rfl]
              refine RN_bd (show RN (f_X10_plaitFrom 140 (nI p) 0 x y S1) _ from pf_run h1.1 hp (lo := 0) (by decide)) (fun r S2 h2 => ?_)
              obtain ⟨rfl, hE⟩ := h2
              have hq := h1.2.2.2.tr hE.mq
              unfold b_X10_plait_82 bestI
              by_cases c : (skA b s p x y 0).1 = 0
              · rw [if_pos c, if_pos c, if_pos (by decide)]; exact RN_some ⟨rfl, hq⟩
              · rw [if_neg c, if_neg c, if_neg (show ¬ nI (skA b s p x y 0).2 < 0 from nlt_l (b := 0) (by omega) (by omega) (by omega)), mbits_eq hle.2, bdq]
                rcases hj2 with rfl | rfl
                · rw [if_neg (by decide)]; exact RN_some ⟨rfl, hq⟩
                · rw [if_pos (by decide)]; exact RN_some ⟨rfl, hq⟩
      · refine ⟨-1, fun S h => ?_, fun S h => ?_⟩
        · unfold f_X9_plait
          rw [cP_eq h, bdq, hv, is1_s, if_neg ne10, show f_X9_isWithin w 0 1 S = _ from cin_eq 1 (by decide), bdq, within_eq, bdq, if_pos cx, if_neg ne10, within_eq, bdq, if_neg cy, if_pos rfl]
          split <;> exact RN_some ⟨rfl, CQ.rf⟩
        · unfold f_X10_plait
          rw [mP_eq h, bdq, hv, is1_s, if_neg ne10, in_eq, bdq, if_pos cx, if_neg ne10, in_eq, bdq, if_neg cy, if_pos rfl]
          exact RN_some ⟨rfl, QF.rf⟩
    · refine ⟨-1, fun S h => ?_, fun S h => ?_⟩
      · unfold f_X9_plait
        rw [cP_eq h, bdq, hv, is1_s, if_neg ne10, show f_X9_isWithin w 0 1 S = _ from cin_eq 1 (by decide), bdq, within_eq, bdq, if_neg cx, if_pos rfl]
        split <;> exact RN_some ⟨rfl, CQ.rf⟩
      · unfold f_X10_plait
        rw [mP_eq h, bdq, hv, is1_s, if_neg ne10, in_eq, bdq, if_neg cx, if_pos rfl]
        exact RN_some ⟨rfl, QF.rf⟩
end PLT

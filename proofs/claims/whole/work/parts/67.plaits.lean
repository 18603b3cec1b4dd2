/-! plaits: even, plait, nothing -/
section PLT
variable {B lv : Nat} {b : Bk} {s : ASea} {S S' : St}
def xA (b : Bk) (s : ASea) (p e : Nat) : Int32 := pullA b s e p (pX s p) (pY s p) * wayI (aR s (bWho b e)) (pX s p)
def yA (b : Bk) (s : ASea) (p e : Nat) : Int32 := pullA b s e p (pX s p) (pY s p) * wayI (aR s (4 + bWho b e)) (pY s p)
/-- what layOn lays -/
def LYN (b : Bk) (s : ASea) (p : Nat) (S : St) : Prop := S.1 130 2 = nI (bS b) ∧ S.1 130 3 = nI (aC s) ∧ ∀ e, e < bS b → S.1 131 e = xA b s p e ∧ S.1 132 e = yA b s p e
theorem CQ_pl {a k : Nat} {v : Int32} (h1 : 130 ≤ a) (h2 : a ≤ 132) : CQ B S (sI S a k v) := ⟨rfl, fun c j _ _ _ _ _ _ _ h => sI_ne (by omega)⟩
theorem lay_loop {p : Nat} (hp : p < bP b) (hb : wfB b) : ∀ (m fu i : Nat) (S : St), m < fu → i + m = bS b → QC B b s S → S.1 130 2 = nI (bS b) → S.1 130 3 = nI (aC s) → (∀ e, e < i → S.1 131 e = xA b s p e ∧ S.1 132 e = yA b s p e) → RN (b_X3_layOn_52 fu 130 39 (nI p) (pX s p) (pY s p) (nI i) S) (fun _ S' => LYN b s p S' ∧ CQ B S S') := by
  have h8 := hb.s8
  intro m
  induction m with
  | zero =>
    intro fu i S hf hi h h2 h3 hl
    obtain ⟨fu, rfl⟩ : ∃ f, fu = f + 1 := ⟨fu - 1, by omega⟩
    rw [b_X3_layOn_52, h2, if_pos (le_l (by omega) (by omega) (by omega))]
    have hi : i = bS b := by omega
    exact RN_some ⟨⟨h2, h3, fun e he => hl e (by omega)⟩, CQ.rf⟩
  | succ m ih =>
    intro fu i S hf hi h h2 h3 hl
    obtain ⟨fu, rfl⟩ : ∃ f, fu = f + 1 := ⟨fu - 1, by omega⟩
    have hi' : i < bS b := by omega
    have hB := h.hB
    rw [b_X3_layOn_52, h2, if_neg (nle_l (by omega) (by omega) (by omega))]
    refine RN_bd (pull_run h.w hi' hp _ _) (fun r S1 h1 => ?_)
    obtain ⟨hr, hE⟩ := h1
    have q1 := QC_q h hE.cq
    have ek : ∀ a k, 130 ≤ a → S1.1 a k = S.1 a k := fun a k ha => hE.2 a k (by omega) (by omega) (by omega)
    rw [wayAcross_eq q1.w hi', bdq, ixS hi' hb, obq, nmq, rc_130 q1.rf, hr]
    have q2 : QC B b s (sI S1 131 i (xA b s p i)) := QC_q q1 (CQ_pl (by decide) (by decide))
    rw [show pullA b s i p (pX s p) (pY s p) * wayI (aR s (bWho b i)) (pX s p) = xA b s p i from rfl, wayDown_eq q2.w hi', bdq, obq, nmq, rc_131 q2.rf, show pullA b s i p (pX s p) (pY s p) * wayI (aR s (4 + bWho b i)) (pY s p) = yA b s p i from rfl, nmq, nI_1]
    have q3 : CQ B S (sI (sI S1 131 i (xA b s p i)) 132 i (yA b s p i)) := hE.cq.tr ((CQ_pl (by decide) (by decide)).tr (CQ_pl (by decide) (by decide)))
    refine RN_mono (ih fu (i + 1) _ (by omega) (by omega) (QC_q h q3) ?_ ?_ (fun e he => ?_)) (fun _ S' hh => ⟨hh.1, q3.tr hh.2⟩)
    · rw [sI_ne (Or.inl (by decide)), sI_ne (Or.inl (by decide)), ek _ _ (by decide)]; exact h2
    · rw [sI_ne (Or.inl (by decide)), sI_ne (Or.inl (by decide)), ek _ _ (by decide)]; exact h3
    · by_cases ee : e = i
      · rw [ee]
        refine ⟨?_, sI_at⟩
        rw [sI_ne (Or.inl (by decide)), sI_at]
      · rw [sI_ne (Or.inl (by decide)), sI_ne (Or.inr ee), sI_ne (Or.inr ee), sI_ne (Or.inl (by decide)), ek _ _ (by decide), ek _ _ (by decide)]
        exact hl e (by omega)
theorem lay_run (h : QC B b s S) {p : Nat} (hp : p < bP b) : RN (f_X3_layOn (S.2.2 0 12) (S.2.2 0 7) (nI p) S) (fun _ S' => LYN b s p S' ∧ CQ B S S') := by
  have h8 := h.wb.s8
  unfold f_X3_layOn
  rw [rc_12 h.rf, rc_7 h.rf, ix16 hp h.wb, obq, nmq, ix22 hp h.wb, obq, nmq, h.w.r1, h.w.ra, h.w.rs.row (lt36_16 hp h.wb), h.w.rs.row (lt36_22 hp h.wb), nmq, h.w.r0, h.w.nS, nmq]
  have q1 : CQ B S (sI S 130 2 (nI (bS b))) := CQ_pl (by decide) (by decide)
  have h1 := QC_q h q1
  have ec : (sI S 130 2 (nI (bS b))).1 130 2 = nI (bS b) := sI_at
  revert q1 h1 ec
  generalize sI S 130 2 (nI (bS b)) = S1
  intro q1 h1 ec
  rw [h1.w.r1, h1.w.rs.2.2.2.2]
  have q2 : CQ B S1 (sI S1 130 3 (nI (aC s))) := CQ_pl (by decide) (by decide)
  exact RN_mono (lay_loop hp h.wb (bS b) FU 0 _ (by unfold FU; omega) (by omega) (QC_q h1 q2) ((sI_ne (Or.inr (by decide))).trans ec) sI_at (fun e he => absurd he (Nat.not_lt_zero _))) (fun _ S' hh => ⟨hh.1, (q1.tr q2).tr hh.2⟩)
theorem LYN_q {p : Nat} (h : LYN b s p S) (hE : S'.2 = S.2 ∧ ∀ a k, 130 ≤ a → a ≤ 132 → (a = 130 → k < 4) → S'.1 a k = S.1 a k) : LYN b s p S' := ⟨(hE.2 _ _ (by decide) (by decide) (by decide)).trans h.1, (hE.2 _ _ (by decide) (by decide) (by decide)).trans h.2.1, fun e he => ⟨(hE.2 _ _ (by decide) (by decide) (fun q => absurd q (by decide))).trans (h.2.2 e he).1, (hE.2 _ _ (by decide) (by decide) (fun q => absurd q (by decide))).trans (h.2.2 e he).2⟩⟩
abbrev fQ (b : Bk) (s : ASea) (p set : Nat) : Int32 × Int32 := feelQ b s (fun e => set.testBit e) p (pX s p) (pY s p)
theorem cpb_loop {p set : Nat} (hset : set < 256) (hb : wfB b) (hl : LYN b s p S) (hr : RFC B S.2.2) {wx wy : Int32} : ∀ (m fu i : Nat) (x y : Int32), m < fu → i + m = bS b → b_X3_pullsBy_9 fu 130 (nI set) (wx - x) (wy - y) (nI i) S = some (if feelF (fun e => pullA b s e p (pX s p) (pY s p)) (fun e => wayI (aR s (bWho b e)) (pX s p)) (fun e => wayI (aR s (4 + bWho b e)) (pY s p)) (fun e => set.testBit e) m i x y = (wx, wy) then 1 else 0, S) := by
  have h8 := hb.s8
  intro m
  induction m with
  | zero =>
    intro fu i x y hf hi
    obtain ⟨fu, rfl⟩ : ∃ f, fu = f + 1 := ⟨fu - 1, by omega⟩
    rw [b_X3_pullsBy_9, hl.1, if_pos (le_l (by omega) (by omega) (by omega))]
    have e1 : (wx - x = 0) ↔ x = wx := by rw [Int32.sub_eq_iff_eq_add, Int32.zero_add]; exact eq_comm
    have e2 : (wy - y = 0) ↔ y = wy := by rw [Int32.sub_eq_iff_eq_add, Int32.zero_add]; exact eq_comm
    show _ = some (if (x, y) = (wx, wy) then (1 : Int32) else 0, S)
    by_cases c1 : x = wx
    · rw [if_pos (e1.mpr c1)]
      by_cases c2 : y = wy
      · rw [if_pos (e2.mpr c2), if_pos (by rw [c1, c2])]
      · rw [if_neg (fun q => c2 (e2.mp q)), if_neg (fun q => c2 (congrArg Prod.snd q))]
    · rw [if_neg (fun q => c1 (e1.mp q)), if_neg (fun q => c1 (congrArg Prod.fst q))]
  | succ m ih =>
    intro fu i x y hf hi
    obtain ⟨fu, rfl⟩ : ∃ f, fu = f + 1 := ⟨fu - 1, by omega⟩
    have hi' : i < bS b := by omega
    rw [b_X3_pullsBy_9, hl.1, if_neg (nle_l (by omega) (by omega) (by omega)), flag_eq hset (by omega)]
    unfold feelF b_X3_pullsBy_51
    by_cases c : set.testBit i = true
    · rw [if_pos c, if_pos c, ixS hi' hb, obq, nmq, obq, nmq, rc_130 hr, rc_131 hr, (hl.2.2 i hi').1, (hl.2.2 i hi').2, nmq, nI_1, Int32.sub_sub, Int32.sub_sub]
      exact ih fu (i + 1) _ _ (by omega) (by omega)
    · rw [if_neg c, if_neg c, nmq, nI_1]
      exact ih fu (i + 1) x y (by omega) (by omega)
theorem cpb_eq {p set : Nat} (hset : set < 256) (hb : wfB b) (hl : LYN b s p S) (hr : RFC B S.2.2) {wx wy : Int32} : f_X3_pullsBy 130 (nI set) wx wy S = some (if fQ b s p set = (wx, wy) then 1 else 0, S) := by
  have h8 := hb.s8
  have h := cpb_loop hset hb hl hr (wx := wx) (wy := wy) (bS b) FU 0 0 0 (by unfold FU; omega) (by omega)
  rw [sub_0, sub_0] at h
  exact h
/-- how many bits -/
def pcN (o : Nat) : Nat := cntF (fun k => o.testBit k) 8 0
def bcI (v0 : Int32) : Int32 := (match f_J6_bitCount_0f7a4 v0 (fun _ _ => 0, fun _ _ => 0, fun _ _ => 0) with | some r => r.1 | none => 0)
theorem bcI_eq {v0 : Int32} : f_J6_bitCount_0f7a4 v0 S = some (bcI v0, S) := rfl
theorem bcI_pc : ∀ o : Nat, o < 256 → bcI (nI o) = nI (pcN o) := by decide +kernel
theorem bitc_eq {o : Nat} (h : o < 256) : f_J6_bitCount_0f7a4 (nI o) S = some (nI (pcN o), S) := by rw [bcI_eq, bcI_pc o h]
theorem bit_n : ∀ o : Nat, o < 256 → ∀ p : Nat, p < 8 → ((nI o >>> (nI p &&& 31)) &&& (1 : Int32)) = nI (if o.testBit p then 1 else 0) := by decide +kernel
theorem mbits_loop {o : Nat} (ho : o < 256) : ∀ (m fu i c : Nat), m < fu → i + m = 8 → b_X10_bits_4 fu (nI o) (nI c) (nI i) S = some (nI (c + cntF (fun k => o.testBit k) m i), S) := by
  intro m
  induction m with
  | zero =>
    intro fu i c hf hi
    obtain ⟨fu, rfl⟩ : ∃ f, fu = f + 1 := ⟨fu - 1, by omega⟩
    have hi : i = 8 := by omega
    subst hi
    rw [b_X10_bits_4, if_pos (by decide)]
    rfl
  | succ m ih =>
    intro fu i c hf hi
    obtain ⟨fu, rfl⟩ : ∃ f, fu = f + 1 := ⟨fu - 1, by omega⟩
    rw [b_X10_bits_4, if_neg (show ¬ (8 : Int32) ≤ nI i from nle_l (a := 8) (by omega) (by omega) (by omega)), nmq, nmq, nI_1, bit_n o ho i (by omega), nI_add, ih fu (i + 1) _ (by omega) (by omega), Nat.add_assoc]
    rfl
theorem mbits_eq {o : Nat} (ho : o < 256) : f_X10_bits (nI o) S = some (nI (pcN o), S) := by
  unfold f_X10_bits
  rw [show b_X10_bits_4 FU (nI o) 0 0 S = _ from mbits_loop ho 8 FU 0 0 (by decide) (by omega), Nat.zero_add]
  rfl
theorem pc8 {o : Nat} : pcN o ≤ 8 := cntF_le 8 0
/-- all sets in their order: how many fit, and the first with the fewest -/
def skF (q : Nat → Bool) : Nat → Nat → Nat → Nat → Nat × Nat
  | 0, _, c, f => (c, f)
  | m + 1, i, c, f => if q i then skF q m (i + 1) (c + 1) (if c = 0 ∨ pcN i < pcN f then i else f) else skF q m (i + 1) c f
theorem skF_congr {q q' : Nat → Bool} : ∀ (m i c f : Nat), (∀ j, i ≤ j → j < i + m → q j = q' j) → skF q m i c f = skF q' m i c f
  | 0, _, _, _, _ => rfl
  | m + 1, i, c, f, h => by
    unfold skF
    rw [h i (Nat.le_refl _) (by omega), skF_congr m (i + 1) (c + 1) _ (fun j h1 h2 => h j (by omega) (by omega)), skF_congr m (i + 1) c f (fun j h1 h2 => h j (by omega) (by omega))]
theorem sh8 : ∀ n : Nat, n ≤ 8 → (1 : Int32) <<< (nI n &&& 31) = nI (2 ^ n) := by decide
theorem nI_and {x y : Nat} : nI x &&& nI y = nI (x &&& y) := by
  rw [← Int32.toBitVec_inj]
  show BitVec.ofNat 32 x &&& BitVec.ofNat 32 y = BitVec.ofNat 32 (x &&& y)
  apply BitVec.eq_of_getLsbD_eq
  intro i hi
  simp [BitVec.getLsbD_and, BitVec.getLsbD_ofNat, hi]
theorem and_c {o c : Nat} (h : o < 256) : (nI o &&& nI c = 0) ↔ o &&& c = 0 := by
  rw [nI_and]
  have := Nat.and_le_left (n := o) (m := c)
  exact nI_eq (b := 0) (by omega) (by decide)
theorem seek_step {p : Nat} (hb : wfB b) {wx wy : Int32} (hC : aC s < 256) : ∀ (m fu i c f : Nat) (S : St), m < fu → i + m = 2 ^ bS b → QC B b s S → LYN b s p S → S.1 130 4 = nI c → S.1 130 5 = nI f → c ≤ 300 → f < 256 → RN (b_X3_seek_13 fu 130 wx wy (nI i) S) (fun _ S' => S'.1 130 4 = nI (skF (fun k => decide (k &&& aC s = 0) && decide (fQ b s p k = (wx, wy))) m i c f).1 ∧ S'.1 130 5 = nI (skF (fun k => decide (k &&& aC s = 0) && decide (fQ b s p k = (wx, wy))) m i c f).2 ∧ CQ B S S') := by
  sorry
end PLT

/-! first, cutBest, give -/
section FST
variable {B lv : Nat} {b : Bk} {s : ASea} {S S' : St}
/-- behind how many MONTHS somebody more is OFF -/
def fnF (b : Bk) (s : ASea) : Nat → Nat → Nat
  | 0, _ => 101
  | m + 1, i => if aO (mths b none 0 (bP b) s i) = aO s then fnF b s m (i + 1) else i
def fN (b : Bk) (s : ASea) : Nat := fnF b s 100 1
/-- the Sea then -/
def fS (b : Bk) (s : ASea) : ASea := mths b none 0 (bP b) s (if fN b s = 101 then 100 else fN b s)
theorem fnF_le : ∀ (m i : Nat), i + m ≤ 101 → fnF b s m i ≤ 101 ∧ i ≤ fnF b s m i
  | 0, i, h => ⟨Nat.le_refl _, h⟩
  | m + 1, i, h => by
    unfold fnF
    split
    · obtain ⟨h1, h2⟩ := fnF_le m (i + 1) (by omega)
      exact ⟨h1, by omega⟩
    · exact ⟨by omega, Nat.le_refl _⟩
theorem fN_le : fN b s ≤ 101 := (fnF_le 100 1 (by omega)).1
theorem fN_ge : 1 ≤ fN b s := (fnF_le 100 1 (by omega)).2
theorem fnF_min {n : Nat} : ∀ (m i : Nat), i + m = 101 → i ≤ n → n ≤ 100 → ¬ aO (mths b none 0 (bP b) s n) = aO s → fnF b s m i ≤ n
  | 0, i, h1, h2, h3, _ => by omega
  | m + 1, i, h1, h2, h3, h4 => by
    unfold fnF
    by_cases c : aO (mths b none 0 (bP b) s i) = aO s
    · rw [if_pos c]
      have : i ≠ n := fun q => h4 (q ▸ c)
      exact fnF_min m (i + 1) (by omega) (by omega) h3 h4
    · rw [if_neg c]
      exact h2
theorem fnF_at : ∀ (m i : Nat), i + m = 101 → fnF b s m i ≠ 101 → ¬ aO (mths b none 0 (bP b) s (fnF b s m i)) = aO s
  | 0, i, _, h => absurd rfl h
  | m + 1, i, h1, h => by
    unfold fnF at h ⊢
    by_cases c : aO (mths b none 0 (bP b) s i) = aO s
    · rw [if_pos c] at h ⊢
      exact fnF_at m (i + 1) (by omega) h
    · rw [if_neg c]
      exact c
theorem fN_min {n : Nat} (h1 : 1 ≤ n) (h2 : n ≤ 100) (h : ¬ aO (mths b none 0 (bP b) s n) = aO s) : fN b s ≤ n := fnF_min 100 1 (by omega) h1 h2 h
theorem fN_at (h : fN b s ≠ 101) : ¬ aO (fS b s) = aO s := by
  unfold fS
  rw [if_neg h]
  exact fnF_at 100 1 (by omega) h
/-! off they stay -/
theorem goP_mono {sd : Option Int32} {p i : Nat} (h : (aO s).testBit i = true) : (aO (goP b sd s p)).testBit i = true := by
  unfold goP
  split
  · exact h
  · show (if _ then _ else _ : Nat).testBit i = true
    split
    · rw [tb_or, h]; rfl
    · exact h
theorem goM_mono {sd : Option Int32} {lo i : Nat} (h : (aO s).testBit i = true) : ∀ n, (aO (goM b sd s lo n)).testBit i = true
  | 0 => h
  | n + 1 => goP_mono (goM_mono h n)
theorem month_O {sd : Option Int32} {lo n : Nat} : aO (monthA b sd lo n s) = aO (goM b sd s lo n) := by
  show (swimAll (goM b sd s lo n) (bM b)).2.2.1 = _
  rw [swimAll_2]
theorem month_D {sd : Option Int32} {lo n : Nat} : aD (monthA b sd lo n s) = aD s := by
  show (swimAll (goM b sd s lo n) (bM b)).2.2.2.1 = _
  rw [swimAll_2]
  exact goM_D n
theorem month_C {sd : Option Int32} {lo n : Nat} : aC (monthA b sd lo n s) = aC s := by
  show (swimAll (goM b sd s lo n) (bM b)).2.2.2.2 = _
  rw [swimAll_2]
  exact goM_C n
theorem mths_mono {sd : Option Int32} {lo n i : Nat} (h : (aO s).testBit i = true) : ∀ k, (aO (mths b sd lo n s k)).testBit i = true
  | 0 => h
  | k + 1 => by
    show (aO (monthA b sd lo n (mths b sd lo n s k))).testBit i = true
    rw [month_O]
    exact goM_mono (mths_mono h k) n
theorem goP_out {sd : Option Int32} {p i : Nat} (hi : p ≠ i) (h : (aO s).testBit i = false) : (aO (goP b sd s p)).testBit i = false := by rw [goP_O hi]; exact h
theorem goM_outO {sd : Option Int32} {lo i : Nat} (h : (aO s).testBit i = false) : ∀ n, lo + n ≤ i → (aO (goM b sd s lo n)).testBit i = false
  | 0, _ => h
  | n + 1, hn => goP_out (by omega) (goM_outO h n (by omega))
theorem month_wfO {sd : Option Int32} {lo n : Nat} (hn : lo + n ≤ bP b) (h : wfO b s) : wfO b (monthA b sd lo n s) := by
  refine ⟨fun i hi => ?_, fun i hi => ?_, fun i hi => ?_⟩
  · rw [month_O]; exact goM_outO (h.1 i hi) n (by omega)
  · rw [month_D]; exact h.2.1 i hi
  · rw [month_C]; exact h.2.2 i hi
theorem mths_wfO {sd : Option Int32} {lo n : Nat} (hn : lo + n ≤ bP b) (h : wfO b s) : ∀ k, wfO b (mths b sd lo n s k)
  | 0 => h
  | k + 1 => month_wfO hn (mths_wfO hn h k)
/-! the class -/
theorem cfirst_loop (hw : wfS s) (hM : aM s ≤ 32000) : ∀ (m fu i : Nat) (S : St), m < fu → i + m = 100 → CW B 40 37 b (mths b none 0 (bP b) s i) S → RN (b_X8_goUntilFirst_10 fu 40 (nI (aO s)) (nI (i + 1)) S) (fun r S' => r = nI (fnF b s m (i + 1)) ∧ CW B 40 37 b (mths b none 0 (bP b) s (if fnF b s m (i + 1) = 101 then 100 else fnF b s m (i + 1))) S' ∧ GO B 40 37 S S') := by
  intro m
  induction m with
  | zero =>
    intro fu i S hf hi h
    obtain ⟨fu, rfl⟩ : ∃ f, fu = f + 1 := ⟨fu - 1, by omega⟩
    have hi : i = 100 := by omega
    subst hi
    rw [b_X8_goUntilFirst_10, if_pos (show (101 : Int32) ≤ nI (100 + 1) by decide)]
    exact RN_some ⟨rfl, h, GO.rf⟩
  | succ m ih =>
    intro fu i S hf hi h
    obtain ⟨fu, rfl⟩ : ∃ f, fu = f + 1 := ⟨fu - 1, by omega⟩
    rw [b_X8_goUntilFirst_10, if_neg (show ¬ (101 : Int32) ≤ nI (i + 1) from nle_l (a := 101) (by omega) (by omega) (by omega)), h.r0, h.nP, show nI (bP b) = nI (0 + bP b) by rw [Nat.zero_add]]
    refine RN_bd (month_run h (by rw [mths_M]; omega) (lo := 0) (n := bP b) (by omega) 0) (fun _ S1 h1 => ?_)
    have c1 : CW B 40 37 b (mths b none 0 (bP b) s (i + 1)) S1 := h1.1
    rw [c1.r1, c1.rs.2.2.1]
    have o1 := c1.ws.2.1
    have o2 := hw.2.1
    unfold fnF
    by_cases c : aO (mths b none 0 (bP b) s (i + 1)) = aO s
    · rw [if_pos (by rw [c]), if_pos c, nmq, nI_1]
      exact RN_mono (ih fu (i + 1) S1 (by omega) (by omega) c1) (fun _ S' hh => ⟨hh.1, hh.2.1, h1.2.tr hh.2.2⟩)
    · rw [if_neg (fun q => c ((nI_eq (by omega) (by omega)).mp q)), if_neg c]
      exact RN_some ⟨rfl, by rw [if_neg (show ¬ i + 1 = 101 by omega)]; exact c1, h1.2⟩
theorem cfirst_run (h : CW B 40 37 b s S) (hM : aM s ≤ 32000) : RN (f_X8_goUntilFirst 40 S) (fun r S' => r = nI (fN b s) ∧ CW B 40 37 b (fS b s) S' ∧ GO B 40 37 S S') := by
  unfold f_X8_goUntilFirst
  rw [nmq, h.r1, h.rs.2.2.1]
  exact cfirst_loop h.ws hM 100 FU 0 S (by decide) (by omega) h
/-! bits that are in one and not in the other -/
def dfN (x y : Nat) : Nat := (x ||| y) ^^^ y
theorem dfN_tb {x y i : Nat} : (dfN x y).testBit i = (x.testBit i && !y.testBit i) := by
  unfold dfN
  rw [Nat.testBit_xor, Nat.testBit_or]
  cases x.testBit i <;> cases y.testBit i <;> rfl
theorem dfN_eq {x y : Nat} : nI x &&& (nI y ^^^ (-1 : Int32)) = nI (dfN x y) := by
  rw [← Int32.toBitVec_inj]
  show BitVec.ofNat 32 x &&& (BitVec.ofNat 32 y ^^^ BitVec.allOnes 32) = BitVec.ofNat 32 (dfN x y)
  apply BitVec.eq_of_getLsbD_eq
  intro i hi
  simp only [BitVec.getLsbD_and, BitVec.getLsbD_xor, BitVec.getLsbD_ofNat, BitVec.getLsbD_allOnes, hi, decide_true, Bool.true_and, dfN_tb, Bool.xor_true]
theorem dfN_lt {x y n : Nat} (hx : x < 2 ^ n) (hy : y < 2 ^ n) : dfN x y < 2 ^ n := Nat.xor_lt_two_pow (Nat.or_lt_two_pow hx hy) hy
theorem dfN_0 {x y : Nat} (h : ∀ i, y.testBit i = true → x.testBit i = true) : dfN x y = 0 ↔ x = y := by
  constructor
  · intro h0
    refine nat_ext (fun i => ?_)
    have h1 := congrArg (fun v => v.testBit i) h0
    simp only [dfN_tb, Nat.zero_testBit] at h1
    cases hx : x.testBit i with
    | true => rw [hx] at h1; cases hy : y.testBit i with
      | true => rfl
      | false => rw [hy] at h1; cases h1
    | false => cases hy : y.testBit i with
      | true => rw [h i hy] at hx; cases hx
      | false => rfl
  · intro e
    refine nat_ext (fun i => ?_)
    rw [dfN_tb, e, Nat.zero_testBit]
    cases y.testBit i <;> rfl
/-- the lowest of some bits -/
def lowN (D : Nat) : Nat → Nat → Nat
  | 0, i => i
  | m + 1, i => if D.testBit i then i else lowN D m (i + 1)
theorem low_ex {D : Nat} (hD : D < 64) (h : ¬ D = 0) : ∃ j, j < 6 ∧ D.testBit j = true := by
  refine Classical.byContradiction (fun hn => h (nat_ext (fun i => ?_)))
  rw [Nat.zero_testBit]
  rcases Nat.lt_or_ge i 6 with g | g
  · cases hb : D.testBit i with
    | true => exact absurd ⟨i, g, hb⟩ hn
    | false => rfl
  · exact Nat.testBit_lt_two_pow (Nat.lt_of_lt_of_le hD (Nat.pow_le_pow_right (n := 2) (by decide) g))
theorem clow_loop {D : Nat} (hD : D < 256) {j : Nat} (hj : j < 6) (hb : D.testBit j = true) : ∀ (m fu i : Nat), m < fu → i + m = 6 → i ≤ j → b_X9_lowestOf_2 fu (nI D) (nI i) S = some (nI (lowN D m i), S) := by
  intro m
  induction m with
  | zero => intro fu i hf hi hij; omega
  | succ m ih =>
    intro fu i hf hi hij
    obtain ⟨fu, rfl⟩ : ∃ f, fu = f + 1 := ⟨fu - 1, by omega⟩
    rw [b_X9_lowestOf_2, if_neg (show ¬ (6 : Int32) ≤ nI i from nle_l (a := 6) (by omega) (by omega) (by omega)), flag_eq hD (by omega)]
    unfold lowN
    by_cases c : D.testBit i = true
    · rw [if_pos c, if_pos c]
    · rw [if_neg c, if_neg c, nmq, nI_1]
      have : i ≠ j := fun q => c (q ▸ hb)
      exact ih fu (i + 1) (by omega) (by omega) (by omega)
/-! the reference -/
theorem mlow_loop {D : Nat} (hD : D < 256) {j : Nat} (hj : j < 6) (hb : D.testBit j = true) {n : Int32} : ∀ (m fu i : Nat) (S : St), m < fu → i + m = 6 → i ≤ j → S.1 140 63 = nI i → RN (b_X10_firstFrom_43 fu 140 n (nI D) S) (fun r S' => r = n ∧ S'.1 140 63 = nI (lowN D m i) ∧ S'.2 = S.2 ∧ ∀ a k, (a = 140 → k ≠ 63) → S'.1 a k = S.1 a k) := by
  intro m
  induction m with
  | zero => intro fu i S hf hi hij h; omega
  | succ m ih =>
    intro fu i S hf hi hij h
    obtain ⟨fu, rfl⟩ : ∃ f, fu = f + 1 := ⟨fu - 1, by omega⟩
    rw [b_X10_firstFrom_43, h, flag_eq hD (by omega)]
    unfold lowN
    by_cases c : D.testBit i = true
    · rw [if_pos c, if_pos c]
      exact RN_some ⟨rfl, h, rfl, fun _ _ _ => rfl⟩
    · rw [if_neg c, if_neg c, nmq, nI_1]
      have : i ≠ j := fun q => c (q ▸ hb)
      exact RN_mono (ih fu (i + 1) _ (by omega) (by omega) (by omega) sI_at) (fun _ S' hh => ⟨hh.1, hh.2.1, hh.2.2.1, fun a k h => (hh.2.2.2 a k h).trans (sI_ne (by omega))⟩)
/-- who is first OFF -/
def fW (b : Bk) (s : ASea) : Int32 := if fN b s = 101 then -2 else nI (lowN (dfN (aO (fS b s)) (aO s)) 6 0)
/-- what firstFrom changes -/
def MF (S S' : St) : Prop := S'.2 = S.2 ∧ ∀ a k, a ≠ 172 → a ≠ 173 → a ≠ 175 → (a < 176 ∨ 179 < a) → (a = 140 → k ≠ 50 ∧ k ≠ 54 ∧ k ≠ 55 ∧ k ≠ 56 ∧ k ≠ 63) → S'.1 a k = S.1 a k
theorem MF.tr {S S' S'' : St} (h : MF S S') (h' : MF S' S'') : MF S S'' := ⟨h'.1.trans h.1, fun a k h1 h2 h3 h4 h5 => (h'.2 a k h1 h2 h3 h4 h5).trans (h.2 a k h1 h2 h3 h4 h5)⟩
theorem MF.mq (h : MF S S') : QF S S' := ⟨h.1, fun a k h1 h2 h3 h4 h5 => h.2 a k h1 h2 h3 h4 (fun q => ⟨(h5 q).1, (h5 q).2.2.1, (h5 q).2.2.2.1, (h5 q).2.2.2.2.1, (h5 q).2.2.2.2.2⟩)⟩
theorem MG.mf (h : MG S S') : MF S S' := ⟨h.1, fun a k h1 h2 h3 h4 h5 => h.2 a k h1 h2 h3 h4 (fun q => ⟨(h5 q).1, (h5 q).2.2.1, (h5 q).2.2.2.1⟩)⟩
theorem dfN_aO (hO : wfO b s) {k : Nat} : dfN (aO (mths b none 0 (bP b) s k)) (aO s) = 0 ↔ aO (mths b none 0 (bP b) s k) = aO s := dfN_0 (fun i h => mths_mono h k)
theorem mfirst_loop (hw : wfS s) (hM : aM s ≤ 32000) (hO : wfO b s) : ∀ (m fu i : Nat) (S : St), m < fu → i + m = 100 → CMx lv b (mths b none 0 (bP b) s i) S → sdM S = none → RN (b_X10_firstFrom_12 fu 140 (nI (aO s)) (nI (i + 1)) S) (fun r S' => r = nI (fnF b s m (i + 1)) ∧ S'.1 140 63 = (if fnF b s m (i + 1) = 101 then -2 else nI (lowN (dfN (aO (mths b none 0 (bP b) s (fnF b s m (i + 1)))) (aO s)) 6 0)) ∧ MF S S') := by
  intro m
  induction m with
  | zero =>
    intro fu i S hf hi h hs
    obtain ⟨fu, rfl⟩ : ∃ f, fu = f + 1 := ⟨fu - 1, by omega⟩
    have hi : i = 100 := by omega
    subst hi
    rw [b_X10_firstFrom_12, if_pos (show (100 : Int32) < nI (100 + 1) by decide), nmq]
    exact RN_some ⟨rfl, sI_at, rfl, fun a k _ _ _ _ h5 => sI_ne (by omega)⟩
  | succ m ih =>
    intro fu i S hf hi h hs
    obtain ⟨fu, rfl⟩ : ∃ f, fu = f + 1 := ⟨fu - 1, by omega⟩
    rw [b_X10_firstFrom_12, if_neg (show ¬ (100 : Int32) < nI (i + 1) from nlt_l (a := 100) (by omega) (by omega) (by omega))]
    refine RN_bd (mmonth_run h (by rw [mths_M]; omega)) (fun _ S1 h1 => ?_)
    obtain ⟨c1, -, g1⟩ := h1
    rw [hs] at c1
    have c1 : CMx lv b (mths b none 0 (bP b) s (i + 1)) S1 := c1
    have hO1 := (mths_wfO (sd := none) (lo := 0) (n := bP b) (by omega) hO (i + 1)).1
    rw [offb_eq c1 hO1, bdq, nmq, dfN_eq]
    have o1 : aO (mths b none 0 (bP b) s (i + 1)) < 64 := c1.ws.2.1
    have o2 := hw.2.1
    have hlt : dfN (aO (mths b none 0 (bP b) s (i + 1))) (aO s) < 64 := dfN_lt (n := 6) o1 o2
    unfold fnF
    by_cases c : aO (mths b none 0 (bP b) s (i + 1)) = aO s
    · rw [if_pos (by rw [(dfN_aO hO).mpr c]; rfl), if_pos c, nmq, nI_1]
      exact RN_mono (ih fu (i + 1) S1 (by omega) (by omega) c1 ((sdM_g g1).trans hs)) (fun _ S' hh => ⟨hh.1, hh.2.1, g1.mf.tr hh.2.2⟩)
    · have hd : ¬ dfN (aO (mths b none 0 (bP b) s (i + 1))) (aO s) = 0 := fun q => c ((dfN_aO hO).mp q)
      rw [if_neg (nI_nz hd (by omega)), if_neg c, nmq, if_neg (show ¬ i + 1 = 101 by omega)]
      obtain ⟨j, hj, hbj⟩ := low_ex hlt hd
      refine RN_mono (mlow_loop (by omega) hj hbj 6 FU 0 _ (by decide) (by omega) (Nat.zero_le _) sI_at) (fun _ S' hh => ⟨hh.1, hh.2.1, g1.mf.tr ⟨hh.2.2.1, fun a k _ _ _ _ h5 => ?_⟩⟩)
      rw [hh.2.2.2 a k (by omega), sI_ne (by omega)]
theorem mfirst_run (h : CMx lv b s S) (hM : aM s ≤ 32000) (hO : wfO b s) : RN (f_X10_firstFrom 140 S) (fun r S' => r = nI (fN b s) ∧ S'.1 140 63 = fW b s ∧ MF S S') := by
  unfold f_X10_firstFrom
  rw [nmq]
  have hq : MF S (sI S 140 54 1) := ⟨rfl, fun a k _ _ _ _ h5 => sI_ne (by omega)⟩
  have h1 : CMx lv b s (sI S 140 54 1) := ⟨KM_set h.k rfl (sI_ne (Or.inr (by decide))) (fun a i h1 h2 => sI_ne (Or.inl (by omega))), RW_set h.row (fun i => sI_ne (Or.inl (by decide))), h.2.2⟩
  have hs : sdM (sI S 140 54 1) = none := sdM_none sI_at
  rw [offb_eq h1 hO.1, bdq]
  refine RN_mono (mfirst_loop h.ws hM hO 100 FU 0 _ (by decide) (by omega) h1 hs) (fun r S' hh => ⟨hh.1, ?_, hq.tr hh.2.2⟩)
  rw [hh.2.1]
  unfold fW fS
  show (if fN b s = 101 then (-2 : Int32) else nI (lowN (dfN (aO (mths b none 0 (bP b) s (fN b s))) (aO s)) 6 0)) = _
  by_cases c : fN b s = 101
  · rw [if_pos c, if_pos c]
  · rw [if_neg c, if_neg c, if_neg c]
theorem q_first (w : Int32) : PQ B lv b s (f_X9_first 0 w) (f_X10_first 140 w) := by
  cases hw : idx 2 w with
  | none =>
    refine ⟨-1, fun S h => ?_, fun S h => ?_⟩
    · unfold f_X9_first
      rw [show f_X9_isWithin w 0 1 S = _ from cin_eq 1 (by decide), bdq, hw, is1_n, if_pos rfl]
      exact RN_some ⟨rfl, CQ.rf⟩
    · unfold f_X10_first
      rw [show f_X10_in w 0 1 S = _ from min_eq 1 (by decide), bdq, hw, is1_n, if_pos rfl]
      exact RN_some ⟨rfl, QF.rf⟩
  | some j =>
    obtain ⟨rfl, hj⟩ := idx_some (by decide) hw
    have hj2 : j = 0 ∨ j = 1 := by omega
    have hle := fN_le (b := b) (s := s)
    refine ⟨if fN b s = 101 then -2 else if j = 0 then nI (fN b s) else fW b s, fun S h => ?_, fun S h => ?_⟩
    · unfold f_X9_first
      rw [show f_X9_isWithin (nI j) 0 1 S = _ from cin_eq 1 (by decide), bdq, hw, is1_s, if_neg ne10]
      refine RN_bd (ctrial_run h) (fun _ S1 h1 => ?_)
      have r1 : RFC B S1.2.2 := by rw [h1.2.1]; exact h.rf
      rw [rc_8 r1]
      refine RN_bd (cfirst_run h1.1 (by have := h.wa.1; omega)) (fun r S2 h2 => ?_)
      obtain ⟨rfl, c2, g2⟩ := h2
      have hq := h1.2.tr g2.cq
      have q2 := QC_q h hq
      by_cases c : fN b s = 101
      · rw [if_pos (by rw [c]; rfl), if_pos c]
        exact RN_some ⟨rfl, hq⟩
      · rw [if_neg (show ¬ nI (fN b s) = 101 from fun q => c ((nI_eq (b := 101) (by omega) (by decide)).mp q)), if_neg c]
        rcases hj2 with rfl | rfl
        · rw [if_pos (by decide)]
          exact RN_some ⟨rfl, hq⟩
        · rw [if_neg (by decide), rc_6 q2.rf, rc_5 q2.rf, c2.rs.2.2.1, q2.w.rs.2.2.1, dfN_eq]
          have hlt : dfN (aO (fS b s)) (aO s) < 64 := dfN_lt (n := 6) c2.ws.2.1 h.w.ws.2.1
          have hd : ¬ dfN (aO (fS b s)) (aO s) = 0 := by
            have hA := fN_at c
            unfold fS at hA ⊢
            exact fun q => hA ((dfN_aO h.wa.2.2.2).mp q)
          obtain ⟨i, hi, hbi⟩ := low_ex hlt hd
          unfold f_X9_lowestOf
          rw [show b_X9_lowestOf_2 FU (nI (dfN (aO (fS b s)) (aO s))) 0 S2 = _ from clow_loop (by omega) hi hbi 6 FU 0 (by decide) (by omega) (Nat.zero_le _), bdq]
          refine RN_some ⟨?_, hq⟩
          unfold fW
          rw [if_neg (show ¬ (1 : Nat) = 0 by decide), if_neg c]
    · unfold f_X10_first
      rw [show f_X10_in (nI j) 0 1 S = _ from min_eq 1 (by decide), bdq, hw, is1_s, if_neg ne10]
      refine RN_bd (copies_run h) (fun _ S1 h1 => ?_)
      refine RN_bd (mfirst_run h1.1 (by have := h.wa.1; omega) h.wa.2.2.2) (fun r S2 h2 => ?_)
      obtain ⟨rfl, f2, g2⟩ := h2
      have hq := h1.2.2.2.tr g2.mq
      rw [f2]
      by_cases c : fN b s = 101
      · rw [if_pos (show nI (fN b s) = 101 by rw [c]; rfl), if_pos c]
        unfold fW
        rw [if_pos c]
        split <;> exact RN_some ⟨rfl, hq⟩
      · rw [if_neg (show ¬ nI (fN b s) = 101 from fun q => c ((nI_eq (b := 101) (by omega) (by decide)).mp q)), if_neg c]
        rcases hj2 with rfl | rfl
        · rw [if_neg (by decide)]
          exact RN_some ⟨rfl, hq⟩
        · rw [if_pos (by decide)]
          exact RN_some ⟨rfl, hq⟩
end FST

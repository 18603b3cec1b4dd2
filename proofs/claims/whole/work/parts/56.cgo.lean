/-! the class: what is felt, and how a MONTH goes -/
section CGO
variable {B w a : Nat} {b : Bk} {s : ASea} {S : St}
theorem wayI_eq {x y : Int32} : f_X9_wayTo x y S = some (wayI x y, S) := by
  unfold f_X9_wayTo wayI
  split
  · rfl
  · split <;> rfl
theorem EV.felt {S' : St} (h : CW B w a b s S) (hE : EV B S S') {k : Nat} : S'.1 w k = S.1 w k := hE.2 w k (by have := h.hB; have := h.hw; omega) (by have := h.hB; have := h.hw; omega) (by have := h.hB; have := h.hw; omega)
theorem EW_2 {v : Int32} : EW B w S (sI S w 2 v) := ⟨rfl, fun c k _ _ _ h => sI_ne (by omega)⟩
theorem EW_3 {v : Int32} : EW B w S (sI S w 3 v) := ⟨rfl, fun c k _ _ _ h => sI_ne (by omega)⟩
theorem wayAcross_eq (h : CW B w a b s S) {e : Nat} (he : e < bS b) (x : Int32) : f_X8_wayAcross w (nI e) x S = some (wayI (aR s (bWho b e)) x, S) := by
  have h4 := h.wb.w4 he
  unfold f_X8_wayAcross
  rw [ixS he h.wb, obq, h.r0, h.b8, h.who he, show (0 : Int32) + nI (bWho b e) = nI (bWho b e) by rw [show (0 : Int32) = nI 0 from rfl, nI_add, Nat.zero_add], ix_nI (by omega) (by decide), obq, h.r1, h.ra, h.rs.row (by omega), wayI_eq, bdq]
theorem wayDown_eq (h : CW B w a b s S) {e : Nat} (he : e < bS b) (y : Int32) : f_X8_wayDown w (nI e) y S = some (wayI (aR s (4 + bWho b e)) y, S) := by
  have h4 := h.wb.w4 he
  unfold f_X8_wayDown
  rw [ixS he h.wb, obq, h.r0, h.b8, h.who he, show (4 : Int32) + nI (bWho b e) = nI (4 + bWho b e) from nI_add 4 _, ix_nI (by omega) (by decide), obq, h.r1, h.ra, h.rs.row (by omega), wayI_eq, bdq]
theorem feel_loop {p : Nat} (hp : p < bP b) (hb : wfB b) (x y : Int32) : ∀ (m fu i : Nat) (S : St) (u v : Int32), m < fu → i + m = bS b → CW B w a b s S → S.1 w 2 = u → S.1 w 3 = v → RN (b_X8_feel_13 fu w (nI p) x y (nI i) S) (fun _ S' => (S'.1 w 2, S'.1 w 3) = feelF (fun e => pullA b s e p x y) (fun e => wayI (aR s (bWho b e)) x) (fun e => wayI (aR s (4 + bWho b e)) y) (fun e => wornA s e p) m i u v ∧ EW B w S S') := by
  have h8 := hb.s8
  intro m
  induction m with
  | zero =>
    intro fu i S u v hf hi h hu hv
    obtain ⟨fu, rfl⟩ : ∃ f, fu = f + 1 := ⟨fu - 1, by omega⟩
    rw [b_X8_feel_13, h.r0, h.nS, if_pos (le_l (by omega) (by omega) (by omega))]
    exact RN_some ⟨by rw [hu, hv]; rfl, EW.rf⟩
  | succ m ih =>
    intro fu i S u v hf hi h hu hv
    obtain ⟨fu, rfl⟩ : ∃ f, fu = f + 1 := ⟨fu - 1, by omega⟩
    have hi' : i < bS b := by omega
    rw [b_X8_feel_13, h.r0, h.nS, if_neg (nle_l (by omega) (by omega) (by omega)), h.r1, isWorn_eq h.ra h.rs h.ws (by omega), bdq]
    unfold feelF
    by_cases hq : wornA s i p = true
    · rw [if_pos hq, if_neg (by decide), if_pos hq]
      refine RN_bd (pull_run h hi' hp x y) (fun r S1 h1 => ?_)
      obtain ⟨rfl, hE⟩ := h1
      have h2 := CW_v h hE
      have f2 : S1.1 w 2 = u := (hE.felt h).trans hu
      have f3 : S1.1 w 3 = v := (hE.felt h).trans hv
      rw [wayAcross_eq h2 hi' x, bdq, nmq, f2]
      have h3 := CW_w h2 (EW_2 (v := u + pullA b s i p x y * wayI (aR s (bWho b i)) x))
      rw [wayDown_eq h3 hi' y, bdq, nmq, sI_ne (Or.inr (by decide)), f3, b_X8_feel_87, nmq, nI_1]
      refine RN_mono (ih fu (i + 1) _ _ _ (by omega) (by omega) (CW_w h3 EW_3) ?_ sI_at) (fun _ S' hh => ⟨hh.1, (hE.ew.tr (EW_2.tr EW_3)).tr hh.2⟩)
      rw [sI_ne (Or.inr (by decide)), sI_at]
    · rw [if_neg hq, if_pos rfl, if_neg hq, b_X8_feel_87, nmq, nI_1]
      exact ih fu (i + 1) S u v (by omega) (by omega) h hu hv
theorem feel_run (h : CW B w a b s S) {p : Nat} (hp : p < bP b) (x y : Int32) : RN (f_X8_feel w (nI p) x y S) (fun _ S' => (S'.1 w 2, S'.1 w 3) = feelA b s p x y ∧ EW B w S S') := by
  have h8 := h.wb.s8
  unfold f_X8_feel
  rw [nmq, nmq]
  refine RN_mono (feel_loop hp h.wb x y (bS b) FU 0 _ 0 0 (by unfold FU; omega) (by omega) (CW_w h (EW_2.tr EW_3)) (by rw [sI_ne (Or.inr (by decide)), sI_at]) sI_at) (fun _ S' hh => ⟨hh.1, (EW_2.tr EW_3).tr hh.2⟩)
theorem i32_nlt {x y : Int32} : ¬ x < y ↔ y ≤ x := by rw [i32_lt, i32_le]; omega
theorem i32_nle {x y : Int32} : ¬ x ≤ y ↔ y < x := by rw [i32_lt, i32_le]; omega
theorem moved_run (h : CW B w a b s S) {p : Nat} (hp : p < bP b) (x y : Int32) : RN (f_X8_isMovedAt w (nI p) x y S) (fun r S' => r = (if movedA b s p x y then 1 else 0) ∧ EW B w S S') := by
  unfold f_X8_isMovedAt
  refine RN_bd (feel_run h hp x y) (fun _ S1 h1 => ?_)
  have h2 := CW_w h h1.2
  refine RN_bd (stands_run h2 hp x y) (fun r S2 h3 => ?_)
  obtain ⟨rfl, hE⟩ := h3
  have e2 : S2.1 w 2 = (feelA b s p x y).1 := (hE.felt h2).trans (congrArg Prod.fst h1.1)
  have e3 : S2.1 w 3 = (feelA b s p x y).2 := (hE.felt h2).trans (congrArg Prod.snd h1.1)
  rw [e2, e3]
  unfold movedA b_X8_isMovedAt_40
  have hEE := h1.2.tr hE.ew
  by_cases c1 : standsA b s p x y < abI (feelA b s p x y).1
  · rw [if_pos c1]
    exact RN_some ⟨by simp [c1], hEE⟩
  · rw [if_neg c1]
    by_cases c2 : standsA b s p x y < abI (feelA b s p x y).2
    · rw [if_neg (i32_nle.mpr c2)]
      exact RN_some ⟨by simp [c2], hEE⟩
    · rw [if_pos (i32_nlt.mp c2)]
      exact RN_some ⟨by simp [c1, c2], hEE⟩
/-- the sum of some STRANDS' prices -/
def sumF (f : Nat → Int32) (q : Nat → Bool) : Nat → Nat → Int32 → Int32
  | 0, _, x => x
  | m + 1, i, x => sumF f q m (i + 1) (if q i then x + f i else x)
theorem prices_loop (hb : wfB b) : ∀ (m fu i : Nat) (S : St) (u : Int32), m < fu → i + m = bS b → CW B w a b s S → RN (b_X8_pricesOfAll_4 fu w u (nI i) S) (fun r S' => r = sumF (priceA b s) (fun e => !(aC s).testBit e) m i u ∧ EV B S S') := by
  have h8 := hb.s8
  intro m
  induction m with
  | zero =>
    intro fu i S u hf hi h
    obtain ⟨fu, rfl⟩ : ∃ f, fu = f + 1 := ⟨fu - 1, by omega⟩
    rw [b_X8_pricesOfAll_4, h.r0, h.nS, if_pos (le_l (by omega) (by omega) (by omega))]
    exact RN_some ⟨rfl, EV.rf⟩
  | succ m ih =>
    intro fu i S u hf hi h
    obtain ⟨fu, rfl⟩ : ∃ f, fu = f + 1 := ⟨fu - 1, by omega⟩
    have hi' : i < bS b := by omega
    rw [b_X8_pricesOfAll_4, h.r0, h.nS, if_neg (nle_l (by omega) (by omega) (by omega)), h.r1, isCut_eq h.rs h.ws (by omega), bdq]
    unfold sumF
    by_cases hq : (aC s).testBit i = true
    · rw [if_pos hq, if_neg (by decide), b_X8_pricesOfAll_34, nmq, nI_1]
      simp only [hq, Bool.not_true]
      exact ih fu (i + 1) S u (by omega) (by omega) h
    · rw [if_neg hq, if_pos rfl]
      refine RN_bd (price_run h hi') (fun r S1 h1 => ?_)
      obtain ⟨rfl, hE⟩ := h1
      rw [nmq, b_X8_pricesOfAll_34, nmq, nI_1]
      simp only [hq, Bool.not_false]
      exact RN_mono (ih fu (i + 1) S1 _ (by omega) (by omega) (CW_v h hE)) (fun r S' hh => ⟨hh.1, hE.tr hh.2⟩)
theorem prices_run (h : CW B w a b s S) : RN (f_X8_pricesOfAll w S) (fun r S' => r = sumF (priceA b s) (fun e => !(aC s).testBit e) (bS b) 0 0 ∧ EV B S S') := by
  have h8 := h.wb.s8
  exact prices_loop h.wb (bS b) FU 0 S 0 (by unfold FU; omega) (by omega) h
theorem lot_eq {sd which : Int32} : f_X8_lotOf100 sd which S = some (lotI sd which, S) := rfl
/-- by which SEEDS, from d on, one drowns, as bits -/
def drF (b : Bk) (s : ASea) (p : Nat) : Nat → Nat → Nat → Nat
  | 0, _, x => x
  | m + 1, i, x => drF b s p m (i + 1) (if drownA b s p (nI (bSeed b + i)) then x ||| 1 <<< i else x)
theorem orI20 : ∀ i : Nat, i < 20 → (1 : Int32) <<< (nI i &&& 31) = nI (1 <<< i) := by decide +kernel
theorem nI_or {x y : Nat} : nI x ||| nI y = nI (x ||| y) := by
  rw [← Int32.toBitVec_inj]
  show BitVec.ofNat 32 x ||| BitVec.ofNat 32 y = BitVec.ofNat 32 (x ||| y)
  apply BitVec.eq_of_getLsbD_eq
  intro i hi
  simp [BitVec.getLsbD_or, BitVec.getLsbD_ofNat, hi]
theorem drown_loop {p : Nat} {k : Nat} (hk : k ≤ 20) (h : CW B w a b s S) : ∀ (m fu i x : Nat), m < fu → i + m = k → b_X8_seedsThatDrown_12 fu w (nI p) (nI k) (stormA b s p) (nI x) (nI i) S = some (nI (drF b s p m i x), S) := by
  intro m
  induction m with
  | zero =>
    intro fu i x hf hi
    obtain ⟨fu, rfl⟩ : ∃ f, fu = f + 1 := ⟨fu - 1, by omega⟩
    rw [b_X8_seedsThatDrown_12, if_pos (le_l (by omega) (by omega) (by omega))]
    rfl
  | succ m ih =>
    intro fu i x hf hi
    obtain ⟨fu, rfl⟩ : ∃ f, fu = f + 1 := ⟨fu - 1, by omega⟩
    rw [b_X8_seedsThatDrown_12, if_neg (nle_l (by omega) (by omega) (by omega)), h.r0, h.seed, h.r1, h.rs.2.1, nI_add, lot_eq, bdq]
    unfold drF drownA
    by_cases hq : stormA b s p ≤ lotI (nI (bSeed b + i)) (16 * nI (aM s) + nI p)
    · rw [if_pos hq, b_X8_seedsThatDrown_56, nmq, nI_1, ih fu (i + 1) x (by omega) (by omega)]
      simp [hq]
    · rw [if_neg hq, nmq, b_X8_seedsThatDrown_56, nmq, nI_1, orI20 i (by omega), nI_or, ih fu (i + 1) _ (by omega) (by omega)]
      simp [hq]
theorem drowns_run (h : CW B w a b s S) {p k : Nat} (hp : p < bP b) (hk : k ≤ 20) : RN (f_X8_seedsThatDrown w (nI p) (nI k) S) (fun r S' => r = nI (drF b s p k 0 0) ∧ EV B S S') := by
  unfold f_X8_seedsThatDrown
  refine RN_bd (storm_run h hp) (fun r S1 h1 => ?_)
  obtain ⟨rfl, hE⟩ := h1
  rw [show b_X8_seedsThatDrown_12 FU w (nI p) (nI k) (stormA b s p) 0 0 S1 = _ from drown_loop hk (CW_v h hE) k FU 0 0 (by unfold FU; omega) (by omega)]
  exact RN_some ⟨rfl, hE⟩
theorem gone_eq {x f st : Int32} : f_X8_gone x f st S = some (goneI x f st, S) := by
  unfold f_X8_gone goneI
  split
  · rfl
  · rw [wayI_eq, bdq]
    rfl
/-- the class's sea at a comes to be s'; but for it only what is felt and the like is changed -/
def GO (B w a : Nat) (S S' : St) : Prop := S'.2 = S.2 ∧ ∀ c k, c ≠ B + 7 → c ≠ B + 11 → (c = B + 6 → k ≠ 6) → (c = w → k < 2) → (c = a → k = 0 ∨ 5 ≤ k) → c ≠ a + 1 → S'.1 c k = S.1 c k
theorem GO.tr {S S' S'' : St} (h : GO B w a S S') (h' : GO B w a S' S'') : GO B w a S S'' := ⟨h'.1.trans h.1, fun c k h1 h2 h3 h4 h5 h6 => (h'.2 c k h1 h2 h3 h4 h5 h6).trans (h.2 c k h1 h2 h3 h4 h5 h6)⟩
theorem GO.rf : GO B w a S S := ⟨rfl, fun _ _ _ _ _ _ _ _ => rfl⟩
theorem EW.go {S' : St} (h : EW B w S S') : GO B w a S S' := ⟨h.1, fun c k h1 h2 h3 h4 _ _ => h.2 c k h1 h2 h3 h4⟩
/-- only the sea is changed -/
def EA (a : Nat) (S S' : St) : Prop := S'.2 = S.2 ∧ ∀ c k, (c = a → k = 0 ∨ 5 ≤ k) → c ≠ a + 1 → S'.1 c k = S.1 c k
theorem EA.tr {S S' S'' : St} (h : EA a S S') (h' : EA a S' S'') : EA a S S'' := ⟨h'.1.trans h.1, fun c k h1 h2 => (h'.2 c k h1 h2).trans (h.2 c k h1 h2)⟩
theorem EA.go {S' : St} (h : EA a S S') : GO B w a S S' := ⟨h.1, fun c k _ _ _ _ h5 h6 => h.2 c k h5 h6⟩
theorem EA_row {k : Nat} {v : Int32} : EA a S (sI S (a + 1) k v) := ⟨rfl, fun c k _ h => sI_ne (Or.inl h)⟩
theorem EA_fld {i : Nat} {v : Int32} (hi : 1 ≤ i) (h5 : i < 5) : EA a S (sI S a i v) := ⟨rfl, fun c k h _ => sI_ne (by omega)⟩
theorem CW_a {S' : St} {s' : ASea} (h : CW B w a b s S) (hE : EA a S S') (hs : RS a s' S') (h1 : wfS s') (h2 : wfP (bM b) (bP b) (bS b) s') : CW B w a b s' S' := by
  have k1 := h.hB
  have k2 := h.hw
  refine ⟨by rw [hE.1]; exact h.1, CBk_set h.2.1 (fun i => hE.2 _ _ (by omega) (by omega)) (fun c i hc => hE.2 _ _ (by omega) (by omega)), hs, h.wb, h1, h2⟩
end CGO

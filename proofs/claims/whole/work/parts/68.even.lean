/-! even -/
section EVN
variable {B lv : Nat} {b : Bk} {s : ASea} {S S' : St}
/-- two STRANDS that pull one against the other -/
def evenP (b : Bk) (s : ASea) (p e o : Nat) : Bool := wornA s e p && wornA s o p && (decide (xA b s p e ≠ 0) || decide (yA b s p e ≠ 0)) && decide (xA b s p e = -xA b s p o) && decide (yA b s p e = -yA b s p o)
theorem areEven_eq {p e o : Nat} (hb : wfB b) (hl : LYN b s p S) (hr : RFC B S.2.2) (he : e < bS b) (ho : o < bS b) : f_X3_areEven 130 (nI e) (nI o) S = some (if ((decide (xA b s p e ≠ 0) || decide (yA b s p e ≠ 0)) && decide (xA b s p e = -xA b s p o) && decide (yA b s p e = -yA b s p o)) = true then 1 else 0, S) := by
  unfold f_X3_areEven b_X3_areEven_18 b_X3_areEven_23
  rw [ixS he hb, ixS ho hb, obq, obq, obq, obq, obq, obq, rc_130 hr, rc_131 hr, (hl.2.2 e he).1, (hl.2.2 e he).2, (hl.2.2 o ho).1, (hl.2.2 o ho).2, if_pos rfl, if_neg ne10]
  by_cases c1 : xA b s p e = 0
  · rw [if_pos c1]
    by_cases c2 : yA b s p e = 0
    · rw [if_pos c2]; simp [c1, c2]
    · rw [if_neg c2]
      by_cases c3 : xA b s p e = -xA b s p o
      · rw [if_pos c3]
        by_cases c4 : yA b s p e = -yA b s p o
        · rw [if_pos c4, if_pos]
          rw [decide_eq_true c3, decide_eq_true c4, decide_eq_true c2]; simp
        · rw [if_neg c4, if_neg]
          simp [c4]
      · rw [if_neg c3, if_neg]
        simp [c3]
  · rw [if_neg c1]
    by_cases c3 : xA b s p e = -xA b s p o
    · rw [if_pos c3]
      by_cases c4 : yA b s p e = -yA b s p o
      · rw [if_pos c4, if_pos]
        rw [decide_eq_true c3, decide_eq_true c4, decide_eq_true c1]; simp
      · rw [if_neg c4, if_neg]
        simp [c4]
    · rw [if_neg c3, if_neg]
      simp [c3]
def evI (b : Bk) (s : ASea) (p e : Nat) : Nat → Nat → Nat → Nat
  | 0, _, c => c
  | m + 1, o, c => evI b s p e m (o + 1) (if evenP b s p e o then c + 1 else c)
def evO (b : Bk) (s : ASea) (p : Nat) : Nat → Nat → Nat → Nat
  | 0, _, c => c
  | m + 1, e, c => evO b s p m (e + 1) (evI b s p e (bS b - (e + 1)) (e + 1) c)
theorem cev_in {q26 : Nat → Int32 → Int32 → Int32 → St → Option (Int32 × St)} {p e : Nat} (hp : p < bP b) (he : e < bS b) (h : QC B b s S) (hl : LYN b s p S) : ∀ (m fu o c : Nat), m < fu → o + m = bS b → b_X9_even_42 q26 fu 0 (nI p) (nI c) (nI e) (nI o) S = q26 0 (nI p) (nI (evI b s p e m o c)) (nI (e + 1)) S := by
  have h8 := h.wb.s8
  intro m
  induction m with
  | zero =>
    intro fu o c hf ho
    obtain ⟨fu, rfl⟩ : ∃ f, fu = f + 1 := ⟨fu - 1, by omega⟩
    rw [b_X9_even_42, rc_3 h.rf, h.w.nS, if_pos (le_l (by omega) (by omega) (by omega)), nmq, nI_1]
    rfl
  | succ m ih =>
    intro fu o c hf ho
    obtain ⟨fu, rfl⟩ : ∃ f, fu = f + 1 := ⟨fu - 1, by omega⟩
    have ho' : o < bS b := by omega
    rw [b_X9_even_42, rc_3 h.rf, h.w.nS, if_neg (nle_l (by omega) (by omega) (by omega)), rc_5 h.rf, isWorn_eq h.w.ra h.w.rs h.w.ws (show e < 8 by omega), bdq, rc_5 h.rf, isWorn_eq h.w.ra h.w.rs h.w.ws (show o < 8 by omega), bdq, rc_12 h.rf, areEven_eq h.wb hl h.rf he ho', bdq]
    unfold b_X9_even_95
    rw [nmq, nmq, nI_1, nI_1, ih fu (o + 1) c (by omega) (by omega), nmq, ih fu (o + 1) (c + 1) (by omega) (by omega)]
    have e0 : evI b s p e (m + 1) o c = evI b s p e m (o + 1) (if evenP b s p e o then c + 1 else c) := rfl
    rw [e0]
    unfold evenP
    by_cases w1 : wornA s e p = true
    · rw [if_pos w1, if_neg ne10, w1]
      by_cases w2 : wornA s o p = true
      · rw [if_pos w2, if_neg ne10, w2]
        by_cases w3 : ((decide (xA b s p e ≠ 0) || decide (yA b s p e ≠ 0)) && decide (xA b s p e = -xA b s p o) && decide (yA b s p e = -yA b s p o)) = true
        · rw [if_pos w3, if_neg ne10, if_pos]
          simpa using w3
        · rw [if_neg w3, if_pos rfl, if_neg]
          simpa using w3
      · rw [if_neg w2, if_pos rfl, if_neg]
        simp [w2]
    · rw [if_neg w1, if_pos rfl, if_neg]
      simp [w1]
theorem cev_out {p : Nat} (hp : p < bP b) (h : QC B b s S) (hl : LYN b s p S) : ∀ (m fu e c : Nat), m < fu → e + m = bS b → b_X9_even_26 fu 0 (nI p) (nI c) (nI e) S = some (nI (evO b s p m e c), S) := by
  have h8 := h.wb.s8
  intro m
  induction m with
  | zero =>
    intro fu e c hf he
    obtain ⟨fu, rfl⟩ : ∃ f, fu = f + 1 := ⟨fu - 1, by omega⟩
    rw [b_X9_even_26, rc_3 h.rf, h.w.nS, if_pos (le_l (by omega) (by omega) (by omega))]
    rfl
  | succ m ih =>
    intro fu e c hf he
    obtain ⟨fu, rfl⟩ : ∃ f, fu = f + 1 := ⟨fu - 1, by omega⟩
    rw [b_X9_even_26, rc_3 h.rf, h.w.nS, if_neg (nle_l (by omega) (by omega) (by omega)), nmq, nI_1, cev_in hp (by omega) h hl (bS b - (e + 1)) FU (e + 1) c (by unfold FU; omega) (by omega), ih fu (e + 1) _ (by omega) (by omega)]
    rfl
/-! what pulls, and whereto -/
theorem way_9 : ∀ i : Nat, i < 10 → ∀ j : Nat, j < 10 → (wayI (nI i) (nI j) = 0 ↔ dI (nI i) (nI j) = 0) ∧ (wayI (nI i) (nI j) = 0 ∨ wayI (nI i) (nI j) = 1 ∨ wayI (nI i) (nI j) = -1) := by decide
theorem held_le {most : Int32} (hm : 0 ≤ most) {o : Option Int32} : heldV most o ≤ most := by
  cases o with
  | none => exact hm
  | some v =>
    show mxI 0 (mnI most v) ≤ most
    unfold mxI mnI
    by_cases c1 : v < most
    · rw [if_pos c1]
      by_cases c2 : 0 < v
      · rw [if_pos c2]
        rw [i32_lt] at c1
        rw [i32_le]
        omega
      · rw [if_neg c2]
        exact hm
    · rw [if_neg c1]
      by_cases c2 : 0 < most
      · rw [if_pos c2, i32_le]
        exact Int.le_refl _
      · rw [if_neg c2]
        exact hm
theorem pull_rng {e p : Nat} {x y : Int32} : 0 ≤ pullA b s e p x y ∧ pullA b s e p x y ≤ 99 := by
  unfold pullA
  split
  · exact ⟨by decide, by decide⟩
  · exact ⟨held_ge, held_le (by decide)⟩
theorem pm_mul {v w : Int32} (hv : 0 ≤ v ∧ v ≤ 99) (hw : w = 0 ∨ w = 1 ∨ w = -1) : v * w = 0 ↔ v = 0 ∨ w = 0 := by
  rcases hw with rfl | rfl | rfl
  · simp
  · rw [Int32.mul_one]
    constructor
    · exact Or.inl
    · rintro (h | h)
      · exact h
      · exact absurd h (by decide)
  · rw [Int32.mul_neg, Int32.mul_one]
    constructor
    · intro h
      left
      have : - -v = -0 := by rw [h]
      rw [Int32.neg_neg] at this
      exact this
    · rintro (h | h)
      · rw [h]; rfl
      · exact absurd h (by decide)
theorem xy_zero {p e : Nat} (hb : wfB b) (hw : wfP (bM b) (bP b) (bS b) s) (hp : p < bP b) (he : e < bS b) : (xA b s p e = 0 ∧ yA b s p e = 0) ↔ pullA b s e p (pX s p) (pY s p) = 0 := by
  obtain ⟨m1, m2, -, -⟩ := hw.1 (bWho b e) (hb.2.2.2.2.2.1 e he)
  obtain ⟨p1, p2⟩ := hw.2.1 p hp
  obtain ⟨i1, hi1, e1⟩ := m1
  obtain ⟨i2, hi2, e2⟩ := m2
  obtain ⟨j1, hj1, f1⟩ := p1
  obtain ⟨j2, hj2, f2⟩ := p2
  have f1' : pX s p = nI j1 := f1
  have f2' : pY s p = nI j2 := f2
  have wx := way_9 i1 hi1 j1 hj1
  have wy := way_9 i2 hi2 j2 hj2
  unfold xA yA
  rw [pm_mul pull_rng (by rw [e1, f1']; exact wx.2), pm_mul pull_rng (by rw [e2, f2']; exact wy.2)]
  constructor
  · rintro ⟨h1, h2⟩
    rcases h1 with h1 | h1
    · exact h1
    rcases h2 with h2 | h2
    · exact h2
    rw [e1, f1'] at h1
    rw [e2, f2'] at h2
    have g1 := wx.1.mp h1
    have g2 := wy.1.mp h2
    have hf : farA s (bWho b e) (pX s p) (pY s p) = 0 := by
      unfold farA
      rw [e1, e2, f1', f2', g1, g2]
      decide
    unfold pullA
    rw [if_pos (Or.inl hf)]
  · intro h
    exact ⟨Or.inl h, Or.inl h⟩
theorem tb_pair {e o i : Nat} : (1 <<< e ||| 1 <<< o).testBit i = (decide (e = i) || decide (o = i)) := by
  rw [tb_or, Nat.one_shiftLeft, Nat.testBit_two_pow]
theorem feelF_skip {pl wa wd : Nat → Int32} {q : Nat → Bool} : ∀ (m i : Nat) (u v : Int32), (∀ j, i ≤ j → j < i + m → q j = false) → feelF pl wa wd q m i u v = (u, v)
  | 0, _, _, _, _ => rfl
  | m + 1, i, u, v, h => by
    unfold feelF
    rw [h i (Nat.le_refl _) (by omega)]
    exact feelF_skip m (i + 1) u v (fun j h1 h2 => h j (by omega) (by omega))
theorem feelF_app {pl wa wd : Nat → Int32} {q : Nat → Bool} : ∀ (m n i : Nat) (u v : Int32), feelF pl wa wd q (m + n) i u v = feelF pl wa wd q n (i + m) (feelF pl wa wd q m i u v).1 (feelF pl wa wd q m i u v).2
  | 0, n, i, u, v => by rw [Nat.zero_add]; rfl
  | m + 1, n, i, u, v => by
    have st : ∀ k, feelF pl wa wd q (k + 1) i u v = if q i then feelF pl wa wd q k (i + 1) (u + pl i * wa i) (v + pl i * wd i) else feelF pl wa wd q k (i + 1) u v := fun k => rfl
    rw [show m + 1 + n = (m + n) + 1 by omega, st, st]
    by_cases c : q i = true
    · rw [if_pos c, if_pos c, feelF_app m n (i + 1), show i + 1 + m = i + (m + 1) by omega]
    · rw [if_neg c, if_neg c, feelF_app m n (i + 1), show i + 1 + m = i + (m + 1) by omega]
theorem feelF_one {pl wa wd : Nat → Int32} {q : Nat → Bool} {m e : Nat} {u v : Int32} {i : Nat} (h1 : i ≤ e) (h2 : e < i + m) (hq : q e = true) (hn : ∀ j, i ≤ j → j < e → q j = false) : feelF pl wa wd q m i u v = feelF pl wa wd q (i + m - (e + 1)) (e + 1) (u + pl e * wa e) (v + pl e * wd e) := by
  have e1 : m = (e - i) + ((i + m - (e + 1)) + 1) := by omega
  rw [e1, feelF_app, feelF_skip _ _ _ _ (fun j g1 g2 => hn j g1 (by omega)), show i + (e - i) = e by omega]
  show feelF pl wa wd q ((i + m - (e + 1)) + 1) e u v = _
  rw [show i + (e - i + (i + m - (e + 1) + 1)) - (e + 1) = i + m - (e + 1) by omega]
  conv => lhs; unfold feelF
  rw [if_pos hq]
theorem fQ_pair {p e o : Nat} (he : e < o) (ho : o < bS b) : fQ b s p (1 <<< e ||| 1 <<< o) = (xA b s p e + xA b s p o, yA b s p e + yA b s p o) := by
  unfold fQ feelQ
  rw [feelF_one (e := e) (Nat.zero_le _) (by omega) (by rw [tb_pair]; simp) (fun j _ hj => by rw [tb_pair]; simp; omega), feelF_one (e := o) (by omega) (by omega) (by rw [tb_pair]; simp) (fun j h1 h2 => by rw [tb_pair]; simp; omega), feelF_skip _ _ _ _ (fun j h1 h2 => by rw [tb_pair]; simp; omega), Int32.zero_add, Int32.zero_add]
  rfl
theorem and_pair {x e o : Nat} (hx : x < 256) (he : e < 8) (ho : o < 8) : (nI x &&& nI (1 <<< e ||| 1 <<< o) = nI (1 <<< e ||| 1 <<< o)) ↔ x.testBit e = true ∧ x.testBit o = true := by
  have hlt : 1 <<< e ||| 1 <<< o < 256 := or256 (by rw [Nat.one_shiftLeft]; exact Nat.pow_lt_pow_right (n := 8) (by decide) he) ho
  have hle := Nat.and_le_left (n := x) (m := 1 <<< e ||| 1 <<< o)
  rw [nI_and, nI_eq (by omega) (by omega)]
  constructor
  · intro h
    have h1 := congrArg (fun v => v.testBit e) h
    have h2 := congrArg (fun v => v.testBit o) h
    simp only [Nat.testBit_and, tb_pair] at h1 h2
    exact ⟨by simpa using h1, by simpa using h2⟩
  · rintro ⟨h1, h2⟩
    refine nat_ext (fun i => ?_)
    rw [Nat.testBit_and, tb_pair]
    by_cases c1 : e = i
    · subst c1; simp [h1]
    · by_cases c2 : o = i
      · subst c2; simp [h2]
      · simp [c1, c2]
theorem orI2 : ∀ e : Nat, e < 8 → ∀ o : Nat, o < 8 → (1 : Int32) <<< (nI e &&& 31) ||| (1 : Int32) <<< (nI o &&& 31) = nI (1 <<< e ||| 1 <<< o) := by decide
theorem neg_iff {x y : Int32} : x + y = 0 ↔ x = -y := by
  rw [← Int32.eq_sub_iff_add_eq, Int32.zero_sub]
theorem evenP_iff {p e o : Nat} (hb : wfB b) (hw : wfP (bM b) (bP b) (bS b) s) (hp : p < bP b) (he : e < bS b) (ho : o < bS b) : evenP b s p e o = true ↔ wornA s e p = true ∧ wornA s o p = true ∧ ¬ pullA b s e p (pX s p) (pY s p) = 0 ∧ ¬ pullA b s o p (pX s p) (pY s p) = 0 ∧ xA b s p e + xA b s p o = 0 ∧ yA b s p e + yA b s p o = 0 := by
  have z1 := xy_zero (s := s) hb hw hp he
  have z2 := xy_zero (s := s) hb hw hp ho
  rw [neg_iff, neg_iff]
  unfold evenP
  simp only [Bool.and_eq_true, decide_eq_true_eq, Bool.or_eq_true]
  constructor
  · rintro ⟨⟨⟨⟨h1, h2⟩, h3⟩, h4⟩, h5⟩
    refine ⟨h1, h2, fun q => ?_, fun q => ?_, h4, h5⟩
    · obtain ⟨a1, a2⟩ := z1.mpr q
      rcases h3 with h3 | h3
      · exact h3 a1
      · exact h3 a2
    · obtain ⟨a1, a2⟩ := z2.mpr q
      rw [a1] at h4
      rw [a2] at h5
      rcases h3 with h3 | h3
      · exact h3 h4
      · exact h3 h5
  · rintro ⟨h1, h2, h3, h4, h5, h6⟩
    refine ⟨⟨⟨⟨h1, h2⟩, ?_⟩, h5⟩, h6⟩
    by_cases c : xA b s p e = 0
    · right
      intro d
      exact h3 (z1.mp ⟨c, d⟩)
    · left
      exact c
theorem mev_loop {p e : Nat} (hp : p < bP b) (hb : wfB b) (he : e < bS b) {q25 : Nat → Int32 → Int32 → Int32 → Int32 → St → Option (Int32 × St)} : ∀ (m fu o c : Nat) (S : St), m < fu → o + m = bS b → e < o → CMx lv b s S → ∃ S', b_X10_even_45 q25 fu 140 (nI p) (nI (wbN b s p)) (nI c) (nI e) (nI o) S = q25 140 (nI p) (nI (wbN b s p)) (nI (evI b s p e m o c)) (nI (e + 1)) S' ∧ CMx lv b s S' ∧ MW S S' := by
  have h8 := hb.s8
  have hp6 : p < 6 := Nat.lt_of_lt_of_le hp hb.p6
  intro m
  induction m with
  | zero =>
    intro fu o c S hf ho heo h
    obtain ⟨fu, rfl⟩ : ∃ f, fu = f + 1 := ⟨fu - 1, by omega⟩
    rw [b_X10_even_45, h.k.ixl, obq, rq_29 h.rf, h.k.nS, if_pos (le_l (by omega) (by omega) (by omega)), nmq, nI_1]
    exact ⟨S, rfl, h, MW.rf⟩
  | succ m ih =>
    intro fu o c S hf ho heo h
    obtain ⟨fu, rfl⟩ : ∃ f, fu = f + 1 := ⟨fu - 1, by omega⟩
    have ho' : o < bS b := by omega
    have e0 : evI b s p e (m + 1) o c = evI b s p e m (o + 1) (if evenP b s p e o then c + 1 else c) := rfl
    have hev := evenP_iff (s := s) hb h.wp hp he ho'
    have next : ∀ (S1 : St) (c' : Nat), CMx lv b s S1 → MW S S1 → ∃ S', b_X10_even_142 q25 (b_X10_even_45 q25 fu) 140 (nI p) (nI (wbN b s p)) (nI c') (nI e) (nI o) S1 = q25 140 (nI p) (nI (wbN b s p)) (nI (evI b s p e m (o + 1) c')) (nI (e + 1)) S' ∧ CMx lv b s S' ∧ MW S S' := by
      intro S1 c' h1 g1
      unfold b_X10_even_142
      rw [nmq, nI_1]
      obtain ⟨S2, e2, c2, g2⟩ := ih fu (o + 1) c' S1 (by omega) (by omega) (by omega) h1
      exact ⟨S2, e2, c2, g1.tr g2⟩
    rw [b_X10_even_45, h.k.ixl, obq, rq_29 h.rf, h.k.nS, if_neg (nle_l (by omega) (by omega) (by omega)), nmq, orI2 e (by omega) o (by omega), e0]
    have hno : ¬ evenP b s p e o = true → (if evenP b s p e o = true then c + 1 else c) = c := fun q => by rw [if_neg q]
    have hpair := and_pair (x := wbN b s p) (wbN_lt hb) (e := e) (o := o) (by omega) (by omega)
    rw [wbN_tb he, wbN_tb ho'] at hpair
    by_cases w : wornA s e p = true ∧ wornA s o p = true
    · rw [if_pos (hpair.mpr w)]
      obtain ⟨r1, S1, e1, g1, v1⟩ := pullNow_run h he
      rw [wr_worn hp6 w.1] at g1
      have h1 := CMx_v h v1
      rw [e1, bdq, g1]
      by_cases c1 : pullA b s e p (pX s p) (pY s p) = 0
      · rw [if_pos c1, hno (fun q => (hev.mp q).2.2.1 c1)]
        exact next S1 c h1 v1.mw
      · rw [if_neg c1]
        obtain ⟨r2, S2, e2, g2, v2⟩ := pullNow_run h1 ho'
        rw [wr_worn hp6 w.2] at g2
        have h2 := CMx_v h1 v2
        rw [e2, bdq, g2]
        by_cases c2 : pullA b s o p (pX s p) (pY s p) = 0
        · rw [if_pos c2, hno (fun q => (hev.mp q).2.2.2.1 c2)]
          exact next S2 c h2 (v1.tr v2).mw
        · rw [if_neg c2, ix55_20 hp6, obq, ix55_26 hp6, obq, rq_52 h2.rf, h2.px hp, h2.py hp]
          have hlt : 1 <<< e ||| 1 <<< o < 256 := or256 (by rw [Nat.one_shiftLeft]; exact Nat.pow_lt_pow_right (n := 8) (by decide) (by omega)) (by omega)
          obtain ⟨_, S3, e3, g3, v3⟩ := pby_run h2 hlt hp (h2.p9 hp).1 (h2.p9 hp).2
          have h3 := CMx_w h2 v3
          have g3' : (S3.1 140 55, S3.1 140 56) = (xA b s p e + xA b s p o, yA b s p e + yA b s p o) := g3.trans (fQ_pair heo ho')
          rw [e3, bdq, fst_of g3', snd_of g3']
          have vv := (v1.tr v2).mw.tr v3
          by_cases c3 : xA b s p e + xA b s p o = 0
          · rw [if_pos c3]
            by_cases c4 : yA b s p e + yA b s p o = 0
            · rw [if_pos c4, nmq, nI_1, if_pos (hev.mpr ⟨w.1, w.2, c1, c2, c3, c4⟩)]
              exact next S3 (c + 1) h3 vv
            · rw [if_neg c4, hno (fun q => c4 (hev.mp q).2.2.2.2.2)]
              exact next S3 c h3 vv
          · rw [if_neg c3, hno (fun q => c3 (hev.mp q).2.2.2.2.1)]
            exact next S3 c h3 vv
    · rw [if_neg (fun q => w (hpair.mp q)), hno (fun q => w ⟨(hev.mp q).1, (hev.mp q).2.1⟩)]
      exact next S c h MW.rf
theorem mev_out {p : Nat} (hp : p < bP b) (hb : wfB b) : ∀ (m fu e c : Nat) (S : St), m < fu → e + m = bS b → CMx lv b s S → RN (b_X10_even_25 fu 140 (nI p) (nI (wbN b s p)) (nI c) (nI e) S) (fun r S' => r = nI (evO b s p m e c) ∧ MW S S') := by
  have h8 := hb.s8
  intro m
  induction m with
  | zero =>
    intro fu e c S hf he h
    obtain ⟨fu, rfl⟩ : ∃ f, fu = f + 1 := ⟨fu - 1, by omega⟩
    rw [b_X10_even_25, h.k.ixl, obq, rq_29 h.rf, h.k.nS, if_pos (le_l (by omega) (by omega) (by omega))]
    exact RN_some ⟨rfl, MW.rf⟩
  | succ m ih =>
    intro fu e c S hf he h
    obtain ⟨fu, rfl⟩ : ∃ f, fu = f + 1 := ⟨fu - 1, by omega⟩
    rw [b_X10_even_25, h.k.ixl, obq, rq_29 h.rf, h.k.nS, if_neg (nle_l (by omega) (by omega) (by omega)), nmq, nI_1]
    obtain ⟨S1, e1, c1, g1⟩ := mev_loop hp hb (show e < bS b by omega) (q25 := b_X10_even_25 fu) (bS b - (e + 1)) FU (e + 1) c S (by unfold FU; omega) (by omega) (by omega) h
    rw [e1]
    exact RN_mono (ih fu (e + 1) _ S1 (by omega) (by omega) c1) (fun r S' hh => ⟨hh.1, g1.tr hh.2⟩)
theorem q_even (v : Int32) : PQ B lv b s (f_X9_even 0 v) (f_X10_even 140 v) := by
  cases hv : idx (bP b) v with
  | none =>
    refine ⟨-1, fun S h => ?_, fun S h => ?_⟩
    · unfold f_X9_even
      rw [cP_eq h, bdq, hv, is1_n, if_pos rfl]
      exact RN_some ⟨rfl, CQ.rf⟩
    · unfold f_X10_even
      rw [mP_eq h, bdq, hv, is1_n, if_pos rfl]
      exact RN_some ⟨rfl, QF.rf⟩
  | some p =>
    refine ⟨nI (evO b s p (bS b) 0 0), fun S h => ?_, fun S h => ?_⟩
    · obtain ⟨e, hp⟩ := idx_some (by have := h.wb.p6; omega) hv
      unfold f_X9_even
      rw [cP_eq h, bdq, hv, is1_s, if_neg ne10, e]
      refine RN_bd (lay_run h hp) (fun _ S1 h1 => ?_)
      have h2 := QC_q h h1.2
      rw [show b_X9_even_26 FU 0 (nI p) 0 0 S1 = _ from cev_out hp h2 h1.1 (bS b) FU 0 0 (by have := h.wb.s8; unfold FU; omega) (by omega)]
      exact RN_some ⟨rfl, h1.2⟩
    · obtain ⟨e, hp⟩ := idx_some (by have := h.wb.p6; omega) hv
      unfold f_X10_even
      rw [mP_eq h, bdq, hv, is1_s, if_neg ne10, e]
      refine RN_bd (copies_run h) (fun _ S1 h1 => ?_)
      rw [wbits_eq h1.1, bdq]
      exact RN_mono (mev_out hp h.wb (bS b) FU 0 0 S1 (by have := h.wb.s8; unfold FU; omega) (by omega) h1.1) (fun r S' hh => ⟨hh.1, h1.2.2.2.tr hh.2.mq⟩)
end EVN

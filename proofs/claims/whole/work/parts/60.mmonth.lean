/-! the reference: a MONTH goes by -/
section MMO
variable {lv : Nat} {b : Bk} {s : ASea} {S : St}
/-- a MONTH's changes -/
def MG (S S' : St) : Prop := S'.2 = S.2 ∧ ∀ a k, a ≠ 172 → a ≠ 173 → a ≠ 175 → (a < 176 ∨ 179 < a) → (a = 140 → k ≠ 50 ∧ k ≠ 55 ∧ k ≠ 56) → S'.1 a k = S.1 a k
/-- looksAt's changes -/
def ML (S S' : St) : Prop := S'.2 = S.2 ∧ ∀ a k, a ≠ 172 → a ≠ 173 → (a < 176 ∨ 179 < a) → (a = 140 → k ≠ 50 ∧ k ≠ 55 ∧ k ≠ 56) → S'.1 a k = S.1 a k
theorem MG.rf : MG S S := ⟨rfl, fun _ _ _ _ _ _ _ => rfl⟩
theorem MG.tr {S S' S'' : St} (h : MG S S') (h' : MG S' S'') : MG S S'' := ⟨h'.1.trans h.1, fun a k h1 h2 h3 h4 h5 => (h'.2 a k h1 h2 h3 h4 h5).trans (h.2 a k h1 h2 h3 h4 h5)⟩
theorem ML.rf : ML S S := ⟨rfl, fun _ _ _ _ _ _ => rfl⟩
theorem ML.tr {S S' S'' : St} (h : ML S S') (h' : ML S' S'') : ML S S'' := ⟨h'.1.trans h.1, fun a k h1 h2 h4 h5 => (h'.2 a k h1 h2 h4 h5).trans (h.2 a k h1 h2 h4 h5)⟩
theorem ML.mg {S S' : St} (h : ML S S') : MG S S' := ⟨h.1, fun a k h1 h2 _ h4 h5 => h.2 a k h1 h2 h4 h5⟩
theorem MW.ml {S S' : St} (h : MW S S') : ML S S' := ⟨h.1, fun a k h1 h2 _ h5 => h.2 a k h1 h2 h5⟩
theorem MW.mg {S S' : St} (h : MW S S') : MG S S' := h.ml.mg
theorem ML_w {c k : Nat} {v : Int32} (h1 : 176 ≤ c) (h2 : c ≤ 179) : ML S (sI S c k v) := ⟨rfl, fun a k _ _ h _ => sI_ne (by omega)⟩
theorem MG_175 {k : Nat} {v : Int32} : MG S (sI S 175 k v) := ⟨rfl, fun a k _ _ h _ _ => sI_ne (Or.inl h)⟩
theorem CMx_l {S' : St} (h : CMx lv b s S) (h' : ML S S') : CMx lv b s S' := ⟨KM_set h.1 h'.1 (h'.2 _ _ (by decide) (by decide) (by decide) (by decide)) (fun a i h1 h2 => h'.2 a i (by omega) (by omega) (by omega) (by omega)), RW_set h.2.1 (fun i => h'.2 _ _ (by decide) (by decide) (by decide) (fun q => absurd q (by decide))), h.2.2⟩
theorem KM_g {S' : St} (h : KM lv b S) (h' : MG S S') : KM lv b S' := KM_set h h'.1 (h'.2 _ _ (by decide) (by decide) (by decide) (by decide) (by decide)) (fun a i h1 h2 => h'.2 a i (by omega) (by omega) (by omega) (by omega) (by omega))
/-- by which seed a STORM is, if any -/
def sdM (S : St) : Option Int32 := if S.1 140 54 = 0 then some (S.1 140 53) else none
theorem sdM_g {S' : St} (h : MG S S') : sdM S' = sdM S := by
  unfold sdM
  rw [h.2 140 54 (by decide) (by decide) (by decide) (by decide) (by decide), h.2 140 53 (by decide) (by decide) (by decide) (by decide) (by decide)]
/-- what looksAt finds of a PERSON -/
def LOK (b : Bk) (s : ASea) (sd : Option Int32) (p : Nat) (S : St) : Prop := S.1 176 p = (if (!(aO s).testBit p && movedA b s p (pX s p) (pY s p)) = true then 1 else 0) ∧ ((aO s).testBit p = false → S.1 177 p = pX s p + (if abI (feelA b s p (pX s p) (pY s p)).1 ≤ standsA b s p (pX s p) (pY s p) then 0 else wayI (feelA b s p (pX s p) (pY s p)).1 0) ∧ S.1 178 p = pY s p + (if abI (feelA b s p (pX s p) (pY s p)).2 ≤ standsA b s p (pX s p) (pY s p) then 0 else wayI (feelA b s p (pX s p) (pY s p)).2 0) ∧ S.1 179 p = if sdB b sd s p = true then 1 else 0)
theorem mlot_eq {x : Int32} : f_X10_lotOf 140 x S = some (lotI (S.1 140 53) x, S) := rfl
theorem ix6 {p : Nat} (h : p < 6) : ix (nI p) 6 = some p := ix_nI h (by decide)
theorem la130 {c p : Nat} (hp : p < 6) {v : Int32} : b_X10_looksAt_130 c (nI p) v S = some ((), sI S c p (vp_nar .boolean v)) := by
  unfold b_X10_looksAt_130
  rw [ix6 hp, obq, nmq]
/-- from the moves on -/
theorem la87 (h : CMx lv b s S) {p : Nat} (hp : p < bP b) {x y : Int32} : RN (b_X10_looksAt_87 140 (nI p) 178 (nI p) x y S) (fun _ S' => S'.1 178 p = x + y ∧ S'.1 179 p = (if sdB b (sdM S) s p = true then 1 else 0) ∧ (∀ k, S'.1 176 k = S.1 176 k) ∧ (∀ k, S'.1 177 k = S.1 177 k) ∧ (∀ k, k ≠ p → S'.1 178 k = S.1 178 k ∧ S'.1 179 k = S.1 179 k) ∧ ML S S') := by
  have hp6 : p < 6 := Nat.lt_of_lt_of_le hp h.wb.p6
  unfold b_X10_looksAt_87
  rw [ix6 hp6, obq, nmq]
  have l1 : ML S (sI S 178 p (x + y)) := ML_w (by decide) (by decide)
  have f0 : (sI S 178 p (x + y)).1 178 p = x + y := sI_at
  have f1 : ∀ k, (sI S 178 p (x + y)).1 176 k = S.1 176 k := fun k => sI_ne (Or.inl (by decide))
  have f2 : ∀ k, (sI S 178 p (x + y)).1 177 k = S.1 177 k := fun k => sI_ne (Or.inl (by decide))
  have f3 : ∀ k, k ≠ p → (sI S 178 p (x + y)).1 178 k = S.1 178 k ∧ (sI S 178 p (x + y)).1 179 k = S.1 179 k := fun k hk => ⟨sI_ne (Or.inr hk), sI_ne (Or.inl (by decide))⟩
  revert l1 f0 f1 f2 f3
  generalize sI S 178 p (x + y) = S1
  intro l1 f0 f1 f2 f3
  have h1 := CMx_l h l1
  have e54 : S1.1 140 54 = S.1 140 54 := l1.2 _ _ (by decide) (by decide) (by decide) (by decide)
  have e53 : S1.1 140 53 = S.1 140 53 := l1.2 _ _ (by decide) (by decide) (by decide) (by decide)
  have fin : ∀ (S2 : St) (v : Int32), MV S1 S2 → RN (some ((), sI S2 179 p v)) (fun _ S' => S'.1 178 p = x + y ∧ S'.1 179 p = v ∧ (∀ k, S'.1 176 k = S.1 176 k) ∧ (∀ k, S'.1 177 k = S.1 177 k) ∧ (∀ k, k ≠ p → S'.1 178 k = S.1 178 k ∧ S'.1 179 k = S.1 179 k) ∧ ML S S') := by
    intro S2 v hv
    refine RN_some ⟨?_, sI_at, fun k => ?_, fun k => ?_, fun k hk => ⟨?_, ?_⟩, (l1.tr hv.mw.ml).tr (ML_w (by decide) (by decide))⟩
    · exact ((sI_ne (Or.inl (by decide))).trans (hv.2 _ _ (by decide) (by decide) (fun q => absurd q (by decide)))).trans f0
    · exact ((sI_ne (Or.inl (by decide))).trans (hv.2 _ _ (by decide) (by decide) (fun q => absurd q (by decide)))).trans (f1 k)
    · exact ((sI_ne (Or.inl (by decide))).trans (hv.2 _ _ (by decide) (by decide) (fun q => absurd q (by decide)))).trans (f2 k)
    · exact ((sI_ne (Or.inl (by decide))).trans (hv.2 _ _ (by decide) (by decide) (fun q => absurd q (by decide)))).trans (f3 k hk).1
    · exact ((sI_ne (Or.inr hk)).trans (hv.2 _ _ (by decide) (by decide) (fun q => absurd q (by decide)))).trans (f3 k hk).2
  unfold b_X10_looksAt_129
  rw [e54]
  by_cases c : S.1 140 54 = 0
  · rw [if_pos c, ix55_54, obq, rq_52 h1.rf, h1.t, mlot_eq, bdq, e53]
    have hsd : sdM S = some (S.1 140 53) := by unfold sdM; rw [if_pos c]
    rw [hsd]
    refine RN_bd (mstorm_run h1 hp) (fun r S2 h2 => ?_)
    obtain ⟨rfl, hE⟩ := h2
    rw [rq_60 h1.rf]
    show RN _ (fun _ S' => S'.1 178 p = x + y ∧ S'.1 179 p = (if drownA b s p (S.1 140 53) = true then 1 else 0) ∧ _)
    unfold drownA
    by_cases c2 : stormA b s p ≤ lotI (S.1 140 53) (16 * nI (aM s) + nI p)
    · rw [if_pos c2, la130 hp6, nar_bool0]
      simp only [c2]
      exact fin S2 0 hE
    · rw [if_neg c2, la130 hp6, nar_bool1]
      simp only [c2]
      exact fin S2 1 hE
  · rw [if_neg c, rq_60 h1.rf, la130 hp6, nar_bool0]
    have hsd : sdM S = none := by unfold sdM; rw [if_neg c]
    rw [hsd]
    exact fin S1 0 MV.rf
theorem movI_bits {p : Nat} {x y : Int32} : (movI b s p x y &&& 1 = 1 ↔ ¬ abI (feelA b s p x y).1 ≤ standsA b s p x y) ∧ (movI b s p x y &&& 2 = 2 ↔ ¬ abI (feelA b s p x y).2 ≤ standsA b s p x y) := by
  unfold movI
  by_cases c1 : abI (feelA b s p x y).1 ≤ standsA b s p x y
  · by_cases c2 : abI (feelA b s p x y).2 ≤ standsA b s p x y
    · simp only [c1, c2]; decide
    · simp only [c1, c2]; decide
  · by_cases c2 : abI (feelA b s p x y).2 ≤ standsA b s p x y
    · simp only [c1, c2]; decide
    · simp only [c1, c2]; decide
theorem la53 (h : CMx lv b s S) {p : Nat} (hp : p < bP b) {x y mv : Int32} : RN (b_X10_looksAt_53 140 (nI p) mv 177 (nI p) x y S) (fun _ S' => S'.1 177 p = x + y ∧ S'.1 178 p = pY s p + (if mv &&& 2 = 2 then wayI (S.1 140 56) 0 else 0) ∧ S'.1 179 p = (if sdB b (sdM S) s p = true then 1 else 0) ∧ (∀ k, S'.1 176 k = S.1 176 k) ∧ (∀ k, k ≠ p → S'.1 177 k = S.1 177 k ∧ S'.1 178 k = S.1 178 k ∧ S'.1 179 k = S.1 179 k) ∧ ML S S') := by
  have hp6 : p < 6 := Nat.lt_of_lt_of_le hp h.wb.p6
  unfold b_X10_looksAt_53
  rw [ix6 hp6, obq, nmq]
  have l1 : ML S (sI S 177 p (x + y)) := ML_w (by decide) (by decide)
  have f0 : (sI S 177 p (x + y)).1 177 p = x + y := sI_at
  have f1 : ∀ k, (sI S 177 p (x + y)).1 176 k = S.1 176 k := fun k => sI_ne (Or.inl (by decide))
  have f3 : ∀ k, k ≠ p → (sI S 177 p (x + y)).1 177 k = S.1 177 k ∧ (sI S 177 p (x + y)).1 178 k = S.1 178 k ∧ (sI S 177 p (x + y)).1 179 k = S.1 179 k := fun k hk => ⟨sI_ne (Or.inr hk), sI_ne (Or.inl (by decide)), sI_ne (Or.inl (by decide))⟩
  have e56 : (sI S 177 p (x + y)).1 140 56 = S.1 140 56 := sI_ne (Or.inl (by decide))
  revert l1 f0 f1 f3 e56
  generalize sI S 177 p (x + y) = S1
  intro l1 f0 f1 f3 e56
  have h1 := CMx_l h l1
  have fin : ∀ v : Int32, RN (b_X10_looksAt_87 140 (nI p) 178 (nI p) (pY s p) v S1) (fun _ S' => S'.1 177 p = x + y ∧ S'.1 178 p = pY s p + v ∧ S'.1 179 p = (if sdB b (sdM S) s p = true then 1 else 0) ∧ (∀ k, S'.1 176 k = S.1 176 k) ∧ (∀ k, k ≠ p → S'.1 177 k = S.1 177 k ∧ S'.1 178 k = S.1 178 k ∧ S'.1 179 k = S.1 179 k) ∧ ML S S') := by
    intro v
    refine RN_mono (la87 h1 hp (x := pY s p) (y := v)) (fun _ S' hh => ⟨(hh.2.2.2.1 p).trans f0, hh.1, ?_, fun k => (hh.2.2.1 k).trans (f1 k), fun k hk => ⟨(hh.2.2.2.1 k).trans (f3 k hk).1, (hh.2.2.2.2.1 k hk).1.trans (f3 k hk).2.1, (hh.2.2.2.2.1 k hk).2.trans (f3 k hk).2.2⟩, l1.tr hh.2.2.2.2.2⟩)
    rw [hh.2.1, sdM_g l1.mg]
  rw [ix55_26 hp6, obq, rq_52 h1.rf, h1.py hp, rq_59 h1.rf]
  by_cases c : mv &&& 2 = 2
  · rw [if_pos c, sign_eq, bdq, e56]
    simp only [if_pos c]
    exact fin _
  · rw [if_neg c]
    simp only [if_neg c]
    exact fin 0
theorem la20 (h : CMx lv b s S) {p : Nat} (hp : p < bP b) {v mv : Int32} : RN (b_X10_looksAt_20 140 (nI p) mv 176 (nI p) v S) (fun _ S' => S'.1 176 p = vp_nar .boolean v ∧ S'.1 177 p = pX s p + (if mv &&& 1 = 1 then wayI (S.1 140 55) 0 else 0) ∧ S'.1 178 p = pY s p + (if mv &&& 2 = 2 then wayI (S.1 140 56) 0 else 0) ∧ S'.1 179 p = (if sdB b (sdM S) s p = true then 1 else 0) ∧ (∀ k, k ≠ p → S'.1 176 k = S.1 176 k ∧ S'.1 177 k = S.1 177 k ∧ S'.1 178 k = S.1 178 k ∧ S'.1 179 k = S.1 179 k) ∧ ML S S') := by
  have hp6 : p < 6 := Nat.lt_of_lt_of_le hp h.wb.p6
  unfold b_X10_looksAt_20
  rw [ix6 hp6, obq, nmq]
  have l1 : ML S (sI S 176 p (vp_nar .boolean v)) := ML_w (by decide) (by decide)
  have f0 : (sI S 176 p (vp_nar .boolean v)).1 176 p = vp_nar .boolean v := sI_at
  have f3 : ∀ k, k ≠ p → (sI S 176 p (vp_nar .boolean v)).1 176 k = S.1 176 k := fun k hk => sI_ne (Or.inr hk)
  have f4 : ∀ c k, c ≠ 176 → (sI S 176 p (vp_nar .boolean v)).1 c k = S.1 c k := fun c k hk => sI_ne (Or.inl hk)
  revert l1 f0 f3 f4
  generalize sI S 176 p (vp_nar .boolean v) = S1
  intro l1 f0 f3 f4
  have h1 := CMx_l h l1
  have fin : ∀ v2 : Int32, RN (b_X10_looksAt_53 140 (nI p) mv 177 (nI p) (pX s p) v2 S1) (fun _ S' => S'.1 176 p = vp_nar .boolean v ∧ S'.1 177 p = pX s p + v2 ∧ S'.1 178 p = pY s p + (if mv &&& 2 = 2 then wayI (S.1 140 56) 0 else 0) ∧ S'.1 179 p = (if sdB b (sdM S) s p = true then 1 else 0) ∧ (∀ k, k ≠ p → S'.1 176 k = S.1 176 k ∧ S'.1 177 k = S.1 177 k ∧ S'.1 178 k = S.1 178 k ∧ S'.1 179 k = S.1 179 k) ∧ ML S S') := by
    intro v2
    refine RN_mono (la53 h1 hp (x := pX s p) (y := v2) (mv := mv)) (fun _ S' hh => ⟨(hh.2.2.2.1 p).trans f0, hh.1, ?_, ?_, fun k hk => ⟨(hh.2.2.2.1 k).trans (f3 k hk), (hh.2.2.2.2.1 k hk).1.trans (f4 _ _ (by decide)), (hh.2.2.2.2.1 k hk).2.1.trans (f4 _ _ (by decide)), (hh.2.2.2.2.1 k hk).2.2.trans (f4 _ _ (by decide))⟩, l1.tr hh.2.2.2.2.2⟩)
    · rw [hh.2.1, f4 140 56 (by decide)]
    · rw [hh.2.2.1, sdM_g l1.mg]
  rw [ix55_20 hp6, obq, rq_52 h1.rf, h1.px hp, rq_58 h1.rf]
  by_cases c : mv &&& 1 = 1
  · rw [if_pos c, sign_eq, bdq, f4 140 55 (by decide)]
    simp only [if_pos c]
    exact fin _
  · rw [if_neg c]
    simp only [if_neg c]
    exact fin 0
theorem looksAt_run (h : CMx lv b s S) {p : Nat} (hp : p < bP b) : RN (f_X10_looksAt 140 (nI p) S) (fun _ S' => LOK b s (sdM S) p S' ∧ (∀ k, k ≠ p → S'.1 176 k = S.1 176 k ∧ S'.1 177 k = S.1 177 k ∧ S'.1 178 k = S.1 178 k ∧ S'.1 179 k = S.1 179 k) ∧ ML S S') := by
  unfold f_X10_looksAt
  refine RN_bd (movesNow_run h hp) (fun r S1 h1 => ?_)
  obtain ⟨g1, g2, hE⟩ := h1
  have h2 := CMx_w h hE
  have ek : ∀ c k, 176 ≤ c → S1.1 c k = S.1 c k := fun c k hc => hE.2 c k (by omega) (by omega) (by omega)
  rw [rq_57 h2.rf]
  have hsd : sdM S1 = sdM S := sdM_g hE.mg
  have hne : ∀ S' : St, (∀ k, k ≠ p → S'.1 176 k = S1.1 176 k ∧ S'.1 177 k = S1.1 177 k ∧ S'.1 178 k = S1.1 178 k ∧ S'.1 179 k = S1.1 179 k) → ∀ k, k ≠ p → S'.1 176 k = S.1 176 k ∧ S'.1 177 k = S.1 177 k ∧ S'.1 178 k = S.1 178 k ∧ S'.1 179 k = S.1 179 k := fun S' hh k hk => ⟨(hh k hk).1.trans (ek _ _ (by decide)), (hh k hk).2.1.trans (ek _ _ (by decide)), (hh k hk).2.2.1.trans (ek _ _ (by decide)), (hh k hk).2.2.2.trans (ek _ _ (by decide))⟩
  by_cases ho : (aO s).testBit p = true
  · rw [g1 ho, if_pos (by decide)]
    refine RN_mono (la20 h2 hp (v := 0) (mv := 0)) (fun _ S' hh => ⟨⟨?_, fun q => (by rw [ho] at q; cases q)⟩, hne S' hh.2.2.2.2.1, hE.ml.tr hh.2.2.2.2.2⟩)
    rw [hh.1, nar_bool0, ho]
    rfl
  · have ho' : (aO s).testBit p = false := by simpa using ho
    obtain ⟨rfl, g3⟩ := g2 ho'
    have e5 : S1.1 140 55 = (feelA b s p (pX s p) (pY s p)).1 := congrArg Prod.fst g3
    have e6 : S1.1 140 56 = (feelA b s p (pX s p) (pY s p)).2 := congrArg Prod.snd g3
    have hx : ∀ u : Int32, (if movI b s p (pX s p) (pY s p) &&& 1 = 1 then u else 0) = if abI (feelA b s p (pX s p) (pY s p)).1 ≤ standsA b s p (pX s p) (pY s p) then 0 else u := fun u => by
      have := (movI_bits (b := b) (s := s) (p := p) (x := pX s p) (y := pY s p)).1
      by_cases c : abI (feelA b s p (pX s p) (pY s p)).1 ≤ standsA b s p (pX s p) (pY s p)
      · rw [if_neg (fun q => this.mp q c), if_pos c]
      · rw [if_pos (this.mpr c), if_neg c]
    have hy : ∀ u : Int32, (if movI b s p (pX s p) (pY s p) &&& 2 = 2 then u else 0) = if abI (feelA b s p (pX s p) (pY s p)).2 ≤ standsA b s p (pX s p) (pY s p) then 0 else u := fun u => by
      have := (movI_bits (b := b) (s := s) (p := p) (x := pX s p) (y := pY s p)).2
      by_cases c : abI (feelA b s p (pX s p) (pY s p)).2 ≤ standsA b s p (pX s p) (pY s p)
      · rw [if_neg (fun q => this.mp q c), if_pos c]
      · rw [if_pos (this.mpr c), if_neg c]
    have fin : ∀ v : Int32, vp_nar .boolean v = (if (!(aO s).testBit p && movedA b s p (pX s p) (pY s p)) = true then 1 else 0) → RN (b_X10_looksAt_20 140 (nI p) (movI b s p (pX s p) (pY s p)) 176 (nI p) v S1) (fun _ S' => LOK b s (sdM S) p S' ∧ (∀ k, k ≠ p → S'.1 176 k = S.1 176 k ∧ S'.1 177 k = S.1 177 k ∧ S'.1 178 k = S.1 178 k ∧ S'.1 179 k = S.1 179 k) ∧ ML S S') := by
      intro v hv
      refine RN_mono (la20 h2 hp (v := v) (mv := movI b s p (pX s p) (pY s p))) (fun _ S' hh => ⟨⟨hh.1.trans hv, fun _ => ⟨?_, ?_, ?_⟩⟩, hne S' hh.2.2.2.2.1, hE.ml.tr hh.2.2.2.2.2⟩)
      · rw [hh.2.1, hx, e5]
      · rw [hh.2.2.1, hy, e6]
      · rw [hh.2.2.2.1, hsd]
    by_cases c : movI b s p (pX s p) (pY s p) ≤ 0
    · rw [if_pos c]
      refine fin 0 ?_
      rw [nar_bool0, movI_pos.mp c]
      simp
    · rw [if_neg c]
      refine fin 1 ?_
      have : movedA b s p (pX s p) (pY s p) = true := by
        cases hm : movedA b s p (pX s p) (pY s p) with
        | true => rfl
        | false => exact absurd (movI_pos.mpr hm) c
      rw [nar_bool1, this, ho']
      rfl
theorem menc_setR {j jj : Nat} {v : Int32} (hj : (jj = j ∧ j < 16) ∨ (jj = j + 4 ∧ 16 ≤ j ∧ j < 28) ∨ (jj = j + 10 ∧ 28 ≤ j ∧ j < 36)) {k : Nat} : menc ((fun i => if i = j then v else aR s i), s.2) k = if k = jj then v else menc s k := by
  show (if k < 16 then (if k = j then v else aR s k) else if k < 20 then bitI (aD s) (k - 16) else if k < 32 then (if k - 4 = j then v else aR s (k - 4)) else if k < 38 then bitI (aO s) (k - 32) else if k < 46 then (if k - 10 = j then v else aR s (k - 10)) else if k < 54 then bitI (aC s) (k - 46) else nI (aM s)) = _
  unfold menc
  repeat' split
  all_goals first | rfl | (exfalso; omega)
theorem RW_ext {s' : ASea} (h : RW s S) (hs : ∀ k, k < 55 → menc s' k = menc s k) : RW s' S := fun k hk => (h k hk).trans (hs k hk).symm
theorem RW_upd {s' : ASea} {j : Nat} {v : Int32} (h : RW s S) (hm : ∀ k, k < 55 → menc s' k = if k = j then v else menc s k) : RW s' (sI S 175 j v) := fun k hk => by
  rw [sI_1, hm k hk]
  by_cases e : k = j
  · rw [if_pos ⟨rfl, e⟩, if_pos e]
  · rw [if_neg (fun q => e q.2), if_neg e]
    exact h k hk
theorem menc_off {p : Nat} (hp : p < 6) {k : Nat} : menc (s.1, s.2.1, s.2.2.1 ||| 1 <<< p, s.2.2.2) k = if k = 32 + p then 1 else menc s k := by
  show (if k < 16 then aR s k else if k < 20 then bitI (aD s) (k - 16) else if k < 32 then aR s (k - 4) else if k < 38 then bitI (aO s ||| 1 <<< p) (k - 32) else if k < 46 then aR s (k - 10) else if k < 54 then bitI (aC s) (k - 46) else nI (aM s)) = _
  have hb : ∀ i, bitI (aO s ||| 1 <<< p) i = if i = p then 1 else bitI (aO s) i := fun i => by
    unfold bitI
    rw [tb_or]
    by_cases e : p = i
    · simp [e]
    · have : ¬ i = p := fun q => e q.symm
      simp [e, this]
  rw [hb]
  unfold menc
  repeat' split
  all_goals first | rfl | (exfalso; omega)
theorem menc_cut {p : Nat} (hp : p < 8) {k : Nat} (hk : k < 54) : menc (s.1, s.2.1, s.2.2.1, s.2.2.2.1, s.2.2.2.2 ||| 1 <<< p) k = if k = 46 + p then 1 else menc s k := by
  show (if k < 16 then aR s k else if k < 20 then bitI (aD s) (k - 16) else if k < 32 then aR s (k - 4) else if k < 38 then bitI (aO s) (k - 32) else if k < 46 then aR s (k - 10) else if k < 54 then bitI (aC s ||| 1 <<< p) (k - 46) else nI (aM s)) = _
  have hb : ∀ i, bitI (aC s ||| 1 <<< p) i = if i = p then 1 else bitI (aC s) i := fun i => by
    unfold bitI
    rw [tb_or]
    by_cases e : p = i
    · simp [e]
    · have : ¬ i = p := fun q => e q.symm
      simp [e, this]
  rw [hb]
  unfold menc
  repeat' split
  all_goals first | rfl | (exfalso; omega)
theorem menc_die {p : Nat} (hp : p < 4) {k : Nat} : menc (s.1, s.2.1, s.2.2.1, s.2.2.2.1 ||| 1 <<< p, s.2.2.2.2) k = if k = 16 + p then 1 else menc s k := by
  show (if k < 16 then aR s k else if k < 20 then bitI (aD s ||| 1 <<< p) (k - 16) else if k < 32 then aR s (k - 4) else if k < 38 then bitI (aO s) (k - 32) else if k < 46 then aR s (k - 10) else if k < 54 then bitI (aC s) (k - 46) else nI (aM s)) = _
  have hb : ∀ i, bitI (aD s ||| 1 <<< p) i = if i = p then 1 else bitI (aD s) i := fun i => by
    unfold bitI
    rw [tb_or]
    by_cases e : p = i
    · simp [e]
    · have : ¬ i = p := fun q => e q.symm
      simp [e, this]
  rw [hb]
  unfold menc
  repeat' split
  all_goals first | rfl | (exfalso; omega)
theorem menc_mon {n : Nat} {k : Nat} (hk : k < 55) : menc (s.1, n, s.2.2) k = if k = 54 then nI n else menc s k := by
  show (if k < 16 then aR s k else if k < 20 then bitI (aD s) (k - 16) else if k < 32 then aR s (k - 4) else if k < 38 then bitI (aO s) (k - 32) else if k < 46 then aR s (k - 10) else if k < 54 then bitI (aC s) (k - 46) else nI n) = _
  unfold menc
  repeat' split
  all_goals first | rfl | (exfalso; omega)
end MMO

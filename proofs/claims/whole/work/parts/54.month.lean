/-! how a MONTH goes by, in the abstract -/
def wayI (x y : Int32) : Int32 := if x = y then 0 else if y ≤ x then 1 else -1
def feelF (pl wa wd : Nat → Int32) (q : Nat → Bool) : Nat → Nat → Int32 → Int32 → Int32 × Int32
  | 0, _, x, y => (x, y)
  | m + 1, i, x, y => if q i then feelF pl wa wd q m (i + 1) (x + pl i * wa i) (y + pl i * wd i) else feelF pl wa wd q m (i + 1) x y
/-- what a set of STRANDS would pull a PERSON by who stands there -/
def feelQ (b : Bk) (s : ASea) (q : Nat → Bool) (p : Nat) (x y : Int32) : Int32 × Int32 := feelF (fun e => pullA b s e p x y) (fun e => wayI (aR s (bWho b e)) x) (fun e => wayI (aR s (4 + bWho b e)) y) q (bS b) 0 0 0
def feelA (b : Bk) (s : ASea) (p : Nat) (x y : Int32) : Int32 × Int32 := feelQ b s (fun e => wornA s e p) p x y
def movedA (b : Bk) (s : ASea) (p : Nat) (x y : Int32) : Bool := decide (standsA b s p x y < abI (feelA b s p x y).1) || decide (standsA b s p x y < abI (feelA b s p x y).2)
def goneI (x f st : Int32) : Int32 := if abI f ≤ st then x else mxI 0 (mnI 9 (x + wayI f 0))
def pX (s : ASea) (p : Nat) : Int32 := aR s (16 + p)
def pY (s : ASea) (p : Nat) : Int32 := aR s (22 + p)
def gX (b : Bk) (s : ASea) (p : Nat) : Int32 := goneI (pX s p) (feelA b s p (pX s p) (pY s p)).1 (standsA b s p (pX s p) (pY s p))
def gY (b : Bk) (s : ASea) (p : Nat) : Int32 := goneI (pY s p) (feelA b s p (pX s p) (pY s p)).2 (standsA b s p (pX s p) (pY s p))
def mixI (h v : Int32) : Int32 := ((h ^^^ v) * 1103515245 + 12345) ^^^ ((((h ^^^ v) * 1103515245 + 12345).toUInt32 >>> ((15 : Int32).toUInt32 &&& Int32.toUInt32 31)).toInt32)
def lotI (sd which : Int32) : Int32 := (((mixI (mixI sd 135) which).toUInt32 >>> ((1 : Int32).toUInt32 &&& Int32.toUInt32 31)).toInt32) - (((mixI (mixI sd 135) which).toUInt32 >>> ((1 : Int32).toUInt32 &&& Int32.toUInt32 31)).toInt32) / 100 * 100
def drownA (b : Bk) (s : ASea) (p : Nat) (sd : Int32) : Bool := !decide (stormA b s p ≤ lotI sd (16 * nI (aM s) + nI p))
def gO (b : Bk) (sd : Option Int32) (s : ASea) (p : Nat) : Bool := (match sd with | none => false | some d => drownA b s p d) || !decide (gY b s p ≤ nI (bPier b))
def goP (b : Bk) (sd : Option Int32) (s : ASea) (p : Nat) : ASea := if (aO s).testBit p then s else ((fun k => if k = 22 + p then gY b s p else if k = 16 + p then gX b s p else aR s k), aM s, (if gO b sd s p then aO s ||| 1 <<< p else aO s), aD s, aC s)
def goM (b : Bk) (sd : Option Int32) (s : ASea) (lo : Nat) : Nat → ASea
  | 0 => s
  | n + 1 => goP b sd (goM b sd s lo n) (lo + n)
def swimAll (s : ASea) : Nat → ASea
  | 0 => s
  | n + 1 => swimA (swimAll s n) n
def monthA (b : Bk) (sd : Option Int32) (lo n : Nat) (s : ASea) : ASea := ((swimAll (goM b sd s lo n) (bM b)).1, aM s + 1, (swimAll (goM b sd s lo n) (bM b)).2.2)
/-- all that matters for how the PERSON p goes is alike -/
def sim (p : Nat) (s s' : ASea) : Prop := (∀ k, k < 16 → aR s k = aR s' k) ∧ aM s = aM s' ∧ aD s = aD s' ∧ (aO s).testBit p = (aO s').testBit p ∧ (∀ e, e < 8 → wornA s e p = wornA s' e p) ∧ aR s (16 + p) = aR s' (16 + p) ∧ aR s (22 + p) = aR s' (22 + p)
section SIM
variable {b : Bk} {s s' : ASea} {p : Nat} {x y : Int32} {sd : Option Int32}
theorem sim.rf : sim p s s := ⟨fun _ _ => rfl, rfl, rfl, rfl, fun _ _ => rfl, rfl, rfl⟩
theorem sim.sy (h : sim p s s') : sim p s' s := ⟨fun k hk => (h.1 k hk).symm, h.2.1.symm, h.2.2.1.symm, h.2.2.2.1.symm, fun e he => (h.2.2.2.2.1 e he).symm, h.2.2.2.2.2.1.symm, h.2.2.2.2.2.2.symm⟩
theorem sim.tr {s2 : ASea} (h : sim p s s') (g : sim p s' s2) : sim p s s2 := ⟨fun k hk => (h.1 k hk).trans (g.1 k hk), h.2.1.trans g.2.1, h.2.2.1.trans g.2.2.1, h.2.2.2.1.trans g.2.2.2.1, fun e he => (h.2.2.2.2.1 e he).trans (g.2.2.2.2.1 e he), h.2.2.2.2.2.1.trans g.2.2.2.2.2.1, h.2.2.2.2.2.2.trans g.2.2.2.2.2.2⟩
theorem far_sim {m : Nat} (h : sim p s s') (hm : m < 4) : farA s m x y = farA s' m x y := by
  unfold farA
  rw [h.1 m (by omega), h.1 (4 + m) (by omega)]
theorem v0_sim (h : sim p s s') : v0 s = v0 s' := by
  unfold v0
  rw [h.2.1]
theorem worn_cut {e : Nat} (h : wornA s e p = true) : (aC s).testBit e = false := by
  unfold wornA at h
  simpa using (Bool.and_eq_true_iff.mp h).2
theorem pull_sim {e : Nat} (hb : wfB b) (he : e < bS b) (h : sim p s s') (hq : wornA s e p = true) : pullA b s e p x y = pullA b s' e p x y := by
  have h8 : e < 8 := Nat.lt_of_lt_of_le he hb.s8
  have hq' : wornA s' e p = true := (h.2.2.2.2.1 e h8).symm.trans hq
  unfold pullA
  rw [far_sim h (hb.w4 he), worn_cut hq, worn_cut hq', h.2.2.1, h.2.2.2.1]
  have : vP b s e p = vP b s' e p := by
    funext far k
    unfold vP
    rw [v0_sim h]
  rw [this]
theorem feelF_congr {pl wa wd pl' wa' wd' : Nat → Int32} {q q' : Nat → Bool} : ∀ (m i : Nat) (u v : Int32), (∀ j, i ≤ j → j < i + m → q j = q' j ∧ (q j = true → pl j = pl' j ∧ wa j = wa' j ∧ wd j = wd' j)) → feelF pl wa wd q m i u v = feelF pl' wa' wd' q' m i u v
  | 0, _, _, _, _ => rfl
  | m + 1, i, u, v, h => by
    obtain ⟨h1, h2⟩ := h i (Nat.le_refl _) (by omega)
    unfold feelF
    rw [← h1]
    by_cases hq : q i = true
    · obtain ⟨h3, h4, h5⟩ := h2 hq
      rw [if_pos hq, if_pos hq, h3, h4, h5]
      exact feelF_congr m (i + 1) _ _ (fun j hj1 hj2 => h j (by omega) (by omega))
    · rw [if_neg hq, if_neg hq]
      exact feelF_congr m (i + 1) _ _ (fun j hj1 hj2 => h j (by omega) (by omega))
theorem feel_sim (hb : wfB b) (h : sim p s s') : feelA b s p x y = feelA b s' p x y := by
  unfold feelA feelQ
  refine feelF_congr _ _ _ _ (fun e _ he => ?_)
  have he : e < bS b := by omega
  have h8 : e < 8 := Nat.lt_of_lt_of_le he hb.s8
  have hw := hb.w4 he
  refine ⟨h.2.2.2.2.1 e h8, fun hq => ⟨pull_sim hb he h hq, ?_, ?_⟩⟩
  · rw [h.1 _ (by omega)]
  · rw [h.1 _ (by omega)]
theorem cntF_congr {q q' : Nat → Bool} : ∀ (m i : Nat), (∀ j, i ≤ j → j < i + m → q j = q' j) → cntF q m i = cntF q' m i
  | 0, _, _ => rfl
  | m + 1, i, h => by
    unfold cntF
    rw [h i (Nat.le_refl _) (by omega), cntF_congr m (i + 1) (fun j h1 h2 => h j (by omega) (by omega))]
theorem wornN_sim (hb : wfB b) (h : sim p s s') : wornN b s p = wornN b s' p := by
  unfold wornN
  exact cntF_congr _ _ (fun e _ he => h.2.2.2.2.1 e (by have := hb.s8; omega))
theorem vS_sim (hb : wfB b) (h : sim p s s') : vS b s p x y = vS b s' p x y := by
  funext k
  unfold vS
  rw [v0_sim h, wornN_sim hb h]
theorem stands_sim (hb : wfB b) (h : sim p s s') : standsA b s p x y = standsA b s' p x y := by
  unfold standsA
  rw [vS_sim hb h]
theorem storm_sim (hb : wfB b) (h : sim p s s') : stormA b s p = stormA b s' p := by
  unfold stormA
  rw [h.2.2.2.2.2.1, h.2.2.2.2.2.2, vS_sim hb h]
theorem moved_sim (hb : wfB b) (h : sim p s s') : movedA b s p x y = movedA b s' p x y := by
  unfold movedA
  rw [stands_sim hb h, feel_sim hb h]
theorem gX_sim (hb : wfB b) (h : sim p s s') : gX b s p = gX b s' p := by
  unfold gX pX pY
  rw [h.2.2.2.2.2.1, h.2.2.2.2.2.2, feel_sim hb h, stands_sim hb h]
theorem gY_sim (hb : wfB b) (h : sim p s s') : gY b s p = gY b s' p := by
  unfold gY pX pY
  rw [h.2.2.2.2.2.1, h.2.2.2.2.2.2, feel_sim hb h, stands_sim hb h]
theorem drown_sim (hb : wfB b) (h : sim p s s') {d : Int32} : drownA b s p d = drownA b s' p d := by
  unfold drownA
  rw [storm_sim hb h, h.2.1]
theorem gO_sim (hb : wfB b) (h : sim p s s') : gO b sd s p = gO b sd s' p := by
  unfold gO
  rw [gY_sim hb h]
  cases sd with
  | none => rfl
  | some d => simp only [drown_sim hb h]
/-! bits -/
theorem tb_or {o p q : Nat} : (o ||| 1 <<< p).testBit q = (o.testBit q || decide (p = q)) := by
  rw [Nat.testBit_or, Nat.one_shiftLeft, Nat.testBit_two_pow]
theorem orI : ∀ o : Nat, o < 256 → ∀ p : Nat, p < 8 → nI o ||| ((1 : Int32) <<< (nI p &&& 31)) = nI (o ||| 1 <<< p) := by decide +kernel
theorem or64 {o p : Nat} (ho : o < 64) (hp : p < 6) : o ||| 1 <<< p < 64 := Nat.or_lt_two_pow (n := 6) ho (by rw [Nat.one_shiftLeft]; exact Nat.pow_lt_pow_right (by decide) hp)
theorem or16 {o p : Nat} (ho : o < 16) (hp : p < 4) : o ||| 1 <<< p < 16 := Nat.or_lt_two_pow (n := 4) ho (by rw [Nat.one_shiftLeft]; exact Nat.pow_lt_pow_right (by decide) hp)
theorem or256 {o p : Nat} (ho : o < 256) (hp : p < 8) : o ||| 1 <<< p < 256 := Nat.or_lt_two_pow (n := 8) ho (by rw [Nat.one_shiftLeft]; exact Nat.pow_lt_pow_right (by decide) hp)
/-! what goP leaves -/
theorem goP_row {q k : Nat} (h1 : k ≠ 22 + q) (h2 : k ≠ 16 + q) : aR (goP b sd s q) k = aR s k := by
  unfold goP
  split
  · rfl
  · show (if k = 22 + q then _ else if k = 16 + q then _ else aR s k) = _
    rw [if_neg h1, if_neg h2]
theorem goP_M {q : Nat} : aM (goP b sd s q) = aM s := by unfold goP; split <;> rfl
theorem goP_D {q : Nat} : aD (goP b sd s q) = aD s := by unfold goP; split <;> rfl
theorem goP_C {q : Nat} : aC (goP b sd s q) = aC s := by unfold goP; split <;> rfl
theorem goP_O {q : Nat} (h : q ≠ p) : (aO (goP b sd s q)).testBit p = (aO s).testBit p := by
  unfold goP
  split
  · rfl
  · show (if gO b sd s q then aO s ||| 1 <<< q else aO s).testBit p = _
    split
    · rw [tb_or]; simp [h]
    · rfl
theorem goP_worn {q e : Nat} (hq : q < 6) : wornA (goP b sd s q) e p = wornA s e p := by
  unfold wornA
  rw [goP_C, goP_row (by omega) (by omega)]
theorem goP_sim {q : Nat} (hq : q < 6) (hp : p < 6) (h : q ≠ p) : sim p (goP b sd s q) s := ⟨fun k hk => goP_row (by omega) (by omega), goP_M, goP_D, goP_O h, fun e he => goP_worn hq, goP_row (by omega) (by omega), goP_row (by omega) (by omega)⟩
theorem goP_both {s s' : ASea} (hb : wfB b) (hp : p < 6) (h : sim p s s') : sim p (goP b sd s p) (goP b sd s' p) := by
  refine ⟨fun k hk => ?_, ?_, ?_, ?_, fun e he => ?_, ?_, ?_⟩
  · rw [goP_row (by omega) (by omega), goP_row (by omega) (by omega)]; exact h.1 k hk
  · rw [goP_M, goP_M]; exact h.2.1
  · rw [goP_D, goP_D]; exact h.2.2.1
  · unfold goP
    rw [← h.2.2.2.1, gO_sim hb h]
    split
    · exact h.2.2.2.1
    · show (if _ then _ else _ : Nat).testBit p = (if _ then _ else _ : Nat).testBit p
      split
      · rw [tb_or, tb_or, h.2.2.2.1]
      · exact h.2.2.2.1
  · rw [goP_worn hp, goP_worn hp]; exact h.2.2.2.2.1 e he
  · unfold goP
    rw [← h.2.2.2.1]
    split
    · exact h.2.2.2.2.2.1
    · show (if 16 + p = 22 + p then _ else if 16 + p = 16 + p then _ else _) = (if 16 + p = 22 + p then _ else if 16 + p = 16 + p then _ else _)
      rw [if_neg (show ¬ 16 + p = 22 + p by omega), if_neg (show ¬ 16 + p = 22 + p by omega), if_pos rfl, if_pos rfl, gX_sim hb h]
  · unfold goP
    rw [← h.2.2.2.1]
    split
    · exact h.2.2.2.2.2.2
    · show (if 22 + p = 22 + p then _ else _) = (if 22 + p = 22 + p then _ else _)
      rw [if_pos rfl, if_pos rfl, gY_sim hb h]
theorem goM_out {lo : Nat} (hp : p < 6) : ∀ n, lo + n ≤ 6 → (p < lo ∨ lo + n ≤ p) → sim p (goM b sd s lo n) s
  | 0, _, _ => sim.rf
  | n + 1, h, h' => (goP_sim (by omega) hp (by omega)).tr (goM_out hp n (by omega) (by omega))
theorem goM_in (hb : wfB b) {lo lo' : Nat} (hp : p < 6) (h : sim p s s') : ∀ n n', lo + n ≤ 6 → lo' + n' ≤ 6 → lo ≤ p → p < lo + n → lo' ≤ p → p < lo' + n' → sim p (goM b sd s lo n) (goM b sd s' lo' n') := by
  have one : ∀ (s : ASea) (lo n : Nat), lo + n ≤ 6 → lo ≤ p → p < lo + n → sim p (goM b sd s lo n) (goP b sd s p) := by
    intro s lo n
    induction n with
    | zero => intro _ h1 h2; omega
    | succ n ih =>
      intro h0 h1 h2
      by_cases e : p = lo + n
      · show sim p (goP b sd (goM b sd s lo n) (lo + n)) _
        rw [← e]
        exact goP_both hb hp (goM_out hp n (by omega) (Or.inr (by omega)))
      · exact (goP_sim (by omega) hp (fun q => e q.symm)).tr (ih (by omega) h1 (by omega))
  intro n n' h1 h2 h3 h4 h5 h6
  exact ((one s lo n h1 h3 h4).tr (goP_both hb hp h)).tr (one s' lo' n' h2 h5 h6).sy
end SIM

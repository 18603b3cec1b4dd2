/-! what goes on: an abstract Sea; the class holds it in an object and a row, the reference in 55 ints -/
abbrev ASea : Type := (Nat → Int32) × Nat × Nat × Nat × Nat
abbrev aR (s : ASea) : Nat → Int32 := s.1
abbrev aM (s : ASea) : Nat := s.2.1
abbrev aO (s : ASea) : Nat := s.2.2.1
abbrev aD (s : ASea) : Nat := s.2.2.2.1
abbrev aC (s : ASea) : Nat := s.2.2.2.2
def wfS (s : ASea) : Prop := aM s ≤ 40000 ∧ aO s < 64 ∧ aD s < 16 ∧ aC s < 256
def RS (a : Nat) (s : ASea) (S : St) : Prop := (∀ k, k < 36 → S.1 (a + 1) k = aR s k) ∧ S.1 a 1 = nI (aM s) ∧ S.1 a 2 = nI (aO s) ∧ S.1 a 3 = nI (aD s) ∧ S.1 a 4 = nI (aC s)
def bitI (m i : Nat) : Int32 := if m.testBit i then 1 else 0
def menc (s : ASea) (k : Nat) : Int32 := if k < 16 then aR s k else if k < 20 then bitI (aD s) (k - 16) else if k < 32 then aR s (k - 4) else if k < 38 then bitI (aO s) (k - 32) else if k < 46 then aR s (k - 10) else if k < 54 then bitI (aC s) (k - 46) else nI (aM s)
def RW (s : ASea) (S : St) : Prop := ∀ k, k < 55 → S.1 175 k = menc s k
theorem menc_m {s : ASea} {k : Nat} (h : k < 16) : menc s k = aR s k := by unfold menc; rw [if_pos h]
theorem menc_d {s : ASea} {i : Nat} (h : i < 4) : menc s (16 + i) = bitI (aD s) i := by unfold menc; rw [if_neg (by omega), if_pos (by omega), show 16 + i - 16 = i by omega]
theorem menc_px {s : ASea} {i : Nat} (h : i < 6) : menc s (20 + i) = aR s (16 + i) := by unfold menc; rw [if_neg (by omega), if_neg (by omega), if_pos (by omega), show 20 + i - 4 = 16 + i by omega]
theorem menc_py {s : ASea} {i : Nat} (h : i < 6) : menc s (26 + i) = aR s (22 + i) := by unfold menc; rw [if_neg (by omega), if_neg (by omega), if_pos (by omega), show 26 + i - 4 = 22 + i by omega]
theorem menc_o {s : ASea} {i : Nat} (h : i < 6) : menc s (32 + i) = bitI (aO s) i := by unfold menc; rw [if_neg (by omega), if_neg (by omega), if_neg (by omega), if_pos (by omega), show 32 + i - 32 = i by omega]
theorem menc_w {s : ASea} {i : Nat} (h : i < 8) : menc s (38 + i) = aR s (28 + i) := by unfold menc; rw [if_neg (by omega), if_neg (by omega), if_neg (by omega), if_neg (by omega), if_pos (by omega), show 38 + i - 10 = 28 + i by omega]
theorem menc_c {s : ASea} {i : Nat} (h : i < 8) : menc s (46 + i) = bitI (aC s) i := by unfold menc; rw [if_neg (by omega), if_neg (by omega), if_neg (by omega), if_neg (by omega), if_neg (by omega), if_pos (by omega), show 46 + i - 46 = i by omega]
theorem menc_t {s : ASea} : menc s 54 = nI (aM s) := rfl
theorem bit_ne : ∀ o : Nat, o < 256 → ∀ p : Nat, p < 8 → (((nI o >>> (nI p &&& 31)) &&& (1 : Int32)) = 0 ↔ o.testBit p = false) := by decide +kernel
theorem bitI_1 {m i : Nat} : (bitI m i = 1) ↔ m.testBit i = true := by
  unfold bitI
  split
  next h => simp [h]
  next h => simp [h]
section SEA
variable {s : ASea} {S : St} {a : Nat}
theorem flag_eq {o p : Nat} (ho : o < 256) (hp : p < 8) {α : Type} {x y : α} : (if ((nI o >>> (nI p &&& 31)) &&& (1 : Int32)) = 0 then x else y) = if o.testBit p then y else x := by
  by_cases h : o.testBit p = true
  · rw [if_neg (fun q => by have := (bit_ne o ho p hp).mp q; rw [h] at this; cases this), if_pos h]
  · rw [if_pos ((bit_ne o ho p hp).mpr (by simpa using h)), if_neg h]
theorem isOff_eq (hS : RS a s S) (hw : wfS s) {p : Nat} (hp : p < 6) : f_X5_isOff a (nI p) S = some (if (aO s).testBit p then 1 else 0, S) := by
  unfold f_X5_isOff
  rw [hS.2.2.1, flag_eq (by have := hw.2.1; omega) (by omega)]
  split <;> rfl
theorem isDead_eq (hS : RS a s S) (hw : wfS s) {p : Nat} (hp : p < 4) : f_X5_isDead a (nI p) S = some (if (aD s).testBit p then 1 else 0, S) := by
  unfold f_X5_isDead
  rw [hS.2.2.2.1, flag_eq (by have := hw.2.2.1; omega) (by omega)]
  split <;> rfl
theorem isCut_eq (hS : RS a s S) (hw : wfS s) {p : Nat} (hp : p < 8) : f_X5_isCut a (nI p) S = some (if (aC s).testBit p then 1 else 0, S) := by
  unfold f_X5_isCut
  rw [hS.2.2.2.2, flag_eq (by have := hw.2.2.2; omega) (by omega)]
  split <;> rfl
theorem add28 (k e : Nat) [OfNat Int32 k] (h : (OfNat.ofNat k : Int32) = nI k) : (OfNat.ofNat k : Int32) + nI e = nI (k + e) := by rw [h, nI_add]
/-- a STRAND that counts among what a PERSON wears -/
def wornA (s : ASea) (e p : Nat) : Bool := decide (aR s (28 + e) = nI p) && !((aC s).testBit e)
theorem isWorn_eq (hr0 : S.2.2 a 0 = a + 1) (hS : RS a s S) (hw : wfS s) {e p : Nat} (he : e < 8) : f_X5_isWorn a (nI e) (nI p) S = some (if wornA s e p then 1 else 0, S) := by
  unfold f_X5_isWorn wornA
  rw [show (28 : Int32) + nI e = nI (28 + e) from nI_add 28 e, ix_nI (by omega) (by decide), Option.bind_some, hr0, hS.1 _ (by omega), hS.2.2.2.2, flag_eq (by have := hw.2.2.2; omega) he]
  by_cases h : aR s (28 + e) = nI p
  · rw [if_pos h]
    by_cases hc : (aC s).testBit e = true
    · simp [hc]
    · simp [hc, h]
  · rw [if_neg h]
    simp [h]
theorem mayBe_eq (hr0 : S.2.2 a 0 = a + 1) (hS : RS a s S) (hw : wfS s) {e p : Nat} (he : e < 8) (hp : p < 6) : f_X5_mayBeHanded a (nI e) (nI p) S = some (if ¬ aR s (28 + e) = nI p ∧ (aC s).testBit e = false ∧ (aO s).testBit p = false then 1 else 0, S) := by
  unfold f_X5_mayBeHanded
  rw [show (28 : Int32) + nI e = nI (28 + e) from nI_add 28 e, ix_nI (by omega) (by decide), Option.bind_some, hr0, hS.1 _ (by omega), isCut_eq hS hw he, bd_some, isOff_eq hS hw hp, bd_some]
  by_cases h : aR s (28 + e) = nI p
  · rw [if_pos h, if_neg (fun q => q.1 h)]
  · rw [if_neg h]
    by_cases hc : (aC s).testBit e = true
    · simp [hc]
    · by_cases ho : (aO s).testBit p = true
      · simp [hc, ho]
      · simp [hc, ho, h]
/-- one step along X, or along Y: where, and the step from then on -/
def sw1 (x st : Int32) : Int32 × Int32 := if 0 ≤ x + st then (if x + st ≤ 9 then (x + st, st) else (18 - (x + st), -st)) else (-(x + st), -st)
def swimN (s : ASea) (m : Nat) : ASea := (fun k => if k = m then (sw1 (aR s m) (aR s (8 + m))).1 else if k = 8 + m then (sw1 (aR s m) (aR s (8 + m))).2 else if k = 4 + m then (sw1 (aR s (4 + m)) (aR s (12 + m))).1 else if k = 12 + m then (sw1 (aR s (4 + m)) (aR s (12 + m))).2 else aR s k, s.2)
def swimA (s : ASea) (m : Nat) : ASea := if (aD s).testBit m then s else swimN s m
theorem along_run (hr0 : S.2.2 a 0 = a + 1) {p q : Nat} (hp : p < 36) (hq : q < 36) (hpq : p ≠ q) : RN (f_X5_swimAlong a (nI p) (nI q) S) (fun _ S' => S'.2 = S.2 ∧ (∀ b i, b ≠ a + 1 → S'.1 b i = S.1 b i) ∧ ∀ i, S'.1 (a + 1) i = if i = p then (sw1 (S.1 (a + 1) p) (S.1 (a + 1) q)).1 else if i = q then (sw1 (S.1 (a + 1) p) (S.1 (a + 1) q)).2 else S.1 (a + 1) i) := by
  unfold f_X5_swimAlong b_X5_swimAlong_61 sw1
  simp only [ix_nI hp (show 36 < 2 ^ 31 by decide), ix_nI hq (show 36 < 2 ^ 31 by decide), Option.bind_some, nm_eq, hr0, sI_2]
  by_cases h1 : 0 ≤ S.1 (a + 1) p + S.1 (a + 1) q
  · rw [if_pos h1, if_pos h1]
    by_cases h2 : S.1 (a + 1) p + S.1 (a + 1) q ≤ 9
    · rw [if_pos h2, if_pos h2]
      refine RN_some ⟨rfl, fun b i hb => ?_, fun i => ?_⟩
      · rw [sI_1, if_neg (fun e => hb e.1)]
      · rw [sI_1]
        by_cases e : i = p
        · rw [if_pos ⟨rfl, e⟩, if_pos e]
        · rw [if_neg (fun g => e g.2), if_neg e]
          by_cases e2 : i = q
          · rw [if_pos e2, e2]
          · rw [if_neg e2]
    · rw [if_neg h2, if_neg h2]
      refine RN_some ⟨rfl, fun b i hb => ?_, fun i => ?_⟩
      · rw [sI_1, if_neg (fun e => hb e.1), sI_1, if_neg (fun e => hb e.1)]
      · rw [sI_1, sI_1]
        by_cases e : i = p
        · rw [if_pos ⟨rfl, e⟩, if_pos e]
        · rw [if_neg (fun g => e g.2), if_neg e]
          by_cases e2 : i = q
          · rw [if_pos ⟨rfl, e2⟩, if_pos e2]
          · rw [if_neg (fun g => e2 g.2), if_neg e2]
  · rw [if_neg h1, if_neg h1]
    refine RN_some ⟨rfl, fun b i hb => ?_, fun i => ?_⟩
    · rw [sI_1, if_neg (fun e => hb e.1), sI_1, if_neg (fun e => hb e.1)]
    · rw [sI_1, sI_1]
      by_cases e : i = p
      · rw [if_pos ⟨rfl, e⟩, if_pos e]
      · rw [if_neg (fun g => e g.2), if_neg e]
        by_cases e2 : i = q
        · rw [if_pos ⟨rfl, e2⟩, if_pos e2]
        · rw [if_neg (fun g => e2 g.2), if_neg e2]
theorem swim_run (hr0 : S.2.2 a 0 = a + 1) (hS : RS a s S) (hw : wfS s) {m : Nat} (hm : m < 4) : RN (f_X5_swim a (nI m) S) (fun _ S' => S'.2 = S.2 ∧ (∀ b i, b ≠ a + 1 → S'.1 b i = S.1 b i) ∧ RS a (swimA s m) S') := by
  unfold f_X5_swim swimA
  rw [isDead_eq hS hw hm, bd_some]
  by_cases hd : (aD s).testBit m = true
  · rw [if_pos hd, if_pos hd, if_neg (by decide)]
    exact RN_some ⟨rfl, fun _ _ _ => rfl, hS⟩
  · rw [if_neg hd, if_neg hd, if_pos rfl, show (0 : Int32) + nI m = nI m by rw [show (0 : Int32) = nI 0 from rfl, nI_add, Nat.zero_add], show (8 : Int32) + nI m = nI (8 + m) from nI_add 8 m, show (4 : Int32) + nI m = nI (4 + m) from nI_add 4 m, show (12 : Int32) + nI m = nI (12 + m) from nI_add 12 m]
    refine RN_bd (along_run hr0 (by omega) (by omega) (by omega)) (fun _ S1 h1 => ?_)
    refine RN_bd (along_run (S := S1) (by rw [h1.1]; exact hr0) (by omega) (by omega) (by omega)) (fun _ S2 h2 => ?_)
    have hne : a ≠ a + 1 := by omega
    refine RN_some ⟨h2.1.trans h1.1, fun b i hb => (h2.2.1 b i hb).trans (h1.2.1 b i hb), ⟨fun k hk => ?_, ?_, ?_, ?_, ?_⟩⟩
    · rw [h2.2.2]
      simp only [h1.2.2]
      rw [if_neg (show ¬ 4 + m = m by omega), if_neg (show ¬ 4 + m = 8 + m by omega), if_neg (show ¬ 12 + m = m by omega), if_neg (show ¬ 12 + m = 8 + m by omega), hS.1 m (by omega), hS.1 (8 + m) (by omega), hS.1 (4 + m) (by omega), hS.1 (12 + m) (by omega), hS.1 k hk]
      show _ = if k = m then _ else if k = 8 + m then _ else if k = 4 + m then _ else if k = 12 + m then _ else aR s k
      by_cases e1 : k = m
      · rw [if_neg (by omega), if_neg (by omega), if_pos e1, if_pos e1]
      · by_cases e2 : k = 8 + m
        · rw [if_neg (by omega), if_neg (by omega), if_neg e1, if_pos e2, if_neg e1, if_pos e2]
        · rw [if_neg e1, if_neg e2, if_neg e1, if_neg e2]
    · rw [h2.2.1 _ _ hne, h1.2.1 _ _ hne]; exact hS.2.1
    · rw [h2.2.1 _ _ hne, h1.2.1 _ _ hne]; exact hS.2.2.1
    · rw [h2.2.1 _ _ hne, h1.2.1 _ _ hne]; exact hS.2.2.2.1
    · rw [h2.2.1 _ _ hne, h1.2.1 _ _ hne]; exact hS.2.2.2.2
end SEA

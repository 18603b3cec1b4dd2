/-! what pulls, stands, drowns, costs: the class's Waters -/
theorem nmq {β γ : Type} {v : β} {f : β → γ} : nm v f = f v := Eq.trans rfl rfl
theorem bdq {α β : Type} {v : β} {S : St} {f : β → St → Option (α × St)} : bd (some (v, S)) f = f v S := Eq.trans rfl rfl
theorem obq {α β : Type} {v : β} {f : β → Option α} : (some v).bind f = f v := Eq.trans rfl rfl
theorem ix9_0 : ix (0 : Int32) 9 = some 0 := by decide
theorem ix9_1 : ix (1 : Int32) 9 = some 1 := by decide
theorem ix9_2 : ix (2 : Int32) 9 = some 2 := by decide
theorem ix9_3 : ix (3 : Int32) 9 = some 3 := by decide
theorem ix9_4 : ix (4 : Int32) 9 = some 4 := by decide
theorem ix9_5 : ix (5 : Int32) 9 = some 5 := by decide
theorem ix9_6 : ix (6 : Int32) 9 = some 6 := by decide
theorem ix9_7 : ix (7 : Int32) 9 = some 7 := by decide
theorem ix9_8 : ix (8 : Int32) 9 = some 8 := by decide
abbrev Bk : Type := (Nat × Nat × Nat × Nat × Nat) × (Nat → Nat) × (Nat → Nat) × (Nat → Nat) × (Nat → Lw)
def bM (b : Bk) : Nat := b.1.1
def bP (b : Bk) : Nat := b.1.2.1
def bS (b : Bk) : Nat := b.1.2.2.1
def bPier (b : Bk) : Nat := b.1.2.2.2.1
def bSeed (b : Bk) : Nat := b.1.2.2.2.2
def bWt (b : Bk) : Nat → Nat := b.2.1
def bWho (b : Bk) : Nat → Nat := b.2.2.1
def bLen (b : Bk) : Nat → Nat := b.2.2.2.1
def bLaw (b : Bk) : Nat → Lw := b.2.2.2.2
def wfB (b : Bk) : Prop := bM b ≤ 4 ∧ bP b ≤ 6 ∧ bS b ≤ 8 ∧ bPier b ≤ 9 ∧ bSeed b ≤ 9999 ∧ (∀ e, e < bS b → bWho b e < bM b) ∧ ∀ k, k < 4 → wfL (bLaw b k)
def CBk (B : Nat) (b : Bk) (S : St) : Prop := S.1 B 0 = nI (bM b) ∧ S.1 B 1 = nI (bP b) ∧ S.1 B 2 = nI (bS b) ∧ S.1 B 3 = nI (bPier b) ∧ S.1 B 4 = nI (bSeed b) ∧ (∀ p, p < bP b → S.1 (B + 3) p = nI (bWt b p)) ∧ (∀ e, e < bS b → S.1 (B + 4) e = nI (bWho b e) ∧ S.1 (B + 5) e = nI (bLen b e)) ∧ ∀ k, k < 4 → RLc (B + 6) k (bLaw b k) S
def KW (B w a : Nat) (f : Nat → Nat → Nat) : Prop := (B = 2 ∨ B = 16) ∧ ((w = 39 ∧ a = 35) ∨ (w = 40 ∧ a = 37)) ∧ f w 0 = B ∧ f w 1 = a ∧ f a 0 = a + 1 ∧ f B 7 = B + 3 ∧ f B 8 = B + 4 ∧ f B 9 = B + 5 ∧ f B 10 = B + 6 ∧ GL (B + 6) f
/-- the Waters at w: book b at B, sea s at a -/
def CW (B w a : Nat) (b : Bk) (s : ASea) (S : St) : Prop := KW B w a S.2.2 ∧ CBk B b S ∧ RS a s S ∧ wfB b ∧ wfS s ∧ wfP (bM b) (bP b) (bS b) s
/-- only the variables, the stack and the flag are changed -/
def EV (B : Nat) (S S' : St) : Prop := S'.2 = S.2 ∧ ∀ a k, a ≠ B + 7 → a ≠ B + 11 → (a = B + 6 → k ≠ 6) → S'.1 a k = S.1 a k
/-- and what is felt -/
def EW (B w : Nat) (S S' : St) : Prop := S'.2 = S.2 ∧ ∀ a k, a ≠ B + 7 → a ≠ B + 11 → (a = B + 6 → k ≠ 6) → (a = w → k < 2) → S'.1 a k = S.1 a k
theorem EV.rf {B : Nat} {S : St} : EV B S S := ⟨rfl, fun _ _ _ _ _ => rfl⟩
theorem EV.tr {B : Nat} {S S' S'' : St} (h : EV B S S') (h' : EV B S' S'') : EV B S S'' := ⟨h'.1.trans h.1, fun a k h1 h2 h3 => (h'.2 a k h1 h2 h3).trans (h.2 a k h1 h2 h3)⟩
theorem EW.rf {B w : Nat} {S : St} : EW B w S S := ⟨rfl, fun _ _ _ _ _ _ => rfl⟩
theorem EW.tr {B w : Nat} {S S' S'' : St} (h : EW B w S S') (h' : EW B w S' S'') : EW B w S S'' := ⟨h'.1.trans h.1, fun a k h1 h2 h3 h4 => (h'.2 a k h1 h2 h3 h4).trans (h.2 a k h1 h2 h3 h4)⟩
theorem EV.ew {B w : Nat} {S S' : St} (h : EV B S S') : EW B w S S' := ⟨h.1, fun a k h1 h2 h3 _ => h.2 a k h1 h2 h3⟩
theorem E0.ev {B : Nat} {S S' : St} (h : E0 (B + 6) S S') : EV B S S' := ⟨h.1, fun a k _ h2 h3 => h.2 a k (by omega) h3⟩
theorem RS_set {a : Nat} {s : ASea} {S S' : St} (h : RS a s S) (h0 : ∀ i, S'.1 a i = S.1 a i) (h1 : ∀ i, S'.1 (a + 1) i = S.1 (a + 1) i) : RS a s S' := ⟨fun k hk => (h1 k).trans (h.1 k hk), (h0 _).trans h.2.1, (h0 _).trans h.2.2.1, (h0 _).trans h.2.2.2.1, (h0 _).trans h.2.2.2.2⟩
theorem CBk_set {B : Nat} {b : Bk} {S S' : St} (h : CBk B b S) (h0 : ∀ i, S'.1 B i = S.1 B i) (hs : ∀ a i, (B + 3 ≤ a ∧ a ≤ B + 5) ∨ (B + 8 ≤ a ∧ a ≤ B + 10) → S'.1 a i = S.1 a i) : CBk B b S' := by
  obtain ⟨h1, h2, h3, h4, h5, h6, h7, h8⟩ := h
  exact ⟨(h0 _).trans h1, (h0 _).trans h2, (h0 _).trans h3, (h0 _).trans h4, (h0 _).trans h5, fun p hp => (hs _ _ (by omega)).trans (h6 p hp), fun e he => ⟨(hs _ _ (by omega)).trans (h7 e he).1, (hs _ _ (by omega)).trans (h7 e he).2⟩, fun k hk => RLc_set (h8 k hk) (fun _ => hs _ _ (by omega)) (fun _ => hs _ _ (by omega)) (fun _ => hs _ _ (by omega))⟩
section WAT
variable {B w a : Nat} {b : Bk} {s : ASea} {S : St}
theorem CW_w {S' : St} (h : CW B w a b s S) (h' : EW B w S S') : CW B w a b s S' := by
  obtain ⟨k, cb, rs, wb, ws, wp⟩ := h
  have kk := k
  obtain ⟨k1, k2, -⟩ := kk
  refine ⟨by rw [h'.1]; exact k, CBk_set cb (fun i => h'.2 _ _ (by omega) (by omega) (by omega) (by omega)) (fun c i hc => h'.2 _ _ (by omega) (by omega) (by omega) (by omega)), RS_set rs (fun i => h'.2 _ _ (by omega) (by omega) (by omega) (by omega)) (fun i => h'.2 _ _ (by omega) (by omega) (by omega) (by omega)), wb, ws, wp⟩
theorem CW_v {S' : St} (h : CW B w a b s S) (h' : EV B S S') : CW B w a b s S' := CW_w h h'.ew
section ACC
theorem CW.r0 (h : CW B w a b s S) : S.2.2 w 0 = B := h.1.2.2.1
theorem CW.r1 (h : CW B w a b s S) : S.2.2 w 1 = a := h.1.2.2.2.1
theorem CW.ra (h : CW B w a b s S) : S.2.2 a 0 = a + 1 := h.1.2.2.2.2.1
theorem CW.b7 (h : CW B w a b s S) : S.2.2 B 7 = B + 3 := h.1.2.2.2.2.2.1
theorem CW.b8 (h : CW B w a b s S) : S.2.2 B 8 = B + 4 := h.1.2.2.2.2.2.2.1
theorem CW.b9 (h : CW B w a b s S) : S.2.2 B 9 = B + 5 := h.1.2.2.2.2.2.2.2.1
theorem CW.b10 (h : CW B w a b s S) : S.2.2 B 10 = B + 6 := h.1.2.2.2.2.2.2.2.2.1
theorem CW.gl (h : CW B w a b s S) : GL (B + 6) S.2.2 := h.1.2.2.2.2.2.2.2.2.2
theorem CW.l0 (h : CW B w a b s S) : S.2.2 (B + 6) 0 = B + 7 := h.gl.2.1
theorem CW.hB (h : CW B w a b s S) : B = 2 ∨ B = 16 := h.1.1
theorem CW.hw (h : CW B w a b s S) : (w = 39 ∧ a = 35) ∨ (w = 40 ∧ a = 37) := h.1.2.1
theorem CW.nM (h : CW B w a b s S) : S.1 B 0 = nI (bM b) := h.2.1.1
theorem CW.nP (h : CW B w a b s S) : S.1 B 1 = nI (bP b) := h.2.1.2.1
theorem CW.nS (h : CW B w a b s S) : S.1 B 2 = nI (bS b) := h.2.1.2.2.1
theorem CW.pier (h : CW B w a b s S) : S.1 B 3 = nI (bPier b) := h.2.1.2.2.2.1
theorem CW.seed (h : CW B w a b s S) : S.1 B 4 = nI (bSeed b) := h.2.1.2.2.2.2.1
theorem CW.wt (h : CW B w a b s S) {p : Nat} (hp : p < bP b) : S.1 (B + 3) p = nI (bWt b p) := h.2.1.2.2.2.2.2.1 p hp
theorem CW.who (h : CW B w a b s S) {e : Nat} (he : e < bS b) : S.1 (B + 4) e = nI (bWho b e) := (h.2.1.2.2.2.2.2.2.1 e he).1
theorem CW.len (h : CW B w a b s S) {e : Nat} (he : e < bS b) : S.1 (B + 5) e = nI (bLen b e) := (h.2.1.2.2.2.2.2.2.1 e he).2
theorem CW.law (h : CW B w a b s S) {k : Nat} (hk : k < 4) : RLc (B + 6) k (bLaw b k) S := h.2.1.2.2.2.2.2.2.2 k hk
theorem CW.rs (h : CW B w a b s S) : RS a s S := h.2.2.1
theorem CW.wb (h : CW B w a b s S) : wfB b := h.2.2.2.1
theorem CW.ws (h : CW B w a b s S) : wfS s := h.2.2.2.2.1
theorem CW.wp (h : CW B w a b s S) : wfP (bM b) (bP b) (bS b) s := h.2.2.2.2.2
theorem wfB.m4 (h : wfB b) : bM b ≤ 4 := h.1
theorem wfB.p6 (h : wfB b) : bP b ≤ 6 := h.2.1
theorem wfB.s8 (h : wfB b) : bS b ≤ 8 := h.2.2.1
theorem wfB.w4 (h : wfB b) {e : Nat} (he : e < bS b) : bWho b e < 4 := Nat.lt_of_lt_of_le (h.2.2.2.2.2.1 e he) h.1
theorem EV_w {k : Nat} {v : Int32} : EV B S (sI S (B + 7) k v) := ⟨rfl, fun c k hc1 hc2 hc3 => sI_ne (Or.inl hc1)⟩
theorem RS.row (h : RS a s S) {k : Nat} (hk : k < 36) : S.1 (a + 1) k = aR s k := h.1 k hk
end ACC
theorem ixP {p : Nat} (h : p < bP b) (hb : wfB b) : ix (nI p) 6 = some p := ix_nI (by have := hb.p6; omega) (by decide)
theorem ixS {e : Nat} (h : e < bS b) (hb : wfB b) : ix (nI e) 8 = some e := ix_nI (by have := hb.s8; omega) (by decide)
theorem ix16 {p : Nat} (h : p < bP b) (hb : wfB b) : ix (16 + nI p) 36 = some (16 + p) := by
  rw [show (16 : Int32) + nI p = nI (16 + p) from nI_add 16 p]
  exact ix_nI (by have := hb.p6; omega) (by decide)
theorem ix22 {p : Nat} (h : p < bP b) (hb : wfB b) : ix (22 + nI p) 36 = some (22 + p) := by
  rw [show (22 : Int32) + nI p = nI (22 + p) from nI_add 22 p]
  exact ix_nI (by have := hb.p6; omega) (by decide)
theorem ix28 {e : Nat} (h : e < bS b) (hb : wfB b) : ix (28 + nI e) 36 = some (28 + e) := by
  rw [show (28 : Int32) + nI e = nI (28 + e) from nI_add 28 e]
  exact ix_nI (by have := hb.s8; omega) (by decide)
theorem lt36_16 {p : Nat} (h : p < bP b) (hb : wfB b) : 16 + p < 36 := by have := hb.p6; omega
theorem lt36_22 {p : Nat} (h : p < bP b) (hb : wfB b) : 22 + p < 36 := by have := hb.p6; omega
theorem lt36_28 {e : Nat} (h : e < bS b) (hb : wfB b) : 28 + e < 36 := by have := hb.s8; omega
theorem wornBy_loop (h : CW B w a b s S) {p : Nat} : ∀ (m fu i c : Nat), m < fu → i + m = bS b → b_X8_wornBy_4 fu w (nI p) (nI c) (nI i) S = some (nI (c + cntF (fun e => wornA s e p) m i), S) := by
  have h8 : bS b ≤ 8 := h.wb.s8
  intro m
  induction m with
  | zero =>
    intro fu i c hf hi
    obtain ⟨fu, rfl⟩ : ∃ f, fu = f + 1 := ⟨fu - 1, by omega⟩
    rw [b_X8_wornBy_4, h.r0, h.nS, if_pos (le_l (by omega) (by omega) (by omega))]
    rfl
  | succ m ih =>
    intro fu i c hf hi
    obtain ⟨fu, rfl⟩ : ∃ f, fu = f + 1 := ⟨fu - 1, by omega⟩
    rw [b_X8_wornBy_4, h.r0, h.nS, if_neg (nle_l (by omega) (by omega) (by omega)), h.r1, isWorn_eq h.ra h.rs h.ws (by omega), bdq]
    by_cases hq : wornA s i p = true
    · rw [if_pos hq, if_neg (by decide), nmq, nI_1, b_X8_wornBy_30, nmq, nI_1, ih fu (i + 1) (c + 1) (by omega) (by omega)]
      simp only [cntF, hq, if_true]
      rw [Nat.add_assoc]
    · rw [if_neg hq, if_pos rfl, b_X8_wornBy_30, nmq, nI_1, ih fu (i + 1) c (by omega) (by omega)]
      simp [cntF, hq]
/-- how many a PERSON wears -/
def wornN (b : Bk) (s : ASea) (p : Nat) : Nat := cntF (fun e => wornA s e p) (bS b) 0
theorem wornBy_eq (h : CW B w a b s S) {p : Nat} : f_X8_wornBy w (nI p) S = some (nI (wornN b s p), S) := by
  have h8 : bS b ≤ 8 := h.wb.s8
  unfold f_X8_wornBy
  rw [show b_X8_wornBy_4 FU w (nI p) 0 0 S = _ from wornBy_loop h (bS b) FU 0 0 (by unfold FU; omega) (by omega), Nat.zero_add]
  rfl
def v0 (s : ASea) : Nat → Int32 := fun k => if k = 2 then nI (aM s % 4) else if k = 3 then nI (aM s) else 0
theorem mod4 {n : Nat} (h : n ≤ 40000) : nI n - nI n / 4 * 4 = nI (n % 4) := pk_rem (d := 4) (by omega) (by decide) (by decide)
theorem fresh_run (h : CW B w a b s S) : RN (f_X8_freshVars w S) (fun r S' => r = B + 7 ∧ (∀ k, k < 9 → S'.1 (B + 7) k = v0 s k) ∧ EV B S S') := by
  have hne : a ≠ B + 7 := by have := h.hB; have := h.hw; omega
  unfold f_X8_freshVars
  rw [h.r0, h.b10, h.l0]
  refine RN_bd (fill_run (by decide)) (fun _ S1 h1 => ?_)
  have hm : S1.1 a 1 = nI (aM s) := (h1.2.2 a 1 (fun q => absurd q hne)).trans h.rs.2.1
  have hr1 : S1.2.2 w 1 = a := by rw [h1.1]; exact h.r1
  have e4 : nI (aM s) - nI (aM s) / 4 * 4 = nI (aM s % 4) := mod4 h.ws.1
  rw [ix9_2, ix9_3]
  simp only [obq, nmq, sI_2, hr1, hm, e4]
  rw [sI_ne (Or.inl hne), hm]
  refine RN_some ⟨rfl, fun k hk => ?_, ⟨h1.1, fun c k hc1 hc2 hc3 => ?_⟩⟩
  · simp only [sI_1, true_and, v0]
    by_cases e3 : k = 3
    · subst e3
      simp
    · rw [if_neg e3]
      by_cases e2 : k = 2
      · simp [e2]
      · rw [if_neg e2, if_neg e2, if_neg e3]
        exact h1.2.1 k hk
  · rw [sI_ne (Or.inl hc1), sI_ne (Or.inl hc1)]
    exact h1.2.2 c k (fun q => absurd q hc1)
def lawV (b : Bk) (k : Nat) (vars : Nat → Int32) (most : Int32) : Int32 := heldV most (lawO vars (bLaw b k).1 (bLaw b k).2)
theorem lawc_run (h : CW B w a b s S) {k : Nat} (hk : k < 4) {vars : Nat → Int32} (hv : ∀ i, i < 9 → S.1 (B + 7) i = vars i) (most : Int32) : RN (f_X2_held (B + 6) (nI k) most S) (fun r S' => r = lawV b k vars most ∧ EV B S S') :=
  RN_mono (held_run (vars := vars) rfl h.gl hk (h.law hk) (h.wb.2.2.2.2.2.2 k hk) hv most) (fun r S' h => ⟨h.1, h.2.ev⟩)
/-- the VARS of a PULL -/
def vP (b : Bk) (s : ASea) (e p : Nat) (far : Int32) : Nat → Int32 := fun k => if k = 7 then nI e else if k = 4 then nI (bWt b p) else if k = 1 then far else if k = 0 then nI (bLen b e) else v0 s k
def pullA (b : Bk) (s : ASea) (e p : Nat) (x y : Int32) : Int32 := if farA s (bWho b e) x y = 0 ∨ (aC s).testBit e = true ∨ (aD s).testBit (bWho b e) = true ∨ (aO s).testBit p = true then 0 else lawV b 0 (vP b s e p (farA s (bWho b e) x y)) 99
theorem pull_run (h : CW B w a b s S) {e p : Nat} (he : e < bS b) (hp : p < bP b) (x y : Int32) : RN (f_X8_pullAt w (nI e) (nI p) x y S) (fun r S' => r = pullA b s e p x y ∧ EV B S S') := by
  have hw4 := h.wb.w4 he
  have he8 : e < 8 := Nat.lt_of_lt_of_le he h.wb.s8
  have hp6 : p < 6 := Nat.lt_of_lt_of_le hp h.wb.p6
  unfold f_X8_pullAt pullA
  rw [ixS he h.wb, obq, h.r0, h.b8, h.who he, h.r1, farOf_eq h.ra h.rs hw4, bdq]
  by_cases h0 : farA s (bWho b e) x y = 0
  · rw [if_pos h0, if_pos (Or.inl h0)]
    exact RN_some ⟨rfl, EV.rf⟩
  rw [if_neg h0, h.r1, isCut_eq h.rs h.ws he8, bdq]
  by_cases hc : (aC s).testBit e = true
  · rw [if_pos hc, if_neg (by decide), if_pos (Or.inr (Or.inl hc))]
    exact RN_some ⟨rfl, EV.rf⟩
  rw [if_neg hc, if_pos rfl, obq, h.r1, h.r0, h.b8, h.who he, isDead_eq h.rs h.ws hw4, bdq]
  by_cases hd : (aD s).testBit (bWho b e) = true
  · rw [if_pos hd, if_neg (by decide), if_pos (Or.inr (Or.inr (Or.inl hd)))]
    exact RN_some ⟨rfl, EV.rf⟩
  rw [if_neg hd, if_pos rfl, h.r1, isOff_eq h.rs h.ws hp6, bdq]
  by_cases ho : (aO s).testBit p = true
  · rw [if_pos ho, if_neg (by decide), if_pos (Or.inr (Or.inr (Or.inr ho)))]
    exact RN_some ⟨rfl, EV.rf⟩
  rw [if_neg ho, if_pos rfl, if_neg (fun q => by rcases q with q | q | q | q <;> contradiction)]
  refine RN_bd (fresh_run h) (fun r S1 h1 => ?_)
  obtain ⟨rfl, hv, hE⟩ := h1
  have h2 := CW_v h hE
  have hn3 : B + 3 ≠ B + 7 := by omega
  rw [h2.r0, h2.b10, h2.l0, if_pos rfl, ix9_0, ix9_1, ix9_4, ix9_7, ixP hp h.wb, obq, obq, nmq, h2.b9, h2.len he, obq, nmq, obq, obq, nmq]
  simp only [sI_2, h2.r0, h2.b7]
  rw [sI_ne (Or.inl hn3), sI_ne (Or.inl hn3), h2.wt hp, obq, nmq]
  simp only [sI_2, h2.r0, h2.b10]
  refine RN_bd (lawc_run (k := 0) (vars := vP b s e p (farA s (bWho b e) x y)) (CW_v h2 (((EV_w.tr EV_w).tr EV_w).tr EV_w)) (by decide) (fun k hk => ?_) 99) (fun r S2 h3 => RN_some ⟨h3.1, hE.tr ((((EV_w.tr EV_w).tr EV_w).tr EV_w).tr h3.2)⟩)
  simp only [sI_1, true_and, vP, hv k hk]
def vS (b : Bk) (s : ASea) (p : Nat) (x y : Int32) : Nat → Int32 := fun k => if k = 8 then nI (wornN b s p) else if k = 6 then y else if k = 5 then x else if k = 4 then nI (bWt b p) else v0 s k
theorem vop_run (h : CW B w a b s S) {p : Nat} (hp : p < bP b) (x y : Int32) : RN (f_X8_varsOfPerson w (nI p) x y S) (fun r S' => r = B + 7 ∧ (∀ k, k < 9 → S'.1 (B + 7) k = vS b s p x y k) ∧ EV B S S') := by
  unfold f_X8_varsOfPerson
  refine RN_bd (fresh_run h) (fun r S1 h1 => ?_)
  obtain ⟨rfl, hv, hE⟩ := h1
  have h2 := CW_v h hE
  rw [h2.r0, h2.b10, h2.l0, if_pos rfl, ix9_4, ix9_5, ix9_6, ix9_8, ixP hp h.wb, obq, obq, nmq, h2.b7, h2.wt hp, obq, nmq, obq, nmq, wornBy_eq (CW_v h2 ((EV_w.tr EV_w).tr EV_w)), bdq, obq, nmq]
  refine RN_some ⟨rfl, fun k hk => ?_, hE.tr (((EV_w.tr EV_w).tr EV_w).tr EV_w)⟩
  simp only [sI_1, true_and, vS, hv k hk]
def standsA (b : Bk) (s : ASea) (p : Nat) (x y : Int32) : Int32 := lawV b 1 (vS b s p x y) 999
def stormA (b : Bk) (s : ASea) (p : Nat) : Int32 := lawV b 3 (vS b s p (aR s (16 + p)) (aR s (22 + p))) 100
theorem stands_run (h : CW B w a b s S) {p : Nat} (hp : p < bP b) (x y : Int32) : RN (f_X8_standsAt w (nI p) x y S) (fun r S' => r = standsA b s p x y ∧ EV B S S') := by
  unfold f_X8_standsAt
  refine RN_bd (vop_run h hp x y) (fun r S1 h1 => ?_)
  obtain ⟨rfl, hv, hE⟩ := h1
  have h2 := CW_v h hE
  rw [h2.r0, h2.b10, h2.l0, if_pos rfl]
  exact RN_bd (lawc_run (k := 1) h2 (by decide) hv 999) (fun r S2 h3 => RN_some ⟨h3.1, hE.tr h3.2⟩)
theorem storm_run (h : CW B w a b s S) {p : Nat} (hp : p < bP b) : RN (f_X8_stormOf w (nI p) S) (fun r S' => r = stormA b s p ∧ EV B S S') := by
  unfold f_X8_stormOf
  rw [ix16 hp h.wb, obq, ix22 hp h.wb, obq, h.r1, h.ra, h.rs.row (lt36_16 hp h.wb), h.rs.row (lt36_22 hp h.wb)]
  refine RN_bd (vop_run h hp _ _) (fun r S1 h1 => ?_)
  obtain ⟨rfl, hv, hE⟩ := h1
  have h2 := CW_v h hE
  rw [h2.r0, h2.b10, h2.l0, if_pos rfl]
  exact RN_bd (lawc_run (k := 3) h2 (by decide) hv 100) (fun r S2 h3 => RN_some ⟨h3.1, hE.tr h3.2⟩)
/-- who wears it -/
def wr (s : ASea) (e : Nat) : Nat := (aR s (28 + e)).toInt.toNat
theorem wr_eq (hp : wfP (bM b) (bP b) (bS b) s) (hb : wfB b) {e : Nat} (he : e < bS b) : aR s (28 + e) = nI (wr s e) ∧ wr s e < bP b := by
  obtain ⟨j, hj, h⟩ := hp.2.2 e he
  have := hb.2.1
  unfold wr
  rw [h, nI_nat (by omega)]
  exact ⟨rfl, hj⟩
def vC (b : Bk) (s : ASea) (e : Nat) : Nat → Int32 := fun k => if k = 1 then farA s (bWho b e) (aR s (16 + wr s e)) (aR s (22 + wr s e)) else if k = 8 then nI (wornN b s (wr s e)) else if k = 7 then nI e else if k = 0 then nI (bLen b e) else v0 s k
def priceA (b : Bk) (s : ASea) (e : Nat) : Int32 := lawV b 2 (vC b s e) 999
theorem price_run (h : CW B w a b s S) {e : Nat} (he : e < bS b) : RN (f_X8_priceOf w (nI e) S) (fun r S' => r = priceA b s e ∧ EV B S S') := by
  have hw4 := h.wb.w4 he
  obtain ⟨w1, w2⟩ := wr_eq h.wp h.wb he
  unfold f_X8_priceOf
  rw [ix28 he h.wb, obq, nmq, h.r1, h.ra, h.rs.row (lt36_28 he h.wb), w1]
  refine RN_bd (fresh_run h) (fun r S1 h1 => ?_)
  obtain ⟨rfl, hv, hE⟩ := h1
  have h2 := CW_v h hE
  rw [h2.r0, h2.b10, h2.l0, if_pos rfl, ixS he h.wb, ix9_0, ix9_7, ix9_8, ix9_1, obq, obq, nmq, h2.b9, h2.len he, obq, nmq]
  have hv2 : ∀ k, k < 9 → (sI (sI S1 (B + 7) 0 (nI (bLen b e))) (B + 7) 7 (nI e)).1 (B + 7) k = if k = 7 then nI e else if k = 0 then nI (bLen b e) else v0 s k := fun k hk => by simp only [sI_1, true_and, hv k hk]
  have hE2 : EV B S (sI (sI S1 (B + 7) 0 (nI (bLen b e))) (B + 7) 7 (nI e)) := hE.tr (EV_w.tr EV_w)
  revert hv2 hE2
  generalize sI (sI S1 (B + 7) 0 (nI (bLen b e))) (B + 7) 7 (nI e) = S2
  intro hv2 hE2
  have h3 := CW_v h hE2
  rw [wornBy_eq h3, bdq, obq, nmq, obq, ix16 w2 h.wb, obq, ix22 w2 h.wb, obq]
  have h4 := CW_v h3 (EV_w (k := 8) (v := nI (wornN b s (wr s e))))
  have hv3 : ∀ k, k < 9 → (sI S2 (B + 7) 8 (nI (wornN b s (wr s e)))).1 (B + 7) k = if k = 8 then nI (wornN b s (wr s e)) else if k = 7 then nI e else if k = 0 then nI (bLen b e) else v0 s k := fun k hk => by simp only [sI_1, true_and, hv2 k hk]
  have hE3 : EV B S (sI S2 (B + 7) 8 (nI (wornN b s (wr s e)))) := hE2.tr EV_w
  simp only [sI_2, h3.r0, h3.r1, h3.ra, h3.b8]
  revert h4 hv3 hE3
  generalize sI S2 (B + 7) 8 (nI (wornN b s (wr s e))) = S3
  intro h4 hv3 hE3
  rw [h4.who he, h4.rs.row (lt36_16 w2 h.wb), h4.rs.row (lt36_22 w2 h.wb), farOf_eq h4.ra h4.rs hw4, bdq, obq, nmq]
  simp only [sI_2, h4.r0, h4.b10]
  refine RN_bd (lawc_run (k := 2) (vars := vC b s e) (CW_v h4 EV_w) (by decide) (fun k hk => ?_) 999) (fun r S2 h5 => RN_some ⟨h5.1, hE3.tr (EV_w.tr h5.2)⟩)
  simp only [sI_1, true_and, vC, hv3 k hk]
end WAT

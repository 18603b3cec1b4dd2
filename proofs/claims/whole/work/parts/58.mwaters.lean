/-! the reference: what pulls, stands, drowns, costs -/
def RFM (f : Nat → Nat → Nat) : Prop := ∃ B B1 C, f = RB B B1 C
section RQS
variable {f : Nat → Nat → Nat}
theorem rq_1 (h : RFM f) : f 140 1 = 141 := by obtain ⟨B, B1, C, h⟩ := h; exact rm_1 h
theorem rq_3 (h : RFM f) : f 140 3 = 142 := by obtain ⟨B, B1, C, h⟩ := h; exact rm_3 h
theorem rq_5 (h : RFM f) : f 140 5 = 143 := by obtain ⟨B, B1, C, h⟩ := h; exact rm_5 h
theorem rq_6 (h : RFM f) : f 140 6 = 144 := by obtain ⟨B, B1, C, h⟩ := h; exact rm_6 h
theorem rq_7 (h : RFM f) : f 140 7 = 145 := by obtain ⟨B, B1, C, h⟩ := h; exact rm_7 h
theorem rq_8 (h : RFM f) : f 140 8 = 146 := by obtain ⟨B, B1, C, h⟩ := h; exact rm_8 h
theorem rq_9 (h : RFM f) : f 140 9 = 147 := by obtain ⟨B, B1, C, h⟩ := h; exact rm_9 h
theorem rq_21 (h : RFM f) : f 140 21 = 148 := by obtain ⟨B, B1, C, h⟩ := h; exact rm_21 h
theorem rq_22 (h : RFM f) : f 140 22 = 149 := by obtain ⟨B, B1, C, h⟩ := h; exact rm_22 h
theorem rq_23 (h : RFM f) : f 140 23 = 150 := by obtain ⟨B, B1, C, h⟩ := h; exact rm_23 h
theorem rq_24 (h : RFM f) : f 140 24 = 151 := by obtain ⟨B, B1, C, h⟩ := h; exact rm_24 h
theorem rq_25 (h : RFM f) : f 140 25 = 152 := by obtain ⟨B, B1, C, h⟩ := h; exact rm_25 h
theorem rq_26 (h : RFM f) : f 140 26 = 153 := by obtain ⟨B, B1, C, h⟩ := h; exact rm_26 h
theorem rq_27 (h : RFM f) : f 140 27 = 154 := by obtain ⟨B, B1, C, h⟩ := h; exact rm_27 h
theorem rq_28 (h : RFM f) : f 140 28 = 155 := by obtain ⟨B, B1, C, h⟩ := h; exact rm_28 h
theorem rq_29 (h : RFM f) : f 140 29 = 156 := by obtain ⟨B, B1, C, h⟩ := h; exact rm_29 h
theorem rq_30 (h : RFM f) : f 140 30 = 157 := by obtain ⟨B, B1, C, h⟩ := h; exact rm_30 h
theorem rq_31 (h : RFM f) : f 140 31 = 158 := by obtain ⟨B, B1, C, h⟩ := h; exact rm_31 h
theorem rq_32 (h : RFM f) : f 140 32 = 159 := by obtain ⟨B, B1, C, h⟩ := h; exact rm_32 h
theorem rq_33 (h : RFM f) : f 140 33 = 160 := by obtain ⟨B, B1, C, h⟩ := h; exact rm_33 h
theorem rq_34 (h : RFM f) : f 140 34 = 161 := by obtain ⟨B, B1, C, h⟩ := h; exact rm_34 h
theorem rq_35 (h : RFM f) : f 140 35 = 162 := by obtain ⟨B, B1, C, h⟩ := h; exact rm_35 h
theorem rq_36 (h : RFM f) : f 140 36 = 163 := by obtain ⟨B, B1, C, h⟩ := h; exact rm_36 h
theorem rq_38 (h : RFM f) : f 140 38 = 164 := by obtain ⟨B, B1, C, h⟩ := h; exact rm_38 h
theorem rq_39 (h : RFM f) : f 140 39 = 165 := by obtain ⟨B, B1, C, h⟩ := h; exact rm_39 h
theorem rq_40 (h : RFM f) : f 140 40 = 166 := by obtain ⟨B, B1, C, h⟩ := h; exact rm_40 h
theorem rq_41 (h : RFM f) : f 140 41 = 167 := by obtain ⟨B, B1, C, h⟩ := h; exact rm_41 h
theorem rq_42 (h : RFM f) : f 140 42 = 168 := by obtain ⟨B, B1, C, h⟩ := h; exact rm_42 h
theorem rq_44 (h : RFM f) : f 140 44 = 169 := by obtain ⟨B, B1, C, h⟩ := h; exact rm_44 h
theorem rq_45 (h : RFM f) : f 140 45 = 170 := by obtain ⟨B, B1, C, h⟩ := h; exact rm_45 h
theorem rq_46 (h : RFM f) : f 140 46 = 171 := by obtain ⟨B, B1, C, h⟩ := h; exact rm_46 h
theorem rq_48 (h : RFM f) : f 140 48 = 172 := by obtain ⟨B, B1, C, h⟩ := h; exact rm_48 h
theorem rq_49 (h : RFM f) : f 140 49 = 173 := by obtain ⟨B, B1, C, h⟩ := h; exact rm_49 h
theorem rq_51 (h : RFM f) : f 140 51 = 174 := by obtain ⟨B, B1, C, h⟩ := h; exact rm_51 h
theorem rq_52 (h : RFM f) : f 140 52 = 175 := by obtain ⟨B, B1, C, h⟩ := h; exact rm_52 h
theorem rq_57 (h : RFM f) : f 140 57 = 176 := by obtain ⟨B, B1, C, h⟩ := h; exact rm_57 h
theorem rq_58 (h : RFM f) : f 140 58 = 177 := by obtain ⟨B, B1, C, h⟩ := h; exact rm_58 h
theorem rq_59 (h : RFM f) : f 140 59 = 178 := by obtain ⟨B, B1, C, h⟩ := h; exact rm_59 h
theorem rq_60 (h : RFM f) : f 140 60 = 179 := by obtain ⟨B, B1, C, h⟩ := h; exact rm_60 h
theorem rq_62 (h : RFM f) : f 140 62 = 180 := by obtain ⟨B, B1, C, h⟩ := h; exact rm_62 h
theorem rq_65 (h : RFM f) : f 140 65 = 181 := by obtain ⟨B, B1, C, h⟩ := h; exact rm_65 h
theorem rq_66 (h : RFM f) : f 140 66 = 182 := by obtain ⟨B, B1, C, h⟩ := h; exact rm_66 h
theorem rq_67 (h : RFM f) : f 140 67 = 183 := by obtain ⟨B, B1, C, h⟩ := h; exact rm_67 h
theorem rq_68 (h : RFM f) : f 140 68 = 184 := by obtain ⟨B, B1, C, h⟩ := h; exact rm_68 h
theorem rq_69 (h : RFM f) : f 140 69 = 185 := by obtain ⟨B, B1, C, h⟩ := h; exact rm_69 h
theorem rq_70 (h : RFM f) : f 140 70 = 186 := by obtain ⟨B, B1, C, h⟩ := h; exact rm_70 h
end RQS
/-- the reference at hand: side lv holds book b -/
def KM (lv : Nat) (b : Bk) (S : St) : Prop := RFM S.2.2 ∧ lv < 2 ∧ S.1 140 18 = nI lv ∧ S.1 150 lv = nI (bM b) ∧ S.1 152 lv = nI (bP b) ∧ S.1 156 lv = nI (bS b) ∧ S.1 160 lv = nI (bPier b) ∧ S.1 161 lv = nI (bSeed b) ∧ (∀ p, p < bP b → S.1 155 (6 * lv + p) = nI (bWt b p)) ∧ (∀ e, e < bS b → S.1 157 (8 * lv + e) = nI (bWho b e) ∧ S.1 159 (8 * lv + e) = nI (bLen b e)) ∧ ∀ k, k < 4 → RLm lv k (bLaw b k) S
def CMx (lv : Nat) (b : Bk) (s : ASea) (S : St) : Prop := KM lv b S ∧ RW s S ∧ wfB b ∧ wfS s ∧ wfP (bM b) (bP b) (bS b) s
/-- only the variables, the pile and the flag are changed -/
def MV (S S' : St) : Prop := S'.2 = S.2 ∧ ∀ a k, a ≠ 172 → a ≠ 173 → (a = 140 → k ≠ 50) → S'.1 a k = S.1 a k
def MW (S S' : St) : Prop := S'.2 = S.2 ∧ ∀ a k, a ≠ 172 → a ≠ 173 → (a = 140 → k ≠ 50 ∧ k ≠ 55 ∧ k ≠ 56) → S'.1 a k = S.1 a k
theorem MV.rf {S : St} : MV S S := ⟨rfl, fun _ _ _ _ _ => rfl⟩
theorem MV.tr {S S' S'' : St} (h : MV S S') (h' : MV S' S'') : MV S S'' := ⟨h'.1.trans h.1, fun a k h1 h2 h3 => (h'.2 a k h1 h2 h3).trans (h.2 a k h1 h2 h3)⟩
theorem MW.rf {S : St} : MW S S := ⟨rfl, fun _ _ _ _ _ => rfl⟩
theorem MW.tr {S S' S'' : St} (h : MW S S') (h' : MW S' S'') : MW S S'' := ⟨h'.1.trans h.1, fun a k h1 h2 h3 => (h'.2 a k h1 h2 h3).trans (h.2 a k h1 h2 h3)⟩
theorem MV.mw {S S' : St} (h : MV S S') : MW S S' := ⟨h.1, fun a k h1 h2 h3 => h.2 a k h1 h2 (fun q => (h3 q).1)⟩
theorem M0.mv {S S' : St} (h : M0 S S') : MV S S' := ⟨h.1, fun a k _ h2 h3 => h.2 a k h2 h3⟩
theorem MV_w {S : St} {k : Nat} {v : Int32} : MV S (sI S 172 k v) := ⟨rfl, fun c k h _ _ => sI_ne (Or.inl h)⟩
theorem MW_55 {S : St} {v : Int32} : MW S (sI S 140 55 v) := ⟨rfl, fun c k _ _ h => sI_ne (by omega)⟩
theorem MW_56 {S : St} {v : Int32} : MW S (sI S 140 56 v) := ⟨rfl, fun c k _ _ h => sI_ne (by omega)⟩
theorem RW_set {s : ASea} {S S' : St} (h : RW s S) (hs : ∀ i, S'.1 175 i = S.1 175 i) : RW s S' := fun k hk => (hs k).trans (h k hk)
theorem KM_set {lv : Nat} {b : Bk} {S S' : St} (h : KM lv b S) (h2 : S'.2 = S.2) (h18 : S'.1 140 18 = S.1 140 18) (hs : ∀ a i, 150 ≤ a → a ≤ 170 → S'.1 a i = S.1 a i) : KM lv b S' := by
  obtain ⟨a1, a2, a3, a4, a5, a6, a7, a8, a9, a10, a11⟩ := h
  have hs1 : ∀ i, S'.1 150 i = S.1 150 i := fun i => hs 150 i (by decide) (by decide)
  have hs2 : ∀ i, S'.1 152 i = S.1 152 i := fun i => hs 152 i (by decide) (by decide)
  have hs3 : ∀ i, S'.1 156 i = S.1 156 i := fun i => hs 156 i (by decide) (by decide)
  have hs4 : ∀ i, S'.1 160 i = S.1 160 i := fun i => hs 160 i (by decide) (by decide)
  have hs5 : ∀ i, S'.1 161 i = S.1 161 i := fun i => hs 161 i (by decide) (by decide)
  have hs6 : ∀ i, S'.1 155 i = S.1 155 i := fun i => hs 155 i (by decide) (by decide)
  have hs7 : ∀ i, S'.1 157 i = S.1 157 i := fun i => hs 157 i (by decide) (by decide)
  have hs8 : ∀ i, S'.1 159 i = S.1 159 i := fun i => hs 159 i (by decide) (by decide)
  refine ⟨by rw [h2]; exact a1, a2, h18.trans a3, (hs1 _).trans a4, (hs2 _).trans a5, (hs3 _).trans a6, (hs4 _).trans a7, (hs5 _).trans a8, fun p hp => (hs6 _).trans (a9 p hp), fun e he => ⟨(hs7 _).trans (a10 e he).1, (hs8 _).trans (a10 e he).2⟩, fun k hk => RLm_set (a11 k hk) (fun a i h1 h2 => hs a i (Nat.le_trans (by decide) h1) h2)⟩
section MWAT
variable {lv : Nat} {b : Bk} {s : ASea} {S : St}
theorem CMx_w {S' : St} (h : CMx lv b s S) (h' : MW S S') : CMx lv b s S' := ⟨KM_set h.1 h'.1 (h'.2 _ _ (by decide) (by decide) (by decide)) (fun a i h1 h2 => h'.2 a i (by omega) (by omega) (by omega)), RW_set h.2.1 (fun i => h'.2 _ _ (by decide) (by decide) (fun q => absurd q (by decide))), h.2.2⟩
theorem CMx_v {S' : St} (h : CMx lv b s S) (h' : MV S S') : CMx lv b s S' := CMx_w h h'.mw
theorem KM.rf (h : KM lv b S) : RFM S.2.2 := h.1
theorem KM.lt (h : KM lv b S) : lv < 2 := h.2.1
theorem KM.l18 (h : KM lv b S) : S.1 140 18 = nI lv := h.2.2.1
theorem KM.nM (h : KM lv b S) : S.1 150 lv = nI (bM b) := h.2.2.2.1
theorem KM.nP (h : KM lv b S) : S.1 152 lv = nI (bP b) := h.2.2.2.2.1
theorem KM.nS (h : KM lv b S) : S.1 156 lv = nI (bS b) := h.2.2.2.2.2.1
theorem KM.pier (h : KM lv b S) : S.1 160 lv = nI (bPier b) := h.2.2.2.2.2.2.1
theorem KM.seed (h : KM lv b S) : S.1 161 lv = nI (bSeed b) := h.2.2.2.2.2.2.2.1
theorem KM.wt (h : KM lv b S) {p : Nat} (hp : p < bP b) : S.1 155 (6 * lv + p) = nI (bWt b p) := h.2.2.2.2.2.2.2.2.1 p hp
theorem KM.who (h : KM lv b S) {e : Nat} (he : e < bS b) : S.1 157 (8 * lv + e) = nI (bWho b e) := (h.2.2.2.2.2.2.2.2.2.1 e he).1
theorem KM.len (h : KM lv b S) {e : Nat} (he : e < bS b) : S.1 159 (8 * lv + e) = nI (bLen b e) := (h.2.2.2.2.2.2.2.2.2.1 e he).2
theorem KM.law (h : KM lv b S) {k : Nat} (hk : k < 4) : RLm lv k (bLaw b k) S := h.2.2.2.2.2.2.2.2.2.2 k hk
theorem KM.ixl (h : KM lv b S) : ix (S.1 140 18) 2 = some lv := by rw [h.l18]; exact ix_nI h.lt (by decide)
theorem CMx.k (h : CMx lv b s S) : KM lv b S := h.1
theorem CMx.rf (h : CMx lv b s S) : RFM S.2.2 := h.1.1
theorem CMx.row (h : CMx lv b s S) : RW s S := h.2.1
theorem CMx.wb (h : CMx lv b s S) : wfB b := h.2.2.1
theorem CMx.ws (h : CMx lv b s S) : wfS s := h.2.2.2.1
theorem CMx.wp (h : CMx lv b s S) : wfP (bM b) (bP b) (bS b) s := h.2.2.2.2
theorem CMx.px (h : CMx lv b s S) {p : Nat} (hp : p < bP b) : S.1 175 (20 + p) = pX s p := (h.row (20 + p) (by have := h.wb.p6; omega)).trans (menc_px (by have := h.wb.p6; omega))
theorem CMx.py (h : CMx lv b s S) {p : Nat} (hp : p < bP b) : S.1 175 (26 + p) = pY s p := (h.row (26 + p) (by have := h.wb.p6; omega)).trans (menc_py (by have := h.wb.p6; omega))
theorem CMx.t (h : CMx lv b s S) : S.1 175 54 = nI (aM s) := (h.row 54 (by decide)).trans menc_t
theorem CMx.wrr (h : CMx lv b s S) {e : Nat} (he : e < 8) : S.1 175 (38 + e) = aR s (28 + e) := (h.row (38 + e) (by omega)).trans (menc_w he)
theorem CMx.m9 (h : CMx lv b s S) {e : Nat} (he : e < bS b) : In9 (aR s (bWho b e)) ∧ In9 (aR s (4 + bWho b e)) := by
  have := h.wp.1 (bWho b e) (h.wb.2.2.2.2.2.1 e he)
  exact ⟨this.1, this.2.1⟩
theorem CMx.p9 (h : CMx lv b s S) {p : Nat} (hp : p < bP b) : In9 (pX s p) ∧ In9 (pY s p) := h.wp.2.1 p hp
theorem ixm {c k n : Nat} (hc : c + k < n) (hn : n < 2 ^ 31) : ix (nI c + nI k) n = some (c + k) := by rw [nI_add]; exact ix_nI hc hn
theorem ix55_16 {m : Nat} (h : m < 4) : ix (16 + nI m) 55 = some (16 + m) := ixm (c := 16) (by omega) (by decide)
theorem ix55_20 {p : Nat} (h : p < 6) : ix (20 + nI p) 55 = some (20 + p) := ixm (c := 20) (by omega) (by decide)
theorem ix55_26 {p : Nat} (h : p < 6) : ix (26 + nI p) 55 = some (26 + p) := ixm (c := 26) (by omega) (by decide)
theorem ix55_32 {p : Nat} (h : p < 6) : ix (32 + nI p) 55 = some (32 + p) := ixm (c := 32) (by omega) (by decide)
theorem ix55_38 {p : Nat} (h : p < 8) : ix (38 + nI p) 55 = some (38 + p) := ixm (c := 38) (by omega) (by decide)
theorem ix55_46 {p : Nat} (h : p < 8) : ix (46 + nI p) 55 = some (46 + p) := ixm (c := 46) (by omega) (by decide)
theorem ix55_54 : ix (54 : Int32) 55 = some 54 := by decide
theorem ix8lv {e : Nat} (h : lv < 2) (he : e < 8) : ix (8 * nI lv + nI e) 16 = some (8 * lv + e) := by
  rw [show (8 : Int32) = nI 8 from rfl, pk_mul]
  exact ixm (by omega) (by decide)
theorem ix6lv {p : Nat} (h : lv < 2) (hp : p < 6) : ix (6 * nI lv + nI p) 12 = some (6 * lv + p) := by
  rw [show (6 : Int32) = nI 6 from rfl, pk_mul]
  exact ixm (by omega) (by decide)
theorem whose_eq (h : CMx lv b s S) {e : Nat} (he : e < bS b) : f_X10_whose 140 (nI e) S = some (nI (bWho b e), S) := by
  unfold f_X10_whose
  rw [h.k.l18, ix8lv h.k.lt (Nat.lt_of_lt_of_le he h.wb.s8), obq, rq_30 h.rf, h.k.who he]
theorem mfar_eq (h : CMx lv b s S) {e : Nat} (he : e < bS b) {x y : Int32} (hx : In9 x) (hy : In9 y) : f_X10_farFrom 140 (nI (bWho b e)) x y S = some (farA s (bWho b e) x y, S) := by
  obtain ⟨B, B1, C, hr⟩ := h.rf
  exact farFrom_eq hr h.row (h.wb.w4 he) (h.m9 he).1 (h.m9 he).2 hx hy
theorem moff_eq (h : CMx lv b s S) {p : Nat} (hp : p < 6) : f_X10_isOff 140 (nI p) S = some (if (aO s).testBit p then 1 else 0, S) := by
  obtain ⟨B, B1, C, hr⟩ := h.rf
  exact misOff_eq hr h.row hp
theorem mcut_eq (h : CMx lv b s S) {e : Nat} (he : e < 8) : f_X10_isCut 140 (nI e) S = some (if (aC s).testBit e then 1 else 0, S) := by
  obtain ⟨B, B1, C, hr⟩ := h.rf
  exact misCut_eq hr h.row he
theorem looks_loop (hrf : RFM S.2.2) {mo : Nat} (hmo : mo ≤ 40000) (ht : S.1 175 54 = nI mo) : ∀ (m fu i : Nat) (S1 : St), m < fu → i + m = 9 → S1.2 = S.2 → (∀ k, k < i → S1.1 172 k = 0) → (∀ a k, a ≠ 172 → S1.1 a k = S.1 a k) → RN (b_X10_looks_2 fu 140 (nI i) S1) (fun _ S' => (∀ k, k < 9 → S'.1 172 k = if k = 3 then nI mo else if k = 2 then nI (mo % 4) else 0) ∧ S'.2 = S.2 ∧ ∀ a k, a ≠ 172 → S'.1 a k = S.1 a k) := by
  intro m
  induction m with
  | zero =>
    intro fu i S1 hf hi h2 hz hs
    obtain ⟨fu, rfl⟩ : ∃ f, fu = f + 1 := ⟨fu - 1, by omega⟩
    have hi : i = 9 := by omega
    subst hi
    have hr1 : RFM S1.2.2 := by rw [h2]; exact hrf
    have t1 : S1.1 175 54 = nI mo := (hs 175 54 (by decide)).trans ht
    rw [b_X10_looks_2, if_pos (show (9 : Int32) ≤ nI 9 by decide), ix55_54, obq, ix9_2, obq, nmq, rq_48 hr1, rq_52 hr1, t1, mod4 hmo, obq, ix9_3, obq, nmq]
    simp only [sI_2, rq_48 hr1, rq_52 hr1]
    rw [sI_ne (Or.inl (by decide)), t1]
    refine RN_some ⟨fun k hk => ?_, h2, fun a k ha => ?_⟩
    · simp only [sI_1, true_and]
      rw [hz k hk]
    · rw [sI_ne (Or.inl ha), sI_ne (Or.inl ha)]
      exact hs a k ha
  | succ m ih =>
    intro fu i S1 hf hi h2 hz hs
    obtain ⟨fu, rfl⟩ : ∃ f, fu = f + 1 := ⟨fu - 1, by omega⟩
    have hr1 : RFM S1.2.2 := by rw [h2]; exact hrf
    rw [b_X10_looks_2, if_neg (show ¬ (9 : Int32) ≤ nI i from nle_l (a := 9) (by omega) (by omega) (by omega)), ix_nI (by omega) (by decide), obq, nmq, nmq, nI_1, rq_48 hr1]
    refine ih fu (i + 1) _ (by omega) (by omega) h2 (fun k hk => ?_) (fun a k ha => (sI_ne (Or.inl ha)).trans (hs a k ha))
    rw [sI_1]
    by_cases e : k = i
    · rw [if_pos ⟨rfl, e⟩]
    · rw [if_neg (fun q => e q.2)]
      exact hz k (by omega)
theorem looks_run (h : CMx lv b s S) : RN (f_X10_looks 140 S) (fun _ S' => (∀ k, k < 9 → S'.1 172 k = v0 s k) ∧ MV S S') := by
  refine RN_mono (looks_loop h.rf h.ws.1 h.t 9 FU 0 S (by decide) (by omega) rfl (fun k hk => absurd hk (Nat.not_lt_zero _)) (fun _ _ _ => rfl)) (fun _ S' hh => ⟨fun k hk => ?_, hh.2.1, fun a k h1 _ _ => hh.2.2 a k h1⟩)
  rw [hh.1 k hk]
  unfold v0
  by_cases e3 : k = 3
  · subst e3; rfl
  · rw [if_neg e3, if_neg e3]
theorem within_V {o : Option Int32} {most : Int32} (hm : (0 : Int32) ≤ most) : f_X10_within (o.getD 0) 0 most S = some (heldV most o, S) := by
  have e0 : (0 : Int32).toInt = 0 := rfl
  unfold f_X10_within heldV
  cases o with
  | none =>
    show (if (0 : Int32) ≤ 0 then (if (0 : Int32) ≤ most then _ else _) else _) = _
    rw [if_pos (by decide), if_pos hm]
    rfl
  | some v =>
    show (if (0 : Int32) ≤ v then (if v ≤ most then some (v, S) else some (most, S)) else some (0, S)) = some (mxI 0 (mnI most v), S)
    unfold mxI mnI
    simp only [i32_lt, i32_le] at hm ⊢
    by_cases h1 : (0 : Int32).toInt ≤ v.toInt
    · rw [if_pos h1]
      by_cases h2 : v.toInt ≤ most.toInt
      · rw [if_pos h2]
        by_cases h3 : v.toInt < most.toInt
        · rw [if_pos h3]
          by_cases h4 : (0 : Int32).toInt < v.toInt
          · rw [if_pos h4]
          · rw [if_neg h4, show v = 0 from i32_eq.mpr (by omega)]
        · have : v = most := i32_eq.mpr (by omega)
          subst this
          rw [if_neg h3]
          by_cases h4 : (0 : Int32).toInt < v.toInt
          · rw [if_pos h4]
          · rw [if_neg h4, show v = 0 from i32_eq.mpr (by omega)]
      · rw [if_neg h2, if_neg (show ¬ v.toInt < most.toInt by omega)]
        by_cases h4 : (0 : Int32).toInt < most.toInt
        · rw [if_pos h4]
        · rw [if_neg h4, show most = 0 from i32_eq.mpr (by omega)]
    · rw [if_neg h1, if_pos (show v.toInt < most.toInt by omega), if_neg (show ¬ (0 : Int32).toInt < v.toInt by omega)]
theorem lawm_run (h : CMx lv b s S) {k : Nat} (hk : k < 4) {vars : Nat → Int32} (hv : ∀ i, i < 9 → S.1 172 i = vars i) {pl : Int32} (hpl : evT vars (dflt k).2 = some pl) {most : Int32} (hm : (0 : Int32) ≤ most) : RN (bd (f_X10_lawTells 140 (nI k) pl S) fun r26 S25 => bd (f_X10_within r26 (0 : Int32) most S25) fun r28 S27 => some (r28, S27)) (fun r S' => r = lawV b k vars most ∧ MV S S') := by
  obtain ⟨B, B1, C, hr⟩ := h.rf
  refine RN_bd (tells_run (vars := vars) rfl hr h.k.lt hk h.k.l18 (h.k.law hk) (h.wb.2.2.2.2.2.2 k hk) hv hpl) (fun r S1 h1 => ?_)
  obtain ⟨rfl, hE⟩ := h1
  rw [within_V hm, bdq]
  exact RN_some ⟨rfl, hE.mv⟩
theorem dflt_0 {vars : Nat → Int32} : evT vars (dflt 0).2 = some (vars 0) := rfl
theorem dflt_1 {vars : Nat → Int32} : evT vars (dflt 1).2 = some (vars 4) := rfl
theorem dflt_2 {vars : Nat → Int32} : evT vars (dflt 2).2 = some (vars 0) := rfl
theorem dflt_3 {vars : Nat → Int32} : evT vars (dflt 3).2 = some 0 := rfl
theorem mpull_run (h : CMx lv b s S) {e p : Nat} (he : e < bS b) (hp : p < bP b) {x y : Int32} (hx : In9 x) (hy : In9 y) : RN (f_X10_pullAt 140 (nI e) (nI p) x y S) (fun r S' => r = pullA b s e p x y ∧ MV S S') := by
  have hw4 := h.wb.w4 he
  have he8 : e < 8 := Nat.lt_of_lt_of_le he h.wb.s8
  have hp6 : p < 6 := Nat.lt_of_lt_of_le hp h.wb.p6
  unfold f_X10_pullAt pullA
  rw [whose_eq h he, bdq, mfar_eq h he hx hy, bdq, mcut_eq h he8, bdq]
  by_cases hc : (aC s).testBit e = true
  · rw [if_pos hc, if_neg (by decide), if_pos (Or.inr (Or.inl hc))]
    exact RN_some ⟨rfl, MV.rf⟩
  rw [if_neg hc, if_pos rfl, whose_eq h he, bdq, ix55_16 hw4, obq, rq_52 h.rf, h.row _ (by omega), menc_d hw4]
  by_cases hd : (aD s).testBit (bWho b e) = true
  · rw [if_pos (bitI_1.mpr hd), if_pos (Or.inr (Or.inr (Or.inl hd)))]
    exact RN_some ⟨rfl, MV.rf⟩
  rw [if_neg (fun q => hd (bitI_1.mp q)), moff_eq h hp6, bdq]
  by_cases ho : (aO s).testBit p = true
  · rw [if_pos ho, if_neg (by decide), if_pos (Or.inr (Or.inr (Or.inr ho)))]
    exact RN_some ⟨rfl, MV.rf⟩
  rw [if_neg ho, if_pos rfl]
  by_cases h0 : farA s (bWho b e) x y = 0
  · rw [if_pos h0, if_pos (Or.inl h0)]
    exact RN_some ⟨rfl, MV.rf⟩
  rw [if_neg h0, if_neg (fun q => by rcases q with q | q | q | q <;> contradiction)]
  refine RN_bd (looks_run h) (fun _ S1 h1 => ?_)
  obtain ⟨hv, hE⟩ := h1
  have h2 := CMx_v h hE
  rw [h2.k.l18, ix8lv h.k.lt he8, obq, ix9_0, obq, nmq, rq_48 h2.rf, rq_32 h2.rf, h2.k.len he, ix9_1, obq, nmq]
  simp only [sI_2, rq_48 h2.rf, rq_28 h2.rf]
  rw [sI_ne (Or.inl (show (140 : Nat) ≠ 172 by decide)), sI_ne (Or.inl (show (140 : Nat) ≠ 172 by decide)), h2.k.l18, ix6lv h.k.lt hp6, obq, ix9_4, obq, nmq, sI_ne (Or.inl (show (155 : Nat) ≠ 172 by decide)), sI_ne (Or.inl (show (155 : Nat) ≠ 172 by decide)), h2.k.wt hp, ix9_7, obq, nmq, obq]
  have hv2 : ∀ k, k < 9 → (sI (sI (sI (sI S1 172 0 (nI (bLen b e))) 172 1 (farA s (bWho b e) x y)) 172 4 (nI (bWt b p))) 172 7 (nI e)).1 172 k = vP b s e p (farA s (bWho b e) x y) k := fun k hk => by simp only [sI_1, true_and, vP, hv k hk]
  simp only [sI_2, rq_48 h2.rf]
  rw [hv2 0 (by decide)]
  exact RN_mono (lawm_run (k := 0) (CMx_v h2 (((MV_w.tr MV_w).tr MV_w).tr MV_w)) (by decide) hv2 dflt_0 (by decide)) (fun r S' hh => ⟨hh.1, hE.tr ((((MV_w.tr MV_w).tr MV_w).tr MV_w).tr hh.2)⟩)
end MWAT

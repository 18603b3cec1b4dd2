/-! the class splits a text -/
section SPL
variable {v : Nat → Int32} {len : Nat} {B : Nat} {S S' : St}
theorem sl_1 : sl 1 = 9 := by decide +kernel
def sgF (n : Nat) : Nat → Nat → Int32
  | 0, _ => -1
  | m + 1, i => if sc 1 i = nI n then nI i else sgF n m (i + 1)
theorem sg_loop {n : Nat} : ∀ (m fu i : Nat), m < fu → i + m = 9 → b_J1_indexOfChar_4cfef_7 fu 1 (nI 9) (nI n) (nI i) S = some (sgF n m i, S) := by
  intro m
  induction m with
  | zero =>
    intro fu i hf hi
    obtain ⟨fu, rfl⟩ : ∃ f, fu = f + 1 := ⟨fu - 1, by omega⟩
    rw [b_J1_indexOfChar_4cfef_7, if_pos (le_l (by omega) (by omega) (by omega))]
    rfl
  | succ m ih =>
    intro fu i hf hi
    obtain ⟨fu, rfl⟩ : ∃ f, fu = f + 1 := ⟨fu - 1, by omega⟩
    rw [b_J1_indexOfChar_4cfef_7, if_neg (nle_l (by omega) (by omega) (by omega)), sl_1, ix_nI (show i < 9 by omega) (by decide), obq]
    unfold sgF
    by_cases c : sc 1 i = nI n
    · rw [if_pos c, if_pos c]
    · rw [if_neg c, if_neg c, nmq, nI_1]
      exact ih fu (i + 1) (by omega) (by omega)
theorem sg_fact : ∀ n : Nat, n < 128 → ((nI n).toUInt32 % 65536).toInt32 = nI n ∧ (nI n).toInt8.toInt32 = nI n ∧ ¬ nI n < 0 ∧ ¬ (255 : Int32) < nI n ∧ (sgF n 9 0 < 0 ↔ sgnB (nI n) = false) := by decide +kernel
theorem sg_eq {n : Nat} (hn : n < 128) : f_J0_indexOf_0f7a4 1 (((nI n).toUInt32 % 65536).toInt32) S = some (sgF n 9 0, S) := by
  obtain ⟨h1, h2, h3, h4, -⟩ := sg_fact n hn
  unfold f_J0_indexOf_0f7a4 f_J0_indexOf_7cf53 f_J0_isLatin1_aae02 f_J0_length_8abf5 f_J0_coder_7d493 f_J1_indexOf_4cfef f_J1_canEncode_9a6ad f_J1_indexOfChar_4cfef
  rw [if_neg (show ¬ (1 : Int32) = 0 by decide), if_pos (show (0 : Int32) = 0 from rfl), bdq, if_neg (show ¬ (1 : Int32) = 0 by decide), if_neg (show ¬ (1 : Int32) = 0 by decide), gq_b0, obq, bdq, bdq, h1, if_neg h3, if_neg h4, bdq, if_neg (show ¬ (1 : Int32) = 0 by decide), nmq, nmq, sl_1, if_pos (show mxI 0 0 < mnI (Int32.ofNat 9 >>> ((0 : Int32) &&& 31)) (Int32.ofNat 9) by decide), nmq, h2]
  rw [show b_J1_indexOfChar_4cfef_7 FU 1 (mnI (Int32.ofNat 9 >>> ((0 : Int32) &&& 31)) (Int32.ofNat 9)) (nI n) (mxI 0 0) S = b_J1_indexOfChar_4cfef_7 FU 1 (nI 9) (nI n) (nI 0) S by rw [show mnI (Int32.ofNat 9 >>> ((0 : Int32) &&& 31)) (Int32.ofNat 9) = nI 9 by decide, show mxI 0 0 = nI 0 by decide], sg_loop 9 FU 0 (by decide) (by omega), bdq, bdq, bdq]
/-- only the tokens' cells are changed -/
def ETk (S S' : St) : Prop := S'.2.2 = S.2.2 ∧ (∀ a k, a ≠ 32 → a ≠ 33 → S'.1 a k = S.1 a k) ∧ ∀ a k, a ≠ 34 → S'.2.1 a k = S.2.1 a k
theorem ETk.rf : ETk S S := ⟨rfl, fun _ _ _ _ => rfl, fun _ _ _ => rfl⟩
theorem ETk.tr {S S' S'' : St} (h : ETk S S') (h' : ETk S' S'') : ETk S S'' := ⟨h'.1.trans h.1, fun a k h1 h2 => (h'.2.1 a k h1 h2).trans (h.2.1 a k h1 h2), fun a k h1 => (h'.2.2 a k h1).trans (h.2.2 a k h1)⟩
theorem NB_lt {B0 : Nat} {d : Nat → Nat} : ∀ n, (∀ k, k < n → d k < B0) → NB B0 d n < B0 ^ n
  | 0, _ => by show 0 < B0 ^ 0; rw [Nat.pow_zero]; decide
  | n + 1, h => by
    have h1 := NB_lt n (fun k hk => h k (by omega))
    have h2 := h n (by omega)
    show B0 * NB B0 d n + d n < B0 ^ (n + 1)
    rw [Nat.pow_succ]
    have h3 : NB B0 d n + 1 ≤ B0 ^ n := h1
    have h4 : B0 * (NB B0 d n + 1) ≤ B0 * B0 ^ n := Nat.mul_le_mul_left _ h3
    rw [Nat.mul_add, Nat.mul_one] at h4
    rw [Nat.mul_comm (B0 ^ n) B0]
    omega
theorem run_all {q : Nat → Bool} : ∀ (m i k : Nat), k < runQ q m i → q (i + k) = true
  | 0, _, _, h => absurd h (Nat.not_lt_zero _)
  | m + 1, i, k, h => by
    unfold runQ at h
    by_cases c : q i = true
    · rw [if_pos c] at h
      cases k with
      | zero => exact c
      | succ k =>
        have := run_all (q := q) m (i + 1) k (by omega)
        rw [show i + 1 + k = i + (k + 1) by omega] at this
        exact this
    · rw [if_neg c] at h
      exact absurd h (Nat.not_lt_zero _)
theorem dgL_rng {p k : Nat} (h : k < rnL v len p) : 1 ≤ dgL v p k ∧ dgL v p k ≤ 26 := by
  obtain ⟨n, n1, n2, e⟩ := let_v (run_all _ _ _ h)
  unfold dgL
  rw [e, nI_nat (by omega)]
  omega
theorem dgD_rng {p k : Nat} (h : k < rnD v len p) : dgD v p k ≤ 9 := by
  obtain ⟨n, n1, n2, e⟩ := dig_v (run_all _ _ _ h)
  unfold dgD
  rw [e, nI_nat (by omega)]
  omega
theorem N32_lt {p : Nat} (h : rnL v len p ≤ 8) : NB 32 (dgL v p) (rnL v len p) < 2 ^ 63 := by
  have h1 := NB_lt (B0 := 32) (d := dgL v p) (rnL v len p) (fun k hk => by have := dgL_rng hk; omega)
  have h2 : 32 ^ rnL v len p ≤ 32 ^ 8 := Nat.pow_le_pow_right (by decide) h
  have h3 : (32 : Nat) ^ 8 < 2 ^ 63 := by decide
  omega
theorem N10_lt {p : Nat} (h : rnD v len p ≤ 4) : NB 10 (dgD v p) (rnD v len p) < 10000 := by
  have h1 := NB_lt (B0 := 10) (d := dgD v p) (rnD v len p) (fun k hk => by have := dgD_rng hk; omega)
  have h2 : 10 ^ rnD v len p ≤ 10 ^ 4 := Nat.pow_le_pow_right (by decide) h
  have h3 : (10 : Nat) ^ 4 = 10000 := by decide
  omega
theorem wdF_le {x : Nat} : ∀ (m k : Nat), k + m ≤ 21 → wdF x m k ≤ 21
  | 0, _, _ => Nat.le_refl _
  | m + 1, k, h => by
    unfold wdF
    split
    · omega
    · exact wdF_le m (k + 1) (by omega)
theorem byte_n {x : Int32} (h : isB x) (h0 : ¬ x ≤ 0) : ∃ n, n < 128 ∧ x = nI n := by
  obtain ⟨h1, h2⟩ := h
  rw [i32_le] at h0 h1 h2
  have z : (0 : Int32).toInt = 0 := rfl
  have c : (127 : Int32).toInt = 127 := rfl
  refine ⟨x.toInt.toNat, by omega, ?_⟩
  rw [i32_eq, nI_toInt (by omega)]
  omega
theorem sgn_neg {x : Int32} (h0 : x ≤ 0) : sgnB x = false := by
  have hk : ∀ k : Nat, 1 ≤ k → k < 128 → ¬ x = nI k := fun k h1 h2 e => by
    rw [e] at h0
    exact nle_l (b := 0) (by omega) (by omega) (by omega) h0
  unfold sgnB
  simp only [Bool.or_eq_false_iff, decide_eq_false_iff_not]
  exact ⟨⟨⟨⟨⟨⟨⟨⟨hk 59 (by decide) (by decide), hk 61 (by decide) (by decide)⟩, hk 43 (by decide) (by decide)⟩, hk 45 (by decide) (by decide)⟩, hk 42 (by decide) (by decide)⟩, hk 47 (by decide) (by decide)⟩, hk 60 (by decide) (by decide)⟩, hk 40 (by decide) (by decide)⟩, hk 41 (by decide) (by decide)⟩
theorem sgn_lt {x : Int32} (h : sgnB x = true) : x.toInt.toNat < 128 := by
  unfold sgnB at h
  simp only [Bool.or_eq_true, decide_eq_true_eq] at h
  rcases h with (((((((h | h) | h) | h) | h) | h) | h) | h) | h <;> subst h <;> decide
theorem kd_lt {p : Nat} : kdP v len p < 128 := by
  unfold kdP
  split
  · decide
  · split
    · split
      · have := wdF_le (x := NB 32 (dgL v p) (rnL v len p)) 21 0 (by decide)
        omega
      · decide
    · split
      · split <;> decide
      · split
        next h => exact sgn_lt h
        next => decide
theorem takeOne_run (hr : RFC B S.2.2) (h : TB v len S) (hby : ∀ i, i < len → isB (v i)) {t p : Nat} (ht : t < 401) (hp : p ≤ len) : RN (f_X6_takeOne 31 (nI t) (nI p) S) (fun r S' => r = nI (nxP v len p) ∧ S'.1 32 t = nI (kdP v len p) ∧ (kdP v len p ≤ 22 → S'.2.1 34 t = Int64.ofNat (vlN v len p)) ∧ S'.2.2 = S.2.2 ∧ (∀ a k, (a = 32 → k ≠ t) → S'.1 a k = S.1 a k) ∧ ∀ a k, (a = 34 → k ≠ t) → S'.2.1 a k = S.2.1 a k) := by
  have hl := h.1
  unfold f_X6_takeOne
  rw [h.2.1]
  by_cases c0 : p < len
  · have cc : ¬ ¬ p < len := fun q => q c0
    rw [if_pos (lt_l (by omega) (by omega) c0), isL_eq hr h c0, bdq]
    by_cases c1 : letB (v p) = true
    · have en : nxP v len p = p + rnL v len p := by unfold nxP; rw [if_neg cc, if_pos c1]
      have ek : kdP v len p = if rnL v len p ≤ 8 then wdF (NB 32 (dgL v p) (rnL v len p)) 21 0 else 24 := by unfold kdP; rw [if_neg cc, if_pos c1]
      rw [if_pos c1, if_neg ne10, en, ek]
      have e0 := letters_loop hr h (t := t) (p := p) (len - p) FU 0 (by unfold FU; omega) (by omega)
      rw [Nat.add_zero] at e0
      have e1 : f_X6_takeLetters 31 (nI t) (nI p) S = b_X6_takeLetters_48 31 (nI t) (nI p) (nI (p + rnL v len p)) (Int64.ofNat (NB 32 (dgL v p) (rnL v len p))) S := by
        unfold f_X6_takeLetters
        rw [show (0 : Int64) = Int64.ofNat (NB 32 (dgL v p) 0) from rfl, e0, Nat.zero_add]
        rfl
      have hle := rnL_le (v := v) hp
      have hvl : vlN v len p = NB 32 (dgL v p) (rnL v len p) := by unfold vlN; rw [if_pos c1]
      rw [e1]
      unfold b_X6_takeLetters_48
      rw [ix_nI ht (by decide), obq, nmq, rc_312 hr, show nI (p + rnL v len p) - nI p = nI (rnL v len p) by rw [pk_sub (by omega), show p + rnL v len p - p = rnL v len p by omega]]
      have r1 : RFC B (sL S 34 t (Int64.ofNat (NB 32 (dgL v p) (rnL v len p)))).2.2 := hr
      by_cases c2 : rnL v len p ≤ 8
      · rw [if_pos (show nI (rnL v len p) ≤ 8 from le_l (b := 8) (by omega) (by omega) c2), word_eq (N32_lt c2), bdq, if_pos c2]
        unfold b_X6_takeLetters_79
        rw [ix_nI ht (by decide), obq, nmq, rc_310 r1, bdq]
        refine RN_some ⟨rfl, sI_at, fun _ => ?_, rfl, fun a k hk => ?_, fun a k hk => ?_⟩
        · rw [sI_2, sL_2, if_pos ⟨rfl, rfl⟩, hvl]
        · rw [sI_ne (by omega)]; rfl
        · rw [sI_2, sL_2, if_neg (by omega)]
      · rw [if_neg (show ¬ nI (rnL v len p) ≤ 8 from nle_l (b := 8) (by omega) (by omega) (by omega)), if_neg c2]
        unfold b_X6_takeLetters_79
        rw [ix_nI ht (by decide), obq, nmq, rc_310 r1, bdq]
        refine RN_some ⟨rfl, sI_at, fun q => absurd q (by decide), rfl, fun a k hk => ?_, fun a k hk => ?_⟩
        · rw [sI_ne (by omega)]; rfl
        · rw [sI_2, sL_2, if_neg (by omega)]
    · rw [if_neg c1, if_pos rfl, isD_eq hr h c0, bdq]
      by_cases c2 : digB (v p) = true
      · have en : nxP v len p = p + rnD v len p := by unfold nxP; rw [if_neg cc, if_neg c1, if_pos c2]
        have ek : kdP v len p = if rnD v len p ≤ 4 then 22 else 24 := by unfold kdP; rw [if_neg cc, if_neg c1, if_pos c2]
        rw [if_pos c2, if_neg ne10, en, ek]
        have e0 := digits_loop hr h (t := t) (p := p) (len - p) FU 0 (by unfold FU; omega) (by omega)
        rw [Nat.add_zero] at e0
        have e1 : f_X6_takeDigits 31 (nI t) (nI p) S = b_X6_takeDigits_46 31 (nI t) (nI p) (nI (p + rnD v len p)) (Int64.ofNat (NB 10 (dgD v p) (rnD v len p))) S := by
          unfold f_X6_takeDigits
          rw [show (0 : Int64) = Int64.ofNat (NB 10 (dgD v p) 0) from rfl, e0, Nat.zero_add]
          rfl
        have hle := rnD_le (v := v) hp
        have hvl : vlN v len p = NB 10 (dgD v p) (rnD v len p) := by unfold vlN; rw [if_neg c1]
        rw [e1]
        unfold b_X6_takeDigits_46
        rw [ix_nI ht (by decide), obq, nmq, rc_312 hr, show nI (p + rnD v len p) - nI p = nI (rnD v len p) by rw [pk_sub (by omega), show p + rnD v len p - p = rnD v len p by omega]]
        have r1 : RFC B (sL S 34 t (Int64.ofNat (NB 10 (dgD v p) (rnD v len p)))).2.2 := hr
        unfold b_X6_takeDigits_73
        rw [ix_nI ht (by decide), obq, obq, nmq, nmq, rc_310 r1]
        by_cases c3 : rnD v len p ≤ 4
        · rw [if_pos (show nI (rnD v len p) ≤ 4 from le_l (b := 4) (by omega) (by omega) c3), bdq, if_pos c3]
          refine RN_some ⟨rfl, sI_at, fun _ => ?_, rfl, fun a k hk => ?_, fun a k hk => ?_⟩
          · rw [sI_2, sL_2, if_pos ⟨rfl, rfl⟩, hvl]
          · rw [sI_ne (by omega)]; rfl
          · rw [sI_2, sL_2, if_neg (by omega)]
        · rw [if_neg (show ¬ nI (rnD v len p) ≤ 4 from nle_l (b := 4) (by omega) (by omega) (by omega)), bdq, if_neg c3]
          refine RN_some ⟨rfl, sI_at, fun q => absurd q (by decide), rfl, fun a k hk => ?_, fun a k hk => ?_⟩
          · rw [sI_ne (by omega)]; rfl
          · rw [sI_2, sL_2, if_neg (by omega)]
      · have en : nxP v len p = p + 1 := by unfold nxP; rw [if_neg cc, if_neg c1, if_neg c2]
        have ek : kdP v len p = if sgnB (v p) = true then (v p).toInt.toNat else 24 := by unfold kdP; rw [if_neg cc, if_neg c1, if_neg c2]
        rw [if_neg c2, if_pos rfl, ix_nI (show p < 2000 by omega) (by decide), obq, nmq, rc_313 hr, h.2.2 p c0, rc_310 hr, en, ek]
        unfold b_X6_takeOne_78 b_X6_takeOne_80
        rw [ix_nI ht (by decide), obq, nmq, nI_1]
        have bad : sgnB (v p) = false → RN (some (nI (p + 1), sI S 32 t 24)) (fun r S' => r = nI (p + 1) ∧ S'.1 32 t = nI (if sgnB (v p) = true then (v p).toInt.toNat else 24) ∧ ((if sgnB (v p) = true then (v p).toInt.toNat else 24) ≤ 22 → S'.2.1 34 t = Int64.ofNat (vlN v len p)) ∧ S'.2.2 = S.2.2 ∧ (∀ a k, (a = 32 → k ≠ t) → S'.1 a k = S.1 a k) ∧ ∀ a k, (a = 34 → k ≠ t) → S'.2.1 a k = S.2.1 a k) := fun hs => by
          rw [if_neg (by rw [hs]; decide)]
          exact RN_some ⟨rfl, sI_at, fun q => absurd q (by decide), rfl, fun a k hk => sI_ne (by omega), fun a k hk => rfl⟩
        by_cases c3 : v p ≤ 0
        · rw [if_pos c3]
          exact bad (sgn_neg c3)
        · obtain ⟨n, hn, en⟩ := byte_n (hby p c0) c3
          obtain ⟨-, -, -, -, f5⟩ := sg_fact n hn
          rw [if_neg c3, show f_J0_indexOf_0f7a4 1 (((v p).toUInt32 % 65536).toInt32) S = some (sgF n 9 0, S) from (by rw [en]; exact sg_eq hn), bdq, obq, obq, nmq, nmq]
          by_cases c4 : sgnB (v p) = true
          · rw [if_neg (fun q => by rw [← en] at f5; rw [f5.mp q] at c4; cases c4), if_pos c4]
            have e5 : (v p).toInt.toNat = n := by rw [en, nI_nat (by omega)]
            have h22 : 40 ≤ n := by
              rw [en] at c4
              have : ∀ n : Nat, n < 128 → sgnB (nI n) = true → 40 ≤ n := by decide
              exact this n hn c4
            refine RN_some ⟨rfl, ?_, fun q => absurd q (by rw [e5]; omega), rfl, fun a k hk => sI_ne (by omega), fun a k hk => rfl⟩
            rw [sI_at, e5, en]
          · have c40 : sgnB (v p) = false := by simpa using c4
            rw [if_pos (f5.mpr (by rw [← en]; exact c40))]
            exact bad c40
  · have : p = len := by omega
    have en : nxP v len p = p := by unfold nxP; rw [if_pos c0]
    have ek : kdP v len p = 23 := by unfold kdP; rw [if_pos c0]
    rw [en, ek, if_neg (nlt_l (by omega) (by omega) (by omega)), ix_nI ht (by decide), obq, nmq, rc_310 hr]
    exact RN_some ⟨rfl, sI_at, fun q => absurd q (by decide), rfl, fun a k hk => sI_ne (by omega), fun a k hk => rfl⟩
/-- the class holds the tokens, up to the end or what is bad -/
def TKc (v : Nat → Int32) (len m : Nat) (S : St) : Prop := ∀ t, t < m → t ≤ 400 → gdT v len t → S.1 32 t = nI (kdT v len t) ∧ S.1 33 t = nI (psT v len t) ∧ (kdT v len t ≤ 22 → S.2.1 34 t = Int64.ofNat (vlN v len (psT v len t)))
theorem split_loop (hby : ∀ i, i < len → isB (v i)) {S0 : St} (hr : RFC B S0.2.2) (h : TB v len S0) : ∀ (m fu t f : Nat) (S : St), m < fu → t + m = 401 → ETk S0 S → f ≤ len → psT v len t = skB v len f → gdT v len t → TKc v len t S → RN (b_X6_split_17 fu 31 (nI f) (nI t) S) (fun _ S' => TKc v len 401 S' ∧ ETk S0 S') := by
  have hl := h.1
  intro m
  induction m with
  | zero =>
    intro fu t f S hf ht hE hfl hps hg hT
    obtain ⟨fu, rfl⟩ : ∃ f, fu = f + 1 := ⟨fu - 1, by omega⟩
    rw [b_X6_split_17, if_pos (show (400 : Int32) < nI t from lt_l (a := 400) (by omega) (by omega) (by omega))]
    have : t = 401 := by omega
    exact RN_some ⟨this ▸ hT, hE⟩
  | succ m ih =>
    intro fu t f S hf ht hE hfl hps hg hT
    obtain ⟨fu, rfl⟩ : ∃ f, fu = f + 1 := ⟨fu - 1, by omega⟩
    have hr1 : RFC B S.2.2 := by rw [hE.1]; exact hr
    have hB1 : TB v len S := TB_set h (hE.2.1 _ _ (by decide) (by decide)) (fun i => hE.2.1 _ _ (by decide) (by decide))
    rw [b_X6_split_17, if_neg (show ¬ (400 : Int32) < nI t from nlt_l (a := 400) (by omega) (by omega) (by omega)), blanks_eq hr1 hB1 hfl, bdq, ix_nI (show t < 401 by omega) (by decide), obq, nmq, rc_311 hr1, ← hps]
    have hE2 : ETk S0 (sI S 33 t (nI (psT v len t))) := hE.tr ⟨rfl, fun a k h1 h2 => sI_ne (Or.inl h2), fun a k h1 => rfl⟩
    have hr2 : RFC B (sI S 33 t (nI (psT v len t))).2.2 := hr1
    have hB2 : TB v len (sI S 33 t (nI (psT v len t))) := TB_set hB1 (sI_ne (Or.inl (by decide))) (fun i => sI_ne (Or.inl (by decide)))
    refine RN_bd (takeOne_run hr2 hB2 hby (show t < 401 by omega) (psT_le t)) (fun r S1 h1 => ?_)
    obtain ⟨rfl, k1, k2, k3, k4, k5⟩ := h1
    have hE3 : ETk S0 S1 := hE2.tr ⟨k3, fun a k h1 h2 => k4 a k (fun q => absurd q h1), fun a k h1 => k5 a k (fun q => absurd q h1)⟩
    have hr3 : RFC B S1.2.2 := by rw [hE3.1]; exact hr
    rw [obq, obq, rc_310 hr3, k1]
    have hT' : TKc v len (t + 1) S1 := fun j hj hj4 hgj => by
      by_cases e : j = t
      · subst e
        refine ⟨k1, ?_, k2⟩
        rw [k4 _ _ (fun q => absurd q (by decide)), sI_at]
      · obtain ⟨a1, a2, a3⟩ := hT j (by omega) hj4 hgj
        refine ⟨?_, ?_, fun q => ?_⟩
        · rw [k4 _ _ (fun _ => e), sI_ne (Or.inl (by decide))]; exact a1
        · rw [k4 _ _ (fun q => absurd q (by decide)), sI_ne (Or.inr e)]; exact a2
        · rw [k5 _ _ (fun _ => e)]; exact a3 q
    have hk : kdP v len (psT v len t) < 2 ^ 31 := Nat.lt_trans kd_lt (by decide)
    have stop : kdT v len t = 23 ∨ kdT v len t = 24 → TKc v len 401 S1 := fun hq j hj hj4 hgj => by
      rcases Nat.lt_or_ge t j with g | g
      · have := hgj t g
        omega
      · exact hT' j (by omega) hj4 hgj
    by_cases c1 : kdT v len t = 23
    · rw [if_pos (show nI (kdP v len (psT v len t)) = 23 by rw [show kdP v len (psT v len t) = 23 from c1]; rfl)]
      exact RN_some ⟨stop (Or.inl c1), hE3⟩
    · rw [if_neg (show ¬ nI (kdP v len (psT v len t)) = 23 from fun q => c1 ((nI_eq (b := 23) hk (by decide)).mp q))]
      by_cases c2 : kdT v len t = 24
      · rw [if_pos (show nI (kdP v len (psT v len t)) = 24 by rw [show kdP v len (psT v len t) = 24 from c2]; rfl)]
        exact RN_some ⟨stop (Or.inr c2), hE3⟩
      · rw [if_neg (show ¬ nI (kdP v len (psT v len t)) = 24 from fun q => c2 ((nI_eq (b := 24) hk (by decide)).mp q)), nmq, nI_1]
        refine ih fu (t + 1) _ S1 (by omega) (by omega) hE3 (nxP_le (psT_le t)).2 rfl (fun i hi => ?_) hT'
        by_cases e : i = t
        · subst e; exact ⟨c1, c2⟩
        · exact hg i (by omega)
end SPL

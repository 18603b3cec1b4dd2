/-! the text's TOKENS, in the abstract; the class's Tokens -/
def blkB (v : Int32) : Bool := decide (v = 32) || decide (v = 9) || decide (v = 10) || decide (v = 13)
def letB (v : Int32) : Bool := decide (97 ≤ v) && decide (v ≤ 122)
def digB (v : Int32) : Bool := decide (48 ≤ v) && decide (v ≤ 57)
def sgnB (v : Int32) : Bool := decide (v = 59) || decide (v = 61) || decide (v = 43) || decide (v = 45) || decide (v = 42) || decide (v = 47) || decide (v = 60) || decide (v = 40) || decide (v = 41)
def runQ (q : Nat → Bool) : Nat → Nat → Nat
  | 0, _ => 0
  | n + 1, i => if q i then runQ q n (i + 1) + 1 else 0
def NB (B : Nat) (d : Nat → Nat) : Nat → Nat
  | 0 => 0
  | n + 1 => B * NB B d n + d n
def skB (v : Nat → Int32) (len i : Nat) : Nat := i + runQ (fun j => blkB (v j)) (len - i) i
def rnL (v : Nat → Int32) (len i : Nat) : Nat := runQ (fun j => letB (v j)) (len - i) i
def rnD (v : Nat → Int32) (len i : Nat) : Nat := runQ (fun j => digB (v j)) (len - i) i
def dgL (v : Nat → Int32) (p k : Nat) : Nat := (v (p + k)).toInt.toNat - 96
def dgD (v : Nat → Int32) (p k : Nat) : Nat := (v (p + k)).toInt.toNat - 48
def W32 (k : Nat) : Nat := NB 32 (fun j => (wordL k).getD j 0) (wordL k).length
def wdF (x : Nat) : Nat → Nat → Nat
  | 0, _ => 21
  | m + 1, k => if W32 k = x then k else wdF x m (k + 1)
def kdP (v : Nat → Int32) (len p : Nat) : Nat := if ¬ p < len then 23 else if letB (v p) then (if rnL v len p ≤ 8 then wdF (NB 32 (dgL v p) (rnL v len p)) 21 0 else 24) else if digB (v p) then (if rnD v len p ≤ 4 then 22 else 24) else if sgnB (v p) then (v p).toInt.toNat else 24
def nxP (v : Nat → Int32) (len p : Nat) : Nat := if ¬ p < len then p else if letB (v p) then p + rnL v len p else if digB (v p) then p + rnD v len p else p + 1
def psT (v : Nat → Int32) (len : Nat) : Nat → Nat
  | 0 => skB v len 0
  | t + 1 => skB v len (nxP v len (psT v len t))
def kdT (v : Nat → Int32) (len t : Nat) : Nat := kdP v len (psT v len t)
/-- no end and nothing bad before it -/
def gdT (v : Nat → Int32) (len t : Nat) : Prop := ∀ i, i < t → kdT v len i ≠ 23 ∧ kdT v len i ≠ 24
def vlN (v : Nat → Int32) (len p : Nat) : Nat := if letB (v p) then NB 32 (dgL v p) (rnL v len p) else NB 10 (dgD v p) (rnD v len p)
section TOK
variable {v : Nat → Int32} {len : Nat} {B : Nat} {S S' : St}
theorem runQ_le {q : Nat → Bool} : ∀ (n i : Nat), runQ q n i ≤ n
  | 0, _ => Nat.le_refl _
  | n + 1, i => by
    unfold runQ
    have := runQ_le (q := q) n (i + 1)
    split <;> omega
theorem skB_le {i : Nat} (h : i ≤ len) : i ≤ skB v len i ∧ skB v len i ≤ len := by
  unfold skB
  have := runQ_le (q := fun j => blkB (v j)) (len - i) i
  omega
theorem rnL_le {p : Nat} (h : p ≤ len) : p + rnL v len p ≤ len := by
  unfold rnL
  have := runQ_le (q := fun j => letB (v j)) (len - p) p
  omega
theorem rnD_le {p : Nat} (h : p ≤ len) : p + rnD v len p ≤ len := by
  unfold rnD
  have := runQ_le (q := fun j => digB (v j)) (len - p) p
  omega
theorem nxP_le {p : Nat} (h : p ≤ len) : p ≤ nxP v len p ∧ nxP v len p ≤ len := by
  unfold nxP
  have := rnL_le (v := v) h
  have := rnD_le (v := v) h
  split
  · omega
  · split
    · omega
    · split <;> omega
theorem psT_le : ∀ t, psT v len t ≤ len
  | 0 => (skB_le (Nat.zero_le _)).2
  | t + 1 => (skB_le (nxP_le (psT_le t)).2).2
/-- the class holds the tape and the size -/
def TB (v : Nat → Int32) (len : Nat) (S : St) : Prop := len ≤ 2000 ∧ S.1 31 4 = nI len ∧ ∀ i, i < len → S.1 1 i = v i
theorem TB_set (h : TB v len S) (h4 : S'.1 31 4 = S.1 31 4) (h1 : ∀ i, S'.1 1 i = S.1 1 i) : TB v len S' := ⟨h.1, h4.trans h.2.1, fun i hi => (h1 i).trans (h.2.2 i hi)⟩
theorem rc_30 {f : Nat → Nat → Nat} (h : RFC B f) : f 30 0 = 31 := by obtain ⟨B1, C, rfl⟩ := h; exact rb_30_0
theorem rc_310 {f : Nat → Nat → Nat} (h : RFC B f) : f 31 0 = 32 := by obtain ⟨B1, C, rfl⟩ := h; exact rb_31_0
theorem rc_311 {f : Nat → Nat → Nat} (h : RFC B f) : f 31 1 = 33 := by obtain ⟨B1, C, rfl⟩ := h; exact rb_31_1
theorem rc_312 {f : Nat → Nat → Nat} (h : RFC B f) : f 31 2 = 34 := by obtain ⟨B1, C, rfl⟩ := h; exact rb_31_2
theorem rc_313 {f : Nat → Nat → Nat} (h : RFC B f) : f 31 3 = 1 := by obtain ⟨B1, C, rfl⟩ := h; exact rb_31_3
theorem blanks_loop (hr : RFC B S.2.2) (h : TB v len S) : ∀ (m fu i : Nat), m < fu → i + m = len → b_X6_behindBlanks_2 fu 31 (nI i) S = some (nI (i + runQ (fun j => blkB (v j)) m i), S) := by
  have hl := h.1
  intro m
  induction m with
  | zero =>
    intro fu i hf hi
    obtain ⟨fu, rfl⟩ : ∃ f, fu = f + 1 := ⟨fu - 1, by omega⟩
    rw [b_X6_behindBlanks_2, h.2.1, if_pos (le_l (by omega) (by omega) (by omega))]
    rfl
  | succ m ih =>
    intro fu i hf hi
    obtain ⟨fu, rfl⟩ : ∃ f, fu = f + 1 := ⟨fu - 1, by omega⟩
    rw [b_X6_behindBlanks_2, h.2.1, if_neg (nle_l (by omega) (by omega) (by omega)), ix_nI (show i < 2000 by omega) (by decide), obq, obq, obq, obq, rc_313 hr, h.2.2 i (by omega)]
    unfold b_X6_behindBlanks_54 runQ blkB
    rw [nmq, nI_1, ih fu (i + 1) (by omega) (by omega)]
    have e1 : i + 1 + runQ (fun j => decide (v j = 32) || decide (v j = 9) || decide (v j = 10) || decide (v j = 13)) m (i + 1) = i + (runQ (fun j => decide (v j = 32) || decide (v j = 9) || decide (v j = 10) || decide (v j = 13)) m (i + 1) + 1) := by omega
    by_cases c1 : v i = 32
    · rw [if_pos c1, if_pos (by simp [c1])]
      exact congrArg (fun x => some (nI x, S)) e1
    · rw [if_neg c1]
      by_cases c2 : v i = 9
      · rw [if_pos c2, if_pos (by simp [c2])]
        exact congrArg (fun x => some (nI x, S)) e1
      · rw [if_neg c2]
        by_cases c3 : v i = 10
        · rw [if_pos c3, if_pos (by simp [c3])]
          exact congrArg (fun x => some (nI x, S)) e1
        · rw [if_neg c3]
          by_cases c4 : v i = 13
          · rw [if_pos c4, if_pos (by simp [c4])]
            exact congrArg (fun x => some (nI x, S)) e1
          · rw [if_neg c4, if_neg (by simp [c1, c2, c3, c4])]
            rfl
theorem blanks_eq (hr : RFC B S.2.2) (h : TB v len S) {i : Nat} (hi : i ≤ len) : f_X6_behindBlanks 31 (nI i) S = some (nI (skB v len i), S) := by
  have hl := h.1
  unfold f_X6_behindBlanks
  rw [blanks_loop hr h (len - i) FU i (by unfold FU; omega) (by omega)]
  rfl
theorem isL_eq (hr : RFC B S.2.2) (h : TB v len S) {i : Nat} (hi : i < len) : f_X6_isLetter 31 (nI i) S = some (if letB (v i) then 1 else 0, S) := by
  have hl := h.1
  unfold f_X6_isLetter letB
  rw [ix_nI (show i < 2000 by omega) (by decide), obq, obq, rc_313 hr, h.2.2 i hi]
  by_cases c1 : v i < 97
  · rw [if_pos c1]
    have : ¬ 97 ≤ v i := i32_nle.mpr c1
    simp [this]
  · rw [if_neg c1]
    have a1 : 97 ≤ v i := i32_nlt.mp c1
    by_cases c2 : 122 < v i
    · rw [if_pos c2]
      have : ¬ v i ≤ 122 := i32_nle.mpr c2
      simp [this]
    · rw [if_neg c2]
      have : v i ≤ 122 := i32_nlt.mp c2
      simp [this, a1]
theorem isD_eq (hr : RFC B S.2.2) (h : TB v len S) {i : Nat} (hi : i < len) : f_X6_isDigit 31 (nI i) S = some (if digB (v i) then 1 else 0, S) := by
  have hl := h.1
  unfold f_X6_isDigit digB
  rw [ix_nI (show i < 2000 by omega) (by decide), obq, obq, rc_313 hr, h.2.2 i hi]
  by_cases c1 : v i < 48
  · rw [if_pos c1]
    have : ¬ 48 ≤ v i := i32_nle.mpr c1
    simp [this]
  · rw [if_neg c1]
    have a1 : 48 ≤ v i := i32_nlt.mp c1
    by_cases c2 : 57 < v i
    · rw [if_pos c2]
      have : ¬ v i ≤ 57 := i32_nle.mpr c2
      simp [this]
    · rw [if_neg c2]
      have : v i ≤ 57 := i32_nlt.mp c2
      simp [this, a1]
theorem let_v {x : Int32} (h : letB x = true) : ∃ n, 97 ≤ n ∧ n ≤ 122 ∧ x = nI n := by
  unfold letB at h
  have h1 : 97 ≤ x := by simpa using (Bool.and_eq_true_iff.mp h).1
  have h2 : x ≤ 122 := by simpa using (Bool.and_eq_true_iff.mp h).2
  rw [i32_le] at h1 h2
  have a : (97 : Int32).toInt = 97 := rfl
  have c : (122 : Int32).toInt = 122 := rfl
  refine ⟨x.toInt.toNat, by omega, by omega, ?_⟩
  rw [i32_eq, nI_toInt (by omega)]
  omega
theorem dig_v {x : Int32} (h : digB x = true) : ∃ n, 48 ≤ n ∧ n ≤ 57 ∧ x = nI n := by
  unfold digB at h
  have h1 : 48 ≤ x := by simpa using (Bool.and_eq_true_iff.mp h).1
  have h2 : x ≤ 57 := by simpa using (Bool.and_eq_true_iff.mp h).2
  rw [i32_le] at h1 h2
  have a : (48 : Int32).toInt = 48 := rfl
  have c : (57 : Int32).toInt = 57 := rfl
  refine ⟨x.toInt.toNat, by omega, by omega, ?_⟩
  rw [i32_eq, nI_toInt (by omega)]
  omega
theorem l64 : ∀ n : Nat, 97 ≤ n → n ≤ 122 → ((nI n - (97 : Int32)) + (1 : Int32)).toInt64 = Int64.ofNat (n - 96) := by
  intro n h1 h2
  obtain ⟨k, rfl⟩ : ∃ k, n = 97 + k := ⟨n - 97, by omega⟩
  have : ∀ k : Nat, k < 26 → ((nI (97 + k) - (97 : Int32)) + (1 : Int32)).toInt64 = Int64.ofNat (97 + k - 96) := by decide
  exact this k (by omega)
theorem d64 : ∀ n : Nat, 48 ≤ n → n ≤ 57 → (nI n - (48 : Int32)).toInt64 = Int64.ofNat (n - 48) := by
  intro n h1 h2
  obtain ⟨k, rfl⟩ : ∃ k, n = 48 + k := ⟨n - 48, by omega⟩
  have : ∀ k : Nat, k < 10 → (nI (48 + k) - (48 : Int32)).toInt64 = Int64.ofNat (48 + k - 48) := by decide
  exact this k (by omega)
theorem i64_step {B0 a c : Nat} : Int64.ofNat a * Int64.ofNat B0 + Int64.ofNat c = Int64.ofNat (B0 * a + c) := by
  rw [← Int64.ofNat_mul, ← Int64.ofNat_add, Nat.mul_comm]
theorem letters_loop (hr : RFC B S.2.2) (h : TB v len S) {t p : Nat} : ∀ (m fu n : Nat), m < fu → p + n + m = len → b_X6_takeLetters_5 fu 31 (nI t) (nI p) (nI (p + n)) (Int64.ofNat (NB 32 (dgL v p) n)) S = b_X6_takeLetters_48 31 (nI t) (nI p) (nI (p + n + runQ (fun j => letB (v j)) m (p + n))) (Int64.ofNat (NB 32 (dgL v p) (n + runQ (fun j => letB (v j)) m (p + n)))) S := by
  have hl := h.1
  intro m
  induction m with
  | zero =>
    intro fu n hf hi
    obtain ⟨fu, rfl⟩ : ∃ f, fu = f + 1 := ⟨fu - 1, by omega⟩
    rw [b_X6_takeLetters_5, h.2.1, if_pos (le_l (by omega) (by omega) (by omega))]
    rfl
  | succ m ih =>
    intro fu n hf hi
    obtain ⟨fu, rfl⟩ : ∃ f, fu = f + 1 := ⟨fu - 1, by omega⟩
    rw [b_X6_takeLetters_5, h.2.1, if_neg (nle_l (by omega) (by omega) (by omega)), isL_eq hr h (by omega), bdq]
    unfold runQ
    by_cases c : letB (v (p + n)) = true
    · obtain ⟨x, x1, x2, ex⟩ := let_v c
      rw [if_pos c, if_neg ne10, if_pos c, ix_nI (show p + n < 2000 by omega) (by decide), obq, nmq, nmq, rc_313 hr, h.2.2 _ (by omega), ex, l64 x x1 x2, nI_1, show (32 : Int64) = Int64.ofNat 32 from rfl, i64_step]
      have ed : 32 * NB 32 (dgL v p) n + (x - 96) = NB 32 (dgL v p) (n + 1) := by
        show _ = 32 * NB 32 (dgL v p) n + dgL v p n
        unfold dgL
        rw [ex, nI_nat (by omega)]
      rw [ed, show p + n + 1 = p + (n + 1) by omega, ih fu (n + 1) (by omega) (by omega), show p + (n + 1) + runQ (fun j => letB (v j)) m (p + (n + 1)) = p + n + (runQ (fun j => letB (v j)) m (p + (n + 1)) + 1) by omega, show n + 1 + runQ (fun j => letB (v j)) m (p + (n + 1)) = n + (runQ (fun j => letB (v j)) m (p + (n + 1)) + 1) by omega]
    · rw [if_neg c, if_pos rfl, if_neg c]
      rfl
theorem digits_loop (hr : RFC B S.2.2) (h : TB v len S) {t p : Nat} : ∀ (m fu n : Nat), m < fu → p + n + m = len → b_X6_takeDigits_5 fu 31 (nI t) (nI p) (nI (p + n)) (Int64.ofNat (NB 10 (dgD v p) n)) S = b_X6_takeDigits_46 31 (nI t) (nI p) (nI (p + n + runQ (fun j => digB (v j)) m (p + n))) (Int64.ofNat (NB 10 (dgD v p) (n + runQ (fun j => digB (v j)) m (p + n)))) S := by
  have hl := h.1
  intro m
  induction m with
  | zero =>
    intro fu n hf hi
    obtain ⟨fu, rfl⟩ : ∃ f, fu = f + 1 := ⟨fu - 1, by omega⟩
    rw [b_X6_takeDigits_5, h.2.1, if_pos (le_l (by omega) (by omega) (by omega))]
    rfl
  | succ m ih =>
    intro fu n hf hi
    obtain ⟨fu, rfl⟩ : ∃ f, fu = f + 1 := ⟨fu - 1, by omega⟩
    rw [b_X6_takeDigits_5, h.2.1, if_neg (nle_l (by omega) (by omega) (by omega)), isD_eq hr h (by omega), bdq]
    unfold runQ
    by_cases c : digB (v (p + n)) = true
    · obtain ⟨x, x1, x2, ex⟩ := dig_v c
      rw [if_pos c, if_neg ne10, if_pos c, ix_nI (show p + n < 2000 by omega) (by decide), obq, nmq, nmq, rc_313 hr, h.2.2 _ (by omega), ex, d64 x x1 x2, nI_1, show (10 : Int64) = Int64.ofNat 10 from rfl, i64_step]
      have ed : 10 * NB 10 (dgD v p) n + (x - 48) = NB 10 (dgD v p) (n + 1) := by
        show _ = 10 * NB 10 (dgD v p) n + dgD v p n
        unfold dgD
        rw [ex, nI_nat (by omega)]
      rw [ed, show p + n + 1 = p + (n + 1) by omega, ih fu (n + 1) (by omega) (by omega), show p + (n + 1) + runQ (fun j => digB (v j)) m (p + (n + 1)) = p + n + (runQ (fun j => digB (v j)) m (p + (n + 1)) + 1) by omega, show n + 1 + runQ (fun j => digB (v j)) m (p + (n + 1)) = n + (runQ (fun j => digB (v j)) m (p + (n + 1)) + 1) by omega]
    · rw [if_neg c, if_pos rfl, if_neg c]
      rfl
/-! the words -/
def WCH : List Nat := [109, 101, 114, 109, 97, 105, 100, 32, 112, 101, 114, 115, 111, 110, 32, 115, 116, 114, 97, 110, 100, 32, 112, 117, 108, 108, 32, 115, 116, 97, 110, 100, 115, 32, 112, 114, 105, 99, 101, 32, 115, 116, 111, 114, 109, 32, 112, 105, 101, 114, 32, 115, 101, 101, 100, 32, 105, 102, 32, 116, 104, 101, 110, 32, 101, 108, 115, 101, 32, 108, 101, 110, 103, 116, 104, 32, 102, 97, 114, 32, 109, 111, 111, 110, 32, 109, 111, 110, 116, 104, 32, 119, 101, 105, 103, 104, 116, 32, 97, 99, 114, 111, 115, 115, 32, 100, 111, 119, 110, 32, 119, 104, 105, 99, 104, 32, 119, 101, 97, 114, 115, 32]
def chW (i : Nat) : Nat := WCH.getD i 0
theorem sl_0 : sl 0 = 122 := by decide +kernel
theorem ch_fact : ∀ i : Nat, i < 122 → gq .char ((((sc 0 i) &&& (255 : Int32)).toUInt32 % 65536).toInt32) = some (nI (chW i)) ∧ gq .char (nI (chW i)) = some (nI (chW i)) := by decide +kernel
theorem gq_b0 : gq .byte (0 : Int32) = some 0 := by decide +kernel
theorem len_W : f_J0_length_8abf5 0 S = some (nI 122, S) := by
  unfold f_J0_length_8abf5 f_J0_coder_7d493
  rw [if_neg (show ¬ (1 : Int32) = 0 by decide), gq_b0, obq, bdq, sl_0]
  rfl
theorem ch_W {i : Nat} (hi : i < 122) : f_J0_charAt_5068e 0 (nI i) S = some (nI (chW i), S) := by
  obtain ⟨h1, h2⟩ := ch_fact i hi
  unfold f_J0_charAt_5068e f_J0_isLatin1_aae02 f_J1_charAt_3b067 f_J0_checkIndex_df160 f_J3_checkIndex_8e157
  rw [if_neg (show ¬ (1 : Int32) = 0 by decide), if_pos (show (0 : Int32) = 0 from rfl), bdq, if_neg (show ¬ (1 : Int32) = 0 by decide), if_neg (show ¬ nI i < 0 from nlt_l (b := 0) (by omega) (by omega) (by omega)), sl_0, if_pos (show nI i < Int32.ofNat 122 from lt_l (b := 122) (by omega) (by decide) hi), bdq, bdq, ix_nI hi (by decide), obq, h1, obq, bdq, h2, obq]
def kW : Nat → Nat
  | 0 => 0
  | i + 1 => if chW i = 32 then kW i + 1 else kW i
def sW : Nat → Nat
  | 0 => 0
  | i + 1 => if chW i = 32 then 0 else 32 * sW i + (chW i - 96)
theorem W_fact : ∀ i : Nat, i < 122 → sW i < 2 ^ 40 ∧ (chW i = 32 ∨ (97 ≤ chW i ∧ chW i ≤ 122)) := by decide +kernel
def rsW (x : Nat) : Nat → Nat → Nat
  | 0, _ => 21
  | m + 1, i => if chW i = 32 then (if sW i = x then kW i else rsW x m (i + 1)) else rsW x m (i + 1)
theorem i64_inj {a b : Nat} (ha : a < 2 ^ 63) (hb : b < 2 ^ 63) : Int64.ofNat a = Int64.ofNat b ↔ a = b := by
  constructor
  · intro h
    have := congrArg Int64.toInt h
    rw [Int64.toInt_ofNat_of_lt (by omega), Int64.toInt_ofNat_of_lt (by omega)] at this
    omega
  · intro h; rw [h]
theorem lg0 {x y : Int64} : lg_cmp x y = 0 ↔ x = y := by
  unfold lg_cmp
  by_cases c : x > y
  · rw [if_pos c]
    constructor
    · intro h; exact absurd h (by decide)
    · intro h; subst h; exact absurd c (by rw [gt_iff_lt, Int64.lt_iff_toInt_lt]; omega)
  · rw [if_neg c]
    by_cases d : x = y
    · rw [if_pos d]; simp [d]
    · rw [if_neg d]; simp [d]
theorem word_loop {x : Nat} (hx : x < 2 ^ 63) : ∀ (m fu i : Nat), m < fu → i + m = 122 → b_X6_wordOf_7 fu (Int64.ofNat x) (nI (kW i)) (Int64.ofNat (sW i)) (nI i) S = some (nI (rsW x m i), S) := by
  intro m
  induction m with
  | zero =>
    intro fu i hf hi
    obtain ⟨fu, rfl⟩ : ∃ f, fu = f + 1 := ⟨fu - 1, by omega⟩
    rw [b_X6_wordOf_7, len_W, bdq, if_pos (le_l (by omega) (by omega) (by omega))]
    rfl
  | succ m ih =>
    intro fu i hf hi
    obtain ⟨fu, rfl⟩ : ∃ f, fu = f + 1 := ⟨fu - 1, by omega⟩
    obtain ⟨w1, w2⟩ := W_fact i (by omega)
    rw [b_X6_wordOf_7, len_W, bdq, if_neg (nle_l (by omega) (by omega) (by omega)), ch_W (by omega), bdq, ch_W (by omega), bdq]
    unfold rsW b_X6_wordOf_65
    rw [nmq, nmq, nmq, nmq, nI_1, nI_1]
    by_cases c : chW i = 32
    · rw [if_pos (show nI (chW i) = 32 by rw [c]; rfl), if_pos c]
      by_cases d : sW i = x
      · rw [if_pos (lg0.mpr (by rw [d])), if_pos d]
      · rw [if_neg (fun q => d ((i64_inj (by omega) hx).mp (lg0.mp q))), if_neg d]
        have e1 : kW (i + 1) = kW i + 1 := by show (if chW i = 32 then kW i + 1 else kW i) = _; rw [if_pos c]
        have e2 : sW (i + 1) = 0 := by show (if chW i = 32 then 0 else _) = _; rw [if_pos c]
        have := ih fu (i + 1) (by omega) (by omega)
        rw [e1, e2] at this
        exact this
    · have hc : 97 ≤ chW i ∧ chW i ≤ 122 := by omega
      rw [if_neg (show ¬ nI (chW i) = 32 from fun q => c ((nI_eq (b := 32) (by omega) (by decide)).mp q)), if_neg c, l64 _ hc.1 hc.2, show (32 : Int64) = Int64.ofNat 32 from rfl, i64_step]
      have e1 : kW (i + 1) = kW i := by show (if chW i = 32 then kW i + 1 else kW i) = _; rw [if_neg c]
      have e2 : sW (i + 1) = 32 * sW i + (chW i - 96) := by show (if chW i = 32 then 0 else _) = _; rw [if_neg c]
      have := ih fu (i + 1) (by omega) (by omega)
      rw [e1, e2] at this
      exact this
set_option maxRecDepth 20000 in
theorem rsW_wd {x : Nat} : rsW x 122 0 = wdF x 21 0 := rfl
theorem word_eq {x : Nat} (hx : x < 2 ^ 63) : f_X6_wordOf (Int64.ofNat x) S = some (nI (wdF x 21 0), S) := by
  unfold f_X6_wordOf
  rw [← rsW_wd]
  exact word_loop hx 122 FU 0 (by decide) (by omega)
end TOK

/-! the reference cuts a text up -/
section MCU
variable {v : Nat → Int32} {len : Nat} {S S' : St}
/-- the reference's number of a kind -/
def kmN (k : Nat) : Nat := if k ≤ 20 then 20 + k else if k = 21 then 1 else if k = 22 then 2 else if k = 23 then 0 else if k = 59 then 4 else if k = 61 then 5 else if k = 40 then 6 else if k = 41 then 7 else if k = 43 then 8 else if k = 45 then 9 else if k = 42 then 10 else if k = 60 then 13 else if k = 47 then 15 else 3
def nm27 (v : Nat → Int32) (len p : Nat) : Nat := if letB (v p) then NB 27 (dgL v p) (min 8 (rnL v len p)) else 0
def nu10 (v : Nat → Int32) (len p : Nat) : Nat := if letB (v p) then 0 else NB 10 (dgD v p) (min 4 (rnD v len p))
/-- the reference holds the text -/
def TX (v : Nat → Int32) (len : Nat) (S : St) : Prop := len ≤ 2000 ∧ S.1 140 4 = nI len ∧ ∀ i, i < len → S.1 142 i = v i
theorem TX_set (h : TX v len S) (h4 : S'.1 140 4 = S.1 140 4) (h1 : ∀ i, S'.1 142 i = S.1 142 i) : TX v len S' := ⟨h.1, h4.trans h.2.1, fun i hi => (h1 i).trans (h.2.2 i hi)⟩
def byA (v : Nat → Int32) (len i : Nat) : Int32 := if i < len then v i &&& 255 else 0
theorem byteAt_eq (hr : RFM S.2.2) (h : TX v len S) {i : Nat} (hi : i < 2 ^ 31) : f_X10_byteAt 140 (nI i) S = some (byA v len i, S) := by
  have hl := h.1
  unfold f_X10_byteAt byA
  rw [h.2.1]
  by_cases c : i < len
  · rw [if_neg (nle_l (by omega) (by omega) c), if_pos c, ix_nI (show i < 2000 by omega) (by decide), obq, rq_3 hr, h.2.2 i c]
  · rw [if_pos (le_l (by omega) (by omega) (by omega)), if_neg c]
def bI (n : Nat) : Int32 := if n < 128 then nI n else nI n - 256
theorem isB_n {x : Int32} (h : isB x) : ∃ n, n < 256 ∧ x = bI n := by
  obtain ⟨h1, h2⟩ := h
  rw [i32_le] at h1 h2
  have z : (-128 : Int32).toInt = -128 := rfl
  have c : (127 : Int32).toInt = 127 := rfl
  by_cases h0 : 0 ≤ x.toInt
  · refine ⟨x.toInt.toNat, by omega, ?_⟩
    unfold bI
    rw [if_pos (by omega), i32_eq, nI_toInt (by omega)]
    omega
  · refine ⟨(x.toInt + 256).toNat, by omega, ?_⟩
    unfold bI
    rw [if_neg (by omega), i32_eq, show (256 : Int32) = nI 256 from rfl, sub_toInt (by omega) (by omega)]
    omega
theorem by_fact : ∀ n : Nat, n < 256 → (letB (bI n &&& 255) = letB (bI n)) ∧ (digB (bI n &&& 255) = digB (bI n)) ∧ (blkB (bI n &&& 255) = blkB (bI n)) ∧ (sgnB (bI n &&& 255) = sgnB (bI n)) ∧ (letB (bI n) = true ∨ digB (bI n) = true ∨ sgnB (bI n) = true → bI n &&& 255 = bI n) ∧ vp_nar .byte (bI n) = bI n := by decide +kernel
theorem by_f {x : Int32} (h : isB x) : (letB (x &&& 255) = letB x) ∧ (digB (x &&& 255) = digB x) ∧ (blkB (x &&& 255) = blkB x) ∧ (sgnB (x &&& 255) = sgnB x) ∧ (letB x = true ∨ digB x = true ∨ sgnB x = true → x &&& 255 = x) ∧ vp_nar .byte x = x := by
  obtain ⟨n, hn, rfl⟩ := isB_n h
  exact by_fact n hn
theorem misL_eq {x : Int32} : f_X10_isLetter x S = some (if letB x then 1 else 0, S) := by
  unfold f_X10_isLetter letB
  by_cases c1 : x < 97
  · rw [if_pos c1]
    have : ¬ 97 ≤ x := i32_nle.mpr c1
    simp [this]
  · rw [if_neg c1]
    have a1 : 97 ≤ x := i32_nlt.mp c1
    by_cases c2 : 122 < x
    · rw [if_pos c2]
      have : ¬ x ≤ 122 := i32_nle.mpr c2
      simp [this]
    · rw [if_neg c2]
      have : x ≤ 122 := i32_nlt.mp c2
      simp [this, a1]
theorem misD_eq {x : Int32} : f_X10_isDigit x S = some (if digB x then 1 else 0, S) := by
  unfold f_X10_isDigit digB
  by_cases c1 : x < 48
  · rw [if_pos c1]
    have : ¬ 48 ≤ x := i32_nle.mpr c1
    simp [this]
  · rw [if_neg c1]
    have a1 : 48 ≤ x := i32_nlt.mp c1
    by_cases c2 : 57 < x
    · rw [if_pos c2]
      have : ¬ x ≤ 57 := i32_nle.mpr c2
      simp [this]
    · rw [if_neg c2]
      have : x ≤ 57 := i32_nlt.mp c2
      simp [this, a1]
theorem byA_let (hby : ∀ i, i < len → isB (v i)) {i : Nat} : letB (byA v len i) = (decide (i < len) && letB (v i)) := by
  unfold byA
  by_cases c : i < len
  · rw [if_pos c, (by_f (hby i c)).1]; simp [c]
  · rw [if_neg c]; simp [c]; decide
theorem byA_dig (hby : ∀ i, i < len → isB (v i)) {i : Nat} : digB (byA v len i) = (decide (i < len) && digB (v i)) := by
  unfold byA
  by_cases c : i < len
  · rw [if_pos c, (by_f (hby i c)).2.1]; simp [c]
  · rw [if_neg c]; simp [c]; decide
/-- only the tokens' cells are changed -/
def EMk (S S' : St) : Prop := S'.2.2 = S.2.2 ∧ (∀ a k, (a < 143 ∨ 145 < a) → (a = 140 → k ≠ 10) → S'.1 a k = S.1 a k) ∧ ∀ a k, a ≠ 146 → S'.2.1 a k = S.2.1 a k
theorem EMk.rf : EMk S S := ⟨rfl, fun _ _ _ _ => rfl, fun _ _ _ => rfl⟩
theorem EMk.tr {S S' S'' : St} (h : EMk S S') (h' : EMk S' S'') : EMk S S'' := ⟨h'.1.trans h.1, fun a k h1 h2 => (h'.2.1 a k h1 h2).trans (h.2.1 a k h1 h2), fun a k h1 => (h'.2.2 a k h1).trans (h.2.2 a k h1)⟩
theorem token_run (hr : RFM S.2.2) {t : Nat} (ht : t < 403) (h10 : S.1 140 10 = nI t) (kd pl va : Int32) (na : Int64) : RN (f_X10_token 140 kd pl va na S) (fun _ S' => S'.1 143 t = kd ∧ S'.1 144 t = pl ∧ S'.1 145 t = va ∧ S'.2.1 146 t = na ∧ S'.1 140 10 = nI (t + 1) ∧ (∀ k, k ≠ t → S'.1 143 k = S.1 143 k ∧ S'.1 144 k = S.1 144 k ∧ S'.1 145 k = S.1 145 k ∧ S'.2.1 146 k = S.2.1 146 k) ∧ EMk S S') := by
  unfold f_X10_token
  rw [h10, ix_nI ht (by decide), obq, nmq, rq_5 hr]
  have e1 : (sI S 143 t kd).1 140 10 = nI t := (sI_ne (Or.inl (by decide))).trans h10
  have r1 : RFM (sI S 143 t kd).2.2 := hr
  rw [e1, ix_nI ht (by decide), obq, nmq, rq_6 r1]
  have e2 : (sI (sI S 143 t kd) 144 t pl).1 140 10 = nI t := (sI_ne (Or.inl (by decide))).trans e1
  have r2 : RFM (sI (sI S 143 t kd) 144 t pl).2.2 := hr
  rw [e2, ix_nI ht (by decide), obq, nmq, rq_7 r2]
  have e3 : (sI (sI (sI S 143 t kd) 144 t pl) 145 t va).1 140 10 = nI t := (sI_ne (Or.inl (by decide))).trans e2
  have r3 : RFM (sI (sI (sI S 143 t kd) 144 t pl) 145 t va).2.2 := hr
  rw [e3, ix_nI ht (by decide), obq, nmq, rq_8 r3, nmq, sL_1, e3, nI_1]
  have one : ∀ a k, (a = 143 → k ≠ t) → (a = 144 → k ≠ t) → (a = 145 → k ≠ t) → (a = 140 → k ≠ 10) → (sI (sL (sI (sI (sI S 143 t kd) 144 t pl) 145 t va) 146 t na) 140 10 (nI (t + 1))).1 a k = S.1 a k := fun a k h1 h2 h3 h4 => by
    rw [sI_ne (by omega), sL_1, sI_ne (by omega), sI_ne (by omega), sI_ne (by omega)]
  refine RN_some ⟨?_, ?_, ?_, ?_, sI_at, fun k hk => ⟨one _ _ (fun _ => hk) (fun q => absurd q (by decide)) (fun q => absurd q (by decide)) (fun q => absurd q (by decide)), one _ _ (fun q => absurd q (by decide)) (fun _ => hk) (fun q => absurd q (by decide)) (fun q => absurd q (by decide)), one _ _ (fun q => absurd q (by decide)) (fun q => absurd q (by decide)) (fun _ => hk) (fun q => absurd q (by decide)), ?_⟩, rfl, fun a k h1 h2 => one a k (by omega) (by omega) (by omega) h2, fun a k h1 => ?_⟩
  · rw [sI_ne (Or.inl (by decide)), sL_1, sI_ne (Or.inl (by decide)), sI_ne (Or.inl (by decide)), sI_at]
  · rw [sI_ne (Or.inl (by decide)), sL_1, sI_ne (Or.inl (by decide)), sI_at]
  · rw [sI_ne (Or.inl (by decide)), sL_1, sI_at]
  · rw [sI_2, sL_2, if_pos ⟨rfl, rfl⟩]
  · rw [sI_2, sL_2, if_neg (by omega)]; rfl
  · rw [sI_2, sL_2, if_neg (by omega)]; rfl
/-! letters -/
theorem runQ_1 {q : Nat → Bool} {m i : Nat} (h : q i = true) : runQ q (m + 1) i = runQ q m (i + 1) + 1 := by
  show (if q i = true then runQ q m (i + 1) + 1 else 0) = _
  rw [if_pos h]
theorem runQ_0 {q : Nat → Bool} {m i : Nat} (h : ¬ q i = true) : runQ q (m + 1) i = 0 := by
  show (if q i = true then runQ q m (i + 1) + 1 else 0) = _
  rw [if_neg h]
theorem app_eq {a : Nat} {x : Int32} (h : letB x = true) : f_X10_appends (Int64.ofNat a) x S = some (Int64.ofNat (27 * a + (x.toInt.toNat - 96)), S) := by
  obtain ⟨n, n1, n2, e⟩ := let_v h
  unfold f_X10_appends
  rw [e, if_neg (nI_nz (by omega) (by omega)), l64 n n1 n2, nI_nat (by omega), show (27 : Int64) = Int64.ofNat 27 from rfl, Int64.mul_comm, i64_step]
theorem mlet_loop (hby : ∀ i, i < len → isB (v i)) (hr : RFM S.2.2) (h : TX v len S) {q7 : Nat → Int32 → St → Option (Unit × St)} {p : Nat} : ∀ (m fu n : Nat), m < fu → p + n + m = len → b_X10_cutsUp_85 q7 fu 140 (nI p) (nI n) (Int64.ofNat (NB 27 (dgL v p) (min 8 n))) S = b_X10_cutsUp_135 q7 140 (nI p) (nI (n + runQ (fun j => letB (v j)) m (p + n))) (Int64.ofNat (NB 27 (dgL v p) (min 8 (n + runQ (fun j => letB (v j)) m (p + n))))) (if n + runQ (fun j => letB (v j)) m (p + n) ≤ 8 then 1 else 3) S := by
  have hl := h.1
  intro m
  induction m with
  | zero =>
    intro fu n hf hi
    obtain ⟨fu, rfl⟩ : ∃ f, fu = f + 1 := ⟨fu - 1, by omega⟩
    rw [b_X10_cutsUp_85, nI_add, byteAt_eq hr h (by omega), bdq, misL_eq, bdq, byA_let hby, if_neg (show ¬ (decide (p + n < len) && letB (v (p + n))) = true by simp; omega), if_pos rfl]
    show _ = b_X10_cutsUp_135 q7 140 (nI p) (nI (n + 0)) (Int64.ofNat (NB 27 (dgL v p) (min 8 (n + 0)))) (if n + 0 ≤ 8 then 1 else 3) S
    rw [Nat.add_zero]
    by_cases c : n ≤ 8
    · rw [if_pos (show nI n ≤ 8 from le_l (b := 8) (by omega) (by omega) c), if_pos c]
    · rw [if_neg (show ¬ nI n ≤ 8 from nle_l (b := 8) (by omega) (by omega) (by omega)), if_neg c]
  | succ m ih =>
    intro fu n hf hi
    obtain ⟨fu, rfl⟩ : ∃ f, fu = f + 1 := ⟨fu - 1, by omega⟩
    have hlt : p + n < len := by omega
    rw [b_X10_cutsUp_85, nI_add, byteAt_eq hr h (by omega), bdq, misL_eq, bdq, byA_let hby]
    by_cases c : letB (v (p + n)) = true
    · rw [if_pos (show (decide (p + n < len) && letB (v (p + n))) = true by rw [decide_eq_true hlt, c]; rfl), if_neg ne10, runQ_1 (q := fun j => letB (v j)) c, show p + n + 1 = p + (n + 1) by omega, show n + (runQ (fun j => letB (v j)) m (p + (n + 1)) + 1) = (n + 1) + runQ (fun j => letB (v j)) m (p + (n + 1)) by omega]
      unfold b_X10_cutsUp_118
      by_cases c8 : 8 ≤ n
      · rw [if_pos (show (8 : Int32) ≤ nI n from le_l (a := 8) (by omega) (by omega) c8), nmq, nI_1, ← ih fu (n + 1) (by omega) (by omega), show min 8 n = 8 by omega, show min 8 (n + 1) = 8 by omega]
      · rw [if_neg (show ¬ (8 : Int32) ≤ nI n from nle_l (a := 8) (by omega) (by omega) (by omega)), byteAt_eq hr h (by omega), bdq]
        have hb : byA v len (p + n) = v (p + n) := by
          unfold byA
          rw [if_pos hlt]
          exact (by_f (hby _ hlt)).2.2.2.2.1 (Or.inl c)
        rw [hb, app_eq c, bdq, nmq, nI_1, ← ih fu (n + 1) (by omega) (by omega), show min 8 n = n by omega, show min 8 (n + 1) = n + 1 by omega]
        rfl
    · rw [if_neg (show ¬ (decide (p + n < len) && letB (v (p + n))) = true by simp [c]), if_pos rfl, runQ_0 (q := fun j => letB (v j)) c, Nat.add_zero]
      by_cases c8 : n ≤ 8
      · rw [if_pos (show nI n ≤ 8 from le_l (b := 8) (by omega) (by omega) c8), if_pos c8]
      · rw [if_neg (show ¬ nI n ≤ 8 from nle_l (b := 8) (by omega) (by omega) (by omega)), if_neg c8]
theorem mdig_loop (hby : ∀ i, i < len → isB (v i)) (hr : RFM S.2.2) (h : TX v len S) {q7 : Nat → Int32 → St → Option (Unit × St)} {p : Nat} : ∀ (m fu n : Nat), m < fu → p + n + m = len → b_X10_cutsUp_208 q7 fu 140 (nI p) (nI n) (nI (NB 10 (dgD v p) (min 4 n))) S = b_X10_cutsUp_261 q7 140 (nI p) (nI (n + runQ (fun j => digB (v j)) m (p + n))) (nI (NB 10 (dgD v p) (min 4 (n + runQ (fun j => digB (v j)) m (p + n))))) 140 (if n + runQ (fun j => digB (v j)) m (p + n) ≤ 4 then 2 else 3) S := by
  have hl := h.1
  intro m
  induction m with
  | zero =>
    intro fu n hf hi
    obtain ⟨fu, rfl⟩ : ∃ f, fu = f + 1 := ⟨fu - 1, by omega⟩
    rw [b_X10_cutsUp_208, nI_add, byteAt_eq hr h (by omega), bdq, misD_eq, bdq, byA_dig hby, if_neg (show ¬ (decide (p + n < len) && digB (v (p + n))) = true by simp; omega), if_pos rfl]
    show _ = b_X10_cutsUp_261 q7 140 (nI p) (nI (n + 0)) (nI (NB 10 (dgD v p) (min 4 (n + 0)))) 140 (if n + 0 ≤ 4 then 2 else 3) S
    rw [Nat.add_zero]
    by_cases c : n ≤ 4
    · rw [if_pos (show nI n ≤ 4 from le_l (b := 4) (by omega) (by omega) c), if_pos c]
    · rw [if_neg (show ¬ nI n ≤ 4 from nle_l (b := 4) (by omega) (by omega) (by omega)), if_neg c]
  | succ m ih =>
    intro fu n hf hi
    obtain ⟨fu, rfl⟩ : ∃ f, fu = f + 1 := ⟨fu - 1, by omega⟩
    have hlt : p + n < len := by omega
    rw [b_X10_cutsUp_208, nI_add, byteAt_eq hr h (by omega), bdq, misD_eq, bdq, byA_dig hby]
    by_cases c : digB (v (p + n)) = true
    · rw [if_pos (show (decide (p + n < len) && digB (v (p + n))) = true by rw [decide_eq_true hlt, c]; rfl), if_neg ne10, runQ_1 (q := fun j => digB (v j)) c, show p + n + 1 = p + (n + 1) by omega, show n + (runQ (fun j => digB (v j)) m (p + (n + 1)) + 1) = (n + 1) + runQ (fun j => digB (v j)) m (p + (n + 1)) by omega]
      unfold b_X10_cutsUp_244
      by_cases c8 : 4 ≤ n
      · rw [if_pos (show (4 : Int32) ≤ nI n from le_l (a := 4) (by omega) (by omega) c8), nmq, nI_1, ← ih fu (n + 1) (by omega) (by omega), show min 4 n = 4 by omega, show min 4 (n + 1) = 4 by omega]
      · rw [if_neg (show ¬ (4 : Int32) ≤ nI n from nle_l (a := 4) (by omega) (by omega) (by omega)), byteAt_eq hr h (by omega), bdq]
        obtain ⟨x, x1, x2, ex⟩ := dig_v c
        have hb : byA v len (p + n) = nI x := by
          unfold byA
          rw [if_pos hlt, ← ex]
          exact (by_f (hby _ hlt)).2.2.2.2.1 (Or.inr (Or.inl c))
        have ed : (10 : Int32) * nI (NB 10 (dgD v p) n) + nI x - 48 = nI (NB 10 (dgD v p) (n + 1)) := by
          rw [show (10 : Int32) * nI (NB 10 (dgD v p) n) = nI (10 * NB 10 (dgD v p) n) from pk_mul 10 _, nI_add, show (48 : Int32) = nI 48 from rfl, pk_sub (by omega)]
          have edg : dgD v p n = x - 48 := by unfold dgD; rw [ex, nI_nat (by omega)]
          show _ = nI (10 * NB 10 (dgD v p) n + dgD v p n)
          rw [edg, show 10 * NB 10 (dgD v p) n + x - 48 = 10 * NB 10 (dgD v p) n + (x - 48) by omega]
        rw [hb, nmq, show min 4 n = n by omega, ed, nmq, nI_1, ← ih fu (n + 1) (by omega) (by omega), show min 4 (n + 1) = n + 1 by omega]
    · rw [if_neg (show ¬ (decide (p + n < len) && digB (v (p + n))) = true by simp [c]), if_pos rfl, runQ_0 (q := fun j => digB (v j)) c, Nat.add_zero]
      by_cases c8 : n ≤ 4
      · rw [if_pos (show nI n ≤ 4 from le_l (b := 4) (by omega) (by omega) c8), if_pos c8]
      · rw [if_neg (show ¬ nI n ≤ 4 from nle_l (b := 4) (by omega) (by omega) (by omega)), if_neg c8]
/-! the words -/
theorem NB_iff {d e : Nat → Nat} : ∀ (n m : Nat), (∀ k, k < n → 1 ≤ d k ∧ d k ≤ 26) → (∀ k, k < m → 1 ≤ e k ∧ e k ≤ 26) → (NB 32 d n = NB 32 e m ↔ NB 27 d n = NB 27 e m)
  | 0, 0, _, _ => Iff.rfl
  | 0, m + 1, _, he => by
    have := he m (by omega)
    constructor
    · intro h
      have h : 0 = 32 * NB 32 e m + e m := h
      omega
    · intro h
      have h : 0 = 27 * NB 27 e m + e m := h
      omega
  | n + 1, 0, hd, _ => by
    have := hd n (by omega)
    constructor
    · intro h
      have h : 32 * NB 32 d n + d n = 0 := h
      omega
    · intro h
      have h : 27 * NB 27 d n + d n = 0 := h
      omega
  | n + 1, m + 1, hd, he => by
    have h1 := hd n (by omega)
    have h2 := he m (by omega)
    have ih := NB_iff n m (fun k hk => hd k (by omega)) (fun k hk => he k (by omega))
    show (32 * NB 32 d n + d n = 32 * NB 32 e m + e m) ↔ (27 * NB 27 d n + d n = 27 * NB 27 e m + e m)
    constructor
    · intro h
      have a1 : NB 32 d n = NB 32 e m := by omega
      have a2 := ih.mp a1
      omega
    · intro h
      have a1 : NB 27 d n = NB 27 e m := by omega
      have a2 := ih.mpr a1
      omega
def W27 (k : Nat) : Nat := NB 27 (fun j => (wordL k).getD j 0) (wordL k).length
theorem W27_eq : ∀ k : Nat, k < 21 → key27 (wordL k) = W27 k ∧ W27 k < 2 ^ 63 ∧ ∀ j, j < (wordL k).length → 1 ≤ (wordL k).getD j 0 ∧ (wordL k).getD j 0 ≤ 26 := by decide +kernel
theorem W32_ne : ∀ k : Nat, k < 21 → ∀ j : Nat, j < 21 → W32 k = W32 j → k = j := by decide +kernel
theorem wd_iff {d : Nat → Nat} {n k : Nat} (hk : k < 21) (hd : ∀ k, k < n → 1 ≤ d k ∧ d k ≤ 26) : W32 k = NB 32 d n ↔ W27 k = NB 27 d n := NB_iff (wordL k).length n (W27_eq k hk).2.2 hd
/-- the last that fits is the one that fits -/
theorem mword_loop (hr : RFM S.2.2) (hK : KY S) {q7 : Nat → Int32 → St → Option (Unit × St)} {p n : Nat} {d : Nat → Nat} (hd : ∀ k, k < n → 1 ≤ d k ∧ d k ≤ 26) (hn8 : NB 27 d n < 2 ^ 63) : ∀ (m fu k kd : Nat), m < fu → k + m = 21 → ((∀ j, j < k → W32 j ≠ NB 32 d n) ∧ kd = 1 ∨ ∃ j, j < k ∧ W32 j = NB 32 d n ∧ kd = 20 + j) → ∃ kd', b_X10_cutsUp_146 q7 fu 140 (nI p) (nI n) (Int64.ofNat (NB 27 d n)) (nI kd) (nI k) S = b_X10_cutsUp_179 q7 140 (nI p) (nI n) (Int64.ofNat (NB 27 d n)) (nI kd') S ∧ ((∀ j, j < 21 → W32 j ≠ NB 32 d n) ∧ kd' = 1 ∨ ∃ j, j < 21 ∧ W32 j = NB 32 d n ∧ kd' = 20 + j) := by
  intro m
  induction m with
  | zero =>
    intro fu k kd hf hk hh
    obtain ⟨fu, rfl⟩ : ∃ f, fu = f + 1 := ⟨fu - 1, by omega⟩
    have hk : k = 21 := by omega
    subst hk
    rw [b_X10_cutsUp_146, if_pos (show (21 : Int32) ≤ nI 21 by decide)]
    exact ⟨kd, rfl, hh⟩
  | succ m ih =>
    intro fu k kd hf hk hh
    obtain ⟨fu, rfl⟩ : ∃ f, fu = f + 1 := ⟨fu - 1, by omega⟩
    obtain ⟨w1, w2, -⟩ := W27_eq k (by omega)
    rw [b_X10_cutsUp_146, if_neg (show ¬ (21 : Int32) ≤ nI k from nle_l (a := 21) (by omega) (by omega) (by omega)), ix_nI (show k < 21 by omega) (by decide), obq, rq_9 hr, hK k (by omega), w1]
    unfold b_X10_cutsUp_173
    rw [nmq, nmq, nI_1, nmq]
    by_cases c : W32 k = NB 32 d n
    · rw [if_pos (lg0.mpr (by rw [(wd_iff (by omega) hd).mp c])), show (20 : Int32) + nI k = nI (20 + k) from nI_add 20 k]
      exact ih fu (k + 1) (20 + k) (by omega) (by omega) (Or.inr ⟨k, by omega, c, rfl⟩)
    · rw [if_neg (fun q => c ((wd_iff (by omega) hd).mpr ((i64_inj w2 hn8).mp (lg0.mp q))))]
      refine ih fu (k + 1) kd (by omega) (by omega) ?_
      rcases hh with ⟨h1, h2⟩ | ⟨j, h1, h2, h3⟩
      · refine Or.inl ⟨fun j hj => ?_, h2⟩
        by_cases e : j = k
        · subst e; exact c
        · exact h1 j (by omega)
      · exact Or.inr ⟨j, by omega, h2, h3⟩
theorem wdF_at {x : Nat} : ∀ (m k : Nat), k + m = 21 → (∀ j, k ≤ j → j < 21 → W32 j ≠ x) ∧ wdF x m k = 21 ∨ ∃ j, k ≤ j ∧ j < 21 ∧ W32 j = x ∧ wdF x m k = j
  | 0, k, h => Or.inl ⟨fun j h1 h2 => by omega, rfl⟩
  | m + 1, k, h => by
    have e : wdF x (m + 1) k = if W32 k = x then k else wdF x m (k + 1) := rfl
    rw [e]
    by_cases c : W32 k = x
    · rw [if_pos c]
      exact Or.inr ⟨k, Nat.le_refl _, by omega, c, rfl⟩
    · rw [if_neg c]
      rcases wdF_at m (k + 1) (by omega) with ⟨h1, h2⟩ | ⟨j, h1, h2, h3, h4⟩
      · refine Or.inl ⟨fun j g1 g2 => ?_, h2⟩
        by_cases e : j = k
        · subst e; exact c
        · exact h1 j (by omega) g2
      · exact Or.inr ⟨j, by omega, h2, h3, h4⟩
/-! signs -/
def sgK (x : Int32) : Int32 := if x = 59 then 4 else if x = 61 then 5 else if x = 40 then 6 else if x = 41 then 7 else if x = 43 then 8 else if x = 45 then 9 else if x = 42 then 10 else if x = 47 then 15 else if x = 60 then 13 else 3
theorem sign_c {x pl d : Int32} : f_X10_sign 140 pl x d S = b_X10_sign_95 140 pl (sgK x) S := by
  by_cases h1 : x = 59
  · subst h1; rfl
  by_cases h2 : x = 61
  · subst h2; rfl
  by_cases h3 : x = 40
  · subst h3; rfl
  by_cases h4 : x = 41
  · subst h4; rfl
  by_cases h5 : x = 43
  · subst h5; rfl
  by_cases h6 : x = 45
  · subst h6; rfl
  by_cases h7 : x = 42
  · subst h7; rfl
  by_cases h8 : x = 47
  · subst h8; rfl
  by_cases h9 : x = 60
  · subst h9; rfl
  unfold f_X10_sign b_X10_sign_43 b_X10_sign_55 b_X10_sign_65 b_X10_sign_75 b_X10_sign_85 sgK
  rw [if_neg h1, if_neg h2, if_neg h3, if_neg h4, if_neg h5, if_neg h6, if_neg h7, if_neg h8, if_neg h9, if_neg h1, if_neg h2, if_neg h3, if_neg h4, if_neg h5, if_neg h6, if_neg h7, if_neg h8, if_neg h9]
theorem sgK_fact : ∀ n : Nat, n < 256 → sgK (bI n &&& 255) = nI (kmN (if sgnB (bI n) = true then (bI n).toInt.toNat else 24)) := by decide +kernel
/-- the reference holds the tokens, up to the end or what is bad -/
def TKm (v : Nat → Int32) (len m : Nat) (S : St) : Prop := ∀ t, t < m → t ≤ 400 → gdT v len t → S.1 143 t = nI (kmN (kdT v len t)) ∧ S.1 144 t = nI (psT v len t) ∧ (kdT v len t = 22 → S.1 145 t = nI (vlN v len (psT v len t))) ∧ (kdT v len t = 21 → S.2.1 146 t = Int64.ofNat (nm27 v len (psT v len t)))
theorem mtok_run (hby : ∀ i, i < len → isB (v i)) (hr : RFM S.2.2) (hK : KY S) (h : TX v len S) {q7 : Nat → Int32 → St → Option (Unit × St)} {t p : Nat} (ht : t < 403) (h10 : S.1 140 10 = nI t) (hp : p < len) {r2 : Int32} (hr2 : r2 = v p &&& 255) : ∃ S', (bd (f_X10_isLetter r2 S) fun r4 S3 => if r4 = 0 then (bd (f_X10_isDigit r2 S3) fun r6 S5 => if r6 = 0 then (bd (f_X10_byteAt 140 (nI p + (1 : Int32)) S5) fun r8 S7 => bd (f_X10_sign 140 (nI p) r2 r8 S7) fun r10 S9 => nm (nI p + r10) fun x11 => b_X10_cutsUp_291 q7 140 x11 S9) else (b_X10_cutsUp_208 q7 FU 140 (nI p) (0 : Int32) (0 : Int32) S5)) else (b_X10_cutsUp_85 q7 FU 140 (nI p) (0 : Int32) (0 : Int64) S3)) = q7 140 (nI (nxP v len p)) S' ∧ S'.1 143 t = nI (kmN (kdP v len p)) ∧ S'.1 144 t = nI p ∧ (kdP v len p = 22 → S'.1 145 t = nI (vlN v len p)) ∧ (kdP v len p = 21 → S'.2.1 146 t = Int64.ofNat (nm27 v len p)) ∧ S'.1 140 10 = nI (t + 1) ∧ (∀ k, k ≠ t → S'.1 143 k = S.1 143 k ∧ S'.1 144 k = S.1 144 k ∧ S'.1 145 k = S.1 145 k ∧ S'.2.1 146 k = S.2.1 146 k) ∧ EMk S S' := by
  have hl := h.1
  have hf := by_f (hby p hp)
  have cc : ¬ ¬ p < len := fun q => q hp
  rw [misL_eq, bdq, misD_eq, bdq, hr2, hf.1, hf.2.1]
  by_cases c1 : letB (v p) = true
  · have en : nxP v len p = p + rnL v len p := by unfold nxP; rw [if_neg cc, if_pos c1]
    have ek : kdP v len p = if rnL v len p ≤ 8 then wdF (NB 32 (dgL v p) (rnL v len p)) 21 0 else 24 := by unfold kdP; rw [if_neg cc, if_pos c1]
    have e27 : nm27 v len p = NB 27 (dgL v p) (min 8 (rnL v len p)) := by unfold nm27; rw [if_pos c1]
    have e0 := mlet_loop hby hr h (q7 := q7) (p := p) (len - p) FU 0 (by unfold FU; omega) (by omega)
    rw [Nat.zero_add, Nat.add_zero] at e0
    have e1 : b_X10_cutsUp_85 q7 FU 140 (nI p) 0 0 S = b_X10_cutsUp_135 q7 140 (nI p) (nI (rnL v len p)) (Int64.ofNat (NB 27 (dgL v p) (min 8 (rnL v len p)))) (if rnL v len p ≤ 8 then 1 else 3) S := e0
    have hle := rnL_le (v := v) (Nat.le_of_lt hp)
    rw [if_pos c1, if_neg ne10, e1, en, ek, e27]
    unfold b_X10_cutsUp_135
    by_cases c2 : rnL v len p ≤ 8
    · rw [if_neg (show ¬ (8 : Int32) < nI (rnL v len p) from nlt_l (a := 8) (by omega) (by omega) (by omega)), if_pos c2, if_pos c2, show min 8 (rnL v len p) = rnL v len p by omega]
      have hd : ∀ k, k < rnL v len p → 1 ≤ dgL v p k ∧ dgL v p k ≤ 26 := fun k hk => dgL_rng hk
      have hn8 : NB 27 (dgL v p) (rnL v len p) < 2 ^ 63 := by
        have h1 := NB_lt (B0 := 27) (d := dgL v p) (rnL v len p) (fun k hk => by have := hd k hk; omega)
        have h2 : 27 ^ rnL v len p ≤ 27 ^ 8 := Nat.pow_le_pow_right (by decide) c2
        have h3 : (27 : Nat) ^ 8 < 2 ^ 63 := by decide
        omega
      obtain ⟨kd', e3, hk'⟩ := mword_loop hr hK (q7 := q7) (p := p) hd hn8 21 FU 0 1 (by decide) (by omega) (Or.inl ⟨fun j hj => absurd hj (Nat.not_lt_zero _), rfl⟩)
      rw [show b_X10_cutsUp_146 q7 FU 140 (nI p) (nI (rnL v len p)) (Int64.ofNat (NB 27 (dgL v p) (rnL v len p))) 1 0 S = _ from e3]
      unfold b_X10_cutsUp_179 b_X10_cutsUp_291
      obtain ⟨_, S1, e4, t1, t2, t3, t4, t5, t6, t7⟩ := token_run hr ht h10 (nI kd') (nI p) 0 (Int64.ofNat (NB 27 (dgL v p) (rnL v len p)))
      rw [e4, bdq, nmq, nI_add]
      have hkm : kd' = kmN (wdF (NB 32 (dgL v p) (rnL v len p)) 21 0) := by
        rcases wdF_at (x := NB 32 (dgL v p) (rnL v len p)) 21 0 (by decide) with ⟨a1, a2⟩ | ⟨j, a1, a2, a3, a4⟩
        · rcases hk' with ⟨b1, b2⟩ | ⟨i, b1, b2, b3⟩
          · rw [b2, a2]; rfl
          · exact absurd b2 (a1 i (Nat.zero_le _) b1)
        · rcases hk' with ⟨b1, b2⟩ | ⟨i, b1, b2, b3⟩
          · exact absurd a3 (b1 j a2)
          · have : i = j := W32_ne i b1 j a2 (b2.trans a3.symm)
            rw [b3, a4, this]
            unfold kmN
            rw [if_pos (by omega)]
      refine ⟨S1, rfl, by rw [t1, hkm], t2, fun q => ?_, fun _ => t4, t5, t6, t7⟩
      have := wdF_le (x := NB 32 (dgL v p) (rnL v len p)) 21 0 (by decide)
      omega
    · rw [if_pos (show (8 : Int32) < nI (rnL v len p) from lt_l (a := 8) (by omega) (by omega) (by omega)), if_neg c2, if_neg c2]
      unfold b_X10_cutsUp_179 b_X10_cutsUp_291
      obtain ⟨_, S1, e4, t1, t2, t3, t4, t5, t6, t7⟩ := token_run hr ht h10 3 (nI p) 0 (Int64.ofNat (NB 27 (dgL v p) (min 8 (rnL v len p))))
      rw [e4, bdq, nmq, nI_add]
      exact ⟨S1, rfl, t1, t2, fun q => absurd q (by decide), fun q => absurd q (by decide), t5, t6, t7⟩
  · rw [if_neg c1, if_pos rfl]
    by_cases c2 : digB (v p) = true
    · have en : nxP v len p = p + rnD v len p := by unfold nxP; rw [if_neg cc, if_neg c1, if_pos c2]
      have ek : kdP v len p = if rnD v len p ≤ 4 then 22 else 24 := by unfold kdP; rw [if_neg cc, if_neg c1, if_pos c2]
      have evl : vlN v len p = NB 10 (dgD v p) (rnD v len p) := by unfold vlN; rw [if_neg c1]
      have e0 := mdig_loop hby hr h (q7 := q7) (p := p) (len - p) FU 0 (by unfold FU; omega) (by omega)
      rw [Nat.zero_add, Nat.add_zero] at e0
      have e1 : b_X10_cutsUp_208 q7 FU 140 (nI p) 0 0 S = b_X10_cutsUp_261 q7 140 (nI p) (nI (rnD v len p)) (nI (NB 10 (dgD v p) (min 4 (rnD v len p)))) 140 (if rnD v len p ≤ 4 then 2 else 3) S := e0
      have hle := rnD_le (v := v) (Nat.le_of_lt hp)
      rw [if_pos c2, if_neg ne10, e1, en, ek, evl]
      unfold b_X10_cutsUp_261 b_X10_cutsUp_291
      obtain ⟨_, S1, e4, t1, t2, t3, t4, t5, t6, t7⟩ := token_run hr ht h10 (if rnD v len p ≤ 4 then 2 else 3) (nI p) (nI (NB 10 (dgD v p) (min 4 (rnD v len p)))) 0
      rw [e4, bdq, nmq, nI_add]
      by_cases c3 : rnD v len p ≤ 4
      · rw [if_pos c3] at t1 ⊢
        refine ⟨S1, rfl, t1, t2, fun _ => ?_, fun q => absurd q (by decide), t5, t6, t7⟩
        rw [t3, show min 4 (rnD v len p) = rnD v len p by omega]
      · rw [if_neg c3] at t1 ⊢
        exact ⟨S1, rfl, t1, t2, fun q => absurd q (by decide), fun q => absurd q (by decide), t5, t6, t7⟩
    · have en : nxP v len p = p + 1 := by unfold nxP; rw [if_neg cc, if_neg c1, if_neg c2]
      have ek : kdP v len p = if sgnB (v p) = true then (v p).toInt.toNat else 24 := by unfold kdP; rw [if_neg cc, if_neg c1, if_neg c2]
      rw [if_neg c2, if_pos rfl, nI_1, byteAt_eq hr h (by omega), bdq, sign_c, en, ek]
      have hs : sgK (v p &&& 255) = nI (kmN (if sgnB (v p) = true then (v p).toInt.toNat else 24)) := by
        obtain ⟨n, hn, e⟩ := isB_n (hby p hp)
        rw [e]
        exact sgK_fact n hn
      have h40 : ∀ x : Int32, sgnB x = true → 40 ≤ x.toInt.toNat := fun x hx => by
        unfold sgnB at hx
        simp only [Bool.or_eq_true, decide_eq_true_eq] at hx
        rcases hx with (((((((h | h) | h) | h) | h) | h) | h) | h) | h <;> subst h <;> decide
      unfold b_X10_sign_95 b_X10_cutsUp_291
      obtain ⟨_, S1, e4, t1, t2, t3, t4, t5, t6, t7⟩ := token_run hr ht h10 (sgK (v p &&& 255)) (nI p) 0 0
      rw [e4, bdq, bdq, nmq, nI_1]
      have hne : ¬ (if sgnB (v p) = true then (v p).toInt.toNat else 24) = 22 ∧ ¬ (if sgnB (v p) = true then (v p).toInt.toNat else 24) = 21 := by
        by_cases c3 : sgnB (v p) = true
        · rw [if_pos c3]
          have := h40 _ c3
          omega
        · rw [if_neg c3]; decide
      exact ⟨S1, rfl, t1.trans hs, t2, fun q => absurd q hne.1, fun q => absurd q hne.2, t5, t6, t7⟩
theorem skB_1 {i : Nat} (hi : i < len) (h : blkB (v i) = true) : skB v len i = skB v len (i + 1) := by
  unfold skB
  rw [show len - i = (len - (i + 1)) + 1 by omega, runQ_1 (q := fun j => blkB (v j)) h]
  omega
theorem skB_0 {i : Nat} (hi : i < len) (h : ¬ blkB (v i) = true) : skB v len i = i := by
  unfold skB
  rw [show len - i = (len - (i + 1)) + 1 by omega, runQ_0 (q := fun j => blkB (v j)) h]
  rfl
theorem run_pos {q : Nat → Bool} {m i : Nat} (hm : 0 < m) (h : q i = true) : 0 < runQ q m i := by
  obtain ⟨k, rfl⟩ : ∃ k, m = k + 1 := ⟨m - 1, by omega⟩
  rw [runQ_1 h]
  omega
theorem nxP_gt {p : Nat} (hp : p < len) : p < nxP v len p := by
  unfold nxP
  rw [if_neg (fun q => q hp)]
  split
  next c =>
    have : 0 < rnL v len p := run_pos (by omega) c
    omega
  next =>
    split
    next c =>
      have : 0 < rnD v len p := run_pos (by omega) c
      omega
    next => omega
theorem mcut_loop2 (hby : ∀ i, i < len → isB (v i)) {S0 : St} (hr : RFM S0.2.2) (hK : KY S0) (h : TX v len S0) : ∀ (m fu i t : Nat) (S : St), m < fu → len ≤ i + m → i ≤ len → t ≤ 401 → EMk S0 S → S.1 140 10 = nI t → psT v len t = skB v len i → TKm v len t S → RN (b_X10_cutsUp_7 fu 140 (nI i) S) (fun _ S' => TKm v len 401 S' ∧ EMk S0 S') := by
  have hl := h.1
  intro m
  induction m with
  | zero =>
    intro fu i t S hf hm hi ht hE h10 hps hT
    obtain ⟨fu, rfl⟩ : ∃ f, fu = f + 1 := ⟨fu - 1, by omega⟩
    have hi' : i = len := by omega
    have hr1 : RFM S.2.2 := by rw [hE.1]; exact hr
    have hX1 : TX v len S := TX_set h (hE.2.1 _ _ (by decide) (by decide)) (fun i => hE.2.1 _ _ (by decide) (fun q => absurd q (by decide)))
    rw [b_X10_cutsUp_7, h10]
    by_cases c : t = 401
    · rw [if_pos (show (400 : Int32) < nI t by rw [c]; decide)]
      exact RN_some ⟨c ▸ hT, hE⟩
    · rw [if_neg (show ¬ (400 : Int32) < nI t from nlt_l (a := 400) (by omega) (by omega) (by omega)), byteAt_eq hr1 hX1 (by omega), bdq, hX1.2.1, if_neg (nlt_l (by omega) (by omega) (by omega))]
      have ep : psT v len t = len := by
        have := skB_le (v := v) (Nat.le_of_eq hi')
        rw [hps]; omega
      have ek : kdT v len t = 23 := by
        unfold kdT kdP
        rw [ep, if_pos (by omega)]
      refine RN_bd (token_run hr1 (show t < 403 by omega) h10 0 (nI len) 0 0) (fun _ S1 h1 => ?_)
      obtain ⟨t1, t2, t3, t4, t5, t6, t7⟩ := h1
      refine RN_some ⟨fun j hj hj4 hgj => ?_, hE.tr t7⟩
      rcases Nat.lt_trichotomy j t with g | g | g
      · obtain ⟨a1, a2, a3, a4⟩ := hT j g hj4 hgj
        obtain ⟨b1, b2, b3, b4⟩ := t6 j (by omega)
        exact ⟨b1.trans a1, b2.trans a2, fun q => b3.trans (a3 q), fun q => b4.trans (a4 q)⟩
      · subst g
        rw [ek, ep]
        exact ⟨t1, t2, fun q => absurd q (by decide), fun q => absurd q (by decide)⟩
      · have := hgj t g
        omega
  | succ m ih =>
    intro fu i t S hf hm hi ht hE h10 hps hT
    obtain ⟨fu, rfl⟩ : ∃ f, fu = f + 1 := ⟨fu - 1, by omega⟩
    by_cases hil : i = len
    · exact ih (fu + 1) i t S (by omega) (by omega) hi ht hE h10 hps hT
    have hlt : i < len := by omega
    have hr1 : RFM S.2.2 := by rw [hE.1]; exact hr
    have hX1 : TX v len S := TX_set h (hE.2.1 _ _ (by decide) (by decide)) (fun i => hE.2.1 _ _ (by decide) (fun q => absurd q (by decide)))
    have hK1 : KY S := fun k hk => by rw [hE.2.2 _ _ (by decide)]; exact hK k hk
    rw [b_X10_cutsUp_7, h10]
    by_cases c : t = 401
    · rw [if_pos (show (400 : Int32) < nI t by rw [c]; decide)]
      exact RN_some ⟨c ▸ hT, hE⟩
    rw [if_neg (show ¬ (400 : Int32) < nI t from nlt_l (a := 400) (by omega) (by omega) (by omega)), byteAt_eq hr1 hX1 (by omega), bdq, hX1.2.1, if_pos (lt_l (by omega) (by omega) hlt)]
    have eb : byA v len i = v i &&& 255 := by unfold byA; rw [if_pos hlt]
    have hbl := (by_f (hby i hlt)).2.2.1
    rw [eb]
    unfold b_X10_cutsUp_67 b_X10_cutsUp_291
    rw [nmq, nI_1]
    by_cases cb : blkB (v i) = true
    · have go : RN (b_X10_cutsUp_7 fu 140 (nI (i + 1)) S) (fun _ S' => TKm v len 401 S' ∧ EMk S0 S') := ih fu (i + 1) t S (by omega) (by omega) (by omega) ht hE h10 (hps.trans (skB_1 hlt cb)) hT
      rw [cb] at hbl
      unfold blkB at hbl
      simp only [Bool.or_eq_true, decide_eq_true_eq] at hbl
      by_cases d1 : v i &&& 255 = 9
      · rw [if_pos d1]; exact go
      rw [if_neg d1]
      by_cases d2 : v i &&& 255 = 10
      · rw [if_pos d2]; exact go
      rw [if_neg d2]
      by_cases d3 : v i &&& 255 = 13
      · rw [if_pos d3]; exact go
      rw [if_neg d3]
      by_cases d4 : v i &&& 255 = 32
      · rw [if_pos d4]; exact go
      · rcases hbl with ((q | q) | q) | q
        · exact absurd q d4
        · exact absurd q d1
        · exact absurd q d2
        · exact absurd q d3
    · have cb0 : blkB (v i &&& 255) = false := by rw [hbl]; simpa using cb
      unfold blkB at cb0
      simp only [Bool.or_eq_false_iff, decide_eq_false_iff_not] at cb0
      obtain ⟨⟨⟨d4, d1⟩, d2⟩, d3⟩ := cb0
      rw [if_neg d1, if_neg d2, if_neg d3, if_neg d4]
      obtain ⟨S1, e1, t1, t2, t3, t4, t5, t6, t7⟩ := mtok_run hby hr1 hK1 hX1 (q7 := b_X10_cutsUp_7 fu) (show t < 403 by omega) h10 hlt rfl
      have ep : psT v len t = i := hps.trans (skB_0 hlt cb)
      have e1' := e1
      unfold b_X10_cutsUp_291 at e1'
      rw [nI_1] at e1'
      rw [e1']
      have hgt := nxP_gt (v := v) hlt
      have hnl := nxP_le (v := v) (Nat.le_of_lt hlt)
      refine ih fu (nxP v len i) (t + 1) S1 (by omega) (by omega) hnl.2 (by omega) (hE.tr t7) t5 (by show skB v len (nxP v len (psT v len t)) = _; rw [ep]) (fun j hj hj4 hgj => ?_)
      by_cases g : j = t
      · subst g
        unfold kdT
        rw [ep]
        exact ⟨t1, t2, t3, t4⟩
      · obtain ⟨a1, a2, a3, a4⟩ := hT j (by omega) hj4 hgj
        obtain ⟨b1, b2, b3, b4⟩ := t6 j g
        exact ⟨b1.trans a1, b2.trans a2, fun q => b3.trans (a3 q), fun q => b4.trans (a4 q)⟩
theorem mcut_run (hby : ∀ i, i < len → isB (v i)) (hr : RFM S.2.2) (hK : KY S) (h : TX v len S) : RN (f_X10_cutsUp 140 S) (fun _ S' => TKm v len 401 S' ∧ EMk S S') := by
  have hl := h.1
  unfold f_X10_cutsUp
  rw [nmq]
  have hE : EMk S (sI S 140 10 0) := ⟨rfl, fun a k _ h2 => sI_ne (by omega), fun _ _ _ => rfl⟩
  exact mcut_loop2 hby hr hK h len FU 0 0 _ (by unfold FU; omega) (by omega) (Nat.zero_le _) (by decide) hE sI_at rfl (fun j hj => absurd hj (Nat.not_lt_zero _))
end MCU

/-! the class takes tokens, numbers, names: live or dead -/
section CST
variable {v : Nat → Int32} {len Bc : Nat} {S S' : St}
def MKc (mk : Mk) (S : St) : Prop := match mk with
  | none => S.1 30 5 = 0
  | some (k, p) => S.1 30 5 = nI k ∧ S.1 30 6 = nI p ∧ 3 ≤ k ∧ k ≤ 5
def SRc (v : Nat → Int32) (len : Nat) (st : Stt) (S : St) : Prop := match st with
  | .inl (f, u) => DDc f (psT v len u) S
  | .inr (t, mk) => LVc v len t S ∧ MKc mk S
/-- only the reader's own numbers are changed -/
def FY (S S' : St) : Prop := S'.2 = S.2 ∧ ∀ a k, (a = 30 → k < 2) → S'.1 a k = S.1 a k
theorem FY.rf : FY S S := ⟨rfl, fun _ _ _ => rfl⟩
theorem FY.tr {S S' S'' : St} (h : FY S S') (h' : FY S' S'') : FY S S'' := ⟨h'.1.trans h.1, fun a k q => (h'.2 a k q).trans (h.2 a k q)⟩
theorem FY_rr (h : FY S S') (hr : RRf Bc S.2.2) : RRf Bc S'.2.2 := by rw [h.1]; exact hr
theorem MKc_set {mk : Mk} (h : MKc mk S) (h5 : S'.1 30 5 = S.1 30 5) (h6 : S'.1 30 6 = S.1 30 6) : MKc mk S' := by
  match mk, h with
  | none, h => exact h5.trans h
  | some (k, p), h => exact ⟨h5.trans h.1, h6.trans h.2.1, h.2.2⟩
theorem nI_m1 {k : Nat} (hk : k < 2 ^ 31) : nI k ≠ -1 := fun q => by
  have := congrArg Int32.toInt q
  rw [nI_toInt hk] at this
  have z : (-1 : Int32).toInt = -1 := by decide
  omega
theorem take_S {st : Stt} {k : Nat} (hr : RRf Bc S.2.2) (h : SRc v len st S) (hk : k < 128) (h23 : k ≠ 23) (h24 : k ≠ 24) : ∃ u S', f_X4_take 30 (nI k) S = some (nI u, S') ∧ u ≤ 400 ∧ FY S S' ∧ SRc v len (tkS v len k st) S' ∧ ∀ t mk, st = .inr (t, mk) → u = t := by
  match st, h with
  | .inl (f, u), h =>
    have h : DDc f (psT v len u) S := h
    obtain ⟨t, ht, e⟩ := h.2.2.2
    exact ⟨t, S, take_d h (nI_m1 (by omega)) e, ht, FY.rf, h, fun t mk q => by cases q⟩
  | .inr (t, mk), h =>
    obtain ⟨h1, h2⟩ := h
    obtain ⟨S1, e1, f1, o1, r1⟩ := take_l hr h1 hk h23 h24
    have hB := hr.1
    have g5 : S1.1 30 5 = S.1 30 5 := f1.2 _ _ (fun _ => by omega) (by omega) (by omega)
    have g6 : S1.1 30 6 = S.1 30 6 := f1.2 _ _ (fun _ => by omega) (by omega) (by omega)
    refine ⟨t, S1, e1, h1.1, ⟨f1.1, fun a k q => ?_⟩, ?_, fun t' mk' q => by cases q; rfl⟩
    · by_cases c : a = 30
      · exact f1.2 _ _ (fun _ => Or.inl (q c)) (by omega) (by omega)
      · exact o1 a k c
    · unfold tkS
      rw [adv_at]
      by_cases c : kdT v len t = k
      · rw [if_pos c]
        by_cases c2 : t < 400
        · have e : tkA v len k t = .inr (t + 1) := by unfold tkA; rw [if_pos c, if_pos c2]
          rw [e] at r1
          rw [if_pos c2]
          exact ⟨r1, MKc_set h2 g5 g6⟩
        · have e : tkA v len k t = .inl (2, t) := by unfold tkA; rw [if_pos c, if_neg c2]
          rw [e] at r1
          rw [if_neg c2]
          exact r1
      · have e : tkA v len k t = .inl (1, t) := by unfold tkA; rw [if_neg c]
        rw [e] at r1
        rw [if_neg c]
        exact r1
theorem mark_run {u : Nat} {k : Int32} (hr : RRf Bc S.2.2) (hu : u ≤ 400) : ∃ S', f_X4_mark 30 k (nI u) S = some ((), S') ∧ S'.2 = S.2 ∧ (∀ a j, (a = 30 → j ≠ 5 ∧ j ≠ 6) → S'.1 a j = S.1 a j) ∧ (S.1 30 5 = 0 → S'.1 30 5 = k ∧ S'.1 30 6 = S.1 33 u) ∧ (S.1 30 5 ≠ 0 → S' = S) := by
  unfold f_X4_mark
  by_cases c : S.1 30 5 = 0
  · have r1 : RRf Bc (sI S 30 5 k).2.2 := hr
    rw [if_pos c, nmq, ix_nI (show u < 401 by omega) (by decide), obq, nmq, rr_300 r1, rr_311 r1, sI_ne (Or.inl (by decide))]
    exact ⟨_, rfl, rfl, fun a j q => by rw [sI_ne (by omega), sI_ne (by omega)], fun _ => ⟨by rw [sI_ne (Or.inr (by decide)), sI_at], sI_at⟩, fun q => absurd c q⟩
  · rw [if_neg c]
    exact ⟨S, rfl, rfl, fun _ _ _ => rfl, fun q => absurd q c, fun _ => rfl⟩
theorem LVc_set {t : Nat} (h : LVc v len t S) (h2 : S'.2 = S.2) (ho : ∀ a j, (a = 30 → j ≠ 5 ∧ j ≠ 6) → a = 30 ∨ a = 32 ∨ a = 33 → S'.1 a j = S.1 a j) : LVc v len t S' := by
  obtain ⟨a1, a2, a3, a4, a5, a6⟩ := h
  refine ⟨a1, (ho _ _ (fun _ => by decide) (Or.inl rfl)).trans a2, (ho _ _ (fun _ => by decide) (Or.inl rfl)).trans a3, a4, fun j h1 h2' h3 => ?_, (ho _ _ (fun _ => by decide) (Or.inl rfl)).trans a6⟩
  obtain ⟨b1, b2, b3⟩ := a5 j h1 h2' h3
  refine ⟨(ho _ _ (fun q => absurd q (by decide)) (by decide)).trans b1, (ho _ _ (fun q => absurd q (by decide)) (by decide)).trans b2, fun q => ?_⟩
  rw [h2]
  exact b3 q
theorem DDc_set {f p : Nat} (h : DDc f p S) (ho : ∀ j, j ≠ 5 → j ≠ 6 → S'.1 30 j = S.1 30 j) : DDc f p S' := by
  obtain ⟨h1, h2, h3, t, h4, h5⟩ := h
  exact ⟨(ho _ (by decide) (by decide)).trans h1, (ho _ (by decide) (by decide)).trans h2, h3, t, h4, (ho _ (by decide) (by decide)).trans h5⟩
theorem mark_S {st : Stt} {u k : Nat} (hr : RRf Bc S.2.2) (hu : u ≤ 400) (hk : 3 ≤ k ∧ k ≤ 5) (h : SRc v len st S) (hl : ∀ t mk, st = .inr (t, mk) → t = u + 1) : ∃ S', f_X4_mark 30 (nI k) (nI u) S = some ((), S') ∧ FY S S' ∧ SRc v len (mapM st (fun mk => mkS mk k (psT v len u))) S' := by
  obtain ⟨S1, e1, f1, o1, c1, c2⟩ := mark_run (k := nI k) hr hu
  refine ⟨S1, e1, ⟨f1, fun a j q => o1 a j (fun e => by have := q e; omega)⟩, ?_⟩
  match st, h, hl with
  | .inl (f, w), h, _ => exact DDc_set h (fun j h5 h6 => o1 _ _ (fun _ => ⟨h5, h6⟩))
  | .inr (t, mk), h, hl =>
    obtain ⟨h1, h2⟩ := h
    have et : t = u + 1 := hl t mk rfl
    subst et
    refine ⟨LVc_set h1 f1 (fun a j q _ => o1 a j q), ?_⟩
    match mk, h2 with
    | none, h2 =>
      obtain ⟨d1, d2⟩ := c1 h2
      have h33 : S.1 33 u = nI (psT v len u) := (h1.2.2.2.2.1 u (by omega) hu (fun i hi => h1.2.2.2.1 i (by omega))).2.1
      exact ⟨d1, d2.trans h33, hk⟩
    | some (k0, p0), h2 =>
      obtain ⟨y1, y2, y3, y4⟩ := h2
      have : S1 = S := c2 (by rw [y1]; exact nI_ne0 (by omega) (by omega))
      rw [this]
      exact ⟨y1, y2, y3, y4⟩
theorem rng_if {α : Type} {x a b : Int32} {M N : α} : (if x < a then M else if x ≤ b then N else M) = if a ≤ x ∧ x ≤ b then N else M := by
  by_cases c : x < a
  · rw [if_pos c, if_neg (fun q => i32_nlt.mpr q.1 c)]
  · rw [if_neg c]
    have c1 := i32_nlt.mp c
    by_cases d : x ≤ b
    · rw [if_pos d, if_pos ⟨c1, d⟩]
    · rw [if_neg d, if_neg (fun q => d q.2)]
theorem num_S {st : Stt} {sg a b : Int32} {ok : Nat → Bool} (hr : RRf Bc S.2.2) (h : SRc v len st S) (hok : ∀ n, n < 10000 → ((a ≤ sg * nI n ∧ sg * nI n ≤ b) ↔ ok n = true)) : ∃ r S', f_X4_takeNumber 30 sg a b S = some (r, S') ∧ FY S S' ∧ SRc v len (nuS v len ok st) S' ∧ (liv (nuS v len ok st) → r = sg * nI (vlV v len (tkn st))) := by
  unfold f_X4_takeNumber b_X4_takeNumber_35
  obtain ⟨u, S1, e1, hu, f1, s1, t1⟩ := take_S (k := 22) hr h (by decide) (by decide) (by decide)
  have r1 := FY_rr f1 hr
  have hadv : nuS v len ok st = mapM (tkS v len 22 st) (fun mk => if ok (vlV v len (tkn st)) then mk else mkS mk 5 (psT v len (tkn st))) := adv_tk
  have hlv : ∀ t' mk', tkS v len 22 st = .inr (t', mk') → t' = u + 1 ∧ tkn st = u ∧ (S1.2.1 34 u).toInt32 = nI (vlV v len u) ∧ vlV v len u < 10000 := by
    intro t' mk' q
    obtain ⟨t, mk, a1, a2, a3, a4, a5⟩ := adv_inr q
    have eu := t1 t mk a1
    subst eu
    rw [q] at s1
    have l1 := s1.1
    rw [a4] at l1
    have h34 := (l1.2.2.2.2.1 u (by omega) hu (fun i hi => l1.2.2.2.1 i (by omega))).2.2 (by omega)
    have hv := vl_lt a2
    refine ⟨a4, by rw [a1]; rfl, ?_, hv⟩
    rw [h34]
    exact i64_32 (Nat.lt_trans hv (by decide))
  obtain ⟨S2, e2, f2, s2⟩ := mark_S (k := 5) r1 hu (by decide) s1 (fun t mk q => (hlv t mk q).1)
  rw [show (22 : Int32) = nI 22 from rfl, e1, bdq, ix_nI (show u < 401 by omega) (by decide), obq, nmq, rr_300 r1, rr_312 r1, show (5 : Int32) = nI 5 from rfl, e2, bdq, rng_if, hadv]
  by_cases c : a ≤ sg * (S1.2.1 34 u).toInt32 ∧ sg * (S1.2.1 34 u).toInt32 ≤ b
  · rw [if_pos c]
    refine ⟨_, S1, rfl, f1, ?_, ?_⟩
    · cases hst : tkS v len 22 st with
      | inl e => rw [hst] at s1; exact s1
      | inr w =>
        obtain ⟨t', mk'⟩ := w
        obtain ⟨b1, b2, b3, b4⟩ := hlv t' mk' hst
        rw [b3] at c
        have okt := (hok _ b4).mp c
        rw [hst] at s1
        show SRc v len (.inr (t', if ok (vlV v len (tkn st)) = true then mk' else mkS mk' 5 (psT v len (tkn st)))) S1
        rw [b2, if_pos okt]
        exact s1
    · intro hl
      cases hst : tkS v len 22 st with
      | inl e => rw [hst] at hl; exact absurd hl not_liv
      | inr w =>
        obtain ⟨t', mk'⟩ := w
        obtain ⟨b1, b2, b3, b4⟩ := hlv t' mk' hst
        rw [b3, b2]
  · rw [if_neg c]
    refine ⟨_, S2, rfl, f1.tr f2, ?_, ?_⟩
    · cases hst : tkS v len 22 st with
      | inl e => rw [hst] at s2; exact s2
      | inr w =>
        obtain ⟨t', mk'⟩ := w
        obtain ⟨b1, b2, b3, b4⟩ := hlv t' mk' hst
        rw [b3] at c
        have okf : ¬ ok (vlV v len u) = true := fun q => c ((hok _ b4).mpr q)
        rw [hst] at s2
        show SRc v len (.inr (t', if ok (vlV v len (tkn st)) = true then mk' else mkS mk' 5 (psT v len (tkn st)))) S2
        rw [b2, if_neg okf]
        exact s2
    · intro hl
      cases hst : tkS v len 22 st with
      | inl e => rw [hst] at hl; exact absurd hl not_liv
      | inr w =>
        obtain ⟨t', mk'⟩ := w
        obtain ⟨b1, b2, b3, b4⟩ := hlv t' mk' hst
        rw [b3, b2]
theorem okR_p {lo hi : Nat} (hlo : lo < 2 ^ 31) (hhi : hi < 2 ^ 31) : ∀ n, n < 10000 → ((nI lo ≤ (1 : Int32) * nI n ∧ (1 : Int32) * nI n ≤ nI hi) ↔ okR lo hi n = true) := fun n hn => by
  rw [Int32.one_mul, nI_leI hlo (by omega), nI_leI (by omega) hhi]
  unfold okR
  rw [Bool.and_eq_true, decide_eq_true_eq, decide_eq_true_eq]
/-- a number between two -/
theorem num_R {st : Stt} {lo hi : Nat} (hr : RRf Bc S.2.2) (h : SRc v len st S) (hlo : lo < 2 ^ 31) (hhi : hi < 2 ^ 31) : ∃ r S', f_X4_takeNumber 30 1 (nI lo) (nI hi) S = some (r, S') ∧ FY S S' ∧ SRc v len (nuS v len (okR lo hi) st) S' ∧ (liv (nuS v len (okR lo hi) st) → r = nI (vlV v len (tkn st))) := by
  obtain ⟨r, S1, e1, f1, s1, l1⟩ := num_S hr h (okR_p hlo hhi)
  exact ⟨r, S1, e1, f1, s1, fun q => by rw [l1 q, Int32.one_mul]⟩
theorem neg_toInt {n : Nat} (hn : n < 10000) : (-(nI n)).toInt = -(n : Int) := by
  rw [← Int32.zero_sub]
  have := sub_toInt (a := 0) (b := n) (by decide) (by omega)
  rw [show nI 0 = 0 from rfl] at this
  rw [this]
  omega
theorem ok3_p : ∀ n, n < 10000 → ((-3 ≤ (1 : Int32) * nI n ∧ (1 : Int32) * nI n ≤ 3) ↔ ok3 n = true) := fun n hn => by
  rw [Int32.one_mul, i32_le, i32_le, nI_toInt (by omega)]
  have a : (-3 : Int32).toInt = -3 := by decide
  have c : (3 : Int32).toInt = 3 := by decide
  unfold ok3
  rw [decide_eq_true_eq]
  omega
theorem ok3_m : ∀ n, n < 10000 → ((-3 ≤ (-1 : Int32) * nI n ∧ (-1 : Int32) * nI n ≤ 3) ↔ ok3 n = true) := fun n hn => by
  rw [← Int32.neg_eq_neg_one_mul, i32_le, i32_le, neg_toInt hn]
  have a : (-3 : Int32).toInt = -3 := by decide
  have c : (3 : Int32).toInt = 3 := by decide
  unfold ok3
  rw [decide_eq_true_eq]
  omega
theorem step_S {st : Stt} (hr : RRf Bc S.2.2) (h : SRc v len st S) : ∃ r S', f_X4_takeStep 30 S = some (r, S') ∧ FY S S' ∧ SRc v len (spS v len st) S' ∧ (liv (spS v len st) → r = spV v len st) := by
  unfold f_X4_takeStep b_X4_takeStep_20
  match st, h with
  | .inl (f, u), h =>
    obtain ⟨r, S1, e1, f1, s1, l1⟩ := num_S (st := .inl (f, u)) hr h ok3_p
    rw [hand_d h, bdq, if_neg (show ¬ (-1 : Int32) = 45 by decide), e1, bdq]
    exact ⟨r, S1, rfl, f1, s1, fun q => absurd q not_liv⟩
  | .inr (t, mk), h =>
    rw [hand_l hr h.1, bdq, spS_at]
    have hk : kdT v len t < 128 := kd_lt
    by_cases c : kdT v len t = 45
    · obtain ⟨u, S1, e1, hu, f1, s1, t1⟩ := take_S (k := 45) hr h (by decide) (by decide) (by decide)
      obtain ⟨r, S2, e2, f2, s2, l2⟩ := num_S (FY_rr f1 hr) s1 ok3_m
      rw [if_pos (show nI (kdT v len t) = 45 by rw [c]; rfl), show (45 : Int32) = nI 45 from rfl, e1, bdq, e2, bdq, if_pos c]
      refine ⟨r, S2, rfl, f1.tr f2, s2, fun q => ?_⟩
      rw [l2 q]
      obtain ⟨t2, mk2, hq⟩ := q
      obtain ⟨t3, mk3, g1, g2, g3, g4, g5⟩ := adv_inr hq
      obtain ⟨t4, mk4, k1, k2, k3, k4, k5⟩ := adv_inr g1
      cases k1
      unfold spV
      rw [g1, k4]
      show -1 * nI (vlV v len (t + 1)) = if kdT v len t = 45 then -(nI (vlV v len (t + 1))) else nI (vlV v len t)
      rw [if_pos c, ← Int32.neg_eq_neg_one_mul]
    · obtain ⟨r, S2, e2, f2, s2, l2⟩ := num_S hr h ok3_p
      rw [if_neg (show ¬ nI (kdT v len t) = 45 from fun q => c ((nI_eq (b := 45) (by omega) (by decide)).mp q)), e2, bdq, if_neg c]
      refine ⟨r, S2, rfl, f2, s2, fun q => ?_⟩
      rw [l2 q]
      show 1 * nI (vlV v len t) = if kdT v len t = 45 then -(nI (vlV v len (t + 1))) else nI (vlV v len t)
      rw [if_neg c, Int32.one_mul]
/-! names -/
theorem idx_loop {l0 a n : Nat} {name : Int64} (hn : n ≤ l0) (hl : l0 ≤ 6) : ∀ (m fu i : Nat), m < fu → i + m = n → b_X0_indexOf_3 l0 fu a (nI n) name (nI i) S = some (fsF (fun j => decide (S.2.1 a j = name)) m i, S) := by
  intro m
  induction m with
  | zero =>
    intro fu i hf hi
    obtain ⟨fu, rfl⟩ : ∃ f, fu = f + 1 := ⟨fu - 1, by omega⟩
    rw [b_X0_indexOf_3, if_pos (le_l (by omega) (by omega) (by omega))]
    rfl
  | succ m ih =>
    intro fu i hf hi
    obtain ⟨fu, rfl⟩ : ∃ f, fu = f + 1 := ⟨fu - 1, by omega⟩
    rw [b_X0_indexOf_3, if_neg (nle_l (by omega) (by omega) (by omega)), if_neg (show ¬ Int32.ofNat l0 ≤ nI i from nle_l (by omega) (by omega) (by omega)), ix_nI (show i < l0 by omega) (by omega), obq, nmq, nI_1, ih fu (i + 1) (by omega) (by omega), fsF]
    by_cases c : S.2.1 a i = name
    · rw [if_pos (lg0.mpr c), if_pos (decide_eq_true c)]
    · rw [if_neg (fun q => c (lg0.mp q)), if_neg (by simpa using c)]
theorem mN_run {n : Nat} {name : Int64} (hr : RRf Bc S.2.2) (h0 : S.1 Bc 0 = nI n) (hn : n ≤ 4) : f_X0_mermaidNamed Bc name S = some (fsF (fun j => decide (S.2.1 (Bc + 1) j = name)) n 0, S) := by
  unfold f_X0_mermaidNamed f_X0_indexOf
  rw [h0, rr_b5 hr, show (0 : Int32) = nI 0 from rfl, idx_loop hn (by decide) n FU 0 (by show n < 5000; omega) (by omega), bdq]
theorem pN_run {n : Nat} {name : Int64} (hr : RRf Bc S.2.2) (h0 : S.1 Bc 1 = nI n) (hn : n ≤ 6) : f_X0_personNamed Bc name S = some (fsF (fun j => decide (S.2.1 (Bc + 2) j = name)) n 0, S) := by
  unfold f_X0_personNamed f_X0_indexOf
  rw [h0, rr_b6 hr, show (0 : Int32) = nI 0 from rfl, idx_loop hn (by decide) n FU 0 (by show n < 5000; omega) (by omega), bdq]
/-- the names told, in the class -/
def NMc (v : Nat → Int32) (len Bc : Nat) (A : RA) (S : St) : Prop := ∀ k, k < rN A → (rA A k < 10 → S.2.1 (Bc + 1) (rA A k) = Int64.ofNat (vlV v len (rT A k))) ∧ (10 ≤ rA A k → S.2.1 (Bc + 2) (rA A k - 10) = Int64.ofNat (vlV v len (rT A k)))
theorem look_m {A : RA} {i : Nat} (hN : NI v len A) (hm4 : bM (rB A) ≤ 4) (hS : NMc v len Bc A S) (hi : kdT v len i = 21) : fsF (fun j => decide (S.2.1 (Bc + 1) j = Int64.ofNat (vlV v len i))) (bM (rB A)) 0 = oI (lkA v len A 0 i) := by
  refine lk_first (Or.inl rfl) (by omega) rfl hm4 hN (fun k hk _ h10 => ?_)
  show decide (S.2.1 (Bc + 1) (rA A k - 0) = Int64.ofNat (vlV v len i)) = _
  rw [Nat.sub_zero, (hS k hk).1 (by omega), Bool.eq_iff_iff, decide_eq_true_eq]
  exact eqT_c (hN.2.2.1 k hk).2 hi
theorem look_p {A : RA} {i : Nat} (hN : NI v len A) (hm4 : bM (rB A) ≤ 4) (hp6 : bP (rB A) ≤ 6) (hS : NMc v len Bc A S) (hi : kdT v len i = 21) : fsF (fun j => decide (S.2.1 (Bc + 2) j = Int64.ofNat (vlV v len i))) (bP (rB A)) 0 = oI (lkA v len A 10 i) := by
  refine lk_first (Or.inr rfl) hp6 rfl hm4 hN (fun k hk h10 _ => ?_)
  show decide (S.2.1 (Bc + 2) (rA A k - 10) = Int64.ofNat (vlV v len i)) = _
  rw [(hS k hk).2 h10, Bool.eq_iff_iff, decide_eq_true_eq]
  exact eqT_c (hN.2.2.1 k hk).2 hi
theorem dup_c {A : RA} {i : Nat} (hN : NI v len A) (hm4 : bM (rB A) ≤ 4) (hp6 : bP (rB A) ≤ 6) (hS : NMc v len Bc A S) (hi : kdT v len i = 21) : (fsF (fun j => decide (S.2.1 (Bc + 1) j = Int64.ofNat (vlV v len i))) (bM (rB A)) 0 = -1 ∧ fsF (fun j => decide (S.2.1 (Bc + 2) j = Int64.ofNat (vlV v len i))) (bP (rB A)) 0 = -1) ↔ dupA v len A i = false := by
  rw [fsF_m1 _ _ (by omega), fsF_m1 _ _ (by omega)]
  constructor
  · rintro ⟨h1, h2⟩
    cases hd : dupA v len A i with
    | false => rfl
    | true =>
      obtain ⟨k, k1, k2⟩ := dupA_iff.mp hd
      have e := (eqT_c (hN.2.2.1 k k1).2 hi).mpr k2
      rcases (hN.2.2.1 k k1).1 with g | g
      · have := h1 (rA A k) (by omega) (by omega)
        rw [(hS k k1).1 (by omega), e] at this
        simp at this
      · have := h2 (rA A k - 10) (by omega) (by omega)
        rw [(hS k k1).2 (by omega), e] at this
        simp at this
  · intro hd
    have no : ∀ k, k < rN A → eqT v len (rT A k) i = false := fun k hk => by
      cases h : eqT v len (rT A k) i with
      | false => rfl
      | true =>
        have := dupA_iff.mpr ⟨k, hk, h⟩
        rw [hd] at this
        cases this
    refine ⟨fun j _ hj => ?_, fun j _ hj => ?_⟩
    · obtain ⟨k, k1, k2⟩ := hN.1 j (by omega)
      rw [← k2, (hS k k1).1 (by omega), decide_eq_false_iff_not]
      intro q
      have := (eqT_c (hN.2.2.1 k k1).2 hi).mp q
      rw [no k k1] at this
      cases this
    · obtain ⟨k, k1, k2⟩ := hN.2.1 j (by omega)
      have e : j = rA A k - 10 := by omega
      rw [e, (hS k k1).2 (by omega), decide_eq_false_iff_not]
      intro q
      have := (eqT_c (hN.2.2.1 k k1).2 hi).mp q
      rw [no k k1] at this
      cases this
/-- a new name -/
theorem newName_S {st : Stt} {A : RA} (hr : RRf Bc S.2.2) (h : SRc v len st S) (hN : NI v len A) (hm4 : bM (rB A) ≤ 4) (hp6 : bP (rB A) ≤ 6) (h0 : S.1 Bc 0 = nI (bM (rB A))) (h1 : S.1 Bc 1 = nI (bP (rB A))) (hS : NMc v len Bc A S) : ∃ r S', f_X4_takeNewName 30 S = some (r, S') ∧ FY S S' ∧ SRc v len (naS v len (dupA v len A) st) S' ∧ (liv (naS v len (dupA v len A) st) → r = Int64.ofNat (vlV v len (tkn st))) := by
  have hB := hr.1
  unfold f_X4_takeNewName b_X4_takeNewName_41
  obtain ⟨u, S1, e1, hu, f1, s1, t1⟩ := take_S (k := 21) hr h (by decide) (by decide) (by decide)
  have r1 := FY_rr f1 hr
  have hadv : naS v len (dupA v len A) st = mapM (tkS v len 21 st) (fun mk => if dupA v len A (tkn st) then mkS mk 3 (psT v len (tkn st)) else mk) := adv_tk
  have hlv : ∀ t' mk', tkS v len 21 st = .inr (t', mk') → t' = u + 1 ∧ tkn st = u ∧ S1.2.1 34 u = Int64.ofNat (vlV v len u) ∧ kdT v len u = 21 := by
    intro t' mk' q
    obtain ⟨t, mk, a1, a2, a3, a4, a5⟩ := adv_inr q
    have eu := t1 t mk a1
    subst eu
    rw [q] at s1
    have l1 := s1.1
    rw [a4] at l1
    exact ⟨a4, by rw [a1]; rfl, (l1.2.2.2.2.1 u (by omega) hu (fun i hi => l1.2.2.2.1 i (by omega))).2.2 (by omega), a2⟩
  obtain ⟨S2, e2, f2, s2⟩ := mark_S (k := 3) r1 hu (by decide) s1 (fun t mk q => (hlv t mk q).1)
  have g0 : S1.1 Bc 0 = nI (bM (rB A)) := (f1.2 _ _ (by omega)).trans h0
  have g1 : S1.1 Bc 1 = nI (bP (rB A)) := (f1.2 _ _ (by omega)).trans h1
  have gS : NMc v len Bc A S1 := by intro k hk; rw [f1.1]; exact hS k hk
  rw [show (21 : Int32) = nI 21 from rfl, e1, bdq, ix_nI (show u < 401 by omega) (by decide), obq, nmq, rr_300 r1, rr_312 r1, rr_301 r1, mN_run r1 g0 hm4, bdq, rr_301 r1, pN_run r1 g1 hp6, bdq, show (3 : Int32) = nI 3 from rfl, e2, bdq, hadv]
  have both : ∀ X Y : Option (Int64 × St), (if fsF (fun j => decide (S1.2.1 (Bc + 1) j = S1.2.1 34 u)) (bM (rB A)) 0 = -1 then (if fsF (fun j => decide (S1.2.1 (Bc + 2) j = S1.2.1 34 u)) (bP (rB A)) 0 = -1 then X else Y) else Y) = if (fsF (fun j => decide (S1.2.1 (Bc + 1) j = S1.2.1 34 u)) (bM (rB A)) 0 = -1 ∧ fsF (fun j => decide (S1.2.1 (Bc + 2) j = S1.2.1 34 u)) (bP (rB A)) 0 = -1) then X else Y := by
    intro X Y
    by_cases c1 : fsF (fun j => decide (S1.2.1 (Bc + 1) j = S1.2.1 34 u)) (bM (rB A)) 0 = -1
    · rw [if_pos c1]
      by_cases c2 : fsF (fun j => decide (S1.2.1 (Bc + 2) j = S1.2.1 34 u)) (bP (rB A)) 0 = -1
      · rw [if_pos c2, if_pos ⟨c1, c2⟩]
      · rw [if_neg c2, if_neg (fun q => c2 q.2)]
    · rw [if_neg c1, if_neg (fun q => c1 q.1)]
  rw [both]
  have rl : ∀ (hl : liv (mapM (tkS v len 21 st) (fun mk => if dupA v len A (tkn st) then mkS mk 3 (psT v len (tkn st)) else mk))), S1.2.1 34 u = Int64.ofNat (vlV v len (tkn st)) := by
    intro hl
    cases hst : tkS v len 21 st with
    | inl e => rw [hst] at hl; exact absurd hl not_liv
    | inr w =>
      obtain ⟨t', mk'⟩ := w
      obtain ⟨b1, b2, b3, b4⟩ := hlv t' mk' hst
      rw [b3, b2]
  by_cases c : fsF (fun j => decide (S1.2.1 (Bc + 1) j = S1.2.1 34 u)) (bM (rB A)) 0 = -1 ∧ fsF (fun j => decide (S1.2.1 (Bc + 2) j = S1.2.1 34 u)) (bP (rB A)) 0 = -1
  · rw [if_pos c]
    refine ⟨_, S1, rfl, f1, ?_, rl⟩
    cases hst : tkS v len 21 st with
    | inl e => rw [hst] at s1; exact s1
    | inr w =>
      obtain ⟨t', mk'⟩ := w
      obtain ⟨b1, b2, b3, b4⟩ := hlv t' mk' hst
      rw [b3] at c
      have hd := (dup_c hN hm4 hp6 gS b4).mp c
      rw [hst] at s1
      show SRc v len (.inr (t', if dupA v len A (tkn st) = true then mkS mk' 3 (psT v len (tkn st)) else mk')) S1
      rw [b2, if_neg (by rw [hd]; decide)]
      exact s1
  · rw [if_neg c]
    refine ⟨_, S2, rfl, f1.tr f2, ?_, rl⟩
    cases hst : tkS v len 21 st with
    | inl e => rw [hst] at s2; exact s2
    | inr w =>
      obtain ⟨t', mk'⟩ := w
      obtain ⟨b1, b2, b3, b4⟩ := hlv t' mk' hst
      rw [b3] at c
      have hd : dupA v len A u = true := by
        cases hh : dupA v len A u with
        | true => rfl
        | false => exact absurd ((dup_c hN hm4 hp6 gS b4).mpr hh) c
      rw [hst] at s2
      show SRc v len (.inr (t', if dupA v len A (tkn st) = true then mkS mk' 3 (psT v len (tkn st)) else mk')) S2
      rw [b2, if_pos hd]
      exact s2
end CST

/-! a term: codes behind one another; its value by a stack -/
def opA (c : Nat) (x y : Int32) : Int32 := if c = 20042 then x * y else if c = 20043 then x + y else if c = 20045 then x - y else x / y
def okT (c : Nat) : Prop := c < 10009 ∨ c = 20042 ∨ c = 20043 ∨ c = 20045 ∨ c = 20047
def wfd : List Nat → Nat → Prop
  | [], d => d = 1
  | c :: cs, d => okT c ∧ if c < 20000 then d < 15 ∧ wfd cs (d + 1) else 2 ≤ d ∧ wfd cs (d - 1)
/-- as the class does it: a division by 0 gives 0 and is kept in mind -/
def evc (vars : Nat → Int32) : List Nat → List Int32 → Bool → List Int32 × Bool
  | [], st, b => (st, b)
  | c :: cs, st, b => if c < 10000 then evc vars cs (nI c :: st) b else if c < 20000 then evc vars cs (vars (c - 10000) :: st) b else match st with
    | y :: x :: r => if c = 20047 ∧ y = 0 then evc vars cs (0 :: r) true else evc vars cs (opA c x y :: r) b
    | st => evc vars cs st b
/-- as the document says it: none, if something is divided by 0 -/
def ev (vars : Nat → Int32) : List Nat → List Int32 → Option (List Int32)
  | [], st => some st
  | c :: cs, st => if c < 10000 then ev vars cs (nI c :: st) else if c < 20000 then ev vars cs (vars (c - 10000) :: st) else match st with
    | y :: x :: r => if c = 20047 ∧ y = 0 then none else ev vars cs (opA c x y :: r)
    | st => ev vars cs st
theorem evc_i {vars : Nat → Int32} {c : Nat} {cs : List Nat} {st : List Int32} {b : Bool} (h : c < 10000) : evc vars (c :: cs) st b = evc vars cs (nI c :: st) b := by
  conv => lhs; unfold evc
  rw [if_pos h]
theorem evc_v {vars : Nat → Int32} {c : Nat} {cs : List Nat} {st : List Int32} {b : Bool} (h : ¬ c < 10000) (h2 : c < 20000) : evc vars (c :: cs) st b = evc vars cs (vars (c - 10000) :: st) b := by
  conv => lhs; unfold evc
  rw [if_neg h, if_pos h2]
theorem evc_o {vars : Nat → Int32} {c : Nat} {cs : List Nat} {r : List Int32} {x y : Int32} {b : Bool} (h2 : ¬ c < 20000) : evc vars (c :: cs) (y :: x :: r) b = if c = 20047 ∧ y = 0 then evc vars cs (0 :: r) true else evc vars cs (opA c x y :: r) b := by
  conv => lhs; unfold evc
  rw [if_neg (by omega), if_neg h2]
theorem evc_true {vars : Nat → Int32} : ∀ (cs : List Nat) (st : List Int32), (evc vars cs st true).2 = true
  | [], _ => rfl
  | c :: cs, st => by
    unfold evc
    split
    · exact evc_true cs _
    · split
      · exact evc_true cs _
      · split
        · split
          · exact evc_true cs _
          · exact evc_true cs _
        · exact evc_true cs _
theorem evc_ev {vars : Nat → Int32} : ∀ (cs : List Nat) (st : List Int32) (b : Bool), (∀ st', ev vars cs st = some st' → evc vars cs st b = (st', b)) ∧ (ev vars cs st = none → (evc vars cs st b).2 = true)
  | [], st, b => ⟨fun st' h => by cases h; rfl, fun h => by cases h⟩
  | c :: cs, st, b => by
    unfold ev evc
    split
    · exact evc_ev cs _ b
    · split
      · exact evc_ev cs _ b
      · split
        · split
          · exact ⟨fun st' h => (by cases h), fun _ => evc_true cs _⟩
          · exact evc_ev cs _ b
        · exact evc_ev cs _ b
def flI (b : Bool) : Int32 := if b then 1 else 0
def SK (cell : Nat) (st : List Int32) (S : St) : Prop := ∀ (j : Nat) (v : Int32), st[j]? = some v → S.1 cell (st.length - 1 - j) = v
def CDs (cell i : Nat) (cs : List Nat) (S : St) : Prop := ∀ (j c : Nat), cs[j]? = some c → S.1 cell (i + j) = nI c
theorem SK_push {cell : Nat} {st : List Int32} {S : St} {v : Int32} (h : SK cell st S) : SK cell (v :: st) (sI S cell st.length v) := by
  intro j u hj
  rw [sI_1]
  cases j with
  | zero =>
    have : v = u := by simpa using hj
    subst this
    rw [if_pos ⟨rfl, by simp⟩]
  | succ j =>
    have hj' : st[j]? = some u := by simpa using hj
    have hlt : j < st.length := (List.getElem?_eq_some_iff.mp hj').1
    rw [if_neg (fun q => by have := q.2; simp at this; omega), show (v :: st).length - 1 - (j + 1) = st.length - 1 - j by simp; omega]
    exact h j u hj'
theorem SK_tail2 {cell : Nat} {r : List Int32} {x y : Int32} {S : St} (h : SK cell (y :: x :: r) S) : SK cell r S := by
  intro j u hj
  have hlt : j < r.length := (List.getElem?_eq_some_iff.mp hj).1
  have := h (j + 2) u (by simpa using hj)
  rw [show (y :: x :: r).length - 1 - (j + 2) = r.length - 1 - j by simp; omega] at this
  exact this
theorem CDs_tl {cell i c : Nat} {cs : List Nat} {S : St} (h : CDs cell i (c :: cs) S) : CDs cell (i + 1) cs S := by
  intro j d hj
  have := h (j + 1) d (by simpa using hj)
  rw [show i + (j + 1) = i + 1 + j by omega] at this
  exact this
theorem CDs_set {cell i : Nat} {cs : List Nat} {S S' : St} (h : CDs cell i cs S) (he : ∀ k, S'.1 cell k = S.1 cell k) : CDs cell i cs S' := fun j c hj => (he _).trans (h j c hj)
theorem ix_m1 {n : Nat} (h : 1 ≤ n) (hn : n ≤ 400) {m : Nat} (hm : n ≤ m) (hm2 : m < 2 ^ 31) : ix (nI n + -1) m = some (n - 1) := by
  rw [show nI n + -1 = nI (n - 1) by rw [show n = (n - 1) + 1 by omega, pk_m1]; simp]
  exact ix_nI (by omega) hm2
theorem m1_eq {n : Nat} (h : 1 ≤ n) : nI n + -1 = nI (n - 1) := by rw [show n = (n - 1) + 1 by omega, pk_m1]; simp
theorem s1_eq {n : Nat} (h : 1 ≤ n) : nI n - 1 = nI (n - 1) := by rw [show n = (n - 1) + 1 by omega, nI_pred]; simp
theorem lt_l {a b : Nat} (ha : a < 2 ^ 31) (hb : b < 2 ^ 31) (h : a < b) : nI a < nI b := (nI_ltI ha hb).mpr h
theorem nlt_l {a b : Nat} (ha : a < 2 ^ 31) (hb : b < 2 ^ 31) (h : b ≤ a) : ¬ nI a < nI b := fun q => by have := (nI_ltI ha hb).mp q; omega
theorem le_l {a b : Nat} (ha : a < 2 ^ 31) (hb : b < 2 ^ 31) (h : a ≤ b) : nI a ≤ nI b := (nI_leI ha hb).mpr h
theorem nle_l {a b : Nat} (ha : a < 2 ^ 31) (hb : b < 2 ^ 31) (h : b < a) : ¬ nI a ≤ nI b := fun q => by have := (nI_leI ha hb).mp q; omega
section LAW
variable {lw : Nat} {vars : Nat → Int32}
theorem joined_run {S : St} {c : Nat} (hc : c = 20042 ∨ c = 20043 ∨ c = 20045 ∨ c = 20047) (x y : Int32) : f_X2_joined lw (nI c - 20000) x y S = some (if c = 20047 ∧ y = 0 then (0, sI S lw 6 1) else (opA c x y, S)) := by
  unfold f_X2_joined opA
  rcases hc with rfl | rfl | rfl | rfl
  · rw [if_pos (show nI 20042 - 20000 = 42 by decide), if_neg (by omega), if_pos rfl]
  · rw [if_neg (show ¬ nI 20043 - 20000 = 42 by decide), if_pos (show nI 20043 - 20000 = 43 by decide), if_neg (by omega), if_neg (by decide), if_pos rfl]
  · rw [if_neg (show ¬ nI 20045 - 20000 = 42 by decide), if_neg (show ¬ nI 20045 - 20000 = 43 by decide), if_pos (show nI 20045 - 20000 = 45 by decide), if_neg (by omega), if_neg (by decide), if_neg (by decide), if_pos rfl]
  · rw [if_neg (show ¬ nI 20047 - 20000 = 42 by decide), if_neg (show ¬ nI 20047 - 20000 = 43 by decide), if_neg (show ¬ nI 20047 - 20000 = 45 by decide)]
    by_cases hy : y = 0
    · rw [if_pos hy, if_pos ⟨rfl, hy⟩, nm_eq]
    · rw [if_neg hy, if_neg hy, if_neg (fun q => hy q.2), if_neg (by decide), if_neg (by decide), if_neg (by decide)]
theorem val_loop (hl : lw + 5 < 2 ^ 31) {en : Nat} (hen : en ≤ 404) {g : (Nat → Nat → Int64) × (Nat → Nat → Nat)} (hr0 : g.2 lw 0 = lw + 1) (hr1 : g.2 lw 1 = lw + 2) (hr5 : g.2 lw 5 = lw + 5) : ∀ (cs : List Nat) (fu i : Nat) (st : List Int32) (b : Bool) (S : St), cs.length < fu → i + cs.length = en → wfd cs st.length → st.length ≤ 15 → S.2 = g → CDs (lw + 2) i cs S → SK (lw + 5) st S → S.1 lw 6 = flI b → (∀ k, k < 9 → S.1 (lw + 1) k = vars k) → RN (b_X2_valueOf_42 fu lw (nI en) (nI st.length) (nI i) S) (fun r S' => (evc vars cs st b).1 = [r] ∧ S'.1 lw 6 = flI (evc vars cs st b).2 ∧ S'.2 = g ∧ ∀ a k, a ≠ lw + 5 → (a = lw → k ≠ 6) → S'.1 a k = S.1 a k)
  | _, 0, _, _, _, _, h, _, _, _, _, _, _, _, _ => absurd h (Nat.not_lt_zero _)
  | [], fu + 1, i, st, b, S, _, hi, hw, _, hg, _, hk, hb, _ => by
    have hi : i = en := by simpa using hi
    have hw : st.length = 1 := hw
    subst hi
    rw [b_X2_valueOf_42, if_pos (le_l (by omega) (by omega) (Nat.le_refl _)), b_X2_valueOf_177, show ix (0 : Int32) 15 = some 0 by decide, Option.bind_some, hg, hr5]
    match st, hw with
    | [v], _ =>
      refine RN_some ⟨?_, hb, hg, fun _ _ _ _ => rfl⟩
      have := hk 0 v rfl
      show [v] = [_]
      rw [show S.1 (lw + 5) 0 = v from this]
  | c :: cs, fu + 1, i, st, b, S, hf, hi, hw, h15, hg, hc, hk, hb, hv => by
    have hi' : i + cs.length + 1 = en := by simpa [Nat.add_assoc] using hi
    have hf' : cs.length < fu := by simpa using hf
    obtain ⟨hok, hw⟩ := hw
    have hc0 : S.1 (lw + 2) i = nI c := hc 0 c rfl
    have hc20 : c < 20048 := by unfold okT at hok; omega
    rw [b_X2_valueOf_42, if_neg (nle_l (by omega) (by omega) (by omega)), if_neg (show ¬ Int32.ofNat 404 ≤ nI i from nle_l (a := 404) (by omega) (by omega) (by omega)), ix_nI (by omega) (by decide), Option.bind_some, nm_eq, hg, hr1, hc0]
    by_cases h2 : c < 20000
    · rw [if_pos h2] at hw
      rw [if_pos (show nI c < 20000 from lt_l (b := 20000) (by omega) (by omega) h2)]
      unfold b_X2_valueOf_122
      rw [if_neg (show ¬ (20000 : Int32) ≤ nI c from nle_l (a := 20000) (by omega) (by omega) h2), if_neg (show ¬ (15 : Int32) ≤ nI st.length from nle_l (a := 15) (by omega) (by omega) hw.1)]
      have push : ∀ v : Int32, RN (b_X2_valueOf_167 (b_X2_valueOf_42 fu) lw (nI en) (nI st.length) (nI i) (lw + 5) (nI st.length) v S) (fun r S' => (evc vars cs (v :: st) b).1 = [r] ∧ S'.1 lw 6 = flI (evc vars cs (v :: st) b).2 ∧ S'.2 = g ∧ ∀ a k, a ≠ lw + 5 → (a = lw → k ≠ 6) → S'.1 a k = S.1 a k) := by
        intro v
        unfold b_X2_valueOf_167 b_X2_valueOf_171
        rw [ix_nI (by omega) (by decide), Option.bind_some, nm_eq, nm_eq, nm_eq, nI_1, nI_1]
        have ih := val_loop hl hen hr0 hr1 hr5 cs fu (i + 1) (v :: st) b (sI S (lw + 5) st.length v) hf' (by omega) (by simpa using hw.2) (by simp; omega) hg (CDs_set (CDs_tl hc) (fun k => by rw [sI_1, if_neg (by omega)])) (SK_push hk) (by rw [sI_1, if_neg (by omega)]; exact hb) (fun k hk9 => by rw [sI_1, if_neg (by omega)]; exact hv k hk9)
        refine RN_mono ih (fun r S' h => ⟨h.1, h.2.1, h.2.2.1, fun a k ha hak => (h.2.2.2 a k ha hak).trans (by rw [sI_1, if_neg (fun q => ha q.1)])⟩)
      by_cases h1 : c < 10000
      · rw [if_pos (show nI c < 10000 from lt_l (b := 10000) (by omega) (by omega) h1), hg, hr5]
        have e : evc vars (c :: cs) st b = evc vars cs (nI c :: st) b := evc_i h1
        rw [e]
        exact push (nI c)
      · rw [if_neg (show ¬ nI c < 10000 from nlt_l (b := 10000) (by omega) (by omega) (by omega)), show nI c - 10000 = nI (c - 10000) from pk_sub (b := 10000) (by omega), ix_nI (by unfold okT at hok; omega) (by decide), Option.bind_some, hg, hr5, hr0, hv _ (by unfold okT at hok; omega)]
        have e : evc vars (c :: cs) st b = evc vars cs (vars (c - 10000) :: st) b := evc_v h1 h2
        rw [e]
        exact push _
    · rw [if_neg h2] at hw
      match st, hw, h15, hk with
      | y :: x :: r, hw, h15, hk =>
        have hlen : (y :: x :: r).length = r.length + 2 := rfl
        have hr15 : r.length + 2 ≤ 15 := h15
        have hy : S.1 (lw + 5) (r.length + 1) = y := hk 0 y rfl
        have hx : S.1 (lw + 5) r.length = x := hk 1 x rfl
        have hc4 : c = 20042 ∨ c = 20043 ∨ c = 20045 ∨ c = 20047 := by unfold okT at hok; omega
        rw [hlen, if_neg (show ¬ nI c < 20000 from nlt_l (b := 20000) (by omega) (by omega) (by omega)), if_neg (show ¬ nI (r.length + 2) < 2 from nlt_l (b := 2) (by omega) (by omega) (by omega)), nm_eq, m1_eq (by omega), show r.length + 2 - 1 = r.length + 1 by omega, s1_eq (by omega), show r.length + 1 - 1 = r.length by omega, ix_nI (show r.length < 15 by omega) (by decide), ix_nI (show r.length + 1 < 15 by omega) (by decide), Option.bind_some, Option.bind_some, hr5, hx, hy, joined_run hc4 x y]
        simp only [Option.bind_some]
        have fin : ∀ (v : Int32) (S1 : St) (b1 : Bool), S1.2 = g → (∀ a k, (a = lw → k ≠ 6) → S1.1 a k = S.1 a k) → S1.1 lw 6 = flI b1 → RN (b_X2_valueOf_171 (b_X2_valueOf_42 fu) lw (nI en) (nI (r.length + 1)) (nI i) (sI S1 (lw + 5) r.length v)) (fun r' S' => (evc vars cs (v :: r) b1).1 = [r'] ∧ S'.1 lw 6 = flI (evc vars cs (v :: r) b1).2 ∧ S'.2 = g ∧ ∀ a k, a ≠ lw + 5 → (a = lw → k ≠ 6) → S'.1 a k = S.1 a k) := by
          intro v S1 b1 hg1 hs1 hb1
          unfold b_X2_valueOf_171
          rw [nm_eq, nI_1]
          have hkr : SK (lw + 5) r S1 := fun j u hj => (hs1 _ _ (fun q => absurd q (by omega))).trans (SK_tail2 hk j u hj)
          have ih := val_loop hl hen hr0 hr1 hr5 cs fu (i + 1) (v :: r) b1 (sI S1 (lw + 5) r.length v) hf' (by omega) (by have := hw.2; rw [hlen] at this; simpa using this) (by simp; omega) hg1 (CDs_set (CDs_tl hc) (fun k => by rw [sI_1, if_neg (by omega)]; exact hs1 _ _ (fun q => absurd q (by omega)))) (SK_push hkr) (by rw [sI_1, if_neg (by omega)]; exact hb1) (fun k hk9 => by rw [sI_1, if_neg (by omega)]; exact (hs1 _ _ (fun q => absurd q (by omega))).trans (hv k hk9))
          exact RN_mono ih (fun r' S' h => ⟨h.1, h.2.1, h.2.2.1, fun a k ha hak => (h.2.2.2 a k ha hak).trans (by rw [sI_1, if_neg (fun q => ha q.1)]; exact hs1 a k hak)⟩)
        have e : evc vars (c :: cs) (y :: x :: r) b = if c = 20047 ∧ y = 0 then evc vars cs (0 :: r) true else evc vars cs (opA c x y :: r) b := evc_o h2
        rw [e]
        by_cases h0 : c = 20047 ∧ y = 0
        · rw [if_pos h0, if_pos h0, bd_some, nm_eq]
          exact fin 0 _ true hg (fun a k ha => by rw [sI_1, if_neg (fun q => ha q.1 q.2)]) (by rw [sI_1, if_pos ⟨rfl, rfl⟩]; rfl)
        · rw [if_neg h0, if_neg h0, bd_some, nm_eq]
          exact fin _ S b hg (fun _ _ _ => rfl) hb
      | [], hw, _, _ => exact absurd hw.1 (by simp)
      | [_], hw, _, _ => exact absurd hw.1 (by simp)
end LAW

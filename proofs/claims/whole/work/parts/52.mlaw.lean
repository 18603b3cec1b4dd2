/-! the reference's terms and laws -/
def mk1 (c : Nat) : Nat := if c < 10000 then 0 else if c < 20000 then 1 else if c = 20043 then 2 else if c = 20045 then 3 else if c = 20042 then 4 else 5
def CDm (i : Nat) (cs : List Nat) (S : St) : Prop := ∀ (j c : Nat), cs[j]? = some c → S.1 169 (i + j) = nI (mk1 c) ∧ (c < 20000 → S.1 170 (i + j) = nI (if c < 10000 then c else c - 10000))
theorem CDm_tl {i c : Nat} {cs : List Nat} {S : St} (h : CDm i (c :: cs) S) : CDm (i + 1) cs S := by
  intro j d hj
  have := h (j + 1) d (by simpa using hj)
  rw [show i + (j + 1) = i + 1 + j by omega] at this
  exact this
theorem CDm_set {i : Nat} {cs : List Nat} {S S' : St} (h : CDm i cs S) (h1 : ∀ k, S'.1 169 k = S.1 169 k) (h2 : ∀ k, S'.1 170 k = S.1 170 k) : CDm i cs S' := fun j c hj => ⟨(h1 _).trans (h j c hj).1, fun hc => (h2 _).trans ((h j c hj).2 hc)⟩
theorem ev_i {vars : Nat → Int32} {c : Nat} {cs : List Nat} {st : List Int32} (h : c < 10000) : ev vars (c :: cs) st = ev vars cs (nI c :: st) := by
  conv => lhs; unfold ev
  rw [if_pos h]
theorem ev_v {vars : Nat → Int32} {c : Nat} {cs : List Nat} {st : List Int32} (h : ¬ c < 10000) (h2 : c < 20000) : ev vars (c :: cs) st = ev vars cs (vars (c - 10000) :: st) := by
  conv => lhs; unfold ev
  rw [if_neg h, if_pos h2]
theorem ev_o {vars : Nat → Int32} {c : Nat} {cs : List Nat} {r : List Int32} {x y : Int32} (h2 : ¬ c < 20000) : ev vars (c :: cs) (y :: x :: r) = if c = 20047 ∧ y = 0 then none else ev vars cs (opA c x y :: r) := by
  conv => lhs; unfold ev
  rw [if_neg (by omega), if_neg h2]
section MLAW
variable {B B1 C : Nat} {vars : Nat → Int32} {g : (Nat → Nat → Int64) × (Nat → Nat → Nat)}
/-- nothing is changed but the pile and the flag -/
def M0 (S S' : St) : Prop := S'.2 = S.2 ∧ ∀ a k, a ≠ 173 → (a = 140 → k ≠ 50) → S'.1 a k = S.1 a k
theorem M0.rf {S : St} : M0 S S := ⟨rfl, fun _ _ _ _ => rfl⟩
theorem M0.tr {S S' S'' : St} (h : M0 S S') (h' : M0 S' S'') : M0 S S'' := ⟨h'.1.trans h.1, fun a k h1 h2 => (h'.2 a k h1 h2).trans (h.2 a k h1 h2)⟩
theorem M0.vs {S S' : St} (h : M0 S S') (hv : ∀ i, i < 9 → S.1 172 i = vars i) : ∀ i, i < 9 → S'.1 172 i = vars i := fun i hi => (h.2 _ _ (by omega) (by omega)).trans (hv i hi)
theorem mop_run {q5 : Nat → Int32 → Int32 → Int32 → St → Option (Int32 × St)} {S : St} (hr : S.2.2 = RB B B1 C) {c : Nat} (hc : c = 20042 ∨ c = 20043 ∨ c = 20045 ∨ c = 20047) {x y : Int32} (h0 : ¬ (c = 20047 ∧ y = 0)) {n : Nat} (hn : n < 400) {en i : Nat} : b_X10_termOf_104 q5 140 (nI en) (nI (n + 1)) (nI i) (nI (mk1 c)) x y S = q5 140 (nI en) (nI (n + 1)) (nI (i + 1)) (sI S 173 n (opA c x y)) := by
  unfold b_X10_termOf_104 b_X10_termOf_158 b_X10_termOf_159 opA
  rw [hr, rb_140_49, s1_eq (by omega), show n + 1 - 1 = n by omega, ix_nI hn (by decide)]
  simp only [Option.bind_some, nm_eq, nI_1]
  rcases hc with rfl | rfl | rfl | rfl
  · rw [if_neg (show ¬ nI (mk1 20042) = 2 by decide), if_neg (show ¬ nI (mk1 20042) = 3 by decide), if_pos (show nI (mk1 20042) = 4 by decide)]
    simp
  · rw [if_pos (show nI (mk1 20043) = 2 by decide)]
    simp
  · rw [if_neg (show ¬ nI (mk1 20045) = 2 by decide), if_pos (show nI (mk1 20045) = 3 by decide)]
    simp
  · rw [if_neg (show ¬ nI (mk1 20047) = 2 by decide), if_neg (show ¬ nI (mk1 20047) = 3 by decide), if_neg (show ¬ nI (mk1 20047) = 4 by decide), if_neg (fun q => h0 ⟨rfl, q⟩)]
    simp
theorem term_loop {en : Nat} (hen : en ≤ 840) (hr : g.2 = RB B B1 C) : ∀ (cs : List Nat) (fu i : Nat) (st : List Int32) (S : St), cs.length < fu → i + cs.length = en → wfd cs st.length → st.length ≤ 15 → S.2 = g → CDm i cs S → SK 173 st S → (∀ k, k < 9 → S.1 172 k = vars k) → RN (b_X10_termOf_5 fu 140 (nI en) (nI st.length) (nI i) S) (fun r S' => (∀ st', ev vars cs st = some st' → st' = [r] ∧ S'.1 140 50 = S.1 140 50) ∧ (ev vars cs st = none → S'.1 140 50 = 1 ∧ r = 0) ∧ M0 S S') := by
  intro cs
  induction cs with
  | nil =>
    intro fu i st S hf hi hw _ hg _ hk _
    obtain ⟨fu, rfl⟩ : ∃ f, fu = f + 1 := ⟨fu - 1, by simp at hf; omega⟩
    have hi : i = en := by simpa using hi
    have hw : st.length = 1 := hw
    subst hi
    rw [b_X10_termOf_5, if_pos (le_l (by omega) (by omega) (Nat.le_refl _)), show ix (0 : Int32) 400 = some 0 by decide, Option.bind_some, hg, rm_49 hr]
    match st, hw with
    | [v], _ =>
      have h0 : S.1 173 0 = v := hk 0 v rfl
      refine RN_some ⟨fun st' h => ?_, fun h => ?_, M0.rf⟩
      · have h : some [v] = some st' := h
        cases h
        rw [h0]
        exact ⟨rfl, rfl⟩
      · have h : some [v] = none := h
        cases h
  | cons c cs IH =>
    intro fu i st S hf hi hw h15 hg hc hk hv
    obtain ⟨fu, rfl⟩ : ∃ f, fu = f + 1 := ⟨fu - 1, by simp at hf; omega⟩
    have hi' : i + cs.length + 1 = en := by simpa [Nat.add_assoc] using hi
    have hf' : cs.length < fu := by simpa using hf
    obtain ⟨hok, hw⟩ := hw
    obtain ⟨hc0, hc1⟩ := hc 0 c rfl
    rw [Nat.add_zero] at hc0 hc1
    have hrS : S.2.2 = RB B B1 C := by rw [hg, hr]
    have hix : ix (nI i) 840 = some i := ix_nI (by omega) (by decide)
    rw [b_X10_termOf_5, if_neg (nle_l (by omega) (by omega) (by omega)), hix, Option.bind_some, nm_eq, rm_44 hrS, hc0]
    by_cases h2 : c < 20000
    · rw [if_pos h2] at hw
      have push : ∀ v : Int32, RN (b_X10_termOf_58 (b_X10_termOf_5 fu) 140 (nI en) (nI st.length) (nI i) 173 (nI st.length) v S) (fun r S' => (∀ st', ev vars cs (v :: st) = some st' → st' = [r] ∧ S'.1 140 50 = S.1 140 50) ∧ (ev vars cs (v :: st) = none → S'.1 140 50 = 1 ∧ r = 0) ∧ M0 S S') := by
        intro v
        unfold b_X10_termOf_58 b_X10_termOf_159
        rw [ix_nI (by omega) (by decide), Option.bind_some, nm_eq, nm_eq, nm_eq, nI_1, nI_1]
        have ih := IH fu (i + 1) (v :: st) (sI S 173 st.length v) hf' (by omega) (by simpa using hw.2) (by simp; omega) hg (CDm_set (CDm_tl hc) (fun k => sI_ne (by omega)) (fun k => sI_ne (by omega))) (SK_push hk) (fun k hk9 => (sI_ne (by omega)).trans (hv k hk9))
        refine RN_mono ih (fun r S' h => ⟨fun st' hs => ⟨(h.1 st' hs).1, (h.1 st' hs).2.trans (sI_ne (by omega))⟩, h.2.1, ⟨h.2.2.1, fun a k ha hak => (h.2.2.2 a k ha hak).trans (sI_ne (Or.inl ha))⟩⟩)
      by_cases h1 : c < 10000
      · have e0 : mk1 c = 0 := by unfold mk1; rw [if_pos h1]
        rw [e0, if_neg (show ¬ (2 : Int32) ≤ nI 0 by decide), if_pos (show nI 0 = 0 by decide), Option.bind_some, rm_49 hrS, rm_45 hrS, hc1 h2, if_pos h1, ev_i h1]
        exact push (nI c)
      · have e0 : mk1 c = 1 := by unfold mk1; rw [if_neg h1, if_pos h2]
        have hc9 : c < 10009 := by unfold okT at hok; omega
        rw [e0, if_neg (show ¬ (2 : Int32) ≤ nI 1 by decide), if_neg (show ¬ nI 1 = 0 by decide), Option.bind_some, rm_49 hrS, rm_45 hrS, rm_48 hrS, hc1 h2, if_neg h1, ix_nI (by omega) (by decide), Option.bind_some, hv _ (by omega), ev_v h1 h2]
        exact push _
    · rw [if_neg h2] at hw
      match st, hw, h15, hk with
      | y :: x :: r, hw, h15, hk =>
        have hlen : (y :: x :: r).length = r.length + 2 := rfl
        have hr15 : r.length + 2 ≤ 15 := h15
        have hy : S.1 173 (r.length + 1) = y := hk 0 y rfl
        have hx : S.1 173 r.length = x := hk 1 x rfl
        have hc4 : c = 20042 ∨ c = 20043 ∨ c = 20045 ∨ c = 20047 := by unfold okT at hok; omega
        have hge : (2 : Int32) ≤ nI (mk1 c) := by rcases hc4 with rfl | rfl | rfl | rfl <;> decide
        rw [if_pos hge, hlen, nm_eq, m1_eq (by omega), show r.length + 2 - 1 = r.length + 1 by omega, s1_eq (by omega), show r.length + 1 - 1 = r.length by omega, ix_nI (show r.length < 400 by omega) (by decide), ix_nI (show r.length + 1 < 400 by omega) (by decide), Option.bind_some, nm_eq, Option.bind_some, nm_eq, rm_49 hrS, hx, hy, ev_o h2]
        have fin : ¬ (c = 20047 ∧ y = 0) → RN (b_X10_termOf_104 (b_X10_termOf_5 fu) 140 (nI en) (nI (r.length + 1)) (nI i) (nI (mk1 c)) x y S) (fun r' S' => (∀ st', ev vars cs (opA c x y :: r) = some st' → st' = [r'] ∧ S'.1 140 50 = S.1 140 50) ∧ (ev vars cs (opA c x y :: r) = none → S'.1 140 50 = 1 ∧ r' = 0) ∧ M0 S S') := by
          intro h0
          rw [mop_run hrS hc4 h0 (by omega)]
          have ih := IH fu (i + 1) (opA c x y :: r) (sI S 173 r.length (opA c x y)) hf' (by omega) (by have := hw.2; rw [hlen] at this; simpa using this) (by simp; omega) hg (CDm_set (CDm_tl hc) (fun k => sI_ne (by omega)) (fun k => sI_ne (by omega))) (SK_push (SK_tail2 hk)) (fun k hk9 => (sI_ne (by omega)).trans (hv k hk9))
          exact RN_mono ih (fun r' S' h => ⟨fun st' hs => ⟨(h.1 st' hs).1, (h.1 st' hs).2.trans (sI_ne (by omega))⟩, h.2.1, ⟨h.2.2.1, fun a k ha hak => (h.2.2.2 a k ha hak).trans (sI_ne (Or.inl ha))⟩⟩)
        by_cases h5 : c = 20047
        · rw [if_pos (by rw [h5]; decide)]
          by_cases hy0 : y = 0
          · rw [if_pos hy0, if_pos ⟨h5, hy0⟩, nm_eq]
            exact RN_some ⟨fun _ h => (by cases h), fun _ => ⟨sI_at, rfl⟩, ⟨rfl, fun a k h1 h2 => sI_ne (by omega)⟩⟩
          · rw [if_neg hy0, if_neg (fun q => hy0 q.2)]
            exact fin (fun q => hy0 q.2)
        · have h5' : ¬ nI (mk1 c) = 5 := by rcases hc4 with rfl | rfl | rfl | rfl <;> first | decide | exact absurd rfl h5
          rw [if_neg h5', if_neg (fun q => h5 q.1)]
          exact fin (fun q => h5 q.1)
      | [], hw, _, _ => exact absurd hw.1 (by simp)
      | [_], hw, _, _ => exact absurd hw.1 (by simp)
theorem term_run {p : Nat} {c : List Nat} {S : St} (hg : S.2 = g) (hr : g.2 = RB B B1 C) (hp : p + c.length ≤ 840) (hc : CDm p c S) (hw : wfd c 0) (hv : ∀ i, i < 9 → S.1 172 i = vars i) : RN (f_X10_termOf 140 (nI p) (nI (p + c.length)) S) (fun r S' => (∀ v, evT vars c = some v → r = v ∧ S'.1 140 50 = S.1 140 50) ∧ (evT vars c = none → S'.1 140 50 = 1 ∧ r = 0) ∧ M0 S S') := by
  unfold f_X10_termOf
  refine RN_mono (term_loop (vars := vars) hp hr c FU p [] S (by unfold FU; omega) rfl hw (by simp) hg hc (fun j v h => by simp at h) hv) (fun r S' h => ?_)
  refine ⟨fun v hvv => ?_, fun hn => ?_, h.2.2⟩
  · unfold evT at hvv
    split at hvv
    next v' tl hev =>
      have h3 := h.1 _ hev
      cases hvv
      have h4 := h3.1
      cases h4
      exact ⟨rfl, h3.2⟩
    next => cases hvv
  · unfold evT at hn
    split at hn
    next => cases hn
    next hno =>
      cases hev : ev vars c [] with
      | none => exact h.2.1 hev
      | some st' => exact absurd ((h.1 _ hev).1 ▸ hev) (hno r [])
/-- the branches from b on are those of a law -/
def BRs : List (List Nat × List Nat × List Nat) → List Nat → Nat → St → Prop
  | [], f, b, S => S.1 164 b = 0 ∧ ∃ p, S.1 167 b = nI p ∧ S.1 168 b = nI (p + f.length) ∧ p + f.length ≤ 840 ∧ CDm p f S
  | (x, y, z) :: ts, f, b, S => S.1 164 b = 1 ∧ (∃ p, S.1 165 b = nI p ∧ S.1 166 b = nI (p + x.length) ∧ S.1 167 b = nI (p + x.length + y.length) ∧ S.1 168 b = nI (p + x.length + y.length + z.length) ∧ p + x.length + y.length + z.length ≤ 840 ∧ CDm p x S ∧ CDm (p + x.length) y S ∧ CDm (p + x.length + y.length) z S) ∧ BRs ts f (b + 1) S
theorem BRs_set : ∀ {ts : List (List Nat × List Nat × List Nat)} {f : List Nat} {b : Nat} {S S' : St}, BRs ts f b S → (∀ a i, 164 ≤ a → a ≤ 170 → S'.1 a i = S.1 a i) → BRs ts f b S'
  | [], f, b, S, S', h, hs => by
    obtain ⟨h1, p, h2, h3, h4, h5⟩ := h
    exact ⟨(hs _ _ (by omega) (by omega)).trans h1, p, (hs _ _ (by omega) (by omega)).trans h2, (hs _ _ (by omega) (by omega)).trans h3, h4, CDm_set h5 (fun _ => hs _ _ (by omega) (by omega)) (fun _ => hs _ _ (by omega) (by omega))⟩
  | (x, y, z) :: ts, f, b, S, S', h, hs => by
    obtain ⟨h1, ⟨p, h2, h3, h4, h5, h6, h7, h8, h9⟩, h10⟩ := h
    have hc : ∀ {p : Nat} {c : List Nat}, CDm p c S → CDm p c S' := fun hh => CDm_set hh (fun _ => hs _ _ (by omega) (by omega)) (fun _ => hs _ _ (by omega) (by omega))
    exact ⟨(hs _ _ (by omega) (by omega)).trans h1, ⟨p, (hs _ _ (by omega) (by omega)).trans h2, (hs _ _ (by omega) (by omega)).trans h3, (hs _ _ (by omega) (by omega)).trans h4, (hs _ _ (by omega) (by omega)).trans h5, h6, hc h7, hc h8, hc h9⟩, BRs_set h10 hs⟩
theorem tells_fin {b p : Nat} {c : List Nat} {S : St} (hg : S.2 = g) (hr : g.2 = RB B B1 C) (hb : b < 260) (h1 : S.1 167 b = nI p) (h2 : S.1 168 b = nI (p + c.length)) (hp : p + c.length ≤ 840) (hc : CDm p c S) (hw : wfd c 0) (h0 : S.1 140 50 = 0) (hv : ∀ i, i < 9 → S.1 172 i = vars i) : RN (b_X10_lawTells_119 140 (nI b) S) (fun r S' => r = (evT vars c).getD 0 ∧ M0 S S') := by
  unfold b_X10_lawTells_119
  have hrS : S.2.2 = RB B B1 C := by rw [hg, hr]
  simp only [ix_nI hb (show 260 < 2 ^ 31 by decide), Option.bind_some, hrS, rb_140_41, rb_140_42, h1, h2]
  refine RN_bd (term_run (vars := vars) hg hr hp hc hw hv) (fun r S1 h => ?_)
  cases he : evT vars c with
  | none =>
    rw [(h.2.1 he).1, if_neg (by decide)]
    exact RN_some ⟨rfl, h.2.2⟩
  | some v =>
    obtain ⟨hr, hf⟩ := h.1 v he
    subst hr
    rw [hf, h0, if_pos rfl]
    exact RN_some ⟨rfl, h.2.2⟩
theorem tells_loop (hr : g.2 = RB B B1 C) {at' : Nat} (hat : at' < 8) {n : Nat} (hn : n ≤ 260) {f : List Nat} (hwf : wfd f 0) : ∀ (ts : List (List Nat × List Nat × List Nat)) (fu b : Nat) (S : St), ts.length < fu → b + ts.length + 1 = n → wfT ts → S.2 = g → S.1 163 at' = nI n → BRs ts f b S → S.1 140 50 = 0 → (∀ i, i < 9 → S.1 172 i = vars i) → RN (b_X10_lawTells_39 fu 140 (nI at') (nI b) S) (fun r S' => r = (lawO vars ts f).getD 0 ∧ M0 S S')
  | _, 0, _, _, h, _, _, _, _, _, _, _ => absurd h (Nat.not_lt_zero _)
  | [], fu + 1, b, S, _, hj, _, hg, hln, hbr, h0, hv => by
    have hj : b + 1 = n := by simpa using hj
    have hrS : S.2.2 = RB B B1 C := by rw [hg, hr]
    obtain ⟨h1, p, h2, h3, h4, h5⟩ := hbr
    rw [b_X10_lawTells_39, ix_nI hat (by decide), Option.bind_some, hrS, rb_140_36, hln, if_neg (nle_l (by omega) (by omega) (by omega)), ix_nI (show b < 260 by omega) (by decide), Option.bind_some, rb_140_38, h1, if_pos rfl]
    exact tells_fin hg hr (by omega) h2 h3 h4 h5 hwf h0 hv
  | (x, y, z) :: ts, fu + 1, b, S, hf, hj, hw, hg, hln, hbr, h0, hv => by
    have hj : b + ts.length + 2 = n := by simp only [List.length_cons] at hj; omega
    have hf : ts.length < fu := by simpa using hf
    have hrS : S.2.2 = RB B B1 C := by rw [hg, hr]
    obtain ⟨h1, ⟨p, h2, h3, h4, h5, h6, h7, h8, h9⟩, h10⟩ := hbr
    obtain ⟨wa, wb, wc⟩ := hw (x, y, z) (List.mem_cons_self ..)
    rw [b_X10_lawTells_39]
    simp only [ix_nI hat (show 8 < 2 ^ 31 by decide), ix_nI (show b < 260 by omega) (show 260 < 2 ^ 31 by decide), Option.bind_some, hrS, rb_140_36, rb_140_38, rb_140_39, rb_140_40, rb_140_41, hln, h1, h2, h3]
    rw [if_neg (nle_l (by omega) (by omega) (by omega)), if_neg (by decide)]
    refine RN_bd (term_run (vars := vars) hg hr (by omega) h7 wa hv) (fun r S1 h => ?_)
    have hE := h.2.2
    have hr1 : S1.2.2 = RB B B1 C := by rw [hE.1]; exact hrS
    simp only [hr1, rb_140_40, rb_140_41, (hE.2 166 b (by omega) (by omega)).trans h3, (hE.2 167 b (by omega) (by omega)).trans h4]
    refine RN_bd (term_run (S := S1) (vars := vars) (hE.1.trans hg) hr (by omega) (CDm_set h8 (fun _ => hE.2 _ _ (by omega) (by omega)) (fun _ => hE.2 _ _ (by omega) (by omega))) wb (hE.vs hv)) (fun r' S2 h' => ?_)
    have hE2 := hE.tr h'.2.2
    cases ha : evT vars x with
    | none =>
      have hn : S2.1 140 50 = 1 := by
        cases hbv : evT vars y with
        | none => exact (h'.2.1 hbv).1
        | some v => rw [(h'.1 v hbv).2, (h.2.1 ha).1]
      rw [hn, if_neg (by decide)]
      refine RN_some ⟨?_, hE2⟩
      simp only [lawO, ha, Option.getD]
    | some u =>
      obtain ⟨hru, hb1⟩ := h.1 u ha
      subst hru
      cases hbv : evT vars y with
      | none =>
        rw [(h'.2.1 hbv).1, if_neg (by decide)]
        refine RN_some ⟨?_, hE2⟩
        simp only [lawO, ha, hbv, Option.getD]
      | some v =>
        obtain ⟨hrv, hfl⟩ := h'.1 v hbv
        subst hrv
        have hfl0 : S2.1 140 50 = 0 := by rw [hfl, hb1, h0]
        rw [hfl0, if_pos rfl]
        by_cases hlt : r < r'
        · have hnle : ¬ r' ≤ r := fun q => by rw [i32_le] at q; rw [i32_lt] at hlt; omega
          rw [if_pos hlt]
          refine RN_mono (tells_fin (S := S2) (vars := vars) (hE2.1.trans hg) hr (by omega) ((hE2.2 _ _ (by omega) (by omega)).trans h4) ((hE2.2 _ _ (by omega) (by omega)).trans h5) (by omega) (CDm_set h9 (fun _ => hE2.2 _ _ (by omega) (by omega)) (fun _ => hE2.2 _ _ (by omega) (by omega))) wc hfl0 (hE2.vs hv)) (fun r3 S3 h3 => ⟨?_, hE2.tr h3.2⟩)
          simp only [lawO, ha, hbv, if_neg hnle]
          exact h3.1
        · have hle : r' ≤ r := by rw [i32_le]; rw [i32_lt] at hlt; omega
          rw [if_neg hlt, nm_eq, nI_1]
          refine RN_mono (tells_loop hr hat hn hwf ts fu (b + 1) S2 hf (by omega) (fun t ht => hw t (List.mem_cons_of_mem _ ht)) (hE2.1.trans hg) ((hE2.2 _ _ (by omega) (by omega)).trans hln) (BRs_set h10 (fun a i _ _ => hE2.2 _ _ (by omega) (by omega))) hfl0 (hE2.vs hv)) (fun r3 S3 h3 => ⟨?_, hE2.tr h3.2⟩)
          simp only [lawO, ha, hbv, if_pos hle]
          exact h3.1
/-- the same, their codes from lo on and below Q -/
def BRw : List (List Nat × List Nat × List Nat) → List Nat → Nat → Nat → Nat → St → Prop
  | [], f, b, lo, Q, S => S.1 164 b = 0 ∧ ∃ p, lo ≤ p ∧ S.1 167 b = nI p ∧ S.1 168 b = nI (p + f.length) ∧ p + f.length ≤ Q ∧ CDm p f S
  | (x, y, z) :: ts, f, b, lo, Q, S => S.1 164 b = 1 ∧ (∃ p, lo ≤ p ∧ S.1 165 b = nI p ∧ S.1 166 b = nI (p + x.length) ∧ S.1 167 b = nI (p + x.length + y.length) ∧ S.1 168 b = nI (p + x.length + y.length + z.length) ∧ p + x.length + y.length + z.length ≤ Q ∧ CDm p x S ∧ CDm (p + x.length) y S ∧ CDm (p + x.length + y.length) z S) ∧ BRw ts f (b + 1) lo Q S
theorem BRw_set2 : ∀ {ts : List (List Nat × List Nat × List Nat)} {f : List Nat} {b lo Q : Nat} {S S' : St}, BRw ts f b lo Q S → (∀ a i, 164 ≤ a → a ≤ 170 → S'.1 a i = S.1 a i) → BRw ts f b lo Q S'
  | [], f, b, lo, Q, S, S', h, hs => by
    obtain ⟨h1, p, h0, h2, h3, h4, h5⟩ := h
    exact ⟨(hs _ _ (by omega) (by omega)).trans h1, p, h0, (hs _ _ (by omega) (by omega)).trans h2, (hs _ _ (by omega) (by omega)).trans h3, h4, CDm_set h5 (fun _ => hs _ _ (by omega) (by omega)) (fun _ => hs _ _ (by omega) (by omega))⟩
  | (x, y, z) :: ts, f, b, lo, Q, S, S', h, hs => by
    obtain ⟨h1, ⟨p, h0, h2, h3, h4, h5, h6, h7, h8, h9⟩, h10⟩ := h
    have hc : ∀ {p : Nat} {c : List Nat}, CDm p c S → CDm p c S' := fun hh => CDm_set hh (fun _ => hs _ _ (by omega) (by omega)) (fun _ => hs _ _ (by omega) (by omega))
    exact ⟨(hs _ _ (by omega) (by omega)).trans h1, ⟨p, h0, (hs _ _ (by omega) (by omega)).trans h2, (hs _ _ (by omega) (by omega)).trans h3, (hs _ _ (by omega) (by omega)).trans h4, (hs _ _ (by omega) (by omega)).trans h5, h6, hc h7, hc h8, hc h9⟩, BRw_set2 h10 hs⟩
/-- law k of the reference's side lv is l: it was told, or it is as if nothing were told -/
def dflt (k : Nat) : Lw := ([], [if k = 0 then 10000 else if k = 1 then 10004 else if k = 2 then 10000 else 0])
def RLm (lv k : Nat) (l : Lw) (S : St) : Prop := (S.1 162 (4 * lv + k) = S.1 163 (4 * lv + k) ∧ l = dflt k) ∨ ∃ b, S.1 162 (4 * lv + k) = nI b ∧ S.1 163 (4 * lv + k) = nI (b + l.1.length + 1) ∧ b + l.1.length + 1 ≤ 260 ∧ BRs l.1 l.2 b S ∧ 130 * lv ≤ b ∧ b + l.1.length + 1 ≤ 130 * lv + 130 ∧ BRw l.1 l.2 b (420 * lv) (420 * lv + 420) S
theorem RLm_set {lv k : Nat} {l : Lw} {S S' : St} (h : RLm lv k l S) (hs : ∀ a i, 162 ≤ a → a ≤ 170 → S'.1 a i = S.1 a i) : RLm lv k l S' := by
  rcases h with ⟨h1, h2⟩ | ⟨b, h1, h2, h3, h4, h5, h6, h7⟩
  · exact Or.inl ⟨(hs _ _ (by omega) (by omega)).trans (h1.trans (hs _ _ (by omega) (by omega)).symm), h2⟩
  · exact Or.inr ⟨b, (hs _ _ (by omega) (by omega)).trans h1, (hs _ _ (by omega) (by omega)).trans h2, h3, BRs_set h4 (fun a i _ _ => hs a i (by omega) (by omega)), h5, h6, BRw_set2 h7 (fun a i _ _ => hs a i (by omega) (by omega))⟩
theorem tells_run {S : St} (hg : S.2 = g) (hr : g.2 = RB B B1 C) {lv k : Nat} (hlv : lv < 2) (hk : k < 4) (hS : S.1 140 18 = nI lv) {l : Lw} (hl : RLm lv k l S) (hw : wfL l) (hv : ∀ i, i < 9 → S.1 172 i = vars i) {pl : Int32} (hpl : evT vars (dflt k).2 = some pl) : RN (f_X10_lawTells 140 (nI k) pl S) (fun r S' => r = (lawO vars l.1 l.2).getD 0 ∧ M0 S S') := by
  have hrS : S.2.2 = RB B B1 C := by rw [hg, hr]
  unfold f_X10_lawTells
  have e1 : (4 : Int32) * S.1 140 18 + nI k = nI (4 * lv + k) := by rw [hS, show (4 : Int32) = nI 4 from rfl, pk_mul, nI_add]
  rw [e1]
  simp only [nm_eq, ix_nI (show 4 * lv + k < 8 by omega) (show 8 < 2 ^ 31 by decide), Option.bind_some, hrS, sI_2, rb_140_35, rb_140_36]
  rcases hl with ⟨h1, h2⟩ | ⟨b, h1, h2, h3, h4, -⟩
  · rw [if_pos h1]
    refine RN_some ⟨?_, M0.rf⟩
    subst h2
    show pl = (evT vars (dflt k).2).getD 0
    rw [hpl]
    rfl
  · rw [h1, h2, if_neg (fun q => by have := (nI_eq (by omega) (by omega)).mp q; omega), sI_ne (by omega), h1]
    have hE : M0 S (sI S 140 50 0) := ⟨rfl, fun a i h1 h2 => sI_ne (by omega)⟩
    refine RN_mono (tells_loop (S := sI S 140 50 0) (vars := vars) hr (show 4 * lv + k < 8 by omega) h3 hw.2.2 l.1 FU b (by unfold FU; have := hw.1; omega) rfl hw.2.1 hg ((hE.2 _ _ (by omega) (by omega)).trans h2) (BRs_set h4 (fun a i _ _ => hE.2 _ _ (by omega) (by omega))) sI_at (hE.vs hv)) (fun r S' h => ⟨h.1, hE.tr h.2⟩)
end MLAW

/-! a LAW's value: of the class's codes, of the reference's branches -/
theorem sI_ne {S : St} {a i b j : Nat} {v : Int32} (h : b ≠ a ∨ j ≠ i) : (sI S a i v).1 b j = S.1 b j := by
  rw [sI_1, if_neg (by omega)]
def evT (vars : Nat → Int32) (cs : List Nat) : Option Int32 := match ev vars cs [] with
  | some (v :: _) => some v
  | _ => none
abbrev Lw : Type := List (List Nat × List Nat × List Nat) × List Nat
def lawO (vars : Nat → Int32) : List (List Nat × List Nat × List Nat) → List Nat → Option Int32
  | [], f => evT vars f
  | (a, b, c) :: ts, f => match evT vars a with
    | none => none
    | some u => match evT vars b with
      | none => none
      | some v => if v ≤ u then lawO vars ts f else evT vars c
def heldV (most : Int32) : Option Int32 → Int32
  | none => 0
  | some v => mxI 0 (mnI most v)
def flat : List (List Nat × List Nat × List Nat) → List Nat → List (List Nat)
  | [], f => [f]
  | (a, b, c) :: ts, f => a :: b :: c :: flat ts f
theorem flat_len : ∀ (ts : List (List Nat × List Nat × List Nat)) (f : List Nat), (flat ts f).length = 3 * ts.length + 1
  | [], _ => rfl
  | (a, b, c) :: ts, f => by simp only [flat, List.length_cons, flat_len ts f]; omega
def PCs (lw k : Nat) : List (List Nat) → Nat → Nat → St → Prop
  | [], j, p, S => S.1 (lw + 3) (14 * k + j) = nI p
  | c :: cs, j, p, S => S.1 (lw + 3) (14 * k + j) = nI p ∧ CDs (lw + 2) p c S ∧ p + c.length ≤ 404 ∧ PCs lw k cs (j + 1) (p + c.length) S
theorem PCs_hd {lw k : Nat} : ∀ {cs : List (List Nat)} {j p : Nat} {S : St}, PCs lw k cs j p S → S.1 (lw + 3) (14 * k + j) = nI p
  | [], _, _, _, h => h
  | _ :: _, _, _, _, h => h.1
theorem PCs_set {lw k : Nat} : ∀ {cs : List (List Nat)} {j p : Nat} {S S' : St}, PCs lw k cs j p S → (∀ i, S'.1 (lw + 3) i = S.1 (lw + 3) i) → (∀ i, S'.1 (lw + 2) i = S.1 (lw + 2) i) → PCs lw k cs j p S'
  | [], _, _, _, _, h, h3, _ => (h3 _).trans h
  | _ :: _, _, _, _, _, h, h3, h2 => ⟨(h3 _).trans h.1, CDs_set h.2.1 h2, h.2.2.1, PCs_set h.2.2.2 h3 h2⟩
section HELD
variable {lw : Nat} {vars : Nat → Int32} {g : (Nat → Nat → Int64) × (Nat → Nat → Nat)}
/-- how the refs of the Laws at lw go -/
def GL (lw : Nat) (f : Nat → Nat → Nat) : Prop := lw + 5 < 2 ^ 31 ∧ f lw 0 = lw + 1 ∧ f lw 1 = lw + 2 ∧ f lw 3 = lw + 3 ∧ f lw 4 = lw + 4 ∧ f lw 5 = lw + 5
/-- nothing is changed but the stack and the flag -/
def E0 (lw : Nat) (S S' : St) : Prop := S'.2 = S.2 ∧ ∀ a k, a ≠ lw + 5 → (a = lw → k ≠ 6) → S'.1 a k = S.1 a k
theorem E0.rf {S : St} : E0 lw S S := ⟨rfl, fun _ _ _ _ => rfl⟩
theorem E0.tr {S S' S'' : St} (h : E0 lw S S') (h' : E0 lw S' S'') : E0 lw S S'' := ⟨h'.1.trans h.1, fun a k h1 h2 => (h'.2 a k h1 h2).trans (h.2 a k h1 h2)⟩
theorem val_run {k j p : Nat} {b : Bool} {c : List Nat} {S : St} (hg : S.2 = g) (hG : GL lw g.2) (hk : k < 4) (hj : j < 13) (h1 : S.1 (lw + 3) (14 * k + j) = nI p) (h2 : S.1 (lw + 3) (14 * k + (j + 1)) = nI (p + c.length)) (hp : p + c.length ≤ 404) (hc : CDs (lw + 2) p c S) (hw : wfd c 0) (hb : S.1 lw 6 = flI b) (hv : ∀ i, i < 9 → S.1 (lw + 1) i = vars i) : RN (f_X2_valueOf lw (nI k) (nI j) S) (fun r S' => (∀ v, evT vars c = some v → r = v ∧ S'.1 lw 6 = flI b) ∧ (evT vars c = none → S'.1 lw 6 = 1) ∧ E0 lw S S') := by
  obtain ⟨g1, g2, g3, g4, g5, g6⟩ := hG
  unfold f_X2_valueOf
  have e1 : nI k * 14 + nI j + 1 = nI (14 * k + (j + 1)) := by rw [show (14 : Int32) = nI 14 from rfl, pk_mul, nI_add, nI_1]; congr 1; omega
  have e2 : nI k * 14 + nI j = nI (14 * k + j) := by rw [show (14 : Int32) = nI 14 from rfl, pk_mul, nI_add]; congr 1; omega
  rw [if_neg (show ¬ nI j < 0 from nlt_l (b := 0) (by omega) (by omega) (by omega)), if_pos (show nI j < 13 from lt_l (b := 13) (by omega) (by omega) hj), e1, e2, ix_nI (by omega) (by decide), ix_nI (by omega) (by decide)]
  simp only [Option.bind_some, nm_eq, hg, g4, h1, h2]
  refine RN_mono (val_loop (vars := vars) g1 hp g2 g3 g6 c FU p [] b S (by unfold FU; omega) rfl hw (by simp) hg hc (fun j v h => by simp at h) hb hv) (fun r S' h => ?_)
  have he := evc_ev (vars := vars) c [] b
  refine ⟨fun v hvv => ?_, fun hn => ?_, ⟨h.2.2.1.trans hg.symm, h.2.2.2⟩⟩
  · unfold evT at hvv
    split at hvv
    next v' tl hev =>
      have h3 := he.1 _ hev
      have h4 := h.1
      have h5 := h.2.1
      rw [h3] at h4 h5
      cases hvv
      exact ⟨by cases h4; rfl, h5⟩
    next => cases hvv
  · unfold evT at hn
    split at hn
    next => cases hn
    next hno =>
      cases hev : ev vars c [] with
      | none => rw [h.2.1, he.2 hev]; rfl
      | some st' =>
        have h3 := he.1 _ hev
        have h4 := h.1
        rw [h3] at h4
        have h4 : st' = [r] := h4
        exact absurd (h4 ▸ hev) (hno r [])
def wfT (ts : List (List Nat × List Nat × List Nat)) : Prop := ∀ t ∈ ts, wfd t.1 0 ∧ wfd t.2.1 0 ∧ wfd t.2.2 0
theorem held_fin {k j p : Nat} {c : List Nat} {S : St} (hg : S.2 = g) (hG : GL lw g.2) (hk : k < 4) (hj : j < 13) (h1 : S.1 (lw + 3) (14 * k + j) = nI p) (h2 : S.1 (lw + 3) (14 * k + (j + 1)) = nI (p + c.length)) (hp : p + c.length ≤ 404) (hc : CDs (lw + 2) p c S) (hw : wfd c 0) (hb : S.1 lw 6 = 0) (hv : ∀ i, i < 9 → S.1 (lw + 1) i = vars i) (most : Int32) : RN (b_X2_held_80 lw (nI k) most (nI j) S) (fun r S' => r = heldV most (evT vars c) ∧ E0 lw S S') := by
  unfold b_X2_held_80
  refine RN_bd (val_run (b := false) hg hG hk hj h1 h2 hp hc hw hb hv) (fun r S1 h => ?_)
  cases he : evT vars c with
  | none =>
    rw [h.2.1 he, if_neg (by decide)]
    exact RN_some ⟨rfl, h.2.2⟩
  | some v =>
    obtain ⟨hr, hf⟩ := h.1 v he
    subst hr
    rw [hf, if_pos (by decide)]
    exact RN_some ⟨rfl, h.2.2⟩
theorem E0.vs {S S' : St} (h : E0 lw S S') (hv : ∀ i, i < 9 → S.1 (lw + 1) i = vars i) : ∀ i, i < 9 → S'.1 (lw + 1) i = vars i := fun i hi => (h.2 _ _ (by omega) (by omega)).trans (hv i hi)
theorem held_loop (hG : GL lw g.2) {k : Nat} (hk : k < 4) {n : Nat} (hn : n ≤ 13) (most : Int32) {f : List Nat} (hwf : wfd f 0) : ∀ (ts : List (List Nat × List Nat × List Nat)) (fu j p : Nat) (S : St), ts.length < fu → j + 3 * ts.length + 1 = n → wfT ts → S.2 = g → S.1 (lw + 4) k = nI n → PCs lw k (flat ts f) j p S → S.1 lw 6 = 0 → (∀ i, i < 9 → S.1 (lw + 1) i = vars i) → RN (b_X2_held_17 fu lw (nI k) most (nI (n - 1)) (nI j) S) (fun r S' => r = heldV most (lawO vars ts f) ∧ E0 lw S S')
  | _, 0, _, _, _, h, _, _, _, _, _, _, _ => absurd h (Nat.not_lt_zero _)
  | [], fu + 1, j, p, S, _, hj, _, hg, hpn, hpc, hb, hv => by
    have hG' := hG
    obtain ⟨g1, g2, g3, g4, g5, g6⟩ := hG
    have hj : j + 1 = n := by simpa using hj
    rw [b_X2_held_17, ix_nI hk (by decide), Option.bind_some, hg, g5, hpn, show nI j + 2 = nI (j + 2) from nI_add j 2, if_pos (le_l (by omega) (by omega) (by omega)), show n - 1 = j by omega]
    exact held_fin hg hG' hk (by omega) hpc.1 (PCs_hd hpc.2.2.2) hpc.2.2.1 hpc.2.1 hwf hb hv most
  | (a, b, c) :: ts, fu + 1, j, p, S, hf, hj, hw, hg, hpn, hpc, hb, hv => by
    have hG' := hG
    obtain ⟨g1, g2, g3, g4, g5, g6⟩ := hG
    have hj : j + 3 * ts.length + 4 = n := by simp only [List.length_cons] at hj; omega
    have hf : ts.length < fu := by simpa using hf
    obtain ⟨p1, p2, p3, p4⟩ := hpc
    obtain ⟨q1, q2, q3, q4⟩ := p4
    obtain ⟨r1, r2, r3, r4⟩ := q4
    obtain ⟨wa, wb, wc⟩ := hw (a, b, c) (List.mem_cons_self ..)
    rw [b_X2_held_17, ix_nI hk (by decide), Option.bind_some, hg, g5, hpn, show nI j + 2 = nI (j + 2) from nI_add j 2, if_neg (nle_l (by omega) (by omega) (by omega)), show nI j + 1 = nI (j + 1) from nI_add j 1, show nI j + 3 = nI (j + 3) from nI_add j 3]
    refine RN_bd (val_run (b := false) hg hG' hk (by omega) p1 q1 p3 p2 wa hb hv) (fun r S1 h => ?_)
    have fl1 : ∃ b1, S1.1 lw 6 = flI b1 ∧ (evT vars a = none → b1 = true) ∧ (∀ u, evT vars a = some u → b1 = false ∧ r = u) := by
      cases he : evT vars a with
      | none => exact ⟨true, h.2.1 he, fun _ => rfl, fun _ q => (by cases q)⟩
      | some u => exact ⟨false, (h.1 u he).2, fun q => (by cases q), fun u' q => (by cases q; exact ⟨rfl, (h.1 u he).1⟩)⟩
    obtain ⟨b1, hb1, hb1n, hb1s⟩ := fl1
    have hE := h.2.2
    refine RN_bd (val_run (b := b1) (S := S1) (hE.1.trans hg) hG' hk (show j + 1 < 13 by omega) ((hE.2 _ _ (by omega) (by omega)).trans q1) ((hE.2 _ _ (by omega) (by omega)).trans r1) q3 (CDs_set q2 (fun _ => hE.2 _ _ (by omega) (by omega))) wb hb1 (hE.vs hv)) (fun r' S2 h' => ?_)
    have hE2 := hE.tr h'.2.2
    cases ha : evT vars a with
    | none =>
      have hn : S2.1 lw 6 = 1 := by
        have hbt := hb1n ha
        cases hbv : evT vars b with
        | none => exact h'.2.1 hbv
        | some v => rw [(h'.1 v hbv).2, hbt]; rfl
      rw [hn, if_neg (by decide)]
      refine RN_some ⟨?_, hE2⟩
      simp only [lawO, ha, heldV]
    | some u =>
      obtain ⟨hbf, hru⟩ := hb1s u ha
      subst hru
      cases hbv : evT vars b with
      | none =>
        rw [h'.2.1 hbv, if_neg (by decide)]
        refine RN_some ⟨?_, hE2⟩
        simp only [lawO, ha, hbv, heldV]
      | some v =>
        obtain ⟨hrv, hfl⟩ := h'.1 v hbv
        subst hrv
        have hfl0 : S2.1 lw 6 = 0 := by rw [hfl, hbf]; rfl
        rw [hfl0, if_pos rfl]
        by_cases hlt : r' ≤ r
        · rw [if_pos hlt, nm_eq]
          refine RN_mono (held_loop hG' hk hn most hwf ts fu (j + 3) (p + a.length + b.length + c.length) S2 hf (by omega) (fun t ht => hw t (List.mem_cons_of_mem _ ht)) (hE2.1.trans hg) ((hE2.2 _ _ (by omega) (by omega)).trans hpn) (PCs_set r4 (fun _ => hE2.2 _ _ (by omega) (by omega)) (fun _ => hE2.2 _ _ (by omega) (by omega))) hfl0 (hE2.vs hv)) (fun r3 S3 h3 => ⟨?_, hE2.tr h3.2⟩)
          simp only [lawO, ha, hbv, if_pos hlt]
          exact h3.1
        · rw [if_neg hlt, nm_eq]
          refine RN_mono (held_fin (S := S2) (hE2.1.trans hg) hG' hk (show j + 2 < 13 by omega) ((hE2.2 _ _ (by omega) (by omega)).trans r1) ((hE2.2 _ _ (by omega) (by omega)).trans (PCs_hd r4)) r3 (CDs_set r2 (fun _ => hE2.2 _ _ (by omega) (by omega))) wc hfl0 (hE2.vs hv) most) (fun r3 S3 h3 => ⟨?_, hE2.tr h3.2⟩)
          simp only [lawO, ha, hbv, if_neg hlt]
          exact h3.1
/-- law k of the class is l -/
def RLc (lw k : Nat) (l : Lw) (S : St) : Prop := S.1 (lw + 4) k = nI (3 * l.1.length + 1) ∧ ∃ p, PCs lw k (flat l.1 l.2) 0 p S
def wfL (l : Lw) : Prop := l.1.length ≤ 4 ∧ wfT l.1 ∧ wfd l.2 0
theorem RLc_set {k : Nat} {l : Lw} {S S' : St} (h : RLc lw k l S) (h2 : ∀ i, S'.1 (lw + 2) i = S.1 (lw + 2) i) (h3 : ∀ i, S'.1 (lw + 3) i = S.1 (lw + 3) i) (h4 : ∀ i, S'.1 (lw + 4) i = S.1 (lw + 4) i) : RLc lw k l S' := by
  obtain ⟨h1, p, hp⟩ := h
  exact ⟨(h4 _).trans h1, p, PCs_set hp h3 h2⟩
theorem held_run {S : St} (hg : S.2 = g) (hG : GL lw g.2) {k : Nat} (hk : k < 4) {l : Lw} (hl : RLc lw k l S) (hw : wfL l) (hv : ∀ i, i < 9 → S.1 (lw + 1) i = vars i) (most : Int32) : RN (f_X2_held lw (nI k) most S) (fun r S' => r = heldV most (lawO vars l.1 l.2) ∧ E0 lw S S') := by
  have hG' := hG
  obtain ⟨g1, g2, g3, g4, g5, g6⟩ := hG
  obtain ⟨w1, w2, w3⟩ := hw
  have hE : E0 lw S (sI S lw 6 0) := ⟨rfl, fun a i h1 h2 => sI_ne (by omega)⟩
  obtain ⟨hp, p, hpc⟩ := RLc_set (S' := sI S lw 6 0) hl (fun _ => hE.2 _ _ (by omega) (by omega)) (fun _ => hE.2 _ _ (by omega) (by omega)) (fun _ => hE.2 _ _ (by omega) (by omega))
  unfold f_X2_held
  rw [nm_eq, ix_nI hk (by decide), Option.bind_some, nm_eq, sI_2, hg, g5, hp, s1_eq (by omega)]
  refine RN_mono (held_loop (vars := vars) hG' hk (n := 3 * l.1.length + 1) (by omega) most w3 l.1 FU 0 p (sI S lw 6 0) (by unfold FU; omega) (by omega) w2 hg hp hpc sI_at (hE.vs hv)) (fun r S' h => ⟨h.1, hE.tr h.2⟩)
end HELD

/-! the reference reads MERMAIDS, PEOPLE, STRANDS, the pier, the seed -/
/-- the cells that a reading into side sd leaves as they are -/
def okM (sd a k : Nat) : Prop := (a = 140 → k < 11 ∨ k = 17 ∨ k = 18 ∨ k = 19 ∨ (20 < k ∧ k ≠ 37 ∧ k ≠ 43 ∧ k ≠ 47)) ∧ a ≠ 149 ∧ (a = 150 ∨ a = 152 ∨ a = 156 ∨ a = 160 ∨ a = 161 → k ≠ sd) ∧ (a = 151 → k < 16 * sd ∨ 16 * sd + 16 ≤ k) ∧ (a = 153 ∨ a = 154 ∨ a = 155 → k < 6 * sd ∨ 6 * sd + 6 ≤ k) ∧ (a = 157 ∨ a = 158 ∨ a = 159 → k < 8 * sd ∨ 8 * sd + 8 ≤ k) ∧ (a = 162 ∨ a = 163 → k < 4 * sd ∨ 4 * sd + 4 ≤ k) ∧ (164 ≤ a ∧ a ≤ 168 → k < 130 * sd ∨ 130 * sd + 130 ≤ k) ∧ (a = 169 ∨ a = 170 → k < 420 * sd ∨ 420 * sd + 420 ≤ k) ∧ a ≠ 171
def FR (sd : Nat) (S S' : St) : Prop := S'.2.2 = S.2.2 ∧ (∀ a k, a ≠ 148 → S'.2.1 a k = S.2.1 a k) ∧ ∀ a k, okM sd a k → S'.1 a k = S.1 a k
def RLr (sd k : Nat) (l : Lw) (q br : Nat) (S : St) : Prop := (S.1 162 (4 * sd + k) = S.1 163 (4 * sd + k) ∧ l = dflt k) ∨ ∃ b, S.1 162 (4 * sd + k) = nI b ∧ S.1 163 (4 * sd + k) = nI (b + l.1.length + 1) ∧ 130 * sd ≤ b ∧ b + l.1.length + 1 ≤ 130 * sd + br ∧ BRw l.1 l.2 b (420 * sd) (420 * sd + q) S
def CMn (sd : Nat) (A : RA) (S : St) : Prop := S.1 160 sd = nI (bPier (rB A)) ∧ S.1 161 sd = nI (bSeed (rB A)) ∧ (∀ p, p < bP (rB A) → S.1 155 (6 * sd + p) = nI (bWt (rB A) p) ∧ S.1 153 (6 * sd + p) = rF A (16 + p) ∧ S.1 154 (6 * sd + p) = rF A (22 + p)) ∧ (∀ e, e < bS (rB A) → S.1 157 (8 * sd + e) = nI (bWho (rB A) e) ∧ S.1 159 (8 * sd + e) = nI (bLen (rB A) e) ∧ S.1 158 (8 * sd + e) = rF A (28 + e)) ∧ ∀ m, m < bM (rB A) → S.1 151 (16 * sd + m) = rF A m ∧ S.1 151 (16 * sd + m + 4) = rF A (4 + m) ∧ S.1 151 (16 * sd + m + 8) = rF A (8 + m) ∧ S.1 151 (16 * sd + m + 12) = rF A (12 + m)
def KMb (v : Nat → Int32) (len sd t : Nat) (mk : Mk) (A : RA) (S : St) : Prop := S.1 140 19 = nI sd ∧ S.1 140 12 = 0 ∧ S.1 140 20 = nI (rN A) ∧ (S.1 150 sd = nI (bM (rB A)) ∧ S.1 152 sd = nI (bP (rB A)) ∧ S.1 156 sd = nI (bS (rB A))) ∧ NMm v len A S ∧ (∃ q br, S.1 140 43 = nI (420 * sd + q) ∧ q ≤ t ∧ S.1 140 37 = nI (130 * sd + br) ∧ 4 * br ≤ t ∧ ∀ k, k < 4 → RLr sd k (bLaw (rB A) k) q br S) ∧ (mk = none → CMn sd A S)
def KMs (v : Nat → Int32) (len sd : Nat) (st : Stt) (A : RA) (S : St) : Prop := RFM S.2.2 ∧ SRm v len st S ∧ match st with
  | .inl _ => True
  | .inr (t, mk) => KMb v len sd t mk A S
section MSTM
variable {v : Nat → Int32} {len sd : Nat} {S S' : St}
theorem FR.rf : FR sd S S := ⟨rfl, fun _ _ _ => rfl, fun _ _ _ => rfl⟩
theorem FR.tr {S S' S'' : St} (h : FR sd S S') (h' : FR sd S' S'') : FR sd S S'' := ⟨h'.1.trans h.1, fun a k q => (h'.2.1 a k q).trans (h.2.1 a k q), fun a k q => (h'.2.2 a k q).trans (h.2.2 a k q)⟩
theorem FN.fr (h : FN S S') : FR sd S S' := ⟨by rw [h.1], fun a k _ => by rw [h.1], fun a k q => h.2 a k (fun e => by have := q.1 e; omega)⟩
theorem CDm_k2 {q : Nat} {c : List Nat} (h : CDm q c S) (hk : ∀ k, q ≤ k → k < q + c.length → S'.1 169 k = S.1 169 k ∧ S'.1 170 k = S.1 170 k) : CDm q c S' := by
  intro j e hj
  have hl : j < c.length := by
    obtain ⟨h1, -⟩ := List.getElem?_eq_some_iff.mp hj
    exact h1
  have h1 := h j e hj
  have h2 := hk (q + j) (by omega) (by omega)
  exact ⟨h2.1.trans h1.1, fun q => h2.2.trans (h1.2 q)⟩
theorem BRw_keep : ∀ {ts : List (List Nat × List Nat × List Nat)} {f : List Nat} {b lo Q Q' : Nat} {S S' : St}, BRw ts f b lo Q S → Q ≤ Q' → (∀ a i, 164 ≤ a → a ≤ 168 → b ≤ i → i < b + ts.length + 1 → S'.1 a i = S.1 a i) → (∀ k, lo ≤ k → k < Q → S'.1 169 k = S.1 169 k ∧ S'.1 170 k = S.1 170 k) → BRw ts f b lo Q' S'
  | [], f, b, lo, Q, Q', S, S', h, hQ, hs, hc => by
    obtain ⟨h1, p, h0, h2, h3, h4, h5⟩ := h
    have hl : ([] : List (List Nat × List Nat × List Nat)).length = 0 := rfl
    exact ⟨(hs _ _ (by omega) (by omega) (by omega) (by omega)).trans h1, p, h0, (hs _ _ (by omega) (by omega) (by omega) (by omega)).trans h2, (hs _ _ (by omega) (by omega) (by omega) (by omega)).trans h3, by omega, CDm_k2 h5 (fun k z1 z2 => hc k (by omega) (by omega))⟩
  | (x, y, z) :: ts, f, b, lo, Q, Q', S, S', h, hQ, hs, hc => by
    obtain ⟨h1, ⟨p, h0, h2, h3, h4, h5, h6, h7, h8, h9⟩, h10⟩ := h
    have hl : ((x, y, z) :: ts).length = ts.length + 1 := rfl
    exact ⟨(hs _ _ (by omega) (by omega) (by omega) (by omega)).trans h1, ⟨p, h0, (hs _ _ (by omega) (by omega) (by omega) (by omega)).trans h2, (hs _ _ (by omega) (by omega) (by omega) (by omega)).trans h3, (hs _ _ (by omega) (by omega) (by omega) (by omega)).trans h4, (hs _ _ (by omega) (by omega) (by omega) (by omega)).trans h5, by omega, CDm_k2 h7 (fun k z1 z2 => hc k (by omega) (by omega)), CDm_k2 h8 (fun k z1 z2 => hc k (by omega) (by omega)), CDm_k2 h9 (fun k z1 z2 => hc k (by omega) (by omega))⟩, BRw_keep h10 hQ (fun a i h1 h2 h3 h4 => hs a i h1 h2 (by omega) (by omega)) hc⟩
theorem BRw_BRs : ∀ {ts : List (List Nat × List Nat × List Nat)} {f : List Nat} {b lo Q : Nat} {S : St}, BRw ts f b lo Q S → Q ≤ 840 → BRs ts f b S
  | [], f, b, lo, Q, S, h, hQ => by
    obtain ⟨h1, p, h0, h2, h3, h4, h5⟩ := h
    exact ⟨h1, p, h2, h3, by omega, h5⟩
  | (x, y, z) :: ts, f, b, lo, Q, S, h, hQ => by
    obtain ⟨h1, ⟨p, h0, h2, h3, h4, h5, h6, h7, h8, h9⟩, h10⟩ := h
    exact ⟨h1, ⟨p, h2, h3, h4, h5, by omega, h7, h8, h9⟩, BRw_BRs h10 hQ⟩
theorem RLr_set {k q br : Nat} {l : Lw} (h : RLr sd k l q br S) (hs : ∀ a i, 162 ≤ a → a ≤ 170 → S'.1 a i = S.1 a i) : RLr sd k l q br S' := by
  rcases h with ⟨h1, h2⟩ | ⟨b, h1, h2, h0, h3, h4⟩
  · exact Or.inl ⟨(hs _ _ (by omega) (by omega)).trans (h1.trans (hs _ _ (by omega) (by omega)).symm), h2⟩
  · exact Or.inr ⟨b, (hs _ _ (by omega) (by omega)).trans h1, (hs _ _ (by omega) (by omega)).trans h2, h0, h3, BRw_keep h4 (Nat.le_refl _) (fun a i h1 h2 _ _ => hs a i (by omega) (by omega)) (fun k _ _ => ⟨hs _ _ (by omega) (by omega), hs _ _ (by omega) (by omega)⟩)⟩
theorem SRm_o {st : Stt} (h : SRm v len st S) (h2 : S'.2.1 146 = S.2.1 146) (ho : ∀ a k, (a = 140 ∧ 11 ≤ k ∧ k ≤ 16 ∧ k ≠ 12) ∨ a = 143 ∨ a = 144 ∨ a = 145 → S'.1 a k = S.1 a k) : SRm v len st S' := by
  match st, h with
  | .inl (f, u), h => exact DDm_k h (ho _ _ (by omega)) (ho _ _ (by omega)) (ho _ _ (by omega))
  | .inr (t, mk), h =>
    obtain ⟨⟨a1, a2, a3, a4, a5⟩, m1, m2⟩ := h
    refine ⟨⟨a1, (ho _ _ (by omega)).trans a2, (ho _ _ (by omega)).trans a3, a4, fun j h1 h2' h3 => ?_⟩, MKm_set m1 (ho _ _ (by omega)) (ho _ _ (by omega)), m2⟩
    obtain ⟨b1, b2, b3, b4⟩ := a5 j h1 h2' h3
    refine ⟨(ho _ _ (by omega)).trans b1, (ho _ _ (by omega)).trans b2, fun q => (ho _ _ (by omega)).trans (b3 q), fun q => ?_⟩
    rw [h2]
    exact b4 q
theorem room_S {t k has most : Nat} {mk : Mk} (hr : RFM S.2.2) (h : SRm v len (.inr (t, mk)) S) (hk : kdT v len t = k) (h23 : k ≠ 23) (h24 : k ≠ 24) (hle : has ≤ most) (hm : most < 2 ^ 31) : ∃ S', f_X10_roomFor 140 (nI has) (nI most) S = some ((), S') ∧ FN S S' ∧ SRm v len (tkS v len k (rmS (decide (has < most)) t mk)) S' := by
  unfold f_X10_roomFor b_X10_roomFor_10 rmS
  by_cases c : has < most
  · obtain ⟨S1, e1, f1, s1⟩ := go_S hr h hk h23 h24
    rw [if_neg (fun q => by have := (nI_eq (by omega) (by omega)).mp q; omega), if_pos h.1.2.2.1, e1, bdq, if_pos (decide_eq_true c)]
    exact ⟨S1, rfl, f1, s1⟩
  · have e : has = most := by omega
    have hd := DDm_of (k := 2) h.1 (Or.inr rfl)
    rw [if_pos (by rw [e]), show (2 : Int32) = nI 2 from rfl, fail_l hr h.1, bdq, if_neg (by rw [hd.1]; decide), if_neg (by simpa using c)]
    exact ⟨_, rfl, ⟨rfl, fun a k q => by rw [sI_ne (by omega), sI_ne (by omega)]⟩, hd⟩
theorem LVm_146 {t u : Nat} (h : LVm v len t S) (hu : u < t) (hk : kdT v len u = 21) : S.2.1 146 u = Int64.ofNat (nm27 v len (psT v len u)) := (h.2.2.2.2 u (by have := h.1; omega) (by have := h.1; omega) (fun i hi => h.2.2.2.1 i (by omega))).2.2.2 hk
theorem NMm_new {A A' : RA} {i at' : Nat} (hS : NMm v len A S) (hT : rT A' = updN (rT A) (rN A) i) (hA : rA A' = updN (rA A) (rN A) at') (hn : rN A' = rN A + 1) (h1 : S'.2.1 148 (rN A) = Int64.ofNat (nm27 v len (psT v len i))) (h2 : S'.1 149 (rN A) = nI at') (h3 : ∀ k, k ≠ rN A → S'.2.1 148 k = S.2.1 148 k ∧ S'.1 149 k = S.1 149 k) : NMm v len A' S' := by
  intro k hk
  rw [hT, hA]
  by_cases e : k = rN A
  · subst e
    rw [updN_at, updN_at]
    exact ⟨h1, h2⟩
  · rw [updN_ne e, updN_ne e]
    have := hS k (by omega)
    exact ⟨(h3 k e).1.trans this.1, (h3 k e).2.trans this.2⟩
/-! a MERMAID -/
theorem meF_o {A : RA} {x y sx sy : Int32} {k : Nat} (h : k ≠ 12 + bM (rB A) ∧ k ≠ 8 + bM (rB A) ∧ k ≠ 4 + bM (rB A) ∧ k ≠ bM (rB A)) : meF A x y sx sy k = rF A k := by
  unfold meF
  rw [if_neg h.1, if_neg h.2.1, if_neg h.2.2.1, if_neg (by omega)]
theorem meF_0 {A : RA} {x y sx sy : Int32} : meF A x y sx sy (bM (rB A)) = x := by
  unfold meF
  rw [if_neg (by omega), if_neg (by omega), if_neg (by omega), if_pos (by omega)]
theorem meF_4 {A : RA} {x y sx sy : Int32} : meF A x y sx sy (4 + bM (rB A)) = y := by
  unfold meF
  rw [if_neg (by omega), if_neg (by omega), if_pos rfl]
theorem meF_8 {A : RA} {x y sx sy : Int32} : meF A x y sx sy (8 + bM (rB A)) = sx := by
  unfold meF
  rw [if_neg (by omega), if_pos rfl]
theorem meF_12 {A : RA} {x y sx sy : Int32} : meF A x y sx sy (12 + bM (rB A)) = sy := by
  unfold meF
  rw [if_pos rfl]
theorem me_dead {A : RA} {t : Nat} {mk : Mk} {e : Nat × Nat} (h : me1 v len A t mk = .inl e) : me7 v len A t mk = .inl e := by
  unfold me7 me6 me5 me4 me3 me2
  rw [h]
  rfl
theorem m_mermaid {A : RA} {t : Nat} {mk : Mk} (hlen : len ≤ 2000) (hsd : sd < 2) (hk0 : kdT v len t = 0) (hW : WA v len mk A) (h : KMs v len sd (.inr (t, mk)) A S) : RN (f_X10_tellOne 140 S) (fun _ S' => FR sd S S' ∧ KMs v len sd (me7 v len A t mk) (meA v len A t mk) S') := by
  obtain ⟨hr, hs, c19, c12, c20, ⟨b0, b1, b2⟩, hN, ⟨q, br, q1, q2, q3, q4, q5⟩, hc⟩ := h
  obtain ⟨w1, w2, w3, w4, w5, w6⟩ := hW
  have ht := hs.1.1
  have hrn : rN A = bM (rB A) + bP (rB A) := rfl
  obtain ⟨S4, e4, f4, s4⟩ := room_S (has := bM (rB A)) (most := 4) hr hs hk0 (by decide) (by decide) w1 (by decide)
  have r4 := FN_rr f4 hr
  unfold f_X10_tellOne
  rw [hs.1.2.1, ix_nI (show t < 403 by omega) (by decide), obq, nmq, rq_5 hr, hs.1.kd, hk0, if_pos (show nI (kmN 0) = 20 by decide), c19, ix_nI hsd (by decide), obq, rq_23 hr, b0, show f_X10_roomFor 140 (nI (bM (rB A))) 4 S = some ((), S4) from e4, bdq]
  cases h1 : me1 v len A t mk with
  | inl e =>
    have s4' : SRm v len (me1 v len A t mk) S4 := s4
    rw [h1] at s4'
    obtain ⟨f, u⟩ := e
    have s4'' : DDm f (psT v len u) S4 := s4'
    rw [if_neg (by rw [s4''.1]; exact f_nz s4''.2.2.1), me_dead h1]
    exact RN_some ⟨f4.fr, r4, s4', trivial⟩
  | inr w1' =>
    obtain ⟨t1, mk1⟩ := w1'
    have s4' : SRm v len (me1 v len A t mk) S4 := s4
    have s4l := s4'
    rw [h1] at s4l
    have hM : bM (rB A) < 4 := by
      obtain ⟨t0, g0, -, -, -, -⟩ := tk_inr h1
      have := (rmS_inr g0).1
      simpa using this
    obtain ⟨u, S3, e3, hu, f3, s3, l3⟩ := named_S hlen r4 s4' w4 (by omega) ((f4.2 _ _ (by omega)).trans c20) (fun k hk => by rw [f4.1]; exact ⟨(hN k hk).1, (f4.2 _ _ (by omega)).trans (hN k hk).2⟩)
    have g3 := f4.tr f3
    have r3 := FN_rr g3 hr
    obtain ⟨x5, S5, e5, f5, s5, l5⟩ := bounded_S (lo := 0) (hi := 9) hlen r3 s3 (by decide) (by decide)
    have g5 := g3.tr f5
    have r8 : RFM (sI S5 151 (16 * sd + bM (rB A)) x5).2.2 := (FN_rr g5 hr : RFM S5.2.2)
    have s8 : SRm v len (me3 v len A t mk) (sI S5 151 (16 * sd + bM (rB A)) x5) := SRm_o s5 rfl (fun a k ha => sI_ne (by omega))
    obtain ⟨x9, S9, e9, f9, s9, l9⟩ := bounded_S (lo := 0) (hi := 9) hlen r8 s8 (by decide) (by decide)
    have r12 : RFM (sI S9 151 (16 * sd + bM (rB A) + 4) x9).2.2 := (FN_rr f9 r8 : RFM S9.2.2)
    have s12 : SRm v len (me4 v len A t mk) (sI S9 151 (16 * sd + bM (rB A) + 4) x9) := SRm_o s9 rfl (fun a k ha => sI_ne (by omega))
    obtain ⟨x13, S13, e13, f13, s13, l13⟩ := tstep_S hlen r12 s12
    have r16 : RFM (sI S13 151 (16 * sd + bM (rB A) + 8) x13).2.2 := (FN_rr f13 r12 : RFM S13.2.2)
    have s16 : SRm v len (me5 v len A t mk) (sI S13 151 (16 * sd + bM (rB A) + 8) x13) := SRm_o s13 rfl (fun a k ha => sI_ne (by omega))
    obtain ⟨x17, S17, e17, f17, s17, l17⟩ := tstep_S hlen r16 s16
    have r20 : RFM (sI S17 151 (16 * sd + bM (rB A) + 12) x17).2.2 := (FN_rr f17 r16 : RFM S17.2.2)
    have s20 : SRm v len (me6 v len A t mk) (sI S17 151 (16 * sd + bM (rB A) + 12) x17) := SRm_o s17 rfl (fun a k ha => sI_ne (by omega))
    have i20 : (sI S17 151 (16 * sd + bM (rB A) + 12) x17).2 = S.2 := f17.1.trans (f13.1.trans (f9.1.trans g5.1))
    have o20 : ∀ a k, (a = 140 → k < 11 ∨ k = 12 ∨ 16 < k) → (a = 151 → k ≠ 16 * sd + bM (rB A) ∧ k ≠ 16 * sd + bM (rB A) + 4 ∧ k ≠ 16 * sd + bM (rB A) + 8 ∧ k ≠ 16 * sd + bM (rB A) + 12) → (sI S17 151 (16 * sd + bM (rB A) + 12) x17).1 a k = S.1 a k := fun a k z1 z2 => by
      rw [sI_ne (by omega), f17.2 a k z1, sI_ne (by omega), f13.2 a k z1, sI_ne (by omega), f9.2 a k z1, sI_ne (by omega), g5.2 a k z1]
    have v0 : (sI S17 151 (16 * sd + bM (rB A) + 12) x17).1 151 (16 * sd + bM (rB A)) = x5 := by
      rw [sI_ne (by omega), f17.2 _ _ (by omega), sI_ne (by omega), f13.2 _ _ (by omega), sI_ne (by omega), f9.2 _ _ (by omega), sI_at]
    have v4 : (sI S17 151 (16 * sd + bM (rB A) + 12) x17).1 151 (16 * sd + bM (rB A) + 4) = x9 := by
      rw [sI_ne (by omega), f17.2 _ _ (by omega), sI_ne (by omega), f13.2 _ _ (by omega), sI_at]
    have v8 : (sI S17 151 (16 * sd + bM (rB A) + 12) x17).1 151 (16 * sd + bM (rB A) + 8) = x13 := by
      rw [sI_ne (by omega), f17.2 _ _ (by omega), sI_at]
    have v12 : (sI S17 151 (16 * sd + bM (rB A) + 12) x17).1 151 (16 * sd + bM (rB A) + 12) = x17 := sI_at
    obtain ⟨S22, e22, s22, i22, o22, p22, a22⟩ := ends_S (at' := nI (bM (rB A))) r20 s20 hu (show rN A < 10 by omega) ((o20 _ _ (by omega) (by omega)).trans c20)
    have k19 : S4.1 140 19 = nI sd := (f4.2 _ _ (by omega)).trans c19
    have k150 : S4.1 150 sd = nI (bM (rB A)) := (f4.2 _ _ (by omega)).trans b0
    unfold f_X10_tellMermaid
    rw [if_pos s4l.1.2.2.1, k19, ix_nI hsd (by decide), obq, rq_23 r4, k150, nmq, show (16 : Int32) * nI sd + nI (bM (rB A)) = nI (16 * sd + bM (rB A)) by rw [show (16 : Int32) = nI 16 from rfl, pk_mul, nI_add], e3, bdq, show f_X10_bounded 140 0 9 S3 = some (x5, S5) from e5, bdq, ix_nI (show 16 * sd + bM (rB A) < 32 by omega) (by decide), obq, nmq, rq_24 r3, show f_X10_bounded 140 0 9 (sI S5 151 (16 * sd + bM (rB A)) x5) = some (x9, S9) from e9, bdq, show nI (16 * sd + bM (rB A)) + 4 = nI (16 * sd + bM (rB A) + 4) from nI_add _ 4, ix_nI (show 16 * sd + bM (rB A) + 4 < 32 by omega) (by decide), obq, nmq, rq_24 r8, e13, bdq, show nI (16 * sd + bM (rB A)) + 8 = nI (16 * sd + bM (rB A) + 8) from nI_add _ 8, ix_nI (show 16 * sd + bM (rB A) + 8 < 32 by omega) (by decide), obq, nmq, rq_24 r12, e17, bdq, show nI (16 * sd + bM (rB A)) + 12 = nI (16 * sd + bM (rB A) + 12) from nI_add _ 12, ix_nI (show 16 * sd + bM (rB A) + 12 < 32 by omega) (by decide), obq, nmq, rq_24 r16, (o20 140 19 (by omega) (by omega)).trans c19, ix_nI hsd (by decide), obq, rq_23 r20, (o20 150 sd (by omega) (by omega)).trans b0, e22, bdq]
    have o22' : ∀ a k, (a = 140 → k < 11 ∨ k = 12 ∨ (16 < k ∧ k ≠ 20)) → a ≠ 149 → (a = 151 → k ≠ 16 * sd + bM (rB A) ∧ k ≠ 16 * sd + bM (rB A) + 4 ∧ k ≠ 16 * sd + bM (rB A) + 8 ∧ k ≠ 16 * sd + bM (rB A) + 12) → S22.1 a k = S.1 a k := fun a k z1 z2 z3 => (o22 a k z1 z2).trans (o20 a k (by omega) z3)
    have fr22 : FR sd S S22 := ⟨i22.trans (by rw [i20]), fun a k z => (p22 a k z).trans (by rw [i20]), fun a k z => o22' a k (by unfold okM at z; omega) (by unfold okM at z; omega) (by unfold okM at z; omega)⟩
    have r22 : RFM S22.2.2 := by rw [i22]; exact r20
    cases hst : me7 v len A t mk with
    | inl e =>
      have s22' : SRm v len (me7 v len A t mk) S22 := s22
      rw [hst] at s22'
      obtain ⟨f, u⟩ := e
      have s22'' : DDm f (psT v len u) S22 := s22'
      rw [if_neg (by rw [s22''.1]; exact f_nz s22''.2.2.1), bdq]
      exact RN_some ⟨fr22, r22, s22', trivial⟩
    | inr w =>
      obtain ⟨t', mk'⟩ := w
      have s22' : SRm v len (me7 v len A t mk) S22 := s22
      rw [hst] at s22'
      obtain ⟨m1, m2, m3, m4, m5, m6, m7, m8, m9, m10⟩ := me_inr hst
      obtain ⟨a1, a2, a3, a4⟩ := a22 ⟨t', mk', hst⟩
      have hu1 : u = tkn (me1 v len A t mk) := l3 m5
      have hut : u < t' := by
        rw [hu1]
        obtain ⟨t2, mk2, h2⟩ := m5
        obtain ⟨t3, mk3, h3⟩ := m6
        obtain ⟨z2, y2, g2, -, -, g2', g2'', -⟩ := nu_inr h3
        obtain ⟨z1, y1, g1, -, -, g1', -⟩ := adv_inr g2
        obtain ⟨t4, mk4, h4⟩ := m7
        obtain ⟨z3, y3, g4, -, -, g4', -, -⟩ := nu_inr h4
        obtain ⟨t5, mk5, h5⟩ := m8
        obtain ⟨z5, y5, g5, g5', -⟩ := sp_inr h5
        obtain ⟨t6, mk6, h6⟩ := m9
        obtain ⟨z6, y6, g6, g6', -⟩ := sp_inr h6
        obtain ⟨z7, g7, -, -, g7', -⟩ := tk_inr hst
        rw [h6] at g7; cases g7
        rw [h5] at g6; cases g6
        rw [h4] at g5; cases g5
        rw [h3] at g4; cases g4
        have : tkn (me1 v len A t mk) = z1 := by rw [g1]; rfl
        omega
      have k22 : S22.1 140 19 = nI sd := (o22' _ _ (by omega) (by omega) (by omega)).trans c19
      have kk : S22.1 150 sd = nI (bM (rB A)) := (o22' _ _ (by omega) (by omega) (by omega)).trans b0
      rw [if_pos s22'.1.2.2.1, nmq, k22, ix_nI hsd (by decide), obq, obq, nmq, rq_23 r22, kk, nI_1, bdq]
      have oo : ∀ a k, (a = 150 → k ≠ sd) → (sI S22 150 sd (nI (bM (rB A) + 1))).1 a k = S22.1 a k := fun a k z => sI_ne (by omega)
      have o7 : ∀ a k, (a = 140 → k < 11 ∨ k = 12 ∨ (16 < k ∧ k ≠ 20)) → a ≠ 149 → (a = 150 → k ≠ sd) → (a = 151 → k ≠ 16 * sd + bM (rB A) ∧ k ≠ 16 * sd + bM (rB A) + 4 ∧ k ≠ 16 * sd + bM (rB A) + 8 ∧ k ≠ 16 * sd + bM (rB A) + 12) → (sI S22 150 sd (nI (bM (rB A) + 1))).1 a k = S.1 a k := fun a k z1 z2 z3 z4 => (oo a k z3).trans (o22' a k z1 z2 z4)
      refine RN_some ⟨fr22.tr ⟨rfl, fun _ _ _ => rfl, fun a k z => oo a k (by unfold okM at z; omega)⟩, r22, SRm_o s22' rfl (fun a k z => oo a k (by omega)), ?_⟩
      refine ⟨(o7 _ _ (by omega) (by omega) (by omega) (by omega)).trans c19, (o7 _ _ (by omega) (by omega) (by omega) (by omega)).trans c12, ?_, ⟨sI_at, (o7 _ _ (by omega) (by omega) (by omega) (by omega)).trans b1, (o7 _ _ (by omega) (by omega) (by omega) (by omega)).trans b2⟩, ?_, ⟨q, br, (o7 _ _ (by omega) (by omega) (by omega) (by omega)).trans q1, by omega, (o7 _ _ (by omega) (by omega) (by omega) (by omega)).trans q3, by omega, fun k hk => RLr_set (q5 k hk) (fun a i z1 z2 => o7 _ _ (by omega) (by omega) (by omega) (by omega))⟩, fun hn => ?_⟩
      · rw [oo _ _ (by omega), a1]
        show nI (rN A + 1) = nI (bM (rB A) + 1 + bP (rB A))
        congr 1
        omega
      · refine NMm_new (S' := sI S22 150 sd (nI (bM (rB A) + 1))) hN rfl rfl (show bM (rB A) + 1 + bP (rB A) = bM (rB A) + bP (rB A) + 1 by omega) ?_ ((oo _ _ (by omega)).trans a3) (fun k hk => ⟨((a4 k hk).1).trans (by rw [i20]), ((oo _ _ (by omega)).trans (a4 k hk).2).trans (o20 _ _ (by omega) (by omega))⟩)
        show S22.2.1 148 (rN A) = _
        rw [a2, ← hu1, ← p22 146 u (by decide)]
        exact LVm_146 s22'.1 hut (by rw [hu1]; exact m4)
      · obtain ⟨c1, c2, c3, c4, c5⟩ := hc (m10 hn).1
        refine ⟨(o7 _ _ (by omega) (by omega) (by omega) (by omega)).trans c1, (o7 _ _ (by omega) (by omega) (by omega) (by omega)).trans c2, fun p hp => ?_, fun e he => ?_, fun m hm => ?_⟩
        · have hp : p < bP (rB A) := hp
          rw [o7 _ _ (by omega) (by omega) (by omega) (by omega), o7 _ _ (by omega) (by omega) (by omega) (by omega), o7 _ _ (by omega) (by omega) (by omega) (by omega)]
          show _ ∧ _ = meF A _ _ _ _ (16 + p) ∧ _ = meF A _ _ _ _ (22 + p)
          rw [meF_o (by omega), meF_o (by omega)]
          exact c3 p hp
        · have he : e < bS (rB A) := he
          rw [o7 _ _ (by omega) (by omega) (by omega) (by omega), o7 _ _ (by omega) (by omega) (by omega) (by omega), o7 _ _ (by omega) (by omega) (by omega) (by omega)]
          show _ ∧ _ ∧ _ = meF A _ _ _ _ (28 + e)
          rw [meF_o (by omega)]
          exact c4 e he
        · have hm : m < bM (rB A) + 1 := hm
          show _ = meF A _ _ _ _ m ∧ _ = meF A _ _ _ _ (4 + m) ∧ _ = meF A _ _ _ _ (8 + m) ∧ _ = meF A _ _ _ _ (12 + m)
          by_cases em : m = bM (rB A)
          · rw [em, meF_0, meF_4, meF_8, meF_12, oo _ _ (by omega), oo _ _ (by omega), oo _ _ (by omega), oo _ _ (by omega), o22 _ _ (by omega) (by omega), o22 _ _ (by omega) (by omega), o22 _ _ (by omega) (by omega), o22 _ _ (by omega) (by omega), v0, v4, v8, v12]
            exact ⟨l5 m6, l9 m7, l13 m8, l17 m9⟩
          · rw [meF_o (by omega), meF_o (by omega), meF_o (by omega), meF_o (by omega), o7 _ _ (by omega) (by omega) (by omega) (by omega), o7 _ _ (by omega) (by omega) (by omega) (by omega), o7 _ _ (by omega) (by omega) (by omega) (by omega), o7 _ _ (by omega) (by omega) (by omega) (by omega)]
            exact c5 m (by omega)
end MSTM

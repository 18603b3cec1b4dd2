/-! what was read stays in order -/
section WAP
variable {v : Nat → Int32} {len : Nat}
theorem NI_new {A A' : RA} {i : Nat} (hm : bM (rB A) ≤ 4) (hN : NI v len A) (hi : kdT v len i = 21) (hT : rT A' = updN (rT A) (rN A) i) (h : rA A' = updN (rA A) (rN A) (bM (rB A)) ∧ bM (rB A) < 4 ∧ bM (rB A') = bM (rB A) + 1 ∧ bP (rB A') = bP (rB A) ∨ rA A' = updN (rA A) (rN A) (10 + bP (rB A)) ∧ bM (rB A') = bM (rB A) ∧ bP (rB A') = bP (rB A) + 1) : NI v len A' := by
  obtain ⟨n1, n2, n3, n4⟩ := hN
  have en : rN A = bM (rB A) + bP (rB A) := rfl
  have en' : rN A' = bM (rB A') + bP (rB A') := rfl
  rcases h with ⟨h1, h2, h3, h4⟩ | ⟨h1, h3, h4⟩
  · refine ⟨fun j hj => ?_, fun j hj => ?_, fun k hk => ?_, fun k k' hk hk' hh => ?_⟩
    · by_cases e : j = bM (rB A)
      · exact ⟨rN A, by omega, by rw [h1, updN_at, e]⟩
      · obtain ⟨k, k1, k2⟩ := n1 j (by omega)
        exact ⟨k, by omega, by rw [h1, updN_ne (by omega)]; exact k2⟩
    · obtain ⟨k, k1, k2⟩ := n2 j (by omega)
      exact ⟨k, by omega, by rw [h1, updN_ne (by omega)]; exact k2⟩
    · rw [h1, hT]
      by_cases e : k = rN A
      · rw [e, updN_at, updN_at]
        exact ⟨Or.inl (by omega), hi⟩
      · rw [updN_ne e, updN_ne e]
        have := n3 k (by omega)
        exact ⟨by omega, this.2⟩
    · rw [h1] at hh ⊢
      by_cases e : k' = rN A
      · have n3' := (n3 k (by omega)).1
        rw [e, updN_at, updN_ne (by omega)] at hh ⊢
        omega
      · rw [updN_ne e, updN_ne (by omega)] at hh ⊢
        exact n4 k k' hk (by omega) hh
  · refine ⟨fun j hj => ?_, fun j hj => ?_, fun k hk => ?_, fun k k' hk hk' hh => ?_⟩
    · obtain ⟨k, k1, k2⟩ := n1 j (by omega)
      exact ⟨k, by omega, by rw [h1, updN_ne (by omega)]; exact k2⟩
    · by_cases e : j = bP (rB A)
      · exact ⟨rN A, by omega, by rw [h1, updN_at, e]⟩
      · obtain ⟨k, k1, k2⟩ := n2 j (by omega)
        exact ⟨k, by omega, by rw [h1, updN_ne (by omega)]; exact k2⟩
    · rw [h1, hT]
      by_cases e : k = rN A
      · rw [e, updN_at, updN_at]
        exact ⟨Or.inr (by omega), hi⟩
      · rw [updN_ne e, updN_ne e]
        have := n3 k (by omega)
        exact ⟨by omega, this.2⟩
    · rw [h1] at hh ⊢
      by_cases e : k' = rN A
      · have n3' := (n3 k (by omega)).1
        rw [e, updN_at, updN_ne (by omega)] at hh ⊢
        omega
      · rw [updN_ne e, updN_ne (by omega)] at hh ⊢
        exact n4 k k' hk (by omega) hh
theorem In9_n {n : Nat} (h : n ≤ 9) : In9 (nI n) := ⟨n, by omega, rfl⟩
theorem WA_me {A : RA} {t t' : Nat} {mk mk' : Mk} (hW : WA v len mk A) (h : me7 v len A t mk = .inr (t', mk')) : t < t' ∧ t' ≤ 400 ∧ WA v len mk' (meA v len A t mk) := by
  obtain ⟨w1, w2, w3, w4, w5, w6⟩ := hW
  obtain ⟨m1, m2, m3, m4, m5, m6, m7, m8, m9, m10⟩ := me_inr h
  refine ⟨by omega, m3, show bM (rB A) + 1 ≤ 4 by omega, w2, w3, NI_new w1 w4 m4 rfl (Or.inl ⟨rfl, m1, rfl, rfl⟩), w5, fun hn => ?_⟩
  obtain ⟨c1, c2, c3, c4, c5, c6⟩ := m10 hn
  obtain ⟨r1, r2, r3, ⟨r4, r5, r6⟩, r7, r8, r9⟩ := w6 c1
  refine ⟨r1, r2, fun e he => Nat.lt_succ_of_lt (r3 e he), ⟨fun m hm => ?_, fun p hp => ?_, fun e he => ?_⟩, fun m hm hm4 => ?_, fun p hp hp6 => ?_, fun e he he8 => ?_⟩
  · have hm : m < bM (rB A) + 1 := hm
    show In9 (meF A _ _ _ _ m) ∧ In9 (meF A _ _ _ _ (4 + m)) ∧ In3 (meF A _ _ _ _ (8 + m)) ∧ In3 (meF A _ _ _ _ (12 + m))
    by_cases e : m = bM (rB A)
    · rw [e, meF_0, meF_4, meF_8, meF_12]
      exact ⟨In9_n c3, In9_n c4, c5, c6⟩
    · rw [meF_o (by omega), meF_o (by omega), meF_o (by omega), meF_o (by omega)]
      exact r4 m (by omega)
  · have hp : p < bP (rB A) := hp
    show In9 (meF A _ _ _ _ (16 + p)) ∧ In9 (meF A _ _ _ _ (22 + p))
    rw [meF_o (by omega), meF_o (by omega)]
    exact r5 p hp
  · have he : e < bS (rB A) := he
    show ∃ j, j < bP (rB A) ∧ meF A _ _ _ _ (28 + e) = nI j
    rw [meF_o (by omega)]
    exact r6 e he
  · have hm : bM (rB A) + 1 ≤ m := hm
    show meF A _ _ _ _ m = 0 ∧ meF A _ _ _ _ (4 + m) = 0 ∧ meF A _ _ _ _ (8 + m) = 0 ∧ meF A _ _ _ _ (12 + m) = 0
    rw [meF_o (by omega), meF_o (by omega), meF_o (by omega), meF_o (by omega)]
    exact r7 m (by omega) hm4
  · have hp : bP (rB A) ≤ p := hp
    show meF A _ _ _ _ (16 + p) = 0 ∧ meF A _ _ _ _ (22 + p) = 0
    rw [meF_o (by omega), meF_o (by omega)]
    exact r8 p hp hp6
  · have he : bS (rB A) ≤ e := he
    show meF A _ _ _ _ (28 + e) = 0
    rw [meF_o (by omega)]
    exact r9 e he he8
theorem WA_pe {A : RA} {t t' : Nat} {mk mk' : Mk} (hW : WA v len mk A) (h : pe6 v len A t mk = .inr (t', mk')) : t < t' ∧ t' ≤ 400 ∧ WA v len mk' (peA v len A t mk) := by
  obtain ⟨w1, w2, w3, w4, w5, w6⟩ := hW
  obtain ⟨m1, m2, m3, m4, m5, m6, m7, m8, m10⟩ := pe_inr h
  refine ⟨by omega, m3, w1, show bP (rB A) + 1 ≤ 6 by omega, w3, NI_new w1 w4 m4 rfl (Or.inr ⟨rfl, rfl, rfl⟩), w5, fun hn => ?_⟩
  obtain ⟨c1, c2, c3, c4⟩ := m10 hn
  obtain ⟨r1, r2, r3, ⟨r4, r5, r6⟩, r7, r8, r9⟩ := w6 c1
  refine ⟨r1, r2, r3, ⟨fun m hm => ?_, fun p hp => ?_, fun e he => ?_⟩, fun m hm hm4 => ?_, fun p hp hp6 => ?_, fun e he he8 => ?_⟩
  · have hm : m < bM (rB A) := hm
    show In9 (peF A _ _ m) ∧ In9 (peF A _ _ (4 + m)) ∧ In3 (peF A _ _ (8 + m)) ∧ In3 (peF A _ _ (12 + m))
    rw [peF_o (by omega), peF_o (by omega), peF_o (by omega), peF_o (by omega)]
    exact r4 m hm
  · have hp : p < bP (rB A) + 1 := hp
    show In9 (peF A _ _ (16 + p)) ∧ In9 (peF A _ _ (22 + p))
    by_cases e : p = bP (rB A)
    · rw [e, peF_16, peF_22]
      exact ⟨In9_n c3, In9_n c4⟩
    · rw [peF_o (by omega), peF_o (by omega)]
      exact r5 p (by omega)
  · have he : e < bS (rB A) := he
    show ∃ j, j < bP (rB A) + 1 ∧ peF A _ _ (28 + e) = nI j
    rw [peF_o (by omega)]
    obtain ⟨j, j1, j2⟩ := r6 e he
    exact ⟨j, by omega, j2⟩
  · have hm : bM (rB A) ≤ m := hm
    show peF A _ _ m = 0 ∧ peF A _ _ (4 + m) = 0 ∧ peF A _ _ (8 + m) = 0 ∧ peF A _ _ (12 + m) = 0
    rw [peF_o (by omega), peF_o (by omega), peF_o (by omega), peF_o (by omega)]
    exact r7 m hm hm4
  · have hp : bP (rB A) + 1 ≤ p := hp
    show peF A _ _ (16 + p) = 0 ∧ peF A _ _ (22 + p) = 0
    rw [peF_o (by omega), peF_o (by omega)]
    exact r8 p (by omega) hp6
  · have he : bS (rB A) ≤ e := he
    show peF A _ _ (28 + e) = 0
    rw [peF_o (by omega)]
    exact r9 e he he8
theorem WA_sr {A : RA} {t t' : Nat} {mk mk' : Mk} (hW : WA v len mk A) (h : sr5 v len A t mk = .inr (t', mk')) : t < t' ∧ t' ≤ 400 ∧ WA v len mk' (srA v len A t mk) := by
  obtain ⟨w1, w2, w3, w4, w5, w6⟩ := hW
  obtain ⟨m1, m2, m3, m5, m6, m7, m10⟩ := sr_inr h
  refine ⟨by omega, m3, w1, w2, show bS (rB A) + 1 ≤ 8 by omega, w4, w5, fun hn => ?_⟩
  obtain ⟨c1, ⟨j1, jj1⟩, ⟨j2, jj2⟩⟩ := m10 hn
  obtain ⟨r1, r2, r3, ⟨r4, r5, r6⟩, r7, r8, r9⟩ := w6 c1
  have oF : ∀ k, k ≠ 28 + bS (rB A) → rF (srA v len A t mk) k = rF A k := fun k hk => if_neg hk
  have aF : rF (srA v len A t mk) (28 + bS (rB A)) = nI j2 := by
    show (if 28 + bS (rB A) = 28 + bS (rB A) then oI (lkA v len A 10 (tkn (sr2 v len A t mk))) else rF A (28 + bS (rB A))) = nI j2
    rw [if_pos rfl, jj2]
    rfl
  refine ⟨r1, r2, fun e he => ?_, ⟨fun m hm => ?_, fun p hp => ?_, fun e he => ?_⟩, fun m hm hm4 => ?_, fun p hp hp6 => ?_, fun e he he8 => ?_⟩
  · have he : e < bS (rB A) + 1 := he
    show updN (bWho (rB A)) (bS (rB A)) ((lkA v len A 0 (tkn (sr1 v len A t mk))).getD 0) e < bM (rB A)
    by_cases ee : e = bS (rB A)
    · rw [ee, updN_at, jj1]
      exact lkA_lt0 w4 jj1
    · rw [updN_ne ee]
      exact r3 e (by omega)
  · have hm : m < bM (rB A) := hm
    show In9 (rF (srA v len A t mk) m) ∧ In9 (rF (srA v len A t mk) (4 + m)) ∧ In3 (rF (srA v len A t mk) (8 + m)) ∧ In3 (rF (srA v len A t mk) (12 + m))
    rw [oF _ (by omega), oF _ (by omega), oF _ (by omega), oF _ (by omega)]
    exact r4 m hm
  · have hp : p < bP (rB A) := hp
    show In9 (rF (srA v len A t mk) (16 + p)) ∧ In9 (rF (srA v len A t mk) (22 + p))
    rw [oF _ (by omega), oF _ (by omega)]
    exact r5 p hp
  · have he : e < bS (rB A) + 1 := he
    show ∃ j, j < bP (rB A) ∧ rF (srA v len A t mk) (28 + e) = nI j
    by_cases ee : e = bS (rB A)
    · rw [ee, aF]
      exact ⟨j2, lkA_lt1 w4 w1 jj2, rfl⟩
    · rw [oF _ (by omega)]
      exact r6 e (by omega)
  · have hm : bM (rB A) ≤ m := hm
    rw [oF _ (by omega), oF _ (by omega), oF _ (by omega), oF _ (by omega)]
    exact r7 m hm hm4
  · have hp : bP (rB A) ≤ p := hp
    rw [oF _ (by omega), oF _ (by omega)]
    exact r8 p hp hp6
  · have he : bS (rB A) + 1 ≤ e := he
    rw [oF _ (by omega)]
    exact r9 e (by omega) he8
theorem WA_pier {A : RA} {t t' : Nat} {mk mk' : Mk} (hW : WA v len mk A) (h : pi3 v len 7 9 t mk = .inr (t', mk')) : t < t' ∧ t' ≤ 400 ∧ WA v len mk' (piA v len 7 A t mk) := by
  obtain ⟨w1, w2, w3, w4, w5, w6⟩ := hW
  obtain ⟨m1, m2, m3, m4⟩ := pi_inr h
  refine ⟨by omega, m2, w1, w2, w3, w4, w5, fun hn => ?_⟩
  obtain ⟨c1, c2⟩ := m4 hn
  obtain ⟨r1, r2, r3⟩ := w6 c1
  exact ⟨c2, r2, r3⟩
theorem WA_seed {A : RA} {t t' : Nat} {mk mk' : Mk} (hW : WA v len mk A) (h : pi3 v len 8 9999 t mk = .inr (t', mk')) : t < t' ∧ t' ≤ 400 ∧ WA v len mk' (piA v len 8 A t mk) := by
  obtain ⟨w1, w2, w3, w4, w5, w6⟩ := hW
  obtain ⟨m1, m2, m3, m4⟩ := pi_inr h
  refine ⟨by omega, m2, w1, w2, w3, w4, w5, fun hn => ?_⟩
  obtain ⟨c1, c2⟩ := m4 hn
  obtain ⟨r1, r2, r3⟩ := w6 c1
  exact ⟨r1, c2, r3⟩
theorem WA_la {A : RA} {w t t' : Nat} {mk mk' : Mk} (hW : WA v len mk A) (h : la5 v len w t mk = .inr (t', mk')) : t < t' ∧ t' ≤ 400 ∧ WA v len mk' (laA v len w A t mk) := by
  obtain ⟨w1, w2, w3, w4, w5, w6⟩ := hW
  obtain ⟨m1, m2, m3, m4, m5, m6, m7⟩ := la_inr h
  refine ⟨by omega, m3, w1, w2, w3, w4, fun k hk => ?_, fun hn => w6 (m1.symm.trans hn)⟩
  show wfL (updN (bLaw (rB A)) (w - 3) (laT v len w t mk, suC v len (la3 v len w t mk)) k)
  by_cases e : k = w - 3
  · rw [e, updN_at]; exact m4
  · rw [updN_ne e]; exact w5 k hk
end WAP
/-! a text -/
section TXT
variable {v : Nat → Int32} {len : Nat}
/-- what the class does with the word at hand -/
def chC (K : St → Option (Int32 × St)) (r4 : Int32) (S3 : St) : Option (Int32 × St) := if r4 = (0 : Int32) then (bd (f_X4_readMermaid 30 S3) fun _ S5 => K S5) else if r4 = (1 : Int32) then (bd (f_X4_readPerson 30 S3) fun _ S7 => K S7) else if r4 = (2 : Int32) then (bd (f_X4_readStrand 30 S3) fun _ S9 => K S9) else if r4 = (7 : Int32) then (bd (f_X4_readPier 30 S3) fun _ S11 => K S11) else if r4 = (8 : Int32) then (bd (f_X4_readSeed 30 S3) fun _ S13 => K S13) else (bd (f_X4_readLaw 30 r4 S3) fun _ S15 => K S15)
theorem one_step (hlen : len ≤ 2000) {t : Nat} {mk : Mk} {A : RA} (hW : WA v len mk A) : ∃ st A', (∀ t' mk', st = .inr (t', mk') → t < t' ∧ t' ≤ 400 ∧ WA v len mk' A') ∧ (∀ (Bc : Nat) (S : St) (K : St → Option (Int32 × St)), KCs v len Bc (.inr (t, mk)) A S → ∃ S1, chC K (nI (kdT v len t)) S = K S1 ∧ FZ Bc S S1 ∧ KCs v len Bc st A' S1) ∧ (∀ (sd : Nat) (S : St), sd < 2 → KMs v len sd (.inr (t, mk)) A S → ∃ S1, f_X10_tellOne 140 S = some ((), S1) ∧ FR sd S S1 ∧ KMs v len sd st A' S1) := by
  have hkl : kdT v len t < 128 := kd_lt
  have neI : ∀ c : Nat, c < 128 → kdT v len t ≠ c → ¬ nI (kdT v len t) = nI c := fun c h1 h2 q => h2 ((nI_eq (by omega) (by omega)).mp q)
  by_cases c0 : kdT v len t = 0
  · refine ⟨me7 v len A t mk, meA v len A t mk, fun t' mk' h => WA_me hW h, fun Bc S K h => ?_, fun sd S hsd h => ?_⟩
    · obtain ⟨_, S1, e1, h1⟩ := c_mermaid hW h
      refine ⟨S1, ?_, h1⟩
      unfold chC
      rw [if_pos (show nI (kdT v len t) = 0 by rw [c0]; rfl), e1, bdq]
    · obtain ⟨_, S1, e1, h1⟩ := m_mermaid hlen hsd c0 hW h
      exact ⟨S1, e1, h1⟩
  by_cases c1 : kdT v len t = 1
  · refine ⟨pe6 v len A t mk, peA v len A t mk, fun t' mk' h => WA_pe hW h, fun Bc S K h => ?_, fun sd S hsd h => ?_⟩
    · obtain ⟨_, S1, e1, h1⟩ := c_person hW h
      refine ⟨S1, ?_, h1⟩
      unfold chC
      rw [if_neg (show ¬ nI (kdT v len t) = 0 from neI 0 (by decide) c0), if_pos (show nI (kdT v len t) = 1 by rw [c1]; rfl), e1, bdq]
    · obtain ⟨_, S1, e1, h1⟩ := m_person hlen hsd c1 hW h
      exact ⟨S1, e1, h1⟩
  by_cases c2 : kdT v len t = 2
  · refine ⟨sr5 v len A t mk, srA v len A t mk, fun t' mk' h => WA_sr hW h, fun Bc S K h => ?_, fun sd S hsd h => ?_⟩
    · obtain ⟨_, S1, e1, h1⟩ := c_strand hW h
      refine ⟨S1, ?_, h1⟩
      unfold chC
      rw [if_neg (show ¬ nI (kdT v len t) = 0 from neI 0 (by decide) c0), if_neg (show ¬ nI (kdT v len t) = 1 from neI 1 (by decide) c1), if_pos (show nI (kdT v len t) = 2 by rw [c2]; rfl), e1, bdq]
    · obtain ⟨_, S1, e1, h1⟩ := m_strand hlen hsd c2 hW h
      exact ⟨S1, e1, h1⟩
  by_cases c7 : kdT v len t = 7
  · refine ⟨pi3 v len 7 9 t mk, piA v len 7 A t mk, fun t' mk' h => WA_pier hW h, fun Bc S K h => ?_, fun sd S hsd h => ?_⟩
    · obtain ⟨_, S1, e1, h1⟩ := c_pier h
      refine ⟨S1, ?_, h1⟩
      unfold chC
      rw [if_neg (show ¬ nI (kdT v len t) = 0 from neI 0 (by decide) c0), if_neg (show ¬ nI (kdT v len t) = 1 from neI 1 (by decide) c1), if_neg (show ¬ nI (kdT v len t) = 2 from neI 2 (by decide) c2), if_pos (show nI (kdT v len t) = 7 by rw [c7]; rfl), e1, bdq]
    · obtain ⟨_, S1, e1, h1⟩ := m_pier hlen hsd c7 h
      exact ⟨S1, e1, h1⟩
  by_cases c8 : kdT v len t = 8
  · refine ⟨pi3 v len 8 9999 t mk, piA v len 8 A t mk, fun t' mk' h => WA_seed hW h, fun Bc S K h => ?_, fun sd S hsd h => ?_⟩
    · obtain ⟨_, S1, e1, h1⟩ := c_seed h
      refine ⟨S1, ?_, h1⟩
      unfold chC
      rw [if_neg (show ¬ nI (kdT v len t) = 0 from neI 0 (by decide) c0), if_neg (show ¬ nI (kdT v len t) = 1 from neI 1 (by decide) c1), if_neg (show ¬ nI (kdT v len t) = 2 from neI 2 (by decide) c2), if_neg (show ¬ nI (kdT v len t) = 7 from neI 7 (by decide) c7), if_pos (show nI (kdT v len t) = 8 by rw [c8]; rfl), e1, bdq]
    · obtain ⟨_, S1, e1, h1⟩ := m_seed hlen hsd c8 h
      exact ⟨S1, e1, h1⟩
  by_cases cl : 3 ≤ kdT v len t ∧ kdT v len t ≤ 6
  · refine ⟨la5 v len (kdT v len t) t mk, laA v len (kdT v len t) A t mk, fun t' mk' h => WA_la hW h, fun Bc S K h => ?_, fun sd S hsd h => ?_⟩
    · obtain ⟨_, S1, e1, h1⟩ := c_law cl hW h
      refine ⟨S1, ?_, h1⟩
      unfold chC
      rw [if_neg (show ¬ nI (kdT v len t) = 0 from neI 0 (by decide) c0), if_neg (show ¬ nI (kdT v len t) = 1 from neI 1 (by decide) c1), if_neg (show ¬ nI (kdT v len t) = 2 from neI 2 (by decide) c2), if_neg (show ¬ nI (kdT v len t) = 7 from neI 7 (by decide) c7), if_neg (show ¬ nI (kdT v len t) = 8 from neI 8 (by decide) c8), e1, bdq]
    · obtain ⟨_, S1, e1, h1⟩ := m_law hsd rfl cl h
      exact ⟨S1, e1, h1⟩
  · refine ⟨.inl (1, t), A, fun t' mk' h => (by cases h), fun Bc S K h => ?_, fun sd S hsd h => ?_⟩
    · obtain ⟨_, S1, e1, h1⟩ := c_nolaw hkl cl h
      refine ⟨S1, ?_, h1⟩
      unfold chC
      rw [if_neg (show ¬ nI (kdT v len t) = 0 from neI 0 (by decide) c0), if_neg (show ¬ nI (kdT v len t) = 1 from neI 1 (by decide) c1), if_neg (show ¬ nI (kdT v len t) = 2 from neI 2 (by decide) c2), if_neg (show ¬ nI (kdT v len t) = 7 from neI 7 (by decide) c7), if_neg (show ¬ nI (kdT v len t) = 8 from neI 8 (by decide) c8), e1, bdq]
    · obtain ⟨_, S1, e1, h1⟩ := m_nolaw rfl ⟨c0, c1, c2, c7, c8, cl⟩ h
      exact ⟨S1, e1, h1⟩
theorem b42_eq {fu : Nat} {v3 : Int32} {S : St} : b_X4_readText_42 (fu + 1) 30 v3 S = if (400 : Int32) < v3 then (b_X4_readText_171 30 S) else (if (S.1 30 3) = 0 then (bd (f_X4_atHand 30 S) fun r2 S1 => if r2 = (23 : Int32) then (b_X4_readText_171 30 S1) else (bd (f_X4_atHand 30 S1) fun r4 S3 => chC (fun S5 => b_X4_readText_165 (b_X4_readText_42 fu) 30 v3 S5) r4 S3)) else (b_X4_readText_171 30 S)) := by
  rw [b_X4_readText_42]
  unfold chC
  rfl
theorem txt_loop (hlen : len ≤ 2000) : ∀ (n t : Nat) (mk : Mk) (A : RA), t ≤ 400 → 400 ≤ t + n → WA v len mk A → ∃ st A', (∀ t' mk', st = .inr (t', mk') → WA v len mk' A') ∧ (∀ (Bc : Nat) (S : St) (fu i : Nat), KCs v len Bc (.inr (t, mk)) A S → i ≤ t → n + 2 < fu → ∃ S1, b_X4_readText_42 fu 30 (nI i) S = b_X4_readText_171 30 S1 ∧ FZ Bc S S1 ∧ KCs v len Bc st A' S1) ∧ (∀ (sd : Nat) (S : St) (fu : Nat), sd < 2 → KMs v len sd (.inr (t, mk)) A S → n + 2 < fu → ∃ S1, b_X10_read_112 fu 140 S = b_X10_read_134 140 S1 ∧ FR sd S S1 ∧ KMs v len sd st A' S1) := by
  intro n
  induction n with
  | zero =>
    intro t mk A ht hn hW
    by_cases c : kdT v len t = 23
    · refine ⟨.inr (t, mk), A, fun t' mk' e => (by cases e; exact hW), fun Bc S fu i h hi hf => ?_, fun sd S fu hsd h hf => ?_⟩
      · obtain ⟨fu, rfl⟩ : ∃ f, fu = f + 1 := ⟨fu - 1, by omega⟩
        rw [b42_eq, if_neg (show ¬ (400 : Int32) < nI i from nlt_l (a := 400) (by omega) (by omega) (by omega)), if_pos h.2.1.1.2.2.1, hand_l h.1 h.2.1.1, bdq, if_pos (show nI (kdT v len t) = 23 by rw [c]; rfl)]
        exact ⟨S, rfl, FZ.rf, h⟩
      · obtain ⟨fu, rfl⟩ : ∃ f, fu = f + 1 := ⟨fu - 1, by omega⟩
        rw [b_X10_read_112, if_pos h.2.1.1.2.2.1, show (0 : Int32) = nI 0 from rfl, is_l h.1 h.2.1.1 (by decide), bdq, if_pos (show kmN (kdT v len t) = 0 by rw [c]; rfl), if_neg (show ¬ (1 : Int32) = nI 0 by decide)]
        exact ⟨S, rfl, FR.rf, h⟩
    · obtain ⟨st, A', g1, g2, g3⟩ := one_step (t := t) hlen hW
      have hd : ∃ f u, st = .inl (f, u) := by
        cases st with
        | inl e => exact ⟨e.1, e.2, rfl⟩
        | inr w =>
          obtain ⟨t', mk'⟩ := w
          have := g1 t' mk' rfl
          omega
      obtain ⟨f, u, rfl⟩ := hd
      refine ⟨.inl (f, u), A', fun t' mk' e => (by cases e), fun Bc S fu i h hi hf => ?_, fun sd S fu hsd h hf => ?_⟩
      · obtain ⟨fu, rfl⟩ : ∃ f, fu = f + 1 := ⟨fu - 1, by omega⟩
        obtain ⟨fu, rfl⟩ : ∃ f, fu = f + 1 := ⟨fu - 1, by omega⟩
        have hkl : kdT v len t < 128 := kd_lt
        obtain ⟨S1, e1, f1, k1⟩ := g2 Bc S (fun S5 => b_X4_readText_165 (b_X4_readText_42 (fu + 1)) 30 (nI i) S5) h
        rw [b42_eq, if_neg (show ¬ (400 : Int32) < nI i from nlt_l (a := 400) (by omega) (by omega) (by omega)), if_pos h.2.1.1.2.2.1, hand_l h.1 h.2.1.1, bdq, if_neg (show ¬ nI (kdT v len t) = 23 from fun q => c ((nI_eq (b := 23) (by omega) (by decide)).mp q)), hand_l h.1 h.2.1.1, bdq, e1]
        unfold b_X4_readText_165
        have d1 : DDc f (psT v len u) S1 := k1.2.1
        refine ⟨S1, ?_, f1, k1⟩
        show nm (nI i + 1) (fun x1 => b_X4_readText_42 (fu + 1) 30 x1 S1) = _
        rw [nmq, nI_1, b42_eq]
        by_cases c4 : (400 : Int32) < nI (i + 1)
        · rw [if_pos c4]
        · rw [if_neg c4, if_neg (by rw [d1.1]; exact f_nz d1.2.2.1)]
      · obtain ⟨fu, rfl⟩ : ∃ f, fu = f + 1 := ⟨fu - 1, by omega⟩
        obtain ⟨fu, rfl⟩ : ∃ f, fu = f + 1 := ⟨fu - 1, by omega⟩
        obtain ⟨S1, e1, f1, k1⟩ := g3 sd S hsd h
        have hkl : kdT v len t < 128 := kd_lt
        have d1 : DDm f (psT v len u) S1 := k1.2.1
        rw [b_X10_read_112, if_pos h.2.1.1.2.2.1, show f_X10_is 140 0 S = _ from is_l (k := 0) h.1 h.2.1.1 (by decide), bdq, if_neg (fun q => c ((km_b _ hkl).2.1.mp q)), if_pos rfl, e1, bdq, b_X10_read_112, if_neg (by rw [d1.1]; exact f_nz d1.2.2.1)]
        exact ⟨S1, rfl, f1, k1⟩
  | succ n ih =>
    intro t mk A ht hn hW
    by_cases c : kdT v len t = 23
    · refine ⟨.inr (t, mk), A, fun t' mk' e => (by cases e; exact hW), fun Bc S fu i h hi hf => ?_, fun sd S fu hsd h hf => ?_⟩
      · obtain ⟨fu, rfl⟩ : ∃ f, fu = f + 1 := ⟨fu - 1, by omega⟩
        rw [b42_eq, if_neg (show ¬ (400 : Int32) < nI i from nlt_l (a := 400) (by omega) (by omega) (by omega)), if_pos h.2.1.1.2.2.1, hand_l h.1 h.2.1.1, bdq, if_pos (show nI (kdT v len t) = 23 by rw [c]; rfl)]
        exact ⟨S, rfl, FZ.rf, h⟩
      · obtain ⟨fu, rfl⟩ : ∃ f, fu = f + 1 := ⟨fu - 1, by omega⟩
        rw [b_X10_read_112, if_pos h.2.1.1.2.2.1, show f_X10_is 140 0 S = _ from is_l (k := 0) h.1 h.2.1.1 (by decide), bdq, if_pos (show kmN (kdT v len t) = 0 by rw [c]; rfl), if_neg ne10]
        exact ⟨S, rfl, FR.rf, h⟩
    · obtain ⟨st, A', g1, g2, g3⟩ := one_step (t := t) hlen hW
      have hkl : kdT v len t < 128 := kd_lt
      cases st with
      | inl e =>
        obtain ⟨f, u⟩ := e
        refine ⟨.inl (f, u), A', fun t' mk' e => (by cases e), fun Bc S fu i h hi hf => ?_, fun sd S fu hsd h hf => ?_⟩
        · obtain ⟨fu, rfl⟩ : ∃ f, fu = f + 1 := ⟨fu - 1, by omega⟩
          obtain ⟨fu, rfl⟩ : ∃ f, fu = f + 1 := ⟨fu - 1, by omega⟩
          obtain ⟨S1, e1, f1, k1⟩ := g2 Bc S (fun S5 => b_X4_readText_165 (b_X4_readText_42 (fu + 1)) 30 (nI i) S5) h
          rw [b42_eq, if_neg (show ¬ (400 : Int32) < nI i from nlt_l (a := 400) (by omega) (by omega) (by omega)), if_pos h.2.1.1.2.2.1, hand_l h.1 h.2.1.1, bdq, if_neg (show ¬ nI (kdT v len t) = 23 from fun q => c ((nI_eq (b := 23) (by omega) (by decide)).mp q)), hand_l h.1 h.2.1.1, bdq, e1]
          unfold b_X4_readText_165
          have d1 : DDc f (psT v len u) S1 := k1.2.1
          refine ⟨S1, ?_, f1, k1⟩
          show nm (nI i + 1) (fun x1 => b_X4_readText_42 (fu + 1) 30 x1 S1) = _
          rw [nmq, nI_1, b42_eq]
          by_cases c4 : (400 : Int32) < nI (i + 1)
          · rw [if_pos c4]
          · rw [if_neg c4, if_neg (by rw [d1.1]; exact f_nz d1.2.2.1)]
        · obtain ⟨fu, rfl⟩ : ∃ f, fu = f + 1 := ⟨fu - 1, by omega⟩
          obtain ⟨fu, rfl⟩ : ∃ f, fu = f + 1 := ⟨fu - 1, by omega⟩
          obtain ⟨S1, e1, f1, k1⟩ := g3 sd S hsd h
          have d1 : DDm f (psT v len u) S1 := k1.2.1
          rw [b_X10_read_112, if_pos h.2.1.1.2.2.1, show f_X10_is 140 0 S = _ from is_l (k := 0) h.1 h.2.1.1 (by decide), bdq, if_neg (fun q => c ((km_b _ hkl).2.1.mp q)), if_pos rfl, e1, bdq, b_X10_read_112, if_neg (by rw [d1.1]; exact f_nz d1.2.2.1)]
          exact ⟨S1, rfl, f1, k1⟩
      | inr w =>
        obtain ⟨t', mk'⟩ := w
        obtain ⟨y1, y2, y3⟩ := g1 t' mk' rfl
        obtain ⟨st, A2, i1, i2, i3⟩ := ih t' mk' A' y2 (by omega) y3
        refine ⟨st, A2, i1, fun Bc S fu i h hi hf => ?_, fun sd S fu hsd h hf => ?_⟩
        · obtain ⟨fu, rfl⟩ : ∃ f, fu = f + 1 := ⟨fu - 1, by omega⟩
          obtain ⟨S1, e1, f1, k1⟩ := g2 Bc S (fun S5 => b_X4_readText_165 (b_X4_readText_42 fu) 30 (nI i) S5) h
          obtain ⟨S2, e2, f2, k2⟩ := i2 Bc S1 fu (i + 1) k1 (by omega) (by omega)
          rw [b42_eq, if_neg (show ¬ (400 : Int32) < nI i from nlt_l (a := 400) (by omega) (by omega) (by omega)), if_pos h.2.1.1.2.2.1, hand_l h.1 h.2.1.1, bdq, if_neg (show ¬ nI (kdT v len t) = 23 from fun q => c ((nI_eq (b := 23) (by omega) (by decide)).mp q)), hand_l h.1 h.2.1.1, bdq, e1]
          unfold b_X4_readText_165
          refine ⟨S2, ?_, f1.tr f2, k2⟩
          show nm (nI i + 1) (fun x1 => b_X4_readText_42 fu 30 x1 S1) = _
          rw [nmq, nI_1, e2]
        · obtain ⟨fu, rfl⟩ : ∃ f, fu = f + 1 := ⟨fu - 1, by omega⟩
          obtain ⟨S1, e1, f1, k1⟩ := g3 sd S hsd h
          obtain ⟨S2, e2, f2, k2⟩ := i3 sd S1 fu hsd k1 (by omega)
          rw [b_X10_read_112, if_pos h.2.1.1.2.2.1, show f_X10_is 140 0 S = _ from is_l (k := 0) h.1 h.2.1.1 (by decide), bdq, if_neg (fun q => c ((km_b _ hkl).2.1.mp q)), if_pos rfl, e1, bdq, e2]
          exact ⟨S2, rfl, f1.tr f2, k2⟩
end TXT

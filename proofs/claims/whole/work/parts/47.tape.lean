/-! the tape: feed, back, place -/
def bt (w sh : Int32) : Int32 := (w >>> (sh &&& 31)).toInt8.toInt32
theorem nar8 (x : Int32) : vp_nar .byte x.toInt8.toInt32 = x.toInt8.toInt32 := by rw [vp_nar_byte, Int8.toInt8_toInt32]
theorem bv_low (x : BitVec 32) (k : Nat) (hk : k ≤ 24) : BitVec.signExtend 8 (x >>> k) = BitVec.signExtend 8 (x.sshiftRight k) := by
  apply BitVec.eq_of_getLsbD_eq
  intro i hi
  have h1 : k + i < 32 := by omega
  have h2 : i < 32 := by omega
  have h3 : ¬ 32 ≤ i := by omega
  rw [BitVec.getLsbD_signExtend, BitVec.getLsbD_signExtend, if_pos h2, if_pos h2, BitVec.getLsbD_ushiftRight, BitVec.getLsbD_sshiftRight, if_pos h1]
  simp [h3]
theorem ush_low (w : Int32) (k : Nat) (hk : k = 0 ∨ k = 8 ∨ k = 16 ∨ k = 24) : ((w.toUInt32 >>> ((nI k).toUInt32 &&& Int32.toUInt32 31)).toInt32).toInt8 = (w >>> (nI k &&& 31)).toInt8 := by
  rw [← Int8.toBitVec_inj]
  rcases hk with rfl | rfl | rfl | rfl
  · exact bv_low w.toBitVec 0 (by decide)
  · exact bv_low w.toBitVec 8 (by decide)
  · exact bv_low w.toBitVec 16 (by decide)
  · exact bv_low w.toBitVec 24 (by decide)
def RPc (len : Nat) (tp : Nat → Int32) (S : St) : Prop := len ≤ 2000 ∧ S.1 0 1 = nI len ∧ ∀ i, i < len → S.1 1 i = tp i
def RPm (len : Nat) (tp : Nat → Int32) (S : St) : Prop := len ≤ 2000 ∧ S.1 140 2 = nI len ∧ ∀ i, i < len → S.1 141 i = tp i
def tp1 (tp : Nat → Int32) (len : Nat) (v : Int32) : Nat → Int32 := fun i => if i = len then v else tp i
def tp4 (tp : Nat → Int32) (len : Nat) (w : Int32) : Nat → Int32 := tp1 (tp1 (tp1 (tp1 tp len (bt w 24)) (len + 1) (bt w 16)) (len + 2) (bt w 8)) (len + 3) (bt w 0)
def ECp (B : Nat) (S S' : St) : Prop := S'.2 = S.2 ∧ ∀ a i, obs B a i → (a = 0 → i ≠ 1) → a ≠ 1 → S'.1 a i = S.1 a i
def EMp (S S' : St) : Prop := S'.2 = S.2 ∧ ∀ a i, obm a i → (a = 140 → i ≠ 2) → a ≠ 141 → S'.1 a i = S.1 a i
theorem ECp.tr {B : Nat} {S S' S'' : St} (h : ECp B S S') (g : ECp B S' S'') : ECp B S S'' := ⟨g.1.trans h.1, fun a i o h1 h2 => (g.2 a i o h1 h2).trans (h.2 a i o h1 h2)⟩
theorem EMp.tr {S S' S'' : St} (h : EMp S S') (g : EMp S' S'') : EMp S S'' := ⟨g.1.trans h.1, fun a i o h1 h2 => (g.2 a i o h1 h2).trans (h.2 a i o h1 h2)⟩
section TPE
variable {B B1 C len : Nat} {tp : Nat → Int32}
theorem ff_step {S : St} (hr : S.2.2 = RB B B1 C) (hP : RPc len tp S) (hl : len < 2000) {w sh v : Int32} (hs : ¬ sh < 0) (hv : vp_nar .byte (((w.toUInt32 >>> (sh.toUInt32 &&& Int32.toUInt32 31)).toInt32).toInt8.toInt32) = v) {fu : Nat} : ∃ S', b_X9_feedFour_3 (fu + 1) 0 w sh S = b_X9_feedFour_3 fu 0 w (sh + (-8)) S' ∧ RPc (len + 1) (tp1 tp len v) S' ∧ ECp B S S' := by
  rw [b_X9_feedFour_3, if_neg hs, hP.2.1, if_neg (show ¬ Int32.ofNat 2000 ≤ nI len from fun q => by have := (nI_leI (a := 2000) (by omega) (by omega)).mp q; omega), ix_nI hl (by decide)]
  simp only [Option.bind_some, nm_eq, hr, rb_0_0, sI_2, sI_1, show ¬ (0 : Nat) = 1 by decide, false_and, if_false, hP.2.1, hv, nI_1]
  rw [b_X9_feedFour_42, nm_eq]
  refine ⟨_, rfl, ⟨by omega, by simp only [sI_1, and_self, if_true], fun i hi => ?_⟩, ⟨rfl, fun a i o h1 h2 => ?_⟩⟩
  · simp only [sI_1, show ¬ (1 : Nat) = 0 by decide, false_and, if_false, true_and, tp1]
    by_cases e : i = len
    · rw [if_pos e, if_pos e]
    · rw [if_neg e, if_neg e]
      exact hP.2.2 i (by omega)
  · simp only [sI_1]
    rw [if_neg (fun q => h1 q.1 q.2), if_neg (fun q => h2 q.1)]
theorem c_feedFour {S : St} (hr : S.2.2 = RB B B1 C) (hP : RPc len tp S) (hl : len + 4 ≤ 2000) (w : Int32) : RN (f_X9_feedFour 0 w S) (fun _ S' => RPc (len + 4) (tp4 tp len w) S' ∧ ECp B S S') := by
  unfold f_X9_feedFour
  have hv : ∀ k : Nat, (k = 0 ∨ k = 8 ∨ k = 16 ∨ k = 24) → vp_nar .byte (((w.toUInt32 >>> ((nI k).toUInt32 &&& Int32.toUInt32 31)).toInt32).toInt8.toInt32) = bt w (nI k) := fun k hk => by rw [nar8, ush_low w k hk]; rfl
  obtain ⟨S1, e1, p1, c1⟩ := ff_step (fu := 4999) hr hP (by omega) (sh := nI 24) (by decide) (hv 24 (by decide))
  obtain ⟨S2, e2, p2, c2⟩ := ff_step (fu := 4998) (by rw [c1.1]; exact hr) p1 (by omega) (sh := nI 16) (by decide) (hv 16 (by decide))
  obtain ⟨S3, e3, p3, c3⟩ := ff_step (fu := 4997) (by rw [c2.1, c1.1]; exact hr) p2 (by omega) (sh := nI 8) (by decide) (hv 8 (by decide))
  obtain ⟨S4, e4, p4, c4⟩ := ff_step (fu := 4996) (by rw [c3.1, c2.1, c1.1]; exact hr) p3 (by omega) (sh := nI 0) (by decide) (hv 0 (by decide))
  rw [show b_X9_feedFour_3 FU 0 w 24 S = b_X9_feedFour_3 (4999 + 1) 0 w (nI 24) S from rfl, e1, show nI 24 + (-8) = nI 16 by decide, show (4999 : Nat) = 4998 + 1 from rfl, e2, show nI 16 + (-8) = nI 8 by decide, show (4998 : Nat) = 4997 + 1 from rfl, e3, show nI 8 + (-8) = nI 0 by decide, show (4997 : Nat) = 4996 + 1 from rfl, e4, show (4996 : Nat) = 4995 + 1 from rfl, b_X9_feedFour_3, if_pos (by decide)]
  exact RN_some ⟨p4, ((c1.tr c2).tr c3).tr c4⟩
def feed5 (tp : Nat → Int32) (len : Nat) (a b c d e : Int32) : Nat → Int32 := tp4 (tp4 (tp4 (tp4 (tp4 tp len a) (len + 4) b) (len + 8) c) (len + 12) d) (len + 16) e
theorem c_feed {S : St} (hr : S.2.2 = RB B B1 C) (hP : RPc len tp S) (a b c d e : Int32) : RN (f_X9_feed 0 a b c d e S) (fun r S' => (len + 20 ≤ 2000 ∧ r = nI (len + 20) ∧ RPc (len + 20) (feed5 tp len a b c d e) S' ∧ ECp B S S') ∨ (¬ len + 20 ≤ 2000 ∧ r = -1 ∧ S' = S)) := by
  have h2 := hP.1
  unfold f_X9_feed
  rw [hP.2.1]
  by_cases hl : len + 20 ≤ 2000
  · rw [if_pos (show nI len ≤ 1980 from (nI_leI (b := 1980) (by omega) (by omega)).mpr (by omega))]
    refine RN_bd (c_feedFour hr hP (by omega) a) (fun _ S1 h1 => RN_bd (c_feedFour (by rw [h1.2.1]; exact hr) h1.1 (by omega) b) (fun _ S2 h2 => RN_bd (c_feedFour (by rw [h2.2.1, h1.2.1]; exact hr) h2.1 (by omega) c) (fun _ S3 h3 => RN_bd (c_feedFour (by rw [h3.2.1, h2.2.1, h1.2.1]; exact hr) h3.1 (by omega) d) (fun _ S4 h4 => RN_bd (c_feedFour (by rw [h4.2.1, h3.2.1, h2.2.1, h1.2.1]; exact hr) h4.1 (by omega) e) (fun _ S5 h5 => ?_)))))
    exact RN_some (Or.inl ⟨hl, h5.1.2.1, h5.1, (((h1.2.tr h2.2).tr h3.2).tr h4.2).tr h5.2⟩)
  · rw [if_neg (show ¬ nI len ≤ 1980 from fun q => by have := (nI_leI (b := 1980) (by omega) (by omega)).mp q; omega)]
    exact RN_some (Or.inr ⟨hl, rfl, rfl⟩)
theorem mp_step {S : St} (hr : S.2.2 = RB B B1 C) (hP : RPm len tp S) (hl : len < 2000) {w sh : Int32} (hs : ¬ sh < 0) {fu : Nat} : ∃ S', b_X10_put_3 (fu + 1) 140 w sh S = b_X10_put_3 fu 140 w (sh + (-8)) S' ∧ RPm (len + 1) (tp1 tp len (bt w sh)) S' ∧ EMp S S' := by
  rw [b_X10_put_3, if_neg hs, hP.2.1, ix_nI hl (by decide)]
  simp only [Option.bind_some, nm_eq, hr, rb_140_1, sI_2, sI_1, show ¬ (140 : Nat) = 141 by decide, false_and, if_false, hP.2.1, nar8, nI_1]
  refine ⟨_, rfl, ⟨by omega, by simp only [sI_1, and_self, if_true], fun i hi => ?_⟩, ⟨rfl, fun a i o h1 h2 => ?_⟩⟩
  · simp only [sI_1, show ¬ (141 : Nat) = 140 by decide, false_and, if_false, true_and, tp1]
    by_cases e : i = len
    · rw [if_pos e, if_pos e]; rfl
    · rw [if_neg e, if_neg e]
      exact hP.2.2 i (by omega)
  · simp only [sI_1]
    rw [if_neg (fun q => h1 q.1 q.2), if_neg (fun q => h2 q.1)]
theorem m_put {S : St} (hr : S.2.2 = RB B B1 C) (hP : RPm len tp S) (hl : len + 4 ≤ 2000) (w : Int32) : RN (f_X10_put 140 w S) (fun _ S' => RPm (len + 4) (tp4 tp len w) S' ∧ EMp S S') := by
  unfold f_X10_put
  obtain ⟨S1, e1, p1, c1⟩ := mp_step (fu := 4999) (w := w) hr hP (by omega) (sh := 24) (by decide)
  obtain ⟨S2, e2, p2, c2⟩ := mp_step (fu := 4998) (w := w) (by rw [c1.1]; exact hr) p1 (by omega) (sh := 16) (by decide)
  obtain ⟨S3, e3, p3, c3⟩ := mp_step (fu := 4997) (w := w) (by rw [c2.1, c1.1]; exact hr) p2 (by omega) (sh := 8) (by decide)
  obtain ⟨S4, e4, p4, c4⟩ := mp_step (fu := 4996) (w := w) (by rw [c3.1, c2.1, c1.1]; exact hr) p3 (by omega) (sh := 0) (by decide)
  rw [show b_X10_put_3 FU 140 w 24 S = b_X10_put_3 (4999 + 1) 140 w 24 S from rfl, e1, show (24 : Int32) + (-8) = 16 by decide, show (4999 : Nat) = 4998 + 1 from rfl, e2, show (16 : Int32) + (-8) = 8 by decide, show (4998 : Nat) = 4997 + 1 from rfl, e3, show (8 : Int32) + (-8) = 0 by decide, show (4997 : Nat) = 4996 + 1 from rfl, e4, show (4996 : Nat) = 4995 + 1 from rfl, b_X10_put_3, if_pos (by decide)]
  exact RN_some ⟨p4, ((c1.tr c2).tr c3).tr c4⟩
theorem m_feed {S : St} (hr : S.2.2 = RB B B1 C) (hP : RPm len tp S) (a b c d e : Int32) : RN (f_X10_feed 140 a b c d e S) (fun r S' => (len + 20 ≤ 2000 ∧ r = nI (len + 20) ∧ RPm (len + 20) (feed5 tp len a b c d e) S' ∧ EMp S S') ∨ (¬ len + 20 ≤ 2000 ∧ r = -1 ∧ S' = S)) := by
  have h2 := hP.1
  unfold f_X10_feed
  rw [hP.2.1, show nI len + 20 = nI (len + 20) from nI_add len 20]
  by_cases hl : len + 20 ≤ 2000
  · rw [if_pos (show nI (len + 20) ≤ 2000 from (nI_leI (b := 2000) (by omega) (by omega)).mpr (by omega))]
    refine RN_bd (m_put hr hP (by omega) a) (fun _ S1 h1 => RN_bd (m_put (by rw [h1.2.1]; exact hr) h1.1 (by omega) b) (fun _ S2 h2 => RN_bd (m_put (by rw [h2.2.1, h1.2.1]; exact hr) h2.1 (by omega) c) (fun _ S3 h3 => RN_bd (m_put (by rw [h3.2.1, h2.2.1, h1.2.1]; exact hr) h3.1 (by omega) d) (fun _ S4 h4 => RN_bd (m_put (by rw [h4.2.1, h3.2.1, h2.2.1, h1.2.1]; exact hr) h4.1 (by omega) e) (fun _ S5 h5 => ?_)))))
    exact RN_some (Or.inl ⟨hl, h5.1.2.1, h5.1, (((h1.2.tr h2.2).tr h3.2).tr h4.2).tr h5.2⟩)
  · rw [if_neg (show ¬ nI (len + 20) ≤ 2000 from fun q => by have := (nI_leI (b := 2000) (by omega) (by omega)).mp q; omega)]
    exact RN_some (Or.inr ⟨hl, rfl, rfl⟩)
def backOk (len : Nat) (n : Int32) : Prop := 0 ≤ n ∧ n ≤ nI len
theorem c_back {S : St} (hP : RPc len tp S) (n : Int32) : RN (f_X9_back 0 n S) (fun r S' => (∃ j, j ≤ len ∧ n = nI j ∧ r = nI (len - j) ∧ RPc (len - j) tp S' ∧ ECp B S S') ∨ (¬ backOk len n ∧ r = -1 ∧ S' = S)) := by
  have h2 := hP.1
  unfold f_X9_back
  rw [hP.2.1]
  by_cases hn : n < 0
  · rw [if_pos hn]
    exact RN_some (Or.inr ⟨fun q => by have h1 := i32_lt.mp hn; have h2 := i32_le.mp q.1; omega, rfl, rfl⟩)
  · rw [if_neg hn]
    by_cases hl : n ≤ nI len
    · obtain ⟨j, hj, rfl⟩ := k_of (n := len) (by omega) ⟨by rw [i32_le]; rw [i32_lt] at hn; omega, hl⟩
      rw [if_pos hl, nm_eq, pk_sub hj]
      refine RN_some (Or.inl ⟨j, hj, rfl, by simp only [sI_1, and_self, if_true], ⟨by omega, by simp only [sI_1, and_self, if_true], fun i hi => ?_⟩, rfl, fun a i o h1 h2 => ?_⟩)
      · simp only [sI_1, show ¬ (1 : Nat) = 0 by decide, false_and, if_false]
        exact hP.2.2 i (by omega)
      · simp only [sI_1]
        rw [if_neg (fun q => h1 q.1 q.2)]
    · rw [if_neg hl]
      exact RN_some (Or.inr ⟨fun q => hl q.2, rfl, rfl⟩)
theorem m_back {S : St} (hP : RPm len tp S) (n : Int32) : RN (f_X10_back 140 n S) (fun r S' => (∃ j, j ≤ len ∧ n = nI j ∧ r = nI (len - j) ∧ RPm (len - j) tp S' ∧ EMp S S') ∨ (¬ backOk len n ∧ r = -1 ∧ S' = S)) := by
  have h2 := hP.1
  unfold f_X10_back
  rw [hP.2.1]
  by_cases hn : n < 0
  · rw [if_pos hn]
    exact RN_some (Or.inr ⟨fun q => by have h1 := i32_lt.mp hn; have h2 := i32_le.mp q.1; omega, rfl, rfl⟩)
  · rw [if_neg hn]
    by_cases hl : n ≤ nI len
    · obtain ⟨j, hj, rfl⟩ := k_of (n := len) (by omega) ⟨by rw [i32_le]; rw [i32_lt] at hn; omega, hl⟩
      rw [if_pos hl, nm_eq, pk_sub hj]
      refine RN_some (Or.inl ⟨j, hj, rfl, by simp only [sI_1, and_self, if_true], ⟨by omega, by simp only [sI_1, and_self, if_true], fun i hi => ?_⟩, rfl, fun a i o h1 h2 => ?_⟩)
      · simp only [sI_1, show ¬ (141 : Nat) = 140 by decide, false_and, if_false]
        exact hP.2.2 i (by omega)
      · simp only [sI_1]
        rw [if_neg (fun q => h1 q.1 q.2)]
    · rw [if_neg hl]
      exact RN_some (Or.inr ⟨fun q => hl q.2, rfl, rfl⟩)
end TPE

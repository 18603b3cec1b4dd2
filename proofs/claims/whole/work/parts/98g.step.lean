/-! a step of the law, and all of it -/
def DC : Nat → Prop := fun a => 0 ≤ a ∧ a < 140
def DM : Nat → Prop := fun a => 140 ≤ a ∧ a < 187
theorem dc_1 : dnok 191 0 140 (RB 2 16 2) = true := by decide +kernel
theorem dc_2 : dnok 191 0 140 (RB 2 16 16) = true := by decide +kernel
theorem dc_3 : dnok 191 0 140 (RB 16 2 2) = true := by decide +kernel
theorem dc_4 : dnok 191 0 140 (RB 16 2 16) = true := by decide +kernel
theorem dm_1 : dnok 191 140 187 (RB 2 16 2) = true := by decide +kernel
theorem dm_2 : dnok 191 140 187 (RB 2 16 16) = true := by decide +kernel
theorem dm_3 : dnok 191 140 187 (RB 16 2 2) = true := by decide +kernel
theorem dm_4 : dnok 191 140 187 (RB 16 2 16) = true := by decide +kernel
theorem wt_c {f : Nat → Nat → Nat} (h : RFW f) : WT DC f := by
  obtain ⟨B, B1, C, rfl, h1 | h1, h2 | h2⟩ := h
  · obtain ⟨rfl, rfl⟩ := h1; subst h2; exact dn_WT dc_1
  · obtain ⟨rfl, rfl⟩ := h1; subst h2; exact dn_WT dc_2
  · obtain ⟨rfl, rfl⟩ := h1; subst h2; exact dn_WT dc_3
  · obtain ⟨rfl, rfl⟩ := h1; subst h2; exact dn_WT dc_4
theorem wt_m {f : Nat → Nat → Nat} (h : RFW f) : WT DM f := by
  obtain ⟨B, B1, C, rfl, h1 | h1, h2 | h2⟩ := h
  · obtain ⟨rfl, rfl⟩ := h1; subst h2; exact dn_WT dm_1
  · obtain ⟨rfl, rfl⟩ := h1; subst h2; exact dn_WT dm_2
  · obtain ⟨rfl, rfl⟩ := h1; subst h2; exact dn_WT dm_3
  · obtain ⟨rfl, rfl⟩ := h1; subst h2; exact dn_WT dm_4
theorem kc_0 : KA DC 0 (0, 9) := ⟨by decide, by decide, by decide⟩
theorem km_140 : KA DM 140 (0, 10) := ⟨by decide, by decide, by decide⟩
section STP
variable {B lv T : Nat} {g : GS} {S S' : St}
theorem RFW.m {f : Nat → Nat → Nat} (h : RFW f) : RFM f := by
  obtain ⟨B, B1, C, e, -⟩ := h
  exact ⟨B, B1, C, e⟩
theorem RM_o (h : RM lv T g S) (hq : FQ S S') (hr : RFM S'.2.2) : RM lv T g S' := by
  have h1 : RM lv T g (S'.1, S'.2.1, S.2.2) := RM_e h ⟨rfl, fun a i z => (hq a (by unfold obm at z; omega)).1 i, fun i => (hq 147 (by decide)).2 i⟩
  obtain ⟨⟨_, a2, a3, a4, a5, a6, a7, a8, a9, a10, a11⟩, h3⟩ := h1
  exact ⟨⟨hr, a2, a3, a4, a5, a6, a7, a8, a9, a10, fun k hk => RLm_set (a11 k hk) (fun _ _ _ _ => rfl)⟩, h3⟩
theorem PG_F {fc fm : St → Option (Int32 × St)} (h : PG B lv T g fc fm) (ho : ∀ S, WT DC S.2.2 → OD DC (fc S) S) : PGF B lv T g fc fm := by
  obtain ⟨r, g', B', lv', h1, h2, h3⟩ := h
  refine ⟨r, g', B', lv', h1, fun S hS hw => ?_, h3⟩
  obtain ⟨r', S1, e1, e2, e3⟩ := h2 S hS
  have od := ho S (wt_c hw) _ e1
  refine ⟨r', S1, e1, e2, e3, fun a ha => ?_, ?_⟩
  · have := od.2 a (fun q => by have := q.2; omega)
    exact ⟨fun i => congrFun this.1 i, fun i => congrFun this.2 i⟩
  · have e4 : S1.2.2 = S.2.2 := od.1
    rw [e4]
    exact hw
def INV (T : Nat) (S : St) : Prop := ∃ g B lv, RC B T g S ∧ RM lv T g S ∧ BT g ∧ RFW S.2.2
theorem step_F {fc fm : St → Option (Int32 × St)} (hI : INV T S) (hp : ∀ B lv g, BT g → PGF B lv T g fc fm) (om : ∀ S, WT DM S.2.2 → OD DM (fm S) S) : ∃ r S6 S12, fc S = some (r, S6) ∧ fm S6 = some (r, S12) ∧ INV (T + 60) S12 := by
  obtain ⟨g, B, lv, hc, hm, hb, hw⟩ := hI
  obtain ⟨r, g', B', lv', p1, p2, p3⟩ := hp B lv g hb
  obtain ⟨r6, S6, e6, rfl, c6, q6, w6⟩ := p2 S hc hw
  obtain ⟨r12, S12, e12, rfl, m12⟩ := p3 S6 (RM_o hm q6 w6.m)
  have od := om S6 (wt_m w6) _ e12
  have e4 : S12.2.2 = S6.2.2 := od.1
  have hBB := c6.hB
  refine ⟨r12, S6, S12, e6, e12, g', B', lv', RC_e c6 ⟨e4, fun a i z => congrFun (od.2 a (fun q => by have := q.1; unfold obs at z; omega)).1 i⟩, m12, p1 hb, by rw [e4]; exact w6⟩
end STP
section LWR
variable {L : Nat} {xs : Nat → Int32}
theorem i6 {j k : Nat} : nI (6 * j) + nI k = nI (6 * j + k) := nI_add _ _
set_option maxRecDepth 20000 in
set_option maxHeartbeats 8000000 in
theorem law_run (hL : L ≤ 3072) : ∀ (n j fu : Nat) (S : St), j + n = 513 → n < fu → INV (60 * j) S → ∃ r, b_law L xs fu (nI (6 * j)) S = some r := by
  intro n
  induction n with
  | zero =>
    intro j fu S hj hf hI
    obtain ⟨fu, rfl⟩ : ∃ f, fu = f + 1 := ⟨fu - 1, by omega⟩
    rw [b_law, if_pos (show Int32.ofNat L - 6 < nI (6 * j) by
      rw [i32_lt, show Int32.ofNat L - 6 = nI L - nI 6 from rfl, sub_toInt (by omega) (by decide), nI_toInt (by omega)]
      show (L : Int) - 6 < _
      omega)]
    exact ⟨_, rfl⟩
  | succ n ih =>
    intro j fu S hj hf hI
    obtain ⟨fu, rfl⟩ : ∃ f, fu = f + 1 := ⟨fu - 1, by omega⟩
    by_cases c : (L : Int) - 6 < ((6 * j : Nat) : Int)
    · rw [b_law, if_pos (show Int32.ofNat L - 6 < nI (6 * j) by
        rw [i32_lt, show Int32.ofNat L - 6 = nI L - nI 6 from rfl, sub_toInt (by omega) (by decide), nI_toInt (by omega)]
        exact c)]
      exact ⟨_, rfl⟩
    have hj5 : 6 * j + 6 ≤ L := by omega
    have hT1 : 60 * j ≤ 31000 := by omega
    have hT2 : 60 * j ≤ 30940 := by omega
    have x1 : ix (nI (6 * j) + 1) L = some (6 * j + 1) := by rw [show nI (6 * j) + 1 = nI (6 * j + 1) from i6 (k := 1)]; exact ix_nI (by omega) (by omega)
    have x2 : ix (nI (6 * j) + 2) L = some (6 * j + 2) := by rw [show nI (6 * j) + 2 = nI (6 * j + 2) from i6 (k := 2)]; exact ix_nI (by omega) (by omega)
    have x3 : ix (nI (6 * j) + 3) L = some (6 * j + 3) := by rw [show nI (6 * j) + 3 = nI (6 * j + 3) from i6 (k := 3)]; exact ix_nI (by omega) (by omega)
    have x4 : ix (nI (6 * j) + 4) L = some (6 * j + 4) := by rw [show nI (6 * j) + 4 = nI (6 * j + 4) from i6 (k := 4)]; exact ix_nI (by omega) (by omega)
    have x5 : ix (nI (6 * j) + 5) L = some (6 * j + 5) := by rw [show nI (6 * j) + 5 = nI (6 * j + 5) from i6 (k := 5)]; exact ix_nI (by omega) (by omega)
    have x6 : nI (6 * j) + 6 = nI (6 * (j + 1)) := (i6 (k := 6)).trans (by rw [show 6 * j + 6 = 6 * (j + 1) by omega])
    have go : ∀ S12, INV (60 * j + 60) S12 → ∃ r, b_law L xs fu (nI (6 * (j + 1))) S12 = some r := fun S12 h => ih (j + 1) fu S12 (by omega) (by omega) (by rw [show 60 * (j + 1) = 60 * j + 60 by omega]; exact h)
    rw [b_law, if_neg (show ¬ Int32.ofNat L - 6 < nI (6 * j) by
      rw [i32_lt, show Int32.ofNat L - 6 = nI L - nI 6 from rfl, sub_toInt (by omega) (by decide), nI_toInt (by omega)]
      exact c), ix_nI (show 6 * j < L by omega) (by omega), obq, nmq]
    generalize xs (6 * j) &&& 63 = x
    by_cases h0 : x = 0
    · obtain ⟨r, S6, S12, e6, e12, hz⟩ := step_F (fc := f_X9_feed 0 (xs (6 * j + 1)) (xs (6 * j + 2)) (xs (6 * j + 3)) (xs (6 * j + 4)) (xs (6 * j + 5))) (fm := f_X10_feed 140 (xs (6 * j + 1)) (xs (6 * j + 2)) (xs (6 * j + 3)) (xs (6 * j + 4)) (xs (6 * j + 5))) hI (fun B lv g _ => PG_F (g_feed _ _ _ _ _) (fun S w => o_X9_feed 0 kc_0 _ _ _ _ _ S w)) (fun S w => o_X10_feed 140 km_140 _ _ _ _ _ S w)
      rw [if_pos h0, x1, x2, x3, x4, x5, obq, obq, obq, obq, obq, e6, bdq, obq, obq, obq, obq, obq, e12, bdq, if_pos rfl, nmq, x6]
      exact go S12 hz
    rw [if_neg h0]
    by_cases h1 : x = 1
    · obtain ⟨r, S6, S12, e6, e12, hz⟩ := step_F (fc := f_X9_back 0 (xs (6 * j + 1))) (fm := f_X10_back 140 (xs (6 * j + 1))) hI (fun B lv g _ => PG_F (g_back _) (fun S w => o_X9_back 0 kc_0 _ S w)) (fun S w => o_X10_back 140 km_140 _ S w)
      rw [if_pos h1, x1, obq, e6, bdq, obq, e12, bdq, if_pos rfl, nmq, x6]
      exact go S12 hz
    rw [if_neg h1]
    by_cases h2 : x = 2
    · obtain ⟨r, S6, S12, e6, e12, hz⟩ := step_F (fc := f_X9_read 0 ) (fm := f_X10_read 140 ) hI (fun B lv g hb => g_read hb) (fun S w => o_X10_read 140 km_140  S w)
      rw [if_pos h2, e6, bdq, e12, bdq, if_pos rfl, nmq, x6]
      exact go S12 hz
    rw [if_neg h2]
    by_cases h3 : x = 3
    · obtain ⟨r, S6, S12, e6, e12, hz⟩ := step_F (fc := f_X9_place 0 ) (fm := f_X10_place 140 ) hI (fun B lv g _ => PG_F (g_place ) (fun S w => o_X9_place 0 kc_0  S w)) (fun S w => o_X10_place 140 km_140  S w)
      rw [if_pos h3, e6, bdq, e12, bdq, if_pos rfl, nmq, x6]
      exact go S12 hz
    rw [if_neg h3]
    by_cases h4 : x = 4
    · obtain ⟨r, S6, S12, e6, e12, hz⟩ := step_F (fc := f_X9_mermaid 0 (xs (6 * j + 1)) (xs (6 * j + 2))) (fm := f_X10_mermaid 140 (xs (6 * j + 1)) (xs (6 * j + 2))) hI (fun B lv g _ => PG_F (PG_q hT1 (q_mermaid _ _)) (fun S w => o_X9_mermaid 0 kc_0 _ _ S w)) (fun S w => o_X10_mermaid 140 km_140 _ _ S w)
      rw [if_pos h4, x1, x2, obq, obq, e6, bdq, obq, obq, e12, bdq, if_pos rfl, nmq, x6]
      exact go S12 hz
    rw [if_neg h4]
    by_cases h5 : x = 5
    · obtain ⟨r, S6, S12, e6, e12, hz⟩ := step_F (fc := f_X9_person 0 (xs (6 * j + 1)) (xs (6 * j + 2))) (fm := f_X10_person 140 (xs (6 * j + 1)) (xs (6 * j + 2))) hI (fun B lv g _ => PG_F (PG_q hT1 (q_person _ _)) (fun S w => o_X9_person 0 kc_0 _ _ S w)) (fun S w => o_X10_person 140 km_140 _ _ S w)
      rw [if_pos h5, x1, x2, obq, obq, e6, bdq, obq, obq, e12, bdq, if_pos rfl, nmq, x6]
      exact go S12 hz
    rw [if_neg h5]
    by_cases h6 : x = 6
    · obtain ⟨r, S6, S12, e6, e12, hz⟩ := step_F (fc := f_X9_strand 0 (xs (6 * j + 1)) (xs (6 * j + 2))) (fm := f_X10_strand 140 (xs (6 * j + 1)) (xs (6 * j + 2))) hI (fun B lv g _ => PG_F (PG_q hT1 (q_strand _ _)) (fun S w => o_X9_strand 0 kc_0 _ _ S w)) (fun S w => o_X10_strand 140 km_140 _ _ S w)
      rw [if_pos h6, x1, x2, obq, obq, e6, bdq, obq, obq, e12, bdq, if_pos rfl, nmq, x6]
      exact go S12 hz
    rw [if_neg h6]
    by_cases h7 : x = 7
    · obtain ⟨r, S6, S12, e6, e12, hz⟩ := step_F (fc := f_X9_hand 0 (xs (6 * j + 1)) (xs (6 * j + 2))) (fm := f_X10_hand 140 (xs (6 * j + 1)) (xs (6 * j + 2))) hI (fun B lv g _ => PG_F (g_hand hT2 _ _) (fun S w => o_X9_hand 0 kc_0 _ _ S w)) (fun S w => o_X10_hand 140 km_140 _ _ S w)
      rw [if_pos h7, x1, x2, obq, obq, e6, bdq, obq, obq, e12, bdq, if_pos rfl, nmq, x6]
      exact go S12 hz
    rw [if_neg h7]
    by_cases h8 : x = 8
    · obtain ⟨r, S6, S12, e6, e12, hz⟩ := step_F (fc := f_X9_cut 0 (xs (6 * j + 1))) (fm := f_X10_cut 140 (xs (6 * j + 1))) hI (fun B lv g _ => PG_F (g_cut hT2 _) (fun S w => o_X9_cut 0 kc_0 _ S w)) (fun S w => o_X10_cut 140 km_140 _ S w)
      rw [if_pos h8, x1, obq, e6, bdq, obq, e12, bdq, if_pos rfl, nmq, x6]
      exact go S12 hz
    rw [if_neg h8]
    by_cases h9 : x = 9
    · obtain ⟨r, S6, S12, e6, e12, hz⟩ := step_F (fc := f_X9_die 0 (xs (6 * j + 1))) (fm := f_X10_die 140 (xs (6 * j + 1))) hI (fun B lv g _ => PG_F (g_die hT2 _) (fun S w => o_X9_die 0 kc_0 _ S w)) (fun S w => o_X10_die 140 km_140 _ S w)
      rw [if_pos h9, x1, obq, e6, bdq, obq, e12, bdq, if_pos rfl, nmq, x6]
      exact go S12 hz
    rw [if_neg h9]
    by_cases h10 : x = 10
    · obtain ⟨r, S6, S12, e6, e12, hz⟩ := step_F (fc := f_X9_months 0 (xs (6 * j + 1))) (fm := f_X10_months 140 (xs (6 * j + 1))) hI (fun B lv g _ => PG_F (g_months hT2 _) (fun S w => o_X9_months 0 kc_0 _ S w)) (fun S w => o_X10_months 140 km_140 _ S w)
      rw [if_pos h10, x1, obq, e6, bdq, obq, e12, bdq, if_pos rfl, nmq, x6]
      exact go S12 hz
    rw [if_neg h10]
    by_cases h11 : x = 11
    · obtain ⟨r, S6, S12, e6, e12, hz⟩ := step_F (fc := f_X9_undo 0 ) (fm := f_X10_undo 140 ) hI (fun B lv g _ => PG_F (g_undo ) (fun S w => o_X9_undo 0 kc_0  S w)) (fun S w => o_X10_undo 140 km_140  S w)
      rw [if_pos h11, e6, bdq, e12, bdq, if_pos rfl, nmq, x6]
      exact go S12 hz
    rw [if_neg h11]
    by_cases h12 : x = 12
    · obtain ⟨r, S6, S12, e6, e12, hz⟩ := step_F (fc := f_X9_then 0 (xs (6 * j + 1)) (xs (6 * j + 2)) (xs (6 * j + 3))) (fm := f_X10_then 140 (xs (6 * j + 1)) (xs (6 * j + 2)) (xs (6 * j + 3))) hI (fun B lv g _ => PG_F (PG_q hT1 (q_then _ _ _)) (fun S w => o_X9_then 0 kc_0 _ _ _ S w)) (fun S w => o_X10_then 140 km_140 _ _ _ S w)
      rw [if_pos h12, x1, x2, x3, obq, obq, obq, e6, bdq, obq, obq, obq, e12, bdq, if_pos rfl, nmq, x6]
      exact go S12 hz
    rw [if_neg h12]
    by_cases h13 : x = 13
    · obtain ⟨r, S6, S12, e6, e12, hz⟩ := step_F (fc := f_X9_swims 0 (xs (6 * j + 1)) (xs (6 * j + 2)) (xs (6 * j + 3))) (fm := f_X10_swims 140 (xs (6 * j + 1)) (xs (6 * j + 2)) (xs (6 * j + 3))) hI (fun B lv g _ => PG_F (PG_q hT1 (q_swims _ _ _)) (fun S w => o_X9_swims 0 kc_0 _ _ _ S w)) (fun S w => o_X10_swims 140 km_140 _ _ _ S w)
      rw [if_pos h13, x1, x2, x3, obq, obq, obq, e6, bdq, obq, obq, obq, e12, bdq, if_pos rfl, nmq, x6]
      exact go S12 hz
    rw [if_neg h13]
    by_cases h14 : x = 14
    · obtain ⟨r, S6, S12, e6, e12, hz⟩ := step_F (fc := f_X9_first 0 (xs (6 * j + 1))) (fm := f_X10_first 140 (xs (6 * j + 1))) hI (fun B lv g _ => PG_F (PG_q hT1 (q_first _)) (fun S w => o_X9_first 0 kc_0 _ S w)) (fun S w => o_X10_first 140 km_140 _ S w)
      rw [if_pos h14, x1, obq, e6, bdq, obq, e12, bdq, if_pos rfl, nmq, x6]
      exact go S12 hz
    rw [if_neg h14]
    by_cases h15 : x = 15
    · obtain ⟨r, S6, S12, e6, e12, hz⟩ := step_F (fc := f_X9_near 0 (xs (6 * j + 1)) (xs (6 * j + 2)) (xs (6 * j + 3))) (fm := f_X10_near 140 (xs (6 * j + 1)) (xs (6 * j + 2)) (xs (6 * j + 3))) hI (fun B lv g _ => PG_F (PG_q hT1 (q_near _ _ _)) (fun S w => o_X9_near 0 kc_0 _ _ _ S w)) (fun S w => o_X10_near 140 km_140 _ _ _ S w)
      rw [if_pos h15, x1, x2, x3, obq, obq, obq, e6, bdq, obq, obq, obq, e12, bdq, if_pos rfl, nmq, x6]
      exact go S12 hz
    rw [if_neg h15]
    by_cases h16 : x = 16
    · obtain ⟨r, S6, S12, e6, e12, hz⟩ := step_F (fc := f_X9_plait 0 (xs (6 * j + 1)) (xs (6 * j + 2)) (xs (6 * j + 3)) (xs (6 * j + 4))) (fm := f_X10_plait 140 (xs (6 * j + 1)) (xs (6 * j + 2)) (xs (6 * j + 3)) (xs (6 * j + 4))) hI (fun B lv g _ => PG_F (PG_q hT1 (q_plait _ _ _ _)) (fun S w => o_X9_plait 0 kc_0 _ _ _ _ S w)) (fun S w => o_X10_plait 140 km_140 _ _ _ _ S w)
      rw [if_pos h16, x1, x2, x3, x4, obq, obq, obq, obq, e6, bdq, obq, obq, obq, obq, e12, bdq, if_pos rfl, nmq, x6]
      exact go S12 hz
    rw [if_neg h16]
    by_cases h17 : x = 17
    · obtain ⟨r, S6, S12, e6, e12, hz⟩ := step_F (fc := f_X9_turns 0 (xs (6 * j + 1)) (xs (6 * j + 2))) (fm := f_X10_turns 140 (xs (6 * j + 1)) (xs (6 * j + 2))) hI (fun B lv g _ => PG_F (PG_q hT1 (q_turns _ _)) (fun S w => o_X9_turns 0 kc_0 _ _ S w)) (fun S w => o_X10_turns 140 km_140 _ _ S w)
      rw [if_pos h17, x1, x2, obq, obq, e6, bdq, obq, obq, e12, bdq, if_pos rfl, nmq, x6]
      exact go S12 hz
    rw [if_neg h17]
    by_cases h18 : x = 18
    · obtain ⟨r, S6, S12, e6, e12, hz⟩ := step_F (fc := f_X9_strongest 0 (xs (6 * j + 1)) (xs (6 * j + 2))) (fm := f_X10_strongest 140 (xs (6 * j + 1)) (xs (6 * j + 2))) hI (fun B lv g _ => PG_F (PG_q hT1 (q_strongest _ _)) (fun S w => o_X9_strongest 0 kc_0 _ _ S w)) (fun S w => o_X10_strongest 140 km_140 _ _ S w)
      rw [if_pos h18, x1, x2, obq, obq, e6, bdq, obq, obq, e12, bdq, if_pos rfl, nmq, x6]
      exact go S12 hz
    rw [if_neg h18]
    by_cases h19 : x = 19
    · obtain ⟨r, S6, S12, e6, e12, hz⟩ := step_F (fc := f_X9_again 0 (xs (6 * j + 1))) (fm := f_X10_again 140 (xs (6 * j + 1))) hI (fun B lv g _ => PG_F (PG_q hT1 (q_again _)) (fun S w => o_X9_again 0 kc_0 _ S w)) (fun S w => o_X10_again 140 km_140 _ S w)
      rw [if_pos h19, x1, obq, e6, bdq, obq, e12, bdq, if_pos rfl, nmq, x6]
      exact go S12 hz
    rw [if_neg h19]
    by_cases h20 : x = 20
    · obtain ⟨r, S6, S12, e6, e12, hz⟩ := step_F (fc := f_X9_passing 0 (xs (6 * j + 1)) (xs (6 * j + 2)) (xs (6 * j + 3))) (fm := f_X10_passing 140 (xs (6 * j + 1)) (xs (6 * j + 2)) (xs (6 * j + 3))) hI (fun B lv g _ => PG_F (PG_q hT1 (q_passing _ _ _)) (fun S w => o_X9_passing 0 kc_0 _ _ _ S w)) (fun S w => o_X10_passing 140 km_140 _ _ _ S w)
      rw [if_pos h20, x1, x2, x3, obq, obq, obq, e6, bdq, obq, obq, obq, e12, bdq, if_pos rfl, nmq, x6]
      exact go S12 hz
    rw [if_neg h20]
    by_cases h21 : x = 21
    · obtain ⟨r, S6, S12, e6, e12, hz⟩ := step_F (fc := f_X9_even 0 (xs (6 * j + 1))) (fm := f_X10_even 140 (xs (6 * j + 1))) hI (fun B lv g _ => PG_F (PG_q hT1 (q_even _)) (fun S w => o_X9_even 0 kc_0 _ S w)) (fun S w => o_X10_even 140 km_140 _ S w)
      rw [if_pos h21, x1, obq, e6, bdq, obq, e12, bdq, if_pos rfl, nmq, x6]
      exact go S12 hz
    rw [if_neg h21]
    by_cases h22 : x = 22
    · obtain ⟨r, S6, S12, e6, e12, hz⟩ := step_F (fc := f_X9_market 0 (xs (6 * j + 1))) (fm := f_X10_market 140 (xs (6 * j + 1))) hI (fun B lv g _ => PG_F (PG_q hT1 (q_market _)) (fun S w => o_X9_market 0 kc_0 _ S w)) (fun S w => o_X10_market 140 km_140 _ S w)
      rw [if_pos h22, x1, obq, e6, bdq, obq, e12, bdq, if_pos rfl, nmq, x6]
      exact go S12 hz
    rw [if_neg h22]
    by_cases h23 : x = 23
    · obtain ⟨r, S6, S12, e6, e12, hz⟩ := step_F (fc := f_X9_nothing 0 (xs (6 * j + 1)) (xs (6 * j + 2))) (fm := f_X10_nothing 140 (xs (6 * j + 1)) (xs (6 * j + 2))) hI (fun B lv g _ => PG_F (PG_q hT1 (q_nothing _ _)) (fun S w => o_X9_nothing 0 kc_0 _ _ S w)) (fun S w => o_X10_nothing 140 km_140 _ _ S w)
      rw [if_pos h23, x1, x2, obq, obq, e6, bdq, obq, obq, e12, bdq, if_pos rfl, nmq, x6]
      exact go S12 hz
    rw [if_neg h23]
    by_cases h24 : x = 24
    · obtain ⟨r, S6, S12, e6, e12, hz⟩ := step_F (fc := f_X9_safe 0 (xs (6 * j + 1)) (xs (6 * j + 2))) (fm := f_X10_safe 140 (xs (6 * j + 1)) (xs (6 * j + 2))) hI (fun B lv g _ => PG_F (PG_q hT1 (q_safe _ _)) (fun S w => o_X9_safe 0 kc_0 _ _ S w)) (fun S w => o_X10_safe 140 km_140 _ _ S w)
      rw [if_pos h24, x1, x2, obq, obq, e6, bdq, obq, obq, e12, bdq, if_pos rfl, nmq, x6]
      exact go S12 hz
    rw [if_neg h24]
    by_cases h25 : x = 25
    · obtain ⟨r, S6, S12, e6, e12, hz⟩ := step_F (fc := f_X9_cutBest 0 ) (fm := f_X10_cutBest 140 ) hI (fun B lv g _ => PG_F (PG_q hT1 (q_cutBest )) (fun S w => o_X9_cutBest 0 kc_0  S w)) (fun S w => o_X10_cutBest 140 km_140  S w)
      rw [if_pos h25, e6, bdq, e12, bdq, if_pos rfl, nmq, x6]
      exact go S12 hz
    rw [if_neg h25]
    by_cases h26 : x = 26
    · obtain ⟨r, S6, S12, e6, e12, hz⟩ := step_F (fc := f_X9_worth 0 (xs (6 * j + 1))) (fm := f_X10_worth 140 (xs (6 * j + 1))) hI (fun B lv g _ => PG_F (PG_q hT1 (q_worth _)) (fun S w => o_X9_worth 0 kc_0 _ S w)) (fun S w => o_X10_worth 140 km_140 _ S w)
      rw [if_pos h26, x1, obq, e6, bdq, obq, e12, bdq, if_pos rfl, nmq, x6]
      exact go S12 hz
    rw [if_neg h26]
    by_cases h27 : x = 27
    · obtain ⟨r, S6, S12, e6, e12, hz⟩ := step_F (fc := f_X9_give 0 (xs (6 * j + 1))) (fm := f_X10_give 140 (xs (6 * j + 1))) hI (fun B lv g _ => PG_F (PG_q hT1 (q_give _)) (fun S w => o_X9_give 0 kc_0 _ S w)) (fun S w => o_X10_give 140 km_140 _ S w)
      rw [if_pos h27, x1, obq, e6, bdq, obq, e12, bdq, if_pos rfl, nmq, x6]
      exact go S12 hz
    rw [if_neg h27]
    by_cases h28 : x = 28
    · obtain ⟨r, S6, S12, e6, e12, hz⟩ := step_F (fc := f_X9_year 0 (xs (6 * j + 1)) (xs (6 * j + 2)) (xs (6 * j + 3))) (fm := f_X10_year 140 (xs (6 * j + 1)) (xs (6 * j + 2)) (xs (6 * j + 3))) hI (fun B lv g _ => PG_F (PG_q hT1 (q_year _ _ _)) (fun S w => o_X9_year 0 kc_0 _ _ _ S w)) (fun S w => o_X10_year 140 km_140 _ _ _ S w)
      rw [if_pos h28, x1, x2, x3, obq, obq, obq, e6, bdq, obq, obq, obq, e12, bdq, if_pos rfl, nmq, x6]
      exact go S12 hz
    rw [if_neg h28]
    by_cases h29 : x = 29
    · obtain ⟨r, S6, S12, e6, e12, hz⟩ := step_F (fc := f_X9_tell 0 (xs (6 * j + 1)) (xs (6 * j + 2)) (xs (6 * j + 3)) (xs (6 * j + 4))) (fm := f_X10_tell 140 (xs (6 * j + 1)) (xs (6 * j + 2)) (xs (6 * j + 3)) (xs (6 * j + 4))) hI (fun B lv g _ => PG_F (g_tell _ _ _ _) (fun S w => o_X9_tell 0 kc_0 _ _ _ _ S w)) (fun S w => o_X10_tell 140 km_140 _ _ _ _ S w)
      rw [if_pos h29, x1, x2, x3, x4, obq, obq, obq, obq, e6, bdq, obq, obq, obq, obq, e12, bdq, if_pos rfl, nmq, x6]
      exact go S12 hz
    rw [if_neg h29]
    by_cases h30 : x = 30
    · obtain ⟨r, S6, S12, e6, e12, hz⟩ := step_F (fc := f_X9_forget 0 ) (fm := f_X10_forget 140 ) hI (fun B lv g _ => PG_F (g_forget ) (fun S w => o_X9_forget 0 kc_0  S w)) (fun S w => o_X10_forget 140 km_140  S w)
      rw [if_pos h30, e6, bdq, e12, bdq, if_pos rfl, nmq, x6]
      exact go S12 hz
    rw [if_neg h30]
    by_cases h31 : x = 31
    · obtain ⟨r, S6, S12, e6, e12, hz⟩ := step_F (fc := f_X9_where 0 (xs (6 * j + 1))) (fm := f_X10_where 140 (xs (6 * j + 1))) hI (fun B lv g _ => PG_F (g_where _) (fun S w => o_X9_where 0 kc_0 _ S w)) (fun S w => o_X10_where 140 km_140 _ S w)
      rw [if_pos h31, x1, obq, e6, bdq, obq, e12, bdq, if_pos rfl, nmq, x6]
      exact go S12 hz
    rw [if_neg h31]
    by_cases h32 : x = 32
    · obtain ⟨r, S6, S12, e6, e12, hz⟩ := step_F (fc := f_X9_surest 0 (xs (6 * j + 1))) (fm := f_X10_surest 140 (xs (6 * j + 1))) hI (fun B lv g _ => PG_F (g_surest _) (fun S w => o_X9_surest 0 kc_0 _ S w)) (fun S w => o_X10_surest 140 km_140 _ S w)
      rw [if_pos h32, x1, obq, e6, bdq, obq, e12, bdq, if_pos rfl, nmq, x6]
      exact go S12 hz
    rw [if_neg h32]
    by_cases h33 : x = 33
    · obtain ⟨r, S6, S12, e6, e12, hz⟩ := step_F (fc := f_X9_holdNext 0 (xs (6 * j + 1))) (fm := f_X10_holdNext 140 (xs (6 * j + 1))) hI (fun B lv g _ => PG_F (g_holdNext _) (fun S w => o_X9_holdNext 0 kc_0 _ S w)) (fun S w => o_X10_holdNext 140 km_140 _ S w)
      rw [if_pos h33, x1, obq, e6, bdq, obq, e12, bdq, if_pos rfl, nmq, x6]
      exact go S12 hz
    rw [if_neg h33]
    by_cases h34 : x = 34
    · obtain ⟨r, S6, S12, e6, e12, hz⟩ := step_F (fc := f_X9_hold 0 (xs (6 * j + 1))) (fm := f_X10_hold 140 (xs (6 * j + 1))) hI (fun B lv g _ => PG_F (g_hold _) (fun S w => o_X9_hold 0 kc_0 _ S w)) (fun S w => o_X10_hold 140 km_140 _ S w)
      rw [if_pos h34, x1, obq, e6, bdq, obq, e12, bdq, if_pos rfl, nmq, x6]
      exact go S12 hz
    rw [if_neg h34]
    by_cases h35 : x = 35
    · obtain ⟨r, S6, S12, e6, e12, hz⟩ := step_F (fc := f_X9_restore 0 (xs (6 * j + 1))) (fm := f_X10_restore 140 (xs (6 * j + 1))) hI (fun B lv g _ => PG_F (g_restore _) (fun S w => o_X9_restore 0 kc_0 _ S w)) (fun S w => o_X10_restore 140 km_140 _ S w)
      rw [if_pos h35, x1, obq, e6, bdq, obq, e12, bdq, if_pos rfl, nmq, x6]
      exact go S12 hz
    rw [if_neg h35]
    by_cases h36 : x = 36
    · obtain ⟨r, S6, S12, e6, e12, hz⟩ := step_F (fc := f_X9_count 0 (xs (6 * j + 1))) (fm := f_X10_count 140 (xs (6 * j + 1))) hI (fun B lv g _ => PG_F (g_count hT1 _) (fun S w => o_X9_count 0 kc_0 _ S w)) (fun S w => o_X10_count 140 km_140 _ S w)
      rw [if_pos h36, x1, obq, e6, bdq, obq, e12, bdq, if_pos rfl, nmq, x6]
      exact go S12 hz
    rw [if_neg h36]
    rw [nmq, x6]
    obtain ⟨g, B, lv, hc, hm, hb, hw⟩ := hI
    exact go S ⟨g, B, lv, RC_le hc (by omega), RM_le hm (by omega), hb, hw⟩
end LWR

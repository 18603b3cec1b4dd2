set_option maxRecDepth 20000 in
theorem o_X10_person {D : Nat → Prop} (v0 : Nat) (kv0 : KA D v0 (0, 10)) (v1 : Int32) (v2 : Int32) (S : St) (w : WT D S.2.2) : OD D (f_X10_person v0 v1 v2 S) S := by
  unfold f_X10_person
  refine OD_bd (o_X10_isPerson v0 kv0 v1 S w) (fun r2 S1 hS1 => ?_)
  have wS1 : WT D S1.2.2 := by rw [hS1]; exact w
  clear hS1
  refine OD_ite ?_ ?_
  · exact OD_some
  · refine OD_bd (o_X10_copies v0 kv0 S1 wS1) (fun _ S3 hS3 => ?_)
    have wS3 : WT D S3.2.2 := by rw [hS3]; exact wS1
    clear hS3
    refine OD_ix (fun j5 => ?_)
    refine OD_nm (fun x6 => ?_)
    refine OD_ix (fun j7 => ?_)
    refine OD_nm (fun x8 => ?_)
    refine OD_bd (o_X10_wornBits v0 kv0 v1 S3 wS3) (fun r10 S9 hS9 => ?_)
    have wS9 : WT D S9.2.2 := by rw [hS9]; exact wS3
    clear hS9
    refine OD_bd (o_X10_pullsBy v0 kv0 r10 v1 x6 x8 S9 wS9) (fun _ S11 hS11 => ?_)
    have wS11 : WT D S11.2.2 := by rw [hS11]; exact wS9
    clear hS11
    refine OD_ite ?_ ?_
    · exact OD_some
    refine OD_ite ?_ ?_
    · exact OD_some
    refine OD_ite ?_ ?_
    · refine OD_ix (fun j13 => ?_)
      exact OD_some
    refine OD_ite ?_ ?_
    · refine OD_ix (fun j14 => ?_)
      exact OD_some
    refine OD_ite ?_ ?_
    · exact OD_some
    refine OD_ite ?_ ?_
    · exact OD_some
    refine OD_ite ?_ ?_
    · refine OD_bd (o_X10_standsAt v0 kv0 v1 x6 x8 S11 wS11) (fun r16 S15 hS15 => ?_)
      have wS15 : WT D S15.2.2 := by rw [hS15]; exact wS11
      clear hS15
      exact OD_some
    refine OD_ite ?_ ?_
    · refine OD_bd (o_X10_stormOf v0 kv0 v1 S11 wS11) (fun r18 S17 hS17 => ?_)
      have wS17 : WT D S17.2.2 := by rw [hS17]; exact wS11
      clear hS17
      exact OD_some
    refine OD_ite ?_ ?_
    · refine OD_bd (o_X10_wearsOf v0 kv0 v1 S11 wS11) (fun r20 S19 hS19 => ?_)
      have wS19 : WT D S19.2.2 := by rw [hS19]; exact wS11
      clear hS19
      exact OD_some
    exact OD_some
set_option maxRecDepth 20000 in
theorem o_X10_strand {D : Nat → Prop} (v0 : Nat) (kv0 : KA D v0 (0, 10)) (v1 : Int32) (v2 : Int32) (S : St) (w : WT D S.2.2) : OD D (f_X10_strand v0 v1 v2 S) S := by
  unfold f_X10_strand
  refine OD_bd (o_X10_isStrand v0 kv0 v1 S w) (fun r2 S1 hS1 => ?_)
  have wS1 : WT D S1.2.2 := by rw [hS1]; exact w
  clear hS1
  refine OD_ite ?_ ?_
  · exact OD_some
  · refine OD_bd (o_X10_copies v0 kv0 S1 wS1) (fun _ S3 hS3 => ?_)
    have wS3 : WT D S3.2.2 := by rw [hS3]; exact wS1
    clear hS3
    refine OD_ix (fun j5 => ?_)
    refine OD_nm (fun x6 => ?_)
    refine OD_ite ?_ ?_
    · refine OD_bd (o_X10_whose v0 kv0 v1 S3 wS3) (fun r8 S7 hS7 => ?_)
      have wS7 : WT D S7.2.2 := by rw [hS7]; exact wS3
      clear hS7
      exact OD_some
    refine OD_ite ?_ ?_
    · exact OD_some
    refine OD_ite ?_ ?_
    · refine OD_ix (fun j9 => ?_)
      exact OD_some
    refine OD_ite ?_ ?_
    · refine OD_ix (fun j10 => ?_)
      exact OD_some
    refine OD_ite ?_ ?_
    · refine OD_ix (fun j11 => ?_)
      refine OD_ix (fun j12 => ?_)
      refine OD_bd (o_X10_pullAt v0 kv0 v1 x6 (S3.1 (S3.2.2 v0 52) j11) (S3.1 (S3.2.2 v0 52) j12) S3 wS3) (fun r14 S13 hS13 => ?_)
      have wS13 : WT D S13.2.2 := by rw [hS13]; exact wS3
      clear hS13
      exact OD_some
    refine OD_ite ?_ ?_
    · refine OD_bd (o_X10_priceOf v0 kv0 v1 S3 wS3) (fun r16 S15 hS15 => ?_)
      have wS15 : WT D S15.2.2 := by rw [hS15]; exact wS3
      clear hS15
      exact OD_some
    refine OD_ite ?_ ?_
    · refine OD_bd (o_X10_whose v0 kv0 v1 S3 wS3) (fun r18 S17 hS17 => ?_)
      have wS17 : WT D S17.2.2 := by rw [hS17]; exact wS3
      clear hS17
      refine OD_ix (fun j19 => ?_)
      refine OD_ix (fun j20 => ?_)
      refine OD_bd (o_X10_farFrom v0 kv0 r18 (S17.1 (S17.2.2 v0 52) j19) (S17.1 (S17.2.2 v0 52) j20) S17 wS17) (fun r22 S21 hS21 => ?_)
      have wS21 : WT D S21.2.2 := by rw [hS21]; exact wS17
      clear hS21
      exact OD_some
    exact OD_some
set_option maxRecDepth 20000 in
theorem ob_X10_records_51 {D : Nat → Prop} : ∀ (fu : Nat) (v0 : Nat) (kv0 : KA D v0 (0, 10)) (v1 : Int32) (S : St), WT D S.2.2 → OD D (b_X10_records_51 fu v0 v1 S) S := by
  intro fu
  induction fu with
  | zero => intro v0 kv0 v1 S w; exact OD_none
  | succ fu ih =>
    intro v0 kv0 v1 S w
    rw [b_X10_records_51]
    refine OD_ite ?_ ?_
    · refine OD_nmI (kv0).2 (fun S1 hS1 => ?_)
      have wS1 : WT D S1.2.2 := by rw [hS1]; exact w
      clear hS1
      refine OD_bd (o_X10_keepsRow v0 kv0 S1 wS1) (fun _ S2 hS2 => ?_)
      have wS2 : WT D S2.2.2 := by rw [hS2]; exact wS1
      clear hS2
      exact OD_some
    · refine OD_ix (fun j4 => ?_)
      refine OD_ix (fun j5 => ?_)
      refine OD_nmI (w.1 _ _ kv0 62 _ rfl).2 (fun S6 hS6 => ?_)
      have wS6 : WT D S6.2.2 := by rw [hS6]; exact w
      clear hS6
      refine OD_nm (fun x7 => ?_)
      exact ih v0 kv0 x7 S6 wS6
set_option maxRecDepth 20000 in
theorem ob_X10_records_49 {D : Nat → Prop} (v0 : Nat) (kv0 : KA D v0 (0, 10)) (S : St) (w : WT D S.2.2) : OD D (b_X10_records_49 v0 S) S := by
  unfold b_X10_records_49
  exact ob_X10_records_51 FU v0 kv0 (0 : Int32) S w
set_option maxRecDepth 20000 in
theorem ob_X10_records_11 {D : Nat → Prop} : ∀ (fu : Nat) (v0 : Nat) (kv0 : KA D v0 (0, 10)) (v1 : Int32) (S : St), WT D S.2.2 → OD D (b_X10_records_11 fu v0 v1 S) S := by
  intro fu
  induction fu with
  | zero => intro v0 kv0 v1 S w; exact OD_none
  | succ fu ih =>
    intro v0 kv0 v1 S w
    rw [b_X10_records_11]
    refine OD_ite ?_ ?_
    · refine OD_nmI (kv0).2 (fun S1 hS1 => ?_)
      have wS1 : WT D S1.2.2 := by rw [hS1]; exact w
      clear hS1
      exact ob_X10_records_49 v0 kv0 S1 wS1
    · refine OD_ix (fun j2 => ?_)
      refine OD_ix (fun j3 => ?_)
      refine OD_nmI (w.1 _ _ kv0 62 _ rfl).2 (fun S4 hS4 => ?_)
      have wS4 : WT D S4.2.2 := by rw [hS4]; exact w
      clear hS4
      refine OD_nm (fun x5 => ?_)
      exact ih v0 kv0 x5 S4 wS4
set_option maxRecDepth 20000 in
theorem o_X10_records {D : Nat → Prop} (v0 : Nat) (kv0 : KA D v0 (0, 10)) (S : St) (w : WT D S.2.2) : OD D (f_X10_records v0 S) S := by
  unfold f_X10_records
  refine OD_ite ?_ ?_
  · exact ob_X10_records_11 FU v0 kv0 (0 : Int32) S w
  · exact ob_X10_records_49 v0 kv0 S w
set_option maxRecDepth 20000 in
theorem o_X10_hand {D : Nat → Prop} (v0 : Nat) (kv0 : KA D v0 (0, 10)) (v1 : Int32) (v2 : Int32) (S : St) (w : WT D S.2.2) : OD D (f_X10_hand v0 v1 v2 S) S := by
  unfold f_X10_hand
  refine OD_bd (o_X10_isStrand v0 kv0 v1 S w) (fun r2 S1 hS1 => ?_)
  have wS1 : WT D S1.2.2 := by rw [hS1]; exact w
  clear hS1
  refine OD_ite ?_ ?_
  · exact OD_some
  · refine OD_bd (o_X10_isPerson v0 kv0 v2 S1 wS1) (fun r4 S3 hS3 => ?_)
    have wS3 : WT D S3.2.2 := by rw [hS3]; exact wS1
    clear hS3
    refine OD_ite ?_ ?_
    · exact OD_some
    · refine OD_ix (fun j5 => ?_)
      refine OD_ite ?_ ?_
      · exact OD_some
      · refine OD_ix (fun j6 => ?_)
        refine OD_ite ?_ ?_
        · exact OD_some
        · refine OD_ix (fun j7 => ?_)
          refine OD_ite ?_ ?_
          · exact OD_some
          · refine OD_bd (o_X10_copies v0 kv0 S3 wS3) (fun _ S8 hS8 => ?_)
            have wS8 : WT D S8.2.2 := by rw [hS8]; exact wS3
            clear hS8
            refine OD_ix (fun j10 => ?_)
            refine OD_nmI (wS8.1 _ _ kv0 52 _ rfl).2 (fun S11 hS11 => ?_)
            have wS11 : WT D S11.2.2 := by rw [hS11]; exact wS8
            clear hS11
            refine OD_bd (o_X10_records v0 kv0 S11 wS11) (fun _ S12 hS12 => ?_)
            have wS12 : WT D S12.2.2 := by rw [hS12]; exact wS11
            clear hS12
            exact OD_some
set_option maxRecDepth 20000 in
theorem o_X10_cut {D : Nat → Prop} (v0 : Nat) (kv0 : KA D v0 (0, 10)) (v1 : Int32) (S : St) (w : WT D S.2.2) : OD D (f_X10_cut v0 v1 S) S := by
  unfold f_X10_cut
  refine OD_bd (o_X10_isStrand v0 kv0 v1 S w) (fun r2 S1 hS1 => ?_)
  have wS1 : WT D S1.2.2 := by rw [hS1]; exact w
  clear hS1
  refine OD_ite ?_ ?_
  · exact OD_some
  · refine OD_ix (fun j3 => ?_)
    refine OD_ite ?_ ?_
    · exact OD_some
    · refine OD_bd (o_X10_copies v0 kv0 S1 wS1) (fun _ S4 hS4 => ?_)
      have wS4 : WT D S4.2.2 := by rw [hS4]; exact wS1
      clear hS4
      refine OD_ix (fun j6 => ?_)
      refine OD_nmI (wS4.1 _ _ kv0 52 _ rfl).2 (fun S7 hS7 => ?_)
      have wS7 : WT D S7.2.2 := by rw [hS7]; exact wS4
      clear hS7
      refine OD_bd (o_X10_records v0 kv0 S7 wS7) (fun _ S8 hS8 => ?_)
      have wS8 : WT D S8.2.2 := by rw [hS8]; exact wS7
      clear hS8
      exact OD_some
set_option maxRecDepth 20000 in
theorem o_X10_die {D : Nat → Prop} (v0 : Nat) (kv0 : KA D v0 (0, 10)) (v1 : Int32) (S : St) (w : WT D S.2.2) : OD D (f_X10_die v0 v1 S) S := by
  unfold f_X10_die
  refine OD_bd (o_X10_isMermaid v0 kv0 v1 S w) (fun r2 S1 hS1 => ?_)
  have wS1 : WT D S1.2.2 := by rw [hS1]; exact w
  clear hS1
  refine OD_ite ?_ ?_
  · exact OD_some
  · refine OD_ix (fun j3 => ?_)
    refine OD_ite ?_ ?_
    · exact OD_some
    · refine OD_bd (o_X10_copies v0 kv0 S1 wS1) (fun _ S4 hS4 => ?_)
      have wS4 : WT D S4.2.2 := by rw [hS4]; exact wS1
      clear hS4
      refine OD_ix (fun j6 => ?_)
      refine OD_nmI (wS4.1 _ _ kv0 52 _ rfl).2 (fun S7 hS7 => ?_)
      have wS7 : WT D S7.2.2 := by rw [hS7]; exact wS4
      clear hS7
      refine OD_bd (o_X10_records v0 kv0 S7 wS7) (fun _ S8 hS8 => ?_)
      have wS8 : WT D S8.2.2 := by rw [hS8]; exact wS7
      clear hS8
      exact OD_some
set_option maxRecDepth 20000 in
theorem o_X10_isLong {D : Nat → Prop} (v0 : Int32) (S : St) (w : WT D S.2.2) : OD D (f_X10_isLong v0 S) S := by
  unfold f_X10_isLong
  refine OD_bd (o_X10_in v0 (0 : Int32) (60 : Int32) S w) (fun r2 S1 hS1 => ?_)
  have wS1 : WT D S1.2.2 := by rw [hS1]; exact w
  clear hS1
  exact OD_ob (fun _ => OD_some)
set_option maxRecDepth 20000 in
theorem o_X10_months {D : Nat → Prop} (v0 : Nat) (kv0 : KA D v0 (0, 10)) (v1 : Int32) (S : St) (w : WT D S.2.2) : OD D (f_X10_months v0 v1 S) S := by
  unfold f_X10_months
  refine OD_bd (o_X10_isLong v1 S w) (fun r2 S1 hS1 => ?_)
  have wS1 : WT D S1.2.2 := by rw [hS1]; exact w
  clear hS1
  refine OD_ite ?_ ?_
  · exact OD_some
  · refine OD_ite ?_ ?_
    · refine OD_ix (fun j3 => ?_)
      exact OD_some
    · refine OD_bd (o_X10_copies v0 kv0 S1 wS1) (fun _ S4 hS4 => ?_)
      have wS4 : WT D S4.2.2 := by rw [hS4]; exact wS1
      clear hS4
      refine OD_bd (o_X10_goes v0 kv0 v1 S4 wS4) (fun _ S6 hS6 => ?_)
      have wS6 : WT D S6.2.2 := by rw [hS6]; exact wS4
      clear hS6
      refine OD_bd (o_X10_records v0 kv0 S6 wS6) (fun _ S8 hS8 => ?_)
      have wS8 : WT D S8.2.2 := by rw [hS8]; exact wS6
      clear hS8
      refine OD_ix (fun j10 => ?_)
      exact OD_some
set_option maxRecDepth 20000 in
theorem ob_X10_undo_21 {D : Nat → Prop} : ∀ (fu : Nat) (v0 : Nat) (kv0 : KA D v0 (0, 10)) (v1 : Int32) (S : St), WT D S.2.2 → OD D (b_X10_undo_21 fu v0 v1 S) S := by
  intro fu
  induction fu with
  | zero => intro v0 kv0 v1 S w; exact OD_none
  | succ fu ih =>
    intro v0 kv0 v1 S w
    rw [b_X10_undo_21]
    refine OD_ite ?_ ?_
    · exact OD_some
    · refine OD_ix (fun j1 => ?_)
      refine OD_ix (fun j2 => ?_)
      refine OD_nmI (w.1 _ _ kv0 51 _ rfl).2 (fun S3 hS3 => ?_)
      have wS3 : WT D S3.2.2 := by rw [hS3]; exact w
      clear hS3
      refine OD_nm (fun x4 => ?_)
      exact ih v0 kv0 x4 S3 wS3
set_option maxRecDepth 20000 in
theorem o_X10_undo {D : Nat → Prop} (v0 : Nat) (kv0 : KA D v0 (0, 10)) (S : St) (w : WT D S.2.2) : OD D (f_X10_undo v0 S) S := by
  unfold f_X10_undo
  refine OD_ite ?_ ?_
  · exact OD_some
  · refine OD_nmI (kv0).2 (fun S1 hS1 => ?_)
    have wS1 : WT D S1.2.2 := by rw [hS1]; exact w
    clear hS1
    exact ob_X10_undo_21 FU v0 kv0 (0 : Int32) S1 wS1
set_option maxRecDepth 20000 in
theorem o_X10_then {D : Nat → Prop} (v0 : Nat) (kv0 : KA D v0 (0, 10)) (v1 : Int32) (v2 : Int32) (v3 : Int32) (S : St) (w : WT D S.2.2) : OD D (f_X10_then v0 v1 v2 v3 S) S := by
  unfold f_X10_then
  refine OD_bd (o_X10_isPerson v0 kv0 v1 S w) (fun r2 S1 hS1 => ?_)
  have wS1 : WT D S1.2.2 := by rw [hS1]; exact w
  clear hS1
  refine OD_ite ?_ ?_
  · exact OD_some
  · refine OD_bd (o_X10_isLong v2 S1 wS1) (fun r4 S3 hS3 => ?_)
    have wS3 : WT D S3.2.2 := by rw [hS3]; exact wS1
    clear hS3
    refine OD_ite ?_ ?_
    · exact OD_some
    · refine OD_bd (o_X10_in v3 (0 : Int32) (2 : Int32) S3 wS3) (fun r6 S5 hS5 => ?_)
      have wS5 : WT D S5.2.2 := by rw [hS5]; exact wS3
      clear hS5
      refine OD_ite ?_ ?_
      · exact OD_some
      · refine OD_bd (o_X10_copies v0 kv0 S5 wS5) (fun _ S7 hS7 => ?_)
        have wS7 : WT D S7.2.2 := by rw [hS7]; exact wS5
        clear hS7
        refine OD_bd (o_X10_goes v0 kv0 v2 S7 wS7) (fun _ S9 hS9 => ?_)
        have wS9 : WT D S9.2.2 := by rw [hS9]; exact wS7
        clear hS9
        refine OD_ix (fun j11 => ?_)
        exact OD_some
set_option maxRecDepth 20000 in
theorem ob_X10_swimsFor_2 {D : Nat → Prop} : ∀ (fu : Nat) (v0 : Nat) (kv0 : KA D v0 (0, 10)) (v1 : Int32) (v2 : Int32) (v3 : Int32) (S : St), WT D S.2.2 → OD D (b_X10_swimsFor_2 fu v0 v1 v2 v3 S) S := by
  intro fu
  induction fu with
  | zero => intro v0 kv0 v1 v2 v3 S w; exact OD_none
  | succ fu ih =>
    intro v0 kv0 v1 v2 v3 S w
    rw [b_X10_swimsFor_2]
    refine OD_ite ?_ ?_
    · exact OD_some
    · refine OD_ix (fun j1 => ?_)
      refine OD_ite ?_ ?_
      · refine OD_bd (o_X10_swimsOne v0 kv0 v1 S w) (fun _ S2 hS2 => ?_)
        have wS2 : WT D S2.2.2 := by rw [hS2]; exact w
        clear hS2
        refine OD_nm (fun x4 => ?_)
        exact ih v0 kv0 v1 v2 x4 S2 wS2
      · exact OD_some
set_option maxRecDepth 20000 in
theorem o_X10_swimsFor {D : Nat → Prop} (v0 : Nat) (kv0 : KA D v0 (0, 10)) (v1 : Int32) (v2 : Int32) (S : St) (w : WT D S.2.2) : OD D (f_X10_swimsFor v0 v1 v2 S) S := by
  unfold f_X10_swimsFor
  exact ob_X10_swimsFor_2 FU v0 kv0 v1 v2 (0 : Int32) S w
set_option maxRecDepth 20000 in
theorem o_X10_swims {D : Nat → Prop} (v0 : Nat) (kv0 : KA D v0 (0, 10)) (v1 : Int32) (v2 : Int32) (v3 : Int32) (S : St) (w : WT D S.2.2) : OD D (f_X10_swims v0 v1 v2 v3 S) S := by
  unfold f_X10_swims
  refine OD_bd (o_X10_isMermaid v0 kv0 v1 S w) (fun r2 S1 hS1 => ?_)
  have wS1 : WT D S1.2.2 := by rw [hS1]; exact w
  clear hS1
  refine OD_ite ?_ ?_
  · exact OD_some
  · refine OD_bd (o_X10_isLong v2 S1 wS1) (fun r4 S3 hS3 => ?_)
    have wS3 : WT D S3.2.2 := by rw [hS3]; exact wS1
    clear hS3
    refine OD_ite ?_ ?_
    · exact OD_some
    · refine OD_bd (o_X10_in v3 (0 : Int32) (1 : Int32) S3 wS3) (fun r6 S5 hS5 => ?_)
      have wS5 : WT D S5.2.2 := by rw [hS5]; exact wS3
      clear hS5
      refine OD_ite ?_ ?_
      · exact OD_some
      · refine OD_bd (o_X10_copies v0 kv0 S5 wS5) (fun _ S7 hS7 => ?_)
        have wS7 : WT D S7.2.2 := by rw [hS7]; exact wS5
        clear hS7
        refine OD_bd (o_X10_swimsFor v0 kv0 v1 v2 S7 wS7) (fun _ S9 hS9 => ?_)
        have wS9 : WT D S9.2.2 := by rw [hS9]; exact wS7
        clear hS9
        refine OD_ix (fun j11 => ?_)
        exact OD_some
set_option maxRecDepth 20000 in
theorem ob_X10_offBits_31 {D : Nat → Prop} {q4 : Nat → Int32 → Int32 → St → Option (Int32 × St)} (oq4 : ∀ (v0 : Nat) (kv0 : KA D v0 (0, 10)) (v1 : Int32) (v2 : Int32) (S : St), WT D S.2.2 → OD D (q4 v0 v1 v2 S) S) (v0 : Nat) (kv0 : KA D v0 (0, 10)) (v1 : Int32) (v2 : Int32) (S : St) (w : WT D S.2.2) : OD D (b_X10_offBits_31 q4 v0 v1 v2 S) S := by
  unfold b_X10_offBits_31
  refine OD_nm (fun x1 => ?_)
  exact oq4 v0 kv0 v1 x1 S w
set_option maxRecDepth 20000 in
theorem ob_X10_offBits_4 {D : Nat → Prop} : ∀ (fu : Nat) (v0 : Nat) (kv0 : KA D v0 (0, 10)) (v1 : Int32) (v2 : Int32) (S : St), WT D S.2.2 → OD D (b_X10_offBits_4 fu v0 v1 v2 S) S := by
  intro fu
  induction fu with
  | zero => intro v0 kv0 v1 v2 S w; exact OD_none
  | succ fu ih =>
    intro v0 kv0 v1 v2 S w
    rw [b_X10_offBits_4]
    refine OD_ix (fun j1 => ?_)
    refine OD_ite ?_ ?_
    · exact OD_some
    · refine OD_bd (o_X10_isOff v0 kv0 v2 S w) (fun r3 S2 hS2 => ?_)
      have wS2 : WT D S2.2.2 := by rw [hS2]; exact w
      clear hS2
      refine OD_ite ?_ ?_
      · exact ob_X10_offBits_31 ih v0 kv0 v1 v2 S2 wS2
      · refine OD_nm (fun x4 => ?_)
        exact ob_X10_offBits_31 ih v0 kv0 x4 v2 S2 wS2
set_option maxRecDepth 20000 in
theorem o_X10_offBits {D : Nat → Prop} (v0 : Nat) (kv0 : KA D v0 (0, 10)) (S : St) (w : WT D S.2.2) : OD D (f_X10_offBits v0 S) S := by
  unfold f_X10_offBits
  exact ob_X10_offBits_4 FU v0 kv0 (0 : Int32) (0 : Int32) S w
set_option maxRecDepth 20000 in
theorem ob_X10_firstFrom_43 {D : Nat → Prop} : ∀ (fu : Nat) (v0 : Nat) (kv0 : KA D v0 (0, 10)) (v2 : Int32) (v3 : Int32) (S : St), WT D S.2.2 → OD D (b_X10_firstFrom_43 fu v0 v2 v3 S) S := by
  intro fu
  induction fu with
  | zero => intro v0 kv0 v2 v3 S w; exact OD_none
  | succ fu ih =>
    intro v0 kv0 v2 v3 S w
    rw [b_X10_firstFrom_43]
    refine OD_ite ?_ ?_
    · refine OD_nmI (kv0).2 (fun S1 hS1 => ?_)
      have wS1 : WT D S1.2.2 := by rw [hS1]; exact w
      clear hS1
      exact ih v0 kv0 v2 v3 S1 wS1
    · exact OD_some
set_option maxRecDepth 20000 in
theorem ob_X10_firstFrom_12 {D : Nat → Prop} : ∀ (fu : Nat) (v0 : Nat) (kv0 : KA D v0 (0, 10)) (v1 : Int32) (v2 : Int32) (S : St), WT D S.2.2 → OD D (b_X10_firstFrom_12 fu v0 v1 v2 S) S := by
  intro fu
  induction fu with
  | zero => intro v0 kv0 v1 v2 S w; exact OD_none
  | succ fu ih =>
    intro v0 kv0 v1 v2 S w
    rw [b_X10_firstFrom_12]
    refine OD_ite ?_ ?_
    · refine OD_nmI (kv0).2 (fun S1 hS1 => ?_)
      have wS1 : WT D S1.2.2 := by rw [hS1]; exact w
      clear hS1
      exact OD_some
    · refine OD_bd (o_X10_monthGoes v0 kv0 S w) (fun _ S2 hS2 => ?_)
      have wS2 : WT D S2.2.2 := by rw [hS2]; exact w
      clear hS2
      refine OD_bd (o_X10_offBits v0 kv0 S2 wS2) (fun r5 S4 hS4 => ?_)
      have wS4 : WT D S4.2.2 := by rw [hS4]; exact wS2
      clear hS4
      refine OD_nm (fun x6 => ?_)
      refine OD_ite ?_ ?_
      · refine OD_nm (fun x7 => ?_)
        exact ih v0 kv0 v1 x7 S4 wS4
      · refine OD_nmI (kv0).2 (fun S8 hS8 => ?_)
        have wS8 : WT D S8.2.2 := by rw [hS8]; exact wS4
        clear hS8
        exact ob_X10_firstFrom_43 FU v0 kv0 v2 x6 S8 wS8
set_option maxRecDepth 20000 in
theorem o_X10_firstFrom {D : Nat → Prop} (v0 : Nat) (kv0 : KA D v0 (0, 10)) (S : St) (w : WT D S.2.2) : OD D (f_X10_firstFrom v0 S) S := by
  unfold f_X10_firstFrom
  refine OD_nmI (kv0).2 (fun S1 hS1 => ?_)
  have wS1 : WT D S1.2.2 := by rw [hS1]; exact w
  clear hS1
  refine OD_bd (o_X10_offBits v0 kv0 S1 wS1) (fun r3 S2 hS2 => ?_)
  have wS2 : WT D S2.2.2 := by rw [hS2]; exact wS1
  clear hS2
  exact ob_X10_firstFrom_12 FU v0 kv0 r3 (1 : Int32) S2 wS2
set_option maxRecDepth 20000 in
theorem o_X10_first {D : Nat → Prop} (v0 : Nat) (kv0 : KA D v0 (0, 10)) (v1 : Int32) (S : St) (w : WT D S.2.2) : OD D (f_X10_first v0 v1 S) S := by
  unfold f_X10_first
  refine OD_bd (o_X10_in v1 (0 : Int32) (1 : Int32) S w) (fun r2 S1 hS1 => ?_)
  have wS1 : WT D S1.2.2 := by rw [hS1]; exact w
  clear hS1
  refine OD_ite ?_ ?_
  · exact OD_some
  · refine OD_bd (o_X10_copies v0 kv0 S1 wS1) (fun _ S3 hS3 => ?_)
    have wS3 : WT D S3.2.2 := by rw [hS3]; exact wS1
    clear hS3
    refine OD_bd (o_X10_firstFrom v0 kv0 S3 wS3) (fun r6 S5 hS5 => ?_)
    have wS5 : WT D S5.2.2 := by rw [hS5]; exact wS3
    clear hS5
    refine OD_ite ?_ ?_
    · exact OD_some
    · refine OD_ite ?_ ?_
      · exact OD_some
      · exact OD_some
set_option maxRecDepth 20000 in
theorem o_X10_isNear {D : Nat → Prop} (v0 : Int32) (S : St) (w : WT D S.2.2) : OD D (f_X10_isNear v0 S) S := by
  unfold f_X10_isNear
  refine OD_bd (o_X10_in v0 (0 : Int32) (9 : Int32) S w) (fun r2 S1 hS1 => ?_)
  have wS1 : WT D S1.2.2 := by rw [hS1]; exact w
  clear hS1
  exact OD_ob (fun _ => OD_some)
set_option maxRecDepth 20000 in
theorem ob_X10_near_32 {D : Nat → Prop} : ∀ (fu : Nat) (v0 : Nat) (kv0 : KA D v0 (0, 10)) (v1 : Int32) (v2 : Int32) (v3 : Int32) (v4 : Int32) (S : St), WT D S.2.2 → OD D (b_X10_near_32 fu v0 v1 v2 v3 v4 S) S := by
  intro fu
  induction fu with
  | zero => intro v0 kv0 v1 v2 v3 v4 S w; exact OD_none
  | succ fu ih =>
    intro v0 kv0 v1 v2 v3 v4 S w
    rw [b_X10_near_32]
    refine OD_ite ?_ ?_
    · exact OD_some
    · refine OD_ix (fun j1 => ?_)
      refine OD_ix (fun j2 => ?_)
      refine OD_bd (o_X10_farFrom v0 kv0 v1 (S.1 (S.2.2 v0 52) j1) (S.1 (S.2.2 v0 52) j2) S w) (fun r4 S3 hS3 => ?_)
      have wS3 : WT D S3.2.2 := by rw [hS3]; exact w
      clear hS3
      refine OD_ite ?_ ?_
      · refine OD_bd (o_X10_swimsFor v0 kv0 v1 (1 : Int32) S3 wS3) (fun _ S5 hS5 => ?_)
        have wS5 : WT D S5.2.2 := by rw [hS5]; exact wS3
        clear hS5
        refine OD_nm (fun x7 => ?_)
        exact ih v0 kv0 v1 v2 v3 x7 S5 wS5
      · exact OD_some
set_option maxRecDepth 20000 in
theorem o_X10_near {D : Nat → Prop} (v0 : Nat) (kv0 : KA D v0 (0, 10)) (v1 : Int32) (v2 : Int32) (v3 : Int32) (S : St) (w : WT D S.2.2) : OD D (f_X10_near v0 v1 v2 v3 S) S := by
  unfold f_X10_near
  refine OD_bd (o_X10_isMermaid v0 kv0 v1 S w) (fun r2 S1 hS1 => ?_)
  have wS1 : WT D S1.2.2 := by rw [hS1]; exact w
  clear hS1
  refine OD_ite ?_ ?_
  · exact OD_some
  · refine OD_bd (o_X10_isPerson v0 kv0 v2 S1 wS1) (fun r4 S3 hS3 => ?_)
    have wS3 : WT D S3.2.2 := by rw [hS3]; exact wS1
    clear hS3
    refine OD_ite ?_ ?_
    · exact OD_some
    · refine OD_bd (o_X10_isNear v3 S3 wS3) (fun r6 S5 hS5 => ?_)
      have wS5 : WT D S5.2.2 := by rw [hS5]; exact wS3
      clear hS5
      refine OD_ite ?_ ?_
      · exact OD_some
      · refine OD_bd (o_X10_copies v0 kv0 S5 wS5) (fun _ S7 hS7 => ?_)
        have wS7 : WT D S7.2.2 := by rw [hS7]; exact wS5
        clear hS7
        exact ob_X10_near_32 FU v0 kv0 v1 v2 v3 (0 : Int32) S7 wS7
set_option maxRecDepth 20000 in
theorem ob_X10_wholeBits_31 {D : Nat → Prop} {q4 : Nat → Int32 → Int32 → St → Option (Int32 × St)} (oq4 : ∀ (v0 : Nat) (kv0 : KA D v0 (0, 10)) (v1 : Int32) (v2 : Int32) (S : St), WT D S.2.2 → OD D (q4 v0 v1 v2 S) S) (v0 : Nat) (kv0 : KA D v0 (0, 10)) (v1 : Int32) (v2 : Int32) (S : St) (w : WT D S.2.2) : OD D (b_X10_wholeBits_31 q4 v0 v1 v2 S) S := by
  unfold b_X10_wholeBits_31
  refine OD_nm (fun x1 => ?_)
  exact oq4 v0 kv0 v1 x1 S w
set_option maxRecDepth 20000 in
theorem ob_X10_wholeBits_4 {D : Nat → Prop} : ∀ (fu : Nat) (v0 : Nat) (kv0 : KA D v0 (0, 10)) (v1 : Int32) (v2 : Int32) (S : St), WT D S.2.2 → OD D (b_X10_wholeBits_4 fu v0 v1 v2 S) S := by
  intro fu
  induction fu with
  | zero => intro v0 kv0 v1 v2 S w; exact OD_none
  | succ fu ih =>
    intro v0 kv0 v1 v2 S w
    rw [b_X10_wholeBits_4]
    refine OD_ix (fun j1 => ?_)
    refine OD_ite ?_ ?_
    · exact OD_some
    · refine OD_bd (o_X10_isCut v0 kv0 v2 S w) (fun r3 S2 hS2 => ?_)
      have wS2 : WT D S2.2.2 := by rw [hS2]; exact w
      clear hS2
      refine OD_ite ?_ ?_
      · refine OD_nm (fun x4 => ?_)
        exact ob_X10_wholeBits_31 ih v0 kv0 x4 v2 S2 wS2
      · exact ob_X10_wholeBits_31 ih v0 kv0 v1 v2 S2 wS2
set_option maxRecDepth 20000 in
theorem o_X10_wholeBits {D : Nat → Prop} (v0 : Nat) (kv0 : KA D v0 (0, 10)) (S : St) (w : WT D S.2.2) : OD D (f_X10_wholeBits v0 S) S := by
  unfold f_X10_wholeBits
  exact ob_X10_wholeBits_4 FU v0 kv0 (0 : Int32) (0 : Int32) S w
set_option maxRecDepth 20000 in
theorem ob_X10_plaitFrom_106 {D : Nat → Prop} {q13 : Nat → Int32 → Int32 → Int32 → Int32 → Int32 → Int32 → St → Option (Int32 × St)} (oq13 : ∀ (v0 : Nat) (kv0 : KA D v0 (0, 10)) (v1 : Int32) (v3 : Int32) (v4 : Int32) (v5 : Int32) (v6 : Int32) (v7 : Int32) (S : St), WT D S.2.2 → OD D (q13 v0 v1 v3 v4 v5 v6 v7 S) S) (v0 : Nat) (kv0 : KA D v0 (0, 10)) (v1 : Int32) (v3 : Int32) (v4 : Int32) (v5 : Int32) (v6 : Int32) (v7 : Int32) (S : St) (w : WT D S.2.2) : OD D (b_X10_plaitFrom_106 q13 v0 v1 v3 v4 v5 v6 v7 S) S := by
  unfold b_X10_plaitFrom_106
  refine OD_nm (fun x1 => ?_)
  exact oq13 v0 kv0 v1 v3 v4 v5 v6 x1 S w
set_option maxRecDepth 20000 in
theorem ob_X10_plaitFrom_60 {D : Nat → Prop} {q13 : Nat → Int32 → Int32 → Int32 → Int32 → Int32 → Int32 → St → Option (Int32 × St)} (oq13 : ∀ (v0 : Nat) (kv0 : KA D v0 (0, 10)) (v1 : Int32) (v3 : Int32) (v4 : Int32) (v5 : Int32) (v6 : Int32) (v7 : Int32) (S : St), WT D S.2.2 → OD D (q13 v0 v1 v3 v4 v5 v6 v7 S) S) (v0 : Nat) (kv0 : KA D v0 (0, 10)) (v1 : Int32) (v3 : Int32) (v4 : Int32) (v5 : Int32) (v6 : Int32) (v7 : Int32) (S : St) (w : WT D S.2.2) : OD D (b_X10_plaitFrom_60 q13 v0 v1 v3 v4 v5 v6 v7 S) S := by
  unfold b_X10_plaitFrom_60
  refine OD_ix (fun j1 => ?_)
  refine OD_ix (fun j2 => ?_)
  refine OD_bd (o_X10_pullsBy v0 kv0 v7 v1 (S.1 (S.2.2 v0 52) j1) (S.1 (S.2.2 v0 52) j2) S w) (fun _ S3 hS3 => ?_)
  have wS3 : WT D S3.2.2 := by rw [hS3]; exact w
  clear hS3
  refine OD_ite ?_ ?_
  · refine OD_ite ?_ ?_
    · exact ob_X10_plaitFrom_106 oq13 v0 kv0 v1 v3 v4 v5 v7 v7 S3 wS3
    · exact ob_X10_plaitFrom_106 oq13 v0 kv0 v1 v3 v4 v5 v6 v7 S3 wS3
  · exact ob_X10_plaitFrom_106 oq13 v0 kv0 v1 v3 v4 v5 v6 v7 S3 wS3
set_option maxRecDepth 20000 in
theorem ob_X10_plaitFrom_13 {D : Nat → Prop} : ∀ (fu : Nat) (v0 : Nat) (kv0 : KA D v0 (0, 10)) (v1 : Int32) (v3 : Int32) (v4 : Int32) (v5 : Int32) (v6 : Int32) (v7 : Int32) (S : St), WT D S.2.2 → OD D (b_X10_plaitFrom_13 fu v0 v1 v3 v4 v5 v6 v7 S) S := by
  intro fu
  induction fu with
  | zero => intro v0 kv0 v1 v3 v4 v5 v6 v7 S w; exact OD_none
  | succ fu ih =>
    intro v0 kv0 v1 v3 v4 v5 v6 v7 S w
    rw [b_X10_plaitFrom_13]
    refine OD_ix (fun j1 => ?_)
    refine OD_ite ?_ ?_
    · exact OD_some
    · refine OD_ite ?_ ?_
      · refine OD_ite ?_ ?_
        · exact ob_X10_plaitFrom_60 ih v0 kv0 v1 v3 v4 v5 v6 v7 S w
        · refine OD_bd (o_X10_bits v7 S w) (fun r3 S2 hS2 => ?_)
          have wS2 : WT D S2.2.2 := by rw [hS2]; exact w
          clear hS2
          refine OD_bd (o_X10_bits v6 S2 wS2) (fun r5 S4 hS4 => ?_)
          have wS4 : WT D S4.2.2 := by rw [hS4]; exact wS2
          clear hS4
          refine OD_ite ?_ ?_
          · exact ob_X10_plaitFrom_60 ih v0 kv0 v1 v3 v4 v5 v6 v7 S4 wS4
          · exact ob_X10_plaitFrom_106 ih v0 kv0 v1 v3 v4 v5 v6 v7 S4 wS4
      · exact ob_X10_plaitFrom_106 ih v0 kv0 v1 v3 v4 v5 v6 v7 S w
set_option maxRecDepth 20000 in
theorem o_X10_plaitFrom {D : Nat → Prop} (v0 : Nat) (kv0 : KA D v0 (0, 10)) (v1 : Int32) (v2 : Int32) (v3 : Int32) (v4 : Int32) (S : St) (w : WT D S.2.2) : OD D (f_X10_plaitFrom v0 v1 v2 v3 v4 S) S := by
  unfold f_X10_plaitFrom
  refine OD_bd (o_X10_wholeBits v0 kv0 S w) (fun r2 S1 hS1 => ?_)
  have wS1 : WT D S1.2.2 := by rw [hS1]; exact w
  clear hS1
  exact ob_X10_plaitFrom_13 FU v0 kv0 v1 v3 v4 r2 (-2 : Int32) v2 S1 wS1
set_option maxRecDepth 20000 in
theorem ob_X10_plait_82 {D : Nat → Prop} (v5 : Int32) (S : St) (w : WT D S.2.2) : OD D (b_X10_plait_82 v5 S) S := by
  unfold b_X10_plait_82
  exact OD_some
set_option maxRecDepth 20000 in
theorem o_X10_plait {D : Nat → Prop} (v0 : Nat) (kv0 : KA D v0 (0, 10)) (v1 : Int32) (v2 : Int32) (v3 : Int32) (v4 : Int32) (S : St) (w : WT D S.2.2) : OD D (f_X10_plait v0 v1 v2 v3 v4 S) S := by
  unfold f_X10_plait
  refine OD_bd (o_X10_isPerson v0 kv0 v1 S w) (fun r2 S1 hS1 => ?_)
  have wS1 : WT D S1.2.2 := by rw [hS1]; exact w
  clear hS1
  refine OD_ite ?_ ?_
  · exact OD_some
  · refine OD_bd (o_X10_in v2 (-999 : Int32) (999 : Int32) S1 wS1) (fun r4 S3 hS3 => ?_)
    have wS3 : WT D S3.2.2 := by rw [hS3]; exact wS1
    clear hS3
    refine OD_ite ?_ ?_
    · exact OD_some
    · refine OD_bd (o_X10_in v3 (-999 : Int32) (999 : Int32) S3 wS3) (fun r6 S5 hS5 => ?_)
      have wS5 : WT D S5.2.2 := by rw [hS5]; exact wS3
      clear hS5
      refine OD_ite ?_ ?_
      · exact OD_some
      · refine OD_bd (o_X10_in v4 (0 : Int32) (1 : Int32) S5 wS5) (fun r8 S7 hS7 => ?_)
        have wS7 : WT D S7.2.2 := by rw [hS7]; exact wS5
        clear hS7
        refine OD_ite ?_ ?_
        · exact OD_some
        · refine OD_bd (o_X10_copies v0 kv0 S7 wS7) (fun _ S9 hS9 => ?_)
          have wS9 : WT D S9.2.2 := by rw [hS9]; exact wS7
          clear hS9
          refine OD_bd (o_X10_isOff v0 kv0 v1 S9 wS9) (fun r12 S11 hS11 => ?_)
          have wS11 : WT D S11.2.2 := by rw [hS11]; exact wS9
          clear hS11
          refine OD_ite ?_ ?_
          · refine OD_bd (o_X10_plaitFrom v0 kv0 v1 (0 : Int32) v2 v3 S11 wS11) (fun r14 S13 hS13 => ?_)
            have wS13 : WT D S13.2.2 := by rw [hS13]; exact wS11
            clear hS13
            refine OD_ite ?_ ?_
            · exact ob_X10_plait_82 r14 S13 wS13
            · refine OD_ite ?_ ?_
              · exact ob_X10_plait_82 r14 S13 wS13
              · refine OD_bd (o_X10_bits r14 S13 wS13) (fun r16 S15 hS15 => ?_)
                have wS15 : WT D S15.2.2 := by rw [hS15]; exact wS13
                clear hS15
                exact OD_some
          · exact OD_some
set_option maxRecDepth 20000 in
theorem ob_X10_turns_48 {D : Nat → Prop} {q26 : Nat → Int32 → Int32 → Int32 → Int32 → St → Option (Int32 × St)} (oq26 : ∀ (v0 : Nat) (kv0 : KA D v0 (0, 10)) (v1 : Int32) (v2 : Int32) (v3 : Int32) (v4 : Int32) (S : St), WT D S.2.2 → OD D (q26 v0 v1 v2 v3 v4 S) S) (v0 : Nat) (kv0 : KA D v0 (0, 10)) (v1 : Int32) (v2 : Int32) (v3 : Int32) (v4 : Int32) (S : St) (w : WT D S.2.2) : OD D (b_X10_turns_48 q26 v0 v1 v2 v3 v4 S) S := by
  unfold b_X10_turns_48
  refine OD_nm (fun x1 => ?_)
  exact oq26 v0 kv0 v1 v2 v3 x1 S w
set_option maxRecDepth 20000 in
theorem ob_X10_turns_26 {D : Nat → Prop} : ∀ (fu : Nat) (v0 : Nat) (kv0 : KA D v0 (0, 10)) (v1 : Int32) (v2 : Int32) (v3 : Int32) (v4 : Int32) (S : St), WT D S.2.2 → OD D (b_X10_turns_26 fu v0 v1 v2 v3 v4 S) S := by
  intro fu
  induction fu with
  | zero => intro v0 kv0 v1 v2 v3 v4 S w; exact OD_none
  | succ fu ih =>
    intro v0 kv0 v1 v2 v3 v4 S w
    rw [b_X10_turns_26]
    refine OD_ite ?_ ?_
    · exact OD_some
    · refine OD_bd (o_X10_monthGoes v0 kv0 S w) (fun _ S1 hS1 => ?_)
      have wS1 : WT D S1.2.2 := by rw [hS1]; exact w
      clear hS1
      refine OD_ix (fun j3 => ?_)
      refine OD_ite ?_ ?_
      · exact ob_X10_turns_48 ih v0 kv0 v1 v2 v3 v4 S1 wS1
      · refine OD_nm (fun x4 => ?_)
        exact ob_X10_turns_48 ih v0 kv0 v1 v2 x4 v4 S1 wS1
set_option maxRecDepth 20000 in
theorem o_X10_turns {D : Nat → Prop} (v0 : Nat) (kv0 : KA D v0 (0, 10)) (v1 : Int32) (v2 : Int32) (S : St) (w : WT D S.2.2) : OD D (f_X10_turns v0 v1 v2 S) S := by
  unfold f_X10_turns
  refine OD_bd (o_X10_isPerson v0 kv0 v1 S w) (fun r2 S1 hS1 => ?_)
  have wS1 : WT D S1.2.2 := by rw [hS1]; exact w
  clear hS1
  refine OD_ite ?_ ?_
  · exact OD_some
  · refine OD_bd (o_X10_isLong v2 S1 wS1) (fun r4 S3 hS3 => ?_)
    have wS3 : WT D S3.2.2 := by rw [hS3]; exact wS1
    clear hS3
    refine OD_ite ?_ ?_
    · exact OD_some
    · refine OD_bd (o_X10_copiesStill v0 kv0 S3 wS3) (fun _ S5 hS5 => ?_)
      have wS5 : WT D S5.2.2 := by rw [hS5]; exact wS3
      clear hS5
      exact ob_X10_turns_26 FU v0 kv0 v1 v2 (0 : Int32) (0 : Int32) S5 wS5
set_option maxRecDepth 20000 in
theorem o_X10_pullNow {D : Nat → Prop} (v0 : Nat) (kv0 : KA D v0 (0, 10)) (v1 : Int32) (S : St) (w : WT D S.2.2) : OD D (f_X10_pullNow v0 v1 S) S := by
  unfold f_X10_pullNow
  refine OD_ix (fun j1 => ?_)
  refine OD_nm (fun x2 => ?_)
  refine OD_ix (fun j3 => ?_)
  refine OD_ix (fun j4 => ?_)
  refine OD_bd (o_X10_pullAt v0 kv0 v1 x2 (S.1 (S.2.2 v0 52) j3) (S.1 (S.2.2 v0 52) j4) S w) (fun r6 S5 hS5 => ?_)
  have wS5 : WT D S5.2.2 := by rw [hS5]; exact w
  clear hS5
  exact OD_some
set_option maxRecDepth 20000 in
theorem ob_X10_strongest_89 {D : Nat → Prop} {q40 : Nat → Int32 → Int32 → Int32 → Int32 → Int32 → St → Option (Int32 × St)} (oq40 : ∀ (v0 : Nat) (kv0 : KA D v0 (0, 10)) (v2 : Int32) (v3 : Int32) (v4 : Int32) (v5 : Int32) (v6 : Int32) (S : St), WT D S.2.2 → OD D (q40 v0 v2 v3 v4 v5 v6 S) S) (v0 : Nat) (kv0 : KA D v0 (0, 10)) (v2 : Int32) (v3 : Int32) (v4 : Int32) (v5 : Int32) (v6 : Int32) (S : St) (w : WT D S.2.2) : OD D (b_X10_strongest_89 q40 v0 v2 v3 v4 v5 v6 S) S := by
  unfold b_X10_strongest_89
  refine OD_nm (fun x1 => ?_)
  exact oq40 v0 kv0 v2 v3 v4 v5 x1 S w
set_option maxRecDepth 20000 in
theorem ob_X10_strongest_40 {D : Nat → Prop} : ∀ (fu : Nat) (v0 : Nat) (kv0 : KA D v0 (0, 10)) (v2 : Int32) (v3 : Int32) (v4 : Int32) (v5 : Int32) (v6 : Int32) (S : St), WT D S.2.2 → OD D (b_X10_strongest_40 fu v0 v2 v3 v4 v5 v6 S) S := by
  intro fu
  induction fu with
  | zero => intro v0 kv0 v2 v3 v4 v5 v6 S w; exact OD_none
  | succ fu ih =>
    intro v0 kv0 v2 v3 v4 v5 v6 S w
    rw [b_X10_strongest_40]
    refine OD_ix (fun j1 => ?_)
    refine OD_ite ?_ ?_
    · refine OD_ite ?_ ?_
      · exact OD_some
      · exact OD_some
    · refine OD_ite ?_ ?_
      · exact ob_X10_strongest_89 ih v0 kv0 v2 v3 v4 v5 v6 S w
      · refine OD_bd (o_X10_pullNow v0 kv0 v6 S w) (fun r3 S2 hS2 => ?_)
        have wS2 : WT D S2.2.2 := by rw [hS2]; exact w
        clear hS2
        refine OD_ite ?_ ?_
        · refine OD_bd (o_X10_pullNow v0 kv0 v6 S2 wS2) (fun r5 S4 hS4 => ?_)
          have wS4 : WT D S4.2.2 := by rw [hS4]; exact wS2
          clear hS4
          exact ob_X10_strongest_89 ih v0 kv0 v2 v3 v6 r5 v6 S4 wS4
        · exact ob_X10_strongest_89 ih v0 kv0 v2 v3 v4 v5 v6 S2 wS2
set_option maxRecDepth 20000 in
theorem o_X10_strongest {D : Nat → Prop} (v0 : Nat) (kv0 : KA D v0 (0, 10)) (v1 : Int32) (v2 : Int32) (S : St) (w : WT D S.2.2) : OD D (f_X10_strongest v0 v1 v2 S) S := by
  unfold f_X10_strongest
  refine OD_bd (o_X10_isPerson v0 kv0 v1 S w) (fun r2 S1 hS1 => ?_)
  have wS1 : WT D S1.2.2 := by rw [hS1]; exact w
  clear hS1
  refine OD_ite ?_ ?_
  · exact OD_some
  · refine OD_bd (o_X10_in v2 (0 : Int32) (1 : Int32) S1 wS1) (fun r4 S3 hS3 => ?_)
    have wS3 : WT D S3.2.2 := by rw [hS3]; exact wS1
    clear hS3
    refine OD_ite ?_ ?_
    · exact OD_some
    · refine OD_bd (o_X10_copies v0 kv0 S3 wS3) (fun _ S5 hS5 => ?_)
      have wS5 : WT D S5.2.2 := by rw [hS5]; exact wS3
      clear hS5
      refine OD_bd (o_X10_wornBits v0 kv0 v1 S5 wS5) (fun r8 S7 hS7 => ?_)
      have wS7 : WT D S7.2.2 := by rw [hS7]; exact wS5
      clear hS7
      exact ob_X10_strongest_40 FU v0 kv0 v2 r8 (-2 : Int32) (-2 : Int32) (0 : Int32) S7 wS7
set_option maxRecDepth 20000 in
theorem ob_X10_again_77 {D : Nat → Prop} {q31 : Nat → Int32 → Int32 → St → Option (Int32 × St)} (oq31 : ∀ (v0 : Nat) (kv0 : KA D v0 (0, 10)) (v1 : Int32) (v2 : Int32) (S : St), WT D S.2.2 → OD D (q31 v0 v1 v2 S) S) {q47 : Nat → Int32 → Int32 → Int32 → Int32 → St → Option (Int32 × St)} (oq47 : ∀ (v0 : Nat) (kv0 : KA D v0 (0, 10)) (v1 : Int32) (v2 : Int32) (v3 : Int32) (v4 : Int32) (S : St), WT D S.2.2 → OD D (q47 v0 v1 v2 v3 v4 S) S) (v0 : Nat) (kv0 : KA D v0 (0, 10)) (v1 : Int32) (v2 : Int32) (v3 : Int32) (v4 : Int32) (S : St) (w : WT D S.2.2) : OD D (b_X10_again_77 q31 q47 v0 v1 v2 v3 v4 S) S := by
  unfold b_X10_again_77
  refine OD_nm (fun x1 => ?_)
  exact oq47 v0 kv0 v1 v2 v3 x1 S w
set_option maxRecDepth 20000 in
theorem ob_X10_again_47 {D : Nat → Prop} {q31 : Nat → Int32 → Int32 → St → Option (Int32 × St)} (oq31 : ∀ (v0 : Nat) (kv0 : KA D v0 (0, 10)) (v1 : Int32) (v2 : Int32) (S : St), WT D S.2.2 → OD D (q31 v0 v1 v2 S) S) : ∀ (fu : Nat) (v0 : Nat) (kv0 : KA D v0 (0, 10)) (v1 : Int32) (v2 : Int32) (v3 : Int32) (v4 : Int32) (S : St), WT D S.2.2 → OD D (b_X10_again_47 q31 fu v0 v1 v2 v3 v4 S) S := by
  intro fu
  induction fu with
  | zero => intro v0 kv0 v1 v2 v3 v4 S w; exact OD_none
  | succ fu ih =>
    intro v0 kv0 v1 v2 v3 v4 S w
    rw [b_X10_again_47]
    refine OD_ite ?_ ?_
    · refine OD_ite ?_ ?_
      · refine OD_nm (fun x1 => ?_)
        exact oq31 v0 kv0 v1 x1 S w
      · exact OD_some
    · refine OD_ix (fun j2 => ?_)
      refine OD_ix (fun j3 => ?_)
      refine OD_ite ?_ ?_
      · exact ob_X10_again_77 oq31 ih v0 kv0 v1 v2 v3 v4 S w
      · exact ob_X10_again_77 oq31 ih v0 kv0 v1 v2 (0 : Int32) v4 S w
set_option maxRecDepth 20000 in
theorem ob_X10_again_31 {D : Nat → Prop} : ∀ (fu : Nat) (v0 : Nat) (kv0 : KA D v0 (0, 10)) (v1 : Int32) (v2 : Int32) (S : St), WT D S.2.2 → OD D (b_X10_again_31 fu v0 v1 v2 S) S := by
  intro fu
  induction fu with
  | zero => intro v0 kv0 v1 v2 S w; exact OD_none
  | succ fu ih =>
    intro v0 kv0 v1 v2 S w
    rw [b_X10_again_31]
    refine OD_ite ?_ ?_
    · exact OD_some
    · refine OD_bd (o_X10_swimsOne v0 kv0 v1 S w) (fun _ S1 hS1 => ?_)
      have wS1 : WT D S1.2.2 := by rw [hS1]; exact w
      clear hS1
      exact ob_X10_again_47 ih FU v0 kv0 v1 v2 (1 : Int32) (0 : Int32) S1 wS1
set_option maxRecDepth 20000 in
theorem o_X10_again {D : Nat → Prop} (v0 : Nat) (kv0 : KA D v0 (0, 10)) (v1 : Int32) (S : St) (w : WT D S.2.2) : OD D (f_X10_again v0 v1 S) S := by
  unfold f_X10_again
  refine OD_bd (o_X10_isMermaid v0 kv0 v1 S w) (fun r2 S1 hS1 => ?_)
  have wS1 : WT D S1.2.2 := by rw [hS1]; exact w
  clear hS1
  refine OD_ite ?_ ?_
  · exact OD_some
  · refine OD_bd (o_X10_copies v0 kv0 S1 wS1) (fun _ S3 hS3 => ?_)
    have wS3 : WT D S3.2.2 := by rw [hS3]; exact wS1
    clear hS3
    refine OD_ix (fun j5 => ?_)
    refine OD_ite ?_ ?_
    · exact OD_some
    · exact ob_X10_again_31 FU v0 kv0 v1 (1 : Int32) S3 wS3
set_option maxRecDepth 20000 in
theorem ob_X10_passing_37 {D : Nat → Prop} : ∀ (fu : Nat) (v0 : Nat) (kv0 : KA D v0 (0, 10)) (v1 : Int32) (v2 : Int32) (v3 : Int32) (v4 : Int32) (S : St), WT D S.2.2 → OD D (b_X10_passing_37 fu v0 v1 v2 v3 v4 S) S := by
  intro fu
  induction fu with
  | zero => intro v0 kv0 v1 v2 v3 v4 S w; exact OD_none
  | succ fu ih =>
    intro v0 kv0 v1 v2 v3 v4 S w
    rw [b_X10_passing_37]
    refine OD_ite ?_ ?_
    · exact OD_some
    · refine OD_ix (fun j1 => ?_)
      refine OD_ix (fun j2 => ?_)
      refine OD_bd (o_X10_farFrom v0 kv0 v1 (S.1 (S.2.2 v0 52) j1) (S.1 (S.2.2 v0 52) j2) S w) (fun r4 S3 hS3 => ?_)
      have wS3 : WT D S3.2.2 := by rw [hS3]; exact w
      clear hS3
      refine OD_ite ?_ ?_
      · refine OD_bd (o_X10_swimsFor v0 kv0 v1 (1 : Int32) S3 wS3) (fun _ S5 hS5 => ?_)
        have wS5 : WT D S5.2.2 := by rw [hS5]; exact wS3
        clear hS5
        refine OD_bd (o_X10_swimsFor v0 kv0 v2 (1 : Int32) S5 wS5) (fun _ S7 hS7 => ?_)
        have wS7 : WT D S7.2.2 := by rw [hS7]; exact wS5
        clear hS7
        refine OD_nm (fun x9 => ?_)
        exact ih v0 kv0 v1 v2 v3 x9 S7 wS7
      · exact OD_some
set_option maxRecDepth 20000 in
theorem o_X10_passing {D : Nat → Prop} (v0 : Nat) (kv0 : KA D v0 (0, 10)) (v1 : Int32) (v2 : Int32) (v3 : Int32) (S : St) (w : WT D S.2.2) : OD D (f_X10_passing v0 v1 v2 v3 S) S := by
  unfold f_X10_passing
  refine OD_bd (o_X10_isMermaid v0 kv0 v1 S w) (fun r2 S1 hS1 => ?_)
  have wS1 : WT D S1.2.2 := by rw [hS1]; exact w
  clear hS1
  refine OD_ite ?_ ?_
  · exact OD_some
  · refine OD_bd (o_X10_isMermaid v0 kv0 v2 S1 wS1) (fun r4 S3 hS3 => ?_)
    have wS3 : WT D S3.2.2 := by rw [hS3]; exact wS1
    clear hS3
    refine OD_ite ?_ ?_
    · exact OD_some
    · refine OD_ite ?_ ?_
      · exact OD_some
      · refine OD_bd (o_X10_isNear v3 S3 wS3) (fun r6 S5 hS5 => ?_)
        have wS5 : WT D S5.2.2 := by rw [hS5]; exact wS3
        clear hS5
        refine OD_ite ?_ ?_
        · exact OD_some
        · refine OD_bd (o_X10_copies v0 kv0 S5 wS5) (fun _ S7 hS7 => ?_)
          have wS7 : WT D S7.2.2 := by rw [hS7]; exact wS5
          clear hS7
          exact ob_X10_passing_37 FU v0 kv0 v1 v2 v3 (0 : Int32) S7 wS7
set_option maxRecDepth 20000 in
theorem ob_X10_even_142 {D : Nat → Prop} {q25 : Nat → Int32 → Int32 → Int32 → Int32 → St → Option (Int32 × St)} (oq25 : ∀ (v0 : Nat) (kv0 : KA D v0 (0, 10)) (v1 : Int32) (v2 : Int32) (v3 : Int32) (v4 : Int32) (S : St), WT D S.2.2 → OD D (q25 v0 v1 v2 v3 v4 S) S) {q45 : Nat → Int32 → Int32 → Int32 → Int32 → Int32 → St → Option (Int32 × St)} (oq45 : ∀ (v0 : Nat) (kv0 : KA D v0 (0, 10)) (v1 : Int32) (v2 : Int32) (v3 : Int32) (v4 : Int32) (v5 : Int32) (S : St), WT D S.2.2 → OD D (q45 v0 v1 v2 v3 v4 v5 S) S) (v0 : Nat) (kv0 : KA D v0 (0, 10)) (v1 : Int32) (v2 : Int32) (v3 : Int32) (v4 : Int32) (v5 : Int32) (S : St) (w : WT D S.2.2) : OD D (b_X10_even_142 q25 q45 v0 v1 v2 v3 v4 v5 S) S := by
  unfold b_X10_even_142
  refine OD_nm (fun x1 => ?_)
  exact oq45 v0 kv0 v1 v2 v3 v4 x1 S w
set_option maxRecDepth 20000 in
theorem ob_X10_even_45 {D : Nat → Prop} {q25 : Nat → Int32 → Int32 → Int32 → Int32 → St → Option (Int32 × St)} (oq25 : ∀ (v0 : Nat) (kv0 : KA D v0 (0, 10)) (v1 : Int32) (v2 : Int32) (v3 : Int32) (v4 : Int32) (S : St), WT D S.2.2 → OD D (q25 v0 v1 v2 v3 v4 S) S) : ∀ (fu : Nat) (v0 : Nat) (kv0 : KA D v0 (0, 10)) (v1 : Int32) (v2 : Int32) (v3 : Int32) (v4 : Int32) (v5 : Int32) (S : St), WT D S.2.2 → OD D (b_X10_even_45 q25 fu v0 v1 v2 v3 v4 v5 S) S := by
  intro fu
  induction fu with
  | zero => intro v0 kv0 v1 v2 v3 v4 v5 S w; exact OD_none
  | succ fu ih =>
    intro v0 kv0 v1 v2 v3 v4 v5 S w
    rw [b_X10_even_45]
    refine OD_ix (fun j1 => ?_)
    refine OD_ite ?_ ?_
    · refine OD_nm (fun x2 => ?_)
      exact oq25 v0 kv0 v1 v2 v3 x2 S w
    · refine OD_nm (fun x3 => ?_)
      refine OD_ite ?_ ?_
      · refine OD_bd (o_X10_pullNow v0 kv0 v4 S w) (fun r5 S4 hS4 => ?_)
        have wS4 : WT D S4.2.2 := by rw [hS4]; exact w
        clear hS4
        refine OD_ite ?_ ?_
        · exact ob_X10_even_142 oq25 ih v0 kv0 v1 v2 v3 v4 v5 S4 wS4
        · refine OD_bd (o_X10_pullNow v0 kv0 v5 S4 wS4) (fun r7 S6 hS6 => ?_)
          have wS6 : WT D S6.2.2 := by rw [hS6]; exact wS4
          clear hS6
          refine OD_ite ?_ ?_
          · exact ob_X10_even_142 oq25 ih v0 kv0 v1 v2 v3 v4 v5 S6 wS6
          · refine OD_ix (fun j8 => ?_)
            refine OD_ix (fun j9 => ?_)
            refine OD_bd (o_X10_pullsBy v0 kv0 x3 v1 (S6.1 (S6.2.2 v0 52) j8) (S6.1 (S6.2.2 v0 52) j9) S6 wS6) (fun _ S10 hS10 => ?_)
            have wS10 : WT D S10.2.2 := by rw [hS10]; exact wS6
            clear hS10
            refine OD_ite ?_ ?_
            · refine OD_ite ?_ ?_
              · refine OD_nm (fun x12 => ?_)
                exact ob_X10_even_142 oq25 ih v0 kv0 v1 v2 x12 v4 v5 S10 wS10
              · exact ob_X10_even_142 oq25 ih v0 kv0 v1 v2 v3 v4 v5 S10 wS10
            · exact ob_X10_even_142 oq25 ih v0 kv0 v1 v2 v3 v4 v5 S10 wS10
      · exact ob_X10_even_142 oq25 ih v0 kv0 v1 v2 v3 v4 v5 S w
set_option maxRecDepth 20000 in
theorem ob_X10_even_25 {D : Nat → Prop} : ∀ (fu : Nat) (v0 : Nat) (kv0 : KA D v0 (0, 10)) (v1 : Int32) (v2 : Int32) (v3 : Int32) (v4 : Int32) (S : St), WT D S.2.2 → OD D (b_X10_even_25 fu v0 v1 v2 v3 v4 S) S := by
  intro fu
  induction fu with
  | zero => intro v0 kv0 v1 v2 v3 v4 S w; exact OD_none
  | succ fu ih =>
    intro v0 kv0 v1 v2 v3 v4 S w
    rw [b_X10_even_25]
    refine OD_ix (fun j1 => ?_)
    refine OD_ite ?_ ?_
    · exact OD_some
    · refine OD_nm (fun x2 => ?_)
      exact ob_X10_even_45 ih FU v0 kv0 v1 v2 v3 v4 x2 S w
set_option maxRecDepth 20000 in
theorem o_X10_even {D : Nat → Prop} (v0 : Nat) (kv0 : KA D v0 (0, 10)) (v1 : Int32) (S : St) (w : WT D S.2.2) : OD D (f_X10_even v0 v1 S) S := by
  unfold f_X10_even
  refine OD_bd (o_X10_isPerson v0 kv0 v1 S w) (fun r2 S1 hS1 => ?_)
  have wS1 : WT D S1.2.2 := by rw [hS1]; exact w
  clear hS1
  refine OD_ite ?_ ?_
  · exact OD_some
  · refine OD_bd (o_X10_copies v0 kv0 S1 wS1) (fun _ S3 hS3 => ?_)
    have wS3 : WT D S3.2.2 := by rw [hS3]; exact wS1
    clear hS3
    refine OD_bd (o_X10_wornBits v0 kv0 v1 S3 wS3) (fun r6 S5 hS5 => ?_)
    have wS5 : WT D S5.2.2 := by rw [hS5]; exact wS3
    clear hS5
    exact ob_X10_even_25 FU v0 kv0 v1 r6 (0 : Int32) (0 : Int32) S5 wS5
set_option maxRecDepth 20000 in
theorem ob_X10_pricesOf_34 {D : Nat → Prop} {q4 : Nat → Int32 → Int32 → Int32 → St → Option (Int32 × St)} (oq4 : ∀ (v0 : Nat) (kv0 : KA D v0 (0, 10)) (v1 : Int32) (v2 : Int32) (v3 : Int32) (S : St), WT D S.2.2 → OD D (q4 v0 v1 v2 v3 S) S) (v0 : Nat) (kv0 : KA D v0 (0, 10)) (v1 : Int32) (v2 : Int32) (v3 : Int32) (S : St) (w : WT D S.2.2) : OD D (b_X10_pricesOf_34 q4 v0 v1 v2 v3 S) S := by
  unfold b_X10_pricesOf_34
  refine OD_nm (fun x1 => ?_)
  exact oq4 v0 kv0 v1 v2 x1 S w
set_option maxRecDepth 20000 in
theorem ob_X10_pricesOf_4 {D : Nat → Prop} : ∀ (fu : Nat) (v0 : Nat) (kv0 : KA D v0 (0, 10)) (v1 : Int32) (v2 : Int32) (v3 : Int32) (S : St), WT D S.2.2 → OD D (b_X10_pricesOf_4 fu v0 v1 v2 v3 S) S := by
  intro fu
  induction fu with
  | zero => intro v0 kv0 v1 v2 v3 S w; exact OD_none
  | succ fu ih =>
    intro v0 kv0 v1 v2 v3 S w
    rw [b_X10_pricesOf_4]
    refine OD_ix (fun j1 => ?_)
    refine OD_ite ?_ ?_
    · exact OD_some
    · refine OD_ite ?_ ?_
      · refine OD_bd (o_X10_priceOf v0 kv0 v3 S w) (fun r3 S2 hS2 => ?_)
        have wS2 : WT D S2.2.2 := by rw [hS2]; exact w
        clear hS2
        refine OD_nm (fun x4 => ?_)
        exact ob_X10_pricesOf_34 ih v0 kv0 v1 x4 v3 S2 wS2
      · exact ob_X10_pricesOf_34 ih v0 kv0 v1 v2 v3 S w
set_option maxRecDepth 20000 in
theorem o_X10_pricesOf {D : Nat → Prop} (v0 : Nat) (kv0 : KA D v0 (0, 10)) (v1 : Int32) (S : St) (w : WT D S.2.2) : OD D (f_X10_pricesOf v0 v1 S) S := by
  unfold f_X10_pricesOf
  exact ob_X10_pricesOf_4 FU v0 kv0 v1 (0 : Int32) (0 : Int32) S w
set_option maxRecDepth 20000 in
theorem o_X10_market {D : Nat → Prop} (v0 : Nat) (kv0 : KA D v0 (0, 10)) (v1 : Int32) (S : St) (w : WT D S.2.2) : OD D (f_X10_market v0 v1 S) S := by
  unfold f_X10_market
  refine OD_bd (o_X10_isLong v1 S w) (fun r2 S1 hS1 => ?_)
  have wS1 : WT D S1.2.2 := by rw [hS1]; exact w
  clear hS1
  refine OD_ite ?_ ?_
  · exact OD_some
  · refine OD_bd (o_X10_copiesStill v0 kv0 S1 wS1) (fun _ S3 hS3 => ?_)
    have wS3 : WT D S3.2.2 := by rw [hS3]; exact wS1
    clear hS3
    refine OD_bd (o_X10_goes v0 kv0 v1 S3 wS3) (fun _ S5 hS5 => ?_)
    have wS5 : WT D S5.2.2 := by rw [hS5]; exact wS3
    clear hS5
    refine OD_bd (o_X10_wholeBits v0 kv0 S5 wS5) (fun r8 S7 hS7 => ?_)
    have wS7 : WT D S7.2.2 := by rw [hS7]; exact wS5
    clear hS7
    refine OD_bd (o_X10_pricesOf v0 kv0 r8 S7 wS7) (fun r10 S9 hS9 => ?_)
    have wS9 : WT D S9.2.2 := by rw [hS9]; exact wS7
    clear hS9
    exact OD_some
set_option maxRecDepth 20000 in
theorem ob_X10_nothing_137 {D : Nat → Prop} {q67 : Nat → Int32 → Int32 → Int32 → Int32 → St → Option (Int32 × St)} (oq67 : ∀ (v0 : Nat) (kv0 : KA D v0 (0, 10)) (v1 : Int32) (v3 : Int32) (v4 : Int32) (v5 : Int32) (S : St), WT D S.2.2 → OD D (q67 v0 v1 v3 v4 v5 S) S) (v0 : Nat) (kv0 : KA D v0 (0, 10)) (v1 : Int32) (v3 : Int32) (v4 : Int32) (v5 : Int32) (S : St) (w : WT D S.2.2) : OD D (b_X10_nothing_137 q67 v0 v1 v3 v4 v5 S) S := by
  unfold b_X10_nothing_137
  refine OD_nm (fun x1 => ?_)
  exact oq67 v0 kv0 v1 v3 v4 x1 S w
set_option maxRecDepth 20000 in
theorem ob_X10_nothing_67 {D : Nat → Prop} : ∀ (fu : Nat) (v0 : Nat) (kv0 : KA D v0 (0, 10)) (v1 : Int32) (v3 : Int32) (v4 : Int32) (v5 : Int32) (S : St), WT D S.2.2 → OD D (b_X10_nothing_67 fu v0 v1 v3 v4 v5 S) S := by
  intro fu
  induction fu with
  | zero => intro v0 kv0 v1 v3 v4 v5 S w; exact OD_none
  | succ fu ih =>
    intro v0 kv0 v1 v3 v4 v5 S w
    rw [b_X10_nothing_67]
    refine OD_ix (fun j1 => ?_)
    refine OD_ite ?_ ?_
    · exact OD_some
    · refine OD_ite ?_ ?_
      · refine OD_ix (fun j2 => ?_)
        refine OD_ix (fun j3 => ?_)
        refine OD_bd (o_X10_pullsBy v0 kv0 v5 v1 (S.1 (S.2.2 v0 52) j2) (S.1 (S.2.2 v0 52) j3) S w) (fun _ S4 hS4 => ?_)
        have wS4 : WT D S4.2.2 := by rw [hS4]; exact w
        clear hS4
        refine OD_ite ?_ ?_
        · refine OD_ite ?_ ?_
          · refine OD_nm (fun x6 => ?_)
            exact ob_X10_nothing_137 ih v0 kv0 v1 v3 x6 v5 S4 wS4
          · exact ob_X10_nothing_137 ih v0 kv0 v1 v3 v4 v5 S4 wS4
        · exact ob_X10_nothing_137 ih v0 kv0 v1 v3 v4 v5 S4 wS4
      · exact ob_X10_nothing_137 ih v0 kv0 v1 v3 v4 v5 S w
set_option maxRecDepth 20000 in
theorem o_X10_nothing {D : Nat → Prop} (v0 : Nat) (kv0 : KA D v0 (0, 10)) (v1 : Int32) (v2 : Int32) (S : St) (w : WT D S.2.2) : OD D (f_X10_nothing v0 v1 v2 S) S := by
  unfold f_X10_nothing
  refine OD_bd (o_X10_isPerson v0 kv0 v1 S w) (fun r2 S1 hS1 => ?_)
  have wS1 : WT D S1.2.2 := by rw [hS1]; exact w
  clear hS1
  refine OD_ite ?_ ?_
  · exact OD_some
  · refine OD_bd (o_X10_in v2 (0 : Int32) (1 : Int32) S1 wS1) (fun r4 S3 hS3 => ?_)
    have wS3 : WT D S3.2.2 := by rw [hS3]; exact wS1
    clear hS3
    refine OD_ite ?_ ?_
    · exact OD_some
    · refine OD_bd (o_X10_copies v0 kv0 S3 wS3) (fun _ S5 hS5 => ?_)
      have wS5 : WT D S5.2.2 := by rw [hS5]; exact wS3
      clear hS5
      refine OD_bd (o_X10_isOff v0 kv0 v1 S5 wS5) (fun r8 S7 hS7 => ?_)
      have wS7 : WT D S7.2.2 := by rw [hS7]; exact wS5
      clear hS7
      refine OD_ite ?_ ?_
      · refine OD_ite ?_ ?_
        · refine OD_bd (o_X10_plaitFrom v0 kv0 v1 (1 : Int32) (0 : Int32) (0 : Int32) S7 wS7) (fun r10 S9 hS9 => ?_)
          have wS9 : WT D S9.2.2 := by rw [hS9]; exact wS7
          clear hS9
          exact OD_some
        · refine OD_bd (o_X10_wholeBits v0 kv0 S7 wS7) (fun r12 S11 hS11 => ?_)
          have wS11 : WT D S11.2.2 := by rw [hS11]; exact wS7
          clear hS11
          exact ob_X10_nothing_67 FU v0 kv0 v1 r12 (0 : Int32) (1 : Int32) S11 wS11
      · refine OD_ite ?_ ?_
        · exact OD_some
        · exact OD_some
set_option maxRecDepth 20000 in
theorem ob_X10_safe_152 {D : Nat → Prop} {q46 : Nat → Int32 → Int32 → Int32 → Int32 → Int32 → Int32 → St → Option (Int32 × St)} (oq46 : ∀ (v0 : Nat) (kv0 : KA D v0 (0, 10)) (v1 : Int32) (v2 : Int32) (v3 : Int32) (v4 : Int32) (v5 : Int32) (v6 : Int32) (S : St), WT D S.2.2 → OD D (q46 v0 v1 v2 v3 v4 v5 v6 S) S) (v0 : Nat) (kv0 : KA D v0 (0, 10)) (v1 : Int32) (v2 : Int32) (v3 : Int32) (v4 : Int32) (v5 : Int32) (v6 : Int32) (S : St) (w : WT D S.2.2) : OD D (b_X10_safe_152 q46 v0 v1 v2 v3 v4 v5 v6 S) S := by
  unfold b_X10_safe_152
  refine OD_nm (fun x1 => ?_)
  exact oq46 v0 kv0 v1 v2 v3 v4 v5 x1 S w
set_option maxRecDepth 20000 in
theorem ob_X10_safe_144 {D : Nat → Prop} {q46 : Nat → Int32 → Int32 → Int32 → Int32 → Int32 → Int32 → St → Option (Int32 × St)} (oq46 : ∀ (v0 : Nat) (kv0 : KA D v0 (0, 10)) (v1 : Int32) (v2 : Int32) (v3 : Int32) (v4 : Int32) (v5 : Int32) (v6 : Int32) (S : St), WT D S.2.2 → OD D (q46 v0 v1 v2 v3 v4 v5 v6 S) S) (v0 : Nat) (kv0 : KA D v0 (0, 10)) (v1 : Int32) (v2 : Int32) (v3 : Int32) (v6 : Int32) (v7 : Int32) (S : St) (w : WT D S.2.2) : OD D (b_X10_safe_144 q46 v0 v1 v2 v3 v6 v7 S) S := by
  unfold b_X10_safe_144
  exact ob_X10_safe_152 oq46 v0 kv0 v1 v2 v3 v6 v7 v6 S w
set_option maxRecDepth 20000 in
theorem ob_X10_safe_46 {D : Nat → Prop} : ∀ (fu : Nat) (v0 : Nat) (kv0 : KA D v0 (0, 10)) (v1 : Int32) (v2 : Int32) (v3 : Int32) (v4 : Int32) (v5 : Int32) (v6 : Int32) (S : St), WT D S.2.2 → OD D (b_X10_safe_46 fu v0 v1 v2 v3 v4 v5 v6 S) S := by
  intro fu
  induction fu with
  | zero => intro v0 kv0 v1 v2 v3 v4 v5 v6 S w; exact OD_none
  | succ fu ih =>
    intro v0 kv0 v1 v2 v3 v4 v5 v6 S w
    rw [b_X10_safe_46]
    refine OD_ix (fun j1 => ?_)
    refine OD_ite ?_ ?_
    · refine OD_ite ?_ ?_
      · exact OD_some
      · exact OD_some
    · refine OD_bd (o_X10_movesAt v0 kv0 v1 (v6 - v6 / (10 : Int32) * (10 : Int32)) (v6 / (10 : Int32)) S w) (fun r3 S2 hS2 => ?_)
      have wS2 : WT D S2.2.2 := by rw [hS2]; exact w
      clear hS2
      refine OD_ite ?_ ?_
      · refine OD_nm (fun x4 => ?_)
        refine OD_ix (fun j5 => ?_)
        refine OD_bd (o_X10_off (S2.1 (S2.2.2 v0 52) j5) (v6 - v6 / (10 : Int32) * (10 : Int32)) S2 wS2) (fun r7 S6 hS6 => ?_)
        have wS6 : WT D S6.2.2 := by rw [hS6]; exact wS2
        clear hS6
        refine OD_ix (fun j8 => ?_)
        refine OD_bd (o_X10_off (S6.1 (S6.2.2 v0 52) j8) (v6 / (10 : Int32)) S6 wS6) (fun r10 S9 hS9 => ?_)
        have wS9 : WT D S9.2.2 := by rw [hS9]; exact wS6
        clear hS9
        refine OD_bd (o_X10_more r7 r10 S9 wS9) (fun r12 S11 hS11 => ?_)
        have wS11 : WT D S11.2.2 := by rw [hS11]; exact wS9
        clear hS11
        refine OD_ite ?_ ?_
        · exact ob_X10_safe_144 ih v0 kv0 v1 v2 x4 v6 r12 S11 wS11
        · refine OD_ite ?_ ?_
          · exact ob_X10_safe_144 ih v0 kv0 v1 v2 x4 v6 r12 S11 wS11
          · exact ob_X10_safe_152 ih v0 kv0 v1 v2 x4 v4 v5 v6 S11 wS11
      · exact ob_X10_safe_152 ih v0 kv0 v1 v2 v3 v4 v5 v6 S2 wS2
set_option maxRecDepth 20000 in
theorem o_X10_safe {D : Nat → Prop} (v0 : Nat) (kv0 : KA D v0 (0, 10)) (v1 : Int32) (v2 : Int32) (S : St) (w : WT D S.2.2) : OD D (f_X10_safe v0 v1 v2 S) S := by
  unfold f_X10_safe
  refine OD_bd (o_X10_isPerson v0 kv0 v1 S w) (fun r2 S1 hS1 => ?_)
  have wS1 : WT D S1.2.2 := by rw [hS1]; exact w
  clear hS1
  refine OD_ite ?_ ?_
  · exact OD_some
  · refine OD_bd (o_X10_in v2 (0 : Int32) (1 : Int32) S1 wS1) (fun r4 S3 hS3 => ?_)
    have wS3 : WT D S3.2.2 := by rw [hS3]; exact wS1
    clear hS3
    refine OD_ite ?_ ?_
    · exact OD_some
    · refine OD_bd (o_X10_copies v0 kv0 S3 wS3) (fun _ S5 hS5 => ?_)
      have wS5 : WT D S5.2.2 := by rw [hS5]; exact wS3
      clear hS5
      refine OD_bd (o_X10_isOff v0 kv0 v1 S5 wS5) (fun r8 S7 hS7 => ?_)
      have wS7 : WT D S7.2.2 := by rw [hS7]; exact wS5
      clear hS7
      refine OD_ite ?_ ?_
      · exact ob_X10_safe_46 FU v0 kv0 v1 v2 (0 : Int32) (-2 : Int32) (0 : Int32) (0 : Int32) S7 wS7
      · exact OD_some
set_option maxRecDepth 20000 in
theorem ob_X10_cutBest_77 {D : Nat → Prop} {q14 : Nat → Int32 → Int32 → Int32 → St → Option (Int32 × St)} (oq14 : ∀ (v0 : Nat) (kv0 : KA D v0 (0, 10)) (v1 : Int32) (v2 : Int32) (v3 : Int32) (S : St), WT D S.2.2 → OD D (q14 v0 v1 v2 v3 S) S) (v0 : Nat) (kv0 : KA D v0 (0, 10)) (v1 : Int32) (v2 : Int32) (v3 : Int32) (S : St) (w : WT D S.2.2) : OD D (b_X10_cutBest_77 q14 v0 v1 v2 v3 S) S := by
  unfold b_X10_cutBest_77
  refine OD_nm (fun x1 => ?_)
  exact oq14 v0 kv0 v1 v2 x1 S w
set_option maxRecDepth 20000 in
theorem ob_X10_cutBest_14 {D : Nat → Prop} : ∀ (fu : Nat) (v0 : Nat) (kv0 : KA D v0 (0, 10)) (v1 : Int32) (v2 : Int32) (v3 : Int32) (S : St), WT D S.2.2 → OD D (b_X10_cutBest_14 fu v0 v1 v2 v3 S) S := by
  intro fu
  induction fu with
  | zero => intro v0 kv0 v1 v2 v3 S w; exact OD_none
  | succ fu ih =>
    intro v0 kv0 v1 v2 v3 S w
    rw [b_X10_cutBest_14]
    refine OD_ix (fun j1 => ?_)
    refine OD_ite ?_ ?_
    · exact OD_some
    · refine OD_ix (fun j2 => ?_)
      refine OD_ite ?_ ?_
      · exact ob_X10_cutBest_77 ih v0 kv0 v1 v2 v3 S w
      · refine OD_bd (o_X10_copies v0 kv0 S w) (fun _ S3 hS3 => ?_)
        have wS3 : WT D S3.2.2 := by rw [hS3]; exact w
        clear hS3
        refine OD_ix (fun j5 => ?_)
        refine OD_nmI (wS3.1 _ _ kv0 52 _ rfl).2 (fun S6 hS6 => ?_)
        have wS6 : WT D S6.2.2 := by rw [hS6]; exact wS3
        clear hS6
        refine OD_bd (o_X10_firstFrom v0 kv0 S6 wS6) (fun r8 S7 hS7 => ?_)
        have wS7 : WT D S7.2.2 := by rw [hS7]; exact wS6
        clear hS7
        refine OD_ite ?_ ?_
        · exact ob_X10_cutBest_77 ih v0 kv0 r8 v3 v3 S7 wS7
        · exact ob_X10_cutBest_77 ih v0 kv0 v1 v2 v3 S7 wS7
set_option maxRecDepth 20000 in
theorem o_X10_cutBest {D : Nat → Prop} (v0 : Nat) (kv0 : KA D v0 (0, 10)) (S : St) (w : WT D S.2.2) : OD D (f_X10_cutBest v0 S) S := by
  unfold f_X10_cutBest
  refine OD_bd (o_X10_copies v0 kv0 S w) (fun _ S1 hS1 => ?_)
  have wS1 : WT D S1.2.2 := by rw [hS1]; exact w
  clear hS1
  refine OD_bd (o_X10_firstFrom v0 kv0 S1 wS1) (fun r4 S3 hS3 => ?_)
  have wS3 : WT D S3.2.2 := by rw [hS3]; exact wS1
  clear hS3
  exact ob_X10_cutBest_14 FU v0 kv0 r4 (-2 : Int32) (0 : Int32) S3 wS3
set_option maxRecDepth 20000 in
theorem o_X10_worth {D : Nat → Prop} (v0 : Nat) (kv0 : KA D v0 (0, 10)) (v1 : Int32) (S : St) (w : WT D S.2.2) : OD D (f_X10_worth v0 v1 S) S := by
  unfold f_X10_worth
  refine OD_bd (o_X10_isPerson v0 kv0 v1 S w) (fun r2 S1 hS1 => ?_)
  have wS1 : WT D S1.2.2 := by rw [hS1]; exact w
  clear hS1
  refine OD_ite ?_ ?_
  · exact OD_some
  · refine OD_bd (o_X10_copies v0 kv0 S1 wS1) (fun _ S3 hS3 => ?_)
    have wS3 : WT D S3.2.2 := by rw [hS3]; exact wS1
    clear hS3
    refine OD_bd (o_X10_wornBits v0 kv0 v1 S3 wS3) (fun r6 S5 hS5 => ?_)
    have wS5 : WT D S5.2.2 := by rw [hS5]; exact wS3
    clear hS5
    refine OD_bd (o_X10_pricesOf v0 kv0 r6 S5 wS5) (fun r8 S7 hS7 => ?_)
    have wS7 : WT D S7.2.2 := by rw [hS7]; exact wS5
    clear hS7
    exact OD_some
set_option maxRecDepth 20000 in
theorem ob_X10_give_122 {D : Nat → Prop} {q41 : Nat → Int32 → Int32 → Int32 → Int32 → St → Option (Int32 × St)} (oq41 : ∀ (v0 : Nat) (kv0 : KA D v0 (0, 10)) (v1 : Int32) (v2 : Int32) (v3 : Int32) (v4 : Int32) (S : St), WT D S.2.2 → OD D (q41 v0 v1 v2 v3 v4 S) S) (v0 : Nat) (kv0 : KA D v0 (0, 10)) (v1 : Int32) (v2 : Int32) (v3 : Int32) (v4 : Int32) (S : St) (w : WT D S.2.2) : OD D (b_X10_give_122 q41 v0 v1 v2 v3 v4 S) S := by
  unfold b_X10_give_122
  refine OD_nm (fun x1 => ?_)
  exact oq41 v0 kv0 v1 v2 v3 x1 S w
set_option maxRecDepth 20000 in
theorem ob_X10_give_41 {D : Nat → Prop} : ∀ (fu : Nat) (v0 : Nat) (kv0 : KA D v0 (0, 10)) (v1 : Int32) (v2 : Int32) (v3 : Int32) (v4 : Int32) (S : St), WT D S.2.2 → OD D (b_X10_give_41 fu v0 v1 v2 v3 v4 S) S := by
  intro fu
  induction fu with
  | zero => intro v0 kv0 v1 v2 v3 v4 S w; exact OD_none
  | succ fu ih =>
    intro v0 kv0 v1 v2 v3 v4 S w
    rw [b_X10_give_41]
    refine OD_ix (fun j1 => ?_)
    refine OD_ite ?_ ?_
    · exact OD_some
    · refine OD_ix (fun j2 => ?_)
      refine OD_ite ?_ ?_
      · exact ob_X10_give_122 ih v0 kv0 v1 v2 v3 v4 S w
      · refine OD_ix (fun j3 => ?_)
        refine OD_ite ?_ ?_
        · exact ob_X10_give_122 ih v0 kv0 v1 v2 v3 v4 S w
        · refine OD_bd (o_X10_copies v0 kv0 S w) (fun _ S4 hS4 => ?_)
          have wS4 : WT D S4.2.2 := by rw [hS4]; exact w
          clear hS4
          refine OD_ix (fun j6 => ?_)
          refine OD_nmI (wS4.1 _ _ kv0 52 _ rfl).2 (fun S7 hS7 => ?_)
          have wS7 : WT D S7.2.2 := by rw [hS7]; exact wS4
          clear hS7
          refine OD_bd (o_X10_firstFrom v0 kv0 S7 wS7) (fun r9 S8 hS8 => ?_)
          have wS8 : WT D S8.2.2 := by rw [hS8]; exact wS7
          clear hS8
          refine OD_ite ?_ ?_
          · exact ob_X10_give_122 ih v0 kv0 v1 r9 v4 v4 S8 wS8
          · exact ob_X10_give_122 ih v0 kv0 v1 v2 v3 v4 S8 wS8
set_option maxRecDepth 20000 in
theorem o_X10_give {D : Nat → Prop} (v0 : Nat) (kv0 : KA D v0 (0, 10)) (v1 : Int32) (S : St) (w : WT D S.2.2) : OD D (f_X10_give v0 v1 S) S := by
  unfold f_X10_give
  refine OD_bd (o_X10_isStrand v0 kv0 v1 S w) (fun r2 S1 hS1 => ?_)
  have wS1 : WT D S1.2.2 := by rw [hS1]; exact w
  clear hS1
  refine OD_ite ?_ ?_
  · exact OD_some
  · refine OD_ix (fun j3 => ?_)
    refine OD_ite ?_ ?_
    · exact OD_some
    · refine OD_bd (o_X10_copies v0 kv0 S1 wS1) (fun _ S4 hS4 => ?_)
      have wS4 : WT D S4.2.2 := by rw [hS4]; exact wS1
      clear hS4
      refine OD_bd (o_X10_firstFrom v0 kv0 S4 wS4) (fun r7 S6 hS6 => ?_)
      have wS6 : WT D S6.2.2 := by rw [hS6]; exact wS4
      clear hS6
      exact ob_X10_give_41 FU v0 kv0 v1 r7 (-2 : Int32) (0 : Int32) S6 wS6
set_option maxRecDepth 20000 in
theorem ob_X10_year_70 {D : Nat → Prop} {q33 : Nat → Int32 → Int32 → Int32 → Int32 → Int32 → St → Option (Int32 × St)} (oq33 : ∀ (v0 : Nat) (kv0 : KA D v0 (0, 10)) (v1 : Int32) (v2 : Int32) (v3 : Int32) (v4 : Int32) (v5 : Int32) (S : St), WT D S.2.2 → OD D (q33 v0 v1 v2 v3 v4 v5 S) S) (v0 : Nat) (kv0 : KA D v0 (0, 10)) (v1 : Int32) (v2 : Int32) (v3 : Int32) (v4 : Int32) (v5 : Int32) (S : St) (w : WT D S.2.2) : OD D (b_X10_year_70 q33 v0 v1 v2 v3 v4 v5 S) S := by
  unfold b_X10_year_70
  refine OD_nm (fun x1 => ?_)
  exact oq33 v0 kv0 v1 v2 v3 v4 x1 S w
set_option maxRecDepth 20000 in
theorem ob_X10_year_33 {D : Nat → Prop} : ∀ (fu : Nat) (v0 : Nat) (kv0 : KA D v0 (0, 10)) (v1 : Int32) (v2 : Int32) (v3 : Int32) (v4 : Int32) (v5 : Int32) (S : St), WT D S.2.2 → OD D (b_X10_year_33 fu v0 v1 v2 v3 v4 v5 S) S := by
  intro fu
  induction fu with
  | zero => intro v0 kv0 v1 v2 v3 v4 v5 S w; exact OD_none
  | succ fu ih =>
    intro v0 kv0 v1 v2 v3 v4 v5 S w
    rw [b_X10_year_33]
    refine OD_ite ?_ ?_
    · exact OD_some
    · refine OD_bd (o_X10_copies v0 kv0 S w) (fun _ S1 hS1 => ?_)
      have wS1 : WT D S1.2.2 := by rw [hS1]; exact w
      clear hS1
      refine OD_nmI (kv0).2 (fun S3 hS3 => ?_)
      have wS3 : WT D S3.2.2 := by rw [hS3]; exact wS1
      clear hS3
      refine OD_bd (o_X10_goes v0 kv0 v2 S3 wS3) (fun _ S4 hS4 => ?_)
      have wS4 : WT D S4.2.2 := by rw [hS4]; exact wS3
      clear hS4
      refine OD_bd (o_X10_isOff v0 kv0 v1 S4 wS4) (fun r7 S6 hS6 => ?_)
      have wS6 : WT D S6.2.2 := by rw [hS6]; exact wS4
      clear hS6
      refine OD_ite ?_ ?_
      · refine OD_nm (fun x8 => ?_)
        exact ob_X10_year_70 ih v0 kv0 v1 v2 v3 x8 v5 S6 wS6
      · exact ob_X10_year_70 ih v0 kv0 v1 v2 v3 v4 v5 S6 wS6
set_option maxRecDepth 20000 in
theorem o_X10_year {D : Nat → Prop} (v0 : Nat) (kv0 : KA D v0 (0, 10)) (v1 : Int32) (v2 : Int32) (v3 : Int32) (S : St) (w : WT D S.2.2) : OD D (f_X10_year v0 v1 v2 v3 S) S := by
  unfold f_X10_year
  refine OD_bd (o_X10_isPerson v0 kv0 v1 S w) (fun r2 S1 hS1 => ?_)
  have wS1 : WT D S1.2.2 := by rw [hS1]; exact w
  clear hS1
  refine OD_ite ?_ ?_
  · exact OD_some
  · refine OD_bd (o_X10_isLong v2 S1 wS1) (fun r4 S3 hS3 => ?_)
    have wS3 : WT D S3.2.2 := by rw [hS3]; exact wS1
    clear hS3
    refine OD_ite ?_ ?_
    · exact OD_some
    · refine OD_bd (o_X10_in v3 (1 : Int32) (20 : Int32) S3 wS3) (fun r6 S5 hS5 => ?_)
      have wS5 : WT D S5.2.2 := by rw [hS5]; exact wS3
      clear hS5
      refine OD_ite ?_ ?_
      · exact OD_some
      · exact ob_X10_year_33 FU v0 kv0 v1 v2 v3 (0 : Int32) (0 : Int32) S5 wS5
set_option maxRecDepth 20000 in
theorem o_X10_tell {D : Nat → Prop} (v0 : Nat) (kv0 : KA D v0 (0, 10)) (v1 : Int32) (v2 : Int32) (v3 : Int32) (v4 : Int32) (S : St) (w : WT D S.2.2) : OD D (f_X10_tell v0 v1 v2 v3 v4 S) S := by
  unfold f_X10_tell
  refine OD_ite ?_ ?_
  · exact OD_some
  · refine OD_bd (o_X10_isNear v1 S w) (fun r2 S1 hS1 => ?_)
    have wS1 : WT D S1.2.2 := by rw [hS1]; exact w
    clear hS1
    refine OD_ite ?_ ?_
    · exact OD_some
    · refine OD_bd (o_X10_isNear v2 S1 wS1) (fun r4 S3 hS3 => ?_)
      have wS3 : WT D S3.2.2 := by rw [hS3]; exact wS1
      clear hS3
      refine OD_ite ?_ ?_
      · exact OD_some
      · refine OD_bd (o_X10_in v3 (-1 : Int32) (1 : Int32) S3 wS3) (fun r6 S5 hS5 => ?_)
        have wS5 : WT D S5.2.2 := by rw [hS5]; exact wS3
        clear hS5
        refine OD_ite ?_ ?_
        · exact OD_some
        · refine OD_bd (o_X10_in v4 (-1 : Int32) (1 : Int32) S5 wS5) (fun r8 S7 hS7 => ?_)
          have wS7 : WT D S7.2.2 := by rw [hS7]; exact wS5
          clear hS7
          refine OD_ite ?_ ?_
          · exact OD_some
          · refine OD_ix (fun j9 => ?_)
            refine OD_nmI (wS7.1 _ _ kv0 65 _ rfl).2 (fun S10 hS10 => ?_)
            have wS10 : WT D S10.2.2 := by rw [hS10]; exact wS7
            clear hS10
            refine OD_ix (fun j11 => ?_)
            refine OD_nmI (wS10.1 _ _ kv0 66 _ rfl).2 (fun S12 hS12 => ?_)
            have wS12 : WT D S12.2.2 := by rw [hS12]; exact wS10
            clear hS12
            refine OD_ix (fun j13 => ?_)
            refine OD_nmI (wS12.1 _ _ kv0 67 _ rfl).2 (fun S14 hS14 => ?_)
            have wS14 : WT D S14.2.2 := by rw [hS14]; exact wS12
            clear hS14
            refine OD_nmI (kv0).2 (fun S15 hS15 => ?_)
            have wS15 : WT D S15.2.2 := by rw [hS15]; exact wS14
            clear hS15
            exact OD_some
set_option maxRecDepth 20000 in
theorem o_X10_forget {D : Nat → Prop} (v0 : Nat) (kv0 : KA D v0 (0, 10)) (S : St) (w : WT D S.2.2) : OD D (f_X10_forget v0 S) S := by
  unfold f_X10_forget
  refine OD_nm (fun x1 => ?_)
  refine OD_nmI (kv0).2 (fun S2 hS2 => ?_)
  have wS2 : WT D S2.2.2 := by rw [hS2]; exact w
  clear hS2
  exact OD_some
set_option maxRecDepth 20000 in
theorem ob_X10_isSo_2 {D : Nat → Prop} : ∀ (fu : Nat) (v0 : Nat) (kv0 : KA D v0 (0, 10)) (v1 : Int32) (v2 : Int32) (v3 : Int32) (S : St), WT D S.2.2 → OD D (b_X10_isSo_2 fu v0 v1 v2 v3 S) S := by
  intro fu
  induction fu with
  | zero => intro v0 kv0 v1 v2 v3 S w; exact OD_none
  | succ fu ih =>
    intro v0 kv0 v1 v2 v3 S w
    rw [b_X10_isSo_2]
    refine OD_ite ?_ ?_
    · exact OD_some
    · refine OD_ix (fun j1 => ?_)
      refine OD_bd (o_X10_signOf ((v1 - v1 / (10 : Int32) * (10 : Int32)) - ((S.1 (S.2.2 v0 65) j1) - (S.1 (S.2.2 v0 65) j1) / (10 : Int32) * (10 : Int32))) S w) (fun r3 S2 hS2 => ?_)
      have wS2 : WT D S2.2.2 := by rw [hS2]; exact w
      clear hS2
      refine OD_ix (fun j4 => ?_)
      refine OD_ite ?_ ?_
      · refine OD_ix (fun j5 => ?_)
        refine OD_bd (o_X10_signOf ((v1 / (10 : Int32)) - ((S2.1 (S2.2.2 v0 65) j5) / (10 : Int32))) S2 wS2) (fun r7 S6 hS6 => ?_)
        have wS6 : WT D S6.2.2 := by rw [hS6]; exact wS2
        clear hS6
        refine OD_ix (fun j8 => ?_)
        refine OD_ite ?_ ?_
        · refine OD_nm (fun x9 => ?_)
          exact ih v0 kv0 v1 v2 x9 S6 wS6
        · exact OD_some
      · exact OD_some
set_option maxRecDepth 20000 in
theorem o_X10_isSo {D : Nat → Prop} (v0 : Nat) (kv0 : KA D v0 (0, 10)) (v1 : Int32) (v2 : Int32) (S : St) (w : WT D S.2.2) : OD D (f_X10_isSo v0 v1 v2 S) S := by
  unfold f_X10_isSo
  exact ob_X10_isSo_2 FU v0 kv0 v1 v2 (0 : Int32) S w
set_option maxRecDepth 20000 in
theorem ob_X10_where_36 {D : Nat → Prop} {q18 : Nat → Int32 → Int32 → Int32 → St → Option (Int32 × St)} (oq18 : ∀ (v0 : Nat) (kv0 : KA D v0 (0, 10)) (v1 : Int32) (v2 : Int32) (v3 : Int32) (S : St), WT D S.2.2 → OD D (q18 v0 v1 v2 v3 S) S) (v0 : Nat) (kv0 : KA D v0 (0, 10)) (v1 : Int32) (v2 : Int32) (v3 : Int32) (S : St) (w : WT D S.2.2) : OD D (b_X10_where_36 q18 v0 v1 v2 v3 S) S := by
  unfold b_X10_where_36
  refine OD_nm (fun x1 => ?_)
  exact oq18 v0 kv0 v1 v2 x1 S w
set_option maxRecDepth 20000 in
theorem ob_X10_where_18 {D : Nat → Prop} : ∀ (fu : Nat) (v0 : Nat) (kv0 : KA D v0 (0, 10)) (v1 : Int32) (v2 : Int32) (v3 : Int32) (S : St), WT D S.2.2 → OD D (b_X10_where_18 fu v0 v1 v2 v3 S) S := by
  intro fu
  induction fu with
  | zero => intro v0 kv0 v1 v2 v3 S w; exact OD_none
  | succ fu ih =>
    intro v0 kv0 v1 v2 v3 S w
    rw [b_X10_where_18]
    refine OD_ite ?_ ?_
    · exact OD_some
    · refine OD_bd (o_X10_isSo v0 kv0 v3 v1 S w) (fun r2 S1 hS1 => ?_)
      have wS1 : WT D S1.2.2 := by rw [hS1]; exact w
      clear hS1
      refine OD_ite ?_ ?_
      · exact ob_X10_where_36 ih v0 kv0 v1 v2 v3 S1 wS1
      · refine OD_nm (fun x3 => ?_)
        exact ob_X10_where_36 ih v0 kv0 v1 x3 v3 S1 wS1
set_option maxRecDepth 20000 in
theorem o_X10_where {D : Nat → Prop} (v0 : Nat) (kv0 : KA D v0 (0, 10)) (v1 : Int32) (S : St) (w : WT D S.2.2) : OD D (f_X10_where v0 v1 S) S := by
  unfold f_X10_where
  refine OD_bd (o_X10_in v1 (0 : Int32) (S.1 v0 64) S w) (fun r2 S1 hS1 => ?_)
  have wS1 : WT D S1.2.2 := by rw [hS1]; exact w
  clear hS1
  refine OD_ite ?_ ?_
  · exact OD_some
  · exact ob_X10_where_18 FU v0 kv0 v1 (0 : Int32) (0 : Int32) S1 wS1
set_option maxRecDepth 20000 in
theorem ob_X10_surest_16 {D : Nat → Prop} : ∀ (fu : Nat) (v0 : Nat) (kv0 : KA D v0 (0, 10)) (v1 : Int32) (v2 : Int32) (S : St), WT D S.2.2 → OD D (b_X10_surest_16 fu v0 v1 v2 S) S := by
  intro fu
  induction fu with
  | zero => intro v0 kv0 v1 v2 S w; exact OD_none
  | succ fu ih =>
    intro v0 kv0 v1 v2 S w
    rw [b_X10_surest_16]
    refine OD_ite ?_ ?_
    · exact OD_some
    · refine OD_bd (o_X10_isSo v0 kv0 v2 v1 S w) (fun r2 S1 hS1 => ?_)
      have wS1 : WT D S1.2.2 := by rw [hS1]; exact w
      clear hS1
      refine OD_ite ?_ ?_
      · refine OD_nm (fun x3 => ?_)
        exact ih v0 kv0 v1 x3 S1 wS1
      · exact OD_some
set_option maxRecDepth 20000 in
theorem o_X10_surest {D : Nat → Prop} (v0 : Nat) (kv0 : KA D v0 (0, 10)) (v1 : Int32) (S : St) (w : WT D S.2.2) : OD D (f_X10_surest v0 v1 S) S := by
  unfold f_X10_surest
  refine OD_bd (o_X10_in v1 (0 : Int32) (S.1 v0 64) S w) (fun r2 S1 hS1 => ?_)
  have wS1 : WT D S1.2.2 := by rw [hS1]; exact w
  clear hS1
  refine OD_ite ?_ ?_
  · exact OD_some
  · exact ob_X10_surest_16 FU v0 kv0 v1 (0 : Int32) S1 wS1
set_option maxRecDepth 20000 in
theorem ob_X10_worstFrom_109 {D : Nat → Prop} {q26 : Nat → Int32 → Int32 → Int32 → Int32 → St → Option (Int32 × St)} (oq26 : ∀ (v0 : Nat) (kv0 : KA D v0 (0, 10)) (v1 : Int32) (v2 : Int32) (v3 : Int32) (v4 : Int32) (S : St), WT D S.2.2 → OD D (q26 v0 v1 v2 v3 v4 S) S) (v0 : Nat) (kv0 : KA D v0 (0, 10)) (v1 : Int32) (v2 : Int32) (v3 : Int32) (v4 : Int32) (S : St) (w : WT D S.2.2) : OD D (b_X10_worstFrom_109 q26 v0 v1 v2 v3 v4 S) S := by
  unfold b_X10_worstFrom_109
  refine OD_nm (fun x1 => ?_)
  exact oq26 v0 kv0 v1 v2 v3 x1 S w
set_option maxRecDepth 20000 in
theorem ob_X10_worstFrom_26 {D : Nat → Prop} : ∀ (fu : Nat) (v0 : Nat) (kv0 : KA D v0 (0, 10)) (v1 : Int32) (v2 : Int32) (v3 : Int32) (v4 : Int32) (S : St), WT D S.2.2 → OD D (b_X10_worstFrom_26 fu v0 v1 v2 v3 v4 S) S := by
  intro fu
  induction fu with
  | zero => intro v0 kv0 v1 v2 v3 v4 S w; exact OD_none
  | succ fu ih =>
    intro v0 kv0 v1 v2 v3 v4 S w
    rw [b_X10_worstFrom_26]
    refine OD_ite ?_ ?_
    · exact OD_some
    · refine OD_bd (o_X10_isSo v0 kv0 v4 v2 S w) (fun r2 S1 hS1 => ?_)
      have wS1 : WT D S1.2.2 := by rw [hS1]; exact w
      clear hS1
      refine OD_ite ?_ ?_
      · exact ob_X10_worstFrom_109 ih v0 kv0 v1 v2 v3 v4 S1 wS1
      · refine OD_bd (o_X10_signOf ((v4 - v4 / (10 : Int32) * (10 : Int32)) - (v1 - v1 / (10 : Int32) * (10 : Int32))) S1 wS1) (fun r4 S3 hS3 => ?_)
        have wS3 : WT D S3.2.2 := by rw [hS3]; exact wS1
        clear hS3
        refine OD_bd (o_X10_signOf ((v4 / (10 : Int32)) - (v1 / (10 : Int32))) S3 wS3) (fun r6 S5 hS5 => ?_)
        have wS5 : WT D S5.2.2 := by rw [hS5]; exact wS3
        clear hS5
        refine OD_nm (fun x7 => ?_)
        refine OD_ix (fun j8 => ?_)
        refine OD_ix (fun j9 => ?_)
        refine OD_nmI (wS5.1 _ _ kv0 68 _ rfl).2 (fun S10 hS10 => ?_)
        have wS10 : WT D S10.2.2 := by rw [hS10]; exact wS5
        clear hS10
        refine OD_ix (fun j11 => ?_)
        refine OD_ite ?_ ?_
        · exact ob_X10_worstFrom_109 ih v0 kv0 v1 v2 v3 v4 S10 wS10
        · refine OD_ix (fun j12 => ?_)
          refine OD_nm (fun x13 => ?_)
          exact ob_X10_worstFrom_109 ih v0 kv0 v1 v2 x13 v4 S10 wS10
set_option maxRecDepth 20000 in
theorem ob_X10_worstFrom_2 {D : Nat → Prop} : ∀ (fu : Nat) (v0 : Nat) (kv0 : KA D v0 (0, 10)) (v1 : Int32) (v2 : Int32) (v3 : Int32) (S : St), WT D S.2.2 → OD D (b_X10_worstFrom_2 fu v0 v1 v2 v3 S) S := by
  intro fu
  induction fu with
  | zero => intro v0 kv0 v1 v2 v3 S w; exact OD_none
  | succ fu ih =>
    intro v0 kv0 v1 v2 v3 S w
    rw [b_X10_worstFrom_2]
    refine OD_ite ?_ ?_
    · exact ob_X10_worstFrom_26 FU v0 kv0 v1 v2 (0 : Int32) (0 : Int32) S w
    · refine OD_ix (fun j1 => ?_)
      refine OD_nmI (w.1 _ _ kv0 68 _ rfl).2 (fun S2 hS2 => ?_)
      have wS2 : WT D S2.2.2 := by rw [hS2]; exact w
      clear hS2
      refine OD_nm (fun x3 => ?_)
      exact ih v0 kv0 v1 v2 x3 S2 wS2
set_option maxRecDepth 20000 in
theorem o_X10_worstFrom {D : Nat → Prop} (v0 : Nat) (kv0 : KA D v0 (0, 10)) (v1 : Int32) (v2 : Int32) (S : St) (w : WT D S.2.2) : OD D (f_X10_worstFrom v0 v1 v2 S) S := by
  unfold f_X10_worstFrom
  exact ob_X10_worstFrom_2 FU v0 kv0 v1 v2 (0 : Int32) S w
set_option maxRecDepth 20000 in
theorem ob_X10_holdNext_62 {D : Nat → Prop} {q22 : Nat → Int32 → Int32 → Int32 → Int32 → St → Option (Int32 × St)} (oq22 : ∀ (v0 : Nat) (kv0 : KA D v0 (0, 10)) (v1 : Int32) (v2 : Int32) (v3 : Int32) (v4 : Int32) (S : St), WT D S.2.2 → OD D (q22 v0 v1 v2 v3 v4 S) S) (v0 : Nat) (kv0 : KA D v0 (0, 10)) (v1 : Int32) (v2 : Int32) (v3 : Int32) (v4 : Int32) (S : St) (w : WT D S.2.2) : OD D (b_X10_holdNext_62 q22 v0 v1 v2 v3 v4 S) S := by
  unfold b_X10_holdNext_62
  refine OD_nm (fun x1 => ?_)
  exact oq22 v0 kv0 v1 v2 v3 x1 S w
set_option maxRecDepth 20000 in
theorem ob_X10_holdNext_56 {D : Nat → Prop} {q22 : Nat → Int32 → Int32 → Int32 → Int32 → St → Option (Int32 × St)} (oq22 : ∀ (v0 : Nat) (kv0 : KA D v0 (0, 10)) (v1 : Int32) (v2 : Int32) (v3 : Int32) (v4 : Int32) (S : St), WT D S.2.2 → OD D (q22 v0 v1 v2 v3 v4 S) S) (v0 : Nat) (kv0 : KA D v0 (0, 10)) (v1 : Int32) (v4 : Int32) (v5 : Int32) (S : St) (w : WT D S.2.2) : OD D (b_X10_holdNext_56 q22 v0 v1 v4 v5 S) S := by
  unfold b_X10_holdNext_56
  exact ob_X10_holdNext_62 oq22 v0 kv0 v1 v4 v5 v4 S w
set_option maxRecDepth 20000 in
theorem ob_X10_holdNext_22 {D : Nat → Prop} : ∀ (fu : Nat) (v0 : Nat) (kv0 : KA D v0 (0, 10)) (v1 : Int32) (v2 : Int32) (v3 : Int32) (v4 : Int32) (S : St), WT D S.2.2 → OD D (b_X10_holdNext_22 fu v0 v1 v2 v3 v4 S) S := by
  intro fu
  induction fu with
  | zero => intro v0 kv0 v1 v2 v3 v4 S w; exact OD_none
  | succ fu ih =>
    intro v0 kv0 v1 v2 v3 v4 S w
    rw [b_X10_holdNext_22]
    refine OD_ite ?_ ?_
    · exact OD_some
    · refine OD_bd (o_X10_worstFrom v0 kv0 v4 v1 S w) (fun r2 S1 hS1 => ?_)
      have wS1 : WT D S1.2.2 := by rw [hS1]; exact w
      clear hS1
      refine OD_ite ?_ ?_
      · exact ob_X10_holdNext_62 ih v0 kv0 v1 v2 v3 v4 S1 wS1
      · refine OD_ite ?_ ?_
        · exact ob_X10_holdNext_56 ih v0 kv0 v1 v4 r2 S1 wS1
        · refine OD_ite ?_ ?_
          · exact ob_X10_holdNext_56 ih v0 kv0 v1 v4 r2 S1 wS1
          · exact ob_X10_holdNext_62 ih v0 kv0 v1 v2 v3 v4 S1 wS1
set_option maxRecDepth 20000 in
theorem o_X10_holdNext {D : Nat → Prop} (v0 : Nat) (kv0 : KA D v0 (0, 10)) (v1 : Int32) (S : St) (w : WT D S.2.2) : OD D (f_X10_holdNext v0 v1 S) S := by
  unfold f_X10_holdNext
  refine OD_bd (o_X10_in v1 (0 : Int32) (S.1 v0 64) S w) (fun r2 S1 hS1 => ?_)
  have wS1 : WT D S1.2.2 := by rw [hS1]; exact w
  clear hS1
  refine OD_ite ?_ ?_
  · exact OD_some
  · exact ob_X10_holdNext_22 FU v0 kv0 v1 (-2 : Int32) (0 : Int32) (0 : Int32) S1 wS1
set_option maxRecDepth 20000 in
theorem ob_X10_hold_20 {D : Nat → Prop} : ∀ (fu : Nat) (v0 : Nat) (kv0 : KA D v0 (0, 10)) (v1 : Int32) (v2 : Int32) (S : St), WT D S.2.2 → OD D (b_X10_hold_20 fu v0 v1 v2 S) S := by
  intro fu
  induction fu with
  | zero => intro v0 kv0 v1 v2 S w; exact OD_none
  | succ fu ih =>
    intro v0 kv0 v1 v2 S w
    rw [b_X10_hold_20]
    refine OD_ite ?_ ?_
    · exact OD_some
    · refine OD_ix (fun j1 => ?_)
      refine OD_ix (fun j2 => ?_)
      refine OD_nmI (w.1 _ _ kv0 70 _ rfl).2 (fun S3 hS3 => ?_)
      have wS3 : WT D S3.2.2 := by rw [hS3]; exact w
      clear hS3
      refine OD_nm (fun x4 => ?_)
      exact ih v0 kv0 v1 x4 S3 wS3
set_option maxRecDepth 20000 in
theorem o_X10_hold {D : Nat → Prop} (v0 : Nat) (kv0 : KA D v0 (0, 10)) (v1 : Int32) (S : St) (w : WT D S.2.2) : OD D (f_X10_hold v0 v1 S) S := by
  unfold f_X10_hold
  refine OD_bd (o_X10_in v1 (0 : Int32) (2 : Int32) S w) (fun r2 S1 hS1 => ?_)
  have wS1 : WT D S1.2.2 := by rw [hS1]; exact w
  clear hS1
  refine OD_ite ?_ ?_
  · exact OD_some
  · refine OD_ix (fun j3 => ?_)
    refine OD_nmI (wS1.1 _ _ kv0 69 _ rfl).2 (fun S4 hS4 => ?_)
    have wS4 : WT D S4.2.2 := by rw [hS4]; exact wS1
    clear hS4
    exact ob_X10_hold_20 FU v0 kv0 v1 (0 : Int32) S4 wS4
set_option maxRecDepth 20000 in
theorem ob_X10_restore_22 {D : Nat → Prop} : ∀ (fu : Nat) (v0 : Nat) (kv0 : KA D v0 (0, 10)) (v1 : Int32) (v2 : Int32) (S : St), WT D S.2.2 → OD D (b_X10_restore_22 fu v0 v1 v2 S) S := by
  intro fu
  induction fu with
  | zero => intro v0 kv0 v1 v2 S w; exact OD_none
  | succ fu ih =>
    intro v0 kv0 v1 v2 S w
    rw [b_X10_restore_22]
    refine OD_ite ?_ ?_
    · refine OD_nmI (kv0).2 (fun S1 hS1 => ?_)
      have wS1 : WT D S1.2.2 := by rw [hS1]; exact w
      clear hS1
      exact OD_some
    · refine OD_ix (fun j2 => ?_)
      refine OD_ix (fun j3 => ?_)
      refine OD_nmI (w.1 _ _ kv0 51 _ rfl).2 (fun S4 hS4 => ?_)
      have wS4 : WT D S4.2.2 := by rw [hS4]; exact w
      clear hS4
      refine OD_nm (fun x5 => ?_)
      exact ih v0 kv0 v1 x5 S4 wS4
set_option maxRecDepth 20000 in
theorem o_X10_restore {D : Nat → Prop} (v0 : Nat) (kv0 : KA D v0 (0, 10)) (v1 : Int32) (S : St) (w : WT D S.2.2) : OD D (f_X10_restore v0 v1 S) S := by
  unfold f_X10_restore
  refine OD_bd (o_X10_in v1 (0 : Int32) (2 : Int32) S w) (fun r2 S1 hS1 => ?_)
  have wS1 : WT D S1.2.2 := by rw [hS1]; exact w
  clear hS1
  refine OD_ite ?_ ?_
  · exact OD_some
  · refine OD_ix (fun j3 => ?_)
    refine OD_ite ?_ ?_
    · exact OD_some
    · exact ob_X10_restore_22 FU v0 kv0 v1 (0 : Int32) S1 wS1
set_option maxRecDepth 20000 in
theorem ob_X10_count_301 {D : Nat → Prop} {q274 : Nat → Int32 → Int32 → St → Option (Int32 × St)} (oq274 : ∀ (v0 : Nat) (kv0 : KA D v0 (0, 10)) (v2 : Int32) (v3 : Int32) (S : St), WT D S.2.2 → OD D (q274 v0 v2 v3 S) S) (v0 : Nat) (kv0 : KA D v0 (0, 10)) (v2 : Int32) (v3 : Int32) (S : St) (w : WT D S.2.2) : OD D (b_X10_count_301 q274 v0 v2 v3 S) S := by
  unfold b_X10_count_301
  refine OD_nm (fun x1 => ?_)
  exact oq274 v0 kv0 v2 x1 S w
set_option maxRecDepth 20000 in
theorem ob_X10_count_274 {D : Nat → Prop} : ∀ (fu : Nat) (v0 : Nat) (kv0 : KA D v0 (0, 10)) (v2 : Int32) (v3 : Int32) (S : St), WT D S.2.2 → OD D (b_X10_count_274 fu v0 v2 v3 S) S := by
  intro fu
  induction fu with
  | zero => intro v0 kv0 v2 v3 S w; exact OD_none
  | succ fu ih =>
    intro v0 kv0 v2 v3 S w
    rw [b_X10_count_274]
    refine OD_ix (fun j1 => ?_)
    refine OD_ite ?_ ?_
    · exact OD_some
    · refine OD_bd (o_X10_movesNow v0 kv0 v3 S w) (fun r3 S2 hS2 => ?_)
      have wS2 : WT D S2.2.2 := by rw [hS2]; exact w
      clear hS2
      refine OD_ite ?_ ?_
      · exact ob_X10_count_301 ih v0 kv0 v2 v3 S2 wS2
      · refine OD_nm (fun x4 => ?_)
        exact ob_X10_count_301 ih v0 kv0 x4 v3 S2 wS2
set_option maxRecDepth 20000 in
theorem ob_X10_count_246 {D : Nat → Prop} (v0 : Nat) (kv0 : KA D v0 (0, 10)) (s0 : Int32) (s1 : Int32) (S : St) (w : WT D S.2.2) : OD D (b_X10_count_246 v0 s0 s1 S) S := by
  unfold b_X10_count_246
  refine OD_ix (fun j1 => ?_)
  refine OD_ite ?_ ?_
  · exact OD_some
  · exact OD_some
set_option maxRecDepth 20000 in
theorem ob_X10_count_232 {D : Nat → Prop} (v0 : Nat) (kv0 : KA D v0 (0, 10)) (s0 : Int32) (S : St) (w : WT D S.2.2) : OD D (b_X10_count_232 v0 s0 S) S := by
  unfold b_X10_count_232
  refine OD_ix (fun j1 => ?_)
  refine OD_ite ?_ ?_
  · exact ob_X10_count_246 v0 kv0 s0 (0 : Int32) S w
  · exact ob_X10_count_246 v0 kv0 s0 (1 : Int32) S w
set_option maxRecDepth 20000 in
theorem ob_X10_count_168 {D : Nat → Prop} : ∀ (fu : Nat) (v0 : Nat) (kv0 : KA D v0 (0, 10)) (v2 : Int32) (v3 : Int32) (S : St), WT D S.2.2 → OD D (b_X10_count_168 fu v0 v2 v3 S) S := by
  intro fu
  induction fu with
  | zero => intro v0 kv0 v2 v3 S w; exact OD_none
  | succ fu ih =>
    intro v0 kv0 v2 v3 S w
    rw [b_X10_count_168]
    refine OD_ix (fun j1 => ?_)
    refine OD_ite ?_ ?_
    · exact OD_some
    · refine OD_ix (fun j2 => ?_)
      refine OD_nm (fun x3 => ?_)
      refine OD_nm (fun x4 => ?_)
      exact ih v0 kv0 x3 x4 S w
set_option maxRecDepth 20000 in
theorem ob_X10_count_131 {D : Nat → Prop} : ∀ (fu : Nat) (v0 : Nat) (kv0 : KA D v0 (0, 10)) (v2 : Int32) (v3 : Int32) (S : St), WT D S.2.2 → OD D (b_X10_count_131 fu v0 v2 v3 S) S := by
  intro fu
  induction fu with
  | zero => intro v0 kv0 v2 v3 S w; exact OD_none
  | succ fu ih =>
    intro v0 kv0 v2 v3 S w
    rw [b_X10_count_131]
    refine OD_ix (fun j1 => ?_)
    refine OD_ite ?_ ?_
    · exact OD_some
    · refine OD_ix (fun j2 => ?_)
      refine OD_nm (fun x3 => ?_)
      refine OD_nm (fun x4 => ?_)
      exact ih v0 kv0 x3 x4 S w
set_option maxRecDepth 20000 in
theorem o_X10_count {D : Nat → Prop} (v0 : Nat) (kv0 : KA D v0 (0, 10)) (v1 : Int32) (S : St) (w : WT D S.2.2) : OD D (f_X10_count v0 v1 S) S := by
  unfold f_X10_count
  refine OD_bd (o_X10_copies v0 kv0 S w) (fun _ S1 hS1 => ?_)
  have wS1 : WT D S1.2.2 := by rw [hS1]; exact w
  clear hS1
  refine OD_ite ?_ ?_
  · refine OD_ix (fun j3 => ?_)
    exact OD_some
  refine OD_ite ?_ ?_
  · refine OD_ix (fun j4 => ?_)
    exact OD_some
  refine OD_ite ?_ ?_
  · refine OD_ix (fun j5 => ?_)
    exact OD_some
  refine OD_ite ?_ ?_
  · refine OD_ix (fun j6 => ?_)
    exact OD_some
  refine OD_ite ?_ ?_
  · refine OD_ix (fun j7 => ?_)
    exact OD_some
  refine OD_ite ?_ ?_
  · refine OD_bd (o_X10_offBits v0 kv0 S1 wS1) (fun r9 S8 hS8 => ?_)
    have wS8 : WT D S8.2.2 := by rw [hS8]; exact wS1
    clear hS8
    exact OD_some
  refine OD_ite ?_ ?_
  · exact ob_X10_count_131 FU v0 kv0 (0 : Int32) (0 : Int32) S1 wS1
  refine OD_ite ?_ ?_
  · exact ob_X10_count_168 FU v0 kv0 (0 : Int32) (0 : Int32) S1 wS1
  refine OD_ite ?_ ?_
  · exact OD_some
  refine OD_ite ?_ ?_
  · exact OD_some
  refine OD_ite ?_ ?_
  · exact OD_some
  refine OD_ite ?_ ?_
  · refine OD_ix (fun j10 => ?_)
    refine OD_ite ?_ ?_
    · exact ob_X10_count_232 v0 kv0 (0 : Int32) S1 wS1
    · exact ob_X10_count_232 v0 kv0 (1 : Int32) S1 wS1
  refine OD_ite ?_ ?_
  · refine OD_bd (o_X10_wholeBits v0 kv0 S1 wS1) (fun r12 S11 hS11 => ?_)
    have wS11 : WT D S11.2.2 := by rw [hS11]; exact wS1
    clear hS11
    refine OD_bd (o_X10_pricesOf v0 kv0 r12 S11 wS11) (fun r14 S13 hS13 => ?_)
    have wS13 : WT D S13.2.2 := by rw [hS13]; exact wS11
    clear hS13
    exact OD_some
  refine OD_ite ?_ ?_
  · exact ob_X10_count_274 FU v0 kv0 (0 : Int32) (0 : Int32) S1 wS1
  exact OD_some

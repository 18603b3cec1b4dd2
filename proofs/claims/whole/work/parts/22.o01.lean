set_option maxRecDepth 20000 in
theorem ob_X9_market_25 {D : Nat → Prop} : ∀ (fu : Nat) (v0 : Nat) (kv0 : KA D v0 (0, 9)) (v1 : Int32) (v2 : Int32) (S : St), WT D S.2.2 → OD D (b_X9_market_25 fu v0 v1 v2 S) S := by
  intro fu
  induction fu with
  | zero => intro v0 kv0 v1 v2 S w; exact OD_none
  | succ fu ih =>
    intro v0 kv0 v1 v2 S w
    rw [b_X9_market_25]
    refine OD_ite ?_ ?_
    · refine OD_bd (o_X8_pricesOfAll (S.2.2 v0 8) (w.1 _ _ kv0 8 _ rfl) S w) (fun r2 S1 hS1 => ?_)
      have wS1 : WT D S1.2.2 := by rw [hS1]; exact w
      clear hS1
      exact OD_some
    · refine OD_bd (o_X8_goMonth (S.2.2 v0 8) (w.1 _ _ kv0 8 _ rfl) (0 : Int32) (S.1 (S.2.2 v0 3) 1) (0 : Int32) S w) (fun _ S3 hS3 => ?_)
      have wS3 : WT D S3.2.2 := by rw [hS3]; exact w
      clear hS3
      refine OD_nm (fun x5 => ?_)
      exact ih v0 kv0 v1 x5 S3 wS3
set_option maxRecDepth 20000 in
theorem o_X9_market {D : Nat → Prop} (v0 : Nat) (kv0 : KA D v0 (0, 9)) (v1 : Int32) (S : St) (w : WT D S.2.2) : OD D (f_X9_market v0 v1 S) S := by
  unfold f_X9_market
  refine OD_bd (o_X9_isWithin v1 (0 : Int32) (60 : Int32) S w) (fun r2 S1 hS1 => ?_)
  have wS1 : WT D S1.2.2 := by rw [hS1]; exact w
  clear hS1
  refine OD_ite ?_ ?_
  · exact OD_some
  · refine OD_bd (o_X5_copyFrom (S1.2.2 v0 6) (wS1.1 _ _ kv0 6 _ rfl) (S1.2.2 v0 5) (wS1.1 _ _ kv0 5 _ rfl) S1 wS1) (fun _ S3 hS3 => ?_)
    have wS3 : WT D S3.2.2 := by rw [hS3]; exact wS1
    clear hS3
    exact ob_X9_market_25 FU v0 kv0 v1 (0 : Int32) S3 wS3
set_option maxRecDepth 20000 in
theorem ob_X9_year_47 {D : Nat → Prop} : ∀ (fu : Nat) (v0 : Nat) (kv0 : KA D v0 (0, 9)) (v1 : Int32) (v2 : Int32) (v3 : Int32) (v4 : Int32) (v5 : Int32) (S : St), WT D S.2.2 → OD D (b_X9_year_47 fu v0 v1 v2 v3 v4 v5 S) S := by
  intro fu
  induction fu with
  | zero => intro v0 kv0 v1 v2 v3 v4 v5 S w; exact OD_none
  | succ fu ih =>
    intro v0 kv0 v1 v2 v3 v4 v5 S w
    rw [b_X9_year_47]
    refine OD_ite ?_ ?_
    · refine OD_bd (o_X5_isOff (S.2.2 v0 6) (w.1 _ _ kv0 6 _ rfl) v1 S w) (fun r2 S1 hS1 => ?_)
      have wS1 : WT D S1.2.2 := by rw [hS1]; exact w
      clear hS1
      refine OD_ite ?_ ?_
      · refine OD_bd (o_J6_bitCount_0f7a4 v4 S1 wS1) (fun r4 S3 hS3 => ?_)
        have wS3 : WT D S3.2.2 := by rw [hS3]; exact wS1
        clear hS3
        exact OD_some
      · exact OD_some
    · refine OD_bd (o_X8_seedsThatDrown (S.2.2 v0 8) (w.1 _ _ kv0 8 _ rfl) v1 v3 S w) (fun r6 S5 hS5 => ?_)
      have wS5 : WT D S5.2.2 := by rw [hS5]; exact w
      clear hS5
      refine OD_nm (fun x7 => ?_)
      refine OD_bd (o_X8_goMonth (S5.2.2 v0 8) (wS5.1 _ _ kv0 8 _ rfl) v1 (v1 + (1 : Int32)) (0 : Int32) S5 wS5) (fun _ S8 hS8 => ?_)
      have wS8 : WT D S8.2.2 := by rw [hS8]; exact wS5
      clear hS8
      refine OD_nm (fun x10 => ?_)
      exact ih v0 kv0 v1 v2 v3 x7 x10 S8 wS8
set_option maxRecDepth 20000 in
theorem o_X9_year {D : Nat → Prop} (v0 : Nat) (kv0 : KA D v0 (0, 9)) (v1 : Int32) (v2 : Int32) (v3 : Int32) (S : St) (w : WT D S.2.2) : OD D (f_X9_year v0 v1 v2 v3 S) S := by
  unfold f_X9_year
  refine OD_bd (o_X9_isPerson v0 kv0 v1 S w) (fun r2 S1 hS1 => ?_)
  have wS1 : WT D S1.2.2 := by rw [hS1]; exact w
  clear hS1
  refine OD_ite ?_ ?_
  · exact OD_some
  · refine OD_bd (o_X9_isWithin v2 (0 : Int32) (60 : Int32) S1 wS1) (fun r4 S3 hS3 => ?_)
    have wS3 : WT D S3.2.2 := by rw [hS3]; exact wS1
    clear hS3
    refine OD_ite ?_ ?_
    · exact OD_some
    · refine OD_bd (o_X9_isWithin v3 (1 : Int32) (20 : Int32) S3 wS3) (fun r6 S5 hS5 => ?_)
      have wS5 : WT D S5.2.2 := by rw [hS5]; exact wS3
      clear hS5
      refine OD_ite ?_ ?_
      · exact OD_some
      · refine OD_bd (o_X5_copyFrom (S5.2.2 v0 6) (wS5.1 _ _ kv0 6 _ rfl) (S5.2.2 v0 5) (wS5.1 _ _ kv0 5 _ rfl) S5 wS5) (fun _ S7 hS7 => ?_)
        have wS7 : WT D S7.2.2 := by rw [hS7]; exact wS5
        clear hS7
        exact ob_X9_year_47 FU v0 kv0 v1 v2 v3 (0 : Int32) (0 : Int32) S7 wS7
set_option maxRecDepth 20000 in
theorem ob_X9_cutBest_140 {D : Nat → Prop} {q43 : Nat → Int32 → Int32 → Int32 → Int32 → St → Option (Int32 × St)} (oq43 : ∀ (v0 : Nat) (kv0 : KA D v0 (0, 9)) (v1 : Int32) (v2 : Int32) (v3 : Int32) (v4 : Int32) (S : St), WT D S.2.2 → OD D (q43 v0 v1 v2 v3 v4 S) S) (v0 : Nat) (kv0 : KA D v0 (0, 9)) (v1 : Int32) (v2 : Int32) (v3 : Int32) (v4 : Int32) (S : St) (w : WT D S.2.2) : OD D (b_X9_cutBest_140 q43 v0 v1 v2 v3 v4 S) S := by
  unfold b_X9_cutBest_140
  refine OD_nm (fun x1 => ?_)
  exact oq43 v0 kv0 v1 v2 v3 x1 S w
set_option maxRecDepth 20000 in
theorem ob_X9_cutBest_43 {D : Nat → Prop} : ∀ (fu : Nat) (v0 : Nat) (kv0 : KA D v0 (0, 9)) (v1 : Int32) (v2 : Int32) (v3 : Int32) (v4 : Int32) (S : St), WT D S.2.2 → OD D (b_X9_cutBest_43 fu v0 v1 v2 v3 v4 S) S := by
  intro fu
  induction fu with
  | zero => intro v0 kv0 v1 v2 v3 v4 S w; exact OD_none
  | succ fu ih =>
    intro v0 kv0 v1 v2 v3 v4 S w
    rw [b_X9_cutBest_43]
    refine OD_ite ?_ ?_
    · exact OD_some
    · refine OD_ite ?_ ?_
      · exact OD_some
      · refine OD_bd (o_X5_isCut (S.2.2 v0 5) (w.1 _ _ kv0 5 _ rfl) v4 S w) (fun r2 S1 hS1 => ?_)
        have wS1 : WT D S1.2.2 := by rw [hS1]; exact w
        clear hS1
        refine OD_ite ?_ ?_
        · refine OD_ix (fun j3 => ?_)
          refine OD_ite ?_ ?_
          · refine OD_bd (o_X5_copyFrom (S1.2.2 v0 6) (wS1.1 _ _ kv0 6 _ rfl) (S1.2.2 v0 5) (wS1.1 _ _ kv0 5 _ rfl) S1 wS1) (fun _ S4 hS4 => ?_)
            have wS4 : WT D S4.2.2 := by rw [hS4]; exact wS1
            clear hS4
            refine OD_nmI (wS4.1 _ _ kv0 6 _ rfl).2 (fun S6 hS6 => ?_)
            have wS6 : WT D S6.2.2 := by rw [hS6]; exact wS4
            clear hS6
            refine OD_bd (o_X8_goUntilFirst (S6.2.2 v0 8) (wS6.1 _ _ kv0 8 _ rfl) S6 wS6) (fun r8 S7 hS7 => ?_)
            have wS7 : WT D S7.2.2 := by rw [hS7]; exact wS6
            clear hS7
            refine OD_ite ?_ ?_
            · exact ob_X9_cutBest_140 ih v0 kv0 v1 v2 v3 v4 S7 wS7
            · exact ob_X9_cutBest_140 ih v0 kv0 r8 v2 v4 v4 S7 wS7
          · exact ob_X9_cutBest_140 ih v0 kv0 v1 v2 v3 v4 S1 wS1
        · exact ob_X9_cutBest_140 ih v0 kv0 v1 v2 v3 v4 S1 wS1
set_option maxRecDepth 20000 in
theorem o_X9_cutBest {D : Nat → Prop} (v0 : Nat) (kv0 : KA D v0 (0, 9)) (S : St) (w : WT D S.2.2) : OD D (f_X9_cutBest v0 S) S := by
  unfold f_X9_cutBest
  refine OD_bd (o_X5_copyFrom (S.2.2 v0 6) (w.1 _ _ kv0 6 _ rfl) (S.2.2 v0 5) (w.1 _ _ kv0 5 _ rfl) S w) (fun _ S1 hS1 => ?_)
  have wS1 : WT D S1.2.2 := by rw [hS1]; exact w
  clear hS1
  refine OD_bd (o_X8_goUntilFirst (S1.2.2 v0 8) (wS1.1 _ _ kv0 8 _ rfl) S1 wS1) (fun r4 S3 hS3 => ?_)
  have wS3 : WT D S3.2.2 := by rw [hS3]; exact wS1
  clear hS3
  refine OD_nm (fun x5 => ?_)
  exact ob_X9_cutBest_43 FU v0 kv0 r4 x5 (-2 : Int32) (0 : Int32) S3 wS3
set_option maxRecDepth 20000 in
theorem ob_X9_give_160 {D : Nat → Prop} {q71 : Nat → Int32 → Int32 → Int32 → Int32 → Int32 → St → Option (Int32 × St)} (oq71 : ∀ (v0 : Nat) (kv0 : KA D v0 (0, 9)) (v1 : Int32) (v2 : Int32) (v3 : Int32) (v4 : Int32) (v5 : Int32) (S : St), WT D S.2.2 → OD D (q71 v0 v1 v2 v3 v4 v5 S) S) (v0 : Nat) (kv0 : KA D v0 (0, 9)) (v1 : Int32) (v2 : Int32) (v3 : Int32) (v4 : Int32) (v5 : Int32) (S : St) (w : WT D S.2.2) : OD D (b_X9_give_160 q71 v0 v1 v2 v3 v4 v5 S) S := by
  unfold b_X9_give_160
  refine OD_nm (fun x1 => ?_)
  exact oq71 v0 kv0 v1 v2 v3 v4 x1 S w
set_option maxRecDepth 20000 in
theorem ob_X9_give_71 {D : Nat → Prop} : ∀ (fu : Nat) (v0 : Nat) (kv0 : KA D v0 (0, 9)) (v1 : Int32) (v2 : Int32) (v3 : Int32) (v4 : Int32) (v5 : Int32) (S : St), WT D S.2.2 → OD D (b_X9_give_71 fu v0 v1 v2 v3 v4 v5 S) S := by
  intro fu
  induction fu with
  | zero => intro v0 kv0 v1 v2 v3 v4 v5 S w; exact OD_none
  | succ fu ih =>
    intro v0 kv0 v1 v2 v3 v4 v5 S w
    rw [b_X9_give_71]
    refine OD_ite ?_ ?_
    · exact OD_some
    · refine OD_ite ?_ ?_
      · exact OD_some
      · refine OD_bd (o_X5_mayBeHanded (S.2.2 v0 5) (w.1 _ _ kv0 5 _ rfl) v1 v5 S w) (fun r2 S1 hS1 => ?_)
        have wS1 : WT D S1.2.2 := by rw [hS1]; exact w
        clear hS1
        refine OD_ite ?_ ?_
        · exact ob_X9_give_160 ih v0 kv0 v1 v2 v3 v4 v5 S1 wS1
        · refine OD_ite ?_ ?_
          · refine OD_bd (o_X5_copyFrom (S1.2.2 v0 6) (wS1.1 _ _ kv0 6 _ rfl) (S1.2.2 v0 5) (wS1.1 _ _ kv0 5 _ rfl) S1 wS1) (fun _ S3 hS3 => ?_)
            have wS3 : WT D S3.2.2 := by rw [hS3]; exact wS1
            clear hS3
            refine OD_ix (fun j5 => ?_)
            refine OD_nmI (wS3.1 _ _ (wS3.1 _ _ kv0 6 _ rfl) 0 _ rfl).2 (fun S6 hS6 => ?_)
            have wS6 : WT D S6.2.2 := by rw [hS6]; exact wS3
            clear hS6
            refine OD_bd (o_X8_goUntilFirst (S6.2.2 v0 8) (wS6.1 _ _ kv0 8 _ rfl) S6 wS6) (fun r8 S7 hS7 => ?_)
            have wS7 : WT D S7.2.2 := by rw [hS7]; exact wS6
            clear hS7
            refine OD_ite ?_ ?_
            · exact ob_X9_give_160 ih v0 kv0 v1 v2 v3 v4 v5 S7 wS7
            · exact ob_X9_give_160 ih v0 kv0 v1 r8 v3 v5 v5 S7 wS7
          · exact ob_X9_give_160 ih v0 kv0 v1 v2 v3 v4 v5 S1 wS1
set_option maxRecDepth 20000 in
theorem o_X9_give {D : Nat → Prop} (v0 : Nat) (kv0 : KA D v0 (0, 9)) (v1 : Int32) (S : St) (w : WT D S.2.2) : OD D (f_X9_give v0 v1 S) S := by
  unfold f_X9_give
  refine OD_bd (o_X9_isStrand v0 kv0 v1 S w) (fun r2 S1 hS1 => ?_)
  have wS1 : WT D S1.2.2 := by rw [hS1]; exact w
  clear hS1
  refine OD_ite ?_ ?_
  · exact OD_some
  · refine OD_bd (o_X5_copyFrom (S1.2.2 v0 6) (wS1.1 _ _ kv0 6 _ rfl) (S1.2.2 v0 5) (wS1.1 _ _ kv0 5 _ rfl) S1 wS1) (fun _ S3 hS3 => ?_)
    have wS3 : WT D S3.2.2 := by rw [hS3]; exact wS1
    clear hS3
    refine OD_bd (o_X8_goUntilFirst (S3.2.2 v0 8) (wS3.1 _ _ kv0 8 _ rfl) S3 wS3) (fun r6 S5 hS5 => ?_)
    have wS5 : WT D S5.2.2 := by rw [hS5]; exact wS3
    clear hS5
    refine OD_ix (fun j7 => ?_)
    refine OD_nm (fun x8 => ?_)
    exact ob_X9_give_71 FU v0 kv0 v1 r6 x8 (-2 : Int32) (0 : Int32) S5 wS5
set_option maxRecDepth 20000 in
theorem o_X9_plait {D : Nat → Prop} (v0 : Nat) (kv0 : KA D v0 (0, 9)) (v1 : Int32) (v2 : Int32) (v3 : Int32) (v4 : Int32) (S : St) (w : WT D S.2.2) : OD D (f_X9_plait v0 v1 v2 v3 v4 S) S := by
  unfold f_X9_plait
  refine OD_bd (o_X9_isPerson v0 kv0 v1 S w) (fun r2 S1 hS1 => ?_)
  have wS1 : WT D S1.2.2 := by rw [hS1]; exact w
  clear hS1
  refine OD_ite ?_ ?_
  · exact OD_some
  · refine OD_bd (o_X9_isWithin v4 (0 : Int32) (1 : Int32) S1 wS1) (fun r4 S3 hS3 => ?_)
    have wS3 : WT D S3.2.2 := by rw [hS3]; exact wS1
    clear hS3
    refine OD_ite ?_ ?_
    · exact OD_some
    · refine OD_bd (o_X9_isWithin v2 (-999 : Int32) (999 : Int32) S3 wS3) (fun r6 S5 hS5 => ?_)
      have wS5 : WT D S5.2.2 := by rw [hS5]; exact wS3
      clear hS5
      refine OD_ite ?_ ?_
      · exact OD_some
      · refine OD_bd (o_X9_isWithin v3 (-999 : Int32) (999 : Int32) S5 wS5) (fun r8 S7 hS7 => ?_)
        have wS7 : WT D S7.2.2 := by rw [hS7]; exact wS5
        clear hS7
        refine OD_ite ?_ ?_
        · exact OD_some
        · refine OD_bd (o_X5_isOff (S7.2.2 v0 5) (wS7.1 _ _ kv0 5 _ rfl) v1 S7 wS7) (fun r10 S9 hS9 => ?_)
          have wS9 : WT D S9.2.2 := by rw [hS9]; exact wS7
          clear hS9
          refine OD_ite ?_ ?_
          · refine OD_bd (o_X3_layOn (S9.2.2 v0 12) (wS9.1 _ _ kv0 12 _ rfl) (S9.2.2 v0 7) (wS9.1 _ _ kv0 7 _ rfl) v1 S9 wS9) (fun _ S11 hS11 => ?_)
            have wS11 : WT D S11.2.2 := by rw [hS11]; exact wS9
            clear hS11
            refine OD_bd (o_X3_seek (S11.2.2 v0 12) (wS11.1 _ _ kv0 12 _ rfl) v2 v3 (0 : Int32) S11 wS11) (fun _ S13 hS13 => ?_)
            have wS13 : WT D S13.2.2 := by rw [hS13]; exact wS11
            clear hS13
            refine OD_ite ?_ ?_
            · exact OD_some
            · refine OD_ite ?_ ?_
              · refine OD_bd (o_J6_bitCount_0f7a4 (S13.1 (S13.2.2 v0 12) 5) S13 wS13) (fun r16 S15 hS15 => ?_)
                have wS15 : WT D S15.2.2 := by rw [hS15]; exact wS13
                clear hS15
                exact OD_some
              · exact OD_some
          · exact OD_some
set_option maxRecDepth 20000 in
theorem o_X9_nothing {D : Nat → Prop} (v0 : Nat) (kv0 : KA D v0 (0, 9)) (v1 : Int32) (v2 : Int32) (S : St) (w : WT D S.2.2) : OD D (f_X9_nothing v0 v1 v2 S) S := by
  unfold f_X9_nothing
  refine OD_bd (o_X9_isPerson v0 kv0 v1 S w) (fun r2 S1 hS1 => ?_)
  have wS1 : WT D S1.2.2 := by rw [hS1]; exact w
  clear hS1
  refine OD_ite ?_ ?_
  · exact OD_some
  · refine OD_bd (o_X9_isWithin v2 (0 : Int32) (1 : Int32) S1 wS1) (fun r4 S3 hS3 => ?_)
    have wS3 : WT D S3.2.2 := by rw [hS3]; exact wS1
    clear hS3
    refine OD_ite ?_ ?_
    · exact OD_some
    · refine OD_bd (o_X5_isOff (S3.2.2 v0 5) (wS3.1 _ _ kv0 5 _ rfl) v1 S3 wS3) (fun r6 S5 hS5 => ?_)
      have wS5 : WT D S5.2.2 := by rw [hS5]; exact wS3
      clear hS5
      refine OD_ite ?_ ?_
      · refine OD_bd (o_X3_layOn (S5.2.2 v0 12) (wS5.1 _ _ kv0 12 _ rfl) (S5.2.2 v0 7) (wS5.1 _ _ kv0 7 _ rfl) v1 S5 wS5) (fun _ S7 hS7 => ?_)
        have wS7 : WT D S7.2.2 := by rw [hS7]; exact wS5
        clear hS7
        refine OD_bd (o_X3_seek (S7.2.2 v0 12) (wS7.1 _ _ kv0 12 _ rfl) (0 : Int32) (0 : Int32) (1 : Int32) S7 wS7) (fun _ S9 hS9 => ?_)
        have wS9 : WT D S9.2.2 := by rw [hS9]; exact wS7
        clear hS9
        refine OD_ite ?_ ?_
        · exact OD_some
        · refine OD_ite ?_ ?_
          · exact OD_some
          · exact OD_some
      · refine OD_ite ?_ ?_
        · exact OD_some
        · exact OD_some
set_option maxRecDepth 20000 in
theorem ob_X9_strongest_104 {D : Nat → Prop} {q29 : Nat → Int32 → Int32 → Int32 → Int32 → Int32 → St → Option (Int32 × St)} (oq29 : ∀ (v0 : Nat) (kv0 : KA D v0 (0, 9)) (v1 : Int32) (v2 : Int32) (v3 : Int32) (v4 : Int32) (v5 : Int32) (S : St), WT D S.2.2 → OD D (q29 v0 v1 v2 v3 v4 v5 S) S) (v0 : Nat) (kv0 : KA D v0 (0, 9)) (v1 : Int32) (v2 : Int32) (v3 : Int32) (v4 : Int32) (v5 : Int32) (S : St) (w : WT D S.2.2) : OD D (b_X9_strongest_104 q29 v0 v1 v2 v3 v4 v5 S) S := by
  unfold b_X9_strongest_104
  refine OD_nm (fun x1 => ?_)
  exact oq29 v0 kv0 v1 v2 v3 v4 x1 S w
set_option maxRecDepth 20000 in
theorem ob_X9_strongest_29 {D : Nat → Prop} : ∀ (fu : Nat) (v0 : Nat) (kv0 : KA D v0 (0, 9)) (v1 : Int32) (v2 : Int32) (v3 : Int32) (v4 : Int32) (v5 : Int32) (S : St), WT D S.2.2 → OD D (b_X9_strongest_29 fu v0 v1 v2 v3 v4 v5 S) S := by
  intro fu
  induction fu with
  | zero => intro v0 kv0 v1 v2 v3 v4 v5 S w; exact OD_none
  | succ fu ih =>
    intro v0 kv0 v1 v2 v3 v4 v5 S w
    rw [b_X9_strongest_29]
    refine OD_ite ?_ ?_
    · refine OD_ite ?_ ?_
      · exact OD_some
      · exact OD_some
    · refine OD_bd (o_X5_isWorn (S.2.2 v0 5) (w.1 _ _ kv0 5 _ rfl) v5 v1 S w) (fun r2 S1 hS1 => ?_)
      have wS1 : WT D S1.2.2 := by rw [hS1]; exact w
      clear hS1
      refine OD_ite ?_ ?_
      · exact ob_X9_strongest_104 ih v0 kv0 v1 v2 v3 v4 v5 S1 wS1
      · refine OD_ix (fun j3 => ?_)
        refine OD_ix (fun j4 => ?_)
        refine OD_bd (o_X8_pullAt (S1.2.2 v0 7) (wS1.1 _ _ kv0 7 _ rfl) v5 v1 (S1.1 (S1.2.2 (S1.2.2 v0 5) 0) j3) (S1.1 (S1.2.2 (S1.2.2 v0 5) 0) j4) S1 wS1) (fun r6 S5 hS5 => ?_)
        have wS5 : WT D S5.2.2 := by rw [hS5]; exact wS1
        clear hS5
        refine OD_ite ?_ ?_
        · exact ob_X9_strongest_104 ih v0 kv0 v1 v2 v3 v4 v5 S5 wS5
        · exact ob_X9_strongest_104 ih v0 kv0 v1 v2 v5 r6 v5 S5 wS5
set_option maxRecDepth 20000 in
theorem o_X9_strongest {D : Nat → Prop} (v0 : Nat) (kv0 : KA D v0 (0, 9)) (v1 : Int32) (v2 : Int32) (S : St) (w : WT D S.2.2) : OD D (f_X9_strongest v0 v1 v2 S) S := by
  unfold f_X9_strongest
  refine OD_bd (o_X9_isPerson v0 kv0 v1 S w) (fun r2 S1 hS1 => ?_)
  have wS1 : WT D S1.2.2 := by rw [hS1]; exact w
  clear hS1
  refine OD_ite ?_ ?_
  · exact OD_some
  · refine OD_bd (o_X9_isWithin v2 (0 : Int32) (1 : Int32) S1 wS1) (fun r4 S3 hS3 => ?_)
    have wS3 : WT D S3.2.2 := by rw [hS3]; exact wS1
    clear hS3
    refine OD_ite ?_ ?_
    · exact OD_some
    · exact ob_X9_strongest_29 FU v0 kv0 v1 v2 (-2 : Int32) (-2 : Int32) (0 : Int32) S3 wS3
set_option maxRecDepth 20000 in
theorem ob_X9_even_95 {D : Nat → Prop} {q26 : Nat → Int32 → Int32 → Int32 → St → Option (Int32 × St)} (oq26 : ∀ (v0 : Nat) (kv0 : KA D v0 (0, 9)) (v1 : Int32) (v2 : Int32) (v3 : Int32) (S : St), WT D S.2.2 → OD D (q26 v0 v1 v2 v3 S) S) {q42 : Nat → Int32 → Int32 → Int32 → Int32 → St → Option (Int32 × St)} (oq42 : ∀ (v0 : Nat) (kv0 : KA D v0 (0, 9)) (v1 : Int32) (v2 : Int32) (v3 : Int32) (v4 : Int32) (S : St), WT D S.2.2 → OD D (q42 v0 v1 v2 v3 v4 S) S) (v0 : Nat) (kv0 : KA D v0 (0, 9)) (v1 : Int32) (v2 : Int32) (v3 : Int32) (v4 : Int32) (S : St) (w : WT D S.2.2) : OD D (b_X9_even_95 q26 q42 v0 v1 v2 v3 v4 S) S := by
  unfold b_X9_even_95
  refine OD_nm (fun x1 => ?_)
  exact oq42 v0 kv0 v1 v2 v3 x1 S w
set_option maxRecDepth 20000 in
theorem ob_X9_even_42 {D : Nat → Prop} {q26 : Nat → Int32 → Int32 → Int32 → St → Option (Int32 × St)} (oq26 : ∀ (v0 : Nat) (kv0 : KA D v0 (0, 9)) (v1 : Int32) (v2 : Int32) (v3 : Int32) (S : St), WT D S.2.2 → OD D (q26 v0 v1 v2 v3 S) S) : ∀ (fu : Nat) (v0 : Nat) (kv0 : KA D v0 (0, 9)) (v1 : Int32) (v2 : Int32) (v3 : Int32) (v4 : Int32) (S : St), WT D S.2.2 → OD D (b_X9_even_42 q26 fu v0 v1 v2 v3 v4 S) S := by
  intro fu
  induction fu with
  | zero => intro v0 kv0 v1 v2 v3 v4 S w; exact OD_none
  | succ fu ih =>
    intro v0 kv0 v1 v2 v3 v4 S w
    rw [b_X9_even_42]
    refine OD_ite ?_ ?_
    · refine OD_nm (fun x1 => ?_)
      exact oq26 v0 kv0 v1 v2 x1 S w
    · refine OD_bd (o_X5_isWorn (S.2.2 v0 5) (w.1 _ _ kv0 5 _ rfl) v3 v1 S w) (fun r3 S2 hS2 => ?_)
      have wS2 : WT D S2.2.2 := by rw [hS2]; exact w
      clear hS2
      refine OD_ite ?_ ?_
      · exact ob_X9_even_95 oq26 ih v0 kv0 v1 v2 v3 v4 S2 wS2
      · refine OD_bd (o_X5_isWorn (S2.2.2 v0 5) (wS2.1 _ _ kv0 5 _ rfl) v4 v1 S2 wS2) (fun r5 S4 hS4 => ?_)
        have wS4 : WT D S4.2.2 := by rw [hS4]; exact wS2
        clear hS4
        refine OD_ite ?_ ?_
        · exact ob_X9_even_95 oq26 ih v0 kv0 v1 v2 v3 v4 S4 wS4
        · refine OD_bd (o_X3_areEven (S4.2.2 v0 12) (wS4.1 _ _ kv0 12 _ rfl) v3 v4 S4 wS4) (fun r7 S6 hS6 => ?_)
          have wS6 : WT D S6.2.2 := by rw [hS6]; exact wS4
          clear hS6
          refine OD_ite ?_ ?_
          · exact ob_X9_even_95 oq26 ih v0 kv0 v1 v2 v3 v4 S6 wS6
          · refine OD_nm (fun x8 => ?_)
            exact ob_X9_even_95 oq26 ih v0 kv0 v1 x8 v3 v4 S6 wS6
set_option maxRecDepth 20000 in
theorem ob_X9_even_26 {D : Nat → Prop} : ∀ (fu : Nat) (v0 : Nat) (kv0 : KA D v0 (0, 9)) (v1 : Int32) (v2 : Int32) (v3 : Int32) (S : St), WT D S.2.2 → OD D (b_X9_even_26 fu v0 v1 v2 v3 S) S := by
  intro fu
  induction fu with
  | zero => intro v0 kv0 v1 v2 v3 S w; exact OD_none
  | succ fu ih =>
    intro v0 kv0 v1 v2 v3 S w
    rw [b_X9_even_26]
    refine OD_ite ?_ ?_
    · exact OD_some
    · refine OD_nm (fun x1 => ?_)
      exact ob_X9_even_42 ih FU v0 kv0 v1 v2 v3 x1 S w
set_option maxRecDepth 20000 in
theorem o_X9_even {D : Nat → Prop} (v0 : Nat) (kv0 : KA D v0 (0, 9)) (v1 : Int32) (S : St) (w : WT D S.2.2) : OD D (f_X9_even v0 v1 S) S := by
  unfold f_X9_even
  refine OD_bd (o_X9_isPerson v0 kv0 v1 S w) (fun r2 S1 hS1 => ?_)
  have wS1 : WT D S1.2.2 := by rw [hS1]; exact w
  clear hS1
  refine OD_ite ?_ ?_
  · exact OD_some
  · refine OD_bd (o_X3_layOn (S1.2.2 v0 12) (wS1.1 _ _ kv0 12 _ rfl) (S1.2.2 v0 7) (wS1.1 _ _ kv0 7 _ rfl) v1 S1 wS1) (fun _ S3 hS3 => ?_)
    have wS3 : WT D S3.2.2 := by rw [hS3]; exact wS1
    clear hS3
    exact ob_X9_even_26 FU v0 kv0 v1 (0 : Int32) (0 : Int32) S3 wS3
set_option maxRecDepth 20000 in
theorem ob_X9_safe_143 {D : Nat → Prop} {q46 : Nat → Int32 → Int32 → Int32 → Int32 → Int32 → Int32 → St → Option (Int32 × St)} (oq46 : ∀ (v0 : Nat) (kv0 : KA D v0 (0, 9)) (v1 : Int32) (v2 : Int32) (v3 : Int32) (v4 : Int32) (v5 : Int32) (v6 : Int32) (S : St), WT D S.2.2 → OD D (q46 v0 v1 v2 v3 v4 v5 v6 S) S) (v0 : Nat) (kv0 : KA D v0 (0, 9)) (v1 : Int32) (v2 : Int32) (v3 : Int32) (v4 : Int32) (v5 : Int32) (v6 : Int32) (S : St) (w : WT D S.2.2) : OD D (b_X9_safe_143 q46 v0 v1 v2 v3 v4 v5 v6 S) S := by
  unfold b_X9_safe_143
  refine OD_nm (fun x1 => ?_)
  exact oq46 v0 kv0 v1 v2 v3 v4 v5 x1 S w
set_option maxRecDepth 20000 in
theorem ob_X9_safe_46 {D : Nat → Prop} : ∀ (fu : Nat) (v0 : Nat) (kv0 : KA D v0 (0, 9)) (v1 : Int32) (v2 : Int32) (v3 : Int32) (v4 : Int32) (v5 : Int32) (v6 : Int32) (S : St), WT D S.2.2 → OD D (b_X9_safe_46 fu v0 v1 v2 v3 v4 v5 v6 S) S := by
  intro fu
  induction fu with
  | zero => intro v0 kv0 v1 v2 v3 v4 v5 v6 S w; exact OD_none
  | succ fu ih =>
    intro v0 kv0 v1 v2 v3 v4 v5 v6 S w
    rw [b_X9_safe_46]
    refine OD_ite ?_ ?_
    · refine OD_ite ?_ ?_
      · exact OD_some
      · exact OD_some
    · refine OD_nm (fun x1 => ?_)
      refine OD_nm (fun x2 => ?_)
      refine OD_bd (o_X8_isMovedAt (S.2.2 v0 7) (w.1 _ _ kv0 7 _ rfl) v1 x1 x2 S w) (fun r4 S3 hS3 => ?_)
      have wS3 : WT D S3.2.2 := by rw [hS3]; exact w
      clear hS3
      refine OD_ite ?_ ?_
      · refine OD_nm (fun x5 => ?_)
        refine OD_ix (fun j6 => ?_)
        refine OD_ix (fun j7 => ?_)
        refine OD_bd (o_X9_farApart x1 x2 (S3.1 (S3.2.2 (S3.2.2 v0 5) 0) j6) (S3.1 (S3.2.2 (S3.2.2 v0 5) 0) j7) S3 wS3) (fun r9 S8 hS8 => ?_)
        have wS8 : WT D S8.2.2 := by rw [hS8]; exact wS3
        clear hS8
        refine OD_ite ?_ ?_
        · exact ob_X9_safe_143 ih v0 kv0 v1 v2 x5 v4 v5 v6 S8 wS8
        · exact ob_X9_safe_143 ih v0 kv0 v1 v2 x5 v6 r9 v6 S8 wS8
      · exact ob_X9_safe_143 ih v0 kv0 v1 v2 v3 v4 v5 v6 S3 wS3
set_option maxRecDepth 20000 in
theorem o_X9_safe {D : Nat → Prop} (v0 : Nat) (kv0 : KA D v0 (0, 9)) (v1 : Int32) (v2 : Int32) (S : St) (w : WT D S.2.2) : OD D (f_X9_safe v0 v1 v2 S) S := by
  unfold f_X9_safe
  refine OD_bd (o_X9_isPerson v0 kv0 v1 S w) (fun r2 S1 hS1 => ?_)
  have wS1 : WT D S1.2.2 := by rw [hS1]; exact w
  clear hS1
  refine OD_ite ?_ ?_
  · exact OD_some
  · refine OD_bd (o_X9_isWithin v2 (0 : Int32) (1 : Int32) S1 wS1) (fun r4 S3 hS3 => ?_)
    have wS3 : WT D S3.2.2 := by rw [hS3]; exact wS1
    clear hS3
    refine OD_ite ?_ ?_
    · exact OD_some
    · refine OD_bd (o_X5_isOff (S3.2.2 v0 5) (wS3.1 _ _ kv0 5 _ rfl) v1 S3 wS3) (fun r6 S5 hS5 => ?_)
      have wS5 : WT D S5.2.2 := by rw [hS5]; exact wS3
      clear hS5
      refine OD_ite ?_ ?_
      · exact ob_X9_safe_46 FU v0 kv0 v1 v2 (0 : Int32) (-2 : Int32) (10 : Int32) (0 : Int32) S5 wS5
      · exact OD_some
set_option maxRecDepth 20000 in
theorem ob_X9_worth_48 {D : Nat → Prop} {q14 : Nat → Int32 → Int32 → Int32 → St → Option (Int32 × St)} (oq14 : ∀ (v0 : Nat) (kv0 : KA D v0 (0, 9)) (v1 : Int32) (v2 : Int32) (v3 : Int32) (S : St), WT D S.2.2 → OD D (q14 v0 v1 v2 v3 S) S) (v0 : Nat) (kv0 : KA D v0 (0, 9)) (v1 : Int32) (v2 : Int32) (v3 : Int32) (S : St) (w : WT D S.2.2) : OD D (b_X9_worth_48 q14 v0 v1 v2 v3 S) S := by
  unfold b_X9_worth_48
  refine OD_nm (fun x1 => ?_)
  exact oq14 v0 kv0 v1 v2 x1 S w
set_option maxRecDepth 20000 in
theorem ob_X9_worth_14 {D : Nat → Prop} : ∀ (fu : Nat) (v0 : Nat) (kv0 : KA D v0 (0, 9)) (v1 : Int32) (v2 : Int32) (v3 : Int32) (S : St), WT D S.2.2 → OD D (b_X9_worth_14 fu v0 v1 v2 v3 S) S := by
  intro fu
  induction fu with
  | zero => intro v0 kv0 v1 v2 v3 S w; exact OD_none
  | succ fu ih =>
    intro v0 kv0 v1 v2 v3 S w
    rw [b_X9_worth_14]
    refine OD_ite ?_ ?_
    · exact OD_some
    · refine OD_bd (o_X5_isWorn (S.2.2 v0 5) (w.1 _ _ kv0 5 _ rfl) v3 v1 S w) (fun r2 S1 hS1 => ?_)
      have wS1 : WT D S1.2.2 := by rw [hS1]; exact w
      clear hS1
      refine OD_ite ?_ ?_
      · exact ob_X9_worth_48 ih v0 kv0 v1 v2 v3 S1 wS1
      · refine OD_bd (o_X8_priceOf (S1.2.2 v0 7) (wS1.1 _ _ kv0 7 _ rfl) v3 S1 wS1) (fun r4 S3 hS3 => ?_)
        have wS3 : WT D S3.2.2 := by rw [hS3]; exact wS1
        clear hS3
        refine OD_nm (fun x5 => ?_)
        exact ob_X9_worth_48 ih v0 kv0 v1 x5 v3 S3 wS3
set_option maxRecDepth 20000 in
theorem o_X9_worth {D : Nat → Prop} (v0 : Nat) (kv0 : KA D v0 (0, 9)) (v1 : Int32) (S : St) (w : WT D S.2.2) : OD D (f_X9_worth v0 v1 S) S := by
  unfold f_X9_worth
  refine OD_bd (o_X9_isPerson v0 kv0 v1 S w) (fun r2 S1 hS1 => ?_)
  have wS1 : WT D S1.2.2 := by rw [hS1]; exact w
  clear hS1
  refine OD_ite ?_ ?_
  · exact OD_some
  · exact ob_X9_worth_14 FU v0 kv0 v1 (0 : Int32) (0 : Int32) S1 wS1
set_option maxRecDepth 20000 in
theorem o_X9_tell {D : Nat → Prop} (v0 : Nat) (kv0 : KA D v0 (0, 9)) (v1 : Int32) (v2 : Int32) (v3 : Int32) (v4 : Int32) (S : St) (w : WT D S.2.2) : OD D (f_X9_tell v0 v1 v2 v3 v4 S) S := by
  unfold f_X9_tell
  refine OD_bd (o_X9_isWithin v1 (0 : Int32) (9 : Int32) S w) (fun r2 S1 hS1 => ?_)
  have wS1 : WT D S1.2.2 := by rw [hS1]; exact w
  clear hS1
  refine OD_ite ?_ ?_
  · exact OD_some
  · refine OD_bd (o_X9_isWithin v2 (0 : Int32) (9 : Int32) S1 wS1) (fun r4 S3 hS3 => ?_)
    have wS3 : WT D S3.2.2 := by rw [hS3]; exact wS1
    clear hS3
    refine OD_ite ?_ ?_
    · exact OD_some
    · refine OD_bd (o_X9_isWithin v3 (-1 : Int32) (1 : Int32) S3 wS3) (fun r6 S5 hS5 => ?_)
      have wS5 : WT D S5.2.2 := by rw [hS5]; exact wS3
      clear hS5
      refine OD_ite ?_ ?_
      · exact OD_some
      · refine OD_bd (o_X9_isWithin v4 (-1 : Int32) (1 : Int32) S5 wS5) (fun r8 S7 hS7 => ?_)
        have wS7 : WT D S7.2.2 := by rw [hS7]; exact wS5
        clear hS7
        refine OD_ite ?_ ?_
        · exact OD_some
        · refine OD_bd (o_X7_add (S7.2.2 v0 13) (wS7.1 _ _ kv0 13 _ rfl) v1 v2 v3 v4 S7 wS7) (fun r10 S9 hS9 => ?_)
          have wS9 : WT D S9.2.2 := by rw [hS9]; exact wS7
          clear hS9
          exact OD_some
set_option maxRecDepth 20000 in
theorem o_X9_forget {D : Nat → Prop} (v0 : Nat) (kv0 : KA D v0 (0, 9)) (S : St) (w : WT D S.2.2) : OD D (f_X9_forget v0 S) S := by
  unfold f_X9_forget
  refine OD_nm (fun x1 => ?_)
  refine OD_bd (o_X7_clearAll (S.2.2 v0 13) (w.1 _ _ kv0 13 _ rfl) S w) (fun _ S2 hS2 => ?_)
  have wS2 : WT D S2.2.2 := by rw [hS2]; exact w
  clear hS2
  exact OD_some
set_option maxRecDepth 20000 in
theorem o_X9_where {D : Nat → Prop} (v0 : Nat) (kv0 : KA D v0 (0, 9)) (v1 : Int32) (S : St) (w : WT D S.2.2) : OD D (f_X9_where v0 v1 S) S := by
  unfold f_X9_where
  refine OD_bd (o_X9_isWithin v1 (0 : Int32) (S.1 (S.2.2 v0 13) 4) S w) (fun r2 S1 hS1 => ?_)
  have wS1 : WT D S1.2.2 := by rw [hS1]; exact w
  clear hS1
  refine OD_ite ?_ ?_
  · exact OD_some
  · refine OD_bd (o_X7_lookBy (S1.2.2 v0 13) (wS1.1 _ _ kv0 13 _ rfl) v1 S1 wS1) (fun _ S3 hS3 => ?_)
    have wS3 : WT D S3.2.2 := by rw [hS3]; exact wS1
    clear hS3
    exact OD_some
set_option maxRecDepth 20000 in
theorem o_X9_surest {D : Nat → Prop} (v0 : Nat) (kv0 : KA D v0 (0, 9)) (v1 : Int32) (S : St) (w : WT D S.2.2) : OD D (f_X9_surest v0 v1 S) S := by
  unfold f_X9_surest
  refine OD_bd (o_X9_isWithin v1 (0 : Int32) (S.1 (S.2.2 v0 13) 4) S w) (fun r2 S1 hS1 => ?_)
  have wS1 : WT D S1.2.2 := by rw [hS1]; exact w
  clear hS1
  refine OD_ite ?_ ?_
  · exact OD_some
  · refine OD_bd (o_X7_lookBy (S1.2.2 v0 13) (wS1.1 _ _ kv0 13 _ rfl) v1 S1 wS1) (fun _ S3 hS3 => ?_)
    have wS3 : WT D S3.2.2 := by rw [hS3]; exact wS1
    clear hS3
    refine OD_bd (o_X7_firstLeft (S3.2.2 v0 13) (wS3.1 _ _ kv0 13 _ rfl) S3 wS3) (fun r6 S5 hS5 => ?_)
    have wS5 : WT D S5.2.2 := by rw [hS5]; exact wS3
    clear hS5
    exact OD_some
set_option maxRecDepth 20000 in
theorem o_X9_holdNext {D : Nat → Prop} (v0 : Nat) (kv0 : KA D v0 (0, 9)) (v1 : Int32) (S : St) (w : WT D S.2.2) : OD D (f_X9_holdNext v0 v1 S) S := by
  unfold f_X9_holdNext
  refine OD_bd (o_X9_isWithin v1 (0 : Int32) (S.1 (S.2.2 v0 13) 4) S w) (fun r2 S1 hS1 => ?_)
  have wS1 : WT D S1.2.2 := by rw [hS1]; exact w
  clear hS1
  refine OD_ite ?_ ?_
  · exact OD_some
  · refine OD_bd (o_X7_lookBy (S1.2.2 v0 13) (wS1.1 _ _ kv0 13 _ rfl) v1 S1 wS1) (fun _ S3 hS3 => ?_)
    have wS3 : WT D S3.2.2 := by rw [hS3]; exact wS1
    clear hS3
    refine OD_ite ?_ ?_
    · exact OD_some
    · refine OD_bd (o_X7_bestNext (S3.2.2 v0 13) (wS3.1 _ _ kv0 13 _ rfl) S3 wS3) (fun r6 S5 hS5 => ?_)
      have wS5 : WT D S5.2.2 := by rw [hS5]; exact wS3
      clear hS5
      exact OD_some
set_option maxRecDepth 20000 in
theorem ob_X10_put_3 {D : Nat → Prop} : ∀ (fu : Nat) (v0 : Nat) (kv0 : KA D v0 (0, 10)) (v1 : Int32) (v2 : Int32) (S : St), WT D S.2.2 → OD D (b_X10_put_3 fu v0 v1 v2 S) S := by
  intro fu
  induction fu with
  | zero => intro v0 kv0 v1 v2 S w; exact OD_none
  | succ fu ih =>
    intro v0 kv0 v1 v2 S w
    rw [b_X10_put_3]
    refine OD_ite ?_ ?_
    · exact OD_some
    · refine OD_ix (fun j1 => ?_)
      refine OD_nmI (w.1 _ _ kv0 1 _ rfl).2 (fun S2 hS2 => ?_)
      have wS2 : WT D S2.2.2 := by rw [hS2]; exact w
      clear hS2
      refine OD_nmI (kv0).2 (fun S3 hS3 => ?_)
      have wS3 : WT D S3.2.2 := by rw [hS3]; exact wS2
      clear hS3
      refine OD_nm (fun x4 => ?_)
      exact ih v0 kv0 v1 x4 S3 wS3
set_option maxRecDepth 20000 in
theorem o_X10_put {D : Nat → Prop} (v0 : Nat) (kv0 : KA D v0 (0, 10)) (v1 : Int32) (S : St) (w : WT D S.2.2) : OD D (f_X10_put v0 v1 S) S := by
  unfold f_X10_put
  exact ob_X10_put_3 FU v0 kv0 v1 (24 : Int32) S w
set_option maxRecDepth 20000 in
theorem o_X10_feed {D : Nat → Prop} (v0 : Nat) (kv0 : KA D v0 (0, 10)) (v1 : Int32) (v2 : Int32) (v3 : Int32) (v4 : Int32) (v5 : Int32) (S : St) (w : WT D S.2.2) : OD D (f_X10_feed v0 v1 v2 v3 v4 v5 S) S := by
  unfold f_X10_feed
  refine OD_ite ?_ ?_
  · refine OD_bd (o_X10_put v0 kv0 v1 S w) (fun _ S1 hS1 => ?_)
    have wS1 : WT D S1.2.2 := by rw [hS1]; exact w
    clear hS1
    refine OD_bd (o_X10_put v0 kv0 v2 S1 wS1) (fun _ S3 hS3 => ?_)
    have wS3 : WT D S3.2.2 := by rw [hS3]; exact wS1
    clear hS3
    refine OD_bd (o_X10_put v0 kv0 v3 S3 wS3) (fun _ S5 hS5 => ?_)
    have wS5 : WT D S5.2.2 := by rw [hS5]; exact wS3
    clear hS5
    refine OD_bd (o_X10_put v0 kv0 v4 S5 wS5) (fun _ S7 hS7 => ?_)
    have wS7 : WT D S7.2.2 := by rw [hS7]; exact wS5
    clear hS7
    refine OD_bd (o_X10_put v0 kv0 v5 S7 wS7) (fun _ S9 hS9 => ?_)
    have wS9 : WT D S9.2.2 := by rw [hS9]; exact wS7
    clear hS9
    exact OD_some
  · exact OD_some
set_option maxRecDepth 20000 in
theorem o_X10_back {D : Nat → Prop} (v0 : Nat) (kv0 : KA D v0 (0, 10)) (v1 : Int32) (S : St) (w : WT D S.2.2) : OD D (f_X10_back v0 v1 S) S := by
  unfold f_X10_back
  refine OD_ite ?_ ?_
  · exact OD_some
  · refine OD_ite ?_ ?_
    · refine OD_nmI (kv0).2 (fun S1 hS1 => ?_)
      have wS1 : WT D S1.2.2 := by rw [hS1]; exact w
      clear hS1
      exact OD_some
    · exact OD_some
set_option maxRecDepth 20000 in
theorem o_X10_byteAt {D : Nat → Prop} (v0 : Nat) (kv0 : KA D v0 (0, 10)) (v1 : Int32) (S : St) (w : WT D S.2.2) : OD D (f_X10_byteAt v0 v1 S) S := by
  unfold f_X10_byteAt
  refine OD_ite ?_ ?_
  · exact OD_some
  · refine OD_ix (fun j1 => ?_)
    exact OD_some
set_option maxRecDepth 20000 in
theorem o_X10_isDigit {D : Nat → Prop} (v0 : Int32) (S : St) (w : WT D S.2.2) : OD D (f_X10_isDigit v0 S) S := by
  unfold f_X10_isDigit
  refine OD_ite ?_ ?_
  · exact OD_some
  · refine OD_ite ?_ ?_
    · exact OD_some
    · exact OD_some
set_option maxRecDepth 20000 in
theorem o_X10_isLetter {D : Nat → Prop} (v0 : Int32) (S : St) (w : WT D S.2.2) : OD D (f_X10_isLetter v0 S) S := by
  unfold f_X10_isLetter
  refine OD_ite ?_ ?_
  · exact OD_some
  · refine OD_ite ?_ ?_
    · exact OD_some
    · exact OD_some
set_option maxRecDepth 20000 in
theorem o_X10_appends {D : Nat → Prop} (v0 : Int64) (v2 : Int32) (S : St) (w : WT D S.2.2) : OD D (f_X10_appends v0 v2 S) S := by
  unfold f_X10_appends
  refine OD_ite ?_ ?_
  · exact OD_some
  · exact OD_some
set_option maxRecDepth 20000 in
theorem o_X10_word {D : Nat → Prop} (v0 : Int32) (v1 : Int32) (v2 : Int32) (v3 : Int32) (v4 : Int32) (v5 : Int32) (v6 : Int32) (S : St) (w : WT D S.2.2) : OD D (f_X10_word v0 v1 v2 v3 v4 v5 v6 S) S := by
  unfold f_X10_word
  refine OD_bd (o_X10_appends (0 : Int64) v0 S w) (fun r2 S1 hS1 => ?_)
  have wS1 : WT D S1.2.2 := by rw [hS1]; exact w
  clear hS1
  refine OD_bd (o_X10_appends r2 v1 S1 wS1) (fun r4 S3 hS3 => ?_)
  have wS3 : WT D S3.2.2 := by rw [hS3]; exact wS1
  clear hS3
  refine OD_bd (o_X10_appends r4 v2 S3 wS3) (fun r6 S5 hS5 => ?_)
  have wS5 : WT D S5.2.2 := by rw [hS5]; exact wS3
  clear hS5
  refine OD_bd (o_X10_appends r6 v3 S5 wS5) (fun r8 S7 hS7 => ?_)
  have wS7 : WT D S7.2.2 := by rw [hS7]; exact wS5
  clear hS7
  refine OD_bd (o_X10_appends r8 v4 S7 wS7) (fun r10 S9 hS9 => ?_)
  have wS9 : WT D S9.2.2 := by rw [hS9]; exact wS7
  clear hS9
  refine OD_bd (o_X10_appends r10 v5 S9 wS9) (fun r12 S11 hS11 => ?_)
  have wS11 : WT D S11.2.2 := by rw [hS11]; exact wS9
  clear hS11
  refine OD_bd (o_X10_appends r12 v6 S11 wS11) (fun r14 S13 hS13 => ?_)
  have wS13 : WT D S13.2.2 := by rw [hS13]; exact wS11
  clear hS13
  exact OD_some
set_option maxRecDepth 20000 in
theorem o_X10_token {D : Nat → Prop} (v0 : Nat) (kv0 : KA D v0 (0, 10)) (v1 : Int32) (v2 : Int32) (v3 : Int32) (v4 : Int64) (S : St) (w : WT D S.2.2) : OD D (f_X10_token v0 v1 v2 v3 v4 S) S := by
  unfold f_X10_token
  refine OD_ix (fun j1 => ?_)
  refine OD_nmI (w.1 _ _ kv0 5 _ rfl).2 (fun S2 hS2 => ?_)
  have wS2 : WT D S2.2.2 := by rw [hS2]; exact w
  clear hS2
  refine OD_ix (fun j3 => ?_)
  refine OD_nmI (wS2.1 _ _ kv0 6 _ rfl).2 (fun S4 hS4 => ?_)
  have wS4 : WT D S4.2.2 := by rw [hS4]; exact wS2
  clear hS4
  refine OD_ix (fun j5 => ?_)
  refine OD_nmI (wS4.1 _ _ kv0 7 _ rfl).2 (fun S6 hS6 => ?_)
  have wS6 : WT D S6.2.2 := by rw [hS6]; exact wS4
  clear hS6
  refine OD_ix (fun j7 => ?_)
  refine OD_nmL (wS6.1 _ _ kv0 8 _ rfl).2 (fun S8 hS8 => ?_)
  have wS8 : WT D S8.2.2 := by rw [hS8]; exact wS6
  clear hS8
  refine OD_nmI (kv0).2 (fun S9 hS9 => ?_)
  have wS9 : WT D S9.2.2 := by rw [hS9]; exact wS8
  clear hS9
  exact OD_some
set_option maxRecDepth 20000 in
theorem ob_X10_sign_95 {D : Nat → Prop} (v0 : Nat) (kv0 : KA D v0 (0, 10)) (v1 : Int32) (v4 : Int32) (S : St) (w : WT D S.2.2) : OD D (b_X10_sign_95 v0 v1 v4 S) S := by
  unfold b_X10_sign_95
  refine OD_bd (o_X10_token v0 kv0 v4 v1 (0 : Int32) (0 : Int64) S w) (fun _ S1 hS1 => ?_)
  have wS1 : WT D S1.2.2 := by rw [hS1]; exact w
  clear hS1
  exact OD_some
set_option maxRecDepth 20000 in
theorem ob_X10_sign_85 {D : Nat → Prop} (v0 : Nat) (kv0 : KA D v0 (0, 10)) (v1 : Int32) (v2 : Int32) (v4 : Int32) (S : St) (w : WT D S.2.2) : OD D (b_X10_sign_85 v0 v1 v2 v4 S) S := by
  unfold b_X10_sign_85
  refine OD_ite ?_ ?_
  · exact ob_X10_sign_95 v0 kv0 v1 (13 : Int32) S w
  · exact ob_X10_sign_95 v0 kv0 v1 v4 S w
set_option maxRecDepth 20000 in
theorem ob_X10_sign_75 {D : Nat → Prop} (v0 : Nat) (kv0 : KA D v0 (0, 10)) (v1 : Int32) (v2 : Int32) (v4 : Int32) (S : St) (w : WT D S.2.2) : OD D (b_X10_sign_75 v0 v1 v2 v4 S) S := by
  unfold b_X10_sign_75
  refine OD_ite ?_ ?_
  · exact ob_X10_sign_85 v0 kv0 v1 v2 (15 : Int32) S w
  · exact ob_X10_sign_85 v0 kv0 v1 v2 v4 S w
set_option maxRecDepth 20000 in
theorem ob_X10_sign_65 {D : Nat → Prop} (v0 : Nat) (kv0 : KA D v0 (0, 10)) (v1 : Int32) (v2 : Int32) (v4 : Int32) (S : St) (w : WT D S.2.2) : OD D (b_X10_sign_65 v0 v1 v2 v4 S) S := by
  unfold b_X10_sign_65
  refine OD_ite ?_ ?_
  · exact ob_X10_sign_75 v0 kv0 v1 v2 (10 : Int32) S w
  · exact ob_X10_sign_75 v0 kv0 v1 v2 v4 S w
set_option maxRecDepth 20000 in
theorem ob_X10_sign_55 {D : Nat → Prop} (v0 : Nat) (kv0 : KA D v0 (0, 10)) (v1 : Int32) (v2 : Int32) (v4 : Int32) (S : St) (w : WT D S.2.2) : OD D (b_X10_sign_55 v0 v1 v2 v4 S) S := by
  unfold b_X10_sign_55
  refine OD_ite ?_ ?_
  · exact ob_X10_sign_65 v0 kv0 v1 v2 (9 : Int32) S w
  · exact ob_X10_sign_65 v0 kv0 v1 v2 v4 S w
set_option maxRecDepth 20000 in
theorem ob_X10_sign_43 {D : Nat → Prop} (v0 : Nat) (kv0 : KA D v0 (0, 10)) (v1 : Int32) (v2 : Int32) (s0 : Int32) (S : St) (w : WT D S.2.2) : OD D (b_X10_sign_43 v0 v1 v2 s0 S) S := by
  unfold b_X10_sign_43
  refine OD_ite ?_ ?_
  · exact ob_X10_sign_55 v0 kv0 v1 v2 (8 : Int32) S w
  · exact ob_X10_sign_55 v0 kv0 v1 v2 s0 S w
set_option maxRecDepth 20000 in
theorem o_X10_sign {D : Nat → Prop} (v0 : Nat) (kv0 : KA D v0 (0, 10)) (v1 : Int32) (v2 : Int32) (v3 : Int32) (S : St) (w : WT D S.2.2) : OD D (f_X10_sign v0 v1 v2 v3 S) S := by
  unfold f_X10_sign
  refine OD_ite ?_ ?_
  · exact ob_X10_sign_43 v0 kv0 v1 v2 (4 : Int32) S w
  · refine OD_ite ?_ ?_
    · exact ob_X10_sign_43 v0 kv0 v1 v2 (5 : Int32) S w
    · refine OD_ite ?_ ?_
      · exact ob_X10_sign_43 v0 kv0 v1 v2 (6 : Int32) S w
      · refine OD_ite ?_ ?_
        · exact ob_X10_sign_43 v0 kv0 v1 v2 (7 : Int32) S w
        · exact ob_X10_sign_43 v0 kv0 v1 v2 (3 : Int32) S w
set_option maxRecDepth 20000 in
theorem ob_X10_cutsUp_291 {D : Nat → Prop} {q7 : Nat → Int32 → St → Option (Unit × St)} (oq7 : ∀ (v0 : Nat) (kv0 : KA D v0 (0, 10)) (v1 : Int32) (S : St), WT D S.2.2 → OD D (q7 v0 v1 S) S) (v0 : Nat) (kv0 : KA D v0 (0, 10)) (v1 : Int32) (S : St) (w : WT D S.2.2) : OD D (b_X10_cutsUp_291 q7 v0 v1 S) S := by
  unfold b_X10_cutsUp_291
  exact oq7 v0 kv0 v1 S w
set_option maxRecDepth 20000 in
theorem ob_X10_cutsUp_67 {D : Nat → Prop} {q7 : Nat → Int32 → St → Option (Unit × St)} (oq7 : ∀ (v0 : Nat) (kv0 : KA D v0 (0, 10)) (v1 : Int32) (S : St), WT D S.2.2 → OD D (q7 v0 v1 S) S) (v0 : Nat) (kv0 : KA D v0 (0, 10)) (v1 : Int32) (S : St) (w : WT D S.2.2) : OD D (b_X10_cutsUp_67 q7 v0 v1 S) S := by
  unfold b_X10_cutsUp_67
  refine OD_nm (fun x1 => ?_)
  exact ob_X10_cutsUp_291 oq7 v0 kv0 x1 S w
set_option maxRecDepth 20000 in
theorem ob_X10_cutsUp_261 {D : Nat → Prop} {q7 : Nat → Int32 → St → Option (Unit × St)} (oq7 : ∀ (v0 : Nat) (kv0 : KA D v0 (0, 10)) (v1 : Int32) (S : St), WT D S.2.2 → OD D (q7 v0 v1 S) S) (v0 : Nat) (kv0 : KA D v0 (0, 10)) (v1 : Int32) (v3 : Int32) (v4 : Int32) (s0 : Nat) (ks0 : KA D s0 (0, 10)) (s1 : Int32) (S : St) (w : WT D S.2.2) : OD D (b_X10_cutsUp_261 q7 v0 v1 v3 v4 s0 s1 S) S := by
  unfold b_X10_cutsUp_261
  refine OD_bd (o_X10_token s0 ks0 s1 v1 v4 (0 : Int64) S w) (fun _ S1 hS1 => ?_)
  have wS1 : WT D S1.2.2 := by rw [hS1]; exact w
  clear hS1
  refine OD_nm (fun x3 => ?_)
  exact ob_X10_cutsUp_291 oq7 v0 kv0 x3 S1 wS1
set_option maxRecDepth 20000 in
theorem ob_X10_cutsUp_244 {D : Nat → Prop} {q7 : Nat → Int32 → St → Option (Unit × St)} (oq7 : ∀ (v0 : Nat) (kv0 : KA D v0 (0, 10)) (v1 : Int32) (S : St), WT D S.2.2 → OD D (q7 v0 v1 S) S) {q208 : Nat → Int32 → Int32 → Int32 → St → Option (Unit × St)} (oq208 : ∀ (v0 : Nat) (kv0 : KA D v0 (0, 10)) (v1 : Int32) (v3 : Int32) (v4 : Int32) (S : St), WT D S.2.2 → OD D (q208 v0 v1 v3 v4 S) S) (v0 : Nat) (kv0 : KA D v0 (0, 10)) (v1 : Int32) (v3 : Int32) (v4 : Int32) (S : St) (w : WT D S.2.2) : OD D (b_X10_cutsUp_244 q7 q208 v0 v1 v3 v4 S) S := by
  unfold b_X10_cutsUp_244
  refine OD_nm (fun x1 => ?_)
  exact oq208 v0 kv0 v1 x1 v4 S w
set_option maxRecDepth 20000 in
theorem ob_X10_cutsUp_208 {D : Nat → Prop} {q7 : Nat → Int32 → St → Option (Unit × St)} (oq7 : ∀ (v0 : Nat) (kv0 : KA D v0 (0, 10)) (v1 : Int32) (S : St), WT D S.2.2 → OD D (q7 v0 v1 S) S) : ∀ (fu : Nat) (v0 : Nat) (kv0 : KA D v0 (0, 10)) (v1 : Int32) (v3 : Int32) (v4 : Int32) (S : St), WT D S.2.2 → OD D (b_X10_cutsUp_208 q7 fu v0 v1 v3 v4 S) S := by
  intro fu
  induction fu with
  | zero => intro v0 kv0 v1 v3 v4 S w; exact OD_none
  | succ fu ih =>
    intro v0 kv0 v1 v3 v4 S w
    rw [b_X10_cutsUp_208]
    refine OD_bd (o_X10_byteAt v0 kv0 (v1 + v3) S w) (fun r2 S1 hS1 => ?_)
    have wS1 : WT D S1.2.2 := by rw [hS1]; exact w
    clear hS1
    refine OD_bd (o_X10_isDigit r2 S1 wS1) (fun r4 S3 hS3 => ?_)
    have wS3 : WT D S3.2.2 := by rw [hS3]; exact wS1
    clear hS3
    refine OD_ite ?_ ?_
    · refine OD_ite ?_ ?_
      · exact ob_X10_cutsUp_261 oq7 v0 kv0 v1 v3 v4 v0 kv0 (2 : Int32) S3 wS3
      · exact ob_X10_cutsUp_261 oq7 v0 kv0 v1 v3 v4 v0 kv0 (3 : Int32) S3 wS3
    · refine OD_ite ?_ ?_
      · exact ob_X10_cutsUp_244 oq7 ih v0 kv0 v1 v3 v4 S3 wS3
      · refine OD_bd (o_X10_byteAt v0 kv0 (v1 + v3) S3 wS3) (fun r6 S5 hS5 => ?_)
        have wS5 : WT D S5.2.2 := by rw [hS5]; exact wS3
        clear hS5
        refine OD_nm (fun x7 => ?_)
        exact ob_X10_cutsUp_244 oq7 ih v0 kv0 v1 v3 x7 S5 wS5
set_option maxRecDepth 20000 in
theorem ob_X10_cutsUp_179 {D : Nat → Prop} {q7 : Nat → Int32 → St → Option (Unit × St)} (oq7 : ∀ (v0 : Nat) (kv0 : KA D v0 (0, 10)) (v1 : Int32) (S : St), WT D S.2.2 → OD D (q7 v0 v1 S) S) (v0 : Nat) (kv0 : KA D v0 (0, 10)) (v1 : Int32) (v3 : Int32) (v4 : Int64) (v6 : Int32) (S : St) (w : WT D S.2.2) : OD D (b_X10_cutsUp_179 q7 v0 v1 v3 v4 v6 S) S := by
  unfold b_X10_cutsUp_179
  refine OD_bd (o_X10_token v0 kv0 v6 v1 (0 : Int32) v4 S w) (fun _ S1 hS1 => ?_)
  have wS1 : WT D S1.2.2 := by rw [hS1]; exact w
  clear hS1
  refine OD_nm (fun x3 => ?_)
  exact ob_X10_cutsUp_291 oq7 v0 kv0 x3 S1 wS1
set_option maxRecDepth 20000 in
theorem ob_X10_cutsUp_173 {D : Nat → Prop} {q7 : Nat → Int32 → St → Option (Unit × St)} (oq7 : ∀ (v0 : Nat) (kv0 : KA D v0 (0, 10)) (v1 : Int32) (S : St), WT D S.2.2 → OD D (q7 v0 v1 S) S) {q146 : Nat → Int32 → Int32 → Int64 → Int32 → Int32 → St → Option (Unit × St)} (oq146 : ∀ (v0 : Nat) (kv0 : KA D v0 (0, 10)) (v1 : Int32) (v3 : Int32) (v4 : Int64) (v6 : Int32) (v7 : Int32) (S : St), WT D S.2.2 → OD D (q146 v0 v1 v3 v4 v6 v7 S) S) (v0 : Nat) (kv0 : KA D v0 (0, 10)) (v1 : Int32) (v3 : Int32) (v4 : Int64) (v6 : Int32) (v7 : Int32) (S : St) (w : WT D S.2.2) : OD D (b_X10_cutsUp_173 q7 q146 v0 v1 v3 v4 v6 v7 S) S := by
  unfold b_X10_cutsUp_173
  refine OD_nm (fun x1 => ?_)
  exact oq146 v0 kv0 v1 v3 v4 v6 x1 S w
set_option maxRecDepth 20000 in
theorem ob_X10_cutsUp_146 {D : Nat → Prop} {q7 : Nat → Int32 → St → Option (Unit × St)} (oq7 : ∀ (v0 : Nat) (kv0 : KA D v0 (0, 10)) (v1 : Int32) (S : St), WT D S.2.2 → OD D (q7 v0 v1 S) S) : ∀ (fu : Nat) (v0 : Nat) (kv0 : KA D v0 (0, 10)) (v1 : Int32) (v3 : Int32) (v4 : Int64) (v6 : Int32) (v7 : Int32) (S : St), WT D S.2.2 → OD D (b_X10_cutsUp_146 q7 fu v0 v1 v3 v4 v6 v7 S) S := by
  intro fu
  induction fu with
  | zero => intro v0 kv0 v1 v3 v4 v6 v7 S w; exact OD_none
  | succ fu ih =>
    intro v0 kv0 v1 v3 v4 v6 v7 S w
    rw [b_X10_cutsUp_146]
    refine OD_ite ?_ ?_
    · exact ob_X10_cutsUp_179 oq7 v0 kv0 v1 v3 v4 v6 S w
    · refine OD_ix (fun j1 => ?_)
      refine OD_ite ?_ ?_
      · refine OD_nm (fun x2 => ?_)
        exact ob_X10_cutsUp_173 oq7 ih v0 kv0 v1 v3 v4 x2 v7 S w
      · exact ob_X10_cutsUp_173 oq7 ih v0 kv0 v1 v3 v4 v6 v7 S w
set_option maxRecDepth 20000 in
theorem ob_X10_cutsUp_135 {D : Nat → Prop} {q7 : Nat → Int32 → St → Option (Unit × St)} (oq7 : ∀ (v0 : Nat) (kv0 : KA D v0 (0, 10)) (v1 : Int32) (S : St), WT D S.2.2 → OD D (q7 v0 v1 S) S) (v0 : Nat) (kv0 : KA D v0 (0, 10)) (v1 : Int32) (v3 : Int32) (v4 : Int64) (s0 : Int32) (S : St) (w : WT D S.2.2) : OD D (b_X10_cutsUp_135 q7 v0 v1 v3 v4 s0 S) S := by
  unfold b_X10_cutsUp_135
  refine OD_ite ?_ ?_
  · exact ob_X10_cutsUp_179 oq7 v0 kv0 v1 v3 v4 s0 S w
  · exact ob_X10_cutsUp_146 oq7 FU v0 kv0 v1 v3 v4 s0 (0 : Int32) S w
set_option maxRecDepth 20000 in
theorem ob_X10_cutsUp_118 {D : Nat → Prop} {q7 : Nat → Int32 → St → Option (Unit × St)} (oq7 : ∀ (v0 : Nat) (kv0 : KA D v0 (0, 10)) (v1 : Int32) (S : St), WT D S.2.2 → OD D (q7 v0 v1 S) S) {q85 : Nat → Int32 → Int32 → Int64 → St → Option (Unit × St)} (oq85 : ∀ (v0 : Nat) (kv0 : KA D v0 (0, 10)) (v1 : Int32) (v3 : Int32) (v4 : Int64) (S : St), WT D S.2.2 → OD D (q85 v0 v1 v3 v4 S) S) (v0 : Nat) (kv0 : KA D v0 (0, 10)) (v1 : Int32) (v3 : Int32) (v4 : Int64) (S : St) (w : WT D S.2.2) : OD D (b_X10_cutsUp_118 q7 q85 v0 v1 v3 v4 S) S := by
  unfold b_X10_cutsUp_118
  refine OD_nm (fun x1 => ?_)
  exact oq85 v0 kv0 v1 x1 v4 S w
set_option maxRecDepth 20000 in
theorem ob_X10_cutsUp_85 {D : Nat → Prop} {q7 : Nat → Int32 → St → Option (Unit × St)} (oq7 : ∀ (v0 : Nat) (kv0 : KA D v0 (0, 10)) (v1 : Int32) (S : St), WT D S.2.2 → OD D (q7 v0 v1 S) S) : ∀ (fu : Nat) (v0 : Nat) (kv0 : KA D v0 (0, 10)) (v1 : Int32) (v3 : Int32) (v4 : Int64) (S : St), WT D S.2.2 → OD D (b_X10_cutsUp_85 q7 fu v0 v1 v3 v4 S) S := by
  intro fu
  induction fu with
  | zero => intro v0 kv0 v1 v3 v4 S w; exact OD_none
  | succ fu ih =>
    intro v0 kv0 v1 v3 v4 S w
    rw [b_X10_cutsUp_85]
    refine OD_bd (o_X10_byteAt v0 kv0 (v1 + v3) S w) (fun r2 S1 hS1 => ?_)
    have wS1 : WT D S1.2.2 := by rw [hS1]; exact w
    clear hS1
    refine OD_bd (o_X10_isLetter r2 S1 wS1) (fun r4 S3 hS3 => ?_)
    have wS3 : WT D S3.2.2 := by rw [hS3]; exact wS1
    clear hS3
    refine OD_ite ?_ ?_
    · refine OD_ite ?_ ?_
      · exact ob_X10_cutsUp_135 oq7 v0 kv0 v1 v3 v4 (1 : Int32) S3 wS3
      · exact ob_X10_cutsUp_135 oq7 v0 kv0 v1 v3 v4 (3 : Int32) S3 wS3
    · refine OD_ite ?_ ?_
      · exact ob_X10_cutsUp_118 oq7 ih v0 kv0 v1 v3 v4 S3 wS3
      · refine OD_bd (o_X10_byteAt v0 kv0 (v1 + v3) S3 wS3) (fun r6 S5 hS5 => ?_)
        have wS5 : WT D S5.2.2 := by rw [hS5]; exact wS3
        clear hS5
        refine OD_bd (o_X10_appends v4 r6 S5 wS5) (fun r8 S7 hS7 => ?_)
        have wS7 : WT D S7.2.2 := by rw [hS7]; exact wS5
        clear hS7
        exact ob_X10_cutsUp_118 oq7 ih v0 kv0 v1 v3 r8 S7 wS7
set_option maxRecDepth 20000 in
theorem ob_X10_cutsUp_7 {D : Nat → Prop} : ∀ (fu : Nat) (v0 : Nat) (kv0 : KA D v0 (0, 10)) (v1 : Int32) (S : St), WT D S.2.2 → OD D (b_X10_cutsUp_7 fu v0 v1 S) S := by
  intro fu
  induction fu with
  | zero => intro v0 kv0 v1 S w; exact OD_none
  | succ fu ih =>
    intro v0 kv0 v1 S w
    rw [b_X10_cutsUp_7]
    refine OD_ite ?_ ?_
    · exact OD_some
    · refine OD_bd (o_X10_byteAt v0 kv0 v1 S w) (fun r2 S1 hS1 => ?_)
      have wS1 : WT D S1.2.2 := by rw [hS1]; exact w
      clear hS1
      refine OD_ite ?_ ?_
      · refine OD_ite ?_ ?_
        · exact ob_X10_cutsUp_67 ih v0 kv0 v1 S1 wS1
        · refine OD_ite ?_ ?_
          · exact ob_X10_cutsUp_67 ih v0 kv0 v1 S1 wS1
          · refine OD_ite ?_ ?_
            · exact ob_X10_cutsUp_67 ih v0 kv0 v1 S1 wS1
            · refine OD_ite ?_ ?_
              · exact ob_X10_cutsUp_67 ih v0 kv0 v1 S1 wS1
              · refine OD_bd (o_X10_isLetter r2 S1 wS1) (fun r4 S3 hS3 => ?_)
                have wS3 : WT D S3.2.2 := by rw [hS3]; exact wS1
                clear hS3
                refine OD_ite ?_ ?_
                · refine OD_bd (o_X10_isDigit r2 S3 wS3) (fun r6 S5 hS5 => ?_)
                  have wS5 : WT D S5.2.2 := by rw [hS5]; exact wS3
                  clear hS5
                  refine OD_ite ?_ ?_
                  · refine OD_bd (o_X10_byteAt v0 kv0 (v1 + (1 : Int32)) S5 wS5) (fun r8 S7 hS7 => ?_)
                    have wS7 : WT D S7.2.2 := by rw [hS7]; exact wS5
                    clear hS7
                    refine OD_bd (o_X10_sign v0 kv0 v1 r2 r8 S7 wS7) (fun r10 S9 hS9 => ?_)
                    have wS9 : WT D S9.2.2 := by rw [hS9]; exact wS7
                    clear hS9
                    refine OD_nm (fun x11 => ?_)
                    exact ob_X10_cutsUp_291 ih v0 kv0 x11 S9 wS9
                  · exact ob_X10_cutsUp_208 ih FU v0 kv0 v1 (0 : Int32) (0 : Int32) S5 wS5
                · exact ob_X10_cutsUp_85 ih FU v0 kv0 v1 (0 : Int32) (0 : Int64) S3 wS3
      · refine OD_bd (o_X10_token v0 kv0 (0 : Int32) (S1.1 v0 4) (0 : Int32) (0 : Int64) S1 wS1) (fun _ S12 hS12 => ?_)
        have wS12 : WT D S12.2.2 := by rw [hS12]; exact wS1
        clear hS12
        exact OD_some
set_option maxRecDepth 20000 in
theorem o_X10_cutsUp {D : Nat → Prop} (v0 : Nat) (kv0 : KA D v0 (0, 10)) (S : St) (w : WT D S.2.2) : OD D (f_X10_cutsUp v0 S) S := by
  unfold f_X10_cutsUp
  refine OD_nmI (kv0).2 (fun S1 hS1 => ?_)
  have wS1 : WT D S1.2.2 := by rw [hS1]; exact w
  clear hS1
  exact ob_X10_cutsUp_7 FU v0 kv0 (0 : Int32) S1 wS1
set_option maxRecDepth 20000 in
theorem o_X10_is {D : Nat → Prop} (v0 : Nat) (kv0 : KA D v0 (0, 10)) (v1 : Int32) (S : St) (w : WT D S.2.2) : OD D (f_X10_is v0 v1 S) S := by
  unfold f_X10_is
  refine OD_ite ?_ ?_
  · refine OD_ix (fun j1 => ?_)
    refine OD_ite ?_ ?_
    · exact OD_some
    · exact OD_some
  · exact OD_some
set_option maxRecDepth 20000 in
theorem o_X10_fail {D : Nat → Prop} (v0 : Nat) (kv0 : KA D v0 (0, 10)) (v1 : Int32) (S : St) (w : WT D S.2.2) : OD D (f_X10_fail v0 v1 S) S := by
  unfold f_X10_fail
  refine OD_ite ?_ ?_
  · refine OD_nmI (kv0).2 (fun S1 hS1 => ?_)
    have wS1 : WT D S1.2.2 := by rw [hS1]; exact w
    clear hS1
    refine OD_ix (fun j2 => ?_)
    refine OD_nmI (kv0).2 (fun S3 hS3 => ?_)
    have wS3 : WT D S3.2.2 := by rw [hS3]; exact wS1
    clear hS3
    exact OD_some
  · exact OD_some
set_option maxRecDepth 20000 in
theorem ob_X10_wrong_46 {D : Nat → Prop} (v0 : Nat) (kv0 : KA D v0 (0, 10)) (v1 : Int32) (v3 : Int32) (S : St) (w : WT D S.2.2) : OD D (b_X10_wrong_46 v0 v1 v3 S) S := by
  unfold b_X10_wrong_46
  refine OD_nmI (kv0).2 (fun S1 hS1 => ?_)
  have wS1 : WT D S1.2.2 := by rw [hS1]; exact w
  clear hS1
  refine OD_nmI (kv0).2 (fun S2 hS2 => ?_)
  have wS2 : WT D S2.2.2 := by rw [hS2]; exact wS1
  clear hS2
  exact OD_some
set_option maxRecDepth 20000 in
theorem o_X10_wrong {D : Nat → Prop} (v0 : Nat) (kv0 : KA D v0 (0, 10)) (v1 : Int32) (v2 : Int32) (S : St) (w : WT D S.2.2) : OD D (f_X10_wrong v0 v1 v2 S) S := by
  unfold f_X10_wrong
  refine OD_ix (fun j1 => ?_)
  refine OD_nm (fun x2 => ?_)
  refine OD_ite ?_ ?_
  · exact OD_some
  · refine OD_ite ?_ ?_
    · exact ob_X10_wrong_46 v0 kv0 v1 x2 S w
    · refine OD_ite ?_ ?_
      · exact OD_some
      · refine OD_ite ?_ ?_
        · refine OD_ite ?_ ?_
          · exact ob_X10_wrong_46 v0 kv0 v1 x2 S w
          · exact OD_some
        · exact ob_X10_wrong_46 v0 kv0 v1 x2 S w
set_option maxRecDepth 20000 in
theorem o_X10_goesOn {D : Nat → Prop} (v0 : Nat) (kv0 : KA D v0 (0, 10)) (S : St) (w : WT D S.2.2) : OD D (f_X10_goesOn v0 S) S := by
  unfold f_X10_goesOn
  refine OD_ite ?_ ?_
  · refine OD_bd (o_X10_fail v0 kv0 (2 : Int32) S w) (fun _ S1 hS1 => ?_)
    have wS1 : WT D S1.2.2 := by rw [hS1]; exact w
    clear hS1
    exact OD_some
  · refine OD_nmI (kv0).2 (fun S3 hS3 => ?_)
    have wS3 : WT D S3.2.2 := by rw [hS3]; exact w
    clear hS3
    exact OD_some
set_option maxRecDepth 20000 in
theorem o_X10_must {D : Nat → Prop} (v0 : Nat) (kv0 : KA D v0 (0, 10)) (v1 : Int32) (S : St) (w : WT D S.2.2) : OD D (f_X10_must v0 v1 S) S := by
  unfold f_X10_must
  refine OD_bd (o_X10_is v0 kv0 v1 S w) (fun r2 S1 hS1 => ?_)
  have wS1 : WT D S1.2.2 := by rw [hS1]; exact w
  clear hS1
  refine OD_ite ?_ ?_
  · refine OD_bd (o_X10_fail v0 kv0 (1 : Int32) S1 wS1) (fun _ S3 hS3 => ?_)
    have wS3 : WT D S3.2.2 := by rw [hS3]; exact wS1
    clear hS3
    exact OD_some
  · refine OD_bd (o_X10_goesOn v0 kv0 S1 wS1) (fun _ S5 hS5 => ?_)
    have wS5 : WT D S5.2.2 := by rw [hS5]; exact wS1
    clear hS5
    exact OD_some
set_option maxRecDepth 20000 in
theorem ob_X10_plain_37 {D : Nat → Prop} : ∀ (fu : Nat) (v0 : Nat) (kv0 : KA D v0 (0, 10)) (v1 : Int32) (v2 : Int32) (S : St), WT D S.2.2 → OD D (b_X10_plain_37 fu v0 v1 v2 S) S := by
  intro fu
  induction fu with
  | zero => intro v0 kv0 v1 v2 S w; exact OD_none
  | succ fu ih =>
    intro v0 kv0 v1 v2 S w
    rw [b_X10_plain_37]
    refine OD_ite ?_ ?_
    · exact OD_some
    · refine OD_ix (fun j1 => ?_)
      refine OD_nmI (w.1 _ _ kv0 35 _ rfl).2 (fun S2 hS2 => ?_)
      have wS2 : WT D S2.2.2 := by rw [hS2]; exact w
      clear hS2
      refine OD_ix (fun j3 => ?_)
      refine OD_nmI (wS2.1 _ _ kv0 36 _ rfl).2 (fun S4 hS4 => ?_)
      have wS4 : WT D S4.2.2 := by rw [hS4]; exact wS2
      clear hS4
      refine OD_nm (fun x5 => ?_)
      exact ih v0 kv0 v1 x5 S4 wS4
set_option maxRecDepth 20000 in
theorem o_X10_plain {D : Nat → Prop} (v0 : Nat) (kv0 : KA D v0 (0, 10)) (v1 : Int32) (S : St) (w : WT D S.2.2) : OD D (f_X10_plain v0 v1 S) S := by
  unfold f_X10_plain
  refine OD_ix (fun j1 => ?_)
  refine OD_nmI (w.1 _ _ kv0 23 _ rfl).2 (fun S2 hS2 => ?_)
  have wS2 : WT D S2.2.2 := by rw [hS2]; exact w
  clear hS2
  refine OD_ix (fun j3 => ?_)
  refine OD_nmI (wS2.1 _ _ kv0 25 _ rfl).2 (fun S4 hS4 => ?_)
  have wS4 : WT D S4.2.2 := by rw [hS4]; exact wS2
  clear hS4
  refine OD_ix (fun j5 => ?_)
  refine OD_nmI (wS4.1 _ _ kv0 29 _ rfl).2 (fun S6 hS6 => ?_)
  have wS6 : WT D S6.2.2 := by rw [hS6]; exact wS4
  clear hS6
  refine OD_ix (fun j7 => ?_)
  refine OD_nmI (wS6.1 _ _ kv0 33 _ rfl).2 (fun S8 hS8 => ?_)
  have wS8 : WT D S8.2.2 := by rw [hS8]; exact wS6
  clear hS8
  refine OD_ix (fun j9 => ?_)
  refine OD_nmI (wS8.1 _ _ kv0 34 _ rfl).2 (fun S10 hS10 => ?_)
  have wS10 : WT D S10.2.2 := by rw [hS10]; exact wS8
  clear hS10
  exact ob_X10_plain_37 FU v0 kv0 v1 (0 : Int32) S10 wS10
set_option maxRecDepth 20000 in
theorem ob_X10_roomFor_10 {D : Nat → Prop} (v0 : Nat) (kv0 : KA D v0 (0, 10)) (S : St) (w : WT D S.2.2) : OD D (b_X10_roomFor_10 v0 S) S := by
  unfold b_X10_roomFor_10
  refine OD_ite ?_ ?_
  · refine OD_bd (o_X10_goesOn v0 kv0 S w) (fun _ S1 hS1 => ?_)
    have wS1 : WT D S1.2.2 := by rw [hS1]; exact w
    clear hS1
    exact OD_some
  · exact OD_some
set_option maxRecDepth 20000 in
theorem o_X10_roomFor {D : Nat → Prop} (v0 : Nat) (kv0 : KA D v0 (0, 10)) (v1 : Int32) (v2 : Int32) (S : St) (w : WT D S.2.2) : OD D (f_X10_roomFor v0 v1 v2 S) S := by
  unfold f_X10_roomFor
  refine OD_ite ?_ ?_
  · refine OD_bd (o_X10_fail v0 kv0 (2 : Int32) S w) (fun _ S1 hS1 => ?_)
    have wS1 : WT D S1.2.2 := by rw [hS1]; exact w
    clear hS1
    exact ob_X10_roomFor_10 v0 kv0 S1 wS1
  · exact ob_X10_roomFor_10 v0 kv0 S w
set_option maxRecDepth 20000 in
theorem ob_X10_named_49 {D : Nat → Prop} {q12 : Nat → Int32 → Int32 → St → Option (Int32 × St)} (oq12 : ∀ (v0 : Nat) (kv0 : KA D v0 (0, 10)) (v1 : Int32) (v2 : Int32) (S : St), WT D S.2.2 → OD D (q12 v0 v1 v2 S) S) (v0 : Nat) (kv0 : KA D v0 (0, 10)) (v1 : Int32) (v2 : Int32) (S : St) (w : WT D S.2.2) : OD D (b_X10_named_49 q12 v0 v1 v2 S) S := by
  unfold b_X10_named_49
  refine OD_nm (fun x1 => ?_)
  exact oq12 v0 kv0 v1 x1 S w
set_option maxRecDepth 20000 in
theorem ob_X10_named_12 {D : Nat → Prop} : ∀ (fu : Nat) (v0 : Nat) (kv0 : KA D v0 (0, 10)) (v1 : Int32) (v2 : Int32) (S : St), WT D S.2.2 → OD D (b_X10_named_12 fu v0 v1 v2 S) S := by
  intro fu
  induction fu with
  | zero => intro v0 kv0 v1 v2 S w; exact OD_none
  | succ fu ih =>
    intro v0 kv0 v1 v2 S w
    rw [b_X10_named_12]
    refine OD_ite ?_ ?_
    · exact OD_some
    · refine OD_ite ?_ ?_
      · refine OD_ix (fun j1 => ?_)
        refine OD_ix (fun j2 => ?_)
        refine OD_ite ?_ ?_
        · refine OD_bd (o_X10_wrong v0 kv0 (3 : Int32) v1 S w) (fun _ S3 hS3 => ?_)
          have wS3 : WT D S3.2.2 := by rw [hS3]; exact w
          clear hS3
          exact ob_X10_named_49 ih v0 kv0 v1 v2 S3 wS3
        · exact ob_X10_named_49 ih v0 kv0 v1 v2 S w
      · exact OD_some
set_option maxRecDepth 20000 in
theorem o_X10_named {D : Nat → Prop} (v0 : Nat) (kv0 : KA D v0 (0, 10)) (S : St) (w : WT D S.2.2) : OD D (f_X10_named v0 S) S := by
  unfold f_X10_named
  refine OD_nm (fun x1 => ?_)
  refine OD_bd (o_X10_must v0 kv0 (1 : Int32) S w) (fun _ S2 hS2 => ?_)
  have wS2 : WT D S2.2.2 := by rw [hS2]; exact w
  clear hS2
  exact ob_X10_named_12 FU v0 kv0 x1 (0 : Int32) S2 wS2
set_option maxRecDepth 20000 in
theorem ob_X10_bounded_15 {D : Nat → Prop} (v0 : Nat) (kv0 : KA D v0 (0, 10)) (v1 : Int32) (S : St) (w : WT D S.2.2) : OD D (b_X10_bounded_15 v0 v1 S) S := by
  unfold b_X10_bounded_15
  refine OD_bd (o_X10_fail v0 kv0 (1 : Int32) S w) (fun _ S1 hS1 => ?_)
  have wS1 : WT D S1.2.2 := by rw [hS1]; exact w
  clear hS1
  exact OD_some
set_option maxRecDepth 20000 in
theorem ob_X10_bounded_51 {D : Nat → Prop} (v0 : Nat) (kv0 : KA D v0 (0, 10)) (v3 : Int32) (S : St) (w : WT D S.2.2) : OD D (b_X10_bounded_51 v0 v3 S) S := by
  unfold b_X10_bounded_51
  refine OD_bd (o_X10_goesOn v0 kv0 S w) (fun _ S1 hS1 => ?_)
  have wS1 : WT D S1.2.2 := by rw [hS1]; exact w
  clear hS1
  exact OD_some
set_option maxRecDepth 20000 in
theorem ob_X10_bounded_42 {D : Nat → Prop} (v0 : Nat) (kv0 : KA D v0 (0, 10)) (v3 : Int32) (S : St) (w : WT D S.2.2) : OD D (b_X10_bounded_42 v0 v3 S) S := by
  unfold b_X10_bounded_42
  refine OD_bd (o_X10_wrong v0 kv0 (5 : Int32) (S.1 v0 11) S w) (fun _ S1 hS1 => ?_)
  have wS1 : WT D S1.2.2 := by rw [hS1]; exact w
  clear hS1
  exact ob_X10_bounded_51 v0 kv0 v3 S1 wS1
set_option maxRecDepth 20000 in
theorem o_X10_bounded {D : Nat → Prop} (v0 : Nat) (kv0 : KA D v0 (0, 10)) (v1 : Int32) (v2 : Int32) (S : St) (w : WT D S.2.2) : OD D (f_X10_bounded v0 v1 v2 S) S := by
  unfold f_X10_bounded
  refine OD_ite ?_ ?_
  · exact ob_X10_bounded_15 v0 kv0 v1 S w
  · refine OD_bd (o_X10_is v0 kv0 (2 : Int32) S w) (fun r2 S1 hS1 => ?_)
    have wS1 : WT D S1.2.2 := by rw [hS1]; exact w
    clear hS1
    refine OD_ite ?_ ?_
    · exact ob_X10_bounded_15 v0 kv0 v1 S1 wS1
    · refine OD_ix (fun j3 => ?_)
      refine OD_nm (fun x4 => ?_)
      refine OD_ite ?_ ?_
      · exact ob_X10_bounded_42 v0 kv0 x4 S1 wS1
      · refine OD_ite ?_ ?_
        · exact ob_X10_bounded_51 v0 kv0 x4 S1 wS1
        · exact ob_X10_bounded_42 v0 kv0 x4 S1 wS1
set_option maxRecDepth 20000 in
theorem ob_X10_toldStep_30 {D : Nat → Prop} (v0 : Nat) (kv0 : KA D v0 (0, 10)) (v1 : Int32) (S : St) (w : WT D S.2.2) : OD D (b_X10_toldStep_30 v0 v1 S) S := by
  unfold b_X10_toldStep_30
  refine OD_bd (o_X10_bounded v0 kv0 (0 : Int32) (3 : Int32) S w) (fun r2 S1 hS1 => ?_)
  have wS1 : WT D S1.2.2 := by rw [hS1]; exact w
  clear hS1
  refine OD_ite ?_ ?_
  · exact OD_some
  · exact OD_some
set_option maxRecDepth 20000 in
theorem ob_X10_toldStep_21 {D : Nat → Prop} (v0 : Nat) (kv0 : KA D v0 (0, 10)) (s0 : Int32) (S : St) (w : WT D S.2.2) : OD D (b_X10_toldStep_21 v0 s0 S) S := by
  unfold b_X10_toldStep_21
  refine OD_ite ?_ ?_
  · exact ob_X10_toldStep_30 v0 kv0 s0 S w
  · refine OD_bd (o_X10_goesOn v0 kv0 S w) (fun _ S1 hS1 => ?_)
    have wS1 : WT D S1.2.2 := by rw [hS1]; exact w
    clear hS1
    exact ob_X10_toldStep_30 v0 kv0 s0 S1 wS1
set_option maxRecDepth 20000 in
theorem ob_X10_toldStep_20 {D : Nat → Prop} (v0 : Nat) (kv0 : KA D v0 (0, 10)) (S : St) (w : WT D S.2.2) : OD D (b_X10_toldStep_20 v0 S) S := by
  unfold b_X10_toldStep_20
  exact ob_X10_toldStep_21 v0 kv0 (0 : Int32) S w
set_option maxRecDepth 20000 in
theorem o_X10_toldStep {D : Nat → Prop} (v0 : Nat) (kv0 : KA D v0 (0, 10)) (S : St) (w : WT D S.2.2) : OD D (f_X10_toldStep v0 S) S := by
  unfold f_X10_toldStep
  refine OD_ite ?_ ?_
  · refine OD_bd (o_X10_is v0 kv0 (9 : Int32) S w) (fun r2 S1 hS1 => ?_)
    have wS1 : WT D S1.2.2 := by rw [hS1]; exact w
    clear hS1
    refine OD_ite ?_ ?_
    · exact ob_X10_toldStep_20 v0 kv0 S1 wS1
    · exact ob_X10_toldStep_21 v0 kv0 (1 : Int32) S1 wS1
  · exact ob_X10_toldStep_20 v0 kv0 S w
set_option maxRecDepth 20000 in
theorem o_X10_endsName {D : Nat → Prop} (v0 : Nat) (kv0 : KA D v0 (0, 10)) (v1 : Int32) (v2 : Int32) (S : St) (w : WT D S.2.2) : OD D (f_X10_endsName v0 v1 v2 S) S := by
  unfold f_X10_endsName
  refine OD_bd (o_X10_must v0 kv0 (4 : Int32) S w) (fun _ S1 hS1 => ?_)
  have wS1 : WT D S1.2.2 := by rw [hS1]; exact w
  clear hS1
  refine OD_ite ?_ ?_
  · refine OD_ix (fun j3 => ?_)
    refine OD_ix (fun j4 => ?_)
    refine OD_nmL (wS1.1 _ _ kv0 21 _ rfl).2 (fun S5 hS5 => ?_)
    have wS5 : WT D S5.2.2 := by rw [hS5]; exact wS1
    clear hS5
    refine OD_ix (fun j6 => ?_)
    refine OD_nmI (wS5.1 _ _ kv0 22 _ rfl).2 (fun S7 hS7 => ?_)
    have wS7 : WT D S7.2.2 := by rw [hS7]; exact wS5
    clear hS7
    refine OD_nmI (kv0).2 (fun S8 hS8 => ?_)
    have wS8 : WT D S8.2.2 := by rw [hS8]; exact wS7
    clear hS8
    exact OD_some
  · exact OD_some
set_option maxRecDepth 20000 in
theorem o_X10_tellMermaid {D : Nat → Prop} (v0 : Nat) (kv0 : KA D v0 (0, 10)) (S : St) (w : WT D S.2.2) : OD D (f_X10_tellMermaid v0 S) S := by
  unfold f_X10_tellMermaid
  refine OD_ix (fun j1 => ?_)
  refine OD_nm (fun x2 => ?_)
  refine OD_bd (o_X10_named v0 kv0 S w) (fun r4 S3 hS3 => ?_)
  have wS3 : WT D S3.2.2 := by rw [hS3]; exact w
  clear hS3
  refine OD_bd (o_X10_bounded v0 kv0 (0 : Int32) (9 : Int32) S3 wS3) (fun r6 S5 hS5 => ?_)
  have wS5 : WT D S5.2.2 := by rw [hS5]; exact wS3
  clear hS5
  refine OD_ix (fun j7 => ?_)
  refine OD_nmI (wS3.1 _ _ kv0 24 _ rfl).2 (fun S8 hS8 => ?_)
  have wS8 : WT D S8.2.2 := by rw [hS8]; exact wS5
  clear hS8
  refine OD_bd (o_X10_bounded v0 kv0 (0 : Int32) (9 : Int32) S8 wS8) (fun r10 S9 hS9 => ?_)
  have wS9 : WT D S9.2.2 := by rw [hS9]; exact wS8
  clear hS9
  refine OD_ix (fun j11 => ?_)
  refine OD_nmI (wS8.1 _ _ kv0 24 _ rfl).2 (fun S12 hS12 => ?_)
  have wS12 : WT D S12.2.2 := by rw [hS12]; exact wS9
  clear hS12
  refine OD_bd (o_X10_toldStep v0 kv0 S12 wS12) (fun r14 S13 hS13 => ?_)
  have wS13 : WT D S13.2.2 := by rw [hS13]; exact wS12
  clear hS13
  refine OD_ix (fun j15 => ?_)
  refine OD_nmI (wS12.1 _ _ kv0 24 _ rfl).2 (fun S16 hS16 => ?_)
  have wS16 : WT D S16.2.2 := by rw [hS16]; exact wS13
  clear hS16
  refine OD_bd (o_X10_toldStep v0 kv0 S16 wS16) (fun r18 S17 hS17 => ?_)
  have wS17 : WT D S17.2.2 := by rw [hS17]; exact wS16
  clear hS17
  refine OD_ix (fun j19 => ?_)
  refine OD_nmI (wS16.1 _ _ kv0 24 _ rfl).2 (fun S20 hS20 => ?_)
  have wS20 : WT D S20.2.2 := by rw [hS20]; exact wS17
  clear hS20
  refine OD_ix (fun j21 => ?_)
  refine OD_bd (o_X10_endsName v0 kv0 r4 (S20.1 (S20.2.2 v0 23) j21) S20 wS20) (fun _ S22 hS22 => ?_)
  have wS22 : WT D S22.2.2 := by rw [hS22]; exact wS20
  clear hS22
  refine OD_ite ?_ ?_
  · refine OD_nm (fun x24 => ?_)
    refine OD_ix (fun j25 => ?_)
    refine OD_ix (fun j26 => ?_)
    refine OD_nmI (wS22.1 _ _ kv0 23 _ rfl).2 (fun S27 hS27 => ?_)
    have wS27 : WT D S27.2.2 := by rw [hS27]; exact wS22
    clear hS27
    exact OD_some
  · exact OD_some
set_option maxRecDepth 20000 in
theorem o_X10_tellPerson {D : Nat → Prop} (v0 : Nat) (kv0 : KA D v0 (0, 10)) (S : St) (w : WT D S.2.2) : OD D (f_X10_tellPerson v0 S) S := by
  unfold f_X10_tellPerson
  refine OD_ix (fun j1 => ?_)
  refine OD_nm (fun x2 => ?_)
  refine OD_bd (o_X10_named v0 kv0 S w) (fun r4 S3 hS3 => ?_)
  have wS3 : WT D S3.2.2 := by rw [hS3]; exact w
  clear hS3
  refine OD_bd (o_X10_bounded v0 kv0 (0 : Int32) (9 : Int32) S3 wS3) (fun r6 S5 hS5 => ?_)
  have wS5 : WT D S5.2.2 := by rw [hS5]; exact wS3
  clear hS5
  refine OD_ix (fun j7 => ?_)
  refine OD_nmI (wS3.1 _ _ kv0 26 _ rfl).2 (fun S8 hS8 => ?_)
  have wS8 : WT D S8.2.2 := by rw [hS8]; exact wS5
  clear hS8
  refine OD_bd (o_X10_bounded v0 kv0 (0 : Int32) (9 : Int32) S8 wS8) (fun r10 S9 hS9 => ?_)
  have wS9 : WT D S9.2.2 := by rw [hS9]; exact wS8
  clear hS9
  refine OD_ix (fun j11 => ?_)
  refine OD_nmI (wS8.1 _ _ kv0 27 _ rfl).2 (fun S12 hS12 => ?_)
  have wS12 : WT D S12.2.2 := by rw [hS12]; exact wS9
  clear hS12
  refine OD_bd (o_X10_bounded v0 kv0 (1 : Int32) (99 : Int32) S12 wS12) (fun r14 S13 hS13 => ?_)
  have wS13 : WT D S13.2.2 := by rw [hS13]; exact wS12
  clear hS13
  refine OD_ix (fun j15 => ?_)
  refine OD_nmI (wS12.1 _ _ kv0 28 _ rfl).2 (fun S16 hS16 => ?_)
  have wS16 : WT D S16.2.2 := by rw [hS16]; exact wS13
  clear hS16
  refine OD_ix (fun j17 => ?_)
  refine OD_bd (o_X10_endsName v0 kv0 r4 ((10 : Int32) + (S16.1 (S16.2.2 v0 25) j17)) S16 wS16) (fun _ S18 hS18 => ?_)
  have wS18 : WT D S18.2.2 := by rw [hS18]; exact wS16
  clear hS18
  refine OD_ite ?_ ?_
  · refine OD_nm (fun x20 => ?_)
    refine OD_ix (fun j21 => ?_)
    refine OD_ix (fun j22 => ?_)
    refine OD_nmI (wS18.1 _ _ kv0 25 _ rfl).2 (fun S23 hS23 => ?_)
    have wS23 : WT D S23.2.2 := by rw [hS23]; exact wS18
    clear hS23
    exact OD_some
  · exact OD_some
set_option maxRecDepth 20000 in
theorem ob_X10_known_77 {D : Nat → Prop} {q21 : Nat → Int32 → Int32 → Int32 → St → Option (Int32 × St)} (oq21 : ∀ (v0 : Nat) (kv0 : KA D v0 (0, 10)) (v1 : Int32) (v2 : Int32) (v3 : Int32) (S : St), WT D S.2.2 → OD D (q21 v0 v1 v2 v3 S) S) (v0 : Nat) (kv0 : KA D v0 (0, 10)) (v1 : Int32) (v2 : Int32) (v3 : Int32) (S : St) (w : WT D S.2.2) : OD D (b_X10_known_77 q21 v0 v1 v2 v3 S) S := by
  unfold b_X10_known_77
  refine OD_nm (fun x1 => ?_)
  exact oq21 v0 kv0 v1 v2 x1 S w
set_option maxRecDepth 20000 in
theorem ob_X10_known_21 {D : Nat → Prop} : ∀ (fu : Nat) (v0 : Nat) (kv0 : KA D v0 (0, 10)) (v1 : Int32) (v2 : Int32) (v3 : Int32) (S : St), WT D S.2.2 → OD D (b_X10_known_21 fu v0 v1 v2 v3 S) S := by
  intro fu
  induction fu with
  | zero => intro v0 kv0 v1 v2 v3 S w; exact OD_none
  | succ fu ih =>
    intro v0 kv0 v1 v2 v3 S w
    rw [b_X10_known_21]
    refine OD_ite ?_ ?_
    · refine OD_bd (o_X10_wrong v0 kv0 (4 : Int32) v2 S w) (fun _ S1 hS1 => ?_)
      have wS1 : WT D S1.2.2 := by rw [hS1]; exact w
      clear hS1
      exact OD_some
    · refine OD_ix (fun j3 => ?_)
      refine OD_ix (fun j4 => ?_)
      refine OD_ite ?_ ?_
      · refine OD_ix (fun j5 => ?_)
        refine OD_ite ?_ ?_
        · exact ob_X10_known_77 ih v0 kv0 v1 v2 v3 S w
        · refine OD_ix (fun j6 => ?_)
          refine OD_ite ?_ ?_
          · exact ob_X10_known_77 ih v0 kv0 v1 v2 v3 S w
          · refine OD_ix (fun j7 => ?_)
            exact OD_some
      · exact ob_X10_known_77 ih v0 kv0 v1 v2 v3 S w
set_option maxRecDepth 20000 in
theorem o_X10_known {D : Nat → Prop} (v0 : Nat) (kv0 : KA D v0 (0, 10)) (v1 : Int32) (S : St) (w : WT D S.2.2) : OD D (f_X10_known v0 v1 S) S := by
  unfold f_X10_known
  refine OD_nm (fun x1 => ?_)
  refine OD_bd (o_X10_must v0 kv0 (1 : Int32) S w) (fun _ S2 hS2 => ?_)
  have wS2 : WT D S2.2.2 := by rw [hS2]; exact w
  clear hS2
  refine OD_ite ?_ ?_
  · exact ob_X10_known_21 FU v0 kv0 v1 x1 (0 : Int32) S2 wS2
  · exact OD_some
set_option maxRecDepth 20000 in
theorem o_X10_tellStrand {D : Nat → Prop} (v0 : Nat) (kv0 : KA D v0 (0, 10)) (S : St) (w : WT D S.2.2) : OD D (f_X10_tellStrand v0 S) S := by
  unfold f_X10_tellStrand
  refine OD_ix (fun j1 => ?_)
  refine OD_nm (fun x2 => ?_)
  refine OD_bd (o_X10_known v0 kv0 (0 : Int32) S w) (fun r4 S3 hS3 => ?_)
  have wS3 : WT D S3.2.2 := by rw [hS3]; exact w
  clear hS3
  refine OD_ix (fun j5 => ?_)
  refine OD_nmI (w.1 _ _ kv0 30 _ rfl).2 (fun S6 hS6 => ?_)
  have wS6 : WT D S6.2.2 := by rw [hS6]; exact wS3
  clear hS6
  refine OD_bd (o_X10_known v0 kv0 (10 : Int32) S6 wS6) (fun r8 S7 hS7 => ?_)
  have wS7 : WT D S7.2.2 := by rw [hS7]; exact wS6
  clear hS7
  refine OD_ix (fun j9 => ?_)
  refine OD_nmI (wS6.1 _ _ kv0 31 _ rfl).2 (fun S10 hS10 => ?_)
  have wS10 : WT D S10.2.2 := by rw [hS10]; exact wS7
  clear hS10
  refine OD_bd (o_X10_bounded v0 kv0 (1 : Int32) (9 : Int32) S10 wS10) (fun r12 S11 hS11 => ?_)
  have wS11 : WT D S11.2.2 := by rw [hS11]; exact wS10
  clear hS11
  refine OD_ix (fun j13 => ?_)
  refine OD_nmI (wS10.1 _ _ kv0 32 _ rfl).2 (fun S14 hS14 => ?_)
  have wS14 : WT D S14.2.2 := by rw [hS14]; exact wS11
  clear hS14
  refine OD_bd (o_X10_must v0 kv0 (4 : Int32) S14 wS14) (fun _ S15 hS15 => ?_)
  have wS15 : WT D S15.2.2 := by rw [hS15]; exact wS14
  clear hS15
  refine OD_ite ?_ ?_
  · refine OD_nm (fun x17 => ?_)
    refine OD_ix (fun j18 => ?_)
    refine OD_ix (fun j19 => ?_)
    refine OD_nmI (wS15.1 _ _ kv0 29 _ rfl).2 (fun S20 hS20 => ?_)
    have wS20 : WT D S20.2.2 := by rw [hS20]; exact wS15
    clear hS20
    exact OD_some
  · exact OD_some
set_option maxRecDepth 20000 in
theorem o_X10_emit {D : Nat → Prop} (v0 : Nat) (kv0 : KA D v0 (0, 10)) (v1 : Int32) (v2 : Int32) (S : St) (w : WT D S.2.2) : OD D (f_X10_emit v0 v1 v2 S) S := by
  unfold f_X10_emit
  refine OD_ix (fun j1 => ?_)
  refine OD_nmI (w.1 _ _ kv0 44 _ rfl).2 (fun S2 hS2 => ?_)
  have wS2 : WT D S2.2.2 := by rw [hS2]; exact w
  clear hS2
  refine OD_ix (fun j3 => ?_)
  refine OD_nmI (wS2.1 _ _ kv0 45 _ rfl).2 (fun S4 hS4 => ?_)
  have wS4 : WT D S4.2.2 := by rw [hS4]; exact wS2
  clear hS4
  refine OD_nmI (kv0).2 (fun S5 hS5 => ?_)
  have wS5 : WT D S5.2.2 := by rw [hS5]; exact wS4
  clear hS5
  exact OD_some
set_option maxRecDepth 20000 in
theorem ob_X10_unit_88 {D : Nat → Prop} (v0 : Nat) (kv0 : KA D v0 (0, 10)) (S : St) (w : WT D S.2.2) : OD D (b_X10_unit_88 v0 S) S := by
  unfold b_X10_unit_88
  refine OD_bd (o_X10_fail v0 kv0 (1 : Int32) S w) (fun _ S1 hS1 => ?_)
  have wS1 : WT D S1.2.2 := by rw [hS1]; exact w
  clear hS1
  exact OD_some
set_option maxRecDepth 20000 in
theorem o_X10_unit {D : Nat → Prop} (v0 : Nat) (kv0 : KA D v0 (0, 10)) (S : St) (w : WT D S.2.2) : OD D (f_X10_unit v0 S) S := by
  unfold f_X10_unit
  refine OD_bd (o_X10_is v0 kv0 (2 : Int32) S w) (fun r2 S1 hS1 => ?_)
  have wS1 : WT D S1.2.2 := by rw [hS1]; exact w
  clear hS1
  refine OD_ite ?_ ?_
  · refine OD_ite ?_ ?_
    · refine OD_ix (fun j3 => ?_)
      refine OD_ite ?_ ?_
      · exact ob_X10_unit_88 v0 kv0 S1 wS1
      · refine OD_ix (fun j4 => ?_)
        refine OD_ite ?_ ?_
        · exact ob_X10_unit_88 v0 kv0 S1 wS1
        · refine OD_ix (fun j5 => ?_)
          refine OD_bd (o_X10_emit v0 kv0 (1 : Int32) ((S1.1 (S1.2.2 v0 5) j5) - (32 : Int32)) S1 wS1) (fun _ S6 hS6 => ?_)
          have wS6 : WT D S6.2.2 := by rw [hS6]; exact wS1
          clear hS6
          refine OD_bd (o_X10_goesOn v0 kv0 S6 wS6) (fun _ S8 hS8 => ?_)
          have wS8 : WT D S8.2.2 := by rw [hS8]; exact wS6
          clear hS8
          exact OD_some
    · exact ob_X10_unit_88 v0 kv0 S1 wS1
  · refine OD_ix (fun j10 => ?_)
    refine OD_bd (o_X10_emit v0 kv0 (0 : Int32) (S1.1 (S1.2.2 v0 7) j10) S1 wS1) (fun _ S11 hS11 => ?_)
    have wS11 : WT D S11.2.2 := by rw [hS11]; exact wS1
    clear hS11
    refine OD_bd (o_X10_goesOn v0 kv0 S11 wS11) (fun _ S13 hS13 => ?_)
    have wS13 : WT D S13.2.2 := by rw [hS13]; exact wS11
    clear hS13
    exact OD_some
set_option maxRecDepth 20000 in
theorem ob_X10_comesOut_84 {D : Nat → Prop} {q0 : Nat → Int32 → St → Option (Unit × St)} (oq0 : ∀ (v0 : Nat) (kv0 : KA D v0 (0, 10)) (v1 : Int32) (S : St), WT D S.2.2 → OD D (q0 v0 v1 S) S) (v0 : Nat) (kv0 : KA D v0 (0, 10)) (v1 : Int32) (s0 : Nat) (ks0 : KA D s0 (0, 10)) (s1 : Int32) (S : St) (w : WT D S.2.2) : OD D (b_X10_comesOut_84 q0 v0 v1 s0 s1 S) S := by
  unfold b_X10_comesOut_84
  refine OD_bd (o_X10_emit s0 ks0 s1 (0 : Int32) S w) (fun _ S1 hS1 => ?_)
  have wS1 : WT D S1.2.2 := by rw [hS1]; exact w
  clear hS1
  exact oq0 v0 kv0 v1 S1 wS1
set_option maxRecDepth 20000 in
theorem ob_X10_comesOut_42 {D : Nat → Prop} {q0 : Nat → Int32 → St → Option (Unit × St)} (oq0 : ∀ (v0 : Nat) (kv0 : KA D v0 (0, 10)) (v1 : Int32) (S : St), WT D S.2.2 → OD D (q0 v0 v1 S) S) (v0 : Nat) (kv0 : KA D v0 (0, 10)) (v1 : Int32) (v2 : Int32) (S : St) (w : WT D S.2.2) : OD D (b_X10_comesOut_42 q0 v0 v1 v2 S) S := by
  unfold b_X10_comesOut_42
  refine OD_nmI (kv0).2 (fun S1 hS1 => ?_)
  have wS1 : WT D S1.2.2 := by rw [hS1]; exact w
  clear hS1
  refine OD_ite ?_ ?_
  · exact ob_X10_comesOut_84 oq0 v0 kv0 v1 v0 kv0 (2 : Int32) S1 wS1
  · refine OD_ite ?_ ?_
    · exact ob_X10_comesOut_84 oq0 v0 kv0 v1 v0 kv0 (3 : Int32) S1 wS1
    · refine OD_ite ?_ ?_
      · exact ob_X10_comesOut_84 oq0 v0 kv0 v1 v0 kv0 (4 : Int32) S1 wS1
      · exact ob_X10_comesOut_84 oq0 v0 kv0 v1 v0 kv0 (5 : Int32) S1 wS1
set_option maxRecDepth 20000 in
theorem ob_X10_comesOut_0 {D : Nat → Prop} : ∀ (fu : Nat) (v0 : Nat) (kv0 : KA D v0 (0, 10)) (v1 : Int32) (S : St), WT D S.2.2 → OD D (b_X10_comesOut_0 fu v0 v1 S) S := by
  intro fu
  induction fu with
  | zero => intro v0 kv0 v1 S w; exact OD_none
  | succ fu ih =>
    intro v0 kv0 v1 S w
    rw [b_X10_comesOut_0]
    refine OD_ite ?_ ?_
    · exact OD_some
    · refine OD_ix (fun j1 => ?_)
      refine OD_nm (fun x2 => ?_)
      refine OD_ite ?_ ?_
      · exact OD_some
      · refine OD_ite ?_ ?_
        · exact ob_X10_comesOut_42 ih v0 kv0 v1 x2 S w
        · refine OD_ite ?_ ?_
          · exact OD_some
          · refine OD_ite ?_ ?_
            · exact OD_some
            · exact ob_X10_comesOut_42 ih v0 kv0 v1 x2 S w
set_option maxRecDepth 20000 in
theorem o_X10_comesOut {D : Nat → Prop} (v0 : Nat) (kv0 : KA D v0 (0, 10)) (v1 : Int32) (S : St) (w : WT D S.2.2) : OD D (f_X10_comesOut v0 v1 S) S := ob_X10_comesOut_0 FU v0 kv0 v1 S w
set_option maxRecDepth 20000 in
theorem ob_X10_expression_234 {D : Nat → Prop} {q12 : Nat → Int32 → Int32 → St → Option (Unit × St)} (oq12 : ∀ (v0 : Nat) (kv0 : KA D v0 (0, 10)) (v1 : Int32) (v2 : Int32) (S : St), WT D S.2.2 → OD D (q12 v0 v1 v2 S) S) (v0 : Nat) (kv0 : KA D v0 (0, 10)) (v1 : Int32) (v2 : Int32) (s0 : Nat) (ks0 : KA D s0 (0, 10)) (s1 : Int32) (S : St) (w : WT D S.2.2) : OD D (b_X10_expression_234 q12 v0 v1 v2 s0 s1 S) S := by
  unfold b_X10_expression_234
  refine OD_bd (o_X10_comesOut s0 ks0 s1 S w) (fun _ S1 hS1 => ?_)
  have wS1 : WT D S1.2.2 := by rw [hS1]; exact w
  clear hS1
  refine OD_ix (fun j3 => ?_)
  refine OD_ix (fun j4 => ?_)
  refine OD_nmI (wS1.1 _ _ kv0 46 _ rfl).2 (fun S5 hS5 => ?_)
  have wS5 : WT D S5.2.2 := by rw [hS5]; exact wS1
  clear hS5
  refine OD_nmI (kv0).2 (fun S6 hS6 => ?_)
  have wS6 : WT D S6.2.2 := by rw [hS6]; exact wS5
  clear hS6
  refine OD_bd (o_X10_goesOn v0 kv0 S6 wS6) (fun _ S7 hS7 => ?_)
  have wS7 : WT D S7.2.2 := by rw [hS7]; exact wS6
  clear hS7
  exact oq12 v0 kv0 v1 v2 S7 wS7
set_option maxRecDepth 20000 in
theorem ob_X10_expression_229 {D : Nat → Prop} {q12 : Nat → Int32 → Int32 → St → Option (Unit × St)} (oq12 : ∀ (v0 : Nat) (kv0 : KA D v0 (0, 10)) (v1 : Int32) (v2 : Int32) (S : St), WT D S.2.2 → OD D (q12 v0 v1 v2 S) S) (v0 : Nat) (kv0 : KA D v0 (0, 10)) (v1 : Int32) (v2 : Int32) (s0 : Nat) (ks0 : KA D s0 (0, 10)) (S : St) (w : WT D S.2.2) : OD D (b_X10_expression_229 q12 v0 v1 v2 s0 S) S := by
  unfold b_X10_expression_229
  exact ob_X10_expression_234 oq12 v0 kv0 v1 v2 s0 ks0 (1 : Int32) S w
set_option maxRecDepth 20000 in
theorem ob_X10_expression_204 {D : Nat → Prop} (v0 : Nat) (kv0 : KA D v0 (0, 10)) (S : St) (w : WT D S.2.2) : OD D (b_X10_expression_204 v0 S) S := by
  unfold b_X10_expression_204
  refine OD_bd (o_X10_comesOut v0 kv0 (0 : Int32) S w) (fun _ S1 hS1 => ?_)
  have wS1 : WT D S1.2.2 := by rw [hS1]; exact w
  clear hS1
  exact OD_some
set_option maxRecDepth 20000 in
theorem ob_X10_expression_186 {D : Nat → Prop} {q12 : Nat → Int32 → Int32 → St → Option (Unit × St)} (oq12 : ∀ (v0 : Nat) (kv0 : KA D v0 (0, 10)) (v1 : Int32) (v2 : Int32) (S : St), WT D S.2.2 → OD D (q12 v0 v1 v2 S) S) (v0 : Nat) (kv0 : KA D v0 (0, 10)) (v1 : Int32) (s0 : Int32) (S : St) (w : WT D S.2.2) : OD D (b_X10_expression_186 q12 v0 v1 s0 S) S := by
  unfold b_X10_expression_186
  refine OD_ite ?_ ?_
  · refine OD_ite ?_ ?_
    · exact ob_X10_expression_204 v0 kv0 S w
    · refine OD_bd (o_X10_fail v0 kv0 (1 : Int32) S w) (fun _ S1 hS1 => ?_)
      have wS1 : WT D S1.2.2 := by rw [hS1]; exact w
      clear hS1
      exact ob_X10_expression_204 v0 kv0 S1 wS1
  · refine OD_bd (o_X10_is v0 kv0 (10 : Int32) S w) (fun r4 S3 hS3 => ?_)
    have wS3 : WT D S3.2.2 := by rw [hS3]; exact w
    clear hS3
    refine OD_ite ?_ ?_
    · refine OD_bd (o_X10_is v0 kv0 (15 : Int32) S3 wS3) (fun r6 S5 hS5 => ?_)
      have wS5 : WT D S5.2.2 := by rw [hS5]; exact wS3
      clear hS5
      refine OD_ite ?_ ?_
      · exact ob_X10_expression_234 oq12 v0 kv0 v1 s0 v0 kv0 (0 : Int32) S5 wS5
      · exact ob_X10_expression_229 oq12 v0 kv0 v1 s0 v0 kv0 S5 wS5
    · exact ob_X10_expression_229 oq12 v0 kv0 v1 s0 v0 kv0 S3 wS3
set_option maxRecDepth 20000 in
theorem ob_X10_expression_181 {D : Nat → Prop} {q12 : Nat → Int32 → Int32 → St → Option (Unit × St)} (oq12 : ∀ (v0 : Nat) (kv0 : KA D v0 (0, 10)) (v1 : Int32) (v2 : Int32) (S : St), WT D S.2.2 → OD D (q12 v0 v1 v2 S) S) (v0 : Nat) (kv0 : KA D v0 (0, 10)) (v1 : Int32) (S : St) (w : WT D S.2.2) : OD D (b_X10_expression_181 q12 v0 v1 S) S := by
  unfold b_X10_expression_181
  exact ob_X10_expression_186 oq12 v0 kv0 v1 (1 : Int32) S w
set_option maxRecDepth 20000 in
theorem ob_X10_expression_145 {D : Nat → Prop} {q12 : Nat → Int32 → Int32 → St → Option (Unit × St)} (oq12 : ∀ (v0 : Nat) (kv0 : KA D v0 (0, 10)) (v1 : Int32) (v2 : Int32) (S : St), WT D S.2.2 → OD D (q12 v0 v1 v2 S) S) (v0 : Nat) (kv0 : KA D v0 (0, 10)) (v1 : Int32) (S : St) (w : WT D S.2.2) : OD D (b_X10_expression_145 q12 v0 v1 S) S := by
  unfold b_X10_expression_145
  refine OD_bd (o_X10_is v0 kv0 (8 : Int32) S w) (fun r2 S1 hS1 => ?_)
  have wS1 : WT D S1.2.2 := by rw [hS1]; exact w
  clear hS1
  refine OD_ite ?_ ?_
  · refine OD_bd (o_X10_is v0 kv0 (9 : Int32) S1 wS1) (fun r4 S3 hS3 => ?_)
    have wS3 : WT D S3.2.2 := by rw [hS3]; exact wS1
    clear hS3
    refine OD_ite ?_ ?_
    · refine OD_bd (o_X10_is v0 kv0 (10 : Int32) S3 wS3) (fun r6 S5 hS5 => ?_)
      have wS5 : WT D S5.2.2 := by rw [hS5]; exact wS3
      clear hS5
      refine OD_ite ?_ ?_
      · refine OD_bd (o_X10_is v0 kv0 (15 : Int32) S5 wS5) (fun r8 S7 hS7 => ?_)
        have wS7 : WT D S7.2.2 := by rw [hS7]; exact wS5
        clear hS7
        refine OD_ite ?_ ?_
        · exact ob_X10_expression_186 oq12 v0 kv0 v1 (0 : Int32) S7 wS7
        · exact ob_X10_expression_181 oq12 v0 kv0 v1 S7 wS7
      · exact ob_X10_expression_181 oq12 v0 kv0 v1 S5 wS5
    · exact ob_X10_expression_181 oq12 v0 kv0 v1 S3 wS3
  · exact ob_X10_expression_181 oq12 v0 kv0 v1 S1 wS1
set_option maxRecDepth 20000 in
theorem ob_X10_expression_96 {D : Nat → Prop} {q12 : Nat → Int32 → Int32 → St → Option (Unit × St)} (oq12 : ∀ (v0 : Nat) (kv0 : KA D v0 (0, 10)) (v1 : Int32) (v2 : Int32) (S : St), WT D S.2.2 → OD D (q12 v0 v1 v2 S) S) : ∀ (fu : Nat) (v0 : Nat) (kv0 : KA D v0 (0, 10)) (v1 : Int32) (S : St), WT D S.2.2 → OD D (b_X10_expression_96 q12 fu v0 v1 S) S := by
  intro fu
  induction fu with
  | zero => intro v0 kv0 v1 S w; exact OD_none
  | succ fu ih =>
    intro v0 kv0 v1 S w
    rw [b_X10_expression_96]
    refine OD_bd (o_X10_is v0 kv0 (7 : Int32) S w) (fun r2 S1 hS1 => ?_)
    have wS1 : WT D S1.2.2 := by rw [hS1]; exact w
    clear hS1
    refine OD_ite ?_ ?_
    · exact ob_X10_expression_145 oq12 v0 kv0 v1 S1 wS1
    · refine OD_ite ?_ ?_
      · exact ob_X10_expression_145 oq12 v0 kv0 v1 S1 wS1
      · refine OD_bd (o_X10_comesOut v0 kv0 (0 : Int32) S1 wS1) (fun _ S3 hS3 => ?_)
        have wS3 : WT D S3.2.2 := by rw [hS3]; exact wS1
        clear hS3
        refine OD_nmI (kv0).2 (fun S5 hS5 => ?_)
        have wS5 : WT D S5.2.2 := by rw [hS5]; exact wS3
        clear hS5
        refine OD_nmI (kv0).2 (fun S6 hS6 => ?_)
        have wS6 : WT D S6.2.2 := by rw [hS6]; exact wS5
        clear hS6
        refine OD_bd (o_X10_goesOn v0 kv0 S6 wS6) (fun _ S7 hS7 => ?_)
        have wS7 : WT D S7.2.2 := by rw [hS7]; exact wS6
        clear hS7
        exact ih v0 kv0 v1 S7 wS7
set_option maxRecDepth 20000 in
theorem ob_X10_expression_46 {D : Nat → Prop} {q12 : Nat → Int32 → Int32 → St → Option (Unit × St)} (oq12 : ∀ (v0 : Nat) (kv0 : KA D v0 (0, 10)) (v1 : Int32) (v2 : Int32) (S : St), WT D S.2.2 → OD D (q12 v0 v1 v2 S) S) {q23 : Nat → Int32 → St → Option (Unit × St)} (oq23 : ∀ (v0 : Nat) (kv0 : KA D v0 (0, 10)) (v1 : Int32) (S : St), WT D S.2.2 → OD D (q23 v0 v1 S) S) (v0 : Nat) (kv0 : KA D v0 (0, 10)) (v1 : Int32) (S : St) (w : WT D S.2.2) : OD D (b_X10_expression_46 q12 q23 v0 v1 S) S := by
  unfold b_X10_expression_46
  refine OD_nmI (kv0).2 (fun S1 hS1 => ?_)
  have wS1 : WT D S1.2.2 := by rw [hS1]; exact w
  clear hS1
  refine OD_bd (o_X10_goesOn v0 kv0 S1 wS1) (fun _ S2 hS2 => ?_)
  have wS2 : WT D S2.2.2 := by rw [hS2]; exact wS1
  clear hS2
  refine OD_ix (fun j4 => ?_)
  refine OD_nmI (wS2.1 _ _ kv0 46 _ rfl).2 (fun S5 hS5 => ?_)
  have wS5 : WT D S5.2.2 := by rw [hS5]; exact wS2
  clear hS5
  refine OD_nmI (kv0).2 (fun S6 hS6 => ?_)
  have wS6 : WT D S6.2.2 := by rw [hS6]; exact wS5
  clear hS6
  exact oq23 v0 kv0 v1 S6 wS6
set_option maxRecDepth 20000 in
theorem ob_X10_expression_23 {D : Nat → Prop} {q12 : Nat → Int32 → Int32 → St → Option (Unit × St)} (oq12 : ∀ (v0 : Nat) (kv0 : KA D v0 (0, 10)) (v1 : Int32) (v2 : Int32) (S : St), WT D S.2.2 → OD D (q12 v0 v1 v2 S) S) : ∀ (fu : Nat) (v0 : Nat) (kv0 : KA D v0 (0, 10)) (v1 : Int32) (S : St), WT D S.2.2 → OD D (b_X10_expression_23 q12 fu v0 v1 S) S := by
  intro fu
  induction fu with
  | zero => intro v0 kv0 v1 S w; exact OD_none
  | succ fu ih =>
    intro v0 kv0 v1 S w
    rw [b_X10_expression_23]
    refine OD_bd (o_X10_is v0 kv0 (6 : Int32) S w) (fun r2 S1 hS1 => ?_)
    have wS1 : WT D S1.2.2 := by rw [hS1]; exact w
    clear hS1
    refine OD_ite ?_ ?_
    · refine OD_bd (o_X10_unit v0 kv0 S1 wS1) (fun _ S3 hS3 => ?_)
      have wS3 : WT D S3.2.2 := by rw [hS3]; exact wS1
      clear hS3
      refine OD_ite ?_ ?_
      · exact ob_X10_expression_96 oq12 FU v0 kv0 v1 S3 wS3
      · exact OD_some
    · refine OD_ite ?_ ?_
      · refine OD_bd (o_X10_fail v0 kv0 (2 : Int32) S1 wS1) (fun _ S5 hS5 => ?_)
        have wS5 : WT D S5.2.2 := by rw [hS5]; exact wS1
        clear hS5
        exact ob_X10_expression_46 oq12 ih v0 kv0 v1 S5 wS5
      · exact ob_X10_expression_46 oq12 ih v0 kv0 v1 S1 wS1
set_option maxRecDepth 20000 in
theorem ob_X10_expression_12 {D : Nat → Prop} : ∀ (fu : Nat) (v0 : Nat) (kv0 : KA D v0 (0, 10)) (v1 : Int32) (v2 : Int32) (S : St), WT D S.2.2 → OD D (b_X10_expression_12 fu v0 v1 v2 S) S := by
  intro fu
  induction fu with
  | zero => intro v0 kv0 v1 v2 S w; exact OD_none
  | succ fu ih =>
    intro v0 kv0 v1 v2 S w
    rw [b_X10_expression_12]
    refine OD_ite ?_ ?_
    · exact OD_some
    · refine OD_ite ?_ ?_
      · exact ob_X10_expression_23 ih FU v0 kv0 v1 S w
      · exact OD_some
set_option maxRecDepth 20000 in
theorem o_X10_expression {D : Nat → Prop} (v0 : Nat) (kv0 : KA D v0 (0, 10)) (S : St) (w : WT D S.2.2) : OD D (f_X10_expression v0 S) S := by
  unfold f_X10_expression
  refine OD_nmI (kv0).2 (fun S1 hS1 => ?_)
  have wS1 : WT D S1.2.2 := by rw [hS1]; exact w
  clear hS1
  refine OD_nm (fun x2 => ?_)
  exact ob_X10_expression_12 FU v0 kv0 x2 (1 : Int32) S1 wS1
set_option maxRecDepth 20000 in
theorem ob_X10_term_24 {D : Nat → Prop} (v0 : Nat) (kv0 : KA D v0 (0, 10)) (S : St) (w : WT D S.2.2) : OD D (b_X10_term_24 v0 S) S := by
  unfold b_X10_term_24
  refine OD_ix (fun j1 => ?_)
  refine OD_nmI (w.1 _ _ kv0 42 _ rfl).2 (fun S2 hS2 => ?_)
  have wS2 : WT D S2.2.2 := by rw [hS2]; exact w
  clear hS2
  refine OD_nmI (kv0).2 (fun S3 hS3 => ?_)
  have wS3 : WT D S3.2.2 := by rw [hS3]; exact wS2
  clear hS3
  exact OD_some
set_option maxRecDepth 20000 in
theorem o_X10_term {D : Nat → Prop} (v0 : Nat) (kv0 : KA D v0 (0, 10)) (S : St) (w : WT D S.2.2) : OD D (f_X10_term v0 S) S := by
  unfold f_X10_term
  refine OD_ix (fun j1 => ?_)
  refine OD_nmI (w.1 _ _ kv0 41 _ rfl).2 (fun S2 hS2 => ?_)
  have wS2 : WT D S2.2.2 := by rw [hS2]; exact w
  clear hS2
  refine OD_ite ?_ ?_
  · refine OD_bd (o_X10_expression v0 kv0 S2 wS2) (fun _ S3 hS3 => ?_)
    have wS3 : WT D S3.2.2 := by rw [hS3]; exact wS2
    clear hS3
    exact ob_X10_term_24 v0 kv0 S3 wS3
  · exact ob_X10_term_24 v0 kv0 S2 wS2
set_option maxRecDepth 20000 in
theorem ob_X10_tellLaw_129 {D : Nat → Prop} (v0 : Nat) (kv0 : KA D v0 (0, 10)) (v1 : Int32) (v2 : Int32) (S : St) (w : WT D S.2.2) : OD D (b_X10_tellLaw_129 v0 v1 v2 S) S := by
  unfold b_X10_tellLaw_129
  refine OD_ix (fun j1 => ?_)
  refine OD_nmI (w.1 _ _ kv0 38 _ rfl).2 (fun S2 hS2 => ?_)
  have wS2 : WT D S2.2.2 := by rw [hS2]; exact w
  clear hS2
  refine OD_bd (o_X10_term v0 kv0 S2 wS2) (fun _ S3 hS3 => ?_)
  have wS3 : WT D S3.2.2 := by rw [hS3]; exact wS2
  clear hS3
  refine OD_bd (o_X10_must v0 kv0 (4 : Int32) S3 wS3) (fun _ S5 hS5 => ?_)
  have wS5 : WT D S5.2.2 := by rw [hS5]; exact wS3
  clear hS5
  refine OD_ite ?_ ?_
  · refine OD_ix (fun j7 => ?_)
    refine OD_nmI (wS5.1 _ _ kv0 35 _ rfl).2 (fun S8 hS8 => ?_)
    have wS8 : WT D S8.2.2 := by rw [hS8]; exact wS5
    clear hS8
    refine OD_ix (fun j9 => ?_)
    refine OD_nmI (wS8.1 _ _ kv0 36 _ rfl).2 (fun S10 hS10 => ?_)
    have wS10 : WT D S10.2.2 := by rw [hS10]; exact wS8
    clear hS10
    exact OD_some
  · exact OD_some
set_option maxRecDepth 20000 in
theorem ob_X10_tellLaw_110 {D : Nat → Prop} {q12 : Nat → Int32 → Int32 → Int32 → St → Option (Unit × St)} (oq12 : ∀ (v0 : Nat) (kv0 : KA D v0 (0, 10)) (v1 : Int32) (v2 : Int32) (v3 : Int32) (S : St), WT D S.2.2 → OD D (q12 v0 v1 v2 v3 S) S) (v0 : Nat) (kv0 : KA D v0 (0, 10)) (v1 : Int32) (v2 : Int32) (v3 : Int32) (S : St) (w : WT D S.2.2) : OD D (b_X10_tellLaw_110 q12 v0 v1 v2 v3 S) S := by
  unfold b_X10_tellLaw_110
  refine OD_bd (o_X10_must v0 kv0 (30 : Int32) S w) (fun _ S1 hS1 => ?_)
  have wS1 : WT D S1.2.2 := by rw [hS1]; exact w
  clear hS1
  refine OD_bd (o_X10_term v0 kv0 S1 wS1) (fun _ S3 hS3 => ?_)
  have wS3 : WT D S3.2.2 := by rw [hS3]; exact wS1
  clear hS3
  refine OD_bd (o_X10_must v0 kv0 (31 : Int32) S3 wS3) (fun _ S5 hS5 => ?_)
  have wS5 : WT D S5.2.2 := by rw [hS5]; exact wS3
  clear hS5
  exact oq12 v0 kv0 v1 v2 v3 S5 wS5
set_option maxRecDepth 20000 in
theorem ob_X10_tellLaw_38 {D : Nat → Prop} {q12 : Nat → Int32 → Int32 → Int32 → St → Option (Unit × St)} (oq12 : ∀ (v0 : Nat) (kv0 : KA D v0 (0, 10)) (v1 : Int32) (v2 : Int32) (v3 : Int32) (S : St), WT D S.2.2 → OD D (q12 v0 v1 v2 v3 S) S) (v0 : Nat) (kv0 : KA D v0 (0, 10)) (v1 : Int32) (v2 : Int32) (v3 : Int32) (S : St) (w : WT D S.2.2) : OD D (b_X10_tellLaw_38 q12 v0 v1 v2 v3 S) S := by
  unfold b_X10_tellLaw_38
  refine OD_ite ?_ ?_
  · refine OD_nm (fun x1 => ?_)
    refine OD_bd (o_X10_goesOn v0 kv0 S w) (fun _ S2 hS2 => ?_)
    have wS2 : WT D S2.2.2 := by rw [hS2]; exact w
    clear hS2
    refine OD_ix (fun j4 => ?_)
    refine OD_nmI (wS2.1 _ _ kv0 38 _ rfl).2 (fun S5 hS5 => ?_)
    have wS5 : WT D S5.2.2 := by rw [hS5]; exact wS2
    clear hS5
    refine OD_ix (fun j6 => ?_)
    refine OD_nmI (wS5.1 _ _ kv0 39 _ rfl).2 (fun S7 hS7 => ?_)
    have wS7 : WT D S7.2.2 := by rw [hS7]; exact wS5
    clear hS7
    refine OD_bd (o_X10_expression v0 kv0 S7 wS7) (fun _ S8 hS8 => ?_)
    have wS8 : WT D S8.2.2 := by rw [hS8]; exact wS7
    clear hS8
    refine OD_bd (o_X10_must v0 kv0 (13 : Int32) S8 wS8) (fun _ S10 hS10 => ?_)
    have wS10 : WT D S10.2.2 := by rw [hS10]; exact wS8
    clear hS10
    refine OD_ix (fun j12 => ?_)
    refine OD_nmI (wS10.1 _ _ kv0 40 _ rfl).2 (fun S13 hS13 => ?_)
    have wS13 : WT D S13.2.2 := by rw [hS13]; exact wS10
    clear hS13
    refine OD_ite ?_ ?_
    · refine OD_bd (o_X10_expression v0 kv0 S13 wS13) (fun _ S14 hS14 => ?_)
      have wS14 : WT D S14.2.2 := by rw [hS14]; exact wS13
      clear hS14
      exact ob_X10_tellLaw_110 oq12 v0 kv0 v1 v2 x1 S14 wS14
    · exact ob_X10_tellLaw_110 oq12 v0 kv0 v1 v2 x1 S13 wS13
  · exact OD_some
set_option maxRecDepth 20000 in
theorem ob_X10_tellLaw_12 {D : Nat → Prop} : ∀ (fu : Nat) (v0 : Nat) (kv0 : KA D v0 (0, 10)) (v1 : Int32) (v2 : Int32) (v3 : Int32) (S : St), WT D S.2.2 → OD D (b_X10_tellLaw_12 fu v0 v1 v2 v3 S) S := by
  intro fu
  induction fu with
  | zero => intro v0 kv0 v1 v2 v3 S w; exact OD_none
  | succ fu ih =>
    intro v0 kv0 v1 v2 v3 S w
    rw [b_X10_tellLaw_12]
    refine OD_ite ?_ ?_
    · refine OD_bd (o_X10_is v0 kv0 (29 : Int32) S w) (fun r2 S1 hS1 => ?_)
      have wS1 : WT D S1.2.2 := by rw [hS1]; exact w
      clear hS1
      refine OD_ite ?_ ?_
      · exact ob_X10_tellLaw_129 v0 kv0 v1 v2 S1 wS1
      · refine OD_ite ?_ ?_
        · refine OD_bd (o_X10_fail v0 kv0 (2 : Int32) S1 wS1) (fun _ S3 hS3 => ?_)
          have wS3 : WT D S3.2.2 := by rw [hS3]; exact wS1
          clear hS3
          exact ob_X10_tellLaw_38 ih v0 kv0 v1 v2 v3 S3 wS3
        · exact ob_X10_tellLaw_38 ih v0 kv0 v1 v2 v3 S1 wS1
    · exact ob_X10_tellLaw_129 v0 kv0 v1 v2 S w
set_option maxRecDepth 20000 in
theorem o_X10_tellLaw {D : Nat → Prop} (v0 : Nat) (kv0 : KA D v0 (0, 10)) (v1 : Int32) (S : St) (w : WT D S.2.2) : OD D (f_X10_tellLaw v0 v1 S) S := by
  unfold f_X10_tellLaw
  refine OD_bd (o_X10_must v0 kv0 (5 : Int32) S w) (fun _ S1 hS1 => ?_)
  have wS1 : WT D S1.2.2 := by rw [hS1]; exact w
  clear hS1
  refine OD_nm (fun x3 => ?_)
  exact ob_X10_tellLaw_12 FU v0 kv0 v1 x3 (0 : Int32) S1 wS1
set_option maxRecDepth 20000 in
theorem ob_X10_tellOne_239 {D : Nat → Prop} (v0 : Nat) (kv0 : KA D v0 (0, 10)) (v1 : Int32) (S : St) (w : WT D S.2.2) : OD D (b_X10_tellOne_239 v0 v1 S) S := by
  unfold b_X10_tellOne_239
  refine OD_ite ?_ ?_
  · refine OD_bd (o_X10_goesOn v0 kv0 S w) (fun _ S1 hS1 => ?_)
    have wS1 : WT D S1.2.2 := by rw [hS1]; exact w
    clear hS1
    refine OD_bd (o_X10_tellLaw v0 kv0 v1 S1 wS1) (fun _ S3 hS3 => ?_)
    have wS3 : WT D S3.2.2 := by rw [hS3]; exact wS1
    clear hS3
    exact OD_some
  · exact OD_some
set_option maxRecDepth 20000 in
theorem ob_X10_tellOne_234 {D : Nat → Prop} (v0 : Nat) (kv0 : KA D v0 (0, 10)) (v1 : Int32) (S : St) (w : WT D S.2.2) : OD D (b_X10_tellOne_234 v0 v1 S) S := by
  unfold b_X10_tellOne_234
  refine OD_bd (o_X10_fail v0 kv0 (1 : Int32) S w) (fun _ S1 hS1 => ?_)
  have wS1 : WT D S1.2.2 := by rw [hS1]; exact w
  clear hS1
  exact ob_X10_tellOne_239 v0 kv0 v1 S1 wS1
set_option maxRecDepth 20000 in
theorem o_X10_tellOne {D : Nat → Prop} (v0 : Nat) (kv0 : KA D v0 (0, 10)) (S : St) (w : WT D S.2.2) : OD D (f_X10_tellOne v0 S) S := by
  unfold f_X10_tellOne
  refine OD_ix (fun j1 => ?_)
  refine OD_nm (fun x2 => ?_)
  refine OD_ite ?_ ?_
  · refine OD_ix (fun j3 => ?_)
    refine OD_bd (o_X10_roomFor v0 kv0 (S.1 (S.2.2 v0 23) j3) (4 : Int32) S w) (fun _ S4 hS4 => ?_)
    have wS4 : WT D S4.2.2 := by rw [hS4]; exact w
    clear hS4
    refine OD_ite ?_ ?_
    · refine OD_bd (o_X10_tellMermaid v0 kv0 S4 wS4) (fun _ S6 hS6 => ?_)
      have wS6 : WT D S6.2.2 := by rw [hS6]; exact wS4
      clear hS6
      exact OD_some
    · exact OD_some
  refine OD_ite ?_ ?_
  · refine OD_ix (fun j8 => ?_)
    refine OD_bd (o_X10_roomFor v0 kv0 (S.1 (S.2.2 v0 25) j8) (6 : Int32) S w) (fun _ S9 hS9 => ?_)
    have wS9 : WT D S9.2.2 := by rw [hS9]; exact w
    clear hS9
    refine OD_ite ?_ ?_
    · refine OD_bd (o_X10_tellPerson v0 kv0 S9 wS9) (fun _ S11 hS11 => ?_)
      have wS11 : WT D S11.2.2 := by rw [hS11]; exact wS9
      clear hS11
      exact OD_some
    · exact OD_some
  refine OD_ite ?_ ?_
  · refine OD_ix (fun j13 => ?_)
    refine OD_bd (o_X10_roomFor v0 kv0 (S.1 (S.2.2 v0 29) j13) (8 : Int32) S w) (fun _ S14 hS14 => ?_)
    have wS14 : WT D S14.2.2 := by rw [hS14]; exact w
    clear hS14
    refine OD_ite ?_ ?_
    · refine OD_bd (o_X10_tellStrand v0 kv0 S14 wS14) (fun _ S16 hS16 => ?_)
      have wS16 : WT D S16.2.2 := by rw [hS16]; exact wS14
      clear hS16
      exact OD_some
    · exact OD_some
  refine OD_ite ?_ ?_
  · refine OD_bd (o_X10_goesOn v0 kv0 S w) (fun _ S18 hS18 => ?_)
    have wS18 : WT D S18.2.2 := by rw [hS18]; exact w
    clear hS18
    refine OD_bd (o_X10_bounded v0 kv0 (0 : Int32) (9 : Int32) S18 wS18) (fun r21 S20 hS20 => ?_)
    have wS20 : WT D S20.2.2 := by rw [hS20]; exact wS18
    clear hS20
    refine OD_ix (fun j22 => ?_)
    refine OD_nmI (wS18.1 _ _ kv0 33 _ rfl).2 (fun S23 hS23 => ?_)
    have wS23 : WT D S23.2.2 := by rw [hS23]; exact wS20
    clear hS23
    refine OD_bd (o_X10_must v0 kv0 (4 : Int32) S23 wS23) (fun _ S24 hS24 => ?_)
    have wS24 : WT D S24.2.2 := by rw [hS24]; exact wS23
    clear hS24
    exact OD_some
  refine OD_ite ?_ ?_
  · refine OD_bd (o_X10_goesOn v0 kv0 S w) (fun _ S26 hS26 => ?_)
    have wS26 : WT D S26.2.2 := by rw [hS26]; exact w
    clear hS26
    refine OD_bd (o_X10_bounded v0 kv0 (0 : Int32) (9999 : Int32) S26 wS26) (fun r29 S28 hS28 => ?_)
    have wS28 : WT D S28.2.2 := by rw [hS28]; exact wS26
    clear hS28
    refine OD_ix (fun j30 => ?_)
    refine OD_nmI (wS26.1 _ _ kv0 34 _ rfl).2 (fun S31 hS31 => ?_)
    have wS31 : WT D S31.2.2 := by rw [hS31]; exact wS28
    clear hS31
    refine OD_bd (o_X10_must v0 kv0 (4 : Int32) S31 wS31) (fun _ S32 hS32 => ?_)
    have wS32 : WT D S32.2.2 := by rw [hS32]; exact wS31
    clear hS32
    exact OD_some
  refine OD_ix (fun j34 => ?_)
  refine OD_nm (fun x35 => ?_)
  refine OD_ite ?_ ?_
  · exact ob_X10_tellOne_234 v0 kv0 x35 S w
  · refine OD_ix (fun j36 => ?_)
    refine OD_ite ?_ ?_
    · exact ob_X10_tellOne_239 v0 kv0 x35 S w
    · exact ob_X10_tellOne_234 v0 kv0 x35 S w
set_option maxRecDepth 20000 in
theorem ob_X10_begins_149 {D : Nat → Prop} : ∀ (fu : Nat) (v0 : Nat) (kv0 : KA D v0 (0, 10)) (v1 : Int32) (S : St), WT D S.2.2 → OD D (b_X10_begins_149 fu v0 v1 S) S := by
  intro fu
  induction fu with
  | zero => intro v0 kv0 v1 S w; exact OD_none
  | succ fu ih =>
    intro v0 kv0 v1 S w
    rw [b_X10_begins_149]
    refine OD_ix (fun j1 => ?_)
    refine OD_ite ?_ ?_
    · refine OD_ix (fun j2 => ?_)
      refine OD_nmI (kv0).2 (fun S3 hS3 => ?_)
      have wS3 : WT D S3.2.2 := by rw [hS3]; exact w
      clear hS3
      refine OD_nmI (kv0).2 (fun S4 hS4 => ?_)
      have wS4 : WT D S4.2.2 := by rw [hS4]; exact wS3
      clear hS4
      exact OD_some
    · refine OD_ix (fun j5 => ?_)
      refine OD_ix (fun j6 => ?_)
      refine OD_nmI (w.1 _ _ kv0 52 _ rfl).2 (fun S7 hS7 => ?_)
      have wS7 : WT D S7.2.2 := by rw [hS7]; exact w
      clear hS7
      refine OD_nm (fun x8 => ?_)
      exact ih v0 kv0 x8 S7 wS7
set_option maxRecDepth 20000 in
theorem ob_X10_begins_82 {D : Nat → Prop} : ∀ (fu : Nat) (v0 : Nat) (kv0 : KA D v0 (0, 10)) (v1 : Int32) (S : St), WT D S.2.2 → OD D (b_X10_begins_82 fu v0 v1 S) S := by
  intro fu
  induction fu with
  | zero => intro v0 kv0 v1 S w; exact OD_none
  | succ fu ih =>
    intro v0 kv0 v1 S w
    rw [b_X10_begins_82]
    refine OD_ix (fun j1 => ?_)
    refine OD_ite ?_ ?_
    · exact ob_X10_begins_149 FU v0 kv0 (0 : Int32) S w
    · refine OD_ix (fun j2 => ?_)
      refine OD_ix (fun j3 => ?_)
      refine OD_nmI (w.1 _ _ kv0 52 _ rfl).2 (fun S4 hS4 => ?_)
      have wS4 : WT D S4.2.2 := by rw [hS4]; exact w
      clear hS4
      refine OD_ix (fun j5 => ?_)
      refine OD_ix (fun j6 => ?_)
      refine OD_nmI (wS4.1 _ _ kv0 52 _ rfl).2 (fun S7 hS7 => ?_)
      have wS7 : WT D S7.2.2 := by rw [hS7]; exact wS4
      clear hS7
      refine OD_nm (fun x8 => ?_)
      exact ih v0 kv0 x8 S7 wS7
set_option maxRecDepth 20000 in
theorem ob_X10_begins_38 {D : Nat → Prop} {q23 : Nat → Int32 → St → Option (Unit × St)} (oq23 : ∀ (v0 : Nat) (kv0 : KA D v0 (0, 10)) (v1 : Int32) (S : St), WT D S.2.2 → OD D (q23 v0 v1 S) S) : ∀ (fu : Nat) (v0 : Nat) (kv0 : KA D v0 (0, 10)) (v1 : Int32) (v2 : Int32) (S : St), WT D S.2.2 → OD D (b_X10_begins_38 q23 fu v0 v1 v2 S) S := by
  intro fu
  induction fu with
  | zero => intro v0 kv0 v1 v2 S w; exact OD_none
  | succ fu ih =>
    intro v0 kv0 v1 v2 S w
    rw [b_X10_begins_38]
    refine OD_ite ?_ ?_
    · refine OD_nm (fun x1 => ?_)
      exact oq23 v0 kv0 x1 S w
    · refine OD_ix (fun j2 => ?_)
      refine OD_ix (fun j3 => ?_)
      refine OD_nmI (w.1 _ _ kv0 52 _ rfl).2 (fun S4 hS4 => ?_)
      have wS4 : WT D S4.2.2 := by rw [hS4]; exact w
      clear hS4
      refine OD_nm (fun x5 => ?_)
      exact ih v0 kv0 v1 x5 S4 wS4
set_option maxRecDepth 20000 in
theorem ob_X10_begins_23 {D : Nat → Prop} : ∀ (fu : Nat) (v0 : Nat) (kv0 : KA D v0 (0, 10)) (v1 : Int32) (S : St), WT D S.2.2 → OD D (b_X10_begins_23 fu v0 v1 S) S := by
  intro fu
  induction fu with
  | zero => intro v0 kv0 v1 S w; exact OD_none
  | succ fu ih =>
    intro v0 kv0 v1 S w
    rw [b_X10_begins_23]
    refine OD_ix (fun j1 => ?_)
    refine OD_ite ?_ ?_
    · exact ob_X10_begins_82 FU v0 kv0 (0 : Int32) S w
    · exact ob_X10_begins_38 ih FU v0 kv0 v1 (0 : Int32) S w
set_option maxRecDepth 20000 in
theorem ob_X10_begins_2 {D : Nat → Prop} : ∀ (fu : Nat) (v0 : Nat) (kv0 : KA D v0 (0, 10)) (v1 : Int32) (S : St), WT D S.2.2 → OD D (b_X10_begins_2 fu v0 v1 S) S := by
  intro fu
  induction fu with
  | zero => intro v0 kv0 v1 S w; exact OD_none
  | succ fu ih =>
    intro v0 kv0 v1 S w
    rw [b_X10_begins_2]
    refine OD_ite ?_ ?_
    · exact ob_X10_begins_23 FU v0 kv0 (0 : Int32) S w
    · refine OD_ix (fun j1 => ?_)
      refine OD_nmI (w.1 _ _ kv0 52 _ rfl).2 (fun S2 hS2 => ?_)
      have wS2 : WT D S2.2.2 := by rw [hS2]; exact w
      clear hS2
      refine OD_nm (fun x3 => ?_)
      exact ih v0 kv0 x3 S2 wS2
set_option maxRecDepth 20000 in
theorem o_X10_begins {D : Nat → Prop} (v0 : Nat) (kv0 : KA D v0 (0, 10)) (S : St) (w : WT D S.2.2) : OD D (f_X10_begins v0 S) S := by
  unfold f_X10_begins
  exact ob_X10_begins_2 FU v0 kv0 (0 : Int32) S w
set_option maxRecDepth 20000 in
theorem ob_X10_keepsRow_2 {D : Nat → Prop} : ∀ (fu : Nat) (v0 : Nat) (kv0 : KA D v0 (0, 10)) (v1 : Int32) (S : St), WT D S.2.2 → OD D (b_X10_keepsRow_2 fu v0 v1 S) S := by
  intro fu
  induction fu with
  | zero => intro v0 kv0 v1 S w; exact OD_none
  | succ fu ih =>
    intro v0 kv0 v1 S w
    rw [b_X10_keepsRow_2]
    refine OD_ite ?_ ?_
    · exact OD_some
    · refine OD_ix (fun j1 => ?_)
      refine OD_ix (fun j2 => ?_)
      refine OD_nmI (w.1 _ _ kv0 51 _ rfl).2 (fun S3 hS3 => ?_)
      have wS3 : WT D S3.2.2 := by rw [hS3]; exact w
      clear hS3
      refine OD_nm (fun x4 => ?_)
      exact ih v0 kv0 x4 S3 wS3
set_option maxRecDepth 20000 in
theorem o_X10_keepsRow {D : Nat → Prop} (v0 : Nat) (kv0 : KA D v0 (0, 10)) (S : St) (w : WT D S.2.2) : OD D (f_X10_keepsRow v0 S) S := by
  unfold f_X10_keepsRow
  exact ob_X10_keepsRow_2 FU v0 kv0 (0 : Int32) S w
set_option maxRecDepth 20000 in
theorem ob_X10_read_219 {D : Nat → Prop} : ∀ (fu : Nat) (v0 : Nat) (kv0 : KA D v0 (0, 10)) (v1 : Int32) (S : St), WT D S.2.2 → OD D (b_X10_read_219 fu v0 v1 S) S := by
  intro fu
  induction fu with
  | zero => intro v0 kv0 v1 S w; exact OD_none
  | succ fu ih =>
    intro v0 kv0 v1 S w
    rw [b_X10_read_219]
    refine OD_ite ?_ ?_
    · exact OD_some
    · refine OD_ix (fun j1 => ?_)
      refine OD_nmI (w.1 _ _ kv0 69 _ rfl).2 (fun S2 hS2 => ?_)
      have wS2 : WT D S2.2.2 := by rw [hS2]; exact w
      clear hS2
      refine OD_nm (fun x3 => ?_)
      exact ih v0 kv0 x3 S2 wS2
set_option maxRecDepth 20000 in
theorem ob_X10_read_164 {D : Nat → Prop} (v0 : Nat) (kv0 : KA D v0 (0, 10)) (s0 : Nat) (ks0 : KA D s0 (0, 10)) (s1 : Int32) (S : St) (w : WT D S.2.2) : OD D (b_X10_read_164 v0 s0 s1 S) S := by
  unfold b_X10_read_164
  refine OD_nmI (ks0).2 (fun S1 hS1 => ?_)
  have wS1 : WT D S1.2.2 := by rw [hS1]; exact w
  clear hS1
  refine OD_ite ?_ ?_
  · refine OD_ite ?_ ?_
    · refine OD_nmI (kv0).2 (fun S2 hS2 => ?_)
      have wS2 : WT D S2.2.2 := by rw [hS2]; exact wS1
      clear hS2
      refine OD_bd (o_X10_begins v0 kv0 S2 wS2) (fun _ S3 hS3 => ?_)
      have wS3 : WT D S3.2.2 := by rw [hS3]; exact wS2
      clear hS3
      refine OD_bd (o_X10_keepsRow v0 kv0 S3 wS3) (fun _ S5 hS5 => ?_)
      have wS5 : WT D S5.2.2 := by rw [hS5]; exact wS3
      clear hS5
      refine OD_nmI (kv0).2 (fun S7 hS7 => ?_)
      have wS7 : WT D S7.2.2 := by rw [hS7]; exact wS5
      clear hS7
      refine OD_nmI (kv0).2 (fun S8 hS8 => ?_)
      have wS8 : WT D S8.2.2 := by rw [hS8]; exact wS7
      clear hS8
      exact ob_X10_read_219 FU v0 kv0 (0 : Int32) S8 wS8
    · exact OD_some
  · exact OD_some
set_option maxRecDepth 20000 in
theorem ob_X10_read_134 {D : Nat → Prop} (v0 : Nat) (kv0 : KA D v0 (0, 10)) (S : St) (w : WT D S.2.2) : OD D (b_X10_read_134 v0 S) S := by
  unfold b_X10_read_134
  refine OD_ite ?_ ?_
  · refine OD_ite ?_ ?_
    · exact ob_X10_read_164 v0 kv0 v0 kv0 (-1 : Int32) S w
    · exact ob_X10_read_164 v0 kv0 v0 kv0 (S.1 v0 16) S w
  · exact ob_X10_read_164 v0 kv0 v0 kv0 (S.1 v0 14) S w
set_option maxRecDepth 20000 in
theorem ob_X10_read_112 {D : Nat → Prop} : ∀ (fu : Nat) (v0 : Nat) (kv0 : KA D v0 (0, 10)) (S : St), WT D S.2.2 → OD D (b_X10_read_112 fu v0 S) S := by
  intro fu
  induction fu with
  | zero => intro v0 kv0 S w; exact OD_none
  | succ fu ih =>
    intro v0 kv0 S w
    rw [b_X10_read_112]
    refine OD_ite ?_ ?_
    · refine OD_bd (o_X10_is v0 kv0 (0 : Int32) S w) (fun r2 S1 hS1 => ?_)
      have wS1 : WT D S1.2.2 := by rw [hS1]; exact w
      clear hS1
      refine OD_ite ?_ ?_
      · refine OD_bd (o_X10_tellOne v0 kv0 S1 wS1) (fun _ S3 hS3 => ?_)
        have wS3 : WT D S3.2.2 := by rw [hS3]; exact wS1
        clear hS3
        exact ih v0 kv0 S3 wS3
      · exact ob_X10_read_134 v0 kv0 S1 wS1
    · exact ob_X10_read_134 v0 kv0 S w
set_option maxRecDepth 20000 in
theorem ob_X10_read_10 {D : Nat → Prop} : ∀ (fu : Nat) (v0 : Nat) (kv0 : KA D v0 (0, 10)) (v1 : Int32) (S : St), WT D S.2.2 → OD D (b_X10_read_10 fu v0 v1 S) S := by
  intro fu
  induction fu with
  | zero => intro v0 kv0 v1 S w; exact OD_none
  | succ fu ih =>
    intro v0 kv0 v1 S w
    rw [b_X10_read_10]
    refine OD_ite ?_ ?_
    · refine OD_nmI (kv0).2 (fun S1 hS1 => ?_)
      have wS1 : WT D S1.2.2 := by rw [hS1]; exact w
      clear hS1
      refine OD_bd (o_X10_cutsUp v0 kv0 S1 wS1) (fun _ S2 hS2 => ?_)
      have wS2 : WT D S2.2.2 := by rw [hS2]; exact wS1
      clear hS2
      refine OD_nmI (kv0).2 (fun S4 hS4 => ?_)
      have wS4 : WT D S4.2.2 := by rw [hS4]; exact wS2
      clear hS4
      refine OD_nmI (kv0).2 (fun S5 hS5 => ?_)
      have wS5 : WT D S5.2.2 := by rw [hS5]; exact wS4
      clear hS5
      refine OD_nmI (kv0).2 (fun S6 hS6 => ?_)
      have wS6 : WT D S6.2.2 := by rw [hS6]; exact wS5
      clear hS6
      refine OD_nmI (kv0).2 (fun S7 hS7 => ?_)
      have wS7 : WT D S7.2.2 := by rw [hS7]; exact wS6
      clear hS7
      refine OD_nmI (kv0).2 (fun S8 hS8 => ?_)
      have wS8 : WT D S8.2.2 := by rw [hS8]; exact wS7
      clear hS8
      refine OD_nmI (kv0).2 (fun S9 hS9 => ?_)
      have wS9 : WT D S9.2.2 := by rw [hS9]; exact wS8
      clear hS9
      refine OD_bd (o_X10_plain v0 kv0 (S9.1 v0 19) S9 wS9) (fun _ S10 hS10 => ?_)
      have wS10 : WT D S10.2.2 := by rw [hS10]; exact wS9
      clear hS10
      refine OD_nmI (kv0).2 (fun S12 hS12 => ?_)
      have wS12 : WT D S12.2.2 := by rw [hS12]; exact wS10
      clear hS12
      refine OD_nmI (kv0).2 (fun S13 hS13 => ?_)
      have wS13 : WT D S13.2.2 := by rw [hS13]; exact wS12
      clear hS13
      exact ob_X10_read_112 FU v0 kv0 S13 wS13
    · refine OD_ix (fun j14 => ?_)
      refine OD_ix (fun j15 => ?_)
      refine OD_nmI (w.1 _ _ kv0 3 _ rfl).2 (fun S16 hS16 => ?_)
      have wS16 : WT D S16.2.2 := by rw [hS16]; exact w
      clear hS16
      refine OD_nm (fun x17 => ?_)
      exact ih v0 kv0 x17 S16 wS16
set_option maxRecDepth 20000 in
theorem o_X10_read {D : Nat → Prop} (v0 : Nat) (kv0 : KA D v0 (0, 10)) (S : St) (w : WT D S.2.2) : OD D (f_X10_read v0 S) S := by
  unfold f_X10_read
  refine OD_nmI (kv0).2 (fun S1 hS1 => ?_)
  have wS1 : WT D S1.2.2 := by rw [hS1]; exact w
  clear hS1
  exact ob_X10_read_10 FU v0 kv0 (0 : Int32) S1 wS1
set_option maxRecDepth 20000 in
theorem o_X10_place {D : Nat → Prop} (v0 : Nat) (kv0 : KA D v0 (0, 10)) (S : St) (w : WT D S.2.2) : OD D (f_X10_place v0 S) S := by
  unfold f_X10_place
  exact OD_some
set_option maxRecDepth 20000 in
theorem ob_X10_termOf_159 {D : Nat → Prop} {q5 : Nat → Int32 → Int32 → Int32 → St → Option (Int32 × St)} (oq5 : ∀ (v0 : Nat) (kv0 : KA D v0 (0, 10)) (v2 : Int32) (v3 : Int32) (v4 : Int32) (S : St), WT D S.2.2 → OD D (q5 v0 v2 v3 v4 S) S) (v0 : Nat) (kv0 : KA D v0 (0, 10)) (v2 : Int32) (v3 : Int32) (v4 : Int32) (S : St) (w : WT D S.2.2) : OD D (b_X10_termOf_159 q5 v0 v2 v3 v4 S) S := by
  unfold b_X10_termOf_159
  refine OD_nm (fun x1 => ?_)
  exact oq5 v0 kv0 v2 v3 x1 S w
set_option maxRecDepth 20000 in
theorem ob_X10_termOf_158 {D : Nat → Prop} {q5 : Nat → Int32 → Int32 → Int32 → St → Option (Int32 × St)} (oq5 : ∀ (v0 : Nat) (kv0 : KA D v0 (0, 10)) (v2 : Int32) (v3 : Int32) (v4 : Int32) (S : St), WT D S.2.2 → OD D (q5 v0 v2 v3 v4 S) S) (v0 : Nat) (kv0 : KA D v0 (0, 10)) (v2 : Int32) (v3 : Int32) (v4 : Int32) (s0 : Nat) (ks0 : KA D s0 (1, 400)) (s1 : Int32) (s2 : Int32) (S : St) (w : WT D S.2.2) : OD D (b_X10_termOf_158 q5 v0 v2 v3 v4 s0 s1 s2 S) S := by
  unfold b_X10_termOf_158
  refine OD_ix (fun j1 => ?_)
  refine OD_nmI (ks0).2 (fun S2 hS2 => ?_)
  have wS2 : WT D S2.2.2 := by rw [hS2]; exact w
  clear hS2
  exact ob_X10_termOf_159 oq5 v0 kv0 v2 v3 v4 S2 wS2
set_option maxRecDepth 20000 in
theorem ob_X10_termOf_104 {D : Nat → Prop} {q5 : Nat → Int32 → Int32 → Int32 → St → Option (Int32 × St)} (oq5 : ∀ (v0 : Nat) (kv0 : KA D v0 (0, 10)) (v2 : Int32) (v3 : Int32) (v4 : Int32) (S : St), WT D S.2.2 → OD D (q5 v0 v2 v3 v4 S) S) (v0 : Nat) (kv0 : KA D v0 (0, 10)) (v2 : Int32) (v3 : Int32) (v4 : Int32) (v5 : Int32) (v6 : Int32) (v7 : Int32) (S : St) (w : WT D S.2.2) : OD D (b_X10_termOf_104 q5 v0 v2 v3 v4 v5 v6 v7 S) S := by
  unfold b_X10_termOf_104
  refine OD_ite ?_ ?_
  · exact ob_X10_termOf_158 oq5 v0 kv0 v2 v3 v4 (S.2.2 v0 49) (w.1 _ _ kv0 49 _ rfl) (v3 - (1 : Int32)) (v6 + v7) S w
  · refine OD_ite ?_ ?_
    · exact ob_X10_termOf_158 oq5 v0 kv0 v2 v3 v4 (S.2.2 v0 49) (w.1 _ _ kv0 49 _ rfl) (v3 - (1 : Int32)) (v6 - v7) S w
    · refine OD_ite ?_ ?_
      · exact ob_X10_termOf_158 oq5 v0 kv0 v2 v3 v4 (S.2.2 v0 49) (w.1 _ _ kv0 49 _ rfl) (v3 - (1 : Int32)) (v6 * v7) S w
      · refine OD_ite OD_none ?_
        exact ob_X10_termOf_158 oq5 v0 kv0 v2 v3 v4 (S.2.2 v0 49) (w.1 _ _ kv0 49 _ rfl) (v3 - (1 : Int32)) (v6 / v7) S w
set_option maxRecDepth 20000 in
theorem ob_X10_termOf_58 {D : Nat → Prop} {q5 : Nat → Int32 → Int32 → Int32 → St → Option (Int32 × St)} (oq5 : ∀ (v0 : Nat) (kv0 : KA D v0 (0, 10)) (v2 : Int32) (v3 : Int32) (v4 : Int32) (S : St), WT D S.2.2 → OD D (q5 v0 v2 v3 v4 S) S) (v0 : Nat) (kv0 : KA D v0 (0, 10)) (v2 : Int32) (v3 : Int32) (v4 : Int32) (s0 : Nat) (ks0 : KA D s0 (1, 400)) (s1 : Int32) (s2 : Int32) (S : St) (w : WT D S.2.2) : OD D (b_X10_termOf_58 q5 v0 v2 v3 v4 s0 s1 s2 S) S := by
  unfold b_X10_termOf_58
  refine OD_ix (fun j1 => ?_)
  refine OD_nmI (ks0).2 (fun S2 hS2 => ?_)
  have wS2 : WT D S2.2.2 := by rw [hS2]; exact w
  clear hS2
  refine OD_nm (fun x3 => ?_)
  exact ob_X10_termOf_159 oq5 v0 kv0 v2 x3 v4 S2 wS2
set_option maxRecDepth 20000 in
theorem ob_X10_termOf_5 {D : Nat → Prop} : ∀ (fu : Nat) (v0 : Nat) (kv0 : KA D v0 (0, 10)) (v2 : Int32) (v3 : Int32) (v4 : Int32) (S : St), WT D S.2.2 → OD D (b_X10_termOf_5 fu v0 v2 v3 v4 S) S := by
  intro fu
  induction fu with
  | zero => intro v0 kv0 v2 v3 v4 S w; exact OD_none
  | succ fu ih =>
    intro v0 kv0 v2 v3 v4 S w
    rw [b_X10_termOf_5]
    refine OD_ite ?_ ?_
    · refine OD_ix (fun j1 => ?_)
      exact OD_some
    · refine OD_ix (fun j2 => ?_)
      refine OD_nm (fun x3 => ?_)
      refine OD_ite ?_ ?_
      · refine OD_nm (fun x4 => ?_)
        refine OD_ix (fun j5 => ?_)
        refine OD_nm (fun x6 => ?_)
        refine OD_ix (fun j7 => ?_)
        refine OD_nm (fun x8 => ?_)
        refine OD_ite ?_ ?_
        · refine OD_ite ?_ ?_
          · refine OD_nmI (kv0).2 (fun S9 hS9 => ?_)
            have wS9 : WT D S9.2.2 := by rw [hS9]; exact w
            clear hS9
            exact OD_some
          · exact ob_X10_termOf_104 ih v0 kv0 v2 x4 v4 x3 x6 x8 S w
        · exact ob_X10_termOf_104 ih v0 kv0 v2 x4 v4 x3 x6 x8 S w
      · refine OD_ite ?_ ?_
        · refine OD_ix (fun j10 => ?_)
          exact ob_X10_termOf_58 ih v0 kv0 v2 v3 v4 (S.2.2 v0 49) (w.1 _ _ kv0 49 _ rfl) v3 (S.1 (S.2.2 v0 45) j10) S w
        · refine OD_ix (fun j11 => ?_)
          refine OD_ix (fun j12 => ?_)
          exact ob_X10_termOf_58 ih v0 kv0 v2 v3 v4 (S.2.2 v0 49) (w.1 _ _ kv0 49 _ rfl) v3 (S.1 (S.2.2 v0 48) j12) S w
set_option maxRecDepth 20000 in
theorem o_X10_termOf {D : Nat → Prop} (v0 : Nat) (kv0 : KA D v0 (0, 10)) (v1 : Int32) (v2 : Int32) (S : St) (w : WT D S.2.2) : OD D (f_X10_termOf v0 v1 v2 S) S := by
  unfold f_X10_termOf
  exact ob_X10_termOf_5 FU v0 kv0 v2 (0 : Int32) v1 S w
set_option maxRecDepth 20000 in
theorem o_X10_in {D : Nat → Prop} (v0 : Int32) (v1 : Int32) (v2 : Int32) (S : St) (w : WT D S.2.2) : OD D (f_X10_in v0 v1 v2 S) S := by
  unfold f_X10_in
  refine OD_ite ?_ ?_
  · exact OD_some
  · refine OD_ite ?_ ?_
    · exact OD_some
    · exact OD_some
set_option maxRecDepth 20000 in
theorem o_X10_within {D : Nat → Prop} (v0 : Int32) (v1 : Int32) (v2 : Int32) (S : St) (w : WT D S.2.2) : OD D (f_X10_within v0 v1 v2 S) S := by
  unfold f_X10_within
  refine OD_ite ?_ ?_
  · refine OD_ite ?_ ?_
    · exact OD_some
    · exact OD_some
  · exact OD_some
set_option maxRecDepth 20000 in
theorem ob_X10_bits_4 {D : Nat → Prop} : ∀ (fu : Nat) (v0 : Int32) (v1 : Int32) (v2 : Int32) (S : St), WT D S.2.2 → OD D (b_X10_bits_4 fu v0 v1 v2 S) S := by
  intro fu
  induction fu with
  | zero => intro v0 v1 v2 S w; exact OD_none
  | succ fu ih =>
    intro v0 v1 v2 S w
    rw [b_X10_bits_4]
    refine OD_ite ?_ ?_
    · exact OD_some
    · refine OD_nm (fun x1 => ?_)
      refine OD_nm (fun x2 => ?_)
      exact ih v0 x1 x2 S w
set_option maxRecDepth 20000 in
theorem o_X10_bits {D : Nat → Prop} (v0 : Int32) (S : St) (w : WT D S.2.2) : OD D (f_X10_bits v0 S) S := by
  unfold f_X10_bits
  exact ob_X10_bits_4 FU v0 (0 : Int32) (0 : Int32) S w
set_option maxRecDepth 20000 in
theorem o_X10_off {D : Nat → Prop} (v0 : Int32) (v1 : Int32) (S : St) (w : WT D S.2.2) : OD D (f_X10_off v0 v1 S) S := by
  unfold f_X10_off
  refine OD_ite ?_ ?_
  · exact OD_some
  · exact OD_some
set_option maxRecDepth 20000 in
theorem o_X10_signOf {D : Nat → Prop} (v0 : Int32) (S : St) (w : WT D S.2.2) : OD D (f_X10_signOf v0 S) S := by
  unfold f_X10_signOf
  refine OD_ite ?_ ?_
  · refine OD_ite ?_ ?_
    · exact OD_some
    · exact OD_some
  · exact OD_some
set_option maxRecDepth 20000 in
theorem o_X10_more {D : Nat → Prop} (v0 : Int32) (v1 : Int32) (S : St) (w : WT D S.2.2) : OD D (f_X10_more v0 v1 S) S := by
  unfold f_X10_more
  refine OD_ite ?_ ?_
  · exact OD_some
  · exact OD_some
set_option maxRecDepth 20000 in
theorem o_X10_isMermaid {D : Nat → Prop} (v0 : Nat) (kv0 : KA D v0 (0, 10)) (v1 : Int32) (S : St) (w : WT D S.2.2) : OD D (f_X10_isMermaid v0 v1 S) S := by
  unfold f_X10_isMermaid
  refine OD_ix (fun j1 => ?_)
  refine OD_bd (o_X10_in v1 (0 : Int32) ((S.1 (S.2.2 v0 23) j1) - (1 : Int32)) S w) (fun r3 S2 hS2 => ?_)
  have wS2 : WT D S2.2.2 := by rw [hS2]; exact w
  clear hS2
  exact OD_ob (fun _ => OD_some)
set_option maxRecDepth 20000 in
theorem o_X10_isPerson {D : Nat → Prop} (v0 : Nat) (kv0 : KA D v0 (0, 10)) (v1 : Int32) (S : St) (w : WT D S.2.2) : OD D (f_X10_isPerson v0 v1 S) S := by
  unfold f_X10_isPerson
  refine OD_ix (fun j1 => ?_)
  refine OD_bd (o_X10_in v1 (0 : Int32) ((S.1 (S.2.2 v0 25) j1) - (1 : Int32)) S w) (fun r3 S2 hS2 => ?_)
  have wS2 : WT D S2.2.2 := by rw [hS2]; exact w
  clear hS2
  exact OD_ob (fun _ => OD_some)
set_option maxRecDepth 20000 in
theorem o_X10_isStrand {D : Nat → Prop} (v0 : Nat) (kv0 : KA D v0 (0, 10)) (v1 : Int32) (S : St) (w : WT D S.2.2) : OD D (f_X10_isStrand v0 v1 S) S := by
  unfold f_X10_isStrand
  refine OD_ix (fun j1 => ?_)
  refine OD_bd (o_X10_in v1 (0 : Int32) ((S.1 (S.2.2 v0 29) j1) - (1 : Int32)) S w) (fun r3 S2 hS2 => ?_)
  have wS2 : WT D S2.2.2 := by rw [hS2]; exact w
  clear hS2
  exact OD_ob (fun _ => OD_some)
set_option maxRecDepth 20000 in
theorem ob_X10_copies_2 {D : Nat → Prop} : ∀ (fu : Nat) (v0 : Nat) (kv0 : KA D v0 (0, 10)) (v1 : Int32) (S : St), WT D S.2.2 → OD D (b_X10_copies_2 fu v0 v1 S) S := by
  intro fu
  induction fu with
  | zero => intro v0 kv0 v1 S w; exact OD_none
  | succ fu ih =>
    intro v0 kv0 v1 S w
    rw [b_X10_copies_2]
    refine OD_ite ?_ ?_
    · refine OD_ix (fun j1 => ?_)
      refine OD_nmI (kv0).2 (fun S2 hS2 => ?_)
      have wS2 : WT D S2.2.2 := by rw [hS2]; exact w
      clear hS2
      refine OD_nmI (kv0).2 (fun S3 hS3 => ?_)
      have wS3 : WT D S3.2.2 := by rw [hS3]; exact wS2
      clear hS3
      exact OD_some
    · refine OD_ix (fun j4 => ?_)
      refine OD_ix (fun j5 => ?_)
      refine OD_nmI (w.1 _ _ kv0 52 _ rfl).2 (fun S6 hS6 => ?_)
      have wS6 : WT D S6.2.2 := by rw [hS6]; exact w
      clear hS6
      refine OD_nm (fun x7 => ?_)
      exact ih v0 kv0 x7 S6 wS6
set_option maxRecDepth 20000 in
theorem o_X10_copies {D : Nat → Prop} (v0 : Nat) (kv0 : KA D v0 (0, 10)) (S : St) (w : WT D S.2.2) : OD D (f_X10_copies v0 S) S := by
  unfold f_X10_copies
  exact ob_X10_copies_2 FU v0 kv0 (0 : Int32) S w
set_option maxRecDepth 20000 in
theorem o_X10_copiesStill {D : Nat → Prop} (v0 : Nat) (kv0 : KA D v0 (0, 10)) (S : St) (w : WT D S.2.2) : OD D (f_X10_copiesStill v0 S) S := by
  unfold f_X10_copiesStill
  refine OD_bd (o_X10_copies v0 kv0 S w) (fun _ S1 hS1 => ?_)
  have wS1 : WT D S1.2.2 := by rw [hS1]; exact w
  clear hS1
  refine OD_nmI (kv0).2 (fun S3 hS3 => ?_)
  have wS3 : WT D S3.2.2 := by rw [hS3]; exact wS1
  clear hS3
  exact OD_some
set_option maxRecDepth 20000 in
theorem o_X10_mixed {D : Nat → Prop} (v0 : Int32) (v1 : Int32) (S : St) (w : WT D S.2.2) : OD D (f_X10_mixed v0 v1 S) S := by
  unfold f_X10_mixed
  refine OD_nm (fun x1 => ?_)
  exact OD_some
set_option maxRecDepth 20000 in
theorem o_X10_lotOf {D : Nat → Prop} (v0 : Nat) (kv0 : KA D v0 (0, 10)) (v1 : Int32) (S : St) (w : WT D S.2.2) : OD D (f_X10_lotOf v0 v1 S) S := by
  unfold f_X10_lotOf
  refine OD_bd (o_X10_mixed (S.1 v0 53) (135 : Int32) S w) (fun r2 S1 hS1 => ?_)
  have wS1 : WT D S1.2.2 := by rw [hS1]; exact w
  clear hS1
  refine OD_bd (o_X10_mixed r2 v1 S1 wS1) (fun r4 S3 hS3 => ?_)
  have wS3 : WT D S3.2.2 := by rw [hS3]; exact wS1
  clear hS3
  exact OD_some
set_option maxRecDepth 20000 in
theorem o_X10_isOff {D : Nat → Prop} (v0 : Nat) (kv0 : KA D v0 (0, 10)) (v1 : Int32) (S : St) (w : WT D S.2.2) : OD D (f_X10_isOff v0 v1 S) S := by
  unfold f_X10_isOff
  refine OD_ix (fun j1 => ?_)
  refine OD_ite ?_ ?_
  · exact OD_some
  · exact OD_some
set_option maxRecDepth 20000 in
theorem o_X10_isCut {D : Nat → Prop} (v0 : Nat) (kv0 : KA D v0 (0, 10)) (v1 : Int32) (S : St) (w : WT D S.2.2) : OD D (f_X10_isCut v0 v1 S) S := by
  unfold f_X10_isCut
  refine OD_ix (fun j1 => ?_)
  refine OD_ite ?_ ?_
  · exact OD_some
  · exact OD_some
set_option maxRecDepth 20000 in
theorem o_X10_whose {D : Nat → Prop} (v0 : Nat) (kv0 : KA D v0 (0, 10)) (v1 : Int32) (S : St) (w : WT D S.2.2) : OD D (f_X10_whose v0 v1 S) S := by
  unfold f_X10_whose
  refine OD_ix (fun j1 => ?_)
  exact OD_some
set_option maxRecDepth 20000 in
theorem ob_X10_wearsOf_41 {D : Nat → Prop} {q4 : Nat → Int32 → Int32 → Int32 → St → Option (Int32 × St)} (oq4 : ∀ (v0 : Nat) (kv0 : KA D v0 (0, 10)) (v1 : Int32) (v2 : Int32) (v3 : Int32) (S : St), WT D S.2.2 → OD D (q4 v0 v1 v2 v3 S) S) (v0 : Nat) (kv0 : KA D v0 (0, 10)) (v1 : Int32) (v2 : Int32) (v3 : Int32) (S : St) (w : WT D S.2.2) : OD D (b_X10_wearsOf_41 q4 v0 v1 v2 v3 S) S := by
  unfold b_X10_wearsOf_41
  refine OD_nm (fun x1 => ?_)
  exact oq4 v0 kv0 v1 v2 x1 S w
set_option maxRecDepth 20000 in
theorem ob_X10_wearsOf_4 {D : Nat → Prop} : ∀ (fu : Nat) (v0 : Nat) (kv0 : KA D v0 (0, 10)) (v1 : Int32) (v2 : Int32) (v3 : Int32) (S : St), WT D S.2.2 → OD D (b_X10_wearsOf_4 fu v0 v1 v2 v3 S) S := by
  intro fu
  induction fu with
  | zero => intro v0 kv0 v1 v2 v3 S w; exact OD_none
  | succ fu ih =>
    intro v0 kv0 v1 v2 v3 S w
    rw [b_X10_wearsOf_4]
    refine OD_ix (fun j1 => ?_)
    refine OD_ite ?_ ?_
    · exact OD_some
    · refine OD_ix (fun j2 => ?_)
      refine OD_ite ?_ ?_
      · refine OD_bd (o_X10_isCut v0 kv0 v3 S w) (fun r4 S3 hS3 => ?_)
        have wS3 : WT D S3.2.2 := by rw [hS3]; exact w
        clear hS3
        refine OD_ite ?_ ?_
        · refine OD_nm (fun x5 => ?_)
          exact ob_X10_wearsOf_41 ih v0 kv0 v1 x5 v3 S3 wS3
        · exact ob_X10_wearsOf_41 ih v0 kv0 v1 v2 v3 S3 wS3
      · exact ob_X10_wearsOf_41 ih v0 kv0 v1 v2 v3 S w
set_option maxRecDepth 20000 in
theorem o_X10_wearsOf {D : Nat → Prop} (v0 : Nat) (kv0 : KA D v0 (0, 10)) (v1 : Int32) (S : St) (w : WT D S.2.2) : OD D (f_X10_wearsOf v0 v1 S) S := by
  unfold f_X10_wearsOf
  exact ob_X10_wearsOf_4 FU v0 kv0 v1 (0 : Int32) (0 : Int32) S w
set_option maxRecDepth 20000 in
theorem ob_X10_looks_2 {D : Nat → Prop} : ∀ (fu : Nat) (v0 : Nat) (kv0 : KA D v0 (0, 10)) (v1 : Int32) (S : St), WT D S.2.2 → OD D (b_X10_looks_2 fu v0 v1 S) S := by
  intro fu
  induction fu with
  | zero => intro v0 kv0 v1 S w; exact OD_none
  | succ fu ih =>
    intro v0 kv0 v1 S w
    rw [b_X10_looks_2]
    refine OD_ite ?_ ?_
    · refine OD_ix (fun j1 => ?_)
      refine OD_ix (fun j2 => ?_)
      refine OD_nmI (w.1 _ _ kv0 48 _ rfl).2 (fun S3 hS3 => ?_)
      have wS3 : WT D S3.2.2 := by rw [hS3]; exact w
      clear hS3
      refine OD_ix (fun j4 => ?_)
      refine OD_ix (fun j5 => ?_)
      refine OD_nmI (wS3.1 _ _ kv0 48 _ rfl).2 (fun S6 hS6 => ?_)
      have wS6 : WT D S6.2.2 := by rw [hS6]; exact wS3
      clear hS6
      exact OD_some
    · refine OD_ix (fun j7 => ?_)
      refine OD_nmI (w.1 _ _ kv0 48 _ rfl).2 (fun S8 hS8 => ?_)
      have wS8 : WT D S8.2.2 := by rw [hS8]; exact w
      clear hS8
      refine OD_nm (fun x9 => ?_)
      exact ih v0 kv0 x9 S8 wS8
set_option maxRecDepth 20000 in
theorem o_X10_looks {D : Nat → Prop} (v0 : Nat) (kv0 : KA D v0 (0, 10)) (S : St) (w : WT D S.2.2) : OD D (f_X10_looks v0 S) S := by
  unfold f_X10_looks
  exact ob_X10_looks_2 FU v0 kv0 (0 : Int32) S w
set_option maxRecDepth 20000 in
theorem ob_X10_lawTells_119 {D : Nat → Prop} (v0 : Nat) (kv0 : KA D v0 (0, 10)) (v4 : Int32) (S : St) (w : WT D S.2.2) : OD D (b_X10_lawTells_119 v0 v4 S) S := by
  unfold b_X10_lawTells_119
  refine OD_ix (fun j1 => ?_)
  refine OD_ix (fun j2 => ?_)
  refine OD_bd (o_X10_termOf v0 kv0 (S.1 (S.2.2 v0 41) j1) (S.1 (S.2.2 v0 42) j2) S w) (fun r4 S3 hS3 => ?_)
  have wS3 : WT D S3.2.2 := by rw [hS3]; exact w
  clear hS3
  refine OD_ite ?_ ?_
  · exact OD_some
  · exact OD_some
set_option maxRecDepth 20000 in
theorem ob_X10_lawTells_39 {D : Nat → Prop} : ∀ (fu : Nat) (v0 : Nat) (kv0 : KA D v0 (0, 10)) (v3 : Int32) (v4 : Int32) (S : St), WT D S.2.2 → OD D (b_X10_lawTells_39 fu v0 v3 v4 S) S := by
  intro fu
  induction fu with
  | zero => intro v0 kv0 v3 v4 S w; exact OD_none
  | succ fu ih =>
    intro v0 kv0 v3 v4 S w
    rw [b_X10_lawTells_39]
    refine OD_ix (fun j1 => ?_)
    refine OD_ite ?_ ?_
    · exact OD_some
    · refine OD_ix (fun j2 => ?_)
      refine OD_ite ?_ ?_
      · exact ob_X10_lawTells_119 v0 kv0 v4 S w
      · refine OD_ix (fun j3 => ?_)
        refine OD_ix (fun j4 => ?_)
        refine OD_bd (o_X10_termOf v0 kv0 (S.1 (S.2.2 v0 39) j3) (S.1 (S.2.2 v0 40) j4) S w) (fun r6 S5 hS5 => ?_)
        have wS5 : WT D S5.2.2 := by rw [hS5]; exact w
        clear hS5
        refine OD_ix (fun j7 => ?_)
        refine OD_ix (fun j8 => ?_)
        refine OD_bd (o_X10_termOf v0 kv0 (S5.1 (S5.2.2 v0 40) j7) (S5.1 (S5.2.2 v0 41) j8) S5 wS5) (fun r10 S9 hS9 => ?_)
        have wS9 : WT D S9.2.2 := by rw [hS9]; exact wS5
        clear hS9
        refine OD_ite ?_ ?_
        · refine OD_ite ?_ ?_
          · exact ob_X10_lawTells_119 v0 kv0 v4 S9 wS9
          · refine OD_nm (fun x11 => ?_)
            exact ih v0 kv0 v3 x11 S9 wS9
        · exact OD_some
set_option maxRecDepth 20000 in
theorem o_X10_lawTells {D : Nat → Prop} (v0 : Nat) (kv0 : KA D v0 (0, 10)) (v1 : Int32) (v2 : Int32) (S : St) (w : WT D S.2.2) : OD D (f_X10_lawTells v0 v1 v2 S) S := by
  unfold f_X10_lawTells
  refine OD_nm (fun x1 => ?_)
  refine OD_ix (fun j2 => ?_)
  refine OD_ix (fun j3 => ?_)
  refine OD_ite ?_ ?_
  · exact OD_some
  · refine OD_nmI (kv0).2 (fun S4 hS4 => ?_)
    have wS4 : WT D S4.2.2 := by rw [hS4]; exact w
    clear hS4
    refine OD_ix (fun j5 => ?_)
    refine OD_nm (fun x6 => ?_)
    exact ob_X10_lawTells_39 FU v0 kv0 x1 x6 S4 wS4
set_option maxRecDepth 20000 in
theorem o_X10_farFrom {D : Nat → Prop} (v0 : Nat) (kv0 : KA D v0 (0, 10)) (v1 : Int32) (v2 : Int32) (v3 : Int32) (S : St) (w : WT D S.2.2) : OD D (f_X10_farFrom v0 v1 v2 v3 S) S := by
  unfold f_X10_farFrom
  refine OD_ix (fun j1 => ?_)
  refine OD_bd (o_X10_off (S.1 (S.2.2 v0 52) j1) v2 S w) (fun r3 S2 hS2 => ?_)
  have wS2 : WT D S2.2.2 := by rw [hS2]; exact w
  clear hS2
  refine OD_ix (fun j4 => ?_)
  refine OD_bd (o_X10_off (S2.1 (S2.2.2 v0 52) j4) v3 S2 wS2) (fun r6 S5 hS5 => ?_)
  have wS5 : WT D S5.2.2 := by rw [hS5]; exact wS2
  clear hS5
  refine OD_bd (o_X10_more r3 r6 S5 wS5) (fun r8 S7 hS7 => ?_)
  have wS7 : WT D S7.2.2 := by rw [hS7]; exact wS5
  clear hS7
  exact OD_some
set_option maxRecDepth 20000 in
theorem o_X10_pullAt {D : Nat → Prop} (v0 : Nat) (kv0 : KA D v0 (0, 10)) (v1 : Int32) (v2 : Int32) (v3 : Int32) (v4 : Int32) (S : St) (w : WT D S.2.2) : OD D (f_X10_pullAt v0 v1 v2 v3 v4 S) S := by
  unfold f_X10_pullAt
  refine OD_bd (o_X10_whose v0 kv0 v1 S w) (fun r2 S1 hS1 => ?_)
  have wS1 : WT D S1.2.2 := by rw [hS1]; exact w
  clear hS1
  refine OD_bd (o_X10_farFrom v0 kv0 r2 v3 v4 S1 wS1) (fun r4 S3 hS3 => ?_)
  have wS3 : WT D S3.2.2 := by rw [hS3]; exact wS1
  clear hS3
  refine OD_bd (o_X10_isCut v0 kv0 v1 S3 wS3) (fun r6 S5 hS5 => ?_)
  have wS5 : WT D S5.2.2 := by rw [hS5]; exact wS3
  clear hS5
  refine OD_ite ?_ ?_
  · refine OD_bd (o_X10_whose v0 kv0 v1 S5 wS5) (fun r8 S7 hS7 => ?_)
    have wS7 : WT D S7.2.2 := by rw [hS7]; exact wS5
    clear hS7
    refine OD_ix (fun j9 => ?_)
    refine OD_ite ?_ ?_
    · exact OD_some
    · refine OD_bd (o_X10_isOff v0 kv0 v2 S7 wS7) (fun r11 S10 hS10 => ?_)
      have wS10 : WT D S10.2.2 := by rw [hS10]; exact wS7
      clear hS10
      refine OD_ite ?_ ?_
      · refine OD_ite ?_ ?_
        · exact OD_some
        · refine OD_bd (o_X10_looks v0 kv0 S10 wS10) (fun _ S12 hS12 => ?_)
          have wS12 : WT D S12.2.2 := by rw [hS12]; exact wS10
          clear hS12
          refine OD_ix (fun j14 => ?_)
          refine OD_ix (fun j15 => ?_)
          refine OD_nmI (wS12.1 _ _ kv0 48 _ rfl).2 (fun S16 hS16 => ?_)
          have wS16 : WT D S16.2.2 := by rw [hS16]; exact wS12
          clear hS16
          refine OD_ix (fun j17 => ?_)
          refine OD_nmI (wS16.1 _ _ kv0 48 _ rfl).2 (fun S18 hS18 => ?_)
          have wS18 : WT D S18.2.2 := by rw [hS18]; exact wS16
          clear hS18
          refine OD_ix (fun j19 => ?_)
          refine OD_ix (fun j20 => ?_)
          refine OD_nmI (wS18.1 _ _ kv0 48 _ rfl).2 (fun S21 hS21 => ?_)
          have wS21 : WT D S21.2.2 := by rw [hS21]; exact wS18
          clear hS21
          refine OD_ix (fun j22 => ?_)
          refine OD_nmI (wS21.1 _ _ kv0 48 _ rfl).2 (fun S23 hS23 => ?_)
          have wS23 : WT D S23.2.2 := by rw [hS23]; exact wS21
          clear hS23
          refine OD_ix (fun j24 => ?_)
          refine OD_bd (o_X10_lawTells v0 kv0 (0 : Int32) (S23.1 (S23.2.2 v0 48) j24) S23 wS23) (fun r26 S25 hS25 => ?_)
          have wS25 : WT D S25.2.2 := by rw [hS25]; exact wS23
          clear hS25
          refine OD_bd (o_X10_within r26 (0 : Int32) (99 : Int32) S25 wS25) (fun r28 S27 hS27 => ?_)
          have wS27 : WT D S27.2.2 := by rw [hS27]; exact wS25
          clear hS27
          exact OD_some
      · exact OD_some
  · exact OD_some
set_option maxRecDepth 20000 in
theorem ob_X10_pullsBy_110 {D : Nat → Prop} {q13 : Nat → Int32 → Int32 → Int32 → Int32 → Int32 → St → Option (Unit × St)} (oq13 : ∀ (v0 : Nat) (kv0 : KA D v0 (0, 10)) (v1 : Int32) (v2 : Int32) (v3 : Int32) (v4 : Int32) (v5 : Int32) (S : St), WT D S.2.2 → OD D (q13 v0 v1 v2 v3 v4 v5 S) S) (v0 : Nat) (kv0 : KA D v0 (0, 10)) (v1 : Int32) (v2 : Int32) (v3 : Int32) (v4 : Int32) (v5 : Int32) (S : St) (w : WT D S.2.2) : OD D (b_X10_pullsBy_110 q13 v0 v1 v2 v3 v4 v5 S) S := by
  unfold b_X10_pullsBy_110
  refine OD_nm (fun x1 => ?_)
  exact oq13 v0 kv0 v1 v2 v3 v4 x1 S w
set_option maxRecDepth 20000 in
theorem ob_X10_pullsBy_13 {D : Nat → Prop} : ∀ (fu : Nat) (v0 : Nat) (kv0 : KA D v0 (0, 10)) (v1 : Int32) (v2 : Int32) (v3 : Int32) (v4 : Int32) (v5 : Int32) (S : St), WT D S.2.2 → OD D (b_X10_pullsBy_13 fu v0 v1 v2 v3 v4 v5 S) S := by
  intro fu
  induction fu with
  | zero => intro v0 kv0 v1 v2 v3 v4 v5 S w; exact OD_none
  | succ fu ih =>
    intro v0 kv0 v1 v2 v3 v4 v5 S w
    rw [b_X10_pullsBy_13]
    refine OD_ix (fun j1 => ?_)
    refine OD_ite ?_ ?_
    · exact OD_some
    · refine OD_ite ?_ ?_
      · exact ob_X10_pullsBy_110 ih v0 kv0 v1 v2 v3 v4 v5 S w
      · refine OD_bd (o_X10_pullAt v0 kv0 v5 v2 v3 v4 S w) (fun r3 S2 hS2 => ?_)
        have wS2 : WT D S2.2.2 := by rw [hS2]; exact w
        clear hS2
        refine OD_bd (o_X10_whose v0 kv0 v5 S2 wS2) (fun r5 S4 hS4 => ?_)
        have wS4 : WT D S4.2.2 := by rw [hS4]; exact wS2
        clear hS4
        refine OD_ix (fun j6 => ?_)
        refine OD_bd (o_X10_signOf ((S4.1 (S2.2.2 v0 52) j6) - v3) S4 wS4) (fun r8 S7 hS7 => ?_)
        have wS7 : WT D S7.2.2 := by rw [hS7]; exact wS4
        clear hS7
        refine OD_nmI (kv0).2 (fun S9 hS9 => ?_)
        have wS9 : WT D S9.2.2 := by rw [hS9]; exact wS7
        clear hS9
        refine OD_bd (o_X10_whose v0 kv0 v5 S9 wS9) (fun r11 S10 hS10 => ?_)
        have wS10 : WT D S10.2.2 := by rw [hS10]; exact wS9
        clear hS10
        refine OD_ix (fun j12 => ?_)
        refine OD_bd (o_X10_signOf ((S10.1 (S9.2.2 v0 52) j12) - v4) S10 wS10) (fun r14 S13 hS13 => ?_)
        have wS13 : WT D S13.2.2 := by rw [hS13]; exact wS10
        clear hS13
        refine OD_nmI (kv0).2 (fun S15 hS15 => ?_)
        have wS15 : WT D S15.2.2 := by rw [hS15]; exact wS13
        clear hS15
        exact ob_X10_pullsBy_110 ih v0 kv0 v1 v2 v3 v4 v5 S15 wS15
set_option maxRecDepth 20000 in
theorem o_X10_pullsBy {D : Nat → Prop} (v0 : Nat) (kv0 : KA D v0 (0, 10)) (v1 : Int32) (v2 : Int32) (v3 : Int32) (v4 : Int32) (S : St) (w : WT D S.2.2) : OD D (f_X10_pullsBy v0 v1 v2 v3 v4 S) S := by
  unfold f_X10_pullsBy
  refine OD_nmI (kv0).2 (fun S1 hS1 => ?_)
  have wS1 : WT D S1.2.2 := by rw [hS1]; exact w
  clear hS1
  refine OD_nmI (kv0).2 (fun S2 hS2 => ?_)
  have wS2 : WT D S2.2.2 := by rw [hS2]; exact wS1
  clear hS2
  exact ob_X10_pullsBy_13 FU v0 kv0 v1 v2 v3 v4 (0 : Int32) S2 wS2
set_option maxRecDepth 20000 in
theorem ob_X10_wornBits_44 {D : Nat → Prop} {q4 : Nat → Int32 → Int32 → Int32 → St → Option (Int32 × St)} (oq4 : ∀ (v0 : Nat) (kv0 : KA D v0 (0, 10)) (v1 : Int32) (v2 : Int32) (v3 : Int32) (S : St), WT D S.2.2 → OD D (q4 v0 v1 v2 v3 S) S) (v0 : Nat) (kv0 : KA D v0 (0, 10)) (v1 : Int32) (v2 : Int32) (v3 : Int32) (S : St) (w : WT D S.2.2) : OD D (b_X10_wornBits_44 q4 v0 v1 v2 v3 S) S := by
  unfold b_X10_wornBits_44
  refine OD_nm (fun x1 => ?_)
  exact oq4 v0 kv0 v1 v2 x1 S w
set_option maxRecDepth 20000 in
theorem ob_X10_wornBits_4 {D : Nat → Prop} : ∀ (fu : Nat) (v0 : Nat) (kv0 : KA D v0 (0, 10)) (v1 : Int32) (v2 : Int32) (v3 : Int32) (S : St), WT D S.2.2 → OD D (b_X10_wornBits_4 fu v0 v1 v2 v3 S) S := by
  intro fu
  induction fu with
  | zero => intro v0 kv0 v1 v2 v3 S w; exact OD_none
  | succ fu ih =>
    intro v0 kv0 v1 v2 v3 S w
    rw [b_X10_wornBits_4]
    refine OD_ix (fun j1 => ?_)
    refine OD_ite ?_ ?_
    · exact OD_some
    · refine OD_ix (fun j2 => ?_)
      refine OD_ite ?_ ?_
      · refine OD_bd (o_X10_isCut v0 kv0 v3 S w) (fun r4 S3 hS3 => ?_)
        have wS3 : WT D S3.2.2 := by rw [hS3]; exact w
        clear hS3
        refine OD_ite ?_ ?_
        · refine OD_nm (fun x5 => ?_)
          exact ob_X10_wornBits_44 ih v0 kv0 v1 x5 v3 S3 wS3
        · exact ob_X10_wornBits_44 ih v0 kv0 v1 v2 v3 S3 wS3
      · exact ob_X10_wornBits_44 ih v0 kv0 v1 v2 v3 S w
set_option maxRecDepth 20000 in
theorem o_X10_wornBits {D : Nat → Prop} (v0 : Nat) (kv0 : KA D v0 (0, 10)) (v1 : Int32) (S : St) (w : WT D S.2.2) : OD D (f_X10_wornBits v0 v1 S) S := by
  unfold f_X10_wornBits
  exact ob_X10_wornBits_4 FU v0 kv0 v1 (0 : Int32) (0 : Int32) S w
set_option maxRecDepth 20000 in
theorem o_X10_standsAt {D : Nat → Prop} (v0 : Nat) (kv0 : KA D v0 (0, 10)) (v1 : Int32) (v2 : Int32) (v3 : Int32) (S : St) (w : WT D S.2.2) : OD D (f_X10_standsAt v0 v1 v2 v3 S) S := by
  unfold f_X10_standsAt
  refine OD_bd (o_X10_looks v0 kv0 S w) (fun _ S1 hS1 => ?_)
  have wS1 : WT D S1.2.2 := by rw [hS1]; exact w
  clear hS1
  refine OD_ix (fun j3 => ?_)
  refine OD_ix (fun j4 => ?_)
  refine OD_nmI (wS1.1 _ _ kv0 48 _ rfl).2 (fun S5 hS5 => ?_)
  have wS5 : WT D S5.2.2 := by rw [hS5]; exact wS1
  clear hS5
  refine OD_ix (fun j6 => ?_)
  refine OD_nmI (wS5.1 _ _ kv0 48 _ rfl).2 (fun S7 hS7 => ?_)
  have wS7 : WT D S7.2.2 := by rw [hS7]; exact wS5
  clear hS7
  refine OD_ix (fun j8 => ?_)
  refine OD_nmI (wS7.1 _ _ kv0 48 _ rfl).2 (fun S9 hS9 => ?_)
  have wS9 : WT D S9.2.2 := by rw [hS9]; exact wS7
  clear hS9
  refine OD_bd (o_X10_wearsOf v0 kv0 v1 S9 wS9) (fun r11 S10 hS10 => ?_)
  have wS10 : WT D S10.2.2 := by rw [hS10]; exact wS9
  clear hS10
  refine OD_ix (fun j12 => ?_)
  refine OD_nmI (wS9.1 _ _ kv0 48 _ rfl).2 (fun S13 hS13 => ?_)
  have wS13 : WT D S13.2.2 := by rw [hS13]; exact wS10
  clear hS13
  refine OD_ix (fun j14 => ?_)
  refine OD_bd (o_X10_lawTells v0 kv0 (1 : Int32) (S13.1 (S13.2.2 v0 48) j14) S13 wS13) (fun r16 S15 hS15 => ?_)
  have wS15 : WT D S15.2.2 := by rw [hS15]; exact wS13
  clear hS15
  refine OD_bd (o_X10_within r16 (0 : Int32) (999 : Int32) S15 wS15) (fun r18 S17 hS17 => ?_)
  have wS17 : WT D S17.2.2 := by rw [hS17]; exact wS15
  clear hS17
  exact OD_some
set_option maxRecDepth 20000 in
theorem o_X10_stormOf {D : Nat → Prop} (v0 : Nat) (kv0 : KA D v0 (0, 10)) (v1 : Int32) (S : St) (w : WT D S.2.2) : OD D (f_X10_stormOf v0 v1 S) S := by
  unfold f_X10_stormOf
  refine OD_bd (o_X10_looks v0 kv0 S w) (fun _ S1 hS1 => ?_)
  have wS1 : WT D S1.2.2 := by rw [hS1]; exact w
  clear hS1
  refine OD_ix (fun j3 => ?_)
  refine OD_ix (fun j4 => ?_)
  refine OD_nmI (wS1.1 _ _ kv0 48 _ rfl).2 (fun S5 hS5 => ?_)
  have wS5 : WT D S5.2.2 := by rw [hS5]; exact wS1
  clear hS5
  refine OD_ix (fun j6 => ?_)
  refine OD_ix (fun j7 => ?_)
  refine OD_nmI (wS5.1 _ _ kv0 48 _ rfl).2 (fun S8 hS8 => ?_)
  have wS8 : WT D S8.2.2 := by rw [hS8]; exact wS5
  clear hS8
  refine OD_ix (fun j9 => ?_)
  refine OD_ix (fun j10 => ?_)
  refine OD_nmI (wS8.1 _ _ kv0 48 _ rfl).2 (fun S11 hS11 => ?_)
  have wS11 : WT D S11.2.2 := by rw [hS11]; exact wS8
  clear hS11
  refine OD_bd (o_X10_wearsOf v0 kv0 v1 S11 wS11) (fun r13 S12 hS12 => ?_)
  have wS12 : WT D S12.2.2 := by rw [hS12]; exact wS11
  clear hS12
  refine OD_ix (fun j14 => ?_)
  refine OD_nmI (wS11.1 _ _ kv0 48 _ rfl).2 (fun S15 hS15 => ?_)
  have wS15 : WT D S15.2.2 := by rw [hS15]; exact wS12
  clear hS15
  refine OD_bd (o_X10_lawTells v0 kv0 (3 : Int32) (0 : Int32) S15 wS15) (fun r17 S16 hS16 => ?_)
  have wS16 : WT D S16.2.2 := by rw [hS16]; exact wS15
  clear hS16
  refine OD_bd (o_X10_within r17 (0 : Int32) (100 : Int32) S16 wS16) (fun r19 S18 hS18 => ?_)
  have wS18 : WT D S18.2.2 := by rw [hS18]; exact wS16
  clear hS18
  exact OD_some
set_option maxRecDepth 20000 in
theorem o_X10_priceOf {D : Nat → Prop} (v0 : Nat) (kv0 : KA D v0 (0, 10)) (v1 : Int32) (S : St) (w : WT D S.2.2) : OD D (f_X10_priceOf v0 v1 S) S := by
  unfold f_X10_priceOf
  refine OD_ix (fun j1 => ?_)
  refine OD_nm (fun x2 => ?_)
  refine OD_bd (o_X10_looks v0 kv0 S w) (fun _ S3 hS3 => ?_)
  have wS3 : WT D S3.2.2 := by rw [hS3]; exact w
  clear hS3
  refine OD_ix (fun j5 => ?_)
  refine OD_ix (fun j6 => ?_)
  refine OD_nmI (wS3.1 _ _ kv0 48 _ rfl).2 (fun S7 hS7 => ?_)
  have wS7 : WT D S7.2.2 := by rw [hS7]; exact wS3
  clear hS7
  refine OD_bd (o_X10_whose v0 kv0 v1 S7 wS7) (fun r9 S8 hS8 => ?_)
  have wS8 : WT D S8.2.2 := by rw [hS8]; exact wS7
  clear hS8
  refine OD_ix (fun j10 => ?_)
  refine OD_ix (fun j11 => ?_)
  refine OD_bd (o_X10_farFrom v0 kv0 r9 (S8.1 (S8.2.2 v0 52) j10) (S8.1 (S8.2.2 v0 52) j11) S8 wS8) (fun r13 S12 hS12 => ?_)
  have wS12 : WT D S12.2.2 := by rw [hS12]; exact wS8
  clear hS12
  refine OD_ix (fun j14 => ?_)
  refine OD_nmI (wS7.1 _ _ kv0 48 _ rfl).2 (fun S15 hS15 => ?_)
  have wS15 : WT D S15.2.2 := by rw [hS15]; exact wS12
  clear hS15
  refine OD_ix (fun j16 => ?_)
  refine OD_nmI (wS15.1 _ _ kv0 48 _ rfl).2 (fun S17 hS17 => ?_)
  have wS17 : WT D S17.2.2 := by rw [hS17]; exact wS15
  clear hS17
  refine OD_bd (o_X10_wearsOf v0 kv0 x2 S17 wS17) (fun r19 S18 hS18 => ?_)
  have wS18 : WT D S18.2.2 := by rw [hS18]; exact wS17
  clear hS18
  refine OD_ix (fun j20 => ?_)
  refine OD_nmI (wS17.1 _ _ kv0 48 _ rfl).2 (fun S21 hS21 => ?_)
  have wS21 : WT D S21.2.2 := by rw [hS21]; exact wS18
  clear hS21
  refine OD_ix (fun j22 => ?_)
  refine OD_bd (o_X10_lawTells v0 kv0 (2 : Int32) (S21.1 (S21.2.2 v0 48) j22) S21 wS21) (fun r24 S23 hS23 => ?_)
  have wS23 : WT D S23.2.2 := by rw [hS23]; exact wS21
  clear hS23
  refine OD_bd (o_X10_within r24 (0 : Int32) (999 : Int32) S23 wS23) (fun r26 S25 hS25 => ?_)
  have wS25 : WT D S25.2.2 := by rw [hS25]; exact wS23
  clear hS25
  exact OD_some
set_option maxRecDepth 20000 in
theorem ob_X10_movesAt_49 {D : Nat → Prop} (v0 : Nat) (kv0 : KA D v0 (0, 10)) (v4 : Int32) (s0 : Int32) (S : St) (w : WT D S.2.2) : OD D (b_X10_movesAt_49 v0 v4 s0 S) S := by
  unfold b_X10_movesAt_49
  refine OD_bd (o_X10_off (S.1 v0 56) (0 : Int32) S w) (fun r2 S1 hS1 => ?_)
  have wS1 : WT D S1.2.2 := by rw [hS1]; exact w
  clear hS1
  refine OD_ite ?_ ?_
  · exact OD_some
  · exact OD_some
set_option maxRecDepth 20000 in
theorem o_X10_movesAt {D : Nat → Prop} (v0 : Nat) (kv0 : KA D v0 (0, 10)) (v1 : Int32) (v2 : Int32) (v3 : Int32) (S : St) (w : WT D S.2.2) : OD D (f_X10_movesAt v0 v1 v2 v3 S) S := by
  unfold f_X10_movesAt
  refine OD_bd (o_X10_isOff v0 kv0 v1 S w) (fun r2 S1 hS1 => ?_)
  have wS1 : WT D S1.2.2 := by rw [hS1]; exact w
  clear hS1
  refine OD_ite ?_ ?_
  · refine OD_bd (o_X10_wornBits v0 kv0 v1 S1 wS1) (fun r4 S3 hS3 => ?_)
    have wS3 : WT D S3.2.2 := by rw [hS3]; exact wS1
    clear hS3
    refine OD_bd (o_X10_pullsBy v0 kv0 r4 v1 v2 v3 S3 wS3) (fun _ S5 hS5 => ?_)
    have wS5 : WT D S5.2.2 := by rw [hS5]; exact wS3
    clear hS5
    refine OD_bd (o_X10_standsAt v0 kv0 v1 v2 v3 S5 wS5) (fun r8 S7 hS7 => ?_)
    have wS7 : WT D S7.2.2 := by rw [hS7]; exact wS5
    clear hS7
    refine OD_bd (o_X10_off (S7.1 v0 55) (0 : Int32) S7 wS7) (fun r10 S9 hS9 => ?_)
    have wS9 : WT D S9.2.2 := by rw [hS9]; exact wS7
    clear hS9
    refine OD_ite ?_ ?_
    · exact ob_X10_movesAt_49 v0 kv0 r8 (0 : Int32) S9 wS9
    · exact ob_X10_movesAt_49 v0 kv0 r8 (1 : Int32) S9 wS9
  · exact OD_some
set_option maxRecDepth 20000 in
theorem o_X10_movesNow {D : Nat → Prop} (v0 : Nat) (kv0 : KA D v0 (0, 10)) (v1 : Int32) (S : St) (w : WT D S.2.2) : OD D (f_X10_movesNow v0 v1 S) S := by
  unfold f_X10_movesNow
  refine OD_ix (fun j1 => ?_)
  refine OD_ix (fun j2 => ?_)
  refine OD_bd (o_X10_movesAt v0 kv0 v1 (S.1 (S.2.2 v0 52) j1) (S.1 (S.2.2 v0 52) j2) S w) (fun r4 S3 hS3 => ?_)
  have wS3 : WT D S3.2.2 := by rw [hS3]; exact w
  clear hS3
  exact OD_some
set_option maxRecDepth 20000 in
theorem ob_X10_looksAt_130 {D : Nat → Prop} (s0 : Nat) (ks0 : KA D s0 (3, 6)) (s1 : Int32) (s2 : Int32) (S : St) (w : WT D S.2.2) : OD D (b_X10_looksAt_130 s0 s1 s2 S) S := by
  unfold b_X10_looksAt_130
  refine OD_ix (fun j1 => ?_)
  refine OD_nmI (ks0).2 (fun S2 hS2 => ?_)
  have wS2 : WT D S2.2.2 := by rw [hS2]; exact w
  clear hS2
  exact OD_some
set_option maxRecDepth 20000 in
theorem ob_X10_looksAt_129 {D : Nat → Prop} (s0 : Nat) (ks0 : KA D s0 (3, 6)) (s1 : Int32) (S : St) (w : WT D S.2.2) : OD D (b_X10_looksAt_129 s0 s1 S) S := by
  unfold b_X10_looksAt_129
  exact ob_X10_looksAt_130 s0 ks0 s1 (0 : Int32) S w
set_option maxRecDepth 20000 in
theorem ob_X10_looksAt_87 {D : Nat → Prop} (v0 : Nat) (kv0 : KA D v0 (0, 10)) (v1 : Int32) (s0 : Nat) (ks0 : KA D s0 (1, 6)) (s1 : Int32) (s2 : Int32) (s3 : Int32) (S : St) (w : WT D S.2.2) : OD D (b_X10_looksAt_87 v0 v1 s0 s1 s2 s3 S) S := by
  unfold b_X10_looksAt_87
  refine OD_ix (fun j1 => ?_)
  refine OD_nmI (ks0).2 (fun S2 hS2 => ?_)
  have wS2 : WT D S2.2.2 := by rw [hS2]; exact w
  clear hS2
  refine OD_ite ?_ ?_
  · refine OD_ix (fun j3 => ?_)
    refine OD_bd (o_X10_lotOf v0 kv0 (((16 : Int32) * (S2.1 (S2.2.2 v0 52) j3)) + v1) S2 wS2) (fun r5 S4 hS4 => ?_)
    have wS4 : WT D S4.2.2 := by rw [hS4]; exact wS2
    clear hS4
    refine OD_bd (o_X10_stormOf v0 kv0 v1 S4 wS4) (fun r7 S6 hS6 => ?_)
    have wS6 : WT D S6.2.2 := by rw [hS6]; exact wS4
    clear hS6
    refine OD_ite ?_ ?_
    · exact ob_X10_looksAt_129 (S2.2.2 v0 60) (wS2.1 _ _ kv0 60 _ rfl) v1 S6 wS6
    · exact ob_X10_looksAt_130 (S2.2.2 v0 60) (wS2.1 _ _ kv0 60 _ rfl) v1 (1 : Int32) S6 wS6
  · exact ob_X10_looksAt_129 (S2.2.2 v0 60) (wS2.1 _ _ kv0 60 _ rfl) v1 S2 wS2
set_option maxRecDepth 20000 in
theorem ob_X10_looksAt_53 {D : Nat → Prop} (v0 : Nat) (kv0 : KA D v0 (0, 10)) (v1 : Int32) (v2 : Int32) (s0 : Nat) (ks0 : KA D s0 (1, 6)) (s1 : Int32) (s2 : Int32) (s3 : Int32) (S : St) (w : WT D S.2.2) : OD D (b_X10_looksAt_53 v0 v1 v2 s0 s1 s2 s3 S) S := by
  unfold b_X10_looksAt_53
  refine OD_ix (fun j1 => ?_)
  refine OD_nmI (ks0).2 (fun S2 hS2 => ?_)
  have wS2 : WT D S2.2.2 := by rw [hS2]; exact w
  clear hS2
  refine OD_ix (fun j3 => ?_)
  refine OD_ite ?_ ?_
  · refine OD_bd (o_X10_signOf (S2.1 v0 56) S2 wS2) (fun r5 S4 hS4 => ?_)
    have wS4 : WT D S4.2.2 := by rw [hS4]; exact wS2
    clear hS4
    exact ob_X10_looksAt_87 v0 kv0 v1 (S2.2.2 v0 59) (wS2.1 _ _ kv0 59 _ rfl) v1 (S2.1 (S2.2.2 v0 52) j3) r5 S4 wS4
  · exact ob_X10_looksAt_87 v0 kv0 v1 (S2.2.2 v0 59) (wS2.1 _ _ kv0 59 _ rfl) v1 (S2.1 (S2.2.2 v0 52) j3) (0 : Int32) S2 wS2
set_option maxRecDepth 20000 in
theorem ob_X10_looksAt_20 {D : Nat → Prop} (v0 : Nat) (kv0 : KA D v0 (0, 10)) (v1 : Int32) (v2 : Int32) (s0 : Nat) (ks0 : KA D s0 (3, 6)) (s1 : Int32) (s2 : Int32) (S : St) (w : WT D S.2.2) : OD D (b_X10_looksAt_20 v0 v1 v2 s0 s1 s2 S) S := by
  unfold b_X10_looksAt_20
  refine OD_ix (fun j1 => ?_)
  refine OD_nmI (ks0).2 (fun S2 hS2 => ?_)
  have wS2 : WT D S2.2.2 := by rw [hS2]; exact w
  clear hS2
  refine OD_ix (fun j3 => ?_)
  refine OD_ite ?_ ?_
  · refine OD_bd (o_X10_signOf (S2.1 v0 55) S2 wS2) (fun r5 S4 hS4 => ?_)
    have wS4 : WT D S4.2.2 := by rw [hS4]; exact wS2
    clear hS4
    exact ob_X10_looksAt_53 v0 kv0 v1 v2 (S2.2.2 v0 58) (wS2.1 _ _ kv0 58 _ rfl) v1 (S2.1 (S2.2.2 v0 52) j3) r5 S4 wS4
  · exact ob_X10_looksAt_53 v0 kv0 v1 v2 (S2.2.2 v0 58) (wS2.1 _ _ kv0 58 _ rfl) v1 (S2.1 (S2.2.2 v0 52) j3) (0 : Int32) S2 wS2
set_option maxRecDepth 20000 in
theorem o_X10_looksAt {D : Nat → Prop} (v0 : Nat) (kv0 : KA D v0 (0, 10)) (v1 : Int32) (S : St) (w : WT D S.2.2) : OD D (f_X10_looksAt v0 v1 S) S := by
  unfold f_X10_looksAt
  refine OD_bd (o_X10_movesNow v0 kv0 v1 S w) (fun r2 S1 hS1 => ?_)
  have wS1 : WT D S1.2.2 := by rw [hS1]; exact w
  clear hS1
  refine OD_ite ?_ ?_
  · exact ob_X10_looksAt_20 v0 kv0 v1 r2 (S1.2.2 v0 57) (wS1.1 _ _ kv0 57 _ rfl) v1 (0 : Int32) S1 wS1
  · exact ob_X10_looksAt_20 v0 kv0 v1 r2 (S1.2.2 v0 57) (wS1.1 _ _ kv0 57 _ rfl) v1 (1 : Int32) S1 wS1
set_option maxRecDepth 20000 in
theorem ob_X10_swimsOne_92 {D : Nat → Prop} {q2 : Nat → Int32 → Int32 → St → Option (Unit × St)} (oq2 : ∀ (v0 : Nat) (kv0 : KA D v0 (0, 10)) (v1 : Int32) (v2 : Int32) (S : St), WT D S.2.2 → OD D (q2 v0 v1 v2 S) S) (v0 : Nat) (kv0 : KA D v0 (0, 10)) (v1 : Int32) (v2 : Int32) (s0 : Nat) (ks0 : KA D s0 (1, 55)) (s1 : Int32) (s2 : Int32) (S : St) (w : WT D S.2.2) : OD D (b_X10_swimsOne_92 q2 v0 v1 v2 s0 s1 s2 S) S := by
  unfold b_X10_swimsOne_92
  refine OD_ix (fun j1 => ?_)
  refine OD_nmI (ks0).2 (fun S2 hS2 => ?_)
  have wS2 : WT D S2.2.2 := by rw [hS2]; exact w
  clear hS2
  refine OD_nm (fun x3 => ?_)
  exact oq2 v0 kv0 v1 x3 S2 wS2
set_option maxRecDepth 20000 in
theorem ob_X10_swimsOne_62 {D : Nat → Prop} {q2 : Nat → Int32 → Int32 → St → Option (Unit × St)} (oq2 : ∀ (v0 : Nat) (kv0 : KA D v0 (0, 10)) (v1 : Int32) (v2 : Int32) (S : St), WT D S.2.2 → OD D (q2 v0 v1 v2 S) S) (v0 : Nat) (kv0 : KA D v0 (0, 10)) (v1 : Int32) (v2 : Int32) (v3 : Int32) (S : St) (w : WT D S.2.2) : OD D (b_X10_swimsOne_62 q2 v0 v1 v2 v3 S) S := by
  unfold b_X10_swimsOne_62
  refine OD_ite ?_ ?_
  · refine OD_ite ?_ ?_
    · exact ob_X10_swimsOne_92 oq2 v0 kv0 v1 v2 (S.2.2 v0 52) (w.1 _ _ kv0 52 _ rfl) (v2 + v1) v3 S w
    · exact ob_X10_swimsOne_92 oq2 v0 kv0 v1 v2 (S.2.2 v0 52) (w.1 _ _ kv0 52 _ rfl) (v2 + v1) ((18 : Int32) - v3) S w
  · exact ob_X10_swimsOne_92 oq2 v0 kv0 v1 v2 (S.2.2 v0 52) (w.1 _ _ kv0 52 _ rfl) (v2 + v1) (-v3) S w
set_option maxRecDepth 20000 in
theorem ob_X10_swimsOne_39 {D : Nat → Prop} {q2 : Nat → Int32 → Int32 → St → Option (Unit × St)} (oq2 : ∀ (v0 : Nat) (kv0 : KA D v0 (0, 10)) (v1 : Int32) (v2 : Int32) (S : St), WT D S.2.2 → OD D (q2 v0 v1 v2 S) S) (v0 : Nat) (kv0 : KA D v0 (0, 10)) (v1 : Int32) (v2 : Int32) (v3 : Int32) (S : St) (w : WT D S.2.2) : OD D (b_X10_swimsOne_39 q2 v0 v1 v2 v3 S) S := by
  unfold b_X10_swimsOne_39
  refine OD_ix (fun j1 => ?_)
  refine OD_ix (fun j2 => ?_)
  refine OD_nmI (w.1 _ _ kv0 52 _ rfl).2 (fun S3 hS3 => ?_)
  have wS3 : WT D S3.2.2 := by rw [hS3]; exact w
  clear hS3
  exact ob_X10_swimsOne_62 oq2 v0 kv0 v1 v2 v3 S3 wS3
set_option maxRecDepth 20000 in
theorem ob_X10_swimsOne_2 {D : Nat → Prop} : ∀ (fu : Nat) (v0 : Nat) (kv0 : KA D v0 (0, 10)) (v1 : Int32) (v2 : Int32) (S : St), WT D S.2.2 → OD D (b_X10_swimsOne_2 fu v0 v1 v2 S) S := by
  intro fu
  induction fu with
  | zero => intro v0 kv0 v1 v2 S w; exact OD_none
  | succ fu ih =>
    intro v0 kv0 v1 v2 S w
    rw [b_X10_swimsOne_2]
    refine OD_ite ?_ ?_
    · exact OD_some
    · refine OD_ix (fun j1 => ?_)
      refine OD_ix (fun j2 => ?_)
      refine OD_nm (fun x3 => ?_)
      refine OD_ite ?_ ?_
      · exact ob_X10_swimsOne_39 ih v0 kv0 v1 v2 x3 S w
      · refine OD_ite ?_ ?_
        · exact ob_X10_swimsOne_62 ih v0 kv0 v1 v2 x3 S w
        · exact ob_X10_swimsOne_39 ih v0 kv0 v1 v2 x3 S w
set_option maxRecDepth 20000 in
theorem o_X10_swimsOne {D : Nat → Prop} (v0 : Nat) (kv0 : KA D v0 (0, 10)) (v1 : Int32) (S : St) (w : WT D S.2.2) : OD D (f_X10_swimsOne v0 v1 S) S := by
  unfold f_X10_swimsOne
  exact ob_X10_swimsOne_2 FU v0 kv0 v1 (0 : Int32) S w
set_option maxRecDepth 20000 in
theorem ob_X10_monthGoes_172 {D : Nat → Prop} {q142 : Nat → Int32 → St → Option (Unit × St)} (oq142 : ∀ (v0 : Nat) (kv0 : KA D v0 (0, 10)) (v1 : Int32) (S : St), WT D S.2.2 → OD D (q142 v0 v1 S) S) (v0 : Nat) (kv0 : KA D v0 (0, 10)) (v1 : Int32) (S : St) (w : WT D S.2.2) : OD D (b_X10_monthGoes_172 q142 v0 v1 S) S := by
  unfold b_X10_monthGoes_172
  refine OD_nm (fun x1 => ?_)
  exact oq142 v0 kv0 x1 S w
set_option maxRecDepth 20000 in
theorem ob_X10_monthGoes_142 {D : Nat → Prop} : ∀ (fu : Nat) (v0 : Nat) (kv0 : KA D v0 (0, 10)) (v1 : Int32) (S : St), WT D S.2.2 → OD D (b_X10_monthGoes_142 fu v0 v1 S) S := by
  intro fu
  induction fu with
  | zero => intro v0 kv0 v1 S w; exact OD_none
  | succ fu ih =>
    intro v0 kv0 v1 S w
    rw [b_X10_monthGoes_142]
    refine OD_ix (fun j1 => ?_)
    refine OD_ite ?_ ?_
    · refine OD_ix (fun j2 => ?_)
      refine OD_ix (fun j3 => ?_)
      refine OD_nmI (w.1 _ _ kv0 52 _ rfl).2 (fun S4 hS4 => ?_)
      have wS4 : WT D S4.2.2 := by rw [hS4]; exact w
      clear hS4
      exact OD_some
    · refine OD_ix (fun j5 => ?_)
      refine OD_ite ?_ ?_
      · refine OD_bd (o_X10_swimsOne v0 kv0 v1 S w) (fun _ S6 hS6 => ?_)
        have wS6 : WT D S6.2.2 := by rw [hS6]; exact w
        clear hS6
        exact ob_X10_monthGoes_172 ih v0 kv0 v1 S6 wS6
      · exact ob_X10_monthGoes_172 ih v0 kv0 v1 S w
set_option maxRecDepth 20000 in
theorem ob_X10_monthGoes_134 {D : Nat → Prop} {q28 : Nat → Int32 → St → Option (Unit × St)} (oq28 : ∀ (v0 : Nat) (kv0 : KA D v0 (0, 10)) (v1 : Int32) (S : St), WT D S.2.2 → OD D (q28 v0 v1 S) S) (v0 : Nat) (kv0 : KA D v0 (0, 10)) (v1 : Int32) (S : St) (w : WT D S.2.2) : OD D (b_X10_monthGoes_134 q28 v0 v1 S) S := by
  unfold b_X10_monthGoes_134
  refine OD_nm (fun x1 => ?_)
  exact oq28 v0 kv0 x1 S w
set_option maxRecDepth 20000 in
theorem ob_X10_monthGoes_124 {D : Nat → Prop} {q28 : Nat → Int32 → St → Option (Unit × St)} (oq28 : ∀ (v0 : Nat) (kv0 : KA D v0 (0, 10)) (v1 : Int32) (S : St), WT D S.2.2 → OD D (q28 v0 v1 S) S) (v0 : Nat) (kv0 : KA D v0 (0, 10)) (v1 : Int32) (S : St) (w : WT D S.2.2) : OD D (b_X10_monthGoes_124 q28 v0 v1 S) S := by
  unfold b_X10_monthGoes_124
  refine OD_ix (fun j1 => ?_)
  refine OD_nmI (w.1 _ _ kv0 52 _ rfl).2 (fun S2 hS2 => ?_)
  have wS2 : WT D S2.2.2 := by rw [hS2]; exact w
  clear hS2
  exact ob_X10_monthGoes_134 oq28 v0 kv0 v1 S2 wS2
set_option maxRecDepth 20000 in
theorem ob_X10_monthGoes_28 {D : Nat → Prop} : ∀ (fu : Nat) (v0 : Nat) (kv0 : KA D v0 (0, 10)) (v1 : Int32) (S : St), WT D S.2.2 → OD D (b_X10_monthGoes_28 fu v0 v1 S) S := by
  intro fu
  induction fu with
  | zero => intro v0 kv0 v1 S w; exact OD_none
  | succ fu ih =>
    intro v0 kv0 v1 S w
    rw [b_X10_monthGoes_28]
    refine OD_ix (fun j1 => ?_)
    refine OD_ite ?_ ?_
    · exact ob_X10_monthGoes_142 FU v0 kv0 (0 : Int32) S w
    · refine OD_bd (o_X10_isOff v0 kv0 v1 S w) (fun r3 S2 hS2 => ?_)
      have wS2 : WT D S2.2.2 := by rw [hS2]; exact w
      clear hS2
      refine OD_ite ?_ ?_
      · refine OD_ix (fun j4 => ?_)
        refine OD_bd (o_X10_within (S2.1 (S2.2.2 v0 58) j4) (0 : Int32) (9 : Int32) S2 wS2) (fun r6 S5 hS5 => ?_)
        have wS5 : WT D S5.2.2 := by rw [hS5]; exact wS2
        clear hS5
        refine OD_ix (fun j7 => ?_)
        refine OD_nmI (wS2.1 _ _ kv0 52 _ rfl).2 (fun S8 hS8 => ?_)
        have wS8 : WT D S8.2.2 := by rw [hS8]; exact wS5
        clear hS8
        refine OD_ix (fun j9 => ?_)
        refine OD_bd (o_X10_within (S8.1 (S8.2.2 v0 59) j9) (0 : Int32) (9 : Int32) S8 wS8) (fun r11 S10 hS10 => ?_)
        have wS10 : WT D S10.2.2 := by rw [hS10]; exact wS8
        clear hS10
        refine OD_ix (fun j12 => ?_)
        refine OD_nmI (wS8.1 _ _ kv0 52 _ rfl).2 (fun S13 hS13 => ?_)
        have wS13 : WT D S13.2.2 := by rw [hS13]; exact wS10
        clear hS13
        refine OD_ix (fun j14 => ?_)
        refine OD_ix (fun j15 => ?_)
        refine OD_ite ?_ ?_
        · exact ob_X10_monthGoes_124 ih v0 kv0 v1 S13 wS13
        · refine OD_ix (fun j16 => ?_)
          refine OD_ite ?_ ?_
          · exact ob_X10_monthGoes_134 ih v0 kv0 v1 S13 wS13
          · exact ob_X10_monthGoes_124 ih v0 kv0 v1 S13 wS13
      · exact ob_X10_monthGoes_134 ih v0 kv0 v1 S2 wS2
set_option maxRecDepth 20000 in
theorem ob_X10_monthGoes_2 {D : Nat → Prop} : ∀ (fu : Nat) (v0 : Nat) (kv0 : KA D v0 (0, 10)) (v1 : Int32) (S : St), WT D S.2.2 → OD D (b_X10_monthGoes_2 fu v0 v1 S) S := by
  intro fu
  induction fu with
  | zero => intro v0 kv0 v1 S w; exact OD_none
  | succ fu ih =>
    intro v0 kv0 v1 S w
    rw [b_X10_monthGoes_2]
    refine OD_ix (fun j1 => ?_)
    refine OD_ite ?_ ?_
    · exact ob_X10_monthGoes_28 FU v0 kv0 (0 : Int32) S w
    · refine OD_bd (o_X10_looksAt v0 kv0 v1 S w) (fun _ S2 hS2 => ?_)
      have wS2 : WT D S2.2.2 := by rw [hS2]; exact w
      clear hS2
      refine OD_nm (fun x4 => ?_)
      exact ih v0 kv0 x4 S2 wS2
set_option maxRecDepth 20000 in
theorem o_X10_monthGoes {D : Nat → Prop} (v0 : Nat) (kv0 : KA D v0 (0, 10)) (S : St) (w : WT D S.2.2) : OD D (f_X10_monthGoes v0 S) S := by
  unfold f_X10_monthGoes
  exact ob_X10_monthGoes_2 FU v0 kv0 (0 : Int32) S w
set_option maxRecDepth 20000 in
theorem ob_X10_goes_2 {D : Nat → Prop} : ∀ (fu : Nat) (v0 : Nat) (kv0 : KA D v0 (0, 10)) (v1 : Int32) (v2 : Int32) (S : St), WT D S.2.2 → OD D (b_X10_goes_2 fu v0 v1 v2 S) S := by
  intro fu
  induction fu with
  | zero => intro v0 kv0 v1 v2 S w; exact OD_none
  | succ fu ih =>
    intro v0 kv0 v1 v2 S w
    rw [b_X10_goes_2]
    refine OD_ite ?_ ?_
    · exact OD_some
    · refine OD_bd (o_X10_monthGoes v0 kv0 S w) (fun _ S1 hS1 => ?_)
      have wS1 : WT D S1.2.2 := by rw [hS1]; exact w
      clear hS1
      refine OD_nm (fun x3 => ?_)
      exact ih v0 kv0 v1 x3 S1 wS1
set_option maxRecDepth 20000 in
theorem o_X10_goes {D : Nat → Prop} (v0 : Nat) (kv0 : KA D v0 (0, 10)) (v1 : Int32) (S : St) (w : WT D S.2.2) : OD D (f_X10_goes v0 v1 S) S := by
  unfold f_X10_goes
  exact ob_X10_goes_2 FU v0 kv0 v1 (0 : Int32) S w
set_option maxRecDepth 20000 in
theorem o_X10_mermaid {D : Nat → Prop} (v0 : Nat) (kv0 : KA D v0 (0, 10)) (v1 : Int32) (v2 : Int32) (S : St) (w : WT D S.2.2) : OD D (f_X10_mermaid v0 v1 v2 S) S := by
  unfold f_X10_mermaid
  refine OD_bd (o_X10_isMermaid v0 kv0 v1 S w) (fun r2 S1 hS1 => ?_)
  have wS1 : WT D S1.2.2 := by rw [hS1]; exact w
  clear hS1
  refine OD_ite ?_ ?_
  · exact OD_some
  · refine OD_bd (o_X10_in v2 (0 : Int32) (4 : Int32) S1 wS1) (fun r4 S3 hS3 => ?_)
    have wS3 : WT D S3.2.2 := by rw [hS3]; exact wS1
    clear hS3
    refine OD_ite ?_ ?_
    · exact OD_some
    · refine OD_ite ?_ ?_
      · refine OD_ix (fun j5 => ?_)
        exact OD_some
      · refine OD_ix (fun j6 => ?_)
        exact OD_some

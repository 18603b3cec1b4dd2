-- ==== X8_feel
theorem hy_X8_feel : yX8_feel.cls ≠ "java/lang/invoke/MethodHandle" ∧ yX8_feel.cls ≠ "java/lang/invoke/VarHandle" ∧ (parseMethodDescriptor yX8_feel.desc).map (fun d => d.parameters.length) = some 3 := by decide +kernel
set_option maxRecDepth 20000 in
def b_X8_feel_87 (q13 : Nat → Int32 → Int32 → Int32 → Int32 → St → Option (Unit × St)) (v0 : Nat) (v1 : Int32) (v2 : Int32) (v3 : Int32) (v4 : Int32) (S : St) : Option (Unit × St) := nm (v4 + (1 : Int32)) fun x1 => q13 v0 v1 v2 v3 x1 S
set_option maxRecDepth 20000 in
theorem t_X8_feel_87 {K : KK} (X : CX K cX8_feel 6 RX8 none) (hR : kR K = rmD 4) {q13 : Nat → Int32 → Int32 → Int32 → Int32 → St → Option (Unit × St)} (hq13 : ∀ (v0 : Nat) (kv0 : KA (kDn K) v0 (0, 8)) (v1 : Int32) (v2 : Int32) (v3 : Int32) (v4 : Int32) (S : St), WT (kDn K) S.2.2 → JX K (Zm K (fun _ : Unit => none)) 13 [some (.ref v0), some (.int v1), some (.int v2), some (.int v3), some (.int v4), none] [] (rwN (kN K) S) (kn K) 0 0 (q13 v0 v1 v2 v3 v4 S)) (v0 : Nat) (kv0 : KA (kDn K) v0 (0, 8)) (v1 : Int32) (v2 : Int32) (v3 : Int32) (v4 : Int32) (S : St) (w : WT (kDn K) S.2.2) : JX K (Zm K (fun _ : Unit => none)) 87 [some (.ref v0), some (.int v1), some (.int v2), some (.int v3), some (.int v4), none] [] (rwN (kN K) S) (kn K) 0 0 (b_X8_feel_87 q13 v0 v1 v2 v3 v4 S) := by
  unfold b_X8_feel_87
  refine J_nmv (v4 + (1 : Int32)) (fun x1 ex1 => ?_)
  refine J_iinc X (v := x1) (ls' := [some (.ref v0), some (.int v1), some (.int v2), some (.int v3), some (.int x1), none]) dX8_feel_87 (by decide) rfl (by rw [ex1]; rfl) rfl ?_
  refine J_goto X (tgt := 13) dX8_feel_90 (by decide) ?_
  exact hq13 v0 kv0 v1 v2 v3 x1 S w
set_option maxRecDepth 20000 in
def b_X8_feel_13 : Nat → Nat → Int32 → Int32 → Int32 → Int32 → St → Option (Unit × St)
  | 0, _, _, _, _, _, _ => none
  | fu + 1, v0, v1, v2, v3, v4, S => if (S.1 (S.2.2 v0 0) 2) ≤ v4 then (some ((), S)) else (bd (f_X5_isWorn (S.2.2 v0 1) v4 v1 S) fun r2 S1 => if r2 = 0 then (b_X8_feel_87 (b_X8_feel_13 fu) v0 v1 v2 v3 v4 S1) else (bd (f_X8_pullAt v0 v4 v1 v2 v3 S1) fun r4 S3 => bd (f_X8_wayAcross v0 v4 v2 S3) fun r6 S5 => nm (sI S5 v0 2 ((S3.1 v0 2) + (r4 * r6))) fun S7 => bd (f_X8_wayDown v0 v4 v3 S7) fun r9 S8 => nm (sI S8 v0 3 ((S7.1 v0 3) + (r4 * r9))) fun S10 => b_X8_feel_87 (b_X8_feel_13 fu) v0 v1 v2 v3 v4 S10))
set_option maxRecDepth 20000 in
theorem t_X8_feel_13 {K : KK} (X : CX K cX8_feel 6 RX8 none) (hR : kR K = rmD 4) : ∀ (fu : Nat) (v0 : Nat) (kv0 : KA (kDn K) v0 (0, 8)) (v1 : Int32) (v2 : Int32) (v3 : Int32) (v4 : Int32) (S : St), WT (kDn K) S.2.2 → JX K (Zm K (fun _ : Unit => none)) 13 [some (.ref v0), some (.int v1), some (.int v2), some (.int v3), some (.int v4), none] [] (rwN (kN K) S) (kn K) 0 0 (b_X8_feel_13 fu v0 v1 v2 v3 v4 S) := by
  intro fu
  induction fu with
  | zero => intro v0 kv0 v1 v2 v3 v4 S w; exact J_none
  | succ fu ih =>
    intro v0 kv0 v1 v2 v3 v4 S w
    rw [b_X8_feel_13]
    refine J_iload X dX8_feel_13 rfl ?_
    refine J_aload_n X dX8_feel_15 (i := 0) rfl rfl ?_
    refine T_getR X (kf := 0) cb8 kv0 (by decide) fl_X8_9 (fun _ _ _ => rfl) dX8_feel_16 ?_
    refine T_getI X (kf := 2) cb0 (w.1 _ _ kv0 0 _ rfl) (by decide) fl_X8_19 (fun _ _ _ => rfl) dX8_feel_19 ?_
    refine J_icmp_ge X (tgt := 93) dX8_feel_22 (by decide) ?_ ?_
    · exact T_vret w X dX8_feel_93
    · refine J_aload_n X dX8_feel_25 (i := 0) rfl rfl ?_
      refine T_getR X (kf := 1) cb8 kv0 (by decide) fl_X8_15 (fun _ _ _ => rfl) dX8_feel_26 ?_
      refine J_iload X dX8_feel_29 rfl ?_
      refine J_iload_n X dX8_feel_31 (i := 1) rfl rfl ?_
      refine T_callV (As := [.int v4, .int v1]) w X (C_X5_isWorn (kG K) (S.2.2 v0 1) (w.1 _ _ kv0 1 _ rfl) v4 v1 S) cb5 (w.1 _ _ kv0 1 _ rfl) ml_X8_25 in_yX5_isWorn se_yX5_isWorn ii_RX5 co_yX5_isWorn hy_X5_isWorn (hRd hR (by decide) (by decide)) rfl (Nat.le_of_ble_eq_true rfl) dX8_feel_32 (fun r2 S1 _ wS1 => ?_)
      refine J_if_eq X (tgt := 87) dX8_feel_35 (by decide) ?_ ?_
      · exact t_X8_feel_87 X hR ih v0 kv0 v1 v2 v3 v4 S1 wS1
      · refine J_aload_n X dX8_feel_38 (i := 0) rfl rfl ?_
        refine J_iload X dX8_feel_39 rfl ?_
        refine J_iload_n X dX8_feel_41 (i := 1) rfl rfl ?_
        refine J_iload_n X dX8_feel_42 (i := 2) rfl rfl ?_
        refine J_iload_n X dX8_feel_43 (i := 3) rfl rfl ?_
        refine T_callV (As := [.int v4, .int v1, .int v2, .int v3]) wS1 X (C_X8_pullAt (kG K) v0 kv0 v4 v1 v2 v3 S1) cb8 kv0 ml_X8_93 in_yX8_pullAt se_yX8_pullAt ii_RX8 co_yX8_pullAt hy_X8_pullAt (hRd hR (by decide) (by decide)) rfl (Nat.le_of_ble_eq_true rfl) dX8_feel_44 (fun r4 S3 _ wS3 => ?_)
        refine J_istore X (ls' := [some (.ref v0), some (.int v1), some (.int v2), some (.int v3), some (.int v4), some (.int r4)]) dX8_feel_47 (by decide) rfl ?_
        refine J_aload_n X dX8_feel_49 (i := 0) rfl rfl ?_
        refine J_dup X dX8_feel_50 rfl ?_
        refine T_getI X (kf := 2) cb8 kv0 (by decide) fl_X8_87 (fun _ _ _ => rfl) dX8_feel_51 ?_
        refine J_iload X dX8_feel_54 rfl ?_
        refine J_aload_n X dX8_feel_56 (i := 0) rfl rfl ?_
        refine J_iload X dX8_feel_57 rfl ?_
        refine J_iload_n X dX8_feel_59 (i := 2) rfl rfl ?_
        refine T_callV (As := [.int v4, .int v2]) wS3 X (C_X8_wayAcross (kG K) v0 kv0 v4 v2 S3) cb8 kv0 ml_X8_97 in_yX8_wayAcross se_yX8_wayAcross ii_RX8 co_yX8_wayAcross hy_X8_wayAcross (hRd hR (by decide) (by decide)) rfl (Nat.le_of_ble_eq_true rfl) dX8_feel_60 (fun r6 S5 _ wS5 => ?_)
        refine J_imul X dX8_feel_63 ?_
        refine J_iadd X dX8_feel_64 ?_
        refine T_putI X (kf := 2) cb8 kv0 (by decide) fl_X8_87 (fun _ _ _ => rfl) rfl rfl rfl dX8_feel_65 (fun S7 hS7 => ?_)
        have wS7 : WT (kDn K) S7.2.2 := by rw [hS7]; exact wS5
        clear hS7
        refine J_aload_n X dX8_feel_68 (i := 0) rfl rfl ?_
        refine J_dup X dX8_feel_69 rfl ?_
        refine T_getI X (kf := 3) cb8 kv0 (by decide) fl_X8_90 (fun _ _ _ => rfl) dX8_feel_70 ?_
        refine J_iload X dX8_feel_73 rfl ?_
        refine J_aload_n X dX8_feel_75 (i := 0) rfl rfl ?_
        refine J_iload X dX8_feel_76 rfl ?_
        refine J_iload_n X dX8_feel_78 (i := 3) rfl rfl ?_
        refine T_callV (As := [.int v4, .int v3]) wS7 X (C_X8_wayDown (kG K) v0 kv0 v4 v3 S7) cb8 kv0 ml_X8_100 in_yX8_wayDown se_yX8_wayDown ii_RX8 co_yX8_wayDown hy_X8_wayDown (hRd hR (by decide) (by decide)) rfl (Nat.le_of_ble_eq_true rfl) dX8_feel_79 (fun r9 S8 _ wS8 => ?_)
        refine J_imul X dX8_feel_82 ?_
        refine J_iadd X dX8_feel_83 ?_
        refine T_putI X (kf := 3) cb8 kv0 (by decide) fl_X8_90 (fun _ _ _ => rfl) rfl rfl rfl dX8_feel_84 (fun S10 hS10 => ?_)
        have wS10 : WT (kDn K) S10.2.2 := by rw [hS10]; exact wS8
        clear hS10
        refine J_mask [true, true, true, true, true, false] ?_
        exact t_X8_feel_87 X hR ih v0 kv0 v1 v2 v3 v4 S10 wS10
set_option maxRecDepth 20000 in
def f_X8_feel (v0 : Nat) (v1 : Int32) (v2 : Int32) (v3 : Int32) (S : St) : Option (Unit × St) := nm (sI S v0 2 (0 : Int32)) fun S1 => nm (sI S1 v0 3 (0 : Int32)) fun S2 => b_X8_feel_13 FU v0 v1 v2 v3 (0 : Int32) S2
set_option maxRecDepth 20000 in
theorem t_X8_feel_0 {K : KK} (X : CX K cX8_feel 6 RX8 none) (hR : kR K = rmD 4) (v0 : Nat) (kv0 : KA (kDn K) v0 (0, 8)) (v1 : Int32) (v2 : Int32) (v3 : Int32) (S : St) (w : WT (kDn K) S.2.2) : JX K (Zm K (fun _ : Unit => none)) 0 [some (.ref v0), some (.int v1), some (.int v2), some (.int v3), none, none] [] (rwN (kN K) S) (kn K) 0 0 (f_X8_feel v0 v1 v2 v3 S) := by
  unfold f_X8_feel
  refine J_aload_n X dX8_feel_0 (i := 0) rfl rfl ?_
  refine J_iconst X (v := (0 : Int32)) dX8_feel_1 (by decide) ?_
  refine T_putI X (kf := 2) cb8 kv0 (by decide) fl_X8_87 (fun _ _ _ => rfl) rfl rfl rfl dX8_feel_2 (fun S1 hS1 => ?_)
  have wS1 : WT (kDn K) S1.2.2 := by rw [hS1]; exact w
  clear hS1
  refine J_aload_n X dX8_feel_5 (i := 0) rfl rfl ?_
  refine J_iconst X (v := (0 : Int32)) dX8_feel_6 (by decide) ?_
  refine T_putI X (kf := 3) cb8 kv0 (by decide) fl_X8_90 (fun _ _ _ => rfl) rfl rfl rfl dX8_feel_7 (fun S2 hS2 => ?_)
  have wS2 : WT (kDn K) S2.2.2 := by rw [hS2]; exact wS1
  clear hS2
  refine J_iconst X (v := (0 : Int32)) dX8_feel_10 (by decide) ?_
  refine J_istore X (ls' := [some (.ref v0), some (.int v1), some (.int v2), some (.int v3), some (.int (0 : Int32)), none]) dX8_feel_11 (by decide) rfl ?_
  exact t_X8_feel_13 X hR FU v0 kv0 v1 v2 v3 (0 : Int32) S2 wS2
theorem C_X8_feel (G : GG) (v0 : Nat) (kv0 : KA (gD G) v0 (0, 8)) (v1 : Int32) (v2 : Int32) (v3 : Int32) (S : St) : CM G yX8_feel cX8_feel 6 none 4 [.ref v0, .int v1, .int v2, .int v3] S (fun _ : Unit => none) (f_X8_feel v0 v1 v2 v3 S) :=
  CM_of (by decide) (Nat.le_of_ble_eq_true rfl) rfl (fun K hG X hR w => by subst hG; exact t_X8_feel_0 X hR v0 kv0 v1 v2 v3 S w)
-- ==== X8_varsOfPerson
theorem hy_X8_varsOfPerson : yX8_varsOfPerson.cls ≠ "java/lang/invoke/MethodHandle" ∧ yX8_varsOfPerson.cls ≠ "java/lang/invoke/VarHandle" ∧ (parseMethodDescriptor yX8_varsOfPerson.desc).map (fun d => d.parameters.length) = some 3 := by decide +kernel
set_option maxRecDepth 20000 in
def f_X8_varsOfPerson (v0 : Nat) (v1 : Int32) (v2 : Int32) (v3 : Int32) (S : St) : Option (Nat × St) := bd (f_X8_freshVars v0 S) fun r2 S1 => if r2 = S1.2.2 (S1.2.2 (S1.2.2 v0 0) 10) 0 then ((ix v1 6).bind fun j3 => (ix (4 : Int32) 9).bind fun j4 => nm (sI S1 r2 j4 (S1.1 (S1.2.2 (S1.2.2 v0 0) 7) j3)) fun S5 => (ix (5 : Int32) 9).bind fun j6 => nm (sI S5 r2 j6 v2) fun S7 => (ix (6 : Int32) 9).bind fun j8 => nm (sI S7 r2 j8 v3) fun S9 => bd (f_X8_wornBy v0 v1 S9) fun r11 S10 => (ix (8 : Int32) 9).bind fun j12 => nm (sI S10 r2 j12 r11) fun S13 => some (r2, S13)) else none
set_option maxRecDepth 20000 in
theorem t_X8_varsOfPerson_0 {K : KK} (X : CX K cX8_varsOfPerson 5 RX8 (some (.array .int))) (hR : kR K = rmD 2) (v0 : Nat) (kv0 : KA (kDn K) v0 (0, 8)) (v1 : Int32) (v2 : Int32) (v3 : Int32) (S : St) (w : WT (kDn K) S.2.2) : JX K (Zm K (fun v : Nat => some (.ref v))) 0 [some (.ref v0), some (.int v1), some (.int v2), some (.int v3), none] [] (rwN (kN K) S) (kn K) 0 0 (f_X8_varsOfPerson v0 v1 v2 v3 S) := by
  unfold f_X8_varsOfPerson
  refine J_aload_n X dX8_varsOfPerson_0 (i := 0) rfl rfl ?_
  refine T_callV (As := []) w X (C_X8_freshVars (kG K) v0 kv0 S) cb8 kv0 ml_X8_67 in_yX8_freshVars se_yX8_freshVars ii_RX8 co_yX8_freshVars hy_X8_freshVars (hRd hR (by decide) (by decide)) rfl (Nat.le_of_ble_eq_true rfl) dX8_varsOfPerson_1 (fun r2 S1 _ wS1 => ?_)
  refine J_grd (fun hr2 => ?_)
  have kr2 : KA (kDn K) r2 (1, 9) := by rw [hr2]; exact wS1.1 _ _ (wS1.1 _ _ (wS1.1 _ _ kv0 0 _ rfl) 10 _ rfl) 0 _ rfl
  refine J_astore X (ls' := [some (.ref v0), some (.int v1), some (.int v2), some (.int v3), some (.ref r2)]) dX8_varsOfPerson_4 (by decide) rfl ?_
  refine J_aload X dX8_varsOfPerson_6 rfl ?_
  refine J_iconst X (v := (4 : Int32)) dX8_varsOfPerson_8 (by decide) ?_
  refine J_aload_n X dX8_varsOfPerson_9 (i := 0) rfl rfl ?_
  refine T_getR X (kf := 0) cb8 kv0 (by decide) fl_X8_9 (fun _ _ _ => rfl) dX8_varsOfPerson_10 ?_
  refine T_getR X (kf := 7) cb0 (wS1.1 _ _ kv0 0 _ rfl) (by decide) fl_X8_74 (fun _ _ _ => rfl) dX8_varsOfPerson_13 ?_
  refine J_iload_n X dX8_varsOfPerson_16 (i := 1) rfl rfl ?_
  refine T_iald X (wS1.1 _ _ (wS1.1 _ _ kv0 0 _ rfl) 7 _ rfl) dX8_varsOfPerson_17 (fun j3 => ?_)
  refine T_iast X kr2 dX8_varsOfPerson_18 (fun j4 S5 hS5 => ?_)
  have wS5 : WT (kDn K) S5.2.2 := by rw [hS5]; exact wS1
  clear hS5
  refine J_aload X dX8_varsOfPerson_19 rfl ?_
  refine J_iconst X (v := (5 : Int32)) dX8_varsOfPerson_21 (by decide) ?_
  refine J_iload_n X dX8_varsOfPerson_22 (i := 2) rfl rfl ?_
  refine T_iast X kr2 dX8_varsOfPerson_23 (fun j6 S7 hS7 => ?_)
  have wS7 : WT (kDn K) S7.2.2 := by rw [hS7]; exact wS5
  clear hS7
  refine J_aload X dX8_varsOfPerson_24 rfl ?_
  refine J_bipush X (v := (6 : Int32)) dX8_varsOfPerson_26 (by decide) ?_
  refine J_iload_n X dX8_varsOfPerson_28 (i := 3) rfl rfl ?_
  refine T_iast X kr2 dX8_varsOfPerson_29 (fun j8 S9 hS9 => ?_)
  have wS9 : WT (kDn K) S9.2.2 := by rw [hS9]; exact wS7
  clear hS9
  refine J_aload X dX8_varsOfPerson_30 rfl ?_
  refine J_bipush X (v := (8 : Int32)) dX8_varsOfPerson_32 (by decide) ?_
  refine J_aload_n X dX8_varsOfPerson_34 (i := 0) rfl rfl ?_
  refine J_iload_n X dX8_varsOfPerson_35 (i := 1) rfl rfl ?_
  refine T_callV (As := [.int v1]) wS9 X (C_X8_wornBy (kG K) v0 kv0 v1 S9) cb8 kv0 ml_X8_103 in_yX8_wornBy se_yX8_wornBy ii_RX8 co_yX8_wornBy hy_X8_wornBy (hRd hR (by decide) (by decide)) rfl (Nat.le_of_ble_eq_true rfl) dX8_varsOfPerson_36 (fun r11 S10 _ wS10 => ?_)
  refine T_iast X kr2 dX8_varsOfPerson_39 (fun j12 S13 hS13 => ?_)
  have wS13 : WT (kDn K) S13.2.2 := by rw [hS13]; exact wS10
  clear hS13
  refine J_aload X dX8_varsOfPerson_40 rfl ?_
  exact T_aret wS13 X (Or.inr ⟨_, rfl⟩) dX8_varsOfPerson_42
theorem C_X8_varsOfPerson (G : GG) (v0 : Nat) (kv0 : KA (gD G) v0 (0, 8)) (v1 : Int32) (v2 : Int32) (v3 : Int32) (S : St) : CM G yX8_varsOfPerson cX8_varsOfPerson 5 (some (.array .int)) 2 [.ref v0, .int v1, .int v2, .int v3] S (fun v : Nat => some (.ref v)) (f_X8_varsOfPerson v0 v1 v2 v3 S) :=
  CM_of (by decide) (Nat.le_of_ble_eq_true rfl) rfl (fun K hG X hR w => by subst hG; exact t_X8_varsOfPerson_0 X hR v0 kv0 v1 v2 v3 S w)
-- ==== X8_standsAt
theorem hy_X8_standsAt : yX8_standsAt.cls ≠ "java/lang/invoke/MethodHandle" ∧ yX8_standsAt.cls ≠ "java/lang/invoke/VarHandle" ∧ (parseMethodDescriptor yX8_standsAt.desc).map (fun d => d.parameters.length) = some 3 := by decide +kernel
set_option maxRecDepth 20000 in
def f_X8_standsAt (v0 : Nat) (v1 : Int32) (v2 : Int32) (v3 : Int32) (S : St) : Option (Int32 × St) := bd (f_X8_varsOfPerson v0 v1 v2 v3 S) fun r2 S1 => if r2 = S1.2.2 (S1.2.2 (S1.2.2 v0 0) 10) 0 then (bd (f_X2_held (S1.2.2 (S1.2.2 v0 0) 10) (1 : Int32) (999 : Int32) S1) fun r4 S3 => some (r4, S3)) else none
set_option maxRecDepth 20000 in
theorem t_X8_standsAt_0 {K : KK} (X : CX K cX8_standsAt 4 RX8 (some .int)) (hR : kR K = rmD 3) (v0 : Nat) (kv0 : KA (kDn K) v0 (0, 8)) (v1 : Int32) (v2 : Int32) (v3 : Int32) (S : St) (w : WT (kDn K) S.2.2) : JX K (Zm K (fun v : Int32 => some (.int v))) 0 [some (.ref v0), some (.int v1), some (.int v2), some (.int v3)] [] (rwN (kN K) S) (kn K) 0 0 (f_X8_standsAt v0 v1 v2 v3 S) := by
  unfold f_X8_standsAt
  refine J_aload_n X dX8_standsAt_0 (i := 0) rfl rfl ?_
  refine J_iload_n X dX8_standsAt_1 (i := 1) rfl rfl ?_
  refine J_iload_n X dX8_standsAt_2 (i := 2) rfl rfl ?_
  refine J_iload_n X dX8_standsAt_3 (i := 3) rfl rfl ?_
  refine T_callV (As := [.int v1, .int v2, .int v3]) w X (C_X8_varsOfPerson (kG K) v0 kv0 v1 v2 v3 S) cb8 kv0 ml_X8_107 in_yX8_varsOfPerson se_yX8_varsOfPerson ii_RX8 co_yX8_varsOfPerson hy_X8_varsOfPerson (hRd hR (by decide) (by decide)) rfl (Nat.le_of_ble_eq_true rfl) dX8_standsAt_4 (fun r2 S1 _ wS1 => ?_)
  refine J_grd (fun hr2 => ?_)
  have kr2 : KA (kDn K) r2 (1, 9) := by rw [hr2]; exact wS1.1 _ _ (wS1.1 _ _ (wS1.1 _ _ kv0 0 _ rfl) 10 _ rfl) 0 _ rfl
  refine J_pop X dX8_standsAt_7 rfl ?_
  refine J_aload_n X dX8_standsAt_8 (i := 0) rfl rfl ?_
  refine T_getR X (kf := 0) cb8 kv0 (by decide) fl_X8_9 (fun _ _ _ => rfl) dX8_standsAt_9 ?_
  refine T_getR X (kf := 10) cb0 (wS1.1 _ _ kv0 0 _ rfl) (by decide) fl_X8_31 (fun _ _ _ => rfl) dX8_standsAt_12 ?_
  refine J_iconst X (v := (1 : Int32)) dX8_standsAt_15 (by decide) ?_
  refine J_sipush X (v := (999 : Int32)) dX8_standsAt_16 (by decide) ?_
  refine T_callV (As := [.int (1 : Int32), .int (999 : Int32)]) wS1 X (C_X2_held (kG K) (S1.2.2 (S1.2.2 v0 0) 10) (wS1.1 _ _ (wS1.1 _ _ kv0 0 _ rfl) 10 _ rfl) (1 : Int32) (999 : Int32) S1) cb2 (wS1.1 _ _ (wS1.1 _ _ kv0 0 _ rfl) 10 _ rfl) ml_X8_77 in_yX2_held se_yX2_held ii_RX2 co_yX2_held hy_X2_held (hRd hR (by decide) (by decide)) rfl (Nat.le_of_ble_eq_true rfl) dX8_standsAt_19 (fun r4 S3 _ wS3 => ?_)
  exact T_iret wS3 X dX8_standsAt_22
theorem C_X8_standsAt (G : GG) (v0 : Nat) (kv0 : KA (gD G) v0 (0, 8)) (v1 : Int32) (v2 : Int32) (v3 : Int32) (S : St) : CM G yX8_standsAt cX8_standsAt 4 (some .int) 3 [.ref v0, .int v1, .int v2, .int v3] S (fun v : Int32 => some (.int v)) (f_X8_standsAt v0 v1 v2 v3 S) :=
  CM_of (by decide) (Nat.le_of_ble_eq_true rfl) rfl (fun K hG X hR w => by subst hG; exact t_X8_standsAt_0 X hR v0 kv0 v1 v2 v3 S w)
-- ==== X8_stormOf
theorem hy_X8_stormOf : yX8_stormOf.cls ≠ "java/lang/invoke/MethodHandle" ∧ yX8_stormOf.cls ≠ "java/lang/invoke/VarHandle" ∧ (parseMethodDescriptor yX8_stormOf.desc).map (fun d => d.parameters.length) = some 1 := by decide +kernel
set_option maxRecDepth 20000 in
def f_X8_stormOf (v0 : Nat) (v1 : Int32) (S : St) : Option (Int32 × St) := (ix ((16 : Int32) + v1) 36).bind fun j1 => (ix ((22 : Int32) + v1) 36).bind fun j2 => bd (f_X8_varsOfPerson v0 v1 (S.1 (S.2.2 (S.2.2 v0 1) 0) j1) (S.1 (S.2.2 (S.2.2 v0 1) 0) j2) S) fun r4 S3 => if r4 = S3.2.2 (S3.2.2 (S3.2.2 v0 0) 10) 0 then (bd (f_X2_held (S3.2.2 (S3.2.2 v0 0) 10) (3 : Int32) (100 : Int32) S3) fun r6 S5 => some (r6, S5)) else none
set_option maxRecDepth 20000 in
theorem t_X8_stormOf_0 {K : KK} (X : CX K cX8_stormOf 2 RX8 (some .int)) (hR : kR K = rmD 3) (v0 : Nat) (kv0 : KA (kDn K) v0 (0, 8)) (v1 : Int32) (S : St) (w : WT (kDn K) S.2.2) : JX K (Zm K (fun v : Int32 => some (.int v))) 0 [some (.ref v0), some (.int v1)] [] (rwN (kN K) S) (kn K) 0 0 (f_X8_stormOf v0 v1 S) := by
  unfold f_X8_stormOf
  refine J_aload_n X dX8_stormOf_0 (i := 0) rfl rfl ?_
  refine J_iload_n X dX8_stormOf_1 (i := 1) rfl rfl ?_
  refine J_aload_n X dX8_stormOf_2 (i := 0) rfl rfl ?_
  refine T_getR X (kf := 1) cb8 kv0 (by decide) fl_X8_15 (fun _ _ _ => rfl) dX8_stormOf_3 ?_
  refine T_getR X (kf := 0) cb5 (w.1 _ _ kv0 1 _ rfl) (by decide) fl_X8_81 (fun _ _ _ => rfl) dX8_stormOf_6 ?_
  refine J_bipush X (v := (16 : Int32)) dX8_stormOf_9 (by decide) ?_
  refine J_iload_n X dX8_stormOf_11 (i := 1) rfl rfl ?_
  refine J_iadd X dX8_stormOf_12 ?_
  refine T_iald X (w.1 _ _ (w.1 _ _ kv0 1 _ rfl) 0 _ rfl) dX8_stormOf_13 (fun j1 => ?_)
  refine J_aload_n X dX8_stormOf_14 (i := 0) rfl rfl ?_
  refine T_getR X (kf := 1) cb8 kv0 (by decide) fl_X8_15 (fun _ _ _ => rfl) dX8_stormOf_15 ?_
  refine T_getR X (kf := 0) cb5 (w.1 _ _ kv0 1 _ rfl) (by decide) fl_X8_81 (fun _ _ _ => rfl) dX8_stormOf_18 ?_
  refine J_bipush X (v := (22 : Int32)) dX8_stormOf_21 (by decide) ?_
  refine J_iload_n X dX8_stormOf_23 (i := 1) rfl rfl ?_
  refine J_iadd X dX8_stormOf_24 ?_
  refine T_iald X (w.1 _ _ (w.1 _ _ kv0 1 _ rfl) 0 _ rfl) dX8_stormOf_25 (fun j2 => ?_)
  refine T_callV (As := [.int v1, .int (S.1 (S.2.2 (S.2.2 v0 1) 0) j1), .int (S.1 (S.2.2 (S.2.2 v0 1) 0) j2)]) w X (C_X8_varsOfPerson (kG K) v0 kv0 v1 (S.1 (S.2.2 (S.2.2 v0 1) 0) j1) (S.1 (S.2.2 (S.2.2 v0 1) 0) j2) S) cb8 kv0 ml_X8_107 in_yX8_varsOfPerson se_yX8_varsOfPerson ii_RX8 co_yX8_varsOfPerson hy_X8_varsOfPerson (hRd hR (by decide) (by decide)) rfl (Nat.le_of_ble_eq_true rfl) dX8_stormOf_26 (fun r4 S3 _ wS3 => ?_)
  refine J_grd (fun hr4 => ?_)
  have kr4 : KA (kDn K) r4 (1, 9) := by rw [hr4]; exact wS3.1 _ _ (wS3.1 _ _ (wS3.1 _ _ kv0 0 _ rfl) 10 _ rfl) 0 _ rfl
  refine J_pop X dX8_stormOf_29 rfl ?_
  refine J_aload_n X dX8_stormOf_30 (i := 0) rfl rfl ?_
  refine T_getR X (kf := 0) cb8 kv0 (by decide) fl_X8_9 (fun _ _ _ => rfl) dX8_stormOf_31 ?_
  refine T_getR X (kf := 10) cb0 (wS3.1 _ _ kv0 0 _ rfl) (by decide) fl_X8_31 (fun _ _ _ => rfl) dX8_stormOf_34 ?_
  refine J_iconst X (v := (3 : Int32)) dX8_stormOf_37 (by decide) ?_
  refine J_bipush X (v := (100 : Int32)) dX8_stormOf_38 (by decide) ?_
  refine T_callV (As := [.int (3 : Int32), .int (100 : Int32)]) wS3 X (C_X2_held (kG K) (S3.2.2 (S3.2.2 v0 0) 10) (wS3.1 _ _ (wS3.1 _ _ kv0 0 _ rfl) 10 _ rfl) (3 : Int32) (100 : Int32) S3) cb2 (wS3.1 _ _ (wS3.1 _ _ kv0 0 _ rfl) 10 _ rfl) ml_X8_77 in_yX2_held se_yX2_held ii_RX2 co_yX2_held hy_X2_held (hRd hR (by decide) (by decide)) rfl (Nat.le_of_ble_eq_true rfl) dX8_stormOf_40 (fun r6 S5 _ wS5 => ?_)
  exact T_iret wS5 X dX8_stormOf_43
theorem C_X8_stormOf (G : GG) (v0 : Nat) (kv0 : KA (gD G) v0 (0, 8)) (v1 : Int32) (S : St) : CM G yX8_stormOf cX8_stormOf 2 (some .int) 3 [.ref v0, .int v1] S (fun v : Int32 => some (.int v)) (f_X8_stormOf v0 v1 S) :=
  CM_of (by decide) (Nat.le_of_ble_eq_true rfl) rfl (fun K hG X hR w => by subst hG; exact t_X8_stormOf_0 X hR v0 kv0 v1 S w)
-- ==== X8_isMovedAt
theorem hy_X8_isMovedAt : yX8_isMovedAt.cls ≠ "java/lang/invoke/MethodHandle" ∧ yX8_isMovedAt.cls ≠ "java/lang/invoke/VarHandle" ∧ (parseMethodDescriptor yX8_isMovedAt.desc).map (fun d => d.parameters.length) = some 3 := by decide +kernel
set_option maxRecDepth 20000 in
def b_X8_isMovedAt_40  (S : St) : Option (Int32 × St) := some ((1 : Int32), S)
set_option maxRecDepth 20000 in
theorem t_X8_isMovedAt_40 {K : KK} (X : CX K cX8_isMovedAt 5 RX8 (some .boolean)) (hR : kR K = rmD 5)  (S : St) (w : WT (kDn K) S.2.2) : JX K (Zm K (fun v : Int32 => some (.int v))) 40 [none, none, none, none, none] [] (rwN (kN K) S) (kn K) 0 0 (b_X8_isMovedAt_40  S) := by
  unfold b_X8_isMovedAt_40
  refine J_iconst X (v := (1 : Int32)) dX8_isMovedAt_40 (by decide) ?_
  refine J_goto X (tgt := 45) dX8_isMovedAt_41 (by decide) ?_
  exact T_zret w X (by decide) dX8_isMovedAt_45
set_option maxRecDepth 20000 in
def f_X8_isMovedAt (v0 : Nat) (v1 : Int32) (v2 : Int32) (v3 : Int32) (S : St) : Option (Int32 × St) := bd (f_X8_feel v0 v1 v2 v3 S) fun _ S1 => bd (f_X8_standsAt v0 v1 v2 v3 S1) fun r4 S3 => if r4 < (abI (S3.1 v0 2)) then (b_X8_isMovedAt_40 S3) else (if (abI (S3.1 v0 3)) ≤ r4 then (some ((0 : Int32), S3)) else (b_X8_isMovedAt_40 S3))
set_option maxRecDepth 20000 in
theorem t_X8_isMovedAt_0 {K : KK} (X : CX K cX8_isMovedAt 5 RX8 (some .boolean)) (hR : kR K = rmD 5) (v0 : Nat) (kv0 : KA (kDn K) v0 (0, 8)) (v1 : Int32) (v2 : Int32) (v3 : Int32) (S : St) (w : WT (kDn K) S.2.2) : JX K (Zm K (fun v : Int32 => some (.int v))) 0 [some (.ref v0), some (.int v1), some (.int v2), some (.int v3), none] [] (rwN (kN K) S) (kn K) 0 0 (f_X8_isMovedAt v0 v1 v2 v3 S) := by
  unfold f_X8_isMovedAt
  refine J_aload_n X dX8_isMovedAt_0 (i := 0) rfl rfl ?_
  refine J_iload_n X dX8_isMovedAt_1 (i := 1) rfl rfl ?_
  refine J_iload_n X dX8_isMovedAt_2 (i := 2) rfl rfl ?_
  refine J_iload_n X dX8_isMovedAt_3 (i := 3) rfl rfl ?_
  refine T_callV (As := [.int v1, .int v2, .int v3]) w X (C_X8_feel (kG K) v0 kv0 v1 v2 v3 S) cb8 kv0 ml_X8_111 in_yX8_feel se_yX8_feel ii_RX8 co_yX8_feel hy_X8_feel (hRd hR (by decide) (by decide)) rfl (Nat.le_of_ble_eq_true rfl) dX8_isMovedAt_4 (fun _ S1 _ wS1 => ?_)
  refine J_aload_n X dX8_isMovedAt_7 (i := 0) rfl rfl ?_
  refine J_iload_n X dX8_isMovedAt_8 (i := 1) rfl rfl ?_
  refine J_iload_n X dX8_isMovedAt_9 (i := 2) rfl rfl ?_
  refine J_iload_n X dX8_isMovedAt_10 (i := 3) rfl rfl ?_
  refine T_callV (As := [.int v1, .int v2, .int v3]) wS1 X (C_X8_standsAt (kG K) v0 kv0 v1 v2 v3 S1) cb8 kv0 ml_X8_115 in_yX8_standsAt se_yX8_standsAt ii_RX8 co_yX8_standsAt hy_X8_standsAt (hRd hR (by decide) (by decide)) rfl (Nat.le_of_ble_eq_true rfl) dX8_isMovedAt_11 (fun r4 S3 _ wS3 => ?_)
  refine J_istore X (ls' := [some (.ref v0), some (.int v1), some (.int v2), some (.int v3), some (.int r4)]) dX8_isMovedAt_14 (by decide) rfl ?_
  refine J_aload_n X dX8_isMovedAt_16 (i := 0) rfl rfl ?_
  refine T_getI X (kf := 2) cb8 kv0 (by decide) fl_X8_87 (fun _ _ _ => rfl) dX8_isMovedAt_17 ?_
  refine T_mabs X ml_X8_118 st_Lib_Math_abs_name ii_java_lang_Math co_Lib_Math_abs_name ⟨by rw [hR]; exact Nat.le_of_ble_eq_true rfl, by rw [hR]; exact Nat.le_of_ble_eq_true rfl⟩ (Nat.le_of_ble_eq_true rfl) dX8_isMovedAt_20 ?_
  refine J_iload X dX8_isMovedAt_23 rfl ?_
  refine J_icmp_gt X (tgt := 40) dX8_isMovedAt_25 (by decide) ?_ ?_
  · refine J_mask [false, false, false, false, false] ?_
    exact t_X8_isMovedAt_40 X hR S3 wS3
  · refine J_aload_n X dX8_isMovedAt_28 (i := 0) rfl rfl ?_
    refine T_getI X (kf := 3) cb8 kv0 (by decide) fl_X8_90 (fun _ _ _ => rfl) dX8_isMovedAt_29 ?_
    refine T_mabs X ml_X8_118 st_Lib_Math_abs_name ii_java_lang_Math co_Lib_Math_abs_name ⟨by rw [hR]; exact Nat.le_of_ble_eq_true rfl, by rw [hR]; exact Nat.le_of_ble_eq_true rfl⟩ (Nat.le_of_ble_eq_true rfl) dX8_isMovedAt_32 ?_
    refine J_iload X dX8_isMovedAt_35 rfl ?_
    refine J_icmp_le X (tgt := 44) dX8_isMovedAt_37 (by decide) ?_ ?_
    · refine J_iconst X (v := (0 : Int32)) dX8_isMovedAt_44 (by decide) ?_
      exact T_zret wS3 X (by decide) dX8_isMovedAt_45
    · refine J_mask [false, false, false, false, false] ?_
      exact t_X8_isMovedAt_40 X hR S3 wS3
theorem C_X8_isMovedAt (G : GG) (v0 : Nat) (kv0 : KA (gD G) v0 (0, 8)) (v1 : Int32) (v2 : Int32) (v3 : Int32) (S : St) : CM G yX8_isMovedAt cX8_isMovedAt 5 (some .boolean) 5 [.ref v0, .int v1, .int v2, .int v3] S (fun v : Int32 => some (.int v)) (f_X8_isMovedAt v0 v1 v2 v3 S) :=
  CM_of (by decide) (Nat.le_of_ble_eq_true rfl) rfl (fun K hG X hR w => by subst hG; exact t_X8_isMovedAt_0 X hR v0 kv0 v1 v2 v3 S w)
-- ==== X8_priceOf
theorem hy_X8_priceOf : yX8_priceOf.cls ≠ "java/lang/invoke/MethodHandle" ∧ yX8_priceOf.cls ≠ "java/lang/invoke/VarHandle" ∧ (parseMethodDescriptor yX8_priceOf.desc).map (fun d => d.parameters.length) = some 1 := by decide +kernel
set_option maxRecDepth 20000 in
def f_X8_priceOf (v0 : Nat) (v1 : Int32) (S : St) : Option (Int32 × St) := (ix ((28 : Int32) + v1) 36).bind fun j1 => nm (S.1 (S.2.2 (S.2.2 v0 1) 0) j1) fun x2 => bd (f_X8_freshVars v0 S) fun r4 S3 => if r4 = S3.2.2 (S3.2.2 (S3.2.2 v0 0) 10) 0 then ((ix v1 8).bind fun j5 => (ix (0 : Int32) 9).bind fun j6 => nm (sI S3 r4 j6 (S3.1 (S3.2.2 (S3.2.2 v0 0) 9) j5)) fun S7 => (ix (7 : Int32) 9).bind fun j8 => nm (sI S7 r4 j8 v1) fun S9 => bd (f_X8_wornBy v0 x2 S9) fun r11 S10 => (ix (8 : Int32) 9).bind fun j12 => nm (sI S10 r4 j12 r11) fun S13 => (ix v1 8).bind fun j14 => (ix ((16 : Int32) + x2) 36).bind fun j15 => (ix ((22 : Int32) + x2) 36).bind fun j16 => bd (f_X5_farOf (S13.2.2 v0 1) (S13.1 (S13.2.2 (S13.2.2 v0 0) 8) j14) (S13.1 (S13.2.2 (S13.2.2 v0 1) 0) j15) (S13.1 (S13.2.2 (S13.2.2 v0 1) 0) j16) S13) fun r18 S17 => (ix (1 : Int32) 9).bind fun j19 => nm (sI S17 r4 j19 r18) fun S20 => bd (f_X2_held (S20.2.2 (S20.2.2 v0 0) 10) (2 : Int32) (999 : Int32) S20) fun r22 S21 => some (r22, S21)) else none
set_option maxRecDepth 20000 in
theorem t_X8_priceOf_0 {K : KK} (X : CX K cX8_priceOf 4 RX8 (some .int)) (hR : kR K = rmD 3) (v0 : Nat) (kv0 : KA (kDn K) v0 (0, 8)) (v1 : Int32) (S : St) (w : WT (kDn K) S.2.2) : JX K (Zm K (fun v : Int32 => some (.int v))) 0 [some (.ref v0), some (.int v1), none, none] [] (rwN (kN K) S) (kn K) 0 0 (f_X8_priceOf v0 v1 S) := by
  unfold f_X8_priceOf
  refine J_aload_n X dX8_priceOf_0 (i := 0) rfl rfl ?_
  refine T_getR X (kf := 1) cb8 kv0 (by decide) fl_X8_15 (fun _ _ _ => rfl) dX8_priceOf_1 ?_
  refine T_getR X (kf := 0) cb5 (w.1 _ _ kv0 1 _ rfl) (by decide) fl_X8_81 (fun _ _ _ => rfl) dX8_priceOf_4 ?_
  refine J_bipush X (v := (28 : Int32)) dX8_priceOf_7 (by decide) ?_
  refine J_iload_n X dX8_priceOf_9 (i := 1) rfl rfl ?_
  refine J_iadd X dX8_priceOf_10 ?_
  refine T_iald X (w.1 _ _ (w.1 _ _ kv0 1 _ rfl) 0 _ rfl) dX8_priceOf_11 (fun j1 => ?_)
  refine J_nmi (fun x2 => ?_)
  refine J_istore_n X (i := 2) (ls' := [some (.ref v0), some (.int v1), some (.int x2), none]) dX8_priceOf_12 rfl (by decide) rfl ?_
  refine J_aload_n X dX8_priceOf_13 (i := 0) rfl rfl ?_
  refine T_callV (As := []) w X (C_X8_freshVars (kG K) v0 kv0 S) cb8 kv0 ml_X8_67 in_yX8_freshVars se_yX8_freshVars ii_RX8 co_yX8_freshVars hy_X8_freshVars (hRd hR (by decide) (by decide)) rfl (Nat.le_of_ble_eq_true rfl) dX8_priceOf_14 (fun r4 S3 _ wS3 => ?_)
  refine J_grd (fun hr4 => ?_)
  have kr4 : KA (kDn K) r4 (1, 9) := by rw [hr4]; exact wS3.1 _ _ (wS3.1 _ _ (wS3.1 _ _ kv0 0 _ rfl) 10 _ rfl) 0 _ rfl
  refine J_astore_n X (i := 3) (ls' := [some (.ref v0), some (.int v1), some (.int x2), some (.ref r4)]) dX8_priceOf_17 rfl (by decide) rfl ?_
  refine J_aload_n X dX8_priceOf_18 (i := 3) rfl rfl ?_
  refine J_iconst X (v := (0 : Int32)) dX8_priceOf_19 (by decide) ?_
  refine J_aload_n X dX8_priceOf_20 (i := 0) rfl rfl ?_
  refine T_getR X (kf := 0) cb8 kv0 (by decide) fl_X8_9 (fun _ _ _ => rfl) dX8_priceOf_21 ?_
  refine T_getR X (kf := 9) cb0 (wS3.1 _ _ kv0 0 _ rfl) (by decide) fl_X8_71 (fun _ _ _ => rfl) dX8_priceOf_24 ?_
  refine J_iload_n X dX8_priceOf_27 (i := 1) rfl rfl ?_
  refine T_iald X (wS3.1 _ _ (wS3.1 _ _ kv0 0 _ rfl) 9 _ rfl) dX8_priceOf_28 (fun j5 => ?_)
  refine T_iast X kr4 dX8_priceOf_29 (fun j6 S7 hS7 => ?_)
  have wS7 : WT (kDn K) S7.2.2 := by rw [hS7]; exact wS3
  clear hS7
  refine J_aload_n X dX8_priceOf_30 (i := 3) rfl rfl ?_
  refine J_bipush X (v := (7 : Int32)) dX8_priceOf_31 (by decide) ?_
  refine J_iload_n X dX8_priceOf_33 (i := 1) rfl rfl ?_
  refine T_iast X kr4 dX8_priceOf_34 (fun j8 S9 hS9 => ?_)
  have wS9 : WT (kDn K) S9.2.2 := by rw [hS9]; exact wS7
  clear hS9
  refine J_aload_n X dX8_priceOf_35 (i := 3) rfl rfl ?_
  refine J_bipush X (v := (8 : Int32)) dX8_priceOf_36 (by decide) ?_
  refine J_aload_n X dX8_priceOf_38 (i := 0) rfl rfl ?_
  refine J_iload_n X dX8_priceOf_39 (i := 2) rfl rfl ?_
  refine T_callV (As := [.int x2]) wS9 X (C_X8_wornBy (kG K) v0 kv0 x2 S9) cb8 kv0 ml_X8_103 in_yX8_wornBy se_yX8_wornBy ii_RX8 co_yX8_wornBy hy_X8_wornBy (hRd hR (by decide) (by decide)) rfl (Nat.le_of_ble_eq_true rfl) dX8_priceOf_40 (fun r11 S10 _ wS10 => ?_)
  refine T_iast X kr4 dX8_priceOf_43 (fun j12 S13 hS13 => ?_)
  have wS13 : WT (kDn K) S13.2.2 := by rw [hS13]; exact wS10
  clear hS13
  refine J_aload_n X dX8_priceOf_44 (i := 3) rfl rfl ?_
  refine J_iconst X (v := (1 : Int32)) dX8_priceOf_45 (by decide) ?_
  refine J_aload_n X dX8_priceOf_46 (i := 0) rfl rfl ?_
  refine T_getR X (kf := 1) cb8 kv0 (by decide) fl_X8_15 (fun _ _ _ => rfl) dX8_priceOf_47 ?_
  refine J_aload_n X dX8_priceOf_50 (i := 0) rfl rfl ?_
  refine T_getR X (kf := 0) cb8 kv0 (by decide) fl_X8_9 (fun _ _ _ => rfl) dX8_priceOf_51 ?_
  refine T_getR X (kf := 8) cb0 (wS13.1 _ _ kv0 0 _ rfl) (by decide) fl_X8_50 (fun _ _ _ => rfl) dX8_priceOf_54 ?_
  refine J_iload_n X dX8_priceOf_57 (i := 1) rfl rfl ?_
  refine T_iald X (wS13.1 _ _ (wS13.1 _ _ kv0 0 _ rfl) 8 _ rfl) dX8_priceOf_58 (fun j14 => ?_)
  refine J_aload_n X dX8_priceOf_59 (i := 0) rfl rfl ?_
  refine T_getR X (kf := 1) cb8 kv0 (by decide) fl_X8_15 (fun _ _ _ => rfl) dX8_priceOf_60 ?_
  refine T_getR X (kf := 0) cb5 (wS13.1 _ _ kv0 1 _ rfl) (by decide) fl_X8_81 (fun _ _ _ => rfl) dX8_priceOf_63 ?_
  refine J_bipush X (v := (16 : Int32)) dX8_priceOf_66 (by decide) ?_
  refine J_iload_n X dX8_priceOf_68 (i := 2) rfl rfl ?_
  refine J_iadd X dX8_priceOf_69 ?_
  refine T_iald X (wS13.1 _ _ (wS13.1 _ _ kv0 1 _ rfl) 0 _ rfl) dX8_priceOf_70 (fun j15 => ?_)
  refine J_aload_n X dX8_priceOf_71 (i := 0) rfl rfl ?_
  refine T_getR X (kf := 1) cb8 kv0 (by decide) fl_X8_15 (fun _ _ _ => rfl) dX8_priceOf_72 ?_
  refine T_getR X (kf := 0) cb5 (wS13.1 _ _ kv0 1 _ rfl) (by decide) fl_X8_81 (fun _ _ _ => rfl) dX8_priceOf_75 ?_
  refine J_bipush X (v := (22 : Int32)) dX8_priceOf_78 (by decide) ?_
  refine J_iload_n X dX8_priceOf_80 (i := 2) rfl rfl ?_
  refine J_iadd X dX8_priceOf_81 ?_
  refine T_iald X (wS13.1 _ _ (wS13.1 _ _ kv0 1 _ rfl) 0 _ rfl) dX8_priceOf_82 (fun j16 => ?_)
  refine T_callV (As := [.int (S13.1 (S13.2.2 (S13.2.2 v0 0) 8) j14), .int (S13.1 (S13.2.2 (S13.2.2 v0 1) 0) j15), .int (S13.1 (S13.2.2 (S13.2.2 v0 1) 0) j16)]) wS13 X (C_X5_farOf (kG K) (S13.2.2 v0 1) (wS13.1 _ _ kv0 1 _ rfl) (S13.1 (S13.2.2 (S13.2.2 v0 0) 8) j14) (S13.1 (S13.2.2 (S13.2.2 v0 1) 0) j15) (S13.1 (S13.2.2 (S13.2.2 v0 1) 0) j16) S13) cb5 (wS13.1 _ _ kv0 1 _ rfl) ml_X8_53 in_yX5_farOf se_yX5_farOf ii_RX5 co_yX5_farOf hy_X5_farOf (hRd hR (by decide) (by decide)) rfl (Nat.le_of_ble_eq_true rfl) dX8_priceOf_83 (fun r18 S17 _ wS17 => ?_)
  refine T_iast X kr4 dX8_priceOf_86 (fun j19 S20 hS20 => ?_)
  have wS20 : WT (kDn K) S20.2.2 := by rw [hS20]; exact wS17
  clear hS20
  refine J_aload_n X dX8_priceOf_87 (i := 0) rfl rfl ?_
  refine T_getR X (kf := 0) cb8 kv0 (by decide) fl_X8_9 (fun _ _ _ => rfl) dX8_priceOf_88 ?_
  refine T_getR X (kf := 10) cb0 (wS20.1 _ _ kv0 0 _ rfl) (by decide) fl_X8_31 (fun _ _ _ => rfl) dX8_priceOf_91 ?_
  refine J_iconst X (v := (2 : Int32)) dX8_priceOf_94 (by decide) ?_
  refine J_sipush X (v := (999 : Int32)) dX8_priceOf_95 (by decide) ?_
  refine T_callV (As := [.int (2 : Int32), .int (999 : Int32)]) wS20 X (C_X2_held (kG K) (S20.2.2 (S20.2.2 v0 0) 10) (wS20.1 _ _ (wS20.1 _ _ kv0 0 _ rfl) 10 _ rfl) (2 : Int32) (999 : Int32) S20) cb2 (wS20.1 _ _ (wS20.1 _ _ kv0 0 _ rfl) 10 _ rfl) ml_X8_77 in_yX2_held se_yX2_held ii_RX2 co_yX2_held hy_X2_held (hRd hR (by decide) (by decide)) rfl (Nat.le_of_ble_eq_true rfl) dX8_priceOf_98 (fun r22 S21 _ wS21 => ?_)
  exact T_iret wS21 X dX8_priceOf_101
theorem C_X8_priceOf (G : GG) (v0 : Nat) (kv0 : KA (gD G) v0 (0, 8)) (v1 : Int32) (S : St) : CM G yX8_priceOf cX8_priceOf 4 (some .int) 3 [.ref v0, .int v1] S (fun v : Int32 => some (.int v)) (f_X8_priceOf v0 v1 S) :=
  CM_of (by decide) (Nat.le_of_ble_eq_true rfl) rfl (fun K hG X hR w => by subst hG; exact t_X8_priceOf_0 X hR v0 kv0 v1 S w)
-- ==== X8_pricesOfAll
theorem hy_X8_pricesOfAll : yX8_pricesOfAll.cls ≠ "java/lang/invoke/MethodHandle" ∧ yX8_pricesOfAll.cls ≠ "java/lang/invoke/VarHandle" ∧ (parseMethodDescriptor yX8_pricesOfAll.desc).map (fun d => d.parameters.length) = some 0 := by decide +kernel
set_option maxRecDepth 20000 in
def b_X8_pricesOfAll_34 (q4 : Nat → Int32 → Int32 → St → Option (Int32 × St)) (v0 : Nat) (v1 : Int32) (v2 : Int32) (S : St) : Option (Int32 × St) := nm (v2 + (1 : Int32)) fun x1 => q4 v0 v1 x1 S
set_option maxRecDepth 20000 in
theorem t_X8_pricesOfAll_34 {K : KK} (X : CX K cX8_pricesOfAll 3 RX8 (some .int)) (hR : kR K = rmD 4) {q4 : Nat → Int32 → Int32 → St → Option (Int32 × St)} (hq4 : ∀ (v0 : Nat) (kv0 : KA (kDn K) v0 (0, 8)) (v1 : Int32) (v2 : Int32) (S : St), WT (kDn K) S.2.2 → JX K (Zm K (fun v : Int32 => some (.int v))) 4 [some (.ref v0), some (.int v1), some (.int v2)] [] (rwN (kN K) S) (kn K) 0 0 (q4 v0 v1 v2 S)) (v0 : Nat) (kv0 : KA (kDn K) v0 (0, 8)) (v1 : Int32) (v2 : Int32) (S : St) (w : WT (kDn K) S.2.2) : JX K (Zm K (fun v : Int32 => some (.int v))) 34 [some (.ref v0), some (.int v1), some (.int v2)] [] (rwN (kN K) S) (kn K) 0 0 (b_X8_pricesOfAll_34 q4 v0 v1 v2 S) := by
  unfold b_X8_pricesOfAll_34
  refine J_nmv (v2 + (1 : Int32)) (fun x1 ex1 => ?_)
  refine J_iinc X (v := x1) (ls' := [some (.ref v0), some (.int v1), some (.int x1)]) dX8_pricesOfAll_34 (by decide) rfl (by rw [ex1]; rfl) rfl ?_
  refine J_goto X (tgt := 4) dX8_pricesOfAll_37 (by decide) ?_
  exact hq4 v0 kv0 v1 x1 S w
set_option maxRecDepth 20000 in
def b_X8_pricesOfAll_4 : Nat → Nat → Int32 → Int32 → St → Option (Int32 × St)
  | 0, _, _, _, _ => none
  | fu + 1, v0, v1, v2, S => if (S.1 (S.2.2 v0 0) 2) ≤ v2 then (some (v1, S)) else (bd (f_X5_isCut (S.2.2 v0 1) v2 S) fun r2 S1 => if r2 = 0 then (bd (f_X8_priceOf v0 v2 S1) fun r4 S3 => nm (v1 + r4) fun x5 => b_X8_pricesOfAll_34 (b_X8_pricesOfAll_4 fu) v0 x5 v2 S3) else (b_X8_pricesOfAll_34 (b_X8_pricesOfAll_4 fu) v0 v1 v2 S1))
set_option maxRecDepth 20000 in
theorem t_X8_pricesOfAll_4 {K : KK} (X : CX K cX8_pricesOfAll 3 RX8 (some .int)) (hR : kR K = rmD 4) : ∀ (fu : Nat) (v0 : Nat) (kv0 : KA (kDn K) v0 (0, 8)) (v1 : Int32) (v2 : Int32) (S : St), WT (kDn K) S.2.2 → JX K (Zm K (fun v : Int32 => some (.int v))) 4 [some (.ref v0), some (.int v1), some (.int v2)] [] (rwN (kN K) S) (kn K) 0 0 (b_X8_pricesOfAll_4 fu v0 v1 v2 S) := by
  intro fu
  induction fu with
  | zero => intro v0 kv0 v1 v2 S w; exact J_none
  | succ fu ih =>
    intro v0 kv0 v1 v2 S w
    rw [b_X8_pricesOfAll_4]
    refine J_iload_n X dX8_pricesOfAll_4 (i := 2) rfl rfl ?_
    refine J_aload_n X dX8_pricesOfAll_5 (i := 0) rfl rfl ?_
    refine T_getR X (kf := 0) cb8 kv0 (by decide) fl_X8_9 (fun _ _ _ => rfl) dX8_pricesOfAll_6 ?_
    refine T_getI X (kf := 2) cb0 (w.1 _ _ kv0 0 _ rfl) (by decide) fl_X8_19 (fun _ _ _ => rfl) dX8_pricesOfAll_9 ?_
    refine J_icmp_ge X (tgt := 40) dX8_pricesOfAll_12 (by decide) ?_ ?_
    · refine J_iload_n X dX8_pricesOfAll_40 (i := 1) rfl rfl ?_
      exact T_iret w X dX8_pricesOfAll_41
    · refine J_aload_n X dX8_pricesOfAll_15 (i := 0) rfl rfl ?_
      refine T_getR X (kf := 1) cb8 kv0 (by decide) fl_X8_15 (fun _ _ _ => rfl) dX8_pricesOfAll_16 ?_
      refine J_iload_n X dX8_pricesOfAll_19 (i := 2) rfl rfl ?_
      refine T_callV (As := [.int v2]) w X (C_X5_isCut (kG K) (S.2.2 v0 1) (w.1 _ _ kv0 1 _ rfl) v2 S) cb5 (w.1 _ _ kv0 1 _ rfl) ml_X8_57 in_yX5_isCut se_yX5_isCut ii_RX5 co_yX5_isCut hy_X5_isCut (hRd hR (by decide) (by decide)) rfl (Nat.le_of_ble_eq_true rfl) dX8_pricesOfAll_20 (fun r2 S1 _ wS1 => ?_)
      refine J_if_ne X (tgt := 34) dX8_pricesOfAll_23 (by decide) ?_ ?_
      · refine J_iload_n X dX8_pricesOfAll_26 (i := 1) rfl rfl ?_
        refine J_aload_n X dX8_pricesOfAll_27 (i := 0) rfl rfl ?_
        refine J_iload_n X dX8_pricesOfAll_28 (i := 2) rfl rfl ?_
        refine T_callV (As := [.int v2]) wS1 X (C_X8_priceOf (kG K) v0 kv0 v2 S1) cb8 kv0 ml_X8_123 in_yX8_priceOf se_yX8_priceOf ii_RX8 co_yX8_priceOf hy_X8_priceOf (hRd hR (by decide) (by decide)) rfl (Nat.le_of_ble_eq_true rfl) dX8_pricesOfAll_29 (fun r4 S3 _ wS3 => ?_)
        refine J_iadd X dX8_pricesOfAll_32 ?_
        refine J_nmi (fun x5 => ?_)
        refine J_istore_n X (i := 1) (ls' := [some (.ref v0), some (.int x5), some (.int v2)]) dX8_pricesOfAll_33 rfl (by decide) rfl ?_
        exact t_X8_pricesOfAll_34 X hR ih v0 kv0 x5 v2 S3 wS3
      · exact t_X8_pricesOfAll_34 X hR ih v0 kv0 v1 v2 S1 wS1
set_option maxRecDepth 20000 in
def f_X8_pricesOfAll (v0 : Nat) (S : St) : Option (Int32 × St) := b_X8_pricesOfAll_4 FU v0 (0 : Int32) (0 : Int32) S
set_option maxRecDepth 20000 in
theorem t_X8_pricesOfAll_0 {K : KK} (X : CX K cX8_pricesOfAll 3 RX8 (some .int)) (hR : kR K = rmD 4) (v0 : Nat) (kv0 : KA (kDn K) v0 (0, 8)) (S : St) (w : WT (kDn K) S.2.2) : JX K (Zm K (fun v : Int32 => some (.int v))) 0 [some (.ref v0), none, none] [] (rwN (kN K) S) (kn K) 0 0 (f_X8_pricesOfAll v0 S) := by
  unfold f_X8_pricesOfAll
  refine J_iconst X (v := (0 : Int32)) dX8_pricesOfAll_0 (by decide) ?_
  refine J_istore_n X (i := 1) (ls' := [some (.ref v0), some (.int (0 : Int32)), none]) dX8_pricesOfAll_1 rfl (by decide) rfl ?_
  refine J_iconst X (v := (0 : Int32)) dX8_pricesOfAll_2 (by decide) ?_
  refine J_istore_n X (i := 2) (ls' := [some (.ref v0), some (.int (0 : Int32)), some (.int (0 : Int32))]) dX8_pricesOfAll_3 rfl (by decide) rfl ?_
  exact t_X8_pricesOfAll_4 X hR FU v0 kv0 (0 : Int32) (0 : Int32) S w
theorem C_X8_pricesOfAll (G : GG) (v0 : Nat) (kv0 : KA (gD G) v0 (0, 8)) (S : St) : CM G yX8_pricesOfAll cX8_pricesOfAll 3 (some .int) 4 [.ref v0] S (fun v : Int32 => some (.int v)) (f_X8_pricesOfAll v0 S) :=
  CM_of (by decide) (Nat.le_of_ble_eq_true rfl) rfl (fun K hG X hR w => by subst hG; exact t_X8_pricesOfAll_0 X hR v0 kv0 S w)
-- ==== X8_mixedOnce
theorem hy_X8_mixedOnce : yX8_mixedOnce.cls ≠ "java/lang/invoke/MethodHandle" ∧ yX8_mixedOnce.cls ≠ "java/lang/invoke/VarHandle" ∧ (parseMethodDescriptor yX8_mixedOnce.desc).map (fun d => d.parameters.length) = some 2 := by decide +kernel
set_option maxRecDepth 20000 in
def f_X8_mixedOnce (v0 : Int32) (v1 : Int32) (S : St) : Option (Int32 × St) := nm (((v0 ^^^ v1) * (1103515245 : Int32)) + (12345 : Int32)) fun x1 => some (x1 ^^^ ((x1.toUInt32 >>> ((15 : Int32).toUInt32 &&& Int32.toUInt32 31)).toInt32), S)
set_option maxRecDepth 20000 in
theorem t_X8_mixedOnce_0 {K : KK} (X : CX K cX8_mixedOnce 3 RX8 (some .int)) (hR : kR K = rmD 0) (v0 : Int32) (v1 : Int32) (S : St) (w : WT (kDn K) S.2.2) : JX K (Zm K (fun v : Int32 => some (.int v))) 0 [some (.int v0), some (.int v1), none] [] (rwN (kN K) S) (kn K) 0 0 (f_X8_mixedOnce v0 v1 S) := by
  unfold f_X8_mixedOnce
  refine J_iload_n X dX8_mixedOnce_0 (i := 0) rfl rfl ?_
  refine J_iload_n X dX8_mixedOnce_1 (i := 1) rfl rfl ?_
  refine J_ixor X dX8_mixedOnce_2 ?_
  refine J_ldc X kc_X8_160 dX8_mixedOnce_3 ?_
  refine J_imul X dX8_mixedOnce_5 ?_
  refine J_sipush X (v := (12345 : Int32)) dX8_mixedOnce_6 (by decide) ?_
  refine J_iadd X dX8_mixedOnce_9 ?_
  refine J_nmi (fun x1 => ?_)
  refine J_istore_n X (i := 2) (ls' := [some (.int v0), some (.int v1), some (.int x1)]) dX8_mixedOnce_10 rfl (by decide) rfl ?_
  refine J_iload_n X dX8_mixedOnce_11 (i := 2) rfl rfl ?_
  refine J_iload_n X dX8_mixedOnce_12 (i := 2) rfl rfl ?_
  refine J_bipush X (v := (15 : Int32)) dX8_mixedOnce_13 (by decide) ?_
  refine J_iushr X dX8_mixedOnce_15 ?_
  refine J_ixor X dX8_mixedOnce_16 ?_
  exact T_iret w X dX8_mixedOnce_17
theorem C_X8_mixedOnce (G : GG) (v0 : Int32) (v1 : Int32) (S : St) : CM G yX8_mixedOnce cX8_mixedOnce 3 (some .int) 0 [.int v0, .int v1] S (fun v : Int32 => some (.int v)) (f_X8_mixedOnce v0 v1 S) :=
  CM_of (by decide) (Nat.le_of_ble_eq_true rfl) rfl (fun K hG X hR w => by subst hG; exact t_X8_mixedOnce_0 X hR v0 v1 S w)
-- ==== X8_lotOf100
theorem hy_X8_lotOf100 : yX8_lotOf100.cls ≠ "java/lang/invoke/MethodHandle" ∧ yX8_lotOf100.cls ≠ "java/lang/invoke/VarHandle" ∧ (parseMethodDescriptor yX8_lotOf100.desc).map (fun d => d.parameters.length) = some 2 := by decide +kernel
set_option maxRecDepth 20000 in
def f_X8_lotOf100 (v0 : Int32) (v1 : Int32) (S : St) : Option (Int32 × St) := bd (f_X8_mixedOnce v0 (135 : Int32) S) fun r2 S1 => bd (f_X8_mixedOnce r2 v1 S1) fun r4 S3 => some (((r4.toUInt32 >>> ((1 : Int32).toUInt32 &&& Int32.toUInt32 31)).toInt32) - ((r4.toUInt32 >>> ((1 : Int32).toUInt32 &&& Int32.toUInt32 31)).toInt32) / (100 : Int32) * (100 : Int32), S3)
set_option maxRecDepth 20000 in
theorem t_X8_lotOf100_0 {K : KK} (X : CX K cX8_lotOf100 3 RX8 (some .int)) (hR : kR K = rmD 1) (v0 : Int32) (v1 : Int32) (S : St) (w : WT (kDn K) S.2.2) : JX K (Zm K (fun v : Int32 => some (.int v))) 0 [some (.int v0), some (.int v1), none] [] (rwN (kN K) S) (kn K) 0 0 (f_X8_lotOf100 v0 v1 S) := by
  unfold f_X8_lotOf100
  refine J_iload_n X dX8_lotOf100_0 (i := 0) rfl rfl ?_
  refine J_sipush X (v := (135 : Int32)) dX8_lotOf100_1 (by decide) ?_
  refine T_callS (As := [.int v0, .int (135 : Int32)]) w X (C_X8_mixedOnce (kG K) v0 (135 : Int32) S) ml_X8_157 st_yX8_mixedOnce ii_RX8 co_yX8_mixedOnce hy_X8_mixedOnce (hRd hR (by decide) (by decide)) rfl (Nat.le_of_ble_eq_true rfl) dX8_lotOf100_4 (fun r2 S1 _ wS1 => ?_)
  refine J_iload_n X dX8_lotOf100_7 (i := 1) rfl rfl ?_
  refine T_callS (As := [.int r2, .int v1]) wS1 X (C_X8_mixedOnce (kG K) r2 v1 S1) ml_X8_157 st_yX8_mixedOnce ii_RX8 co_yX8_mixedOnce hy_X8_mixedOnce (hRd hR (by decide) (by decide)) rfl (Nat.le_of_ble_eq_true rfl) dX8_lotOf100_8 (fun r4 S3 _ wS3 => ?_)
  refine J_istore_n X (i := 2) (ls' := [some (.int v0), some (.int v1), some (.int r4)]) dX8_lotOf100_11 rfl (by decide) rfl ?_
  refine J_iload_n X dX8_lotOf100_12 (i := 2) rfl rfl ?_
  refine J_iconst X (v := (1 : Int32)) dX8_lotOf100_13 (by decide) ?_
  refine J_iushr X dX8_lotOf100_14 ?_
  refine J_bipush X (v := (100 : Int32)) dX8_lotOf100_15 (by decide) ?_
  refine J_iremc X dX8_lotOf100_17 (by decide) ?_
  exact T_iret wS3 X dX8_lotOf100_18
theorem C_X8_lotOf100 (G : GG) (v0 : Int32) (v1 : Int32) (S : St) : CM G yX8_lotOf100 cX8_lotOf100 3 (some .int) 1 [.int v0, .int v1] S (fun v : Int32 => some (.int v)) (f_X8_lotOf100 v0 v1 S) :=
  CM_of (by decide) (Nat.le_of_ble_eq_true rfl) rfl (fun K hG X hR w => by subst hG; exact t_X8_lotOf100_0 X hR v0 v1 S w)
-- ==== X8_seedsThatDrown
theorem hy_X8_seedsThatDrown : yX8_seedsThatDrown.cls ≠ "java/lang/invoke/MethodHandle" ∧ yX8_seedsThatDrown.cls ≠ "java/lang/invoke/VarHandle" ∧ (parseMethodDescriptor yX8_seedsThatDrown.desc).map (fun d => d.parameters.length) = some 2 := by decide +kernel
set_option maxRecDepth 20000 in
def b_X8_seedsThatDrown_56 (q12 : Nat → Int32 → Int32 → Int32 → Int32 → Int32 → St → Option (Int32 × St)) (v0 : Nat) (v1 : Int32) (v2 : Int32) (v3 : Int32) (v4 : Int32) (v5 : Int32) (S : St) : Option (Int32 × St) := nm (v5 + (1 : Int32)) fun x1 => q12 v0 v1 v2 v3 v4 x1 S
set_option maxRecDepth 20000 in
theorem t_X8_seedsThatDrown_56 {K : KK} (X : CX K cX8_seedsThatDrown 6 RX8 (some .int)) (hR : kR K = rmD 4) {q12 : Nat → Int32 → Int32 → Int32 → Int32 → Int32 → St → Option (Int32 × St)} (hq12 : ∀ (v0 : Nat) (kv0 : KA (kDn K) v0 (0, 8)) (v1 : Int32) (v2 : Int32) (v3 : Int32) (v4 : Int32) (v5 : Int32) (S : St), WT (kDn K) S.2.2 → JX K (Zm K (fun v : Int32 => some (.int v))) 12 [some (.ref v0), some (.int v1), some (.int v2), some (.int v3), some (.int v4), some (.int v5)] [] (rwN (kN K) S) (kn K) 0 0 (q12 v0 v1 v2 v3 v4 v5 S)) (v0 : Nat) (kv0 : KA (kDn K) v0 (0, 8)) (v1 : Int32) (v2 : Int32) (v3 : Int32) (v4 : Int32) (v5 : Int32) (S : St) (w : WT (kDn K) S.2.2) : JX K (Zm K (fun v : Int32 => some (.int v))) 56 [some (.ref v0), some (.int v1), some (.int v2), some (.int v3), some (.int v4), some (.int v5)] [] (rwN (kN K) S) (kn K) 0 0 (b_X8_seedsThatDrown_56 q12 v0 v1 v2 v3 v4 v5 S) := by
  unfold b_X8_seedsThatDrown_56
  refine J_nmv (v5 + (1 : Int32)) (fun x1 ex1 => ?_)
  refine J_iinc X (v := x1) (ls' := [some (.ref v0), some (.int v1), some (.int v2), some (.int v3), some (.int v4), some (.int x1)]) dX8_seedsThatDrown_56 (by decide) rfl (by rw [ex1]; rfl) rfl ?_
  refine J_goto X (tgt := 12) dX8_seedsThatDrown_59 (by decide) ?_
  exact hq12 v0 kv0 v1 v2 v3 v4 x1 S w
set_option maxRecDepth 20000 in
def b_X8_seedsThatDrown_12 : Nat → Nat → Int32 → Int32 → Int32 → Int32 → Int32 → St → Option (Int32 × St)
  | 0, _, _, _, _, _, _, _ => none
  | fu + 1, v0, v1, v2, v3, v4, v5, S => if v2 ≤ v5 then (some (v4, S)) else (bd (f_X8_lotOf100 ((S.1 (S.2.2 v0 0) 4) + v5) (((16 : Int32) * (S.1 (S.2.2 v0 1) 1)) + v1) S) fun r2 S1 => if v3 ≤ r2 then (b_X8_seedsThatDrown_56 (b_X8_seedsThatDrown_12 fu) v0 v1 v2 v3 v4 v5 S1) else (nm (v4 ||| ((1 : Int32) <<< (v5 &&& 31))) fun x3 => b_X8_seedsThatDrown_56 (b_X8_seedsThatDrown_12 fu) v0 v1 v2 v3 x3 v5 S1))
set_option maxRecDepth 20000 in
theorem t_X8_seedsThatDrown_12 {K : KK} (X : CX K cX8_seedsThatDrown 6 RX8 (some .int)) (hR : kR K = rmD 4) : ∀ (fu : Nat) (v0 : Nat) (kv0 : KA (kDn K) v0 (0, 8)) (v1 : Int32) (v2 : Int32) (v3 : Int32) (v4 : Int32) (v5 : Int32) (S : St), WT (kDn K) S.2.2 → JX K (Zm K (fun v : Int32 => some (.int v))) 12 [some (.ref v0), some (.int v1), some (.int v2), some (.int v3), some (.int v4), some (.int v5)] [] (rwN (kN K) S) (kn K) 0 0 (b_X8_seedsThatDrown_12 fu v0 v1 v2 v3 v4 v5 S) := by
  intro fu
  induction fu with
  | zero => intro v0 kv0 v1 v2 v3 v4 v5 S w; exact J_none
  | succ fu ih =>
    intro v0 kv0 v1 v2 v3 v4 v5 S w
    rw [b_X8_seedsThatDrown_12]
    refine J_iload X dX8_seedsThatDrown_12 rfl ?_
    refine J_iload_n X dX8_seedsThatDrown_14 (i := 2) rfl rfl ?_
    refine J_icmp_ge X (tgt := 62) dX8_seedsThatDrown_15 (by decide) ?_ ?_
    · refine J_iload X dX8_seedsThatDrown_62 rfl ?_
      exact T_iret w X dX8_seedsThatDrown_64
    · refine J_aload_n X dX8_seedsThatDrown_18 (i := 0) rfl rfl ?_
      refine T_getR X (kf := 0) cb8 kv0 (by decide) fl_X8_9 (fun _ _ _ => rfl) dX8_seedsThatDrown_19 ?_
      refine T_getI X (kf := 4) cb0 (w.1 _ _ kv0 0 _ rfl) (by decide) fl_X8_151 (fun _ _ _ => rfl) dX8_seedsThatDrown_22 ?_
      refine J_iload X dX8_seedsThatDrown_25 rfl ?_
      refine J_iadd X dX8_seedsThatDrown_27 ?_
      refine J_bipush X (v := (16 : Int32)) dX8_seedsThatDrown_28 (by decide) ?_
      refine J_aload_n X dX8_seedsThatDrown_30 (i := 0) rfl rfl ?_
      refine T_getR X (kf := 1) cb8 kv0 (by decide) fl_X8_15 (fun _ _ _ => rfl) dX8_seedsThatDrown_31 ?_
      refine T_getI X (kf := 1) cb5 (w.1 _ _ kv0 1 _ rfl) (by decide) fl_X8_47 (fun _ _ _ => rfl) dX8_seedsThatDrown_34 ?_
      refine J_imul X dX8_seedsThatDrown_37 ?_
      refine J_iload_n X dX8_seedsThatDrown_38 (i := 1) rfl rfl ?_
      refine J_iadd X dX8_seedsThatDrown_39 ?_
      refine T_callS (As := [.int ((S.1 (S.2.2 v0 0) 4) + v5), .int (((16 : Int32) * (S.1 (S.2.2 v0 1) 1)) + v1)]) w X (C_X8_lotOf100 (kG K) ((S.1 (S.2.2 v0 0) 4) + v5) (((16 : Int32) * (S.1 (S.2.2 v0 1) 1)) + v1) S) ml_X8_154 st_yX8_lotOf100 ii_RX8 co_yX8_lotOf100 hy_X8_lotOf100 (hRd hR (by decide) (by decide)) rfl (Nat.le_of_ble_eq_true rfl) dX8_seedsThatDrown_40 (fun r2 S1 _ wS1 => ?_)
      refine J_iload_n X dX8_seedsThatDrown_43 (i := 3) rfl rfl ?_
      refine J_icmp_ge X (tgt := 56) dX8_seedsThatDrown_44 (by decide) ?_ ?_
      · exact t_X8_seedsThatDrown_56 X hR ih v0 kv0 v1 v2 v3 v4 v5 S1 wS1
      · refine J_iload X dX8_seedsThatDrown_47 rfl ?_
        refine J_iconst X (v := (1 : Int32)) dX8_seedsThatDrown_49 (by decide) ?_
        refine J_iload X dX8_seedsThatDrown_50 rfl ?_
        refine J_ishl X dX8_seedsThatDrown_52 ?_
        refine J_ior X dX8_seedsThatDrown_53 ?_
        refine J_nmi (fun x3 => ?_)
        refine J_istore X (ls' := [some (.ref v0), some (.int v1), some (.int v2), some (.int v3), some (.int x3), some (.int v5)]) dX8_seedsThatDrown_54 (by decide) rfl ?_
        exact t_X8_seedsThatDrown_56 X hR ih v0 kv0 v1 v2 v3 x3 v5 S1 wS1
set_option maxRecDepth 20000 in
def f_X8_seedsThatDrown (v0 : Nat) (v1 : Int32) (v2 : Int32) (S : St) : Option (Int32 × St) := bd (f_X8_stormOf v0 v1 S) fun r2 S1 => b_X8_seedsThatDrown_12 FU v0 v1 v2 r2 (0 : Int32) (0 : Int32) S1
set_option maxRecDepth 20000 in
theorem t_X8_seedsThatDrown_0 {K : KK} (X : CX K cX8_seedsThatDrown 6 RX8 (some .int)) (hR : kR K = rmD 4) (v0 : Nat) (kv0 : KA (kDn K) v0 (0, 8)) (v1 : Int32) (v2 : Int32) (S : St) (w : WT (kDn K) S.2.2) : JX K (Zm K (fun v : Int32 => some (.int v))) 0 [some (.ref v0), some (.int v1), some (.int v2), none, none, none] [] (rwN (kN K) S) (kn K) 0 0 (f_X8_seedsThatDrown v0 v1 v2 S) := by
  unfold f_X8_seedsThatDrown
  refine J_aload_n X dX8_seedsThatDrown_0 (i := 0) rfl rfl ?_
  refine J_iload_n X dX8_seedsThatDrown_1 (i := 1) rfl rfl ?_
  refine T_callV (As := [.int v1]) w X (C_X8_stormOf (kG K) v0 kv0 v1 S) cb8 kv0 ml_X8_148 in_yX8_stormOf se_yX8_stormOf ii_RX8 co_yX8_stormOf hy_X8_stormOf (hRd hR (by decide) (by decide)) rfl (Nat.le_of_ble_eq_true rfl) dX8_seedsThatDrown_2 (fun r2 S1 _ wS1 => ?_)
  refine J_istore_n X (i := 3) (ls' := [some (.ref v0), some (.int v1), some (.int v2), some (.int r2), none, none]) dX8_seedsThatDrown_5 rfl (by decide) rfl ?_
  refine J_iconst X (v := (0 : Int32)) dX8_seedsThatDrown_6 (by decide) ?_
  refine J_istore X (ls' := [some (.ref v0), some (.int v1), some (.int v2), some (.int r2), some (.int (0 : Int32)), none]) dX8_seedsThatDrown_7 (by decide) rfl ?_
  refine J_iconst X (v := (0 : Int32)) dX8_seedsThatDrown_9 (by decide) ?_
  refine J_istore X (ls' := [some (.ref v0), some (.int v1), some (.int v2), some (.int r2), some (.int (0 : Int32)), some (.int (0 : Int32))]) dX8_seedsThatDrown_10 (by decide) rfl ?_
  exact t_X8_seedsThatDrown_12 X hR FU v0 kv0 v1 v2 r2 (0 : Int32) (0 : Int32) S1 wS1
theorem C_X8_seedsThatDrown (G : GG) (v0 : Nat) (kv0 : KA (gD G) v0 (0, 8)) (v1 : Int32) (v2 : Int32) (S : St) : CM G yX8_seedsThatDrown cX8_seedsThatDrown 6 (some .int) 4 [.ref v0, .int v1, .int v2] S (fun v : Int32 => some (.int v)) (f_X8_seedsThatDrown v0 v1 v2 S) :=
  CM_of (by decide) (Nat.le_of_ble_eq_true rfl) rfl (fun K hG X hR w => by subst hG; exact t_X8_seedsThatDrown_0 X hR v0 kv0 v1 v2 S w)
-- ==== X8_gone
theorem hy_X8_gone : yX8_gone.cls ≠ "java/lang/invoke/MethodHandle" ∧ yX8_gone.cls ≠ "java/lang/invoke/VarHandle" ∧ (parseMethodDescriptor yX8_gone.desc).map (fun d => d.parameters.length) = some 3 := by decide +kernel
set_option maxRecDepth 20000 in
def f_X8_gone (v0 : Int32) (v1 : Int32) (v2 : Int32) (S : St) : Option (Int32 × St) := if (abI v1) ≤ v2 then (some (v0, S)) else (bd (f_X9_wayTo v1 (0 : Int32) S) fun r2 S1 => bd (f_X9_heldTo (9 : Int32) (v0 + r2) S1) fun r4 S3 => some (r4, S3))
set_option maxRecDepth 20000 in
theorem t_X8_gone_0 {K : KK} (X : CX K cX8_gone 3 RX8 (some .int)) (hR : kR K = rmD 2) (v0 : Int32) (v1 : Int32) (v2 : Int32) (S : St) (w : WT (kDn K) S.2.2) : JX K (Zm K (fun v : Int32 => some (.int v))) 0 [some (.int v0), some (.int v1), some (.int v2)] [] (rwN (kN K) S) (kn K) 0 0 (f_X8_gone v0 v1 v2 S) := by
  unfold f_X8_gone
  refine J_iload_n X dX8_gone_0 (i := 1) rfl rfl ?_
  refine T_mabs X ml_X8_118 st_Lib_Math_abs_name ii_java_lang_Math co_Lib_Math_abs_name ⟨by rw [hR]; exact Nat.le_of_ble_eq_true rfl, by rw [hR]; exact Nat.le_of_ble_eq_true rfl⟩ (Nat.le_of_ble_eq_true rfl) dX8_gone_1 ?_
  refine J_iload_n X dX8_gone_4 (i := 2) rfl rfl ?_
  refine J_icmp_le X (tgt := 23) dX8_gone_5 (by decide) ?_ ?_
  · refine J_iload_n X dX8_gone_23 (i := 0) rfl rfl ?_
    exact T_iret w X dX8_gone_24
  · refine J_bipush X (v := (9 : Int32)) dX8_gone_8 (by decide) ?_
    refine J_iload_n X dX8_gone_10 (i := 0) rfl rfl ?_
    refine J_iload_n X dX8_gone_11 (i := 1) rfl rfl ?_
    refine J_iconst X (v := (0 : Int32)) dX8_gone_12 (by decide) ?_
    refine T_callN (As := [.int v1, .int (0 : Int32)]) w X (C_X9_wayTo (kG K) v1 (0 : Int32) S) (List.mem_of_getElem? (i := 2) rfl) st_yX9_wayTo ii_RX9 co_yX9_wayTo hy_X9_wayTo (hRd hR (by decide) (by decide)) rfl (Nat.le_of_ble_eq_true rfl) dX8_gone_13 (fun r2 S1 _ wS1 => ?_)
    refine J_iadd X dX8_gone_16 ?_
    refine T_callN (As := [.int (9 : Int32), .int (v0 + r2)]) wS1 X (C_X9_heldTo (kG K) (9 : Int32) (v0 + r2) S1) (List.mem_of_getElem? (i := 3) rfl) st_yX9_heldTo ii_RX9 co_yX9_heldTo hy_X9_heldTo (hRd hR (by decide) (by decide)) rfl (Nat.le_of_ble_eq_true rfl) dX8_gone_17 (fun r4 S3 _ wS3 => ?_)
    refine J_goto X (tgt := 24) dX8_gone_20 (by decide) ?_
    exact T_iret wS3 X dX8_gone_24
theorem C_X8_gone (G : GG) (v0 : Int32) (v1 : Int32) (v2 : Int32) (S : St) : CM G yX8_gone cX8_gone 3 (some .int) 2 [.int v0, .int v1, .int v2] S (fun v : Int32 => some (.int v)) (f_X8_gone v0 v1 v2 S) :=
  CM_of (by decide) (Nat.le_of_ble_eq_true rfl) rfl (fun K hG X hR w => by subst hG; exact t_X8_gone_0 X hR v0 v1 v2 S w)
-- ==== X8_goMonth
theorem hy_X8_goMonth : yX8_goMonth.cls ≠ "java/lang/invoke/MethodHandle" ∧ yX8_goMonth.cls ≠ "java/lang/invoke/VarHandle" ∧ (parseMethodDescriptor yX8_goMonth.desc).map (fun d => d.parameters.length) = some 3 := by decide +kernel
set_option maxRecDepth 20000 in
def b_X8_goMonth_188 : Nat → Nat → Int32 → St → Option (Unit × St)
  | 0, _, _, _ => none
  | fu + 1, v0, v4, S => if (S.1 (S.2.2 v0 0) 0) ≤ v4 then (nm (sI S (S.2.2 v0 1) 1 ((S.1 (S.2.2 v0 1) 1) + (1 : Int32))) fun S1 => some ((), S1)) else (bd (f_X5_swim (S.2.2 v0 1) v4 S) fun _ S2 => nm (v4 + (1 : Int32)) fun x4 => b_X8_goMonth_188 fu v0 x4 S2)
set_option maxRecDepth 20000 in
theorem t_X8_goMonth_188 {K : KK} (X : CX K cX8_goMonth 10 RX8 none) (hR : kR K = rmD 5) : ∀ (fu : Nat) (v0 : Nat) (kv0 : KA (kDn K) v0 (0, 8)) (v4 : Int32) (S : St), WT (kDn K) S.2.2 → JX K (Zm K (fun _ : Unit => none)) 188 [some (.ref v0), none, none, none, some (.int v4), none, none, none, none, none] [] (rwN (kN K) S) (kn K) 0 0 (b_X8_goMonth_188 fu v0 v4 S) := by
  intro fu
  induction fu with
  | zero => intro v0 kv0 v4 S w; exact J_none
  | succ fu ih =>
    intro v0 kv0 v4 S w
    rw [b_X8_goMonth_188]
    refine J_iload X dX8_goMonth_188 rfl ?_
    refine J_aload_n X dX8_goMonth_190 (i := 0) rfl rfl ?_
    refine T_getR X (kf := 0) cb8 kv0 (by decide) fl_X8_9 (fun _ _ _ => rfl) dX8_goMonth_191 ?_
    refine T_getI X (kf := 0) cb0 (w.1 _ _ kv0 0 _ rfl) (by decide) fl_X8_138 (fun _ _ _ => rfl) dX8_goMonth_194 ?_
    refine J_icmp_ge X (tgt := 215) dX8_goMonth_197 (by decide) ?_ ?_
    · refine J_aload_n X dX8_goMonth_215 (i := 0) rfl rfl ?_
      refine T_getR X (kf := 1) cb8 kv0 (by decide) fl_X8_15 (fun _ _ _ => rfl) dX8_goMonth_216 ?_
      refine J_dup X dX8_goMonth_219 rfl ?_
      refine T_getI X (kf := 1) cb5 (w.1 _ _ kv0 1 _ rfl) (by decide) fl_X8_47 (fun _ _ _ => rfl) dX8_goMonth_220 ?_
      refine J_iconst X (v := (1 : Int32)) dX8_goMonth_223 (by decide) ?_
      refine J_iadd X dX8_goMonth_224 ?_
      refine T_putI X (kf := 1) cb5 (w.1 _ _ kv0 1 _ rfl) (by decide) fl_X8_47 (fun _ _ _ => rfl) rfl rfl rfl dX8_goMonth_225 (fun S1 hS1 => ?_)
      have wS1 : WT (kDn K) S1.2.2 := by rw [hS1]; exact w
      clear hS1
      exact T_vret wS1 X dX8_goMonth_228
    · refine J_aload_n X dX8_goMonth_200 (i := 0) rfl rfl ?_
      refine T_getR X (kf := 1) cb8 kv0 (by decide) fl_X8_15 (fun _ _ _ => rfl) dX8_goMonth_201 ?_
      refine J_iload X dX8_goMonth_204 rfl ?_
      refine T_callV (As := [.int v4]) w X (C_X5_swim (kG K) (S.2.2 v0 1) (w.1 _ _ kv0 1 _ rfl) v4 S) cb5 (w.1 _ _ kv0 1 _ rfl) ml_X8_141 in_yX5_swim se_yX5_swim ii_RX5 co_yX5_swim hy_X5_swim (hRd hR (by decide) (by decide)) rfl (Nat.le_of_ble_eq_true rfl) dX8_goMonth_206 (fun _ S2 _ wS2 => ?_)
      refine J_nmv (v4 + (1 : Int32)) (fun x4 ex4 => ?_)
      refine J_iinc X (v := x4) (ls' := [some (.ref v0), none, none, none, some (.int x4), none, none, none, none, none]) dX8_goMonth_209 (by decide) rfl (by rw [ex4]; rfl) rfl ?_
      refine J_goto X (tgt := 188) dX8_goMonth_212 (by decide) ?_
      exact ih v0 kv0 x4 S2 wS2
set_option maxRecDepth 20000 in
def b_X8_goMonth_179 (q3 : Nat → Int32 → Int32 → Int32 → St → Option (Unit × St)) (v0 : Nat) (v2 : Int32) (v3 : Int32) (v4 : Int32) (S : St) : Option (Unit × St) := nm (v4 + (1 : Int32)) fun x1 => q3 v0 v2 v3 x1 S
set_option maxRecDepth 20000 in
theorem t_X8_goMonth_179 {K : KK} (X : CX K cX8_goMonth 10 RX8 none) (hR : kR K = rmD 5) {q3 : Nat → Int32 → Int32 → Int32 → St → Option (Unit × St)} (hq3 : ∀ (v0 : Nat) (kv0 : KA (kDn K) v0 (0, 8)) (v2 : Int32) (v3 : Int32) (v4 : Int32) (S : St), WT (kDn K) S.2.2 → JX K (Zm K (fun _ : Unit => none)) 3 [some (.ref v0), none, some (.int v2), some (.int v3), some (.int v4), none, none, none, none, none] [] (rwN (kN K) S) (kn K) 0 0 (q3 v0 v2 v3 v4 S)) (v0 : Nat) (kv0 : KA (kDn K) v0 (0, 8)) (v2 : Int32) (v3 : Int32) (v4 : Int32) (S : St) (w : WT (kDn K) S.2.2) : JX K (Zm K (fun _ : Unit => none)) 179 [some (.ref v0), none, some (.int v2), some (.int v3), some (.int v4), none, none, none, none, none] [] (rwN (kN K) S) (kn K) 0 0 (b_X8_goMonth_179 q3 v0 v2 v3 v4 S) := by
  unfold b_X8_goMonth_179
  refine J_nmv (v4 + (1 : Int32)) (fun x1 ex1 => ?_)
  refine J_iinc X (v := x1) (ls' := [some (.ref v0), none, some (.int v2), some (.int v3), some (.int x1), none, none, none, none, none]) dX8_goMonth_179 (by decide) rfl (by rw [ex1]; rfl) rfl ?_
  refine J_goto X (tgt := 3) dX8_goMonth_182 (by decide) ?_
  exact hq3 v0 kv0 v2 v3 x1 S w
set_option maxRecDepth 20000 in
def b_X8_goMonth_163 (q3 : Nat → Int32 → Int32 → Int32 → St → Option (Unit × St)) (v0 : Nat) (v2 : Int32) (v3 : Int32) (v4 : Int32) (S : St) : Option (Unit × St) := nm (sI S (S.2.2 v0 1) 2 ((S.1 (S.2.2 v0 1) 2) ||| ((1 : Int32) <<< (v4 &&& 31)))) fun S1 => b_X8_goMonth_179 q3 v0 v2 v3 v4 S1
set_option maxRecDepth 20000 in
theorem t_X8_goMonth_163 {K : KK} (X : CX K cX8_goMonth 10 RX8 none) (hR : kR K = rmD 5) {q3 : Nat → Int32 → Int32 → Int32 → St → Option (Unit × St)} (hq3 : ∀ (v0 : Nat) (kv0 : KA (kDn K) v0 (0, 8)) (v2 : Int32) (v3 : Int32) (v4 : Int32) (S : St), WT (kDn K) S.2.2 → JX K (Zm K (fun _ : Unit => none)) 3 [some (.ref v0), none, some (.int v2), some (.int v3), some (.int v4), none, none, none, none, none] [] (rwN (kN K) S) (kn K) 0 0 (q3 v0 v2 v3 v4 S)) (v0 : Nat) (kv0 : KA (kDn K) v0 (0, 8)) (v2 : Int32) (v3 : Int32) (v4 : Int32) (S : St) (w : WT (kDn K) S.2.2) : JX K (Zm K (fun _ : Unit => none)) 163 [some (.ref v0), none, some (.int v2), some (.int v3), some (.int v4), none, none, none, none, none] [] (rwN (kN K) S) (kn K) 0 0 (b_X8_goMonth_163 q3 v0 v2 v3 v4 S) := by
  unfold b_X8_goMonth_163
  refine J_aload_n X dX8_goMonth_163 (i := 0) rfl rfl ?_
  refine T_getR X (kf := 1) cb8 kv0 (by decide) fl_X8_15 (fun _ _ _ => rfl) dX8_goMonth_164 ?_
  refine J_dup X dX8_goMonth_167 rfl ?_
  refine T_getI X (kf := 2) cb5 (w.1 _ _ kv0 1 _ rfl) (by decide) fl_X8_135 (fun _ _ _ => rfl) dX8_goMonth_168 ?_
  refine J_iconst X (v := (1 : Int32)) dX8_goMonth_171 (by decide) ?_
  refine J_iload X dX8_goMonth_172 rfl ?_
  refine J_ishl X dX8_goMonth_174 ?_
  refine J_ior X dX8_goMonth_175 ?_
  refine T_putI X (kf := 2) cb5 (w.1 _ _ kv0 1 _ rfl) (by decide) fl_X8_135 (fun _ _ _ => rfl) rfl rfl rfl dX8_goMonth_176 (fun S1 hS1 => ?_)
  have wS1 : WT (kDn K) S1.2.2 := by rw [hS1]; exact w
  clear hS1
  exact t_X8_goMonth_179 X hR hq3 v0 kv0 v2 v3 v4 S1 wS1
set_option maxRecDepth 20000 in
def b_X8_goMonth_70 (q3 : Nat → Int32 → Int32 → Int32 → St → Option (Unit × St)) (v0 : Nat) (v2 : Int32) (v3 : Int32) (v4 : Int32) (v5 : Int32) (v6 : Int32) (s0 : Int32) (S : St) : Option (Unit × St) := bd (f_X8_feel v0 v4 v5 v6 S) fun _ S1 => bd (f_X8_standsAt v0 v4 v5 v6 S1) fun r4 S3 => bd (f_X8_gone v6 (S3.1 v0 3) r4 S3) fun r6 S5 => bd (f_X8_gone v5 (S5.1 v0 2) r4 S5) fun r8 S7 => (ix ((16 : Int32) + v4) 36).bind fun j9 => nm (sI S7 (S5.2.2 (S5.2.2 v0 1) 0) j9 r8) fun S10 => (ix ((22 : Int32) + v4) 36).bind fun j11 => nm (sI S10 (S10.2.2 (S10.2.2 v0 1) 0) j11 r6) fun S12 => if s0 = 0 then (if r6 ≤ (S12.1 (S12.2.2 v0 0) 3) then (b_X8_goMonth_179 q3 v0 v2 v3 v4 S12) else (b_X8_goMonth_163 q3 v0 v2 v3 v4 S12)) else (b_X8_goMonth_163 q3 v0 v2 v3 v4 S12)
set_option maxRecDepth 20000 in
theorem t_X8_goMonth_70 {K : KK} (X : CX K cX8_goMonth 10 RX8 none) (hR : kR K = rmD 5) {q3 : Nat → Int32 → Int32 → Int32 → St → Option (Unit × St)} (hq3 : ∀ (v0 : Nat) (kv0 : KA (kDn K) v0 (0, 8)) (v2 : Int32) (v3 : Int32) (v4 : Int32) (S : St), WT (kDn K) S.2.2 → JX K (Zm K (fun _ : Unit => none)) 3 [some (.ref v0), none, some (.int v2), some (.int v3), some (.int v4), none, none, none, none, none] [] (rwN (kN K) S) (kn K) 0 0 (q3 v0 v2 v3 v4 S)) (v0 : Nat) (kv0 : KA (kDn K) v0 (0, 8)) (v2 : Int32) (v3 : Int32) (v4 : Int32) (v5 : Int32) (v6 : Int32) (s0 : Int32) (S : St) (w : WT (kDn K) S.2.2) : JX K (Zm K (fun _ : Unit => none)) 70 [some (.ref v0), none, some (.int v2), some (.int v3), some (.int v4), some (.int v5), some (.int v6), none, none, none] [.int s0] (rwN (kN K) S) (kn K) 0 0 (b_X8_goMonth_70 q3 v0 v2 v3 v4 v5 v6 s0 S) := by
  unfold b_X8_goMonth_70
  refine J_istore X (ls' := [some (.ref v0), none, some (.int v2), some (.int v3), some (.int v4), some (.int v5), some (.int v6), some (.int s0), none, none]) dX8_goMonth_70 (by decide) rfl ?_
  refine J_aload_n X dX8_goMonth_72 (i := 0) rfl rfl ?_
  refine J_iload X dX8_goMonth_73 rfl ?_
  refine J_iload X dX8_goMonth_75 rfl ?_
  refine J_iload X dX8_goMonth_77 rfl ?_
  refine T_callV (As := [.int v4, .int v5, .int v6]) w X (C_X8_feel (kG K) v0 kv0 v4 v5 v6 S) cb8 kv0 ml_X8_111 in_yX8_feel se_yX8_feel ii_RX8 co_yX8_feel hy_X8_feel (hRd hR (by decide) (by decide)) rfl (Nat.le_of_ble_eq_true rfl) dX8_goMonth_79 (fun _ S1 _ wS1 => ?_)
  refine J_aload_n X dX8_goMonth_82 (i := 0) rfl rfl ?_
  refine J_iload X dX8_goMonth_83 rfl ?_
  refine J_iload X dX8_goMonth_85 rfl ?_
  refine J_iload X dX8_goMonth_87 rfl ?_
  refine T_callV (As := [.int v4, .int v5, .int v6]) wS1 X (C_X8_standsAt (kG K) v0 kv0 v4 v5 v6 S1) cb8 kv0 ml_X8_115 in_yX8_standsAt se_yX8_standsAt ii_RX8 co_yX8_standsAt hy_X8_standsAt (hRd hR (by decide) (by decide)) rfl (Nat.le_of_ble_eq_true rfl) dX8_goMonth_89 (fun r4 S3 _ wS3 => ?_)
  refine J_istore X (ls' := [some (.ref v0), none, some (.int v2), some (.int v3), some (.int v4), some (.int v5), some (.int v6), some (.int s0), some (.int r4), none]) dX8_goMonth_92 (by decide) rfl ?_
  refine J_iload X dX8_goMonth_94 rfl ?_
  refine J_aload_n X dX8_goMonth_96 (i := 0) rfl rfl ?_
  refine T_getI X (kf := 3) cb8 kv0 (by decide) fl_X8_90 (fun _ _ _ => rfl) dX8_goMonth_97 ?_
  refine J_iload X dX8_goMonth_100 rfl ?_
  refine T_callS (As := [.int v6, .int (S3.1 v0 3), .int r4]) wS3 X (C_X8_gone (kG K) v6 (S3.1 v0 3) r4 S3) ml_X8_129 st_yX8_gone ii_RX8 co_yX8_gone hy_X8_gone (hRd hR (by decide) (by decide)) rfl (Nat.le_of_ble_eq_true rfl) dX8_goMonth_102 (fun r6 S5 _ wS5 => ?_)
  refine J_istore X (ls' := [some (.ref v0), none, some (.int v2), some (.int v3), some (.int v4), some (.int v5), some (.int v6), some (.int s0), some (.int r4), some (.int r6)]) dX8_goMonth_105 (by decide) rfl ?_
  refine J_aload_n X dX8_goMonth_107 (i := 0) rfl rfl ?_
  refine T_getR X (kf := 1) cb8 kv0 (by decide) fl_X8_15 (fun _ _ _ => rfl) dX8_goMonth_108 ?_
  refine T_getR X (kf := 0) cb5 (wS5.1 _ _ kv0 1 _ rfl) (by decide) fl_X8_81 (fun _ _ _ => rfl) dX8_goMonth_111 ?_
  refine J_bipush X (v := (16 : Int32)) dX8_goMonth_114 (by decide) ?_
  refine J_iload X dX8_goMonth_116 rfl ?_
  refine J_iadd X dX8_goMonth_118 ?_
  refine J_iload X dX8_goMonth_119 rfl ?_
  refine J_aload_n X dX8_goMonth_121 (i := 0) rfl rfl ?_
  refine T_getI X (kf := 2) cb8 kv0 (by decide) fl_X8_87 (fun _ _ _ => rfl) dX8_goMonth_122 ?_
  refine J_iload X dX8_goMonth_125 rfl ?_
  refine T_callS (As := [.int v5, .int (S5.1 v0 2), .int r4]) wS5 X (C_X8_gone (kG K) v5 (S5.1 v0 2) r4 S5) ml_X8_129 st_yX8_gone ii_RX8 co_yX8_gone hy_X8_gone (hRd hR (by decide) (by decide)) rfl (Nat.le_of_ble_eq_true rfl) dX8_goMonth_127 (fun r8 S7 _ wS7 => ?_)
  refine T_iast X (wS5.1 _ _ (wS5.1 _ _ kv0 1 _ rfl) 0 _ rfl) dX8_goMonth_130 (fun j9 S10 hS10 => ?_)
  have wS10 : WT (kDn K) S10.2.2 := by rw [hS10]; exact wS7
  clear hS10
  refine J_aload_n X dX8_goMonth_131 (i := 0) rfl rfl ?_
  refine T_getR X (kf := 1) cb8 kv0 (by decide) fl_X8_15 (fun _ _ _ => rfl) dX8_goMonth_132 ?_
  refine T_getR X (kf := 0) cb5 (wS10.1 _ _ kv0 1 _ rfl) (by decide) fl_X8_81 (fun _ _ _ => rfl) dX8_goMonth_135 ?_
  refine J_bipush X (v := (22 : Int32)) dX8_goMonth_138 (by decide) ?_
  refine J_iload X dX8_goMonth_140 rfl ?_
  refine J_iadd X dX8_goMonth_142 ?_
  refine J_iload X dX8_goMonth_143 rfl ?_
  refine T_iast X (wS10.1 _ _ (wS10.1 _ _ kv0 1 _ rfl) 0 _ rfl) dX8_goMonth_145 (fun j11 S12 hS12 => ?_)
  have wS12 : WT (kDn K) S12.2.2 := by rw [hS12]; exact wS10
  clear hS12
  refine J_iload X dX8_goMonth_146 rfl ?_
  refine J_if_ne X (tgt := 163) dX8_goMonth_148 (by decide) ?_ ?_
  · refine J_iload X dX8_goMonth_151 rfl ?_
    refine J_aload_n X dX8_goMonth_153 (i := 0) rfl rfl ?_
    refine T_getR X (kf := 0) cb8 kv0 (by decide) fl_X8_9 (fun _ _ _ => rfl) dX8_goMonth_154 ?_
    refine T_getI X (kf := 3) cb0 (wS12.1 _ _ kv0 0 _ rfl) (by decide) fl_X8_132 (fun _ _ _ => rfl) dX8_goMonth_157 ?_
    refine J_icmp_le X (tgt := 179) dX8_goMonth_160 (by decide) ?_ ?_
    · refine J_mask [true, false, true, true, true, false, false, false, false, false] ?_
      exact t_X8_goMonth_179 X hR hq3 v0 kv0 v2 v3 v4 S12 wS12
    · refine J_mask [true, false, true, true, true, false, false, false, false, false] ?_
      exact t_X8_goMonth_163 X hR hq3 v0 kv0 v2 v3 v4 S12 wS12
  · refine J_mask [true, false, true, true, true, false, false, false, false, false] ?_
    exact t_X8_goMonth_163 X hR hq3 v0 kv0 v2 v3 v4 S12 wS12
set_option maxRecDepth 20000 in
def b_X8_goMonth_69 (q3 : Nat → Int32 → Int32 → Int32 → St → Option (Unit × St)) (v0 : Nat) (v2 : Int32) (v3 : Int32) (v4 : Int32) (v5 : Int32) (v6 : Int32) (S : St) : Option (Unit × St) := b_X8_goMonth_70 q3 v0 v2 v3 v4 v5 v6 (0 : Int32) S
set_option maxRecDepth 20000 in
theorem t_X8_goMonth_69 {K : KK} (X : CX K cX8_goMonth 10 RX8 none) (hR : kR K = rmD 5) {q3 : Nat → Int32 → Int32 → Int32 → St → Option (Unit × St)} (hq3 : ∀ (v0 : Nat) (kv0 : KA (kDn K) v0 (0, 8)) (v2 : Int32) (v3 : Int32) (v4 : Int32) (S : St), WT (kDn K) S.2.2 → JX K (Zm K (fun _ : Unit => none)) 3 [some (.ref v0), none, some (.int v2), some (.int v3), some (.int v4), none, none, none, none, none] [] (rwN (kN K) S) (kn K) 0 0 (q3 v0 v2 v3 v4 S)) (v0 : Nat) (kv0 : KA (kDn K) v0 (0, 8)) (v2 : Int32) (v3 : Int32) (v4 : Int32) (v5 : Int32) (v6 : Int32) (S : St) (w : WT (kDn K) S.2.2) : JX K (Zm K (fun _ : Unit => none)) 69 [some (.ref v0), none, some (.int v2), some (.int v3), some (.int v4), some (.int v5), some (.int v6), none, none, none] [] (rwN (kN K) S) (kn K) 0 0 (b_X8_goMonth_69 q3 v0 v2 v3 v4 v5 v6 S) := by
  unfold b_X8_goMonth_69
  refine J_iconst X (v := (0 : Int32)) dX8_goMonth_69 (by decide) ?_
  exact t_X8_goMonth_70 X hR hq3 v0 kv0 v2 v3 v4 v5 v6 (0 : Int32) S w
set_option maxRecDepth 20000 in
def b_X8_goMonth_3 : Nat → Nat → Int32 → Int32 → Int32 → St → Option (Unit × St)
  | 0, _, _, _, _, _ => none
  | fu + 1, v0, v2, v3, v4, S => if v2 ≤ v4 then (b_X8_goMonth_188 FU v0 (0 : Int32) S) else (bd (f_X5_isOff (S.2.2 v0 1) v4 S) fun r2 S1 => if r2 = 0 then ((ix ((16 : Int32) + v4) 36).bind fun j3 => nm (S1.1 (S1.2.2 (S1.2.2 v0 1) 0) j3) fun x4 => (ix ((22 : Int32) + v4) 36).bind fun j5 => nm (S1.1 (S1.2.2 (S1.2.2 v0 1) 0) j5) fun x6 => if v3 = 0 then (b_X8_goMonth_69 (b_X8_goMonth_3 fu) v0 v2 v3 v4 x4 x6 S1) else (bd (f_X8_seedsThatDrown v0 v4 (1 : Int32) S1) fun r8 S7 => if r8 = 0 then (b_X8_goMonth_69 (b_X8_goMonth_3 fu) v0 v2 v3 v4 x4 x6 S7) else (b_X8_goMonth_70 (b_X8_goMonth_3 fu) v0 v2 v3 v4 x4 x6 (1 : Int32) S7))) else (b_X8_goMonth_179 (b_X8_goMonth_3 fu) v0 v2 v3 v4 S1))
set_option maxRecDepth 20000 in
theorem t_X8_goMonth_3 {K : KK} (X : CX K cX8_goMonth 10 RX8 none) (hR : kR K = rmD 5) : ∀ (fu : Nat) (v0 : Nat) (kv0 : KA (kDn K) v0 (0, 8)) (v2 : Int32) (v3 : Int32) (v4 : Int32) (S : St), WT (kDn K) S.2.2 → JX K (Zm K (fun _ : Unit => none)) 3 [some (.ref v0), none, some (.int v2), some (.int v3), some (.int v4), none, none, none, none, none] [] (rwN (kN K) S) (kn K) 0 0 (b_X8_goMonth_3 fu v0 v2 v3 v4 S) := by
  intro fu
  induction fu with
  | zero => intro v0 kv0 v2 v3 v4 S w; exact J_none
  | succ fu ih =>
    intro v0 kv0 v2 v3 v4 S w
    rw [b_X8_goMonth_3]
    refine J_iload X dX8_goMonth_3 rfl ?_
    refine J_iload_n X dX8_goMonth_5 (i := 2) rfl rfl ?_
    refine J_icmp_ge X (tgt := 185) dX8_goMonth_6 (by decide) ?_ ?_
    · refine J_iconst X (v := (0 : Int32)) dX8_goMonth_185 (by decide) ?_
      refine J_istore X (ls' := [some (.ref v0), none, some (.int v2), some (.int v3), some (.int (0 : Int32)), none, none, none, none, none]) dX8_goMonth_186 (by decide) rfl ?_
      refine J_mask [true, false, false, false, true, false, false, false, false, false] ?_
      exact t_X8_goMonth_188 X hR FU v0 kv0 (0 : Int32) S w
    · refine J_aload_n X dX8_goMonth_9 (i := 0) rfl rfl ?_
      refine T_getR X (kf := 1) cb8 kv0 (by decide) fl_X8_15 (fun _ _ _ => rfl) dX8_goMonth_10 ?_
      refine J_iload X dX8_goMonth_13 rfl ?_
      refine T_callV (As := [.int v4]) w X (C_X5_isOff (kG K) (S.2.2 v0 1) (w.1 _ _ kv0 1 _ rfl) v4 S) cb5 (w.1 _ _ kv0 1 _ rfl) ml_X8_64 in_yX5_isOff se_yX5_isOff ii_RX5 co_yX5_isOff hy_X5_isOff (hRd hR (by decide) (by decide)) rfl (Nat.le_of_ble_eq_true rfl) dX8_goMonth_15 (fun r2 S1 _ wS1 => ?_)
      refine J_if_ne X (tgt := 179) dX8_goMonth_18 (by decide) ?_ ?_
      · refine J_aload_n X dX8_goMonth_21 (i := 0) rfl rfl ?_
        refine T_getR X (kf := 1) cb8 kv0 (by decide) fl_X8_15 (fun _ _ _ => rfl) dX8_goMonth_22 ?_
        refine T_getR X (kf := 0) cb5 (wS1.1 _ _ kv0 1 _ rfl) (by decide) fl_X8_81 (fun _ _ _ => rfl) dX8_goMonth_25 ?_
        refine J_bipush X (v := (16 : Int32)) dX8_goMonth_28 (by decide) ?_
        refine J_iload X dX8_goMonth_30 rfl ?_
        refine J_iadd X dX8_goMonth_32 ?_
        refine T_iald X (wS1.1 _ _ (wS1.1 _ _ kv0 1 _ rfl) 0 _ rfl) dX8_goMonth_33 (fun j3 => ?_)
        refine J_nmi (fun x4 => ?_)
        refine J_istore X (ls' := [some (.ref v0), none, some (.int v2), some (.int v3), some (.int v4), some (.int x4), none, none, none, none]) dX8_goMonth_34 (by decide) rfl ?_
        refine J_aload_n X dX8_goMonth_36 (i := 0) rfl rfl ?_
        refine T_getR X (kf := 1) cb8 kv0 (by decide) fl_X8_15 (fun _ _ _ => rfl) dX8_goMonth_37 ?_
        refine T_getR X (kf := 0) cb5 (wS1.1 _ _ kv0 1 _ rfl) (by decide) fl_X8_81 (fun _ _ _ => rfl) dX8_goMonth_40 ?_
        refine J_bipush X (v := (22 : Int32)) dX8_goMonth_43 (by decide) ?_
        refine J_iload X dX8_goMonth_45 rfl ?_
        refine J_iadd X dX8_goMonth_47 ?_
        refine T_iald X (wS1.1 _ _ (wS1.1 _ _ kv0 1 _ rfl) 0 _ rfl) dX8_goMonth_48 (fun j5 => ?_)
        refine J_nmi (fun x6 => ?_)
        refine J_istore X (ls' := [some (.ref v0), none, some (.int v2), some (.int v3), some (.int v4), some (.int x4), some (.int x6), none, none, none]) dX8_goMonth_49 (by decide) rfl ?_
        refine J_iload_n X dX8_goMonth_51 (i := 3) rfl rfl ?_
        refine J_if_eq X (tgt := 69) dX8_goMonth_52 (by decide) ?_ ?_
        · exact t_X8_goMonth_69 X hR ih v0 kv0 v2 v3 v4 x4 x6 S1 wS1
        · refine J_aload_n X dX8_goMonth_55 (i := 0) rfl rfl ?_
          refine J_iload X dX8_goMonth_56 rfl ?_
          refine J_iconst X (v := (1 : Int32)) dX8_goMonth_58 (by decide) ?_
          refine T_callV (As := [.int v4, .int (1 : Int32)]) wS1 X (C_X8_seedsThatDrown (kG K) v0 kv0 v4 (1 : Int32) S1) cb8 kv0 ml_X8_126 in_yX8_seedsThatDrown se_yX8_seedsThatDrown ii_RX8 co_yX8_seedsThatDrown hy_X8_seedsThatDrown (hRd hR (by decide) (by decide)) rfl (Nat.le_of_ble_eq_true rfl) dX8_goMonth_59 (fun r8 S7 _ wS7 => ?_)
          refine J_if_eq X (tgt := 69) dX8_goMonth_62 (by decide) ?_ ?_
          · exact t_X8_goMonth_69 X hR ih v0 kv0 v2 v3 v4 x4 x6 S7 wS7
          · refine J_iconst X (v := (1 : Int32)) dX8_goMonth_65 (by decide) ?_
            refine J_goto X (tgt := 70) dX8_goMonth_66 (by decide) ?_
            exact t_X8_goMonth_70 X hR ih v0 kv0 v2 v3 v4 x4 x6 (1 : Int32) S7 wS7
      · exact t_X8_goMonth_179 X hR ih v0 kv0 v2 v3 v4 S1 wS1
set_option maxRecDepth 20000 in
def f_X8_goMonth (v0 : Nat) (v1 : Int32) (v2 : Int32) (v3 : Int32) (S : St) : Option (Unit × St) := b_X8_goMonth_3 FU v0 v2 v3 v1 S
set_option maxRecDepth 20000 in
theorem t_X8_goMonth_0 {K : KK} (X : CX K cX8_goMonth 10 RX8 none) (hR : kR K = rmD 5) (v0 : Nat) (kv0 : KA (kDn K) v0 (0, 8)) (v1 : Int32) (v2 : Int32) (v3 : Int32) (S : St) (w : WT (kDn K) S.2.2) : JX K (Zm K (fun _ : Unit => none)) 0 [some (.ref v0), some (.int v1), some (.int v2), some (.int v3), none, none, none, none, none, none] [] (rwN (kN K) S) (kn K) 0 0 (f_X8_goMonth v0 v1 v2 v3 S) := by
  unfold f_X8_goMonth
  refine J_iload_n X dX8_goMonth_0 (i := 1) rfl rfl ?_
  refine J_istore X (ls' := [some (.ref v0), some (.int v1), some (.int v2), some (.int v3), some (.int v1), none, none, none, none, none]) dX8_goMonth_1 (by decide) rfl ?_
  refine J_mask [true, false, true, true, true, false, false, false, false, false] ?_
  exact t_X8_goMonth_3 X hR FU v0 kv0 v2 v3 v1 S w
theorem C_X8_goMonth (G : GG) (v0 : Nat) (kv0 : KA (gD G) v0 (0, 8)) (v1 : Int32) (v2 : Int32) (v3 : Int32) (S : St) : CM G yX8_goMonth cX8_goMonth 10 none 5 [.ref v0, .int v1, .int v2, .int v3] S (fun _ : Unit => none) (f_X8_goMonth v0 v1 v2 v3 S) :=
  CM_of (by decide) (Nat.le_of_ble_eq_true rfl) rfl (fun K hG X hR w => by subst hG; exact t_X8_goMonth_0 X hR v0 kv0 v1 v2 v3 S w)
-- ==== X8_goUntilFirst
theorem hy_X8_goUntilFirst : yX8_goUntilFirst.cls ≠ "java/lang/invoke/MethodHandle" ∧ yX8_goUntilFirst.cls ≠ "java/lang/invoke/VarHandle" ∧ (parseMethodDescriptor yX8_goUntilFirst.desc).map (fun d => d.parameters.length) = some 0 := by decide +kernel
set_option maxRecDepth 20000 in
def b_X8_goUntilFirst_10 : Nat → Nat → Int32 → Int32 → St → Option (Int32 × St)
  | 0, _, _, _, _ => none
  | fu + 1, v0, v1, v2, S => if (101 : Int32) ≤ v2 then (some ((101 : Int32), S)) else (bd (f_X8_goMonth v0 (0 : Int32) (S.1 (S.2.2 v0 0) 1) (0 : Int32) S) fun _ S1 => if (S1.1 (S1.2.2 v0 1) 2) = v1 then (nm (v2 + (1 : Int32)) fun x3 => b_X8_goUntilFirst_10 fu v0 v1 x3 S1) else (some (v2, S1)))
set_option maxRecDepth 20000 in
theorem t_X8_goUntilFirst_10 {K : KK} (X : CX K cX8_goUntilFirst 3 RX8 (some .int)) (hR : kR K = rmD 6) : ∀ (fu : Nat) (v0 : Nat) (kv0 : KA (kDn K) v0 (0, 8)) (v1 : Int32) (v2 : Int32) (S : St), WT (kDn K) S.2.2 → JX K (Zm K (fun v : Int32 => some (.int v))) 10 [some (.ref v0), some (.int v1), some (.int v2)] [] (rwN (kN K) S) (kn K) 0 0 (b_X8_goUntilFirst_10 fu v0 v1 v2 S) := by
  intro fu
  induction fu with
  | zero => intro v0 kv0 v1 v2 S w; exact J_none
  | succ fu ih =>
    intro v0 kv0 v1 v2 S w
    rw [b_X8_goUntilFirst_10]
    refine J_iload_n X dX8_goUntilFirst_10 (i := 2) rfl rfl ?_
    refine J_bipush X (v := (101 : Int32)) dX8_goUntilFirst_11 (by decide) ?_
    refine J_icmp_ge X (tgt := 48) dX8_goUntilFirst_13 (by decide) ?_ ?_
    · refine J_bipush X (v := (101 : Int32)) dX8_goUntilFirst_48 (by decide) ?_
      exact T_iret w X dX8_goUntilFirst_50
    · refine J_aload_n X dX8_goUntilFirst_16 (i := 0) rfl rfl ?_
      refine J_iconst X (v := (0 : Int32)) dX8_goUntilFirst_17 (by decide) ?_
      refine J_aload_n X dX8_goUntilFirst_18 (i := 0) rfl rfl ?_
      refine T_getR X (kf := 0) cb8 kv0 (by decide) fl_X8_9 (fun _ _ _ => rfl) dX8_goUntilFirst_19 ?_
      refine T_getI X (kf := 1) cb0 (w.1 _ _ kv0 0 _ rfl) (by decide) fl_X8_161 (fun _ _ _ => rfl) dX8_goUntilFirst_22 ?_
      refine J_iconst X (v := (0 : Int32)) dX8_goUntilFirst_25 (by decide) ?_
      refine T_callV (As := [.int (0 : Int32), .int (S.1 (S.2.2 v0 0) 1), .int (0 : Int32)]) w X (C_X8_goMonth (kG K) v0 kv0 (0 : Int32) (S.1 (S.2.2 v0 0) 1) (0 : Int32) S) cb8 kv0 ml_X8_164 in_yX8_goMonth se_yX8_goMonth ii_RX8 co_yX8_goMonth hy_X8_goMonth (hRd hR (by decide) (by decide)) rfl (Nat.le_of_ble_eq_true rfl) dX8_goUntilFirst_26 (fun _ S1 _ wS1 => ?_)
      refine J_aload_n X dX8_goUntilFirst_29 (i := 0) rfl rfl ?_
      refine T_getR X (kf := 1) cb8 kv0 (by decide) fl_X8_15 (fun _ _ _ => rfl) dX8_goUntilFirst_30 ?_
      refine T_getI X (kf := 2) cb5 (wS1.1 _ _ kv0 1 _ rfl) (by decide) fl_X8_135 (fun _ _ _ => rfl) dX8_goUntilFirst_33 ?_
      refine J_iload_n X dX8_goUntilFirst_36 (i := 1) rfl rfl ?_
      refine J_icmp_eq X (tgt := 42) dX8_goUntilFirst_37 (by decide) ?_ ?_
      · refine J_nmv (v2 + (1 : Int32)) (fun x3 ex3 => ?_)
        refine J_iinc X (v := x3) (ls' := [some (.ref v0), some (.int v1), some (.int x3)]) dX8_goUntilFirst_42 (by decide) rfl (by rw [ex3]; rfl) rfl ?_
        refine J_goto X (tgt := 10) dX8_goUntilFirst_45 (by decide) ?_
        exact ih v0 kv0 v1 x3 S1 wS1
      · refine J_iload_n X dX8_goUntilFirst_40 (i := 2) rfl rfl ?_
        exact T_iret wS1 X dX8_goUntilFirst_41
set_option maxRecDepth 20000 in
def f_X8_goUntilFirst (v0 : Nat) (S : St) : Option (Int32 × St) := nm (S.1 (S.2.2 v0 1) 2) fun x1 => b_X8_goUntilFirst_10 FU v0 x1 (1 : Int32) S
set_option maxRecDepth 20000 in
theorem t_X8_goUntilFirst_0 {K : KK} (X : CX K cX8_goUntilFirst 3 RX8 (some .int)) (hR : kR K = rmD 6) (v0 : Nat) (kv0 : KA (kDn K) v0 (0, 8)) (S : St) (w : WT (kDn K) S.2.2) : JX K (Zm K (fun v : Int32 => some (.int v))) 0 [some (.ref v0), none, none] [] (rwN (kN K) S) (kn K) 0 0 (f_X8_goUntilFirst v0 S) := by
  unfold f_X8_goUntilFirst
  refine J_aload_n X dX8_goUntilFirst_0 (i := 0) rfl rfl ?_
  refine T_getR X (kf := 1) cb8 kv0 (by decide) fl_X8_15 (fun _ _ _ => rfl) dX8_goUntilFirst_1 ?_
  refine T_getI X (kf := 2) cb5 (w.1 _ _ kv0 1 _ rfl) (by decide) fl_X8_135 (fun _ _ _ => rfl) dX8_goUntilFirst_4 ?_
  refine J_nmi (fun x1 => ?_)
  refine J_istore_n X (i := 1) (ls' := [some (.ref v0), some (.int x1), none]) dX8_goUntilFirst_7 rfl (by decide) rfl ?_
  refine J_iconst X (v := (1 : Int32)) dX8_goUntilFirst_8 (by decide) ?_
  refine J_istore_n X (i := 2) (ls' := [some (.ref v0), some (.int x1), some (.int (1 : Int32))]) dX8_goUntilFirst_9 rfl (by decide) rfl ?_
  exact t_X8_goUntilFirst_10 X hR FU v0 kv0 x1 (1 : Int32) S w
theorem C_X8_goUntilFirst (G : GG) (v0 : Nat) (kv0 : KA (gD G) v0 (0, 8)) (S : St) : CM G yX8_goUntilFirst cX8_goUntilFirst 3 (some .int) 6 [.ref v0] S (fun v : Int32 => some (.int v)) (f_X8_goUntilFirst v0 S) :=
  CM_of (by decide) (Nat.le_of_ble_eq_true rfl) rfl (fun K hG X hR w => by subst hG; exact t_X8_goUntilFirst_0 X hR v0 kv0 S w)
-- ==== X9_feedFour
theorem hy_X9_feedFour : yX9_feedFour.cls ≠ "java/lang/invoke/MethodHandle" ∧ yX9_feedFour.cls ≠ "java/lang/invoke/VarHandle" ∧ (parseMethodDescriptor yX9_feedFour.desc).map (fun d => d.parameters.length) = some 1 := by decide +kernel
set_option maxRecDepth 20000 in
def b_X9_feedFour_42 (q3 : Nat → Int32 → Int32 → St → Option (Unit × St)) (v0 : Nat) (v1 : Int32) (v2 : Int32) (S : St) : Option (Unit × St) := nm (v2 + (-8 : Int32)) fun x1 => q3 v0 v1 x1 S
set_option maxRecDepth 20000 in
theorem t_X9_feedFour_42 {K : KK} (X : CX K cX9_feedFour 3 RX9 none) (hR : kR K = rmD 0) {q3 : Nat → Int32 → Int32 → St → Option (Unit × St)} (hq3 : ∀ (v0 : Nat) (kv0 : KA (kDn K) v0 (0, 9)) (v1 : Int32) (v2 : Int32) (S : St), WT (kDn K) S.2.2 → JX K (Zm K (fun _ : Unit => none)) 3 [some (.ref v0), some (.int v1), some (.int v2)] [] (rwN (kN K) S) (kn K) 0 0 (q3 v0 v1 v2 S)) (v0 : Nat) (kv0 : KA (kDn K) v0 (0, 9)) (v1 : Int32) (v2 : Int32) (S : St) (w : WT (kDn K) S.2.2) : JX K (Zm K (fun _ : Unit => none)) 42 [some (.ref v0), some (.int v1), some (.int v2)] [] (rwN (kN K) S) (kn K) 0 0 (b_X9_feedFour_42 q3 v0 v1 v2 S) := by
  unfold b_X9_feedFour_42
  refine J_nmv (v2 + (-8 : Int32)) (fun x1 ex1 => ?_)
  refine J_iinc X (v := x1) (ls' := [some (.ref v0), some (.int v1), some (.int x1)]) dX9_feedFour_42 (by decide) rfl (by rw [ex1]; rfl) rfl ?_
  refine J_goto X (tgt := 3) dX9_feedFour_45 (by decide) ?_
  exact hq3 v0 kv0 v1 x1 S w
set_option maxRecDepth 20000 in
def b_X9_feedFour_3 : Nat → Nat → Int32 → Int32 → St → Option (Unit × St)
  | 0, _, _, _, _ => none
  | fu + 1, v0, v1, v2, S => if v2 < 0 then (some ((), S)) else (if (Int32.ofNat 2000) ≤ (S.1 v0 1) then (b_X9_feedFour_42 (b_X9_feedFour_3 fu) v0 v1 v2 S) else ((ix (S.1 v0 1) 2000).bind fun j1 => nm (sI S (S.2.2 v0 0) j1 (vp_nar .byte (((v1.toUInt32 >>> (v2.toUInt32 &&& Int32.toUInt32 31)).toInt32).toInt8.toInt32))) fun S2 => nm (sI S2 v0 1 ((S2.1 v0 1) + (1 : Int32))) fun S3 => b_X9_feedFour_42 (b_X9_feedFour_3 fu) v0 v1 v2 S3))
set_option maxRecDepth 20000 in
theorem t_X9_feedFour_3 {K : KK} (X : CX K cX9_feedFour 3 RX9 none) (hR : kR K = rmD 0) : ∀ (fu : Nat) (v0 : Nat) (kv0 : KA (kDn K) v0 (0, 9)) (v1 : Int32) (v2 : Int32) (S : St), WT (kDn K) S.2.2 → JX K (Zm K (fun _ : Unit => none)) 3 [some (.ref v0), some (.int v1), some (.int v2)] [] (rwN (kN K) S) (kn K) 0 0 (b_X9_feedFour_3 fu v0 v1 v2 S) := by
  intro fu
  induction fu with
  | zero => intro v0 kv0 v1 v2 S w; exact J_none
  | succ fu ih =>
    intro v0 kv0 v1 v2 S w
    rw [b_X9_feedFour_3]
    refine J_iload_n X dX9_feedFour_3 (i := 2) rfl rfl ?_
    refine J_if_lt X (tgt := 48) dX9_feedFour_4 (by decide) ?_ ?_
    · exact T_vret w X dX9_feedFour_48
    · refine J_aload_n X dX9_feedFour_7 (i := 0) rfl rfl ?_
      refine T_getI X (kf := 1) cb9 kv0 (by decide) fl_X9_79 (fun _ _ _ => rfl) dX9_feedFour_8 ?_
      refine J_aload_n X dX9_feedFour_11 (i := 0) rfl rfl ?_
      refine T_getR X (kf := 0) cb9 kv0 (by decide) fl_X9_9 (fun _ _ _ => rfl) dX9_feedFour_12 ?_
      refine T_alen2 X (w.1 _ _ kv0 0 _ rfl) dX9_feedFour_15 ?_
      refine J_icmp_ge X (tgt := 42) dX9_feedFour_16 (by decide) ?_ ?_
      · exact t_X9_feedFour_42 X hR ih v0 kv0 v1 v2 S w
      · refine J_aload_n X dX9_feedFour_19 (i := 0) rfl rfl ?_
        refine T_getR X (kf := 0) cb9 kv0 (by decide) fl_X9_9 (fun _ _ _ => rfl) dX9_feedFour_20 ?_
        refine J_aload_n X dX9_feedFour_23 (i := 0) rfl rfl ?_
        refine T_getI X (kf := 1) cb9 kv0 (by decide) fl_X9_79 (fun _ _ _ => rfl) dX9_feedFour_24 ?_
        refine J_iload_n X dX9_feedFour_27 (i := 1) rfl rfl ?_
        refine J_iload_n X dX9_feedFour_28 (i := 2) rfl rfl ?_
        refine J_iushr X dX9_feedFour_29 ?_
        refine J_i2b X dX9_feedFour_30 ?_
        refine T_bast X (w.1 _ _ kv0 0 _ rfl) dX9_feedFour_31 (fun j1 S2 hS2 => ?_)
        have wS2 : WT (kDn K) S2.2.2 := by rw [hS2]; exact w
        clear hS2
        refine J_aload_n X dX9_feedFour_32 (i := 0) rfl rfl ?_
        refine J_dup X dX9_feedFour_33 rfl ?_
        refine T_getI X (kf := 1) cb9 kv0 (by decide) fl_X9_79 (fun _ _ _ => rfl) dX9_feedFour_34 ?_
        refine J_iconst X (v := (1 : Int32)) dX9_feedFour_37 (by decide) ?_
        refine J_iadd X dX9_feedFour_38 ?_
        refine T_putI X (kf := 1) cb9 kv0 (by decide) fl_X9_79 (fun _ _ _ => rfl) rfl rfl rfl dX9_feedFour_39 (fun S3 hS3 => ?_)
        have wS3 : WT (kDn K) S3.2.2 := by rw [hS3]; exact wS2
        clear hS3
        exact t_X9_feedFour_42 X hR ih v0 kv0 v1 v2 S3 wS3
set_option maxRecDepth 20000 in
def f_X9_feedFour (v0 : Nat) (v1 : Int32) (S : St) : Option (Unit × St) := b_X9_feedFour_3 FU v0 v1 (24 : Int32) S
set_option maxRecDepth 20000 in
theorem t_X9_feedFour_0 {K : KK} (X : CX K cX9_feedFour 3 RX9 none) (hR : kR K = rmD 0) (v0 : Nat) (kv0 : KA (kDn K) v0 (0, 9)) (v1 : Int32) (S : St) (w : WT (kDn K) S.2.2) : JX K (Zm K (fun _ : Unit => none)) 0 [some (.ref v0), some (.int v1), none] [] (rwN (kN K) S) (kn K) 0 0 (f_X9_feedFour v0 v1 S) := by
  unfold f_X9_feedFour
  refine J_bipush X (v := (24 : Int32)) dX9_feedFour_0 (by decide) ?_
  refine J_istore_n X (i := 2) (ls' := [some (.ref v0), some (.int v1), some (.int (24 : Int32))]) dX9_feedFour_2 rfl (by decide) rfl ?_
  exact t_X9_feedFour_3 X hR FU v0 kv0 v1 (24 : Int32) S w
theorem C_X9_feedFour (G : GG) (v0 : Nat) (kv0 : KA (gD G) v0 (0, 9)) (v1 : Int32) (S : St) : CM G yX9_feedFour cX9_feedFour 3 none 0 [.ref v0, .int v1] S (fun _ : Unit => none) (f_X9_feedFour v0 v1 S) :=
  CM_of (by decide) (Nat.le_of_ble_eq_true rfl) rfl (fun K hG X hR w => by subst hG; exact t_X9_feedFour_0 X hR v0 kv0 v1 S w)
-- ==== X9_feed
theorem hy_X9_feed : yX9_feed.cls ≠ "java/lang/invoke/MethodHandle" ∧ yX9_feed.cls ≠ "java/lang/invoke/VarHandle" ∧ (parseMethodDescriptor yX9_feed.desc).map (fun d => d.parameters.length) = some 5 := by decide +kernel
set_option maxRecDepth 20000 in
def f_X9_feed (v0 : Nat) (v1 : Int32) (v2 : Int32) (v3 : Int32) (v4 : Int32) (v5 : Int32) (S : St) : Option (Int32 × St) := if (S.1 v0 1) ≤ (1980 : Int32) then (bd (f_X9_feedFour v0 v1 S) fun _ S1 => bd (f_X9_feedFour v0 v2 S1) fun _ S3 => bd (f_X9_feedFour v0 v3 S3) fun _ S5 => bd (f_X9_feedFour v0 v4 S5) fun _ S7 => bd (f_X9_feedFour v0 v5 S7) fun _ S9 => some (S9.1 v0 1, S9)) else (some ((-1 : Int32), S))
set_option maxRecDepth 20000 in
theorem t_X9_feed_0 {K : KK} (X : CX K cX9_feed 6 RX9 (some .int)) (hR : kR K = rmD 1) (v0 : Nat) (kv0 : KA (kDn K) v0 (0, 9)) (v1 : Int32) (v2 : Int32) (v3 : Int32) (v4 : Int32) (v5 : Int32) (S : St) (w : WT (kDn K) S.2.2) : JX K (Zm K (fun v : Int32 => some (.int v))) 0 [some (.ref v0), some (.int v1), some (.int v2), some (.int v3), some (.int v4), some (.int v5)] [] (rwN (kN K) S) (kn K) 0 0 (f_X9_feed v0 v1 v2 v3 v4 v5 S) := by
  unfold f_X9_feed
  refine J_aload_n X dX9_feed_0 (i := 0) rfl rfl ?_
  refine T_getI X (kf := 1) cb9 kv0 (by decide) fl_X9_79 (fun _ _ _ => rfl) dX9_feed_1 ?_
  refine J_sipush X (v := (1980 : Int32)) dX9_feed_4 (by decide) ?_
  refine J_icmp_le X (tgt := 12) dX9_feed_7 (by decide) ?_ ?_
  · refine J_aload_n X dX9_feed_12 (i := 0) rfl rfl ?_
    refine J_iload_n X dX9_feed_13 (i := 1) rfl rfl ?_
    refine T_callV (As := [.int v1]) w X (C_X9_feedFour (kG K) v0 kv0 v1 S) cb9 kv0 ml_X9_83 in_yX9_feedFour se_yX9_feedFour ii_RX9 co_yX9_feedFour hy_X9_feedFour (hRd hR (by decide) (by decide)) rfl (Nat.le_of_ble_eq_true rfl) dX9_feed_14 (fun _ S1 _ wS1 => ?_)
    refine J_aload_n X dX9_feed_17 (i := 0) rfl rfl ?_
    refine J_iload_n X dX9_feed_18 (i := 2) rfl rfl ?_
    refine T_callV (As := [.int v2]) wS1 X (C_X9_feedFour (kG K) v0 kv0 v2 S1) cb9 kv0 ml_X9_83 in_yX9_feedFour se_yX9_feedFour ii_RX9 co_yX9_feedFour hy_X9_feedFour (hRd hR (by decide) (by decide)) rfl (Nat.le_of_ble_eq_true rfl) dX9_feed_19 (fun _ S3 _ wS3 => ?_)
    refine J_aload_n X dX9_feed_22 (i := 0) rfl rfl ?_
    refine J_iload_n X dX9_feed_23 (i := 3) rfl rfl ?_
    refine T_callV (As := [.int v3]) wS3 X (C_X9_feedFour (kG K) v0 kv0 v3 S3) cb9 kv0 ml_X9_83 in_yX9_feedFour se_yX9_feedFour ii_RX9 co_yX9_feedFour hy_X9_feedFour (hRd hR (by decide) (by decide)) rfl (Nat.le_of_ble_eq_true rfl) dX9_feed_24 (fun _ S5 _ wS5 => ?_)
    refine J_aload_n X dX9_feed_27 (i := 0) rfl rfl ?_
    refine J_iload X dX9_feed_28 rfl ?_
    refine T_callV (As := [.int v4]) wS5 X (C_X9_feedFour (kG K) v0 kv0 v4 S5) cb9 kv0 ml_X9_83 in_yX9_feedFour se_yX9_feedFour ii_RX9 co_yX9_feedFour hy_X9_feedFour (hRd hR (by decide) (by decide)) rfl (Nat.le_of_ble_eq_true rfl) dX9_feed_30 (fun _ S7 _ wS7 => ?_)
    refine J_aload_n X dX9_feed_33 (i := 0) rfl rfl ?_
    refine J_iload X dX9_feed_34 rfl ?_
    refine T_callV (As := [.int v5]) wS7 X (C_X9_feedFour (kG K) v0 kv0 v5 S7) cb9 kv0 ml_X9_83 in_yX9_feedFour se_yX9_feedFour ii_RX9 co_yX9_feedFour hy_X9_feedFour (hRd hR (by decide) (by decide)) rfl (Nat.le_of_ble_eq_true rfl) dX9_feed_36 (fun _ S9 _ wS9 => ?_)
    refine J_aload_n X dX9_feed_39 (i := 0) rfl rfl ?_
    refine T_getI X (kf := 1) cb9 kv0 (by decide) fl_X9_79 (fun _ _ _ => rfl) dX9_feed_40 ?_
    exact T_iret wS9 X dX9_feed_43
  · refine J_iconst X (v := (-1 : Int32)) dX9_feed_10 (by decide) ?_
    exact T_iret w X dX9_feed_11
theorem C_X9_feed (G : GG) (v0 : Nat) (kv0 : KA (gD G) v0 (0, 9)) (v1 : Int32) (v2 : Int32) (v3 : Int32) (v4 : Int32) (v5 : Int32) (S : St) : CM G yX9_feed cX9_feed 6 (some .int) 1 [.ref v0, .int v1, .int v2, .int v3, .int v4, .int v5] S (fun v : Int32 => some (.int v)) (f_X9_feed v0 v1 v2 v3 v4 v5 S) :=
  CM_of (by decide) (Nat.le_of_ble_eq_true rfl) rfl (fun K hG X hR w => by subst hG; exact t_X9_feed_0 X hR v0 kv0 v1 v2 v3 v4 v5 S w)
-- ==== X9_back
theorem hy_X9_back : yX9_back.cls ≠ "java/lang/invoke/MethodHandle" ∧ yX9_back.cls ≠ "java/lang/invoke/VarHandle" ∧ (parseMethodDescriptor yX9_back.desc).map (fun d => d.parameters.length) = some 1 := by decide +kernel
set_option maxRecDepth 20000 in
def f_X9_back (v0 : Nat) (v1 : Int32) (S : St) : Option (Int32 × St) := if v1 < 0 then (some ((-1 : Int32), S)) else (if v1 ≤ (S.1 v0 1) then (nm (sI S v0 1 ((S.1 v0 1) - v1)) fun S1 => some (S1.1 v0 1, S1)) else (some ((-1 : Int32), S)))
set_option maxRecDepth 20000 in
theorem t_X9_back_0 {K : KK} (X : CX K cX9_back 2 RX9 (some .int)) (hR : kR K = rmD 0) (v0 : Nat) (kv0 : KA (kDn K) v0 (0, 9)) (v1 : Int32) (S : St) (w : WT (kDn K) S.2.2) : JX K (Zm K (fun v : Int32 => some (.int v))) 0 [some (.ref v0), some (.int v1)] [] (rwN (kN K) S) (kn K) 0 0 (f_X9_back v0 v1 S) := by
  unfold f_X9_back
  refine J_iload_n X dX9_back_0 (i := 1) rfl rfl ?_
  refine J_if_lt X (tgt := 12) dX9_back_1 (by decide) ?_ ?_
  · refine J_iconst X (v := (-1 : Int32)) dX9_back_12 (by decide) ?_
    exact T_iret w X dX9_back_13
  · refine J_iload_n X dX9_back_4 (i := 1) rfl rfl ?_
    refine J_aload_n X dX9_back_5 (i := 0) rfl rfl ?_
    refine T_getI X (kf := 1) cb9 kv0 (by decide) fl_X9_79 (fun _ _ _ => rfl) dX9_back_6 ?_
    refine J_icmp_le X (tgt := 14) dX9_back_9 (by decide) ?_ ?_
    · refine J_aload_n X dX9_back_14 (i := 0) rfl rfl ?_
      refine J_dup X dX9_back_15 rfl ?_
      refine T_getI X (kf := 1) cb9 kv0 (by decide) fl_X9_79 (fun _ _ _ => rfl) dX9_back_16 ?_
      refine J_iload_n X dX9_back_19 (i := 1) rfl rfl ?_
      refine J_isub X dX9_back_20 ?_
      refine T_putI X (kf := 1) cb9 kv0 (by decide) fl_X9_79 (fun _ _ _ => rfl) rfl rfl rfl dX9_back_21 (fun S1 hS1 => ?_)
      have wS1 : WT (kDn K) S1.2.2 := by rw [hS1]; exact w
      clear hS1
      refine J_aload_n X dX9_back_24 (i := 0) rfl rfl ?_
      refine T_getI X (kf := 1) cb9 kv0 (by decide) fl_X9_79 (fun _ _ _ => rfl) dX9_back_25 ?_
      exact T_iret wS1 X dX9_back_28
    · refine J_iconst X (v := (-1 : Int32)) dX9_back_12 (by decide) ?_
      exact T_iret w X dX9_back_13
theorem C_X9_back (G : GG) (v0 : Nat) (kv0 : KA (gD G) v0 (0, 9)) (v1 : Int32) (S : St) : CM G yX9_back cX9_back 2 (some .int) 0 [.ref v0, .int v1] S (fun v : Int32 => some (.int v)) (f_X9_back v0 v1 S) :=
  CM_of (by decide) (Nat.le_of_ble_eq_true rfl) rfl (fun K hG X hR w => by subst hG; exact t_X9_back_0 X hR v0 kv0 v1 S w)
-- ==== X9_goOnFromSpareBook
theorem hy_X9_goOnFromSpareBook : yX9_goOnFromSpareBook.cls ≠ "java/lang/invoke/MethodHandle" ∧ yX9_goOnFromSpareBook.cls ≠ "java/lang/invoke/VarHandle" ∧ (parseMethodDescriptor yX9_goOnFromSpareBook.desc).map (fun d => d.parameters.length) = some 0 := by decide +kernel
set_option maxRecDepth 20000 in
def f_X9_goOnFromSpareBook (v0 : Nat) (S : St) : Option (Unit × St) := nm (sR S v0 4 (S.2.2 v0 3)) fun S1 => nm (sR S1 v0 3 (S.2.2 v0 4)) fun S2 => nm (sR S2 (S2.2.2 v0 7) 0 (S2.2.2 v0 3)) fun S3 => nm (sR S3 (S3.2.2 v0 8) 0 (S3.2.2 v0 3)) fun S4 => bd (f_X5_copyFrom (S4.2.2 v0 5) (S4.2.2 (S4.2.2 v0 3) 11) S4) fun _ S5 => bd (f_X1_clearAll (S5.2.2 v0 9) S5) fun _ S7 => nm (sI S7 v0 11 (0 : Int32)) fun S9 => bd (f_X7_clearAll (S9.2.2 v0 13) S9) fun _ S10 => some ((), S10)
set_option maxRecDepth 20000 in
theorem t_X9_goOnFromSpareBook_0 {K : KK} (X : CX K cX9_goOnFromSpareBook 2 RX9 none) (hR : kR K = rmD 2) (v0 : Nat) (kv0 : KA (kDn K) v0 (0, 9)) (S : St) (w : WT (kDn K) S.2.2) : JX K (Zm K (fun _ : Unit => none)) 0 [some (.ref v0), none] [] (rwN (kN K) S) (kn K) 0 0 (f_X9_goOnFromSpareBook v0 S) := by
  unfold f_X9_goOnFromSpareBook
  refine J_aload_n X dX9_goOnFromSpareBook_0 (i := 0) rfl rfl ?_
  refine T_getR X (kf := 4) cb9 kv0 (by decide) fl_X9_20 (fun _ _ _ => rfl) dX9_goOnFromSpareBook_1 ?_
  refine J_astore_n X (i := 1) (ls' := [some (.ref v0), some (.ref (S.2.2 v0 4))]) dX9_goOnFromSpareBook_4 rfl (by decide) rfl ?_
  refine J_aload_n X dX9_goOnFromSpareBook_5 (i := 0) rfl rfl ?_
  refine J_aload_n X dX9_goOnFromSpareBook_6 (i := 0) rfl rfl ?_
  refine T_getR X (kf := 3) cb9 kv0 (by decide) fl_X9_16 (fun _ _ _ => rfl) dX9_goOnFromSpareBook_7 ?_
  refine T_putR X (kf := 4) cb9 kv0 (by decide) fl_X9_20 (fun _ _ _ => rfl) rfl (fun _ => rfl) (fun _ => rfl) dX9_goOnFromSpareBook_10 (fun S1 hS1 => ?_)
  have wS1 : WT (kDn K) S1.2.2 := by rw [hS1]; exact w.set kv0 rfl (w.1 _ _ kv0 3 _ rfl)
  clear hS1
  refine J_aload_n X dX9_goOnFromSpareBook_13 (i := 0) rfl rfl ?_
  refine J_aload_n X dX9_goOnFromSpareBook_14 (i := 1) rfl rfl ?_
  refine T_putR X (kf := 3) cb9 kv0 (by decide) fl_X9_16 (fun _ _ _ => rfl) rfl (fun _ => rfl) (fun _ => rfl) dX9_goOnFromSpareBook_15 (fun S2 hS2 => ?_)
  have wS2 : WT (kDn K) S2.2.2 := by rw [hS2]; exact wS1.set kv0 rfl (w.1 _ _ kv0 4 _ rfl)
  clear hS2
  refine J_aload_n X dX9_goOnFromSpareBook_18 (i := 0) rfl rfl ?_
  refine T_getR X (kf := 7) cb9 kv0 (by decide) fl_X9_47 (fun _ _ _ => rfl) dX9_goOnFromSpareBook_19 ?_
  refine J_aload_n X dX9_goOnFromSpareBook_22 (i := 0) rfl rfl ?_
  refine T_getR X (kf := 3) cb9 kv0 (by decide) fl_X9_16 (fun _ _ _ => rfl) dX9_goOnFromSpareBook_23 ?_
  refine T_putR X (kf := 0) cb8 (wS2.1 _ _ kv0 7 _ rfl) (by decide) fl_X9_94 (fun _ _ _ => rfl) rfl (fun _ => rfl) (fun _ => rfl) dX9_goOnFromSpareBook_26 (fun S3 hS3 => ?_)
  have wS3 : WT (kDn K) S3.2.2 := by rw [hS3]; exact wS2.set (wS2.1 _ _ kv0 7 _ rfl) rfl (wS2.1 _ _ kv0 3 _ rfl)
  clear hS3
  refine J_aload_n X dX9_goOnFromSpareBook_29 (i := 0) rfl rfl ?_
  refine T_getR X (kf := 8) cb9 kv0 (by decide) fl_X9_51 (fun _ _ _ => rfl) dX9_goOnFromSpareBook_30 ?_
  refine J_aload_n X dX9_goOnFromSpareBook_33 (i := 0) rfl rfl ?_
  refine T_getR X (kf := 3) cb9 kv0 (by decide) fl_X9_16 (fun _ _ _ => rfl) dX9_goOnFromSpareBook_34 ?_
  refine T_putR X (kf := 0) cb8 (wS3.1 _ _ kv0 8 _ rfl) (by decide) fl_X9_94 (fun _ _ _ => rfl) rfl (fun _ => rfl) (fun _ => rfl) dX9_goOnFromSpareBook_37 (fun S4 hS4 => ?_)
  have wS4 : WT (kDn K) S4.2.2 := by rw [hS4]; exact wS3.set (wS3.1 _ _ kv0 8 _ rfl) rfl (wS3.1 _ _ kv0 3 _ rfl)
  clear hS4
  refine J_aload_n X dX9_goOnFromSpareBook_40 (i := 0) rfl rfl ?_
  refine T_getR X (kf := 5) cb9 kv0 (by decide) fl_X9_35 (fun _ _ _ => rfl) dX9_goOnFromSpareBook_41 ?_
  refine J_aload_n X dX9_goOnFromSpareBook_44 (i := 0) rfl rfl ?_
  refine T_getR X (kf := 3) cb9 kv0 (by decide) fl_X9_16 (fun _ _ _ => rfl) dX9_goOnFromSpareBook_45 ?_
  refine T_getR X (kf := 11) cb0 (wS4.1 _ _ kv0 3 _ rfl) (by decide) fl_X9_95 (fun _ _ _ => rfl) dX9_goOnFromSpareBook_48 ?_
  refine T_callV (As := [.ref (S4.2.2 (S4.2.2 v0 3) 11)]) wS4 X (C_X5_copyFrom (kG K) (S4.2.2 v0 5) (wS4.1 _ _ kv0 5 _ rfl) (S4.2.2 (S4.2.2 v0 3) 11) (wS4.1 _ _ (wS4.1 _ _ kv0 3 _ rfl) 11 _ rfl) S4) cb5 (wS4.1 _ _ kv0 5 _ rfl) ml_X9_98 in_yX5_copyFrom se_yX5_copyFrom ii_RX5 co_yX5_copyFrom hy_X5_copyFrom (hRd hR (by decide) (by decide)) rfl (Nat.le_of_ble_eq_true rfl) dX9_goOnFromSpareBook_51 (fun _ S5 _ wS5 => ?_)
  refine J_aload_n X dX9_goOnFromSpareBook_54 (i := 0) rfl rfl ?_
  refine T_getR X (kf := 9) cb9 kv0 (by decide) fl_X9_57 (fun _ _ _ => rfl) dX9_goOnFromSpareBook_55 ?_
  refine T_callV (As := []) wS5 X (C_X1_clearAll (kG K) (S5.2.2 v0 9) (wS5.1 _ _ kv0 9 _ rfl) S5) cb1 (wS5.1 _ _ kv0 9 _ rfl) ml_X9_102 in_yX1_clearAll se_yX1_clearAll ii_RX1 co_yX1_clearAll hy_X1_clearAll (hRd hR (by decide) (by decide)) rfl (Nat.le_of_ble_eq_true rfl) dX9_goOnFromSpareBook_58 (fun _ S7 _ wS7 => ?_)
  refine J_aload_n X dX9_goOnFromSpareBook_61 (i := 0) rfl rfl ?_
  refine J_iconst X (v := (0 : Int32)) dX9_goOnFromSpareBook_62 (by decide) ?_
  refine T_putI X (kf := 11) cb9 kv0 (by decide) fl_X9_105 (fun _ _ _ => rfl) rfl rfl rfl dX9_goOnFromSpareBook_63 (fun S9 hS9 => ?_)
  have wS9 : WT (kDn K) S9.2.2 := by rw [hS9]; exact wS7
  clear hS9
  refine J_aload_n X dX9_goOnFromSpareBook_66 (i := 0) rfl rfl ?_
  refine T_getR X (kf := 13) cb9 kv0 (by decide) fl_X9_75 (fun _ _ _ => rfl) dX9_goOnFromSpareBook_67 ?_
  refine T_callV (As := []) wS9 X (C_X7_clearAll (kG K) (S9.2.2 v0 13) (wS9.1 _ _ kv0 13 _ rfl) S9) cb7 (wS9.1 _ _ kv0 13 _ rfl) ml_X9_108 in_yX7_clearAll se_yX7_clearAll ii_RX7 co_yX7_clearAll hy_X7_clearAll (hRd hR (by decide) (by decide)) rfl (Nat.le_of_ble_eq_true rfl) dX9_goOnFromSpareBook_70 (fun _ S10 _ wS10 => ?_)
  exact T_vret wS10 X dX9_goOnFromSpareBook_73
theorem C_X9_goOnFromSpareBook (G : GG) (v0 : Nat) (kv0 : KA (gD G) v0 (0, 9)) (S : St) : CM G yX9_goOnFromSpareBook cX9_goOnFromSpareBook 2 none 2 [.ref v0] S (fun _ : Unit => none) (f_X9_goOnFromSpareBook v0 S) :=
  CM_of (by decide) (Nat.le_of_ble_eq_true rfl) rfl (fun K hG X hR w => by subst hG; exact t_X9_goOnFromSpareBook_0 X hR v0 kv0 S w)
-- ==== X9_read
theorem hy_X9_read : yX9_read.cls ≠ "java/lang/invoke/MethodHandle" ∧ yX9_read.cls ≠ "java/lang/invoke/VarHandle" ∧ (parseMethodDescriptor yX9_read.desc).map (fun d => d.parameters.length) = some 0 := by decide +kernel
set_option maxRecDepth 20000 in
def f_X9_read (v0 : Nat) (S : St) : Option (Int32 × St) := bd (f_X4_readText (S.2.2 v0 2) (S.1 v0 1) (S.2.2 v0 4) S) fun r2 S1 => nm (sI S1 v0 1 (0 : Int32)) fun S3 => if r2 = 0 then (bd (f_X9_goOnFromSpareBook v0 S3) fun _ S4 => some (r2, S4)) else (some (r2, S3))
set_option maxRecDepth 20000 in
theorem t_X9_read_0 {K : KK} (X : CX K cX9_read 2 RX9 (some .int)) (hR : kR K = rmD 62) (v0 : Nat) (kv0 : KA (kDn K) v0 (0, 9)) (S : St) (w : WT (kDn K) S.2.2) : JX K (Zm K (fun v : Int32 => some (.int v))) 0 [some (.ref v0), none] [] (rwN (kN K) S) (kn K) 0 0 (f_X9_read v0 S) := by
  unfold f_X9_read
  refine J_aload_n X dX9_read_0 (i := 0) rfl rfl ?_
  refine T_getR X (kf := 2) cb9 kv0 (by decide) fl_X9_28 (fun _ _ _ => rfl) dX9_read_1 ?_
  refine J_aload_n X dX9_read_4 (i := 0) rfl rfl ?_
  refine T_getI X (kf := 1) cb9 kv0 (by decide) fl_X9_79 (fun _ _ _ => rfl) dX9_read_5 ?_
  refine J_aload_n X dX9_read_8 (i := 0) rfl rfl ?_
  refine T_getR X (kf := 4) cb9 kv0 (by decide) fl_X9_20 (fun _ _ _ => rfl) dX9_read_9 ?_
  refine T_callV (As := [.int (S.1 v0 1), .ref (S.2.2 v0 4)]) w X (C_X4_readText (kG K) (S.2.2 v0 2) (w.1 _ _ kv0 2 _ rfl) (S.1 v0 1) (S.2.2 v0 4) (w.1 _ _ kv0 4 _ rfl) S) cb4 (w.1 _ _ kv0 2 _ rfl) ml_X9_87 in_yX4_readText se_yX4_readText ii_RX4 co_yX4_readText hy_X4_readText (hRd hR (by decide) (by decide)) rfl (Nat.le_of_ble_eq_true rfl) dX9_read_12 (fun r2 S1 _ wS1 => ?_)
  refine J_istore_n X (i := 1) (ls' := [some (.ref v0), some (.int r2)]) dX9_read_15 rfl (by decide) rfl ?_
  refine J_aload_n X dX9_read_16 (i := 0) rfl rfl ?_
  refine J_iconst X (v := (0 : Int32)) dX9_read_17 (by decide) ?_
  refine T_putI X (kf := 1) cb9 kv0 (by decide) fl_X9_79 (fun _ _ _ => rfl) rfl rfl rfl dX9_read_18 (fun S3 hS3 => ?_)
  have wS3 : WT (kDn K) S3.2.2 := by rw [hS3]; exact wS1
  clear hS3
  refine J_iload_n X dX9_read_21 (i := 1) rfl rfl ?_
  refine J_if_ne X (tgt := 29) dX9_read_22 (by decide) ?_ ?_
  · refine J_aload_n X dX9_read_25 (i := 0) rfl rfl ?_
    refine T_callV (As := []) wS3 X (C_X9_goOnFromSpareBook (kG K) v0 kv0 S3) cb9 kv0 ml_X9_91 in_yX9_goOnFromSpareBook se_yX9_goOnFromSpareBook ii_RX9 co_yX9_goOnFromSpareBook hy_X9_goOnFromSpareBook (hRd hR (by decide) (by decide)) rfl (Nat.le_of_ble_eq_true rfl) dX9_read_26 (fun _ S4 _ wS4 => ?_)
    refine J_iload_n X dX9_read_29 (i := 1) rfl rfl ?_
    exact T_iret wS4 X dX9_read_30
  · refine J_iload_n X dX9_read_29 (i := 1) rfl rfl ?_
    exact T_iret wS3 X dX9_read_30
theorem C_X9_read (G : GG) (v0 : Nat) (kv0 : KA (gD G) v0 (0, 9)) (S : St) : CM G yX9_read cX9_read 2 (some .int) 62 [.ref v0] S (fun v : Int32 => some (.int v)) (f_X9_read v0 S) :=
  CM_of (by decide) (Nat.le_of_ble_eq_true rfl) rfl (fun K hG X hR w => by subst hG; exact t_X9_read_0 X hR v0 kv0 S w)
-- ==== X9_place
theorem hy_X9_place : yX9_place.cls ≠ "java/lang/invoke/MethodHandle" ∧ yX9_place.cls ≠ "java/lang/invoke/VarHandle" ∧ (parseMethodDescriptor yX9_place.desc).map (fun d => d.parameters.length) = some 0 := by decide +kernel
set_option maxRecDepth 20000 in
def f_X9_place (v0 : Nat) (S : St) : Option (Int32 × St) := some (S.1 (S.2.2 v0 2) 4, S)
set_option maxRecDepth 20000 in
theorem t_X9_place_0 {K : KK} (X : CX K cX9_place 1 RX9 (some .int)) (hR : kR K = rmD 0) (v0 : Nat) (kv0 : KA (kDn K) v0 (0, 9)) (S : St) (w : WT (kDn K) S.2.2) : JX K (Zm K (fun v : Int32 => some (.int v))) 0 [some (.ref v0)] [] (rwN (kN K) S) (kn K) 0 0 (f_X9_place v0 S) := by
  unfold f_X9_place
  refine J_aload_n X dX9_place_0 (i := 0) rfl rfl ?_
  refine T_getR X (kf := 2) cb9 kv0 (by decide) fl_X9_28 (fun _ _ _ => rfl) dX9_place_1 ?_
  refine T_getI X (kf := 4) cb4 (w.1 _ _ kv0 2 _ rfl) (by decide) fl_X9_109 (fun _ _ _ => rfl) dX9_place_4 ?_
  exact T_iret w X dX9_place_7
theorem C_X9_place (G : GG) (v0 : Nat) (kv0 : KA (gD G) v0 (0, 9)) (S : St) : CM G yX9_place cX9_place 1 (some .int) 0 [.ref v0] S (fun v : Int32 => some (.int v)) (f_X9_place v0 S) :=
  CM_of (by decide) (Nat.le_of_ble_eq_true rfl) rfl (fun K hG X hR w => by subst hG; exact t_X9_place_0 X hR v0 kv0 S w)
-- ==== X9_isMermaid
theorem hy_X9_isMermaid : yX9_isMermaid.cls ≠ "java/lang/invoke/MethodHandle" ∧ yX9_isMermaid.cls ≠ "java/lang/invoke/VarHandle" ∧ (parseMethodDescriptor yX9_isMermaid.desc).map (fun d => d.parameters.length) = some 1 := by decide +kernel
set_option maxRecDepth 20000 in
def f_X9_isMermaid (v0 : Nat) (v1 : Int32) (S : St) : Option (Int32 × St) := if v1 < 0 then (some ((0 : Int32), S)) else (if (S.1 (S.2.2 v0 3) 0) ≤ v1 then (some ((0 : Int32), S)) else (some ((1 : Int32), S)))
set_option maxRecDepth 20000 in
theorem t_X9_isMermaid_0 {K : KK} (X : CX K cX9_isMermaid 2 RX9 (some .boolean)) (hR : kR K = rmD 0) (v0 : Nat) (kv0 : KA (kDn K) v0 (0, 9)) (v1 : Int32) (S : St) (w : WT (kDn K) S.2.2) : JX K (Zm K (fun v : Int32 => some (.int v))) 0 [some (.ref v0), some (.int v1)] [] (rwN (kN K) S) (kn K) 0 0 (f_X9_isMermaid v0 v1 S) := by
  unfold f_X9_isMermaid
  refine J_iload_n X dX9_isMermaid_0 (i := 1) rfl rfl ?_
  refine J_if_lt X (tgt := 19) dX9_isMermaid_1 (by decide) ?_ ?_
  · refine J_iconst X (v := (0 : Int32)) dX9_isMermaid_19 (by decide) ?_
    exact T_zret w X (by decide) dX9_isMermaid_20
  · refine J_iload_n X dX9_isMermaid_4 (i := 1) rfl rfl ?_
    refine J_aload_n X dX9_isMermaid_5 (i := 0) rfl rfl ?_
    refine T_getR X (kf := 3) cb9 kv0 (by decide) fl_X9_16 (fun _ _ _ => rfl) dX9_isMermaid_6 ?_
    refine T_getI X (kf := 0) cb0 (w.1 _ _ kv0 3 _ rfl) (by decide) fl_X9_112 (fun _ _ _ => rfl) dX9_isMermaid_9 ?_
    refine J_icmp_ge X (tgt := 19) dX9_isMermaid_12 (by decide) ?_ ?_
    · refine J_iconst X (v := (0 : Int32)) dX9_isMermaid_19 (by decide) ?_
      exact T_zret w X (by decide) dX9_isMermaid_20
    · refine J_iconst X (v := (1 : Int32)) dX9_isMermaid_15 (by decide) ?_
      refine J_goto X (tgt := 20) dX9_isMermaid_16 (by decide) ?_
      exact T_zret w X (by decide) dX9_isMermaid_20
theorem C_X9_isMermaid (G : GG) (v0 : Nat) (kv0 : KA (gD G) v0 (0, 9)) (v1 : Int32) (S : St) : CM G yX9_isMermaid cX9_isMermaid 2 (some .boolean) 0 [.ref v0, .int v1] S (fun v : Int32 => some (.int v)) (f_X9_isMermaid v0 v1 S) :=
  CM_of (by decide) (Nat.le_of_ble_eq_true rfl) rfl (fun K hG X hR w => by subst hG; exact t_X9_isMermaid_0 X hR v0 kv0 v1 S w)
-- ==== X9_isPerson
theorem hy_X9_isPerson : yX9_isPerson.cls ≠ "java/lang/invoke/MethodHandle" ∧ yX9_isPerson.cls ≠ "java/lang/invoke/VarHandle" ∧ (parseMethodDescriptor yX9_isPerson.desc).map (fun d => d.parameters.length) = some 1 := by decide +kernel
set_option maxRecDepth 20000 in
def f_X9_isPerson (v0 : Nat) (v1 : Int32) (S : St) : Option (Int32 × St) := if v1 < 0 then (some ((0 : Int32), S)) else (if (S.1 (S.2.2 v0 3) 1) ≤ v1 then (some ((0 : Int32), S)) else (some ((1 : Int32), S)))
set_option maxRecDepth 20000 in
theorem t_X9_isPerson_0 {K : KK} (X : CX K cX9_isPerson 2 RX9 (some .boolean)) (hR : kR K = rmD 0) (v0 : Nat) (kv0 : KA (kDn K) v0 (0, 9)) (v1 : Int32) (S : St) (w : WT (kDn K) S.2.2) : JX K (Zm K (fun v : Int32 => some (.int v))) 0 [some (.ref v0), some (.int v1)] [] (rwN (kN K) S) (kn K) 0 0 (f_X9_isPerson v0 v1 S) := by
  unfold f_X9_isPerson
  refine J_iload_n X dX9_isPerson_0 (i := 1) rfl rfl ?_
  refine J_if_lt X (tgt := 19) dX9_isPerson_1 (by decide) ?_ ?_
  · refine J_iconst X (v := (0 : Int32)) dX9_isPerson_19 (by decide) ?_
    exact T_zret w X (by decide) dX9_isPerson_20
  · refine J_iload_n X dX9_isPerson_4 (i := 1) rfl rfl ?_
    refine J_aload_n X dX9_isPerson_5 (i := 0) rfl rfl ?_
    refine T_getR X (kf := 3) cb9 kv0 (by decide) fl_X9_16 (fun _ _ _ => rfl) dX9_isPerson_6 ?_
    refine T_getI X (kf := 1) cb0 (w.1 _ _ kv0 3 _ rfl) (by decide) fl_X9_115 (fun _ _ _ => rfl) dX9_isPerson_9 ?_
    refine J_icmp_ge X (tgt := 19) dX9_isPerson_12 (by decide) ?_ ?_
    · refine J_iconst X (v := (0 : Int32)) dX9_isPerson_19 (by decide) ?_
      exact T_zret w X (by decide) dX9_isPerson_20
    · refine J_iconst X (v := (1 : Int32)) dX9_isPerson_15 (by decide) ?_
      refine J_goto X (tgt := 20) dX9_isPerson_16 (by decide) ?_
      exact T_zret w X (by decide) dX9_isPerson_20
theorem C_X9_isPerson (G : GG) (v0 : Nat) (kv0 : KA (gD G) v0 (0, 9)) (v1 : Int32) (S : St) : CM G yX9_isPerson cX9_isPerson 2 (some .boolean) 0 [.ref v0, .int v1] S (fun v : Int32 => some (.int v)) (f_X9_isPerson v0 v1 S) :=
  CM_of (by decide) (Nat.le_of_ble_eq_true rfl) rfl (fun K hG X hR w => by subst hG; exact t_X9_isPerson_0 X hR v0 kv0 v1 S w)
-- ==== X9_isStrand
theorem hy_X9_isStrand : yX9_isStrand.cls ≠ "java/lang/invoke/MethodHandle" ∧ yX9_isStrand.cls ≠ "java/lang/invoke/VarHandle" ∧ (parseMethodDescriptor yX9_isStrand.desc).map (fun d => d.parameters.length) = some 1 := by decide +kernel
set_option maxRecDepth 20000 in
def f_X9_isStrand (v0 : Nat) (v1 : Int32) (S : St) : Option (Int32 × St) := if v1 < 0 then (some ((0 : Int32), S)) else (if (S.1 (S.2.2 v0 3) 2) ≤ v1 then (some ((0 : Int32), S)) else (some ((1 : Int32), S)))
set_option maxRecDepth 20000 in
theorem t_X9_isStrand_0 {K : KK} (X : CX K cX9_isStrand 2 RX9 (some .boolean)) (hR : kR K = rmD 0) (v0 : Nat) (kv0 : KA (kDn K) v0 (0, 9)) (v1 : Int32) (S : St) (w : WT (kDn K) S.2.2) : JX K (Zm K (fun v : Int32 => some (.int v))) 0 [some (.ref v0), some (.int v1)] [] (rwN (kN K) S) (kn K) 0 0 (f_X9_isStrand v0 v1 S) := by
  unfold f_X9_isStrand
  refine J_iload_n X dX9_isStrand_0 (i := 1) rfl rfl ?_
  refine J_if_lt X (tgt := 19) dX9_isStrand_1 (by decide) ?_ ?_
  · refine J_iconst X (v := (0 : Int32)) dX9_isStrand_19 (by decide) ?_
    exact T_zret w X (by decide) dX9_isStrand_20
  · refine J_iload_n X dX9_isStrand_4 (i := 1) rfl rfl ?_
    refine J_aload_n X dX9_isStrand_5 (i := 0) rfl rfl ?_
    refine T_getR X (kf := 3) cb9 kv0 (by decide) fl_X9_16 (fun _ _ _ => rfl) dX9_isStrand_6 ?_
    refine T_getI X (kf := 2) cb0 (w.1 _ _ kv0 3 _ rfl) (by decide) fl_X9_118 (fun _ _ _ => rfl) dX9_isStrand_9 ?_
    refine J_icmp_ge X (tgt := 19) dX9_isStrand_12 (by decide) ?_ ?_
    · refine J_iconst X (v := (0 : Int32)) dX9_isStrand_19 (by decide) ?_
      exact T_zret w X (by decide) dX9_isStrand_20
    · refine J_iconst X (v := (1 : Int32)) dX9_isStrand_15 (by decide) ?_
      refine J_goto X (tgt := 20) dX9_isStrand_16 (by decide) ?_
      exact T_zret w X (by decide) dX9_isStrand_20
theorem C_X9_isStrand (G : GG) (v0 : Nat) (kv0 : KA (gD G) v0 (0, 9)) (v1 : Int32) (S : St) : CM G yX9_isStrand cX9_isStrand 2 (some .boolean) 0 [.ref v0, .int v1] S (fun v : Int32 => some (.int v)) (f_X9_isStrand v0 v1 S) :=
  CM_of (by decide) (Nat.le_of_ble_eq_true rfl) rfl (fun K hG X hR w => by subst hG; exact t_X9_isStrand_0 X hR v0 kv0 v1 S w)

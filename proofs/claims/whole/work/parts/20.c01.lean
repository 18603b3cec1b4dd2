-- ==== X8_freshVars
theorem hy_X8_freshVars : yX8_freshVars.cls ≠ "java/lang/invoke/MethodHandle" ∧ yX8_freshVars.cls ≠ "java/lang/invoke/VarHandle" ∧ (parseMethodDescriptor yX8_freshVars.desc).map (fun d => d.parameters.length) = some 0 := by decide +kernel
set_option maxRecDepth 20000 in
def f_X8_freshVars (v0 : Nat) (S : St) : Option (Nat × St) := bd (f_J7_fill_53178 9 (S.2.2 (S.2.2 (S.2.2 v0 0) 10) 0) (0 : Int32) S) fun _ S1 => (ix (2 : Int32) 9).bind fun j3 => nm (sI S1 (S.2.2 (S.2.2 (S.2.2 v0 0) 10) 0) j3 ((S1.1 (S1.2.2 v0 1) 1) - (S1.1 (S1.2.2 v0 1) 1) / (4 : Int32) * (4 : Int32))) fun S4 => (ix (3 : Int32) 9).bind fun j5 => nm (sI S4 (S.2.2 (S.2.2 (S.2.2 v0 0) 10) 0) j5 (S4.1 (S4.2.2 v0 1) 1)) fun S6 => some (S.2.2 (S.2.2 (S.2.2 v0 0) 10) 0, S6)
set_option maxRecDepth 20000 in
theorem t_X8_freshVars_0 {K : KK} (X : CX K cX8_freshVars 2 RX8 (some (.array .int))) (hR : kR K = rmD 1) (v0 : Nat) (kv0 : KA (kDn K) v0 (0, 8)) (S : St) (w : WT (kDn K) S.2.2) : JX K (Zm K (fun v : Nat => some (.ref v))) 0 [some (.ref v0), none] [] (rwN (kN K) S) (kn K) 0 0 (f_X8_freshVars v0 S) := by
  unfold f_X8_freshVars
  refine J_aload_n X dX8_freshVars_0 (i := 0) rfl rfl ?_
  refine T_getR X (kf := 0) cb8 kv0 (by decide) fl_X8_9 (fun _ _ _ => rfl) dX8_freshVars_1 ?_
  refine T_getR X (kf := 10) cb0 (w.1 _ _ kv0 0 _ rfl) (by decide) fl_X8_31 (fun _ _ _ => rfl) dX8_freshVars_4 ?_
  refine T_getR X (kf := 0) cb2 (w.1 _ _ (w.1 _ _ kv0 0 _ rfl) 10 _ rfl) (by decide) fl_X8_35 (fun _ _ _ => rfl) dX8_freshVars_7 ?_
  refine J_astore_n X (i := 1) (ls' := [some (.ref v0), some (.ref (S.2.2 (S.2.2 (S.2.2 v0 0) 10) 0))]) dX8_freshVars_10 rfl (by decide) rfl ?_
  refine J_aload_n X dX8_freshVars_11 (i := 1) rfl rfl ?_
  refine J_iconst X (v := (0 : Int32)) dX8_freshVars_12 (by decide) ?_
  refine T_callS (As := [.ref (S.2.2 (S.2.2 (S.2.2 v0 0) 10) 0), .int (0 : Int32)]) w X (C_J7_fill_53178 (kG K) 9 (S.2.2 (S.2.2 (S.2.2 v0 0) 10) 0) (w.1 _ _ (w.1 _ _ (w.1 _ _ kv0 0 _ rfl) 10 _ rfl) 0 _ rfl) (0 : Int32) S) ml_X8_41 st_yJ7_fill_53178 ii_RJ7 co_yJ7_fill_53178 hy_J7_fill_53178 (hRd hR (by decide) (by decide)) rfl (Nat.le_of_ble_eq_true rfl) dX8_freshVars_13 (fun _ S1 _ wS1 => ?_)
  refine J_aload_n X dX8_freshVars_16 (i := 1) rfl rfl ?_
  refine J_iconst X (v := (2 : Int32)) dX8_freshVars_17 (by decide) ?_
  refine J_aload_n X dX8_freshVars_18 (i := 0) rfl rfl ?_
  refine T_getR X (kf := 1) cb8 kv0 (by decide) fl_X8_15 (fun _ _ _ => rfl) dX8_freshVars_19 ?_
  refine T_getI X (kf := 1) cb5 (wS1.1 _ _ kv0 1 _ rfl) (by decide) fl_X8_47 (fun _ _ _ => rfl) dX8_freshVars_22 ?_
  refine J_iconst X (v := (4 : Int32)) dX8_freshVars_25 (by decide) ?_
  refine J_iremc X dX8_freshVars_26 (by decide) ?_
  refine T_iast X (w.1 _ _ (w.1 _ _ (w.1 _ _ kv0 0 _ rfl) 10 _ rfl) 0 _ rfl) dX8_freshVars_27 (fun j3 S4 hS4 => ?_)
  have wS4 : WT (kDn K) S4.2.2 := by rw [hS4]; exact wS1
  clear hS4
  refine J_aload_n X dX8_freshVars_28 (i := 1) rfl rfl ?_
  refine J_iconst X (v := (3 : Int32)) dX8_freshVars_29 (by decide) ?_
  refine J_aload_n X dX8_freshVars_30 (i := 0) rfl rfl ?_
  refine T_getR X (kf := 1) cb8 kv0 (by decide) fl_X8_15 (fun _ _ _ => rfl) dX8_freshVars_31 ?_
  refine T_getI X (kf := 1) cb5 (wS4.1 _ _ kv0 1 _ rfl) (by decide) fl_X8_47 (fun _ _ _ => rfl) dX8_freshVars_34 ?_
  refine T_iast X (w.1 _ _ (w.1 _ _ (w.1 _ _ kv0 0 _ rfl) 10 _ rfl) 0 _ rfl) dX8_freshVars_37 (fun j5 S6 hS6 => ?_)
  have wS6 : WT (kDn K) S6.2.2 := by rw [hS6]; exact wS4
  clear hS6
  refine J_aload_n X dX8_freshVars_38 (i := 1) rfl rfl ?_
  exact T_aret wS6 X (Or.inr ⟨_, rfl⟩) dX8_freshVars_39
theorem C_X8_freshVars (G : GG) (v0 : Nat) (kv0 : KA (gD G) v0 (0, 8)) (S : St) : CM G yX8_freshVars cX8_freshVars 2 (some (.array .int)) 1 [.ref v0] S (fun v : Nat => some (.ref v)) (f_X8_freshVars v0 S) :=
  CM_of (by decide) (Nat.le_of_ble_eq_true rfl) rfl (fun K hG X hR w => by subst hG; exact t_X8_freshVars_0 X hR v0 kv0 S w)
-- ==== X8_pullAt
theorem hy_X8_pullAt : yX8_pullAt.cls ≠ "java/lang/invoke/MethodHandle" ∧ yX8_pullAt.cls ≠ "java/lang/invoke/VarHandle" ∧ (parseMethodDescriptor yX8_pullAt.desc).map (fun d => d.parameters.length) = some 4 := by decide +kernel
set_option maxRecDepth 20000 in
def f_X8_pullAt (v0 : Nat) (v1 : Int32) (v2 : Int32) (v3 : Int32) (v4 : Int32) (S : St) : Option (Int32 × St) := (ix v1 8).bind fun j1 => bd (f_X5_farOf (S.2.2 v0 1) (S.1 (S.2.2 (S.2.2 v0 0) 8) j1) v3 v4 S) fun r3 S2 => if r3 = 0 then (some ((0 : Int32), S2)) else (bd (f_X5_isCut (S2.2.2 v0 1) v1 S2) fun r5 S4 => if r5 = 0 then ((ix v1 8).bind fun j6 => bd (f_X5_isDead (S4.2.2 v0 1) (S4.1 (S4.2.2 (S4.2.2 v0 0) 8) j6) S4) fun r8 S7 => if r8 = 0 then (bd (f_X5_isOff (S7.2.2 v0 1) v2 S7) fun r10 S9 => if r10 = 0 then (bd (f_X8_freshVars v0 S9) fun r12 S11 => if r12 = S11.2.2 (S11.2.2 (S11.2.2 v0 0) 10) 0 then ((ix v1 8).bind fun j13 => (ix (0 : Int32) 9).bind fun j14 => nm (sI S11 r12 j14 (S11.1 (S11.2.2 (S11.2.2 v0 0) 9) j13)) fun S15 => (ix (1 : Int32) 9).bind fun j16 => nm (sI S15 r12 j16 r3) fun S17 => (ix v2 6).bind fun j18 => (ix (4 : Int32) 9).bind fun j19 => nm (sI S17 r12 j19 (S17.1 (S17.2.2 (S17.2.2 v0 0) 7) j18)) fun S20 => (ix (7 : Int32) 9).bind fun j21 => nm (sI S20 r12 j21 v1) fun S22 => bd (f_X2_held (S22.2.2 (S22.2.2 v0 0) 10) (0 : Int32) (99 : Int32) S22) fun r24 S23 => some (r24, S23)) else none) else (some ((0 : Int32), S9))) else (some ((0 : Int32), S7))) else (some ((0 : Int32), S4)))
set_option maxRecDepth 20000 in
theorem t_X8_pullAt_0 {K : KK} (X : CX K cX8_pullAt 7 RX8 (some .int)) (hR : kR K = rmD 3) (v0 : Nat) (kv0 : KA (kDn K) v0 (0, 8)) (v1 : Int32) (v2 : Int32) (v3 : Int32) (v4 : Int32) (S : St) (w : WT (kDn K) S.2.2) : JX K (Zm K (fun v : Int32 => some (.int v))) 0 [some (.ref v0), some (.int v1), some (.int v2), some (.int v3), some (.int v4), none, none] [] (rwN (kN K) S) (kn K) 0 0 (f_X8_pullAt v0 v1 v2 v3 v4 S) := by
  unfold f_X8_pullAt
  refine J_aload_n X dX8_pullAt_0 (i := 0) rfl rfl ?_
  refine T_getR X (kf := 1) cb8 kv0 (by decide) fl_X8_15 (fun _ _ _ => rfl) dX8_pullAt_1 ?_
  refine J_aload_n X dX8_pullAt_4 (i := 0) rfl rfl ?_
  refine T_getR X (kf := 0) cb8 kv0 (by decide) fl_X8_9 (fun _ _ _ => rfl) dX8_pullAt_5 ?_
  refine T_getR X (kf := 8) cb0 (w.1 _ _ kv0 0 _ rfl) (by decide) fl_X8_50 (fun _ _ _ => rfl) dX8_pullAt_8 ?_
  refine J_iload_n X dX8_pullAt_11 (i := 1) rfl rfl ?_
  refine T_iald X (w.1 _ _ (w.1 _ _ kv0 0 _ rfl) 8 _ rfl) dX8_pullAt_12 (fun j1 => ?_)
  refine J_iload_n X dX8_pullAt_13 (i := 3) rfl rfl ?_
  refine J_iload X dX8_pullAt_14 rfl ?_
  refine T_callV (As := [.int (S.1 (S.2.2 (S.2.2 v0 0) 8) j1), .int v3, .int v4]) w X (C_X5_farOf (kG K) (S.2.2 v0 1) (w.1 _ _ kv0 1 _ rfl) (S.1 (S.2.2 (S.2.2 v0 0) 8) j1) v3 v4 S) cb5 (w.1 _ _ kv0 1 _ rfl) ml_X8_53 in_yX5_farOf se_yX5_farOf ii_RX5 co_yX5_farOf hy_X5_farOf (hRd hR (by decide) (by decide)) rfl (Nat.le_of_ble_eq_true rfl) dX8_pullAt_16 (fun r3 S2 _ wS2 => ?_)
  refine J_istore X (ls' := [some (.ref v0), some (.int v1), some (.int v2), some (.int v3), some (.int v4), some (.int r3), none]) dX8_pullAt_19 (by decide) rfl ?_
  refine J_iload X dX8_pullAt_21 rfl ?_
  refine J_if_eq X (tgt := 67) dX8_pullAt_23 (by decide) ?_ ?_
  · refine J_iconst X (v := (0 : Int32)) dX8_pullAt_67 (by decide) ?_
    exact T_iret wS2 X dX8_pullAt_68
  · refine J_aload_n X dX8_pullAt_26 (i := 0) rfl rfl ?_
    refine T_getR X (kf := 1) cb8 kv0 (by decide) fl_X8_15 (fun _ _ _ => rfl) dX8_pullAt_27 ?_
    refine J_iload_n X dX8_pullAt_30 (i := 1) rfl rfl ?_
    refine T_callV (As := [.int v1]) wS2 X (C_X5_isCut (kG K) (S2.2.2 v0 1) (wS2.1 _ _ kv0 1 _ rfl) v1 S2) cb5 (wS2.1 _ _ kv0 1 _ rfl) ml_X8_57 in_yX5_isCut se_yX5_isCut ii_RX5 co_yX5_isCut hy_X5_isCut (hRd hR (by decide) (by decide)) rfl (Nat.le_of_ble_eq_true rfl) dX8_pullAt_31 (fun r5 S4 _ wS4 => ?_)
    refine J_if_ne X (tgt := 67) dX8_pullAt_34 (by decide) ?_ ?_
    · refine J_aload_n X dX8_pullAt_37 (i := 0) rfl rfl ?_
      refine T_getR X (kf := 1) cb8 kv0 (by decide) fl_X8_15 (fun _ _ _ => rfl) dX8_pullAt_38 ?_
      refine J_aload_n X dX8_pullAt_41 (i := 0) rfl rfl ?_
      refine T_getR X (kf := 0) cb8 kv0 (by decide) fl_X8_9 (fun _ _ _ => rfl) dX8_pullAt_42 ?_
      refine T_getR X (kf := 8) cb0 (wS4.1 _ _ kv0 0 _ rfl) (by decide) fl_X8_50 (fun _ _ _ => rfl) dX8_pullAt_45 ?_
      refine J_iload_n X dX8_pullAt_48 (i := 1) rfl rfl ?_
      refine T_iald X (wS4.1 _ _ (wS4.1 _ _ kv0 0 _ rfl) 8 _ rfl) dX8_pullAt_49 (fun j6 => ?_)
      refine T_callV (As := [.int (S4.1 (S4.2.2 (S4.2.2 v0 0) 8) j6)]) wS4 X (C_X5_isDead (kG K) (S4.2.2 v0 1) (wS4.1 _ _ kv0 1 _ rfl) (S4.1 (S4.2.2 (S4.2.2 v0 0) 8) j6) S4) cb5 (wS4.1 _ _ kv0 1 _ rfl) ml_X8_61 in_yX5_isDead se_yX5_isDead ii_RX5 co_yX5_isDead hy_X5_isDead (hRd hR (by decide) (by decide)) rfl (Nat.le_of_ble_eq_true rfl) dX8_pullAt_50 (fun r8 S7 _ wS7 => ?_)
      refine J_if_ne X (tgt := 67) dX8_pullAt_53 (by decide) ?_ ?_
      · refine J_aload_n X dX8_pullAt_56 (i := 0) rfl rfl ?_
        refine T_getR X (kf := 1) cb8 kv0 (by decide) fl_X8_15 (fun _ _ _ => rfl) dX8_pullAt_57 ?_
        refine J_iload_n X dX8_pullAt_60 (i := 2) rfl rfl ?_
        refine T_callV (As := [.int v2]) wS7 X (C_X5_isOff (kG K) (S7.2.2 v0 1) (wS7.1 _ _ kv0 1 _ rfl) v2 S7) cb5 (wS7.1 _ _ kv0 1 _ rfl) ml_X8_64 in_yX5_isOff se_yX5_isOff ii_RX5 co_yX5_isOff hy_X5_isOff (hRd hR (by decide) (by decide)) rfl (Nat.le_of_ble_eq_true rfl) dX8_pullAt_61 (fun r10 S9 _ wS9 => ?_)
        refine J_if_eq X (tgt := 69) dX8_pullAt_64 (by decide) ?_ ?_
        · refine J_aload_n X dX8_pullAt_69 (i := 0) rfl rfl ?_
          refine T_callV (As := []) wS9 X (C_X8_freshVars (kG K) v0 kv0 S9) cb8 kv0 ml_X8_67 in_yX8_freshVars se_yX8_freshVars ii_RX8 co_yX8_freshVars hy_X8_freshVars (hRd hR (by decide) (by decide)) rfl (Nat.le_of_ble_eq_true rfl) dX8_pullAt_70 (fun r12 S11 _ wS11 => ?_)
          refine J_grd (fun hr12 => ?_)
          have kr12 : KA (kDn K) r12 (1, 9) := by rw [hr12]; exact wS11.1 _ _ (wS11.1 _ _ (wS11.1 _ _ kv0 0 _ rfl) 10 _ rfl) 0 _ rfl
          refine J_astore X (ls' := [some (.ref v0), some (.int v1), some (.int v2), some (.int v3), some (.int v4), some (.int r3), some (.ref r12)]) dX8_pullAt_73 (by decide) rfl ?_
          refine J_aload X dX8_pullAt_75 rfl ?_
          refine J_iconst X (v := (0 : Int32)) dX8_pullAt_77 (by decide) ?_
          refine J_aload_n X dX8_pullAt_78 (i := 0) rfl rfl ?_
          refine T_getR X (kf := 0) cb8 kv0 (by decide) fl_X8_9 (fun _ _ _ => rfl) dX8_pullAt_79 ?_
          refine T_getR X (kf := 9) cb0 (wS11.1 _ _ kv0 0 _ rfl) (by decide) fl_X8_71 (fun _ _ _ => rfl) dX8_pullAt_82 ?_
          refine J_iload_n X dX8_pullAt_85 (i := 1) rfl rfl ?_
          refine T_iald X (wS11.1 _ _ (wS11.1 _ _ kv0 0 _ rfl) 9 _ rfl) dX8_pullAt_86 (fun j13 => ?_)
          refine T_iast X kr12 dX8_pullAt_87 (fun j14 S15 hS15 => ?_)
          have wS15 : WT (kDn K) S15.2.2 := by rw [hS15]; exact wS11
          clear hS15
          refine J_aload X dX8_pullAt_88 rfl ?_
          refine J_iconst X (v := (1 : Int32)) dX8_pullAt_90 (by decide) ?_
          refine J_iload X dX8_pullAt_91 rfl ?_
          refine T_iast X kr12 dX8_pullAt_93 (fun j16 S17 hS17 => ?_)
          have wS17 : WT (kDn K) S17.2.2 := by rw [hS17]; exact wS15
          clear hS17
          refine J_aload X dX8_pullAt_94 rfl ?_
          refine J_iconst X (v := (4 : Int32)) dX8_pullAt_96 (by decide) ?_
          refine J_aload_n X dX8_pullAt_97 (i := 0) rfl rfl ?_
          refine T_getR X (kf := 0) cb8 kv0 (by decide) fl_X8_9 (fun _ _ _ => rfl) dX8_pullAt_98 ?_
          refine T_getR X (kf := 7) cb0 (wS17.1 _ _ kv0 0 _ rfl) (by decide) fl_X8_74 (fun _ _ _ => rfl) dX8_pullAt_101 ?_
          refine J_iload_n X dX8_pullAt_104 (i := 2) rfl rfl ?_
          refine T_iald X (wS17.1 _ _ (wS17.1 _ _ kv0 0 _ rfl) 7 _ rfl) dX8_pullAt_105 (fun j18 => ?_)
          refine T_iast X kr12 dX8_pullAt_106 (fun j19 S20 hS20 => ?_)
          have wS20 : WT (kDn K) S20.2.2 := by rw [hS20]; exact wS17
          clear hS20
          refine J_aload X dX8_pullAt_107 rfl ?_
          refine J_bipush X (v := (7 : Int32)) dX8_pullAt_109 (by decide) ?_
          refine J_iload_n X dX8_pullAt_111 (i := 1) rfl rfl ?_
          refine T_iast X kr12 dX8_pullAt_112 (fun j21 S22 hS22 => ?_)
          have wS22 : WT (kDn K) S22.2.2 := by rw [hS22]; exact wS20
          clear hS22
          refine J_aload_n X dX8_pullAt_113 (i := 0) rfl rfl ?_
          refine T_getR X (kf := 0) cb8 kv0 (by decide) fl_X8_9 (fun _ _ _ => rfl) dX8_pullAt_114 ?_
          refine T_getR X (kf := 10) cb0 (wS22.1 _ _ kv0 0 _ rfl) (by decide) fl_X8_31 (fun _ _ _ => rfl) dX8_pullAt_117 ?_
          refine J_iconst X (v := (0 : Int32)) dX8_pullAt_120 (by decide) ?_
          refine J_bipush X (v := (99 : Int32)) dX8_pullAt_121 (by decide) ?_
          refine T_callV (As := [.int (0 : Int32), .int (99 : Int32)]) wS22 X (C_X2_held (kG K) (S22.2.2 (S22.2.2 v0 0) 10) (wS22.1 _ _ (wS22.1 _ _ kv0 0 _ rfl) 10 _ rfl) (0 : Int32) (99 : Int32) S22) cb2 (wS22.1 _ _ (wS22.1 _ _ kv0 0 _ rfl) 10 _ rfl) ml_X8_77 in_yX2_held se_yX2_held ii_RX2 co_yX2_held hy_X2_held (hRd hR (by decide) (by decide)) rfl (Nat.le_of_ble_eq_true rfl) dX8_pullAt_123 (fun r24 S23 _ wS23 => ?_)
          exact T_iret wS23 X dX8_pullAt_126
        · refine J_iconst X (v := (0 : Int32)) dX8_pullAt_67 (by decide) ?_
          exact T_iret wS9 X dX8_pullAt_68
      · refine J_iconst X (v := (0 : Int32)) dX8_pullAt_67 (by decide) ?_
        exact T_iret wS7 X dX8_pullAt_68
    · refine J_iconst X (v := (0 : Int32)) dX8_pullAt_67 (by decide) ?_
      exact T_iret wS4 X dX8_pullAt_68
theorem C_X8_pullAt (G : GG) (v0 : Nat) (kv0 : KA (gD G) v0 (0, 8)) (v1 : Int32) (v2 : Int32) (v3 : Int32) (v4 : Int32) (S : St) : CM G yX8_pullAt cX8_pullAt 7 (some .int) 3 [.ref v0, .int v1, .int v2, .int v3, .int v4] S (fun v : Int32 => some (.int v)) (f_X8_pullAt v0 v1 v2 v3 v4 S) :=
  CM_of (by decide) (Nat.le_of_ble_eq_true rfl) rfl (fun K hG X hR w => by subst hG; exact t_X8_pullAt_0 X hR v0 kv0 v1 v2 v3 v4 S w)
-- ==== X9_wayTo
theorem hy_X9_wayTo : yX9_wayTo.cls ≠ "java/lang/invoke/MethodHandle" ∧ yX9_wayTo.cls ≠ "java/lang/invoke/VarHandle" ∧ (parseMethodDescriptor yX9_wayTo.desc).map (fun d => d.parameters.length) = some 2 := by decide +kernel
set_option maxRecDepth 20000 in
def f_X9_wayTo (v0 : Int32) (v1 : Int32) (S : St) : Option (Int32 × St) := if v0 = v1 then (some ((0 : Int32), S)) else (if v1 ≤ v0 then (some ((1 : Int32), S)) else (some ((-1 : Int32), S)))
set_option maxRecDepth 20000 in
theorem t_X9_wayTo_0 {K : KK} (X : CX K cX9_wayTo 2 RX9 (some .int)) (hR : kR K = rmD 0) (v0 : Int32) (v1 : Int32) (S : St) (w : WT (kDn K) S.2.2) : JX K (Zm K (fun v : Int32 => some (.int v))) 0 [some (.int v0), some (.int v1)] [] (rwN (kN K) S) (kn K) 0 0 (f_X9_wayTo v0 v1 S) := by
  unfold f_X9_wayTo
  refine J_iload_n X dX9_wayTo_0 (i := 0) rfl rfl ?_
  refine J_iload_n X dX9_wayTo_1 (i := 1) rfl rfl ?_
  refine J_icmp_ne X (tgt := 7) dX9_wayTo_2 (by decide) ?_ ?_
  · refine J_iconst X (v := (0 : Int32)) dX9_wayTo_5 (by decide) ?_
    exact T_iret w X dX9_wayTo_6
  · refine J_iload_n X dX9_wayTo_7 (i := 0) rfl rfl ?_
    refine J_iload_n X dX9_wayTo_8 (i := 1) rfl rfl ?_
    refine J_icmp_ge X (tgt := 16) dX9_wayTo_9 (by decide) ?_ ?_
    · refine J_iconst X (v := (1 : Int32)) dX9_wayTo_16 (by decide) ?_
      exact T_iret w X dX9_wayTo_17
    · refine J_iconst X (v := (-1 : Int32)) dX9_wayTo_12 (by decide) ?_
      refine J_goto X (tgt := 17) dX9_wayTo_13 (by decide) ?_
      exact T_iret w X dX9_wayTo_17
theorem C_X9_wayTo (G : GG) (v0 : Int32) (v1 : Int32) (S : St) : CM G yX9_wayTo cX9_wayTo 2 (some .int) 0 [.int v0, .int v1] S (fun v : Int32 => some (.int v)) (f_X9_wayTo v0 v1 S) :=
  CM_of (by decide) (Nat.le_of_ble_eq_true rfl) rfl (fun K hG X hR w => by subst hG; exact t_X9_wayTo_0 X hR v0 v1 S w)
-- ==== X8_wayAcross
theorem hy_X8_wayAcross : yX8_wayAcross.cls ≠ "java/lang/invoke/MethodHandle" ∧ yX8_wayAcross.cls ≠ "java/lang/invoke/VarHandle" ∧ (parseMethodDescriptor yX8_wayAcross.desc).map (fun d => d.parameters.length) = some 2 := by decide +kernel
set_option maxRecDepth 20000 in
def f_X8_wayAcross (v0 : Nat) (v1 : Int32) (v2 : Int32) (S : St) : Option (Int32 × St) := (ix v1 8).bind fun j1 => (ix ((0 : Int32) + (S.1 (S.2.2 (S.2.2 v0 0) 8) j1)) 36).bind fun j2 => bd (f_X9_wayTo (S.1 (S.2.2 (S.2.2 v0 1) 0) j2) v2 S) fun r4 S3 => some (r4, S3)
set_option maxRecDepth 20000 in
theorem t_X8_wayAcross_0 {K : KK} (X : CX K cX8_wayAcross 3 RX8 (some .int)) (hR : kR K = rmD 1) (v0 : Nat) (kv0 : KA (kDn K) v0 (0, 8)) (v1 : Int32) (v2 : Int32) (S : St) (w : WT (kDn K) S.2.2) : JX K (Zm K (fun v : Int32 => some (.int v))) 0 [some (.ref v0), some (.int v1), some (.int v2)] [] (rwN (kN K) S) (kn K) 0 0 (f_X8_wayAcross v0 v1 v2 S) := by
  unfold f_X8_wayAcross
  refine J_aload_n X dX8_wayAcross_0 (i := 0) rfl rfl ?_
  refine T_getR X (kf := 1) cb8 kv0 (by decide) fl_X8_15 (fun _ _ _ => rfl) dX8_wayAcross_1 ?_
  refine T_getR X (kf := 0) cb5 (w.1 _ _ kv0 1 _ rfl) (by decide) fl_X8_81 (fun _ _ _ => rfl) dX8_wayAcross_4 ?_
  refine J_iconst X (v := (0 : Int32)) dX8_wayAcross_7 (by decide) ?_
  refine J_aload_n X dX8_wayAcross_8 (i := 0) rfl rfl ?_
  refine T_getR X (kf := 0) cb8 kv0 (by decide) fl_X8_9 (fun _ _ _ => rfl) dX8_wayAcross_9 ?_
  refine T_getR X (kf := 8) cb0 (w.1 _ _ kv0 0 _ rfl) (by decide) fl_X8_50 (fun _ _ _ => rfl) dX8_wayAcross_12 ?_
  refine J_iload_n X dX8_wayAcross_15 (i := 1) rfl rfl ?_
  refine T_iald X (w.1 _ _ (w.1 _ _ kv0 0 _ rfl) 8 _ rfl) dX8_wayAcross_16 (fun j1 => ?_)
  refine J_iadd X dX8_wayAcross_17 ?_
  refine T_iald X (w.1 _ _ (w.1 _ _ kv0 1 _ rfl) 0 _ rfl) dX8_wayAcross_18 (fun j2 => ?_)
  refine J_iload_n X dX8_wayAcross_19 (i := 2) rfl rfl ?_
  refine T_callN (As := [.int (S.1 (S.2.2 (S.2.2 v0 1) 0) j2), .int v2]) w X (C_X9_wayTo (kG K) (S.1 (S.2.2 (S.2.2 v0 1) 0) j2) v2 S) (List.mem_of_getElem? (i := 2) rfl) st_yX9_wayTo ii_RX9 co_yX9_wayTo hy_X9_wayTo (hRd hR (by decide) (by decide)) rfl (Nat.le_of_ble_eq_true rfl) dX8_wayAcross_20 (fun r4 S3 _ wS3 => ?_)
  exact T_iret wS3 X dX8_wayAcross_23
theorem C_X8_wayAcross (G : GG) (v0 : Nat) (kv0 : KA (gD G) v0 (0, 8)) (v1 : Int32) (v2 : Int32) (S : St) : CM G yX8_wayAcross cX8_wayAcross 3 (some .int) 1 [.ref v0, .int v1, .int v2] S (fun v : Int32 => some (.int v)) (f_X8_wayAcross v0 v1 v2 S) :=
  CM_of (by decide) (Nat.le_of_ble_eq_true rfl) rfl (fun K hG X hR w => by subst hG; exact t_X8_wayAcross_0 X hR v0 kv0 v1 v2 S w)
-- ==== X8_wayDown
theorem hy_X8_wayDown : yX8_wayDown.cls ≠ "java/lang/invoke/MethodHandle" ∧ yX8_wayDown.cls ≠ "java/lang/invoke/VarHandle" ∧ (parseMethodDescriptor yX8_wayDown.desc).map (fun d => d.parameters.length) = some 2 := by decide +kernel
set_option maxRecDepth 20000 in
def f_X8_wayDown (v0 : Nat) (v1 : Int32) (v2 : Int32) (S : St) : Option (Int32 × St) := (ix v1 8).bind fun j1 => (ix ((4 : Int32) + (S.1 (S.2.2 (S.2.2 v0 0) 8) j1)) 36).bind fun j2 => bd (f_X9_wayTo (S.1 (S.2.2 (S.2.2 v0 1) 0) j2) v2 S) fun r4 S3 => some (r4, S3)
set_option maxRecDepth 20000 in
theorem t_X8_wayDown_0 {K : KK} (X : CX K cX8_wayDown 3 RX8 (some .int)) (hR : kR K = rmD 1) (v0 : Nat) (kv0 : KA (kDn K) v0 (0, 8)) (v1 : Int32) (v2 : Int32) (S : St) (w : WT (kDn K) S.2.2) : JX K (Zm K (fun v : Int32 => some (.int v))) 0 [some (.ref v0), some (.int v1), some (.int v2)] [] (rwN (kN K) S) (kn K) 0 0 (f_X8_wayDown v0 v1 v2 S) := by
  unfold f_X8_wayDown
  refine J_aload_n X dX8_wayDown_0 (i := 0) rfl rfl ?_
  refine T_getR X (kf := 1) cb8 kv0 (by decide) fl_X8_15 (fun _ _ _ => rfl) dX8_wayDown_1 ?_
  refine T_getR X (kf := 0) cb5 (w.1 _ _ kv0 1 _ rfl) (by decide) fl_X8_81 (fun _ _ _ => rfl) dX8_wayDown_4 ?_
  refine J_iconst X (v := (4 : Int32)) dX8_wayDown_7 (by decide) ?_
  refine J_aload_n X dX8_wayDown_8 (i := 0) rfl rfl ?_
  refine T_getR X (kf := 0) cb8 kv0 (by decide) fl_X8_9 (fun _ _ _ => rfl) dX8_wayDown_9 ?_
  refine T_getR X (kf := 8) cb0 (w.1 _ _ kv0 0 _ rfl) (by decide) fl_X8_50 (fun _ _ _ => rfl) dX8_wayDown_12 ?_
  refine J_iload_n X dX8_wayDown_15 (i := 1) rfl rfl ?_
  refine T_iald X (w.1 _ _ (w.1 _ _ kv0 0 _ rfl) 8 _ rfl) dX8_wayDown_16 (fun j1 => ?_)
  refine J_iadd X dX8_wayDown_17 ?_
  refine T_iald X (w.1 _ _ (w.1 _ _ kv0 1 _ rfl) 0 _ rfl) dX8_wayDown_18 (fun j2 => ?_)
  refine J_iload_n X dX8_wayDown_19 (i := 2) rfl rfl ?_
  refine T_callN (As := [.int (S.1 (S.2.2 (S.2.2 v0 1) 0) j2), .int v2]) w X (C_X9_wayTo (kG K) (S.1 (S.2.2 (S.2.2 v0 1) 0) j2) v2 S) (List.mem_of_getElem? (i := 2) rfl) st_yX9_wayTo ii_RX9 co_yX9_wayTo hy_X9_wayTo (hRd hR (by decide) (by decide)) rfl (Nat.le_of_ble_eq_true rfl) dX8_wayDown_20 (fun r4 S3 _ wS3 => ?_)
  exact T_iret wS3 X dX8_wayDown_23
theorem C_X8_wayDown (G : GG) (v0 : Nat) (kv0 : KA (gD G) v0 (0, 8)) (v1 : Int32) (v2 : Int32) (S : St) : CM G yX8_wayDown cX8_wayDown 3 (some .int) 1 [.ref v0, .int v1, .int v2] S (fun v : Int32 => some (.int v)) (f_X8_wayDown v0 v1 v2 S) :=
  CM_of (by decide) (Nat.le_of_ble_eq_true rfl) rfl (fun K hG X hR w => by subst hG; exact t_X8_wayDown_0 X hR v0 kv0 v1 v2 S w)
-- ==== X3_layOn
theorem hy_X3_layOn : yX3_layOn.cls ≠ "java/lang/invoke/MethodHandle" ∧ yX3_layOn.cls ≠ "java/lang/invoke/VarHandle" ∧ (parseMethodDescriptor yX3_layOn.desc).map (fun d => d.parameters.length) = some 2 := by decide +kernel
set_option maxRecDepth 20000 in
def b_X3_layOn_52 : Nat → Nat → Nat → Int32 → Int32 → Int32 → Int32 → St → Option (Unit × St)
  | 0, _, _, _, _, _, _, _ => none
  | fu + 1, v0, v1, v2, v3, v4, v5, S => if (S.1 v0 2) ≤ v5 then (some ((), S)) else (bd (f_X8_pullAt v1 v5 v2 v3 v4 S) fun r2 S1 => bd (f_X8_wayAcross v1 v5 v3 S1) fun r4 S3 => (ix v5 8).bind fun j5 => nm (sI S3 (S1.2.2 v0 0) j5 (r2 * r4)) fun S6 => bd (f_X8_wayDown v1 v5 v4 S6) fun r8 S7 => (ix v5 8).bind fun j9 => nm (sI S7 (S6.2.2 v0 1) j9 (r2 * r8)) fun S10 => nm (v5 + (1 : Int32)) fun x11 => b_X3_layOn_52 fu v0 v1 v2 v3 v4 x11 S10)
set_option maxRecDepth 20000 in
theorem t_X3_layOn_52 {K : KK} (X : CX K cX3_layOn 7 RX3 none) (hR : kR K = rmD 4) : ∀ (fu : Nat) (v0 : Nat) (kv0 : KA (kDn K) v0 (0, 3)) (v1 : Nat) (kv1 : KA (kDn K) v1 (0, 8)) (v2 : Int32) (v3 : Int32) (v4 : Int32) (v5 : Int32) (S : St), WT (kDn K) S.2.2 → JX K (Zm K (fun _ : Unit => none)) 52 [some (.ref v0), some (.ref v1), some (.int v2), some (.int v3), some (.int v4), some (.int v5), none] [] (rwN (kN K) S) (kn K) 0 0 (b_X3_layOn_52 fu v0 v1 v2 v3 v4 v5 S) := by
  intro fu
  induction fu with
  | zero => intro v0 kv0 v1 kv1 v2 v3 v4 v5 S w; exact J_none
  | succ fu ih =>
    intro v0 kv0 v1 kv1 v2 v3 v4 v5 S w
    rw [b_X3_layOn_52]
    refine J_iload X dX3_layOn_52 rfl ?_
    refine J_aload_n X dX3_layOn_54 (i := 0) rfl rfl ?_
    refine T_getI X (kf := 2) cb3 kv0 (by decide) fl_X3_39 (fun _ _ _ => rfl) dX3_layOn_55 ?_
    refine J_icmp_ge X (tgt := 114) dX3_layOn_58 (by decide) ?_ ?_
    · exact T_vret w X dX3_layOn_114
    · refine J_aload_n X dX3_layOn_61 (i := 1) rfl rfl ?_
      refine J_iload X dX3_layOn_62 rfl ?_
      refine J_iload_n X dX3_layOn_64 (i := 2) rfl rfl ?_
      refine J_iload_n X dX3_layOn_65 (i := 3) rfl rfl ?_
      refine J_iload X dX3_layOn_66 rfl ?_
      refine T_callV (As := [.int v5, .int v2, .int v3, .int v4]) w X (C_X8_pullAt (kG K) v1 kv1 v5 v2 v3 v4 S) cb8 kv1 ml_X3_44 in_yX8_pullAt se_yX8_pullAt ii_RX8 co_yX8_pullAt hy_X8_pullAt (hRd hR (by decide) (by decide)) rfl (Nat.le_of_ble_eq_true rfl) dX3_layOn_68 (fun r2 S1 _ wS1 => ?_)
      refine J_istore X (ls' := [some (.ref v0), some (.ref v1), some (.int v2), some (.int v3), some (.int v4), some (.int v5), some (.int r2)]) dX3_layOn_71 (by decide) rfl ?_
      refine J_aload_n X dX3_layOn_73 (i := 0) rfl rfl ?_
      refine T_getR X (kf := 0) cb3 kv0 (by decide) fl_X3_9 (fun _ _ _ => rfl) dX3_layOn_74 ?_
      refine J_iload X dX3_layOn_77 rfl ?_
      refine J_iload X dX3_layOn_79 rfl ?_
      refine J_aload_n X dX3_layOn_81 (i := 1) rfl rfl ?_
      refine J_iload X dX3_layOn_82 rfl ?_
      refine J_iload_n X dX3_layOn_84 (i := 3) rfl rfl ?_
      refine T_callV (As := [.int v5, .int v3]) wS1 X (C_X8_wayAcross (kG K) v1 kv1 v5 v3 S1) cb8 kv1 ml_X3_48 in_yX8_wayAcross se_yX8_wayAcross ii_RX8 co_yX8_wayAcross hy_X8_wayAcross (hRd hR (by decide) (by decide)) rfl (Nat.le_of_ble_eq_true rfl) dX3_layOn_85 (fun r4 S3 _ wS3 => ?_)
      refine J_imul X dX3_layOn_88 ?_
      refine T_iast X (wS1.1 _ _ kv0 0 _ rfl) dX3_layOn_89 (fun j5 S6 hS6 => ?_)
      have wS6 : WT (kDn K) S6.2.2 := by rw [hS6]; exact wS3
      clear hS6
      refine J_aload_n X dX3_layOn_90 (i := 0) rfl rfl ?_
      refine T_getR X (kf := 1) cb3 kv0 (by decide) fl_X3_15 (fun _ _ _ => rfl) dX3_layOn_91 ?_
      refine J_iload X dX3_layOn_94 rfl ?_
      refine J_iload X dX3_layOn_96 rfl ?_
      refine J_aload_n X dX3_layOn_98 (i := 1) rfl rfl ?_
      refine J_iload X dX3_layOn_99 rfl ?_
      refine J_iload X dX3_layOn_101 rfl ?_
      refine T_callV (As := [.int v5, .int v4]) wS6 X (C_X8_wayDown (kG K) v1 kv1 v5 v4 S6) cb8 kv1 ml_X3_52 in_yX8_wayDown se_yX8_wayDown ii_RX8 co_yX8_wayDown hy_X8_wayDown (hRd hR (by decide) (by decide)) rfl (Nat.le_of_ble_eq_true rfl) dX3_layOn_103 (fun r8 S7 _ wS7 => ?_)
      refine J_imul X dX3_layOn_106 ?_
      refine T_iast X (wS6.1 _ _ kv0 1 _ rfl) dX3_layOn_107 (fun j9 S10 hS10 => ?_)
      have wS10 : WT (kDn K) S10.2.2 := by rw [hS10]; exact wS7
      clear hS10
      refine J_nmv (v5 + (1 : Int32)) (fun x11 ex11 => ?_)
      refine J_iinc X (v := x11) (ls' := [some (.ref v0), some (.ref v1), some (.int v2), some (.int v3), some (.int v4), some (.int x11), some (.int r2)]) dX3_layOn_108 (by decide) rfl (by rw [ex11]; rfl) rfl ?_
      refine J_goto X (tgt := 52) dX3_layOn_111 (by decide) ?_
      refine J_mask [true, true, true, true, true, true, false] ?_
      exact ih v0 kv0 v1 kv1 v2 v3 v4 x11 S10 wS10
set_option maxRecDepth 20000 in
def f_X3_layOn (v0 : Nat) (v1 : Nat) (v2 : Int32) (S : St) : Option (Unit × St) := (ix ((16 : Int32) + v2) 36).bind fun j1 => nm (S.1 (S.2.2 (S.2.2 v1 1) 0) j1) fun x2 => (ix ((22 : Int32) + v2) 36).bind fun j3 => nm (S.1 (S.2.2 (S.2.2 v1 1) 0) j3) fun x4 => nm (sI S v0 2 (S.1 (S.2.2 v1 0) 2)) fun S5 => nm (sI S5 v0 3 (S5.1 (S5.2.2 v1 1) 4)) fun S6 => b_X3_layOn_52 FU v0 v1 v2 x2 x4 (0 : Int32) S6
set_option maxRecDepth 20000 in
theorem t_X3_layOn_0 {K : KK} (X : CX K cX3_layOn 7 RX3 none) (hR : kR K = rmD 4) (v0 : Nat) (kv0 : KA (kDn K) v0 (0, 3)) (v1 : Nat) (kv1 : KA (kDn K) v1 (0, 8)) (v2 : Int32) (S : St) (w : WT (kDn K) S.2.2) : JX K (Zm K (fun _ : Unit => none)) 0 [some (.ref v0), some (.ref v1), some (.int v2), none, none, none, none] [] (rwN (kN K) S) (kn K) 0 0 (f_X3_layOn v0 v1 v2 S) := by
  unfold f_X3_layOn
  refine J_aload_n X dX3_layOn_0 (i := 1) rfl rfl ?_
  refine T_getR X (kf := 1) cb8 kv1 (by decide) fl_X3_18 (fun _ _ _ => rfl) dX3_layOn_1 ?_
  refine T_getR X (kf := 0) cb5 (w.1 _ _ kv1 1 _ rfl) (by decide) fl_X3_24 (fun _ _ _ => rfl) dX3_layOn_4 ?_
  refine J_bipush X (v := (16 : Int32)) dX3_layOn_7 (by decide) ?_
  refine J_iload_n X dX3_layOn_9 (i := 2) rfl rfl ?_
  refine J_iadd X dX3_layOn_10 ?_
  refine T_iald X (w.1 _ _ (w.1 _ _ kv1 1 _ rfl) 0 _ rfl) dX3_layOn_11 (fun j1 => ?_)
  refine J_nmi (fun x2 => ?_)
  refine J_istore_n X (i := 3) (ls' := [some (.ref v0), some (.ref v1), some (.int v2), some (.int x2), none, none, none]) dX3_layOn_12 rfl (by decide) rfl ?_
  refine J_aload_n X dX3_layOn_13 (i := 1) rfl rfl ?_
  refine T_getR X (kf := 1) cb8 kv1 (by decide) fl_X3_18 (fun _ _ _ => rfl) dX3_layOn_14 ?_
  refine T_getR X (kf := 0) cb5 (w.1 _ _ kv1 1 _ rfl) (by decide) fl_X3_24 (fun _ _ _ => rfl) dX3_layOn_17 ?_
  refine J_bipush X (v := (22 : Int32)) dX3_layOn_20 (by decide) ?_
  refine J_iload_n X dX3_layOn_22 (i := 2) rfl rfl ?_
  refine J_iadd X dX3_layOn_23 ?_
  refine T_iald X (w.1 _ _ (w.1 _ _ kv1 1 _ rfl) 0 _ rfl) dX3_layOn_24 (fun j3 => ?_)
  refine J_nmi (fun x4 => ?_)
  refine J_istore X (ls' := [some (.ref v0), some (.ref v1), some (.int v2), some (.int x2), some (.int x4), none, none]) dX3_layOn_25 (by decide) rfl ?_
  refine J_aload_n X dX3_layOn_27 (i := 0) rfl rfl ?_
  refine J_aload_n X dX3_layOn_28 (i := 1) rfl rfl ?_
  refine T_getR X (kf := 0) cb8 kv1 (by decide) fl_X3_29 (fun _ _ _ => rfl) dX3_layOn_29 ?_
  refine T_getI X (kf := 2) cb0 (w.1 _ _ kv1 0 _ rfl) (by decide) fl_X3_33 (fun _ _ _ => rfl) dX3_layOn_32 ?_
  refine T_putI X (kf := 2) cb3 kv0 (by decide) fl_X3_39 (fun _ _ _ => rfl) rfl rfl rfl dX3_layOn_35 (fun S5 hS5 => ?_)
  have wS5 : WT (kDn K) S5.2.2 := by rw [hS5]; exact w
  clear hS5
  refine J_aload_n X dX3_layOn_38 (i := 0) rfl rfl ?_
  refine J_aload_n X dX3_layOn_39 (i := 1) rfl rfl ?_
  refine T_getR X (kf := 1) cb8 kv1 (by decide) fl_X3_18 (fun _ _ _ => rfl) dX3_layOn_40 ?_
  refine T_getI X (kf := 4) cb5 (wS5.1 _ _ kv1 1 _ rfl) (by decide) fl_X3_40 (fun _ _ _ => rfl) dX3_layOn_43 ?_
  refine T_putI X (kf := 3) cb3 kv0 (by decide) fl_X3_43 (fun _ _ _ => rfl) rfl rfl rfl dX3_layOn_46 (fun S6 hS6 => ?_)
  have wS6 : WT (kDn K) S6.2.2 := by rw [hS6]; exact wS5
  clear hS6
  refine J_iconst X (v := (0 : Int32)) dX3_layOn_49 (by decide) ?_
  refine J_istore X (ls' := [some (.ref v0), some (.ref v1), some (.int v2), some (.int x2), some (.int x4), some (.int (0 : Int32)), none]) dX3_layOn_50 (by decide) rfl ?_
  exact t_X3_layOn_52 X hR FU v0 kv0 v1 kv1 v2 x2 x4 (0 : Int32) S6 wS6
theorem C_X3_layOn (G : GG) (v0 : Nat) (kv0 : KA (gD G) v0 (0, 3)) (v1 : Nat) (kv1 : KA (gD G) v1 (0, 8)) (v2 : Int32) (S : St) : CM G yX3_layOn cX3_layOn 7 none 4 [.ref v0, .ref v1, .int v2] S (fun _ : Unit => none) (f_X3_layOn v0 v1 v2 S) :=
  CM_of (by decide) (Nat.le_of_ble_eq_true rfl) rfl (fun K hG X hR w => by subst hG; exact t_X3_layOn_0 X hR v0 kv0 v1 kv1 v2 S w)
-- ==== X3_areEven
theorem hy_X3_areEven : yX3_areEven.cls ≠ "java/lang/invoke/MethodHandle" ∧ yX3_areEven.cls ≠ "java/lang/invoke/VarHandle" ∧ (parseMethodDescriptor yX3_areEven.desc).map (fun d => d.parameters.length) = some 2 := by decide +kernel
set_option maxRecDepth 20000 in
def b_X3_areEven_23 (v0 : Nat) (v1 : Int32) (v2 : Int32) (s0 : Int32) (S : St) : Option (Int32 × St) := if s0 = 0 then (some ((0 : Int32), S)) else ((ix v1 8).bind fun j1 => (ix v2 8).bind fun j2 => if (S.1 (S.2.2 v0 0) j1) = (-(S.1 (S.2.2 v0 0) j2)) then ((ix v1 8).bind fun j3 => (ix v2 8).bind fun j4 => if (S.1 (S.2.2 v0 1) j3) = (-(S.1 (S.2.2 v0 1) j4)) then (some ((1 : Int32), S)) else (some ((0 : Int32), S))) else (some ((0 : Int32), S)))
set_option maxRecDepth 20000 in
theorem t_X3_areEven_23 {K : KK} (X : CX K cX3_areEven 4 RX3 (some .boolean)) (hR : kR K = rmD 0) (v0 : Nat) (kv0 : KA (kDn K) v0 (0, 3)) (v1 : Int32) (v2 : Int32) (s0 : Int32) (S : St) (w : WT (kDn K) S.2.2) : JX K (Zm K (fun v : Int32 => some (.int v))) 23 [some (.ref v0), some (.int v1), some (.int v2), none] [.int s0] (rwN (kN K) S) (kn K) 0 0 (b_X3_areEven_23 v0 v1 v2 s0 S) := by
  unfold b_X3_areEven_23
  refine J_istore_n X (i := 3) (ls' := [some (.ref v0), some (.int v1), some (.int v2), some (.int s0)]) dX3_areEven_23 rfl (by decide) rfl ?_
  refine J_iload_n X dX3_areEven_24 (i := 3) rfl rfl ?_
  refine J_if_eq X (tgt := 64) dX3_areEven_25 (by decide) ?_ ?_
  · refine J_iconst X (v := (0 : Int32)) dX3_areEven_64 (by decide) ?_
    exact T_zret w X (by decide) dX3_areEven_65
  · refine J_aload_n X dX3_areEven_28 (i := 0) rfl rfl ?_
    refine T_getR X (kf := 0) cb3 kv0 (by decide) fl_X3_9 (fun _ _ _ => rfl) dX3_areEven_29 ?_
    refine J_iload_n X dX3_areEven_32 (i := 1) rfl rfl ?_
    refine T_iald X (w.1 _ _ kv0 0 _ rfl) dX3_areEven_33 (fun j1 => ?_)
    refine J_aload_n X dX3_areEven_34 (i := 0) rfl rfl ?_
    refine T_getR X (kf := 0) cb3 kv0 (by decide) fl_X3_9 (fun _ _ _ => rfl) dX3_areEven_35 ?_
    refine J_iload_n X dX3_areEven_38 (i := 2) rfl rfl ?_
    refine T_iald X (w.1 _ _ kv0 0 _ rfl) dX3_areEven_39 (fun j2 => ?_)
    refine J_ineg X dX3_areEven_40 ?_
    refine J_icmp_ne X (tgt := 64) dX3_areEven_41 (by decide) ?_ ?_
    · refine J_aload_n X dX3_areEven_44 (i := 0) rfl rfl ?_
      refine T_getR X (kf := 1) cb3 kv0 (by decide) fl_X3_15 (fun _ _ _ => rfl) dX3_areEven_45 ?_
      refine J_iload_n X dX3_areEven_48 (i := 1) rfl rfl ?_
      refine T_iald X (w.1 _ _ kv0 1 _ rfl) dX3_areEven_49 (fun j3 => ?_)
      refine J_aload_n X dX3_areEven_50 (i := 0) rfl rfl ?_
      refine T_getR X (kf := 1) cb3 kv0 (by decide) fl_X3_15 (fun _ _ _ => rfl) dX3_areEven_51 ?_
      refine J_iload_n X dX3_areEven_54 (i := 2) rfl rfl ?_
      refine T_iald X (w.1 _ _ kv0 1 _ rfl) dX3_areEven_55 (fun j4 => ?_)
      refine J_ineg X dX3_areEven_56 ?_
      refine J_icmp_ne X (tgt := 64) dX3_areEven_57 (by decide) ?_ ?_
      · refine J_iconst X (v := (1 : Int32)) dX3_areEven_60 (by decide) ?_
        refine J_goto X (tgt := 65) dX3_areEven_61 (by decide) ?_
        exact T_zret w X (by decide) dX3_areEven_65
      · refine J_iconst X (v := (0 : Int32)) dX3_areEven_64 (by decide) ?_
        exact T_zret w X (by decide) dX3_areEven_65
    · refine J_iconst X (v := (0 : Int32)) dX3_areEven_64 (by decide) ?_
      exact T_zret w X (by decide) dX3_areEven_65
set_option maxRecDepth 20000 in
def b_X3_areEven_18 (v0 : Nat) (v1 : Int32) (v2 : Int32) (S : St) : Option (Int32 × St) := b_X3_areEven_23 v0 v1 v2 (1 : Int32) S
set_option maxRecDepth 20000 in
theorem t_X3_areEven_18 {K : KK} (X : CX K cX3_areEven 4 RX3 (some .boolean)) (hR : kR K = rmD 0) (v0 : Nat) (kv0 : KA (kDn K) v0 (0, 3)) (v1 : Int32) (v2 : Int32) (S : St) (w : WT (kDn K) S.2.2) : JX K (Zm K (fun v : Int32 => some (.int v))) 18 [some (.ref v0), some (.int v1), some (.int v2), none] [] (rwN (kN K) S) (kn K) 0 0 (b_X3_areEven_18 v0 v1 v2 S) := by
  unfold b_X3_areEven_18
  refine J_iconst X (v := (1 : Int32)) dX3_areEven_18 (by decide) ?_
  refine J_goto X (tgt := 23) dX3_areEven_19 (by decide) ?_
  exact t_X3_areEven_23 X hR v0 kv0 v1 v2 (1 : Int32) S w
set_option maxRecDepth 20000 in
def f_X3_areEven (v0 : Nat) (v1 : Int32) (v2 : Int32) (S : St) : Option (Int32 × St) := (ix v1 8).bind fun j1 => if (S.1 (S.2.2 v0 0) j1) = 0 then ((ix v1 8).bind fun j2 => if (S.1 (S.2.2 v0 1) j2) = 0 then (b_X3_areEven_23 v0 v1 v2 (0 : Int32) S) else (b_X3_areEven_18 v0 v1 v2 S)) else (b_X3_areEven_18 v0 v1 v2 S)
set_option maxRecDepth 20000 in
theorem t_X3_areEven_0 {K : KK} (X : CX K cX3_areEven 4 RX3 (some .boolean)) (hR : kR K = rmD 0) (v0 : Nat) (kv0 : KA (kDn K) v0 (0, 3)) (v1 : Int32) (v2 : Int32) (S : St) (w : WT (kDn K) S.2.2) : JX K (Zm K (fun v : Int32 => some (.int v))) 0 [some (.ref v0), some (.int v1), some (.int v2), none] [] (rwN (kN K) S) (kn K) 0 0 (f_X3_areEven v0 v1 v2 S) := by
  unfold f_X3_areEven
  refine J_aload_n X dX3_areEven_0 (i := 0) rfl rfl ?_
  refine T_getR X (kf := 0) cb3 kv0 (by decide) fl_X3_9 (fun _ _ _ => rfl) dX3_areEven_1 ?_
  refine J_iload_n X dX3_areEven_4 (i := 1) rfl rfl ?_
  refine T_iald X (w.1 _ _ kv0 0 _ rfl) dX3_areEven_5 (fun j1 => ?_)
  refine J_if_ne X (tgt := 18) dX3_areEven_6 (by decide) ?_ ?_
  · refine J_aload_n X dX3_areEven_9 (i := 0) rfl rfl ?_
    refine T_getR X (kf := 1) cb3 kv0 (by decide) fl_X3_15 (fun _ _ _ => rfl) dX3_areEven_10 ?_
    refine J_iload_n X dX3_areEven_13 (i := 1) rfl rfl ?_
    refine T_iald X (w.1 _ _ kv0 1 _ rfl) dX3_areEven_14 (fun j2 => ?_)
    refine J_if_eq X (tgt := 22) dX3_areEven_15 (by decide) ?_ ?_
    · refine J_iconst X (v := (0 : Int32)) dX3_areEven_22 (by decide) ?_
      exact t_X3_areEven_23 X hR v0 kv0 v1 v2 (0 : Int32) S w
    · exact t_X3_areEven_18 X hR v0 kv0 v1 v2 S w
  · exact t_X3_areEven_18 X hR v0 kv0 v1 v2 S w
theorem C_X3_areEven (G : GG) (v0 : Nat) (kv0 : KA (gD G) v0 (0, 3)) (v1 : Int32) (v2 : Int32) (S : St) : CM G yX3_areEven cX3_areEven 4 (some .boolean) 0 [.ref v0, .int v1, .int v2] S (fun v : Int32 => some (.int v)) (f_X3_areEven v0 v1 v2 S) :=
  CM_of (by decide) (Nat.le_of_ble_eq_true rfl) rfl (fun K hG X hR w => by subst hG; exact t_X3_areEven_0 X hR v0 kv0 v1 v2 S w)
-- ==== X3_pullsBy
theorem hy_X3_pullsBy : yX3_pullsBy.cls ≠ "java/lang/invoke/MethodHandle" ∧ yX3_pullsBy.cls ≠ "java/lang/invoke/VarHandle" ∧ (parseMethodDescriptor yX3_pullsBy.desc).map (fun d => d.parameters.length) = some 3 := by decide +kernel
set_option maxRecDepth 20000 in
def b_X3_pullsBy_51 (q9 : Nat → Int32 → Int32 → Int32 → Int32 → St → Option (Int32 × St)) (v0 : Nat) (v1 : Int32) (v4 : Int32) (v5 : Int32) (v6 : Int32) (S : St) : Option (Int32 × St) := nm (v6 + (1 : Int32)) fun x1 => q9 v0 v1 v4 v5 x1 S
set_option maxRecDepth 20000 in
theorem t_X3_pullsBy_51 {K : KK} (X : CX K cX3_pullsBy 7 RX3 (some .boolean)) (hR : kR K = rmD 0) {q9 : Nat → Int32 → Int32 → Int32 → Int32 → St → Option (Int32 × St)} (hq9 : ∀ (v0 : Nat) (kv0 : KA (kDn K) v0 (0, 3)) (v1 : Int32) (v4 : Int32) (v5 : Int32) (v6 : Int32) (S : St), WT (kDn K) S.2.2 → JX K (Zm K (fun v : Int32 => some (.int v))) 9 [some (.ref v0), some (.int v1), none, none, some (.int v4), some (.int v5), some (.int v6)] [] (rwN (kN K) S) (kn K) 0 0 (q9 v0 v1 v4 v5 v6 S)) (v0 : Nat) (kv0 : KA (kDn K) v0 (0, 3)) (v1 : Int32) (v4 : Int32) (v5 : Int32) (v6 : Int32) (S : St) (w : WT (kDn K) S.2.2) : JX K (Zm K (fun v : Int32 => some (.int v))) 51 [some (.ref v0), some (.int v1), none, none, some (.int v4), some (.int v5), some (.int v6)] [] (rwN (kN K) S) (kn K) 0 0 (b_X3_pullsBy_51 q9 v0 v1 v4 v5 v6 S) := by
  unfold b_X3_pullsBy_51
  refine J_nmv (v6 + (1 : Int32)) (fun x1 ex1 => ?_)
  refine J_iinc X (v := x1) (ls' := [some (.ref v0), some (.int v1), none, none, some (.int v4), some (.int v5), some (.int x1)]) dX3_pullsBy_51 (by decide) rfl (by rw [ex1]; rfl) rfl ?_
  refine J_goto X (tgt := 9) dX3_pullsBy_54 (by decide) ?_
  exact hq9 v0 kv0 v1 v4 v5 x1 S w
set_option maxRecDepth 20000 in
def b_X3_pullsBy_9 : Nat → Nat → Int32 → Int32 → Int32 → Int32 → St → Option (Int32 × St)
  | 0, _, _, _, _, _, _ => none
  | fu + 1, v0, v1, v4, v5, v6, S => if (S.1 v0 2) ≤ v6 then (if v4 = 0 then (if v5 = 0 then (some ((1 : Int32), S)) else (some ((0 : Int32), S))) else (some ((0 : Int32), S))) else (if ((v1 >>> (v6 &&& 31)) &&& (1 : Int32)) = 0 then (b_X3_pullsBy_51 (b_X3_pullsBy_9 fu) v0 v1 v4 v5 v6 S) else ((ix v6 8).bind fun j1 => nm (v4 - (S.1 (S.2.2 v0 0) j1)) fun x2 => (ix v6 8).bind fun j3 => nm (v5 - (S.1 (S.2.2 v0 1) j3)) fun x4 => b_X3_pullsBy_51 (b_X3_pullsBy_9 fu) v0 v1 x2 x4 v6 S))
set_option maxRecDepth 20000 in
theorem t_X3_pullsBy_9 {K : KK} (X : CX K cX3_pullsBy 7 RX3 (some .boolean)) (hR : kR K = rmD 0) : ∀ (fu : Nat) (v0 : Nat) (kv0 : KA (kDn K) v0 (0, 3)) (v1 : Int32) (v4 : Int32) (v5 : Int32) (v6 : Int32) (S : St), WT (kDn K) S.2.2 → JX K (Zm K (fun v : Int32 => some (.int v))) 9 [some (.ref v0), some (.int v1), none, none, some (.int v4), some (.int v5), some (.int v6)] [] (rwN (kN K) S) (kn K) 0 0 (b_X3_pullsBy_9 fu v0 v1 v4 v5 v6 S) := by
  intro fu
  induction fu with
  | zero => intro v0 kv0 v1 v4 v5 v6 S w; exact J_none
  | succ fu ih =>
    intro v0 kv0 v1 v4 v5 v6 S w
    rw [b_X3_pullsBy_9]
    refine J_iload X dX3_pullsBy_9 rfl ?_
    refine J_aload_n X dX3_pullsBy_11 (i := 0) rfl rfl ?_
    refine T_getI X (kf := 2) cb3 kv0 (by decide) fl_X3_39 (fun _ _ _ => rfl) dX3_pullsBy_12 ?_
    refine J_icmp_ge X (tgt := 57) dX3_pullsBy_15 (by decide) ?_ ?_
    · refine J_iload X dX3_pullsBy_57 rfl ?_
      refine J_if_ne X (tgt := 71) dX3_pullsBy_59 (by decide) ?_ ?_
      · refine J_iload X dX3_pullsBy_62 rfl ?_
        refine J_if_ne X (tgt := 71) dX3_pullsBy_64 (by decide) ?_ ?_
        · refine J_iconst X (v := (1 : Int32)) dX3_pullsBy_67 (by decide) ?_
          refine J_goto X (tgt := 72) dX3_pullsBy_68 (by decide) ?_
          exact T_zret w X (by decide) dX3_pullsBy_72
        · refine J_iconst X (v := (0 : Int32)) dX3_pullsBy_71 (by decide) ?_
          exact T_zret w X (by decide) dX3_pullsBy_72
      · refine J_iconst X (v := (0 : Int32)) dX3_pullsBy_71 (by decide) ?_
        exact T_zret w X (by decide) dX3_pullsBy_72
    · refine J_iload_n X dX3_pullsBy_18 (i := 1) rfl rfl ?_
      refine J_iload X dX3_pullsBy_19 rfl ?_
      refine J_ishr X dX3_pullsBy_21 ?_
      refine J_iconst X (v := (1 : Int32)) dX3_pullsBy_22 (by decide) ?_
      refine J_iand X dX3_pullsBy_23 ?_
      refine J_if_eq X (tgt := 51) dX3_pullsBy_24 (by decide) ?_ ?_
      · exact t_X3_pullsBy_51 X hR ih v0 kv0 v1 v4 v5 v6 S w
      · refine J_iload X dX3_pullsBy_27 rfl ?_
        refine J_aload_n X dX3_pullsBy_29 (i := 0) rfl rfl ?_
        refine T_getR X (kf := 0) cb3 kv0 (by decide) fl_X3_9 (fun _ _ _ => rfl) dX3_pullsBy_30 ?_
        refine J_iload X dX3_pullsBy_33 rfl ?_
        refine T_iald X (w.1 _ _ kv0 0 _ rfl) dX3_pullsBy_35 (fun j1 => ?_)
        refine J_isub X dX3_pullsBy_36 ?_
        refine J_nmi (fun x2 => ?_)
        refine J_istore X (ls' := [some (.ref v0), some (.int v1), none, none, some (.int x2), some (.int v5), some (.int v6)]) dX3_pullsBy_37 (by decide) rfl ?_
        refine J_iload X dX3_pullsBy_39 rfl ?_
        refine J_aload_n X dX3_pullsBy_41 (i := 0) rfl rfl ?_
        refine T_getR X (kf := 1) cb3 kv0 (by decide) fl_X3_15 (fun _ _ _ => rfl) dX3_pullsBy_42 ?_
        refine J_iload X dX3_pullsBy_45 rfl ?_
        refine T_iald X (w.1 _ _ kv0 1 _ rfl) dX3_pullsBy_47 (fun j3 => ?_)
        refine J_isub X dX3_pullsBy_48 ?_
        refine J_nmi (fun x4 => ?_)
        refine J_istore X (ls' := [some (.ref v0), some (.int v1), none, none, some (.int x2), some (.int x4), some (.int v6)]) dX3_pullsBy_49 (by decide) rfl ?_
        exact t_X3_pullsBy_51 X hR ih v0 kv0 v1 x2 x4 v6 S w
set_option maxRecDepth 20000 in
def f_X3_pullsBy (v0 : Nat) (v1 : Int32) (v2 : Int32) (v3 : Int32) (S : St) : Option (Int32 × St) := b_X3_pullsBy_9 FU v0 v1 v2 v3 (0 : Int32) S
set_option maxRecDepth 20000 in
theorem t_X3_pullsBy_0 {K : KK} (X : CX K cX3_pullsBy 7 RX3 (some .boolean)) (hR : kR K = rmD 0) (v0 : Nat) (kv0 : KA (kDn K) v0 (0, 3)) (v1 : Int32) (v2 : Int32) (v3 : Int32) (S : St) (w : WT (kDn K) S.2.2) : JX K (Zm K (fun v : Int32 => some (.int v))) 0 [some (.ref v0), some (.int v1), some (.int v2), some (.int v3), none, none, none] [] (rwN (kN K) S) (kn K) 0 0 (f_X3_pullsBy v0 v1 v2 v3 S) := by
  unfold f_X3_pullsBy
  refine J_iload_n X dX3_pullsBy_0 (i := 2) rfl rfl ?_
  refine J_istore X (ls' := [some (.ref v0), some (.int v1), some (.int v2), some (.int v3), some (.int v2), none, none]) dX3_pullsBy_1 (by decide) rfl ?_
  refine J_iload_n X dX3_pullsBy_3 (i := 3) rfl rfl ?_
  refine J_istore X (ls' := [some (.ref v0), some (.int v1), some (.int v2), some (.int v3), some (.int v2), some (.int v3), none]) dX3_pullsBy_4 (by decide) rfl ?_
  refine J_iconst X (v := (0 : Int32)) dX3_pullsBy_6 (by decide) ?_
  refine J_istore X (ls' := [some (.ref v0), some (.int v1), some (.int v2), some (.int v3), some (.int v2), some (.int v3), some (.int (0 : Int32))]) dX3_pullsBy_7 (by decide) rfl ?_
  refine J_mask [true, true, false, false, true, true, true] ?_
  exact t_X3_pullsBy_9 X hR FU v0 kv0 v1 v2 v3 (0 : Int32) S w
theorem C_X3_pullsBy (G : GG) (v0 : Nat) (kv0 : KA (gD G) v0 (0, 3)) (v1 : Int32) (v2 : Int32) (v3 : Int32) (S : St) : CM G yX3_pullsBy cX3_pullsBy 7 (some .boolean) 0 [.ref v0, .int v1, .int v2, .int v3] S (fun v : Int32 => some (.int v)) (f_X3_pullsBy v0 v1 v2 v3 S) :=
  CM_of (by decide) (Nat.le_of_ble_eq_true rfl) rfl (fun K hG X hR w => by subst hG; exact t_X3_pullsBy_0 X hR v0 kv0 v1 v2 v3 S w)
-- ==== X3_seek
theorem hy_X3_seek : yX3_seek.cls ≠ "java/lang/invoke/MethodHandle" ∧ yX3_seek.cls ≠ "java/lang/invoke/VarHandle" ∧ (parseMethodDescriptor yX3_seek.desc).map (fun d => d.parameters.length) = some 3 := by decide +kernel
set_option maxRecDepth 20000 in
def b_X3_seek_83 (q13 : Nat → Int32 → Int32 → Int32 → St → Option (Unit × St)) (v0 : Nat) (v1 : Int32) (v2 : Int32) (v4 : Int32) (S : St) : Option (Unit × St) := nm (v4 + (1 : Int32)) fun x1 => q13 v0 v1 v2 x1 S
set_option maxRecDepth 20000 in
theorem t_X3_seek_83 {K : KK} (X : CX K cX3_seek 5 RX3 none) (hR : kR K = rmD 1) {q13 : Nat → Int32 → Int32 → Int32 → St → Option (Unit × St)} (hq13 : ∀ (v0 : Nat) (kv0 : KA (kDn K) v0 (0, 3)) (v1 : Int32) (v2 : Int32) (v4 : Int32) (S : St), WT (kDn K) S.2.2 → JX K (Zm K (fun _ : Unit => none)) 13 [some (.ref v0), some (.int v1), some (.int v2), none, some (.int v4)] [] (rwN (kN K) S) (kn K) 0 0 (q13 v0 v1 v2 v4 S)) (v0 : Nat) (kv0 : KA (kDn K) v0 (0, 3)) (v1 : Int32) (v2 : Int32) (v4 : Int32) (S : St) (w : WT (kDn K) S.2.2) : JX K (Zm K (fun _ : Unit => none)) 83 [some (.ref v0), some (.int v1), some (.int v2), none, some (.int v4)] [] (rwN (kN K) S) (kn K) 0 0 (b_X3_seek_83 q13 v0 v1 v2 v4 S) := by
  unfold b_X3_seek_83
  refine J_nmv (v4 + (1 : Int32)) (fun x1 ex1 => ?_)
  refine J_iinc X (v := x1) (ls' := [some (.ref v0), some (.int v1), some (.int v2), none, some (.int x1)]) dX3_seek_83 (by decide) rfl (by rw [ex1]; rfl) rfl ?_
  refine J_goto X (tgt := 13) dX3_seek_86 (by decide) ?_
  exact hq13 v0 kv0 v1 v2 x1 S w
set_option maxRecDepth 20000 in
def b_X3_seek_73 (q13 : Nat → Int32 → Int32 → Int32 → St → Option (Unit × St)) (v0 : Nat) (v1 : Int32) (v2 : Int32) (v4 : Int32) (S : St) : Option (Unit × St) := nm (sI S v0 4 ((S.1 v0 4) + (1 : Int32))) fun S1 => b_X3_seek_83 q13 v0 v1 v2 v4 S1
set_option maxRecDepth 20000 in
theorem t_X3_seek_73 {K : KK} (X : CX K cX3_seek 5 RX3 none) (hR : kR K = rmD 1) {q13 : Nat → Int32 → Int32 → Int32 → St → Option (Unit × St)} (hq13 : ∀ (v0 : Nat) (kv0 : KA (kDn K) v0 (0, 3)) (v1 : Int32) (v2 : Int32) (v4 : Int32) (S : St), WT (kDn K) S.2.2 → JX K (Zm K (fun _ : Unit => none)) 13 [some (.ref v0), some (.int v1), some (.int v2), none, some (.int v4)] [] (rwN (kN K) S) (kn K) 0 0 (q13 v0 v1 v2 v4 S)) (v0 : Nat) (kv0 : KA (kDn K) v0 (0, 3)) (v1 : Int32) (v2 : Int32) (v4 : Int32) (S : St) (w : WT (kDn K) S.2.2) : JX K (Zm K (fun _ : Unit => none)) 73 [some (.ref v0), some (.int v1), some (.int v2), none, some (.int v4)] [] (rwN (kN K) S) (kn K) 0 0 (b_X3_seek_73 q13 v0 v1 v2 v4 S) := by
  unfold b_X3_seek_73
  refine J_aload_n X dX3_seek_73 (i := 0) rfl rfl ?_
  refine J_dup X dX3_seek_74 rfl ?_
  refine T_getI X (kf := 4) cb3 kv0 (by decide) fl_X3_55 (fun _ _ _ => rfl) dX3_seek_75 ?_
  refine J_iconst X (v := (1 : Int32)) dX3_seek_78 (by decide) ?_
  refine J_iadd X dX3_seek_79 ?_
  refine T_putI X (kf := 4) cb3 kv0 (by decide) fl_X3_55 (fun _ _ _ => rfl) rfl rfl rfl dX3_seek_80 (fun S1 hS1 => ?_)
  have wS1 : WT (kDn K) S1.2.2 := by rw [hS1]; exact w
  clear hS1
  exact t_X3_seek_83 X hR hq13 v0 kv0 v1 v2 v4 S1 wS1
set_option maxRecDepth 20000 in
def b_X3_seek_67 (q13 : Nat → Int32 → Int32 → Int32 → St → Option (Unit × St)) (v0 : Nat) (v1 : Int32) (v2 : Int32) (v4 : Int32) (S : St) : Option (Unit × St) := nm (sI S v0 5 v4) fun S1 => b_X3_seek_73 q13 v0 v1 v2 v4 S1
set_option maxRecDepth 20000 in
theorem t_X3_seek_67 {K : KK} (X : CX K cX3_seek 5 RX3 none) (hR : kR K = rmD 1) {q13 : Nat → Int32 → Int32 → Int32 → St → Option (Unit × St)} (hq13 : ∀ (v0 : Nat) (kv0 : KA (kDn K) v0 (0, 3)) (v1 : Int32) (v2 : Int32) (v4 : Int32) (S : St), WT (kDn K) S.2.2 → JX K (Zm K (fun _ : Unit => none)) 13 [some (.ref v0), some (.int v1), some (.int v2), none, some (.int v4)] [] (rwN (kN K) S) (kn K) 0 0 (q13 v0 v1 v2 v4 S)) (v0 : Nat) (kv0 : KA (kDn K) v0 (0, 3)) (v1 : Int32) (v2 : Int32) (v4 : Int32) (S : St) (w : WT (kDn K) S.2.2) : JX K (Zm K (fun _ : Unit => none)) 67 [some (.ref v0), some (.int v1), some (.int v2), none, some (.int v4)] [] (rwN (kN K) S) (kn K) 0 0 (b_X3_seek_67 q13 v0 v1 v2 v4 S) := by
  unfold b_X3_seek_67
  refine J_aload_n X dX3_seek_67 (i := 0) rfl rfl ?_
  refine J_iload X dX3_seek_68 rfl ?_
  refine T_putI X (kf := 5) cb3 kv0 (by decide) fl_X3_58 (fun _ _ _ => rfl) rfl rfl rfl dX3_seek_70 (fun S1 hS1 => ?_)
  have wS1 : WT (kDn K) S1.2.2 := by rw [hS1]; exact w
  clear hS1
  exact t_X3_seek_73 X hR hq13 v0 kv0 v1 v2 v4 S1 wS1
set_option maxRecDepth 20000 in
def b_X3_seek_13 : Nat → Nat → Int32 → Int32 → Int32 → St → Option (Unit × St)
  | 0, _, _, _, _, _ => none
  | fu + 1, v0, v1, v2, v4, S => if ((1 : Int32) <<< ((S.1 v0 2) &&& 31)) ≤ v4 then (some ((), S)) else (if (v4 &&& (S.1 v0 3)) = 0 then (bd (f_X3_pullsBy v0 v4 v1 v2 S) fun r2 S1 => if r2 = 0 then (b_X3_seek_83 (b_X3_seek_13 fu) v0 v1 v2 v4 S1) else (if (S1.1 v0 4) = 0 then (b_X3_seek_67 (b_X3_seek_13 fu) v0 v1 v2 v4 S1) else (bd (f_J6_bitCount_0f7a4 v4 S1) fun r4 S3 => bd (f_J6_bitCount_0f7a4 (S3.1 v0 5) S3) fun r6 S5 => if r6 ≤ r4 then (b_X3_seek_73 (b_X3_seek_13 fu) v0 v1 v2 v4 S5) else (b_X3_seek_67 (b_X3_seek_13 fu) v0 v1 v2 v4 S5)))) else (b_X3_seek_83 (b_X3_seek_13 fu) v0 v1 v2 v4 S))
set_option maxRecDepth 20000 in
theorem t_X3_seek_13 {K : KK} (X : CX K cX3_seek 5 RX3 none) (hR : kR K = rmD 1) : ∀ (fu : Nat) (v0 : Nat) (kv0 : KA (kDn K) v0 (0, 3)) (v1 : Int32) (v2 : Int32) (v4 : Int32) (S : St), WT (kDn K) S.2.2 → JX K (Zm K (fun _ : Unit => none)) 13 [some (.ref v0), some (.int v1), some (.int v2), none, some (.int v4)] [] (rwN (kN K) S) (kn K) 0 0 (b_X3_seek_13 fu v0 v1 v2 v4 S) := by
  intro fu
  induction fu with
  | zero => intro v0 kv0 v1 v2 v4 S w; exact J_none
  | succ fu ih =>
    intro v0 kv0 v1 v2 v4 S w
    rw [b_X3_seek_13]
    refine J_iload X dX3_seek_13 rfl ?_
    refine J_iconst X (v := (1 : Int32)) dX3_seek_15 (by decide) ?_
    refine J_aload_n X dX3_seek_16 (i := 0) rfl rfl ?_
    refine T_getI X (kf := 2) cb3 kv0 (by decide) fl_X3_39 (fun _ _ _ => rfl) dX3_seek_17 ?_
    refine J_ishl X dX3_seek_20 ?_
    refine J_icmp_ge X (tgt := 89) dX3_seek_21 (by decide) ?_ ?_
    · exact T_vret w X dX3_seek_89
    · refine J_iload X dX3_seek_24 rfl ?_
      refine J_aload_n X dX3_seek_26 (i := 0) rfl rfl ?_
      refine T_getI X (kf := 3) cb3 kv0 (by decide) fl_X3_43 (fun _ _ _ => rfl) dX3_seek_27 ?_
      refine J_iand X dX3_seek_30 ?_
      refine J_if_ne X (tgt := 83) dX3_seek_31 (by decide) ?_ ?_
      · refine J_aload_n X dX3_seek_34 (i := 0) rfl rfl ?_
        refine J_iload X dX3_seek_35 rfl ?_
        refine J_iload_n X dX3_seek_37 (i := 1) rfl rfl ?_
        refine J_iload_n X dX3_seek_38 (i := 2) rfl rfl ?_
        refine T_callV (As := [.int v4, .int v1, .int v2]) w X (C_X3_pullsBy (kG K) v0 kv0 v4 v1 v2 S) cb3 kv0 ml_X3_61 in_yX3_pullsBy se_yX3_pullsBy ii_RX3 co_yX3_pullsBy hy_X3_pullsBy (hRd hR (by decide) (by decide)) rfl (Nat.le_of_ble_eq_true rfl) dX3_seek_39 (fun r2 S1 _ wS1 => ?_)
        refine J_if_eq X (tgt := 83) dX3_seek_42 (by decide) ?_ ?_
        · exact t_X3_seek_83 X hR ih v0 kv0 v1 v2 v4 S1 wS1
        · refine J_aload_n X dX3_seek_45 (i := 0) rfl rfl ?_
          refine T_getI X (kf := 4) cb3 kv0 (by decide) fl_X3_55 (fun _ _ _ => rfl) dX3_seek_46 ?_
          refine J_if_eq X (tgt := 67) dX3_seek_49 (by decide) ?_ ?_
          · exact t_X3_seek_67 X hR ih v0 kv0 v1 v2 v4 S1 wS1
          · refine J_iload X dX3_seek_52 rfl ?_
            refine T_callS (As := [.int v4]) wS1 X (C_J6_bitCount_0f7a4 (kG K) v4 S1) ml_X3_65 st_yJ6_bitCount_0f7a4 ii_RJ6 co_yJ6_bitCount_0f7a4 hy_J6_bitCount_0f7a4 (hRd hR (by decide) (by decide)) rfl (Nat.le_of_ble_eq_true rfl) dX3_seek_54 (fun r4 S3 _ wS3 => ?_)
            refine J_aload_n X dX3_seek_57 (i := 0) rfl rfl ?_
            refine T_getI X (kf := 5) cb3 kv0 (by decide) fl_X3_58 (fun _ _ _ => rfl) dX3_seek_58 ?_
            refine T_callS (As := [.int (S3.1 v0 5)]) wS3 X (C_J6_bitCount_0f7a4 (kG K) (S3.1 v0 5) S3) ml_X3_65 st_yJ6_bitCount_0f7a4 ii_RJ6 co_yJ6_bitCount_0f7a4 hy_J6_bitCount_0f7a4 (hRd hR (by decide) (by decide)) rfl (Nat.le_of_ble_eq_true rfl) dX3_seek_61 (fun r6 S5 _ wS5 => ?_)
            refine J_icmp_ge X (tgt := 73) dX3_seek_64 (by decide) ?_ ?_
            · exact t_X3_seek_73 X hR ih v0 kv0 v1 v2 v4 S5 wS5
            · exact t_X3_seek_67 X hR ih v0 kv0 v1 v2 v4 S5 wS5
      · exact t_X3_seek_83 X hR ih v0 kv0 v1 v2 v4 S w
set_option maxRecDepth 20000 in
def f_X3_seek (v0 : Nat) (v1 : Int32) (v2 : Int32) (v3 : Int32) (S : St) : Option (Unit × St) := nm (sI S v0 4 (0 : Int32)) fun S1 => nm (sI S1 v0 5 (0 : Int32)) fun S2 => b_X3_seek_13 FU v0 v1 v2 v3 S2
set_option maxRecDepth 20000 in
theorem t_X3_seek_0 {K : KK} (X : CX K cX3_seek 5 RX3 none) (hR : kR K = rmD 1) (v0 : Nat) (kv0 : KA (kDn K) v0 (0, 3)) (v1 : Int32) (v2 : Int32) (v3 : Int32) (S : St) (w : WT (kDn K) S.2.2) : JX K (Zm K (fun _ : Unit => none)) 0 [some (.ref v0), some (.int v1), some (.int v2), some (.int v3), none] [] (rwN (kN K) S) (kn K) 0 0 (f_X3_seek v0 v1 v2 v3 S) := by
  unfold f_X3_seek
  refine J_aload_n X dX3_seek_0 (i := 0) rfl rfl ?_
  refine J_iconst X (v := (0 : Int32)) dX3_seek_1 (by decide) ?_
  refine T_putI X (kf := 4) cb3 kv0 (by decide) fl_X3_55 (fun _ _ _ => rfl) rfl rfl rfl dX3_seek_2 (fun S1 hS1 => ?_)
  have wS1 : WT (kDn K) S1.2.2 := by rw [hS1]; exact w
  clear hS1
  refine J_aload_n X dX3_seek_5 (i := 0) rfl rfl ?_
  refine J_iconst X (v := (0 : Int32)) dX3_seek_6 (by decide) ?_
  refine T_putI X (kf := 5) cb3 kv0 (by decide) fl_X3_58 (fun _ _ _ => rfl) rfl rfl rfl dX3_seek_7 (fun S2 hS2 => ?_)
  have wS2 : WT (kDn K) S2.2.2 := by rw [hS2]; exact wS1
  clear hS2
  refine J_iload_n X dX3_seek_10 (i := 3) rfl rfl ?_
  refine J_istore X (ls' := [some (.ref v0), some (.int v1), some (.int v2), some (.int v3), some (.int v3)]) dX3_seek_11 (by decide) rfl ?_
  refine J_mask [true, true, true, false, true] ?_
  exact t_X3_seek_13 X hR FU v0 kv0 v1 v2 v3 S2 wS2
theorem C_X3_seek (G : GG) (v0 : Nat) (kv0 : KA (gD G) v0 (0, 3)) (v1 : Int32) (v2 : Int32) (v3 : Int32) (S : St) : CM G yX3_seek cX3_seek 5 none 1 [.ref v0, .int v1, .int v2, .int v3] S (fun _ : Unit => none) (f_X3_seek v0 v1 v2 v3 S) :=
  CM_of (by decide) (Nat.le_of_ble_eq_true rfl) rfl (fun K hG X hR w => by subst hG; exact t_X3_seek_0 X hR v0 kv0 v1 v2 v3 S w)
-- ==== X6_behindBlanks
theorem hy_X6_behindBlanks : yX6_behindBlanks.cls ≠ "java/lang/invoke/MethodHandle" ∧ yX6_behindBlanks.cls ≠ "java/lang/invoke/VarHandle" ∧ (parseMethodDescriptor yX6_behindBlanks.desc).map (fun d => d.parameters.length) = some 1 := by decide +kernel
set_option maxRecDepth 20000 in
def b_X6_behindBlanks_54 (q2 : Nat → Int32 → St → Option (Int32 × St)) (v0 : Nat) (v2 : Int32) (S : St) : Option (Int32 × St) := nm (v2 + (1 : Int32)) fun x1 => q2 v0 x1 S
set_option maxRecDepth 20000 in
theorem t_X6_behindBlanks_54 {K : KK} (X : CX K cX6_behindBlanks 3 RX6 (some .int)) (hR : kR K = rmD 0) {q2 : Nat → Int32 → St → Option (Int32 × St)} (hq2 : ∀ (v0 : Nat) (kv0 : KA (kDn K) v0 (0, 6)) (v2 : Int32) (S : St), WT (kDn K) S.2.2 → JX K (Zm K (fun v : Int32 => some (.int v))) 2 [some (.ref v0), none, some (.int v2)] [] (rwN (kN K) S) (kn K) 0 0 (q2 v0 v2 S)) (v0 : Nat) (kv0 : KA (kDn K) v0 (0, 6)) (v2 : Int32) (S : St) (w : WT (kDn K) S.2.2) : JX K (Zm K (fun v : Int32 => some (.int v))) 54 [some (.ref v0), none, some (.int v2)] [] (rwN (kN K) S) (kn K) 0 0 (b_X6_behindBlanks_54 q2 v0 v2 S) := by
  unfold b_X6_behindBlanks_54
  refine J_nmv (v2 + (1 : Int32)) (fun x1 ex1 => ?_)
  refine J_iinc X (v := x1) (ls' := [some (.ref v0), none, some (.int x1)]) dX6_behindBlanks_54 (by decide) rfl (by rw [ex1]; rfl) rfl ?_
  refine J_goto X (tgt := 2) dX6_behindBlanks_57 (by decide) ?_
  exact hq2 v0 kv0 x1 S w
set_option maxRecDepth 20000 in
def b_X6_behindBlanks_2 : Nat → Nat → Int32 → St → Option (Int32 × St)
  | 0, _, _, _ => none
  | fu + 1, v0, v2, S => if (S.1 v0 4) ≤ v2 then (some (v2, S)) else ((ix v2 2000).bind fun j1 => if (S.1 (S.2.2 v0 3) j1) = (32 : Int32) then (b_X6_behindBlanks_54 (b_X6_behindBlanks_2 fu) v0 v2 S) else ((ix v2 2000).bind fun j2 => if (S.1 (S.2.2 v0 3) j2) = (9 : Int32) then (b_X6_behindBlanks_54 (b_X6_behindBlanks_2 fu) v0 v2 S) else ((ix v2 2000).bind fun j3 => if (S.1 (S.2.2 v0 3) j3) = (10 : Int32) then (b_X6_behindBlanks_54 (b_X6_behindBlanks_2 fu) v0 v2 S) else ((ix v2 2000).bind fun j4 => if (S.1 (S.2.2 v0 3) j4) = (13 : Int32) then (b_X6_behindBlanks_54 (b_X6_behindBlanks_2 fu) v0 v2 S) else (some (v2, S))))))
set_option maxRecDepth 20000 in
theorem t_X6_behindBlanks_2 {K : KK} (X : CX K cX6_behindBlanks 3 RX6 (some .int)) (hR : kR K = rmD 0) : ∀ (fu : Nat) (v0 : Nat) (kv0 : KA (kDn K) v0 (0, 6)) (v2 : Int32) (S : St), WT (kDn K) S.2.2 → JX K (Zm K (fun v : Int32 => some (.int v))) 2 [some (.ref v0), none, some (.int v2)] [] (rwN (kN K) S) (kn K) 0 0 (b_X6_behindBlanks_2 fu v0 v2 S) := by
  intro fu
  induction fu with
  | zero => intro v0 kv0 v2 S w; exact J_none
  | succ fu ih =>
    intro v0 kv0 v2 S w
    rw [b_X6_behindBlanks_2]
    refine J_iload_n X dX6_behindBlanks_2 (i := 2) rfl rfl ?_
    refine J_aload_n X dX6_behindBlanks_3 (i := 0) rfl rfl ?_
    refine T_getI X (kf := 4) cb6 kv0 (by decide) fl_X6_32 (fun _ _ _ => rfl) dX6_behindBlanks_4 ?_
    refine J_icmp_ge X (tgt := 60) dX6_behindBlanks_7 (by decide) ?_ ?_
    · refine J_iload_n X dX6_behindBlanks_60 (i := 2) rfl rfl ?_
      exact T_iret w X dX6_behindBlanks_61
    · refine J_aload_n X dX6_behindBlanks_10 (i := 0) rfl rfl ?_
      refine T_getR X (kf := 3) cb6 kv0 (by decide) fl_X6_9 (fun _ _ _ => rfl) dX6_behindBlanks_11 ?_
      refine J_iload_n X dX6_behindBlanks_14 (i := 2) rfl rfl ?_
      refine T_bald X (w.1 _ _ kv0 3 _ rfl) dX6_behindBlanks_15 (fun j1 => ?_)
      refine J_bipush X (v := (32 : Int32)) dX6_behindBlanks_16 (by decide) ?_
      refine J_icmp_eq X (tgt := 54) dX6_behindBlanks_18 (by decide) ?_ ?_
      · exact t_X6_behindBlanks_54 X hR ih v0 kv0 v2 S w
      · refine J_aload_n X dX6_behindBlanks_21 (i := 0) rfl rfl ?_
        refine T_getR X (kf := 3) cb6 kv0 (by decide) fl_X6_9 (fun _ _ _ => rfl) dX6_behindBlanks_22 ?_
        refine J_iload_n X dX6_behindBlanks_25 (i := 2) rfl rfl ?_
        refine T_bald X (w.1 _ _ kv0 3 _ rfl) dX6_behindBlanks_26 (fun j2 => ?_)
        refine J_bipush X (v := (9 : Int32)) dX6_behindBlanks_27 (by decide) ?_
        refine J_icmp_eq X (tgt := 54) dX6_behindBlanks_29 (by decide) ?_ ?_
        · exact t_X6_behindBlanks_54 X hR ih v0 kv0 v2 S w
        · refine J_aload_n X dX6_behindBlanks_32 (i := 0) rfl rfl ?_
          refine T_getR X (kf := 3) cb6 kv0 (by decide) fl_X6_9 (fun _ _ _ => rfl) dX6_behindBlanks_33 ?_
          refine J_iload_n X dX6_behindBlanks_36 (i := 2) rfl rfl ?_
          refine T_bald X (w.1 _ _ kv0 3 _ rfl) dX6_behindBlanks_37 (fun j3 => ?_)
          refine J_bipush X (v := (10 : Int32)) dX6_behindBlanks_38 (by decide) ?_
          refine J_icmp_eq X (tgt := 54) dX6_behindBlanks_40 (by decide) ?_ ?_
          · exact t_X6_behindBlanks_54 X hR ih v0 kv0 v2 S w
          · refine J_aload_n X dX6_behindBlanks_43 (i := 0) rfl rfl ?_
            refine T_getR X (kf := 3) cb6 kv0 (by decide) fl_X6_9 (fun _ _ _ => rfl) dX6_behindBlanks_44 ?_
            refine J_iload_n X dX6_behindBlanks_47 (i := 2) rfl rfl ?_
            refine T_bald X (w.1 _ _ kv0 3 _ rfl) dX6_behindBlanks_48 (fun j4 => ?_)
            refine J_bipush X (v := (13 : Int32)) dX6_behindBlanks_49 (by decide) ?_
            refine J_icmp_ne X (tgt := 60) dX6_behindBlanks_51 (by decide) ?_ ?_
            · exact t_X6_behindBlanks_54 X hR ih v0 kv0 v2 S w
            · refine J_iload_n X dX6_behindBlanks_60 (i := 2) rfl rfl ?_
              exact T_iret w X dX6_behindBlanks_61
set_option maxRecDepth 20000 in
def f_X6_behindBlanks (v0 : Nat) (v1 : Int32) (S : St) : Option (Int32 × St) := b_X6_behindBlanks_2 FU v0 v1 S
set_option maxRecDepth 20000 in
theorem t_X6_behindBlanks_0 {K : KK} (X : CX K cX6_behindBlanks 3 RX6 (some .int)) (hR : kR K = rmD 0) (v0 : Nat) (kv0 : KA (kDn K) v0 (0, 6)) (v1 : Int32) (S : St) (w : WT (kDn K) S.2.2) : JX K (Zm K (fun v : Int32 => some (.int v))) 0 [some (.ref v0), some (.int v1), none] [] (rwN (kN K) S) (kn K) 0 0 (f_X6_behindBlanks v0 v1 S) := by
  unfold f_X6_behindBlanks
  refine J_iload_n X dX6_behindBlanks_0 (i := 1) rfl rfl ?_
  refine J_istore_n X (i := 2) (ls' := [some (.ref v0), some (.int v1), some (.int v1)]) dX6_behindBlanks_1 rfl (by decide) rfl ?_
  refine J_mask [true, false, true] ?_
  exact t_X6_behindBlanks_2 X hR FU v0 kv0 v1 S w
theorem C_X6_behindBlanks (G : GG) (v0 : Nat) (kv0 : KA (gD G) v0 (0, 6)) (v1 : Int32) (S : St) : CM G yX6_behindBlanks cX6_behindBlanks 3 (some .int) 0 [.ref v0, .int v1] S (fun v : Int32 => some (.int v)) (f_X6_behindBlanks v0 v1 S) :=
  CM_of (by decide) (Nat.le_of_ble_eq_true rfl) rfl (fun K hG X hR w => by subst hG; exact t_X6_behindBlanks_0 X hR v0 kv0 v1 S w)
-- ==== X6_isLetter
theorem hy_X6_isLetter : yX6_isLetter.cls ≠ "java/lang/invoke/MethodHandle" ∧ yX6_isLetter.cls ≠ "java/lang/invoke/VarHandle" ∧ (parseMethodDescriptor yX6_isLetter.desc).map (fun d => d.parameters.length) = some 1 := by decide +kernel
set_option maxRecDepth 20000 in
def f_X6_isLetter (v0 : Nat) (v1 : Int32) (S : St) : Option (Int32 × St) := (ix v1 2000).bind fun j1 => if (S.1 (S.2.2 v0 3) j1) < (97 : Int32) then (some ((0 : Int32), S)) else ((ix v1 2000).bind fun j2 => if (122 : Int32) < (S.1 (S.2.2 v0 3) j2) then (some ((0 : Int32), S)) else (some ((1 : Int32), S)))
set_option maxRecDepth 20000 in
theorem t_X6_isLetter_0 {K : KK} (X : CX K cX6_isLetter 2 RX6 (some .boolean)) (hR : kR K = rmD 0) (v0 : Nat) (kv0 : KA (kDn K) v0 (0, 6)) (v1 : Int32) (S : St) (w : WT (kDn K) S.2.2) : JX K (Zm K (fun v : Int32 => some (.int v))) 0 [some (.ref v0), some (.int v1)] [] (rwN (kN K) S) (kn K) 0 0 (f_X6_isLetter v0 v1 S) := by
  unfold f_X6_isLetter
  refine J_aload_n X dX6_isLetter_0 (i := 0) rfl rfl ?_
  refine T_getR X (kf := 3) cb6 kv0 (by decide) fl_X6_9 (fun _ _ _ => rfl) dX6_isLetter_1 ?_
  refine J_iload_n X dX6_isLetter_4 (i := 1) rfl rfl ?_
  refine T_bald X (w.1 _ _ kv0 3 _ rfl) dX6_isLetter_5 (fun j1 => ?_)
  refine J_bipush X (v := (97 : Int32)) dX6_isLetter_6 (by decide) ?_
  refine J_icmp_lt X (tgt := 26) dX6_isLetter_8 (by decide) ?_ ?_
  · refine J_iconst X (v := (0 : Int32)) dX6_isLetter_26 (by decide) ?_
    exact T_zret w X (by decide) dX6_isLetter_27
  · refine J_aload_n X dX6_isLetter_11 (i := 0) rfl rfl ?_
    refine T_getR X (kf := 3) cb6 kv0 (by decide) fl_X6_9 (fun _ _ _ => rfl) dX6_isLetter_12 ?_
    refine J_iload_n X dX6_isLetter_15 (i := 1) rfl rfl ?_
    refine T_bald X (w.1 _ _ kv0 3 _ rfl) dX6_isLetter_16 (fun j2 => ?_)
    refine J_bipush X (v := (122 : Int32)) dX6_isLetter_17 (by decide) ?_
    refine J_icmp_gt X (tgt := 26) dX6_isLetter_19 (by decide) ?_ ?_
    · refine J_iconst X (v := (0 : Int32)) dX6_isLetter_26 (by decide) ?_
      exact T_zret w X (by decide) dX6_isLetter_27
    · refine J_iconst X (v := (1 : Int32)) dX6_isLetter_22 (by decide) ?_
      refine J_goto X (tgt := 27) dX6_isLetter_23 (by decide) ?_
      exact T_zret w X (by decide) dX6_isLetter_27
theorem C_X6_isLetter (G : GG) (v0 : Nat) (kv0 : KA (gD G) v0 (0, 6)) (v1 : Int32) (S : St) : CM G yX6_isLetter cX6_isLetter 2 (some .boolean) 0 [.ref v0, .int v1] S (fun v : Int32 => some (.int v)) (f_X6_isLetter v0 v1 S) :=
  CM_of (by decide) (Nat.le_of_ble_eq_true rfl) rfl (fun K hG X hR w => by subst hG; exact t_X6_isLetter_0 X hR v0 kv0 v1 S w)
-- ==== J0_coder_7d493
theorem hy_J0_coder_7d493 : yJ0_coder_7d493.cls ≠ "java/lang/invoke/MethodHandle" ∧ yJ0_coder_7d493.cls ≠ "java/lang/invoke/VarHandle" ∧ (parseMethodDescriptor yJ0_coder_7d493.desc).map (fun d => d.parameters.length) = some 0 := by decide +kernel
set_option maxRecDepth 20000 in
def f_J0_coder_7d493 (v0 : Nat) (S : St) : Option (Int32 × St) := if (1 : Int32) = 0 then ((gq .byte (1 : Int32)).bind fun v => some (v, S)) else ((gq .byte (0 : Int32)).bind fun v => some (v, S))
set_option maxRecDepth 20000 in
theorem t_J0_coder_7d493_0 {K : KK} (X : CX K cJ0_coder_7d493 1 RJ0 (some .byte)) (hR : kR K = rmD 0) (v0 : Nat) (kv0 : v0 < 2) (S : St) (w : WT (kDn K) S.2.2) : JX K (Zm K (fun v : Int32 => some (.int v))) 0 [some (.retAddr v0)] [] (rwN (kN K) S) (kn K) 0 0 (f_J0_coder_7d493 v0 S) := by
  unfold f_J0_coder_7d493
  refine Z_gets X fl_J0_38 dJ0_coder_7d493_0 ?_
  refine J_if_eq X (tgt := 13) dJ0_coder_7d493_3 (by decide) ?_ ?_
  · refine J_iconst X (v := (1 : Int32)) dJ0_coder_7d493_13 (by decide) ?_
    exact T_nret w X dJ0_coder_7d493_14
  · refine Z_aload_n X dJ0_coder_7d493_6 (i := 0) rfl rfl ?_
    refine Z_getC X kv0 fl_J0_15 dJ0_coder_7d493_7 ?_
    refine J_goto X (tgt := 14) dJ0_coder_7d493_10 (by decide) ?_
    exact T_nret w X dJ0_coder_7d493_14
theorem C_J0_coder_7d493 (G : GG) (v0 : Nat) (kv0 : v0 < 2) (S : St) : CM G yJ0_coder_7d493 cJ0_coder_7d493 1 (some .byte) 0 [.retAddr v0] S (fun v : Int32 => some (.int v)) (f_J0_coder_7d493 v0 S) :=
  CM_of (by decide) (Nat.le_of_ble_eq_true rfl) rfl (fun K hG X hR w => by subst hG; exact t_J0_coder_7d493_0 X hR v0 kv0 S w)
-- ==== J0_length_8abf5
theorem hy_J0_length_8abf5 : yJ0_length_8abf5.cls ≠ "java/lang/invoke/MethodHandle" ∧ yJ0_length_8abf5.cls ≠ "java/lang/invoke/VarHandle" ∧ (parseMethodDescriptor yJ0_length_8abf5.desc).map (fun d => d.parameters.length) = some 0 := by decide +kernel
set_option maxRecDepth 20000 in
def f_J0_length_8abf5 (v0 : Nat) (S : St) : Option (Int32 × St) := bd (f_J0_coder_7d493 v0 S) fun r2 S1 => some ((Int32.ofNat (sl v0)) >>> (r2 &&& 31), S1)
set_option maxRecDepth 20000 in
theorem t_J0_length_8abf5_0 {K : KK} (X : CX K cJ0_length_8abf5 1 RJ0 (some .int)) (hR : kR K = rmD 1) (v0 : Nat) (kv0 : v0 < 2) (S : St) (w : WT (kDn K) S.2.2) : JX K (Zm K (fun v : Int32 => some (.int v))) 0 [some (.retAddr v0)] [] (rwN (kN K) S) (kn K) 0 0 (f_J0_length_8abf5 v0 S) := by
  unfold f_J0_length_8abf5
  refine Z_aload_n X dJ0_length_8abf5_0 (i := 0) rfl rfl ?_
  refine Z_getV X kv0 fl_J0_9 dJ0_length_8abf5_1 ?_
  refine Z_alen X kv0 dJ0_length_8abf5_4 ?_
  refine Z_aload_n X dJ0_length_8abf5_5 (i := 0) rfl rfl ?_
  refine T_callZ (As := []) w X (C_J0_coder_7d493 (kG K) v0 kv0 S) rfl kv0 ml_J0_335 in_yJ0_coder_7d493 se_yJ0_coder_7d493 ii_RJ0 co_yJ0_coder_7d493 hy_J0_coder_7d493 (hRd hR (by decide) (by decide)) rfl (Nat.le_of_ble_eq_true rfl) dJ0_length_8abf5_6 (fun r2 S1 _ wS1 => ?_)
  refine J_ishr X dJ0_length_8abf5_9 ?_
  exact T_iret wS1 X dJ0_length_8abf5_10
theorem C_J0_length_8abf5 (G : GG) (v0 : Nat) (kv0 : v0 < 2) (S : St) : CM G yJ0_length_8abf5 cJ0_length_8abf5 1 (some .int) 1 [.retAddr v0] S (fun v : Int32 => some (.int v)) (f_J0_length_8abf5 v0 S) :=
  CM_of (by decide) (Nat.le_of_ble_eq_true rfl) rfl (fun K hG X hR w => by subst hG; exact t_J0_length_8abf5_0 X hR v0 kv0 S w)
-- ==== J0_isLatin1_aae02
theorem hy_J0_isLatin1_aae02 : yJ0_isLatin1_aae02.cls ≠ "java/lang/invoke/MethodHandle" ∧ yJ0_isLatin1_aae02.cls ≠ "java/lang/invoke/VarHandle" ∧ (parseMethodDescriptor yJ0_isLatin1_aae02.desc).map (fun d => d.parameters.length) = some 0 := by decide +kernel
set_option maxRecDepth 20000 in
def f_J0_isLatin1_aae02 (v0 : Nat) (S : St) : Option (Int32 × St) := if (1 : Int32) = 0 then (some ((0 : Int32), S)) else (if (0 : Int32) = 0 then (some ((1 : Int32), S)) else (some ((0 : Int32), S)))
set_option maxRecDepth 20000 in
theorem t_J0_isLatin1_aae02_0 {K : KK} (X : CX K cJ0_isLatin1_aae02 1 RJ0 (some .boolean)) (hR : kR K = rmD 0) (v0 : Nat) (kv0 : v0 < 2) (S : St) (w : WT (kDn K) S.2.2) : JX K (Zm K (fun v : Int32 => some (.int v))) 0 [some (.retAddr v0)] [] (rwN (kN K) S) (kn K) 0 0 (f_J0_isLatin1_aae02 v0 S) := by
  unfold f_J0_isLatin1_aae02
  refine Z_gets X fl_J0_38 dJ0_isLatin1_aae02_0 ?_
  refine J_if_eq X (tgt := 17) dJ0_isLatin1_aae02_3 (by decide) ?_ ?_
  · refine J_iconst X (v := (0 : Int32)) dJ0_isLatin1_aae02_17 (by decide) ?_
    exact T_zret w X (by decide) dJ0_isLatin1_aae02_18
  · refine Z_aload_n X dJ0_isLatin1_aae02_6 (i := 0) rfl rfl ?_
    refine Z_getC X kv0 fl_J0_15 dJ0_isLatin1_aae02_7 ?_
    refine J_if_ne X (tgt := 17) dJ0_isLatin1_aae02_10 (by decide) ?_ ?_
    · refine J_iconst X (v := (1 : Int32)) dJ0_isLatin1_aae02_13 (by decide) ?_
      refine J_goto X (tgt := 18) dJ0_isLatin1_aae02_14 (by decide) ?_
      exact T_zret w X (by decide) dJ0_isLatin1_aae02_18
    · refine J_iconst X (v := (0 : Int32)) dJ0_isLatin1_aae02_17 (by decide) ?_
      exact T_zret w X (by decide) dJ0_isLatin1_aae02_18
theorem C_J0_isLatin1_aae02 (G : GG) (v0 : Nat) (kv0 : v0 < 2) (S : St) : CM G yJ0_isLatin1_aae02 cJ0_isLatin1_aae02 1 (some .boolean) 0 [.retAddr v0] S (fun v : Int32 => some (.int v)) (f_J0_isLatin1_aae02 v0 S) :=
  CM_of (by decide) (Nat.le_of_ble_eq_true rfl) rfl (fun K hG X hR w => by subst hG; exact t_J0_isLatin1_aae02_0 X hR v0 kv0 S w)
-- ==== J3_checkIndex_8e157
theorem hy_J3_checkIndex_8e157 : yJ3_checkIndex_8e157.cls ≠ "java/lang/invoke/MethodHandle" ∧ yJ3_checkIndex_8e157.cls ≠ "java/lang/invoke/VarHandle" ∧ (parseMethodDescriptor yJ3_checkIndex_8e157.desc).map (fun d => d.parameters.length) = some 3 := by decide +kernel
set_option maxRecDepth 20000 in
def f_J3_checkIndex_8e157 (v0 : Int32) (v1 : Int32) (S : St) : Option (Int32 × St) := if v0 < 0 then (none) else (if v0 < v1 then (some (v0, S)) else (none))
set_option maxRecDepth 20000 in
theorem t_J3_checkIndex_8e157_0 {K : KK} (X : CX K cJ3_checkIndex_8e157 3 RJ3 (some .int)) (hR : kR K = rmD 0) (v0 : Int32) (v1 : Int32) (v2 : Value) (kv2 : v2.category = 1) (S : St) (w : WT (kDn K) S.2.2) : JX K (Zm K (fun v : Int32 => some (.int v))) 0 [some (.int v0), some (.int v1), some (v2)] [] (rwN (kN K) S) (kn K) 0 0 (f_J3_checkIndex_8e157 v0 v1 S) := by
  unfold f_J3_checkIndex_8e157
  refine J_iload_n X dJ3_checkIndex_8e157_0 (i := 0) rfl rfl ?_
  refine J_if_lt X (tgt := 9) dJ3_checkIndex_8e157_1 (by decide) ?_ ?_
  · exact J_none
  · refine J_iload_n X dJ3_checkIndex_8e157_4 (i := 0) rfl rfl ?_
    refine J_iload_n X dJ3_checkIndex_8e157_5 (i := 1) rfl rfl ?_
    refine J_icmp_lt X (tgt := 16) dJ3_checkIndex_8e157_6 (by decide) ?_ ?_
    · refine J_iload_n X dJ3_checkIndex_8e157_16 (i := 0) rfl rfl ?_
      exact T_iret w X dJ3_checkIndex_8e157_17
    · exact J_none
theorem C_J3_checkIndex_8e157 (G : GG) (v0 : Int32) (v1 : Int32) (v2 : Value) (kv2 : v2.category = 1) (S : St) : CM G yJ3_checkIndex_8e157 cJ3_checkIndex_8e157 3 (some .int) 0 [.int v0, .int v1, v2] S (fun v : Int32 => some (.int v)) (f_J3_checkIndex_8e157 v0 v1 S) :=
  CM_of (by decide) (by rw [enl_q kv2]; exact Nat.le_of_ble_eq_true rfl) (ls := [some (.int v0), some (.int v1), some v2]) (by unfold en; rw [enl_q kv2]; rfl) (fun K hG X hR w => by subst hG; exact t_J3_checkIndex_8e157_0 X hR v0 v1 v2 kv2 S w)
-- ==== J0_checkIndex_df160
theorem hy_J0_checkIndex_df160 : yJ0_checkIndex_df160.cls ≠ "java/lang/invoke/MethodHandle" ∧ yJ0_checkIndex_df160.cls ≠ "java/lang/invoke/VarHandle" ∧ (parseMethodDescriptor yJ0_checkIndex_df160.desc).map (fun d => d.parameters.length) = some 2 := by decide +kernel
set_option maxRecDepth 20000 in
def f_J0_checkIndex_df160 (v0 : Int32) (v1 : Int32) (S : St) : Option (Unit × St) := bd (f_J3_checkIndex_8e157 v0 v1 S) fun r2 S1 => some ((), S1)
set_option maxRecDepth 20000 in
theorem t_J0_checkIndex_df160_0 {K : KK} (X : CX K cJ0_checkIndex_df160 2 RJ0 none) (hR : kR K = rmD 1) (v0 : Int32) (v1 : Int32) (S : St) (w : WT (kDn K) S.2.2) : JX K (Zm K (fun _ : Unit => none)) 0 [some (.int v0), some (.int v1)] [] (rwN (kN K) S) (kn K) 0 0 (f_J0_checkIndex_df160 v0 v1 S) := by
  unfold f_J0_checkIndex_df160
  refine J_iload_n X dJ0_checkIndex_df160_0 (i := 0) rfl rfl ?_
  refine J_iload_n X dJ0_checkIndex_df160_1 (i := 1) rfl rfl ?_
  refine Z_getf X fl_J0_1053 dJ0_checkIndex_df160_2 ?_
  refine T_callS (As := [.int v0, .int v1, (zf (kK K))]) w X (C_J3_checkIndex_8e157 (kG K) v0 v1 (zf (kK K)) (zf_cat _) S) ml_J0_1059 st_yJ3_checkIndex_8e157 ii_RJ3 co_yJ3_checkIndex_8e157 hy_J3_checkIndex_8e157 (hRd hR (by decide) (by decide)) rfl (Nat.le_of_ble_eq_true rfl) dJ0_checkIndex_df160_5 (fun r2 S1 _ wS1 => ?_)
  refine J_pop X dJ0_checkIndex_df160_8 rfl ?_
  exact T_vret wS1 X dJ0_checkIndex_df160_9
theorem C_J0_checkIndex_df160 (G : GG) (v0 : Int32) (v1 : Int32) (S : St) : CM G yJ0_checkIndex_df160 cJ0_checkIndex_df160 2 none 1 [.int v0, .int v1] S (fun _ : Unit => none) (f_J0_checkIndex_df160 v0 v1 S) :=
  CM_of (by decide) (Nat.le_of_ble_eq_true rfl) rfl (fun K hG X hR w => by subst hG; exact t_J0_checkIndex_df160_0 X hR v0 v1 S w)
-- ==== J1_charAt_3b067
theorem hy_J1_charAt_3b067 : yJ1_charAt_3b067.cls ≠ "java/lang/invoke/MethodHandle" ∧ yJ1_charAt_3b067.cls ≠ "java/lang/invoke/VarHandle" ∧ (parseMethodDescriptor yJ1_charAt_3b067.desc).map (fun d => d.parameters.length) = some 2 := by decide +kernel
set_option maxRecDepth 20000 in
def f_J1_charAt_3b067 (v0 : Nat) (v1 : Int32) (S : St) : Option (Int32 × St) := bd (f_J0_checkIndex_df160 v1 (Int32.ofNat (sl v0)) S) fun _ S1 => (ix v1 (sl v0)).bind fun j3 => (gq .char ((((sc v0 j3) &&& (255 : Int32)).toUInt32 % 65536).toInt32)).bind fun v => some (v, S1)
set_option maxRecDepth 20000 in
theorem t_J1_charAt_3b067_0 {K : KK} (X : CX K cJ1_charAt_3b067 2 RJ1 (some .char)) (hR : kR K = rmD 2) (v0 : Nat) (kv0 : v0 < 2) (v1 : Int32) (S : St) (w : WT (kDn K) S.2.2) : JX K (Zm K (fun v : Int32 => some (.int v))) 0 [some (.retAddr (10 + v0)), some (.int v1)] [] (rwN (kN K) S) (kn K) 0 0 (f_J1_charAt_3b067 v0 v1 S) := by
  unfold f_J1_charAt_3b067
  refine J_iload_n X dJ1_charAt_3b067_0 (i := 1) rfl rfl ?_
  refine Z_aload_n X dJ1_charAt_3b067_1 (i := 0) rfl rfl ?_
  refine Z_alen X kv0 dJ1_charAt_3b067_2 ?_
  refine T_callS (As := [.int v1, .int (Int32.ofNat (sl v0))]) w X (C_J0_checkIndex_df160 (kG K) v1 (Int32.ofNat (sl v0)) S) ml_J1_9 st_yJ0_checkIndex_df160 ii_RJ0 co_yJ0_checkIndex_df160 hy_J0_checkIndex_df160 (hRd hR (by decide) (by decide)) rfl (Nat.le_of_ble_eq_true rfl) dJ1_charAt_3b067_3 (fun _ S1 _ wS1 => ?_)
  refine Z_aload_n X dJ1_charAt_3b067_6 (i := 0) rfl rfl ?_
  refine J_iload_n X dJ1_charAt_3b067_7 (i := 1) rfl rfl ?_
  refine Z_bald X kv0 dJ1_charAt_3b067_8 (fun j3 => ?_)
  refine J_sipush X (v := (255 : Int32)) dJ1_charAt_3b067_9 (by decide) ?_
  refine J_iand X dJ1_charAt_3b067_12 ?_
  refine J_i2c X dJ1_charAt_3b067_13 ?_
  exact T_nret wS1 X dJ1_charAt_3b067_14
theorem C_J1_charAt_3b067 (G : GG) (v0 : Nat) (kv0 : v0 < 2) (v1 : Int32) (S : St) : CM G yJ1_charAt_3b067 cJ1_charAt_3b067 2 (some .char) 2 [.retAddr (10 + v0), .int v1] S (fun v : Int32 => some (.int v)) (f_J1_charAt_3b067 v0 v1 S) :=
  CM_of (by decide) (Nat.le_of_ble_eq_true rfl) rfl (fun K hG X hR w => by subst hG; exact t_J1_charAt_3b067_0 X hR v0 kv0 v1 S w)
-- ==== J0_charAt_5068e
theorem hy_J0_charAt_5068e : yJ0_charAt_5068e.cls ≠ "java/lang/invoke/MethodHandle" ∧ yJ0_charAt_5068e.cls ≠ "java/lang/invoke/VarHandle" ∧ (parseMethodDescriptor yJ0_charAt_5068e.desc).map (fun d => d.parameters.length) = some 1 := by decide +kernel
set_option maxRecDepth 20000 in
def f_J0_charAt_5068e (v0 : Nat) (v1 : Int32) (S : St) : Option (Int32 × St) := bd (f_J0_isLatin1_aae02 v0 S) fun r2 S1 => if r2 = 0 then (none) else (bd (f_J1_charAt_3b067 v0 v1 S1) fun r4 S3 => (gq .char r4).bind fun v => some (v, S3))
set_option maxRecDepth 20000 in
theorem t_J0_charAt_5068e_0 {K : KK} (X : CX K cJ0_charAt_5068e 2 RJ0 (some .char)) (hR : kR K = rmD 3) (v0 : Nat) (kv0 : v0 < 2) (v1 : Int32) (S : St) (w : WT (kDn K) S.2.2) : JX K (Zm K (fun v : Int32 => some (.int v))) 0 [some (.retAddr v0), some (.int v1)] [] (rwN (kN K) S) (kn K) 0 0 (f_J0_charAt_5068e v0 v1 S) := by
  unfold f_J0_charAt_5068e
  refine Z_aload_n X dJ0_charAt_5068e_0 (i := 0) rfl rfl ?_
  refine T_callZ (As := []) w X (C_J0_isLatin1_aae02 (kG K) v0 kv0 S) rfl kv0 ml_J0_492 in_yJ0_isLatin1_aae02 se_yJ0_isLatin1_aae02 ii_RJ0 co_yJ0_isLatin1_aae02 hy_J0_isLatin1_aae02 (hRd hR (by decide) (by decide)) rfl (Nat.le_of_ble_eq_true rfl) dJ0_charAt_5068e_1 (fun r2 S1 _ wS1 => ?_)
  refine J_if_eq X (tgt := 16) dJ0_charAt_5068e_4 (by decide) ?_ ?_
  · exact J_none
  · refine Z_aload_n X dJ0_charAt_5068e_7 (i := 0) rfl rfl ?_
    refine Z_getV X kv0 fl_J0_9 dJ0_charAt_5068e_8 ?_
    refine J_iload_n X dJ0_charAt_5068e_11 (i := 1) rfl rfl ?_
    refine T_callS (As := [.retAddr (10 + v0), .int v1]) wS1 X (C_J1_charAt_3b067 (kG K) v0 kv0 v1 S1) ml_J0_495 st_yJ1_charAt_3b067 ii_RJ1 co_yJ1_charAt_3b067 hy_J1_charAt_3b067 (hRd hR (by decide) (by decide)) rfl (Nat.le_of_ble_eq_true rfl) dJ0_charAt_5068e_12 (fun r4 S3 _ wS3 => ?_)
    exact T_nret wS3 X dJ0_charAt_5068e_15
theorem C_J0_charAt_5068e (G : GG) (v0 : Nat) (kv0 : v0 < 2) (v1 : Int32) (S : St) : CM G yJ0_charAt_5068e cJ0_charAt_5068e 2 (some .char) 3 [.retAddr v0, .int v1] S (fun v : Int32 => some (.int v)) (f_J0_charAt_5068e v0 v1 S) :=
  CM_of (by decide) (Nat.le_of_ble_eq_true rfl) rfl (fun K hG X hR w => by subst hG; exact t_J0_charAt_5068e_0 X hR v0 kv0 v1 S w)
-- ==== X6_wordOf
theorem hy_X6_wordOf : yX6_wordOf.cls ≠ "java/lang/invoke/MethodHandle" ∧ yX6_wordOf.cls ≠ "java/lang/invoke/VarHandle" ∧ (parseMethodDescriptor yX6_wordOf.desc).map (fun d => d.parameters.length) = some 1 := by decide +kernel
set_option maxRecDepth 20000 in
def b_X6_wordOf_65 (q7 : Int64 → Int32 → Int64 → Int32 → St → Option (Int32 × St)) (v0 : Int64) (v2 : Int32) (v3 : Int64) (v5 : Int32) (S : St) : Option (Int32 × St) := nm (v5 + (1 : Int32)) fun x1 => q7 v0 v2 v3 x1 S
set_option maxRecDepth 20000 in
theorem t_X6_wordOf_65 {K : KK} (X : CX K cX6_wordOf 6 RX6 (some .int)) (hR : kR K = rmD 4) {q7 : Int64 → Int32 → Int64 → Int32 → St → Option (Int32 × St)} (hq7 : ∀ (v0 : Int64) (v2 : Int32) (v3 : Int64) (v5 : Int32) (S : St), WT (kDn K) S.2.2 → JX K (Zm K (fun v : Int32 => some (.int v))) 7 [some (.long v0), none, some (.int v2), some (.long v3), none, some (.int v5)] [] (rwN (kN K) S) (kn K) 0 0 (q7 v0 v2 v3 v5 S)) (v0 : Int64) (v2 : Int32) (v3 : Int64) (v5 : Int32) (S : St) (w : WT (kDn K) S.2.2) : JX K (Zm K (fun v : Int32 => some (.int v))) 65 [some (.long v0), none, some (.int v2), some (.long v3), none, some (.int v5)] [] (rwN (kN K) S) (kn K) 0 0 (b_X6_wordOf_65 q7 v0 v2 v3 v5 S) := by
  unfold b_X6_wordOf_65
  refine J_nmv (v5 + (1 : Int32)) (fun x1 ex1 => ?_)
  refine J_iinc X (v := x1) (ls' := [some (.long v0), none, some (.int v2), some (.long v3), none, some (.int x1)]) dX6_wordOf_65 (by decide) rfl (by rw [ex1]; rfl) rfl ?_
  refine J_goto X (tgt := 7) dX6_wordOf_68 (by decide) ?_
  exact hq7 v0 v2 v3 x1 S w
set_option maxRecDepth 20000 in
def b_X6_wordOf_7 : Nat → Int64 → Int32 → Int64 → Int32 → St → Option (Int32 × St)
  | 0, _, _, _, _, _ => none
  | fu + 1, v0, v2, v3, v5, S => bd (f_J0_length_8abf5 0 S) fun r2 S1 => if r2 ≤ v5 then (some ((21 : Int32), S1)) else (bd (f_J0_charAt_5068e 0 v5 S1) fun r4 S3 => if r4 = (32 : Int32) then (if (lg_cmp v3 v0) = 0 then (some (v2, S3)) else (nm (v2 + (1 : Int32)) fun x5 => b_X6_wordOf_65 (b_X6_wordOf_7 fu) v0 x5 (0 : Int64) v5 S3)) else (bd (f_J0_charAt_5068e 0 v5 S3) fun r7 S6 => nm ((v3 * (32 : Int64)) + (((r7 - (97 : Int32)) + (1 : Int32)).toInt64)) fun x8 => b_X6_wordOf_65 (b_X6_wordOf_7 fu) v0 v2 x8 v5 S6))
set_option maxRecDepth 20000 in
theorem t_X6_wordOf_7 {K : KK} (X : CX K cX6_wordOf 6 RX6 (some .int)) (hR : kR K = rmD 4) : ∀ (fu : Nat) (v0 : Int64) (v2 : Int32) (v3 : Int64) (v5 : Int32) (S : St), WT (kDn K) S.2.2 → JX K (Zm K (fun v : Int32 => some (.int v))) 7 [some (.long v0), none, some (.int v2), some (.long v3), none, some (.int v5)] [] (rwN (kN K) S) (kn K) 0 0 (b_X6_wordOf_7 fu v0 v2 v3 v5 S) := by
  intro fu
  induction fu with
  | zero => intro v0 v2 v3 v5 S w; exact J_none
  | succ fu ih =>
    intro v0 v2 v3 v5 S w
    rw [b_X6_wordOf_7]
    refine J_iload X dX6_wordOf_7 rfl ?_
    refine T_sldc0 X dX6_wordOf_9 ?_
    refine T_callZ (As := []) w X (C_J0_length_8abf5 (kG K) 0 (by decide) S) rfl (by decide) ml_X6_73 in_yJ0_length_8abf5 se_yJ0_length_8abf5 ii_RJ0 co_yJ0_length_8abf5 hy_J0_length_8abf5 (hRd hR (by decide) (by decide)) rfl (Nat.le_of_ble_eq_true rfl) dX6_wordOf_11 (fun r2 S1 _ wS1 => ?_)
    refine J_icmp_ge X (tgt := 71) dX6_wordOf_14 (by decide) ?_ ?_
    · refine J_bipush X (v := (21 : Int32)) dX6_wordOf_71 (by decide) ?_
      exact T_iret wS1 X dX6_wordOf_73
    · refine T_sldc0 X dX6_wordOf_17 ?_
      refine J_iload X dX6_wordOf_19 rfl ?_
      refine T_callZ (As := [.int v5]) wS1 X (C_J0_charAt_5068e (kG K) 0 (by decide) v5 S1) rfl (by decide) ml_X6_77 in_yJ0_charAt_5068e se_yJ0_charAt_5068e ii_RJ0 co_yJ0_charAt_5068e hy_J0_charAt_5068e (hRd hR (by decide) (by decide)) rfl (Nat.le_of_ble_eq_true rfl) dX6_wordOf_21 (fun r4 S3 _ wS3 => ?_)
      refine J_bipush X (v := (32 : Int32)) dX6_wordOf_24 (by decide) ?_
      refine J_icmp_eq X (tgt := 52) dX6_wordOf_26 (by decide) ?_ ?_
      · refine J_lload_n X dX6_wordOf_52 (i := 3) rfl rfl ?_
        refine J_lload_n X dX6_wordOf_53 (i := 0) rfl rfl ?_
        refine J_lcmp X dX6_wordOf_54 ?_
        refine J_if_ne X (tgt := 60) dX6_wordOf_55 (by decide) ?_ ?_
        · refine J_iload_n X dX6_wordOf_58 (i := 2) rfl rfl ?_
          exact T_iret wS3 X dX6_wordOf_59
        · refine J_nmv (v2 + (1 : Int32)) (fun x5 ex5 => ?_)
          refine J_iinc X (v := x5) (ls' := [some (.long v0), none, some (.int x5), some (.long v3), none, some (.int v5)]) dX6_wordOf_60 (by decide) rfl (by rw [ex5]; rfl) rfl ?_
          refine J_lconst X (v := (0 : Int64)) dX6_wordOf_63 (by decide) ?_
          refine J_lstore_n X (i := 3) (ls' := [some (.long v0), none, some (.int x5), some (.long (0 : Int64)), none, some (.int v5)]) dX6_wordOf_64 rfl (by decide) rfl rfl ?_
          exact t_X6_wordOf_65 X hR ih v0 x5 (0 : Int64) v5 S3 wS3
      · refine J_lload_n X dX6_wordOf_29 (i := 3) rfl rfl ?_
        refine J_ldc2 X kl_X6_63 dX6_wordOf_30 ?_
        refine J_lmul X dX6_wordOf_33 ?_
        refine T_sldc0 X dX6_wordOf_34 ?_
        refine J_iload X dX6_wordOf_36 rfl ?_
        refine T_callZ (As := [.int v5]) wS3 X (C_J0_charAt_5068e (kG K) 0 (by decide) v5 S3) rfl (by decide) ml_X6_77 in_yJ0_charAt_5068e se_yJ0_charAt_5068e ii_RJ0 co_yJ0_charAt_5068e hy_J0_charAt_5068e (hRd hR (by decide) (by decide)) rfl (Nat.le_of_ble_eq_true rfl) dX6_wordOf_38 (fun r7 S6 _ wS6 => ?_)
        refine J_bipush X (v := (97 : Int32)) dX6_wordOf_41 (by decide) ?_
        refine J_isub X dX6_wordOf_43 ?_
        refine J_iconst X (v := (1 : Int32)) dX6_wordOf_44 (by decide) ?_
        refine J_iadd X dX6_wordOf_45 ?_
        refine J_i2l X dX6_wordOf_46 ?_
        refine J_ladd X dX6_wordOf_47 ?_
        refine J_nml (fun x8 => ?_)
        refine J_lstore_n X (i := 3) (ls' := [some (.long v0), none, some (.int v2), some (.long x8), none, some (.int v5)]) dX6_wordOf_48 rfl (by decide) rfl rfl ?_
        refine J_goto X (tgt := 65) dX6_wordOf_49 (by decide) ?_
        exact t_X6_wordOf_65 X hR ih v0 v2 x8 v5 S6 wS6
set_option maxRecDepth 20000 in
def f_X6_wordOf (v0 : Int64) (S : St) : Option (Int32 × St) := b_X6_wordOf_7 FU v0 (0 : Int32) (0 : Int64) (0 : Int32) S
set_option maxRecDepth 20000 in
theorem t_X6_wordOf_0 {K : KK} (X : CX K cX6_wordOf 6 RX6 (some .int)) (hR : kR K = rmD 4) (v0 : Int64) (S : St) (w : WT (kDn K) S.2.2) : JX K (Zm K (fun v : Int32 => some (.int v))) 0 [some (.long v0), none, none, none, none, none] [] (rwN (kN K) S) (kn K) 0 0 (f_X6_wordOf v0 S) := by
  unfold f_X6_wordOf
  refine J_iconst X (v := (0 : Int32)) dX6_wordOf_0 (by decide) ?_
  refine J_istore_n X (i := 2) (ls' := [some (.long v0), none, some (.int (0 : Int32)), none, none, none]) dX6_wordOf_1 rfl (by decide) rfl ?_
  refine J_lconst X (v := (0 : Int64)) dX6_wordOf_2 (by decide) ?_
  refine J_lstore_n X (i := 3) (ls' := [some (.long v0), none, some (.int (0 : Int32)), some (.long (0 : Int64)), none, none]) dX6_wordOf_3 rfl (by decide) rfl rfl ?_
  refine J_iconst X (v := (0 : Int32)) dX6_wordOf_4 (by decide) ?_
  refine J_istore X (ls' := [some (.long v0), none, some (.int (0 : Int32)), some (.long (0 : Int64)), none, some (.int (0 : Int32))]) dX6_wordOf_5 (by decide) rfl ?_
  exact t_X6_wordOf_7 X hR FU v0 (0 : Int32) (0 : Int64) (0 : Int32) S w
theorem C_X6_wordOf (G : GG) (v0 : Int64) (S : St) : CM G yX6_wordOf cX6_wordOf 6 (some .int) 4 [.long v0] S (fun v : Int32 => some (.int v)) (f_X6_wordOf v0 S) :=
  CM_of (by decide) (Nat.le_of_ble_eq_true rfl) rfl (fun K hG X hR w => by subst hG; exact t_X6_wordOf_0 X hR v0 S w)
-- ==== X6_takeLetters
theorem hy_X6_takeLetters : yX6_takeLetters.cls ≠ "java/lang/invoke/MethodHandle" ∧ yX6_takeLetters.cls ≠ "java/lang/invoke/VarHandle" ∧ (parseMethodDescriptor yX6_takeLetters.desc).map (fun d => d.parameters.length) = some 2 := by decide +kernel
set_option maxRecDepth 20000 in
def b_X6_takeLetters_79 (v3 : Int32) (s0 : Nat) (s1 : Int32) (s2 : Int32) (S : St) : Option (Int32 × St) := (ix s1 401).bind fun j1 => nm (sI S s0 j1 s2) fun S2 => some (v3, S2)
set_option maxRecDepth 20000 in
theorem t_X6_takeLetters_79 {K : KK} (X : CX K cX6_takeLetters 6 RX6 (some .int)) (hR : kR K = rmD 5) (v3 : Int32) (s0 : Nat) (ks0 : KA (kDn K) s0 (1, 401)) (s1 : Int32) (s2 : Int32) (S : St) (w : WT (kDn K) S.2.2) : JX K (Zm K (fun v : Int32 => some (.int v))) 79 [none, none, none, some (.int v3), none, none] [.int s2, .int s1, .ref s0] (rwN (kN K) S) (kn K) 0 0 (b_X6_takeLetters_79 v3 s0 s1 s2 S) := by
  unfold b_X6_takeLetters_79
  refine T_iast X ks0 dX6_takeLetters_79 (fun j1 S2 hS2 => ?_)
  have wS2 : WT (kDn K) S2.2.2 := by rw [hS2]; exact w
  clear hS2
  refine J_iload_n X dX6_takeLetters_80 (i := 3) rfl rfl ?_
  exact T_iret wS2 X dX6_takeLetters_81
set_option maxRecDepth 20000 in
def b_X6_takeLetters_48 (v0 : Nat) (v1 : Int32) (v2 : Int32) (v3 : Int32) (v4 : Int64) (S : St) : Option (Int32 × St) := (ix v1 401).bind fun j1 => nm (sL S (S.2.2 v0 2) j1 v4) fun S2 => if (v3 - v2) ≤ (8 : Int32) then (bd (f_X6_wordOf v4 S2) fun r4 S3 => b_X6_takeLetters_79 v3 (S2.2.2 v0 0) v1 r4 S3) else (b_X6_takeLetters_79 v3 (S2.2.2 v0 0) v1 (24 : Int32) S2)
set_option maxRecDepth 20000 in
theorem t_X6_takeLetters_48 {K : KK} (X : CX K cX6_takeLetters 6 RX6 (some .int)) (hR : kR K = rmD 5) (v0 : Nat) (kv0 : KA (kDn K) v0 (0, 6)) (v1 : Int32) (v2 : Int32) (v3 : Int32) (v4 : Int64) (S : St) (w : WT (kDn K) S.2.2) : JX K (Zm K (fun v : Int32 => some (.int v))) 48 [some (.ref v0), some (.int v1), some (.int v2), some (.int v3), some (.long v4), none] [] (rwN (kN K) S) (kn K) 0 0 (b_X6_takeLetters_48 v0 v1 v2 v3 v4 S) := by
  unfold b_X6_takeLetters_48
  refine J_aload_n X dX6_takeLetters_48 (i := 0) rfl rfl ?_
  refine T_getR X (kf := 2) cb6 kv0 (by decide) fl_X6_22 (fun _ _ _ => rfl) dX6_takeLetters_49 ?_
  refine J_iload_n X dX6_takeLetters_52 (i := 1) rfl rfl ?_
  refine J_lload X dX6_takeLetters_53 rfl ?_
  refine T_last X (w.1 _ _ kv0 2 _ rfl) dX6_takeLetters_55 (fun j1 S2 hS2 => ?_)
  have wS2 : WT (kDn K) S2.2.2 := by rw [hS2]; exact w
  clear hS2
  refine J_aload_n X dX6_takeLetters_56 (i := 0) rfl rfl ?_
  refine T_getR X (kf := 0) cb6 kv0 (by decide) fl_X6_15 (fun _ _ _ => rfl) dX6_takeLetters_57 ?_
  refine J_iload_n X dX6_takeLetters_60 (i := 1) rfl rfl ?_
  refine J_iload_n X dX6_takeLetters_61 (i := 3) rfl rfl ?_
  refine J_iload_n X dX6_takeLetters_62 (i := 2) rfl rfl ?_
  refine J_isub X dX6_takeLetters_63 ?_
  refine J_bipush X (v := (8 : Int32)) dX6_takeLetters_64 (by decide) ?_
  refine J_icmp_le X (tgt := 74) dX6_takeLetters_66 (by decide) ?_ ?_
  · refine J_lload X dX6_takeLetters_74 rfl ?_
    refine T_callS (As := [.long v4]) wS2 X (C_X6_wordOf (kG K) v4 S2) ml_X6_65 st_yX6_wordOf ii_RX6 co_yX6_wordOf hy_X6_wordOf (hRd hR (by decide) (by decide)) rfl (Nat.le_of_ble_eq_true rfl) dX6_takeLetters_76 (fun r4 S3 _ wS3 => ?_)
    refine J_mask [false, false, false, true, false, false] ?_
    exact t_X6_takeLetters_79 X hR v3 (S2.2.2 v0 0) (wS2.1 _ _ kv0 0 _ rfl) v1 r4 S3 wS3
  · refine J_bipush X (v := (24 : Int32)) dX6_takeLetters_69 (by decide) ?_
    refine J_goto X (tgt := 79) dX6_takeLetters_71 (by decide) ?_
    refine J_mask [false, false, false, true, false, false] ?_
    exact t_X6_takeLetters_79 X hR v3 (S2.2.2 v0 0) (wS2.1 _ _ kv0 0 _ rfl) v1 (24 : Int32) S2 wS2
set_option maxRecDepth 20000 in
def b_X6_takeLetters_5 : Nat → Nat → Int32 → Int32 → Int32 → Int64 → St → Option (Int32 × St)
  | 0, _, _, _, _, _, _ => none
  | fu + 1, v0, v1, v2, v3, v4, S => if (S.1 v0 4) ≤ v3 then (b_X6_takeLetters_48 v0 v1 v2 v3 v4 S) else (bd (f_X6_isLetter v0 v3 S) fun r2 S1 => if r2 = 0 then (b_X6_takeLetters_48 v0 v1 v2 v3 v4 S1) else ((ix v3 2000).bind fun j3 => nm ((v4 * (32 : Int64)) + ((((S1.1 (S1.2.2 v0 3) j3) - (97 : Int32)) + (1 : Int32)).toInt64)) fun x4 => nm (v3 + (1 : Int32)) fun x5 => b_X6_takeLetters_5 fu v0 v1 v2 x5 x4 S1))
set_option maxRecDepth 20000 in
theorem t_X6_takeLetters_5 {K : KK} (X : CX K cX6_takeLetters 6 RX6 (some .int)) (hR : kR K = rmD 5) : ∀ (fu : Nat) (v0 : Nat) (kv0 : KA (kDn K) v0 (0, 6)) (v1 : Int32) (v2 : Int32) (v3 : Int32) (v4 : Int64) (S : St), WT (kDn K) S.2.2 → JX K (Zm K (fun v : Int32 => some (.int v))) 5 [some (.ref v0), some (.int v1), some (.int v2), some (.int v3), some (.long v4), none] [] (rwN (kN K) S) (kn K) 0 0 (b_X6_takeLetters_5 fu v0 v1 v2 v3 v4 S) := by
  intro fu
  induction fu with
  | zero => intro v0 kv0 v1 v2 v3 v4 S w; exact J_none
  | succ fu ih =>
    intro v0 kv0 v1 v2 v3 v4 S w
    rw [b_X6_takeLetters_5]
    refine J_iload_n X dX6_takeLetters_5 (i := 3) rfl rfl ?_
    refine J_aload_n X dX6_takeLetters_6 (i := 0) rfl rfl ?_
    refine T_getI X (kf := 4) cb6 kv0 (by decide) fl_X6_32 (fun _ _ _ => rfl) dX6_takeLetters_7 ?_
    refine J_icmp_ge X (tgt := 48) dX6_takeLetters_10 (by decide) ?_ ?_
    · exact t_X6_takeLetters_48 X hR v0 kv0 v1 v2 v3 v4 S w
    · refine J_aload_n X dX6_takeLetters_13 (i := 0) rfl rfl ?_
      refine J_iload_n X dX6_takeLetters_14 (i := 3) rfl rfl ?_
      refine T_callV (As := [.int v3]) w X (C_X6_isLetter (kG K) v0 kv0 v3 S) cb6 kv0 ml_X6_43 in_yX6_isLetter se_yX6_isLetter ii_RX6 co_yX6_isLetter hy_X6_isLetter (hRd hR (by decide) (by decide)) rfl (Nat.le_of_ble_eq_true rfl) dX6_takeLetters_15 (fun r2 S1 _ wS1 => ?_)
      refine J_if_eq X (tgt := 48) dX6_takeLetters_18 (by decide) ?_ ?_
      · exact t_X6_takeLetters_48 X hR v0 kv0 v1 v2 v3 v4 S1 wS1
      · refine J_lload X dX6_takeLetters_21 rfl ?_
        refine J_ldc2 X kl_X6_63 dX6_takeLetters_23 ?_
        refine J_lmul X dX6_takeLetters_26 ?_
        refine J_aload_n X dX6_takeLetters_27 (i := 0) rfl rfl ?_
        refine T_getR X (kf := 3) cb6 kv0 (by decide) fl_X6_9 (fun _ _ _ => rfl) dX6_takeLetters_28 ?_
        refine J_iload_n X dX6_takeLetters_31 (i := 3) rfl rfl ?_
        refine T_bald X (wS1.1 _ _ kv0 3 _ rfl) dX6_takeLetters_32 (fun j3 => ?_)
        refine J_bipush X (v := (97 : Int32)) dX6_takeLetters_33 (by decide) ?_
        refine J_isub X dX6_takeLetters_35 ?_
        refine J_iconst X (v := (1 : Int32)) dX6_takeLetters_36 (by decide) ?_
        refine J_iadd X dX6_takeLetters_37 ?_
        refine J_i2l X dX6_takeLetters_38 ?_
        refine J_ladd X dX6_takeLetters_39 ?_
        refine J_nml (fun x4 => ?_)
        refine J_lstore X (ls' := [some (.ref v0), some (.int v1), some (.int v2), some (.int v3), some (.long x4), none]) dX6_takeLetters_40 (by decide) rfl rfl ?_
        refine J_nmv (v3 + (1 : Int32)) (fun x5 ex5 => ?_)
        refine J_iinc X (v := x5) (ls' := [some (.ref v0), some (.int v1), some (.int v2), some (.int x5), some (.long x4), none]) dX6_takeLetters_42 (by decide) rfl (by rw [ex5]; rfl) rfl ?_
        refine J_goto X (tgt := 5) dX6_takeLetters_45 (by decide) ?_
        exact ih v0 kv0 v1 v2 x5 x4 S1 wS1
set_option maxRecDepth 20000 in
def f_X6_takeLetters (v0 : Nat) (v1 : Int32) (v2 : Int32) (S : St) : Option (Int32 × St) := b_X6_takeLetters_5 FU v0 v1 v2 v2 (0 : Int64) S
set_option maxRecDepth 20000 in
theorem t_X6_takeLetters_0 {K : KK} (X : CX K cX6_takeLetters 6 RX6 (some .int)) (hR : kR K = rmD 5) (v0 : Nat) (kv0 : KA (kDn K) v0 (0, 6)) (v1 : Int32) (v2 : Int32) (S : St) (w : WT (kDn K) S.2.2) : JX K (Zm K (fun v : Int32 => some (.int v))) 0 [some (.ref v0), some (.int v1), some (.int v2), none, none, none] [] (rwN (kN K) S) (kn K) 0 0 (f_X6_takeLetters v0 v1 v2 S) := by
  unfold f_X6_takeLetters
  refine J_iload_n X dX6_takeLetters_0 (i := 2) rfl rfl ?_
  refine J_istore_n X (i := 3) (ls' := [some (.ref v0), some (.int v1), some (.int v2), some (.int v2), none, none]) dX6_takeLetters_1 rfl (by decide) rfl ?_
  refine J_lconst X (v := (0 : Int64)) dX6_takeLetters_2 (by decide) ?_
  refine J_lstore X (ls' := [some (.ref v0), some (.int v1), some (.int v2), some (.int v2), some (.long (0 : Int64)), none]) dX6_takeLetters_3 (by decide) rfl rfl ?_
  exact t_X6_takeLetters_5 X hR FU v0 kv0 v1 v2 v2 (0 : Int64) S w
theorem C_X6_takeLetters (G : GG) (v0 : Nat) (kv0 : KA (gD G) v0 (0, 6)) (v1 : Int32) (v2 : Int32) (S : St) : CM G yX6_takeLetters cX6_takeLetters 6 (some .int) 5 [.ref v0, .int v1, .int v2] S (fun v : Int32 => some (.int v)) (f_X6_takeLetters v0 v1 v2 S) :=
  CM_of (by decide) (Nat.le_of_ble_eq_true rfl) rfl (fun K hG X hR w => by subst hG; exact t_X6_takeLetters_0 X hR v0 kv0 v1 v2 S w)
-- ==== X6_isDigit
theorem hy_X6_isDigit : yX6_isDigit.cls ≠ "java/lang/invoke/MethodHandle" ∧ yX6_isDigit.cls ≠ "java/lang/invoke/VarHandle" ∧ (parseMethodDescriptor yX6_isDigit.desc).map (fun d => d.parameters.length) = some 1 := by decide +kernel
set_option maxRecDepth 20000 in
def f_X6_isDigit (v0 : Nat) (v1 : Int32) (S : St) : Option (Int32 × St) := (ix v1 2000).bind fun j1 => if (S.1 (S.2.2 v0 3) j1) < (48 : Int32) then (some ((0 : Int32), S)) else ((ix v1 2000).bind fun j2 => if (57 : Int32) < (S.1 (S.2.2 v0 3) j2) then (some ((0 : Int32), S)) else (some ((1 : Int32), S)))
set_option maxRecDepth 20000 in
theorem t_X6_isDigit_0 {K : KK} (X : CX K cX6_isDigit 2 RX6 (some .boolean)) (hR : kR K = rmD 0) (v0 : Nat) (kv0 : KA (kDn K) v0 (0, 6)) (v1 : Int32) (S : St) (w : WT (kDn K) S.2.2) : JX K (Zm K (fun v : Int32 => some (.int v))) 0 [some (.ref v0), some (.int v1)] [] (rwN (kN K) S) (kn K) 0 0 (f_X6_isDigit v0 v1 S) := by
  unfold f_X6_isDigit
  refine J_aload_n X dX6_isDigit_0 (i := 0) rfl rfl ?_
  refine T_getR X (kf := 3) cb6 kv0 (by decide) fl_X6_9 (fun _ _ _ => rfl) dX6_isDigit_1 ?_
  refine J_iload_n X dX6_isDigit_4 (i := 1) rfl rfl ?_
  refine T_bald X (w.1 _ _ kv0 3 _ rfl) dX6_isDigit_5 (fun j1 => ?_)
  refine J_bipush X (v := (48 : Int32)) dX6_isDigit_6 (by decide) ?_
  refine J_icmp_lt X (tgt := 26) dX6_isDigit_8 (by decide) ?_ ?_
  · refine J_iconst X (v := (0 : Int32)) dX6_isDigit_26 (by decide) ?_
    exact T_zret w X (by decide) dX6_isDigit_27
  · refine J_aload_n X dX6_isDigit_11 (i := 0) rfl rfl ?_
    refine T_getR X (kf := 3) cb6 kv0 (by decide) fl_X6_9 (fun _ _ _ => rfl) dX6_isDigit_12 ?_
    refine J_iload_n X dX6_isDigit_15 (i := 1) rfl rfl ?_
    refine T_bald X (w.1 _ _ kv0 3 _ rfl) dX6_isDigit_16 (fun j2 => ?_)
    refine J_bipush X (v := (57 : Int32)) dX6_isDigit_17 (by decide) ?_
    refine J_icmp_gt X (tgt := 26) dX6_isDigit_19 (by decide) ?_ ?_
    · refine J_iconst X (v := (0 : Int32)) dX6_isDigit_26 (by decide) ?_
      exact T_zret w X (by decide) dX6_isDigit_27
    · refine J_iconst X (v := (1 : Int32)) dX6_isDigit_22 (by decide) ?_
      refine J_goto X (tgt := 27) dX6_isDigit_23 (by decide) ?_
      exact T_zret w X (by decide) dX6_isDigit_27
theorem C_X6_isDigit (G : GG) (v0 : Nat) (kv0 : KA (gD G) v0 (0, 6)) (v1 : Int32) (S : St) : CM G yX6_isDigit cX6_isDigit 2 (some .boolean) 0 [.ref v0, .int v1] S (fun v : Int32 => some (.int v)) (f_X6_isDigit v0 v1 S) :=
  CM_of (by decide) (Nat.le_of_ble_eq_true rfl) rfl (fun K hG X hR w => by subst hG; exact t_X6_isDigit_0 X hR v0 kv0 v1 S w)
-- ==== X6_takeDigits
theorem hy_X6_takeDigits : yX6_takeDigits.cls ≠ "java/lang/invoke/MethodHandle" ∧ yX6_takeDigits.cls ≠ "java/lang/invoke/VarHandle" ∧ (parseMethodDescriptor yX6_takeDigits.desc).map (fun d => d.parameters.length) = some 2 := by decide +kernel
set_option maxRecDepth 20000 in
def b_X6_takeDigits_73 (v3 : Int32) (s0 : Nat) (s1 : Int32) (s2 : Int32) (S : St) : Option (Int32 × St) := (ix s1 401).bind fun j1 => nm (sI S s0 j1 s2) fun S2 => some (v3, S2)
set_option maxRecDepth 20000 in
theorem t_X6_takeDigits_73 {K : KK} (X : CX K cX6_takeDigits 6 RX6 (some .int)) (hR : kR K = rmD 1) (v3 : Int32) (s0 : Nat) (ks0 : KA (kDn K) s0 (1, 401)) (s1 : Int32) (s2 : Int32) (S : St) (w : WT (kDn K) S.2.2) : JX K (Zm K (fun v : Int32 => some (.int v))) 73 [none, none, none, some (.int v3), none, none] [.int s2, .int s1, .ref s0] (rwN (kN K) S) (kn K) 0 0 (b_X6_takeDigits_73 v3 s0 s1 s2 S) := by
  unfold b_X6_takeDigits_73
  refine T_iast X ks0 dX6_takeDigits_73 (fun j1 S2 hS2 => ?_)
  have wS2 : WT (kDn K) S2.2.2 := by rw [hS2]; exact w
  clear hS2
  refine J_iload_n X dX6_takeDigits_74 (i := 3) rfl rfl ?_
  exact T_iret wS2 X dX6_takeDigits_75
set_option maxRecDepth 20000 in
def b_X6_takeDigits_46 (v0 : Nat) (v1 : Int32) (v2 : Int32) (v3 : Int32) (v4 : Int64) (S : St) : Option (Int32 × St) := (ix v1 401).bind fun j1 => nm (sL S (S.2.2 v0 2) j1 v4) fun S2 => if (v3 - v2) ≤ (4 : Int32) then (b_X6_takeDigits_73 v3 (S2.2.2 v0 0) v1 (22 : Int32) S2) else (b_X6_takeDigits_73 v3 (S2.2.2 v0 0) v1 (24 : Int32) S2)
set_option maxRecDepth 20000 in
theorem t_X6_takeDigits_46 {K : KK} (X : CX K cX6_takeDigits 6 RX6 (some .int)) (hR : kR K = rmD 1) (v0 : Nat) (kv0 : KA (kDn K) v0 (0, 6)) (v1 : Int32) (v2 : Int32) (v3 : Int32) (v4 : Int64) (S : St) (w : WT (kDn K) S.2.2) : JX K (Zm K (fun v : Int32 => some (.int v))) 46 [some (.ref v0), some (.int v1), some (.int v2), some (.int v3), some (.long v4), none] [] (rwN (kN K) S) (kn K) 0 0 (b_X6_takeDigits_46 v0 v1 v2 v3 v4 S) := by
  unfold b_X6_takeDigits_46
  refine J_aload_n X dX6_takeDigits_46 (i := 0) rfl rfl ?_
  refine T_getR X (kf := 2) cb6 kv0 (by decide) fl_X6_22 (fun _ _ _ => rfl) dX6_takeDigits_47 ?_
  refine J_iload_n X dX6_takeDigits_50 (i := 1) rfl rfl ?_
  refine J_lload X dX6_takeDigits_51 rfl ?_
  refine T_last X (w.1 _ _ kv0 2 _ rfl) dX6_takeDigits_53 (fun j1 S2 hS2 => ?_)
  have wS2 : WT (kDn K) S2.2.2 := by rw [hS2]; exact w
  clear hS2
  refine J_aload_n X dX6_takeDigits_54 (i := 0) rfl rfl ?_
  refine T_getR X (kf := 0) cb6 kv0 (by decide) fl_X6_15 (fun _ _ _ => rfl) dX6_takeDigits_55 ?_
  refine J_iload_n X dX6_takeDigits_58 (i := 1) rfl rfl ?_
  refine J_iload_n X dX6_takeDigits_59 (i := 3) rfl rfl ?_
  refine J_iload_n X dX6_takeDigits_60 (i := 2) rfl rfl ?_
  refine J_isub X dX6_takeDigits_61 ?_
  refine J_iconst X (v := (4 : Int32)) dX6_takeDigits_62 (by decide) ?_
  refine J_icmp_le X (tgt := 71) dX6_takeDigits_63 (by decide) ?_ ?_
  · refine J_bipush X (v := (22 : Int32)) dX6_takeDigits_71 (by decide) ?_
    refine J_mask [false, false, false, true, false, false] ?_
    exact t_X6_takeDigits_73 X hR v3 (S2.2.2 v0 0) (wS2.1 _ _ kv0 0 _ rfl) v1 (22 : Int32) S2 wS2
  · refine J_bipush X (v := (24 : Int32)) dX6_takeDigits_66 (by decide) ?_
    refine J_goto X (tgt := 73) dX6_takeDigits_68 (by decide) ?_
    refine J_mask [false, false, false, true, false, false] ?_
    exact t_X6_takeDigits_73 X hR v3 (S2.2.2 v0 0) (wS2.1 _ _ kv0 0 _ rfl) v1 (24 : Int32) S2 wS2
set_option maxRecDepth 20000 in
def b_X6_takeDigits_5 : Nat → Nat → Int32 → Int32 → Int32 → Int64 → St → Option (Int32 × St)
  | 0, _, _, _, _, _, _ => none
  | fu + 1, v0, v1, v2, v3, v4, S => if (S.1 v0 4) ≤ v3 then (b_X6_takeDigits_46 v0 v1 v2 v3 v4 S) else (bd (f_X6_isDigit v0 v3 S) fun r2 S1 => if r2 = 0 then (b_X6_takeDigits_46 v0 v1 v2 v3 v4 S1) else ((ix v3 2000).bind fun j3 => nm ((v4 * (10 : Int64)) + (((S1.1 (S1.2.2 v0 3) j3) - (48 : Int32)).toInt64)) fun x4 => nm (v3 + (1 : Int32)) fun x5 => b_X6_takeDigits_5 fu v0 v1 v2 x5 x4 S1))
set_option maxRecDepth 20000 in
theorem t_X6_takeDigits_5 {K : KK} (X : CX K cX6_takeDigits 6 RX6 (some .int)) (hR : kR K = rmD 1) : ∀ (fu : Nat) (v0 : Nat) (kv0 : KA (kDn K) v0 (0, 6)) (v1 : Int32) (v2 : Int32) (v3 : Int32) (v4 : Int64) (S : St), WT (kDn K) S.2.2 → JX K (Zm K (fun v : Int32 => some (.int v))) 5 [some (.ref v0), some (.int v1), some (.int v2), some (.int v3), some (.long v4), none] [] (rwN (kN K) S) (kn K) 0 0 (b_X6_takeDigits_5 fu v0 v1 v2 v3 v4 S) := by
  intro fu
  induction fu with
  | zero => intro v0 kv0 v1 v2 v3 v4 S w; exact J_none
  | succ fu ih =>
    intro v0 kv0 v1 v2 v3 v4 S w
    rw [b_X6_takeDigits_5]
    refine J_iload_n X dX6_takeDigits_5 (i := 3) rfl rfl ?_
    refine J_aload_n X dX6_takeDigits_6 (i := 0) rfl rfl ?_
    refine T_getI X (kf := 4) cb6 kv0 (by decide) fl_X6_32 (fun _ _ _ => rfl) dX6_takeDigits_7 ?_
    refine J_icmp_ge X (tgt := 46) dX6_takeDigits_10 (by decide) ?_ ?_
    · exact t_X6_takeDigits_46 X hR v0 kv0 v1 v2 v3 v4 S w
    · refine J_aload_n X dX6_takeDigits_13 (i := 0) rfl rfl ?_
      refine J_iload_n X dX6_takeDigits_14 (i := 3) rfl rfl ?_
      refine T_callV (As := [.int v3]) w X (C_X6_isDigit (kG K) v0 kv0 v3 S) cb6 kv0 ml_X6_50 in_yX6_isDigit se_yX6_isDigit ii_RX6 co_yX6_isDigit hy_X6_isDigit (hRd hR (by decide) (by decide)) rfl (Nat.le_of_ble_eq_true rfl) dX6_takeDigits_15 (fun r2 S1 _ wS1 => ?_)
      refine J_if_eq X (tgt := 46) dX6_takeDigits_18 (by decide) ?_ ?_
      · exact t_X6_takeDigits_46 X hR v0 kv0 v1 v2 v3 v4 S1 wS1
      · refine J_lload X dX6_takeDigits_21 rfl ?_
        refine J_ldc2 X kl_X6_69 dX6_takeDigits_23 ?_
        refine J_lmul X dX6_takeDigits_26 ?_
        refine J_aload_n X dX6_takeDigits_27 (i := 0) rfl rfl ?_
        refine T_getR X (kf := 3) cb6 kv0 (by decide) fl_X6_9 (fun _ _ _ => rfl) dX6_takeDigits_28 ?_
        refine J_iload_n X dX6_takeDigits_31 (i := 3) rfl rfl ?_
        refine T_bald X (wS1.1 _ _ kv0 3 _ rfl) dX6_takeDigits_32 (fun j3 => ?_)
        refine J_bipush X (v := (48 : Int32)) dX6_takeDigits_33 (by decide) ?_
        refine J_isub X dX6_takeDigits_35 ?_
        refine J_i2l X dX6_takeDigits_36 ?_
        refine J_ladd X dX6_takeDigits_37 ?_
        refine J_nml (fun x4 => ?_)
        refine J_lstore X (ls' := [some (.ref v0), some (.int v1), some (.int v2), some (.int v3), some (.long x4), none]) dX6_takeDigits_38 (by decide) rfl rfl ?_
        refine J_nmv (v3 + (1 : Int32)) (fun x5 ex5 => ?_)
        refine J_iinc X (v := x5) (ls' := [some (.ref v0), some (.int v1), some (.int v2), some (.int x5), some (.long x4), none]) dX6_takeDigits_40 (by decide) rfl (by rw [ex5]; rfl) rfl ?_
        refine J_goto X (tgt := 5) dX6_takeDigits_43 (by decide) ?_
        exact ih v0 kv0 v1 v2 x5 x4 S1 wS1
set_option maxRecDepth 20000 in
def f_X6_takeDigits (v0 : Nat) (v1 : Int32) (v2 : Int32) (S : St) : Option (Int32 × St) := b_X6_takeDigits_5 FU v0 v1 v2 v2 (0 : Int64) S
set_option maxRecDepth 20000 in
theorem t_X6_takeDigits_0 {K : KK} (X : CX K cX6_takeDigits 6 RX6 (some .int)) (hR : kR K = rmD 1) (v0 : Nat) (kv0 : KA (kDn K) v0 (0, 6)) (v1 : Int32) (v2 : Int32) (S : St) (w : WT (kDn K) S.2.2) : JX K (Zm K (fun v : Int32 => some (.int v))) 0 [some (.ref v0), some (.int v1), some (.int v2), none, none, none] [] (rwN (kN K) S) (kn K) 0 0 (f_X6_takeDigits v0 v1 v2 S) := by
  unfold f_X6_takeDigits
  refine J_iload_n X dX6_takeDigits_0 (i := 2) rfl rfl ?_
  refine J_istore_n X (i := 3) (ls' := [some (.ref v0), some (.int v1), some (.int v2), some (.int v2), none, none]) dX6_takeDigits_1 rfl (by decide) rfl ?_
  refine J_lconst X (v := (0 : Int64)) dX6_takeDigits_2 (by decide) ?_
  refine J_lstore X (ls' := [some (.ref v0), some (.int v1), some (.int v2), some (.int v2), some (.long (0 : Int64)), none]) dX6_takeDigits_3 (by decide) rfl rfl ?_
  exact t_X6_takeDigits_5 X hR FU v0 kv0 v1 v2 v2 (0 : Int64) S w
theorem C_X6_takeDigits (G : GG) (v0 : Nat) (kv0 : KA (gD G) v0 (0, 6)) (v1 : Int32) (v2 : Int32) (S : St) : CM G yX6_takeDigits cX6_takeDigits 6 (some .int) 1 [.ref v0, .int v1, .int v2] S (fun v : Int32 => some (.int v)) (f_X6_takeDigits v0 v1 v2 S) :=
  CM_of (by decide) (Nat.le_of_ble_eq_true rfl) rfl (fun K hG X hR w => by subst hG; exact t_X6_takeDigits_0 X hR v0 kv0 v1 v2 S w)
-- ==== J1_canEncode_9a6ad
theorem hy_J1_canEncode_9a6ad : yJ1_canEncode_9a6ad.cls ≠ "java/lang/invoke/MethodHandle" ∧ yJ1_canEncode_9a6ad.cls ≠ "java/lang/invoke/VarHandle" ∧ (parseMethodDescriptor yJ1_canEncode_9a6ad.desc).map (fun d => d.parameters.length) = some 1 := by decide +kernel
set_option maxRecDepth 20000 in
def f_J1_canEncode_9a6ad (v0 : Int32) (S : St) : Option (Int32 × St) := if v0 < 0 then (some ((0 : Int32), S)) else (if (255 : Int32) < v0 then (some ((0 : Int32), S)) else (some ((1 : Int32), S)))
set_option maxRecDepth 20000 in
theorem t_J1_canEncode_9a6ad_0 {K : KK} (X : CX K cJ1_canEncode_9a6ad 1 RJ1 (some .boolean)) (hR : kR K = rmD 0) (v0 : Int32) (S : St) (w : WT (kDn K) S.2.2) : JX K (Zm K (fun v : Int32 => some (.int v))) 0 [some (.int v0)] [] (rwN (kN K) S) (kn K) 0 0 (f_J1_canEncode_9a6ad v0 S) := by
  unfold f_J1_canEncode_9a6ad
  refine J_iload_n X dJ1_canEncode_9a6ad_0 (i := 0) rfl rfl ?_
  refine J_if_lt X (tgt := 15) dJ1_canEncode_9a6ad_1 (by decide) ?_ ?_
  · refine J_iconst X (v := (0 : Int32)) dJ1_canEncode_9a6ad_15 (by decide) ?_
    exact T_zret w X (by decide) dJ1_canEncode_9a6ad_16
  · refine J_iload_n X dJ1_canEncode_9a6ad_4 (i := 0) rfl rfl ?_
    refine J_sipush X (v := (255 : Int32)) dJ1_canEncode_9a6ad_5 (by decide) ?_
    refine J_icmp_gt X (tgt := 15) dJ1_canEncode_9a6ad_8 (by decide) ?_ ?_
    · refine J_iconst X (v := (0 : Int32)) dJ1_canEncode_9a6ad_15 (by decide) ?_
      exact T_zret w X (by decide) dJ1_canEncode_9a6ad_16
    · refine J_iconst X (v := (1 : Int32)) dJ1_canEncode_9a6ad_11 (by decide) ?_
      refine J_goto X (tgt := 16) dJ1_canEncode_9a6ad_12 (by decide) ?_
      exact T_zret w X (by decide) dJ1_canEncode_9a6ad_16
theorem C_J1_canEncode_9a6ad (G : GG) (v0 : Int32) (S : St) : CM G yJ1_canEncode_9a6ad cJ1_canEncode_9a6ad 1 (some .boolean) 0 [.int v0] S (fun v : Int32 => some (.int v)) (f_J1_canEncode_9a6ad v0 S) :=
  CM_of (by decide) (Nat.le_of_ble_eq_true rfl) rfl (fun K hG X hR w => by subst hG; exact t_J1_canEncode_9a6ad_0 X hR v0 S w)
-- ==== J1_indexOfChar_4cfef
theorem hy_J1_indexOfChar_4cfef : yJ1_indexOfChar_4cfef.cls ≠ "java/lang/invoke/MethodHandle" ∧ yJ1_indexOfChar_4cfef.cls ≠ "java/lang/invoke/VarHandle" ∧ (parseMethodDescriptor yJ1_indexOfChar_4cfef.desc).map (fun d => d.parameters.length) = some 4 := by decide +kernel
set_option maxRecDepth 20000 in
def b_J1_indexOfChar_4cfef_7 : Nat → Nat → Int32 → Int32 → Int32 → St → Option (Int32 × St)
  | 0, _, _, _, _, _ => none
  | fu + 1, v0, v3, v4, v5, S => if v3 ≤ v5 then (some ((-1 : Int32), S)) else ((ix v5 (sl v0)).bind fun j1 => if (sc v0 j1) = v4 then (some (v5, S)) else (nm (v5 + (1 : Int32)) fun x2 => b_J1_indexOfChar_4cfef_7 fu v0 v3 v4 x2 S))
set_option maxRecDepth 20000 in
theorem t_J1_indexOfChar_4cfef_7 {K : KK} (X : CX K cJ1_indexOfChar_4cfef 6 RJ1 (some .int)) (hR : kR K = rmD 0) : ∀ (fu : Nat) (v0 : Nat) (kv0 : v0 < 2) (v3 : Int32) (v4 : Int32) (v5 : Int32) (S : St), WT (kDn K) S.2.2 → JX K (Zm K (fun v : Int32 => some (.int v))) 7 [some (.retAddr (10 + v0)), none, none, some (.int v3), some (.int v4), some (.int v5)] [] (rwN (kN K) S) (kn K) 0 0 (b_J1_indexOfChar_4cfef_7 fu v0 v3 v4 v5 S) := by
  intro fu
  induction fu with
  | zero => intro v0 kv0 v3 v4 v5 S w; exact J_none
  | succ fu ih =>
    intro v0 kv0 v3 v4 v5 S w
    rw [b_J1_indexOfChar_4cfef_7]
    refine J_iload X dJ1_indexOfChar_4cfef_7 rfl ?_
    refine J_iload_n X dJ1_indexOfChar_4cfef_9 (i := 3) rfl rfl ?_
    refine J_icmp_ge X (tgt := 31) dJ1_indexOfChar_4cfef_10 (by decide) ?_ ?_
    · refine J_iconst X (v := (-1 : Int32)) dJ1_indexOfChar_4cfef_31 (by decide) ?_
      exact T_iret w X dJ1_indexOfChar_4cfef_32
    · refine Z_aload_n X dJ1_indexOfChar_4cfef_13 (i := 0) rfl rfl ?_
      refine J_iload X dJ1_indexOfChar_4cfef_14 rfl ?_
      refine Z_bald X kv0 dJ1_indexOfChar_4cfef_16 (fun j1 => ?_)
      refine J_iload X dJ1_indexOfChar_4cfef_17 rfl ?_
      refine J_icmp_ne X (tgt := 25) dJ1_indexOfChar_4cfef_19 (by decide) ?_ ?_
      · refine J_iload X dJ1_indexOfChar_4cfef_22 rfl ?_
        exact T_iret w X dJ1_indexOfChar_4cfef_24
      · refine J_nmv (v5 + (1 : Int32)) (fun x2 ex2 => ?_)
        refine J_iinc X (v := x2) (ls' := [some (.retAddr (10 + v0)), none, none, some (.int v3), some (.int v4), some (.int x2)]) dJ1_indexOfChar_4cfef_25 (by decide) rfl (by rw [ex2]; rfl) rfl ?_
        refine J_goto X (tgt := 7) dJ1_indexOfChar_4cfef_28 (by decide) ?_
        exact ih v0 kv0 v3 v4 x2 S w
set_option maxRecDepth 20000 in
def f_J1_indexOfChar_4cfef (v0 : Nat) (v1 : Int32) (v2 : Int32) (v3 : Int32) (S : St) : Option (Int32 × St) := nm (v1.toInt8.toInt32) fun x1 => b_J1_indexOfChar_4cfef_7 FU v0 v3 x1 v2 S
set_option maxRecDepth 20000 in
theorem t_J1_indexOfChar_4cfef_0 {K : KK} (X : CX K cJ1_indexOfChar_4cfef 6 RJ1 (some .int)) (hR : kR K = rmD 0) (v0 : Nat) (kv0 : v0 < 2) (v1 : Int32) (v2 : Int32) (v3 : Int32) (S : St) (w : WT (kDn K) S.2.2) : JX K (Zm K (fun v : Int32 => some (.int v))) 0 [some (.retAddr (10 + v0)), some (.int v1), some (.int v2), some (.int v3), none, none] [] (rwN (kN K) S) (kn K) 0 0 (f_J1_indexOfChar_4cfef v0 v1 v2 v3 S) := by
  unfold f_J1_indexOfChar_4cfef
  refine J_iload_n X dJ1_indexOfChar_4cfef_0 (i := 1) rfl rfl ?_
  refine J_i2b X dJ1_indexOfChar_4cfef_1 ?_
  refine J_nmi (fun x1 => ?_)
  refine J_istore X (ls' := [some (.retAddr (10 + v0)), some (.int v1), some (.int v2), some (.int v3), some (.int x1), none]) dJ1_indexOfChar_4cfef_2 (by decide) rfl ?_
  refine J_iload_n X dJ1_indexOfChar_4cfef_4 (i := 2) rfl rfl ?_
  refine J_istore X (ls' := [some (.retAddr (10 + v0)), some (.int v1), some (.int v2), some (.int v3), some (.int x1), some (.int v2)]) dJ1_indexOfChar_4cfef_5 (by decide) rfl ?_
  refine J_mask [true, false, false, true, true, true] ?_
  exact t_J1_indexOfChar_4cfef_7 X hR FU v0 kv0 v3 x1 v2 S w
theorem C_J1_indexOfChar_4cfef (G : GG) (v0 : Nat) (kv0 : v0 < 2) (v1 : Int32) (v2 : Int32) (v3 : Int32) (S : St) : CM G yJ1_indexOfChar_4cfef cJ1_indexOfChar_4cfef 6 (some .int) 0 [.retAddr (10 + v0), .int v1, .int v2, .int v3] S (fun v : Int32 => some (.int v)) (f_J1_indexOfChar_4cfef v0 v1 v2 v3 S) :=
  CM_of (by decide) (Nat.le_of_ble_eq_true rfl) rfl (fun K hG X hR w => by subst hG; exact t_J1_indexOfChar_4cfef_0 X hR v0 kv0 v1 v2 v3 S w)

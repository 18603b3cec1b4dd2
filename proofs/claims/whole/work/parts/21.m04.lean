-- ==== X10_looksAt
theorem hy_X10_looksAt : yX10_looksAt.cls ≠ "java/lang/invoke/MethodHandle" ∧ yX10_looksAt.cls ≠ "java/lang/invoke/VarHandle" ∧ (parseMethodDescriptor yX10_looksAt.desc).map (fun d => d.parameters.length) = some 1 := by decide +kernel
set_option maxRecDepth 20000 in
def b_X10_looksAt_130 (s0 : Nat) (s1 : Int32) (s2 : Int32) (S : St) : Option (Unit × St) := (ix s1 6).bind fun j1 => nm (sI S s0 j1 (vp_nar .boolean s2)) fun S2 => some ((), S2)
set_option maxRecDepth 20000 in
theorem t_X10_looksAt_130 {K : KK} (X : CX K cX10_looksAt 3 RX10 none) (hR : kR K = rmD 6) (s0 : Nat) (ks0 : KA (kDn K) s0 (3, 6)) (s1 : Int32) (s2 : Int32) (S : St) (w : WT (kDn K) S.2.2) : JX K (Zm K (fun _ : Unit => none)) 130 [none, none, none] [.int s2, .int s1, .ref s0] (rwN (kN K) S) (kn K) 0 0 (b_X10_looksAt_130 s0 s1 s2 S) := by
  unfold b_X10_looksAt_130
  refine T_zast X ks0 dX10_looksAt_130 (fun j1 S2 hS2 => ?_)
  have wS2 : WT (kDn K) S2.2.2 := by rw [hS2]; exact w
  clear hS2
  exact T_vret wS2 X dX10_looksAt_131
set_option maxRecDepth 20000 in
def b_X10_looksAt_129 (s0 : Nat) (s1 : Int32) (S : St) : Option (Unit × St) := b_X10_looksAt_130 s0 s1 (0 : Int32) S
set_option maxRecDepth 20000 in
theorem t_X10_looksAt_129 {K : KK} (X : CX K cX10_looksAt 3 RX10 none) (hR : kR K = rmD 6) (s0 : Nat) (ks0 : KA (kDn K) s0 (3, 6)) (s1 : Int32) (S : St) (w : WT (kDn K) S.2.2) : JX K (Zm K (fun _ : Unit => none)) 129 [none, none, none] [.int s1, .ref s0] (rwN (kN K) S) (kn K) 0 0 (b_X10_looksAt_129 s0 s1 S) := by
  unfold b_X10_looksAt_129
  refine J_iconst X (v := (0 : Int32)) dX10_looksAt_129 (by decide) ?_
  exact t_X10_looksAt_130 X hR s0 ks0 s1 (0 : Int32) S w
set_option maxRecDepth 20000 in
def b_X10_looksAt_87 (v0 : Nat) (v1 : Int32) (s0 : Nat) (s1 : Int32) (s2 : Int32) (s3 : Int32) (S : St) : Option (Unit × St) := (ix s1 6).bind fun j1 => nm (sI S s0 j1 (s2 + s3)) fun S2 => if (S2.1 v0 54) = 0 then ((ix (54 : Int32) 55).bind fun j3 => bd (f_X10_lotOf v0 (((16 : Int32) * (S2.1 (S2.2.2 v0 52) j3)) + v1) S2) fun r5 S4 => bd (f_X10_stormOf v0 v1 S4) fun r7 S6 => if r7 ≤ r5 then (b_X10_looksAt_129 (S2.2.2 v0 60) v1 S6) else (b_X10_looksAt_130 (S2.2.2 v0 60) v1 (1 : Int32) S6)) else (b_X10_looksAt_129 (S2.2.2 v0 60) v1 S2)
set_option maxRecDepth 20000 in
theorem t_X10_looksAt_87 {K : KK} (X : CX K cX10_looksAt 3 RX10 none) (hR : kR K = rmD 6) (v0 : Nat) (kv0 : KA (kDn K) v0 (0, 10)) (v1 : Int32) (s0 : Nat) (ks0 : KA (kDn K) s0 (1, 6)) (s1 : Int32) (s2 : Int32) (s3 : Int32) (S : St) (w : WT (kDn K) S.2.2) : JX K (Zm K (fun _ : Unit => none)) 87 [some (.ref v0), some (.int v1), none] [.int s3, .int s2, .int s1, .ref s0] (rwN (kN K) S) (kn K) 0 0 (b_X10_looksAt_87 v0 v1 s0 s1 s2 s3 S) := by
  unfold b_X10_looksAt_87
  refine J_iadd X dX10_looksAt_87 ?_
  refine T_iast X ks0 dX10_looksAt_88 (fun j1 S2 hS2 => ?_)
  have wS2 : WT (kDn K) S2.2.2 := by rw [hS2]; exact w
  clear hS2
  refine J_aload_n X dX10_looksAt_89 (i := 0) rfl rfl ?_
  refine T_getR X (kf := 60) cb10 kv0 (by decide) fl_X10_134 (fun _ _ _ => rfl) dX10_looksAt_90 ?_
  refine J_iload_n X dX10_looksAt_93 (i := 1) rfl rfl ?_
  refine J_aload_n X dX10_looksAt_94 (i := 0) rfl rfl ?_
  refine T_getI X (kf := 54) cb10 kv0 (by decide) fl_X10_332 (fun _ _ _ => rfl) dX10_looksAt_95 ?_
  refine J_if_ne X (tgt := 129) dX10_looksAt_98 (by decide) ?_ ?_
  · refine J_aload_n X dX10_looksAt_101 (i := 0) rfl rfl ?_
    refine J_bipush X (v := (16 : Int32)) dX10_looksAt_102 (by decide) ?_
    refine J_aload_n X dX10_looksAt_104 (i := 0) rfl rfl ?_
    refine T_getR X (kf := 52) cb10 kv0 (by decide) fl_X10_122 (fun _ _ _ => rfl) dX10_looksAt_105 ?_
    refine J_bipush X (v := (54 : Int32)) dX10_looksAt_108 (by decide) ?_
    refine T_iald X (wS2.1 _ _ kv0 52 _ rfl) dX10_looksAt_110 (fun j3 => ?_)
    refine J_imul X dX10_looksAt_111 ?_
    refine J_iload_n X dX10_looksAt_112 (i := 1) rfl rfl ?_
    refine J_iadd X dX10_looksAt_113 ?_
    refine T_callV (As := [.int (((16 : Int32) * (S2.1 (S2.2.2 v0 52) j3)) + v1)]) wS2 X (C_X10_lotOf (kG K) v0 kv0 (((16 : Int32) * (S2.1 (S2.2.2 v0 52) j3)) + v1) S2) cb10 kv0 ml_X10_404 in_yX10_lotOf se_yX10_lotOf ii_RX10 co_yX10_lotOf hy_X10_lotOf (hRd hR (by decide) (by decide)) rfl (Nat.le_of_ble_eq_true rfl) dX10_looksAt_114 (fun r5 S4 _ wS4 => ?_)
    refine J_aload_n X dX10_looksAt_117 (i := 0) rfl rfl ?_
    refine J_iload_n X dX10_looksAt_118 (i := 1) rfl rfl ?_
    refine T_callV (As := [.int v1]) wS4 X (C_X10_stormOf (kG K) v0 kv0 v1 S4) cb10 kv0 ml_X10_407 in_yX10_stormOf se_yX10_stormOf ii_RX10 co_yX10_stormOf hy_X10_stormOf (hRd hR (by decide) (by decide)) rfl (Nat.le_of_ble_eq_true rfl) dX10_looksAt_119 (fun r7 S6 _ wS6 => ?_)
    refine J_icmp_ge X (tgt := 129) dX10_looksAt_122 (by decide) ?_ ?_
    · refine J_mask [false, false, false] ?_
      exact t_X10_looksAt_129 X hR (S2.2.2 v0 60) (wS2.1 _ _ kv0 60 _ rfl) v1 S6 wS6
    · refine J_iconst X (v := (1 : Int32)) dX10_looksAt_125 (by decide) ?_
      refine J_goto X (tgt := 130) dX10_looksAt_126 (by decide) ?_
      refine J_mask [false, false, false] ?_
      exact t_X10_looksAt_130 X hR (S2.2.2 v0 60) (wS2.1 _ _ kv0 60 _ rfl) v1 (1 : Int32) S6 wS6
  · refine J_mask [false, false, false] ?_
    exact t_X10_looksAt_129 X hR (S2.2.2 v0 60) (wS2.1 _ _ kv0 60 _ rfl) v1 S2 wS2
set_option maxRecDepth 20000 in
def b_X10_looksAt_53 (v0 : Nat) (v1 : Int32) (v2 : Int32) (s0 : Nat) (s1 : Int32) (s2 : Int32) (s3 : Int32) (S : St) : Option (Unit × St) := (ix s1 6).bind fun j1 => nm (sI S s0 j1 (s2 + s3)) fun S2 => (ix ((26 : Int32) + v1) 55).bind fun j3 => if (v2 &&& (2 : Int32)) = (2 : Int32) then (bd (f_X10_signOf (S2.1 v0 56) S2) fun r5 S4 => b_X10_looksAt_87 v0 v1 (S2.2.2 v0 59) v1 (S2.1 (S2.2.2 v0 52) j3) r5 S4) else (b_X10_looksAt_87 v0 v1 (S2.2.2 v0 59) v1 (S2.1 (S2.2.2 v0 52) j3) (0 : Int32) S2)
set_option maxRecDepth 20000 in
theorem t_X10_looksAt_53 {K : KK} (X : CX K cX10_looksAt 3 RX10 none) (hR : kR K = rmD 6) (v0 : Nat) (kv0 : KA (kDn K) v0 (0, 10)) (v1 : Int32) (v2 : Int32) (s0 : Nat) (ks0 : KA (kDn K) s0 (1, 6)) (s1 : Int32) (s2 : Int32) (s3 : Int32) (S : St) (w : WT (kDn K) S.2.2) : JX K (Zm K (fun _ : Unit => none)) 53 [some (.ref v0), some (.int v1), some (.int v2)] [.int s3, .int s2, .int s1, .ref s0] (rwN (kN K) S) (kn K) 0 0 (b_X10_looksAt_53 v0 v1 v2 s0 s1 s2 s3 S) := by
  unfold b_X10_looksAt_53
  refine J_iadd X dX10_looksAt_53 ?_
  refine T_iast X ks0 dX10_looksAt_54 (fun j1 S2 hS2 => ?_)
  have wS2 : WT (kDn K) S2.2.2 := by rw [hS2]; exact w
  clear hS2
  refine J_aload_n X dX10_looksAt_55 (i := 0) rfl rfl ?_
  refine T_getR X (kf := 59) cb10 kv0 (by decide) fl_X10_131 (fun _ _ _ => rfl) dX10_looksAt_56 ?_
  refine J_iload_n X dX10_looksAt_59 (i := 1) rfl rfl ?_
  refine J_aload_n X dX10_looksAt_60 (i := 0) rfl rfl ?_
  refine T_getR X (kf := 52) cb10 kv0 (by decide) fl_X10_122 (fun _ _ _ => rfl) dX10_looksAt_61 ?_
  refine J_bipush X (v := (26 : Int32)) dX10_looksAt_64 (by decide) ?_
  refine J_iload_n X dX10_looksAt_66 (i := 1) rfl rfl ?_
  refine J_iadd X dX10_looksAt_67 ?_
  refine T_iald X (wS2.1 _ _ kv0 52 _ rfl) dX10_looksAt_68 (fun j3 => ?_)
  refine J_iload_n X dX10_looksAt_69 (i := 2) rfl rfl ?_
  refine J_iconst X (v := (2 : Int32)) dX10_looksAt_70 (by decide) ?_
  refine J_iand X dX10_looksAt_71 ?_
  refine J_iconst X (v := (2 : Int32)) dX10_looksAt_72 (by decide) ?_
  refine J_icmp_ne X (tgt := 86) dX10_looksAt_73 (by decide) ?_ ?_
  · refine J_aload_n X dX10_looksAt_76 (i := 0) rfl rfl ?_
    refine T_getI X (kf := 56) cb10 kv0 (by decide) fl_X10_375 (fun _ _ _ => rfl) dX10_looksAt_77 ?_
    refine T_callS (As := [.int (S2.1 v0 56)]) wS2 X (C_X10_signOf (kG K) (S2.1 v0 56) S2) ml_X10_382 st_yX10_signOf ii_RX10 co_yX10_signOf hy_X10_signOf (hRd hR (by decide) (by decide)) rfl (Nat.le_of_ble_eq_true rfl) dX10_looksAt_80 (fun r5 S4 _ wS4 => ?_)
    refine J_goto X (tgt := 87) dX10_looksAt_83 (by decide) ?_
    refine J_mask [true, true, false] ?_
    exact t_X10_looksAt_87 X hR v0 kv0 v1 (S2.2.2 v0 59) (wS2.1 _ _ kv0 59 _ rfl) v1 (S2.1 (S2.2.2 v0 52) j3) r5 S4 wS4
  · refine J_iconst X (v := (0 : Int32)) dX10_looksAt_86 (by decide) ?_
    refine J_mask [true, true, false] ?_
    exact t_X10_looksAt_87 X hR v0 kv0 v1 (S2.2.2 v0 59) (wS2.1 _ _ kv0 59 _ rfl) v1 (S2.1 (S2.2.2 v0 52) j3) (0 : Int32) S2 wS2
set_option maxRecDepth 20000 in
def b_X10_looksAt_20 (v0 : Nat) (v1 : Int32) (v2 : Int32) (s0 : Nat) (s1 : Int32) (s2 : Int32) (S : St) : Option (Unit × St) := (ix s1 6).bind fun j1 => nm (sI S s0 j1 (vp_nar .boolean s2)) fun S2 => (ix ((20 : Int32) + v1) 55).bind fun j3 => if (v2 &&& (1 : Int32)) = (1 : Int32) then (bd (f_X10_signOf (S2.1 v0 55) S2) fun r5 S4 => b_X10_looksAt_53 v0 v1 v2 (S2.2.2 v0 58) v1 (S2.1 (S2.2.2 v0 52) j3) r5 S4) else (b_X10_looksAt_53 v0 v1 v2 (S2.2.2 v0 58) v1 (S2.1 (S2.2.2 v0 52) j3) (0 : Int32) S2)
set_option maxRecDepth 20000 in
theorem t_X10_looksAt_20 {K : KK} (X : CX K cX10_looksAt 3 RX10 none) (hR : kR K = rmD 6) (v0 : Nat) (kv0 : KA (kDn K) v0 (0, 10)) (v1 : Int32) (v2 : Int32) (s0 : Nat) (ks0 : KA (kDn K) s0 (3, 6)) (s1 : Int32) (s2 : Int32) (S : St) (w : WT (kDn K) S.2.2) : JX K (Zm K (fun _ : Unit => none)) 20 [some (.ref v0), some (.int v1), some (.int v2)] [.int s2, .int s1, .ref s0] (rwN (kN K) S) (kn K) 0 0 (b_X10_looksAt_20 v0 v1 v2 s0 s1 s2 S) := by
  unfold b_X10_looksAt_20
  refine T_zast X ks0 dX10_looksAt_20 (fun j1 S2 hS2 => ?_)
  have wS2 : WT (kDn K) S2.2.2 := by rw [hS2]; exact w
  clear hS2
  refine J_aload_n X dX10_looksAt_21 (i := 0) rfl rfl ?_
  refine T_getR X (kf := 58) cb10 kv0 (by decide) fl_X10_128 (fun _ _ _ => rfl) dX10_looksAt_22 ?_
  refine J_iload_n X dX10_looksAt_25 (i := 1) rfl rfl ?_
  refine J_aload_n X dX10_looksAt_26 (i := 0) rfl rfl ?_
  refine T_getR X (kf := 52) cb10 kv0 (by decide) fl_X10_122 (fun _ _ _ => rfl) dX10_looksAt_27 ?_
  refine J_bipush X (v := (20 : Int32)) dX10_looksAt_30 (by decide) ?_
  refine J_iload_n X dX10_looksAt_32 (i := 1) rfl rfl ?_
  refine J_iadd X dX10_looksAt_33 ?_
  refine T_iald X (wS2.1 _ _ kv0 52 _ rfl) dX10_looksAt_34 (fun j3 => ?_)
  refine J_iload_n X dX10_looksAt_35 (i := 2) rfl rfl ?_
  refine J_iconst X (v := (1 : Int32)) dX10_looksAt_36 (by decide) ?_
  refine J_iand X dX10_looksAt_37 ?_
  refine J_iconst X (v := (1 : Int32)) dX10_looksAt_38 (by decide) ?_
  refine J_icmp_ne X (tgt := 52) dX10_looksAt_39 (by decide) ?_ ?_
  · refine J_aload_n X dX10_looksAt_42 (i := 0) rfl rfl ?_
    refine T_getI X (kf := 55) cb10 kv0 (by decide) fl_X10_372 (fun _ _ _ => rfl) dX10_looksAt_43 ?_
    refine T_callS (As := [.int (S2.1 v0 55)]) wS2 X (C_X10_signOf (kG K) (S2.1 v0 55) S2) ml_X10_382 st_yX10_signOf ii_RX10 co_yX10_signOf hy_X10_signOf (hRd hR (by decide) (by decide)) rfl (Nat.le_of_ble_eq_true rfl) dX10_looksAt_46 (fun r5 S4 _ wS4 => ?_)
    refine J_goto X (tgt := 53) dX10_looksAt_49 (by decide) ?_
    exact t_X10_looksAt_53 X hR v0 kv0 v1 v2 (S2.2.2 v0 58) (wS2.1 _ _ kv0 58 _ rfl) v1 (S2.1 (S2.2.2 v0 52) j3) r5 S4 wS4
  · refine J_iconst X (v := (0 : Int32)) dX10_looksAt_52 (by decide) ?_
    exact t_X10_looksAt_53 X hR v0 kv0 v1 v2 (S2.2.2 v0 58) (wS2.1 _ _ kv0 58 _ rfl) v1 (S2.1 (S2.2.2 v0 52) j3) (0 : Int32) S2 wS2
set_option maxRecDepth 20000 in
def f_X10_looksAt (v0 : Nat) (v1 : Int32) (S : St) : Option (Unit × St) := bd (f_X10_movesNow v0 v1 S) fun r2 S1 => if r2 ≤ 0 then (b_X10_looksAt_20 v0 v1 r2 (S1.2.2 v0 57) v1 (0 : Int32) S1) else (b_X10_looksAt_20 v0 v1 r2 (S1.2.2 v0 57) v1 (1 : Int32) S1)
set_option maxRecDepth 20000 in
theorem t_X10_looksAt_0 {K : KK} (X : CX K cX10_looksAt 3 RX10 none) (hR : kR K = rmD 6) (v0 : Nat) (kv0 : KA (kDn K) v0 (0, 10)) (v1 : Int32) (S : St) (w : WT (kDn K) S.2.2) : JX K (Zm K (fun _ : Unit => none)) 0 [some (.ref v0), some (.int v1), none] [] (rwN (kN K) S) (kn K) 0 0 (f_X10_looksAt v0 v1 S) := by
  unfold f_X10_looksAt
  refine J_aload_n X dX10_looksAt_0 (i := 0) rfl rfl ?_
  refine J_iload_n X dX10_looksAt_1 (i := 1) rfl rfl ?_
  refine T_callV (As := [.int v1]) w X (C_X10_movesNow (kG K) v0 kv0 v1 S) cb10 kv0 ml_X10_401 in_yX10_movesNow se_yX10_movesNow ii_RX10 co_yX10_movesNow hy_X10_movesNow (hRd hR (by decide) (by decide)) rfl (Nat.le_of_ble_eq_true rfl) dX10_looksAt_2 (fun r2 S1 _ wS1 => ?_)
  refine J_istore_n X (i := 2) (ls' := [some (.ref v0), some (.int v1), some (.int r2)]) dX10_looksAt_5 rfl (by decide) rfl ?_
  refine J_aload_n X dX10_looksAt_6 (i := 0) rfl rfl ?_
  refine T_getR X (kf := 57) cb10 kv0 (by decide) fl_X10_125 (fun _ _ _ => rfl) dX10_looksAt_7 ?_
  refine J_iload_n X dX10_looksAt_10 (i := 1) rfl rfl ?_
  refine J_iload_n X dX10_looksAt_11 (i := 2) rfl rfl ?_
  refine J_if_le X (tgt := 19) dX10_looksAt_12 (by decide) ?_ ?_
  · refine J_iconst X (v := (0 : Int32)) dX10_looksAt_19 (by decide) ?_
    exact t_X10_looksAt_20 X hR v0 kv0 v1 r2 (S1.2.2 v0 57) (wS1.1 _ _ kv0 57 _ rfl) v1 (0 : Int32) S1 wS1
  · refine J_iconst X (v := (1 : Int32)) dX10_looksAt_15 (by decide) ?_
    refine J_goto X (tgt := 20) dX10_looksAt_16 (by decide) ?_
    exact t_X10_looksAt_20 X hR v0 kv0 v1 r2 (S1.2.2 v0 57) (wS1.1 _ _ kv0 57 _ rfl) v1 (1 : Int32) S1 wS1
theorem C_X10_looksAt (G : GG) (v0 : Nat) (kv0 : KA (gD G) v0 (0, 10)) (v1 : Int32) (S : St) : CM G yX10_looksAt cX10_looksAt 3 none 6 [.ref v0, .int v1] S (fun _ : Unit => none) (f_X10_looksAt v0 v1 S) :=
  CM_of (by decide) (Nat.le_of_ble_eq_true rfl) rfl (fun K hG X hR w => by subst hG; exact t_X10_looksAt_0 X hR v0 kv0 v1 S w)
-- ==== X10_swimsOne
theorem hy_X10_swimsOne : yX10_swimsOne.cls ≠ "java/lang/invoke/MethodHandle" ∧ yX10_swimsOne.cls ≠ "java/lang/invoke/VarHandle" ∧ (parseMethodDescriptor yX10_swimsOne.desc).map (fun d => d.parameters.length) = some 1 := by decide +kernel
set_option maxRecDepth 20000 in
def b_X10_swimsOne_92 (q2 : Nat → Int32 → Int32 → St → Option (Unit × St)) (v0 : Nat) (v1 : Int32) (v2 : Int32) (s0 : Nat) (s1 : Int32) (s2 : Int32) (S : St) : Option (Unit × St) := (ix s1 55).bind fun j1 => nm (sI S s0 j1 s2) fun S2 => nm (v2 + (4 : Int32)) fun x3 => q2 v0 v1 x3 S2
set_option maxRecDepth 20000 in
theorem t_X10_swimsOne_92 {K : KK} (X : CX K cX10_swimsOne 4 RX10 none) (hR : kR K = rmD 0) {q2 : Nat → Int32 → Int32 → St → Option (Unit × St)} (hq2 : ∀ (v0 : Nat) (kv0 : KA (kDn K) v0 (0, 10)) (v1 : Int32) (v2 : Int32) (S : St), WT (kDn K) S.2.2 → JX K (Zm K (fun _ : Unit => none)) 2 [some (.ref v0), some (.int v1), some (.int v2), none] [] (rwN (kN K) S) (kn K) 0 0 (q2 v0 v1 v2 S)) (v0 : Nat) (kv0 : KA (kDn K) v0 (0, 10)) (v1 : Int32) (v2 : Int32) (s0 : Nat) (ks0 : KA (kDn K) s0 (1, 55)) (s1 : Int32) (s2 : Int32) (S : St) (w : WT (kDn K) S.2.2) : JX K (Zm K (fun _ : Unit => none)) 92 [some (.ref v0), some (.int v1), some (.int v2), none] [.int s2, .int s1, .ref s0] (rwN (kN K) S) (kn K) 0 0 (b_X10_swimsOne_92 q2 v0 v1 v2 s0 s1 s2 S) := by
  unfold b_X10_swimsOne_92
  refine T_iast X ks0 dX10_swimsOne_92 (fun j1 S2 hS2 => ?_)
  have wS2 : WT (kDn K) S2.2.2 := by rw [hS2]; exact w
  clear hS2
  refine J_nmv (v2 + (4 : Int32)) (fun x3 ex3 => ?_)
  refine J_iinc X (v := x3) (ls' := [some (.ref v0), some (.int v1), some (.int x3), none]) dX10_swimsOne_93 (by decide) rfl (by rw [ex3]; rfl) rfl ?_
  refine J_goto X (tgt := 2) dX10_swimsOne_96 (by decide) ?_
  exact hq2 v0 kv0 v1 x3 S2 wS2
set_option maxRecDepth 20000 in
def b_X10_swimsOne_62 (q2 : Nat → Int32 → Int32 → St → Option (Unit × St)) (v0 : Nat) (v1 : Int32) (v2 : Int32) (v3 : Int32) (S : St) : Option (Unit × St) := if 0 ≤ v3 then (if v3 ≤ (9 : Int32) then (b_X10_swimsOne_92 q2 v0 v1 v2 (S.2.2 v0 52) (v2 + v1) v3 S) else (b_X10_swimsOne_92 q2 v0 v1 v2 (S.2.2 v0 52) (v2 + v1) ((18 : Int32) - v3) S)) else (b_X10_swimsOne_92 q2 v0 v1 v2 (S.2.2 v0 52) (v2 + v1) (-v3) S)
set_option maxRecDepth 20000 in
theorem t_X10_swimsOne_62 {K : KK} (X : CX K cX10_swimsOne 4 RX10 none) (hR : kR K = rmD 0) {q2 : Nat → Int32 → Int32 → St → Option (Unit × St)} (hq2 : ∀ (v0 : Nat) (kv0 : KA (kDn K) v0 (0, 10)) (v1 : Int32) (v2 : Int32) (S : St), WT (kDn K) S.2.2 → JX K (Zm K (fun _ : Unit => none)) 2 [some (.ref v0), some (.int v1), some (.int v2), none] [] (rwN (kN K) S) (kn K) 0 0 (q2 v0 v1 v2 S)) (v0 : Nat) (kv0 : KA (kDn K) v0 (0, 10)) (v1 : Int32) (v2 : Int32) (v3 : Int32) (S : St) (w : WT (kDn K) S.2.2) : JX K (Zm K (fun _ : Unit => none)) 62 [some (.ref v0), some (.int v1), some (.int v2), some (.int v3)] [] (rwN (kN K) S) (kn K) 0 0 (b_X10_swimsOne_62 q2 v0 v1 v2 v3 S) := by
  unfold b_X10_swimsOne_62
  refine J_aload_n X dX10_swimsOne_62 (i := 0) rfl rfl ?_
  refine T_getR X (kf := 52) cb10 kv0 (by decide) fl_X10_122 (fun _ _ _ => rfl) dX10_swimsOne_63 ?_
  refine J_iload_n X dX10_swimsOne_66 (i := 2) rfl rfl ?_
  refine J_iload_n X dX10_swimsOne_67 (i := 1) rfl rfl ?_
  refine J_iadd X dX10_swimsOne_68 ?_
  refine J_iload_n X dX10_swimsOne_69 (i := 3) rfl rfl ?_
  refine J_if_ge X (tgt := 78) dX10_swimsOne_70 (by decide) ?_ ?_
  · refine J_iload_n X dX10_swimsOne_78 (i := 3) rfl rfl ?_
    refine J_bipush X (v := (9 : Int32)) dX10_swimsOne_79 (by decide) ?_
    refine J_icmp_le X (tgt := 91) dX10_swimsOne_81 (by decide) ?_ ?_
    · refine J_iload_n X dX10_swimsOne_91 (i := 3) rfl rfl ?_
      refine J_mask [true, true, true, false] ?_
      exact t_X10_swimsOne_92 X hR hq2 v0 kv0 v1 v2 (S.2.2 v0 52) (w.1 _ _ kv0 52 _ rfl) (v2 + v1) v3 S w
    · refine J_bipush X (v := (18 : Int32)) dX10_swimsOne_84 (by decide) ?_
      refine J_iload_n X dX10_swimsOne_86 (i := 3) rfl rfl ?_
      refine J_isub X dX10_swimsOne_87 ?_
      refine J_goto X (tgt := 92) dX10_swimsOne_88 (by decide) ?_
      refine J_mask [true, true, true, false] ?_
      exact t_X10_swimsOne_92 X hR hq2 v0 kv0 v1 v2 (S.2.2 v0 52) (w.1 _ _ kv0 52 _ rfl) (v2 + v1) ((18 : Int32) - v3) S w
  · refine J_iload_n X dX10_swimsOne_73 (i := 3) rfl rfl ?_
    refine J_ineg X dX10_swimsOne_74 ?_
    refine J_goto X (tgt := 92) dX10_swimsOne_75 (by decide) ?_
    refine J_mask [true, true, true, false] ?_
    exact t_X10_swimsOne_92 X hR hq2 v0 kv0 v1 v2 (S.2.2 v0 52) (w.1 _ _ kv0 52 _ rfl) (v2 + v1) (-v3) S w
set_option maxRecDepth 20000 in
def b_X10_swimsOne_39 (q2 : Nat → Int32 → Int32 → St → Option (Unit × St)) (v0 : Nat) (v1 : Int32) (v2 : Int32) (v3 : Int32) (S : St) : Option (Unit × St) := (ix (((8 : Int32) + v2) + v1) 55).bind fun j1 => (ix (((8 : Int32) + v2) + v1) 55).bind fun j2 => nm (sI S (S.2.2 v0 52) j2 (-(S.1 (S.2.2 v0 52) j1))) fun S3 => b_X10_swimsOne_62 q2 v0 v1 v2 v3 S3
set_option maxRecDepth 20000 in
theorem t_X10_swimsOne_39 {K : KK} (X : CX K cX10_swimsOne 4 RX10 none) (hR : kR K = rmD 0) {q2 : Nat → Int32 → Int32 → St → Option (Unit × St)} (hq2 : ∀ (v0 : Nat) (kv0 : KA (kDn K) v0 (0, 10)) (v1 : Int32) (v2 : Int32) (S : St), WT (kDn K) S.2.2 → JX K (Zm K (fun _ : Unit => none)) 2 [some (.ref v0), some (.int v1), some (.int v2), none] [] (rwN (kN K) S) (kn K) 0 0 (q2 v0 v1 v2 S)) (v0 : Nat) (kv0 : KA (kDn K) v0 (0, 10)) (v1 : Int32) (v2 : Int32) (v3 : Int32) (S : St) (w : WT (kDn K) S.2.2) : JX K (Zm K (fun _ : Unit => none)) 39 [some (.ref v0), some (.int v1), some (.int v2), some (.int v3)] [] (rwN (kN K) S) (kn K) 0 0 (b_X10_swimsOne_39 q2 v0 v1 v2 v3 S) := by
  unfold b_X10_swimsOne_39
  refine J_aload_n X dX10_swimsOne_39 (i := 0) rfl rfl ?_
  refine T_getR X (kf := 52) cb10 kv0 (by decide) fl_X10_122 (fun _ _ _ => rfl) dX10_swimsOne_40 ?_
  refine J_bipush X (v := (8 : Int32)) dX10_swimsOne_43 (by decide) ?_
  refine J_iload_n X dX10_swimsOne_45 (i := 2) rfl rfl ?_
  refine J_iadd X dX10_swimsOne_46 ?_
  refine J_iload_n X dX10_swimsOne_47 (i := 1) rfl rfl ?_
  refine J_iadd X dX10_swimsOne_48 ?_
  refine J_aload_n X dX10_swimsOne_49 (i := 0) rfl rfl ?_
  refine T_getR X (kf := 52) cb10 kv0 (by decide) fl_X10_122 (fun _ _ _ => rfl) dX10_swimsOne_50 ?_
  refine J_bipush X (v := (8 : Int32)) dX10_swimsOne_53 (by decide) ?_
  refine J_iload_n X dX10_swimsOne_55 (i := 2) rfl rfl ?_
  refine J_iadd X dX10_swimsOne_56 ?_
  refine J_iload_n X dX10_swimsOne_57 (i := 1) rfl rfl ?_
  refine J_iadd X dX10_swimsOne_58 ?_
  refine T_iald X (w.1 _ _ kv0 52 _ rfl) dX10_swimsOne_59 (fun j1 => ?_)
  refine J_ineg X dX10_swimsOne_60 ?_
  refine T_iast X (w.1 _ _ kv0 52 _ rfl) dX10_swimsOne_61 (fun j2 S3 hS3 => ?_)
  have wS3 : WT (kDn K) S3.2.2 := by rw [hS3]; exact w
  clear hS3
  exact t_X10_swimsOne_62 X hR hq2 v0 kv0 v1 v2 v3 S3 wS3
set_option maxRecDepth 20000 in
def b_X10_swimsOne_2 : Nat → Nat → Int32 → Int32 → St → Option (Unit × St)
  | 0, _, _, _, _ => none
  | fu + 1, v0, v1, v2, S => if (8 : Int32) ≤ v2 then (some ((), S)) else ((ix (v2 + v1) 55).bind fun j1 => (ix (((8 : Int32) + v2) + v1) 55).bind fun j2 => nm ((S.1 (S.2.2 v0 52) j1) + (S.1 (S.2.2 v0 52) j2)) fun x3 => if x3 < 0 then (b_X10_swimsOne_39 (b_X10_swimsOne_2 fu) v0 v1 v2 x3 S) else (if x3 ≤ (9 : Int32) then (b_X10_swimsOne_62 (b_X10_swimsOne_2 fu) v0 v1 v2 x3 S) else (b_X10_swimsOne_39 (b_X10_swimsOne_2 fu) v0 v1 v2 x3 S)))
set_option maxRecDepth 20000 in
theorem t_X10_swimsOne_2 {K : KK} (X : CX K cX10_swimsOne 4 RX10 none) (hR : kR K = rmD 0) : ∀ (fu : Nat) (v0 : Nat) (kv0 : KA (kDn K) v0 (0, 10)) (v1 : Int32) (v2 : Int32) (S : St), WT (kDn K) S.2.2 → JX K (Zm K (fun _ : Unit => none)) 2 [some (.ref v0), some (.int v1), some (.int v2), none] [] (rwN (kN K) S) (kn K) 0 0 (b_X10_swimsOne_2 fu v0 v1 v2 S) := by
  intro fu
  induction fu with
  | zero => intro v0 kv0 v1 v2 S w; exact J_none
  | succ fu ih =>
    intro v0 kv0 v1 v2 S w
    rw [b_X10_swimsOne_2]
    refine J_iload_n X dX10_swimsOne_2 (i := 2) rfl rfl ?_
    refine J_bipush X (v := (8 : Int32)) dX10_swimsOne_3 (by decide) ?_
    refine J_icmp_ge X (tgt := 99) dX10_swimsOne_5 (by decide) ?_ ?_
    · exact T_vret w X dX10_swimsOne_99
    · refine J_aload_n X dX10_swimsOne_8 (i := 0) rfl rfl ?_
      refine T_getR X (kf := 52) cb10 kv0 (by decide) fl_X10_122 (fun _ _ _ => rfl) dX10_swimsOne_9 ?_
      refine J_iload_n X dX10_swimsOne_12 (i := 2) rfl rfl ?_
      refine J_iload_n X dX10_swimsOne_13 (i := 1) rfl rfl ?_
      refine J_iadd X dX10_swimsOne_14 ?_
      refine T_iald X (w.1 _ _ kv0 52 _ rfl) dX10_swimsOne_15 (fun j1 => ?_)
      refine J_aload_n X dX10_swimsOne_16 (i := 0) rfl rfl ?_
      refine T_getR X (kf := 52) cb10 kv0 (by decide) fl_X10_122 (fun _ _ _ => rfl) dX10_swimsOne_17 ?_
      refine J_bipush X (v := (8 : Int32)) dX10_swimsOne_20 (by decide) ?_
      refine J_iload_n X dX10_swimsOne_22 (i := 2) rfl rfl ?_
      refine J_iadd X dX10_swimsOne_23 ?_
      refine J_iload_n X dX10_swimsOne_24 (i := 1) rfl rfl ?_
      refine J_iadd X dX10_swimsOne_25 ?_
      refine T_iald X (w.1 _ _ kv0 52 _ rfl) dX10_swimsOne_26 (fun j2 => ?_)
      refine J_iadd X dX10_swimsOne_27 ?_
      refine J_nmi (fun x3 => ?_)
      refine J_istore_n X (i := 3) (ls' := [some (.ref v0), some (.int v1), some (.int v2), some (.int x3)]) dX10_swimsOne_28 rfl (by decide) rfl ?_
      refine J_iload_n X dX10_swimsOne_29 (i := 3) rfl rfl ?_
      refine J_if_lt X (tgt := 39) dX10_swimsOne_30 (by decide) ?_ ?_
      · exact t_X10_swimsOne_39 X hR ih v0 kv0 v1 v2 x3 S w
      · refine J_iload_n X dX10_swimsOne_33 (i := 3) rfl rfl ?_
        refine J_bipush X (v := (9 : Int32)) dX10_swimsOne_34 (by decide) ?_
        refine J_icmp_le X (tgt := 62) dX10_swimsOne_36 (by decide) ?_ ?_
        · exact t_X10_swimsOne_62 X hR ih v0 kv0 v1 v2 x3 S w
        · exact t_X10_swimsOne_39 X hR ih v0 kv0 v1 v2 x3 S w
set_option maxRecDepth 20000 in
def f_X10_swimsOne (v0 : Nat) (v1 : Int32) (S : St) : Option (Unit × St) := b_X10_swimsOne_2 FU v0 v1 (0 : Int32) S
set_option maxRecDepth 20000 in
theorem t_X10_swimsOne_0 {K : KK} (X : CX K cX10_swimsOne 4 RX10 none) (hR : kR K = rmD 0) (v0 : Nat) (kv0 : KA (kDn K) v0 (0, 10)) (v1 : Int32) (S : St) (w : WT (kDn K) S.2.2) : JX K (Zm K (fun _ : Unit => none)) 0 [some (.ref v0), some (.int v1), none, none] [] (rwN (kN K) S) (kn K) 0 0 (f_X10_swimsOne v0 v1 S) := by
  unfold f_X10_swimsOne
  refine J_iconst X (v := (0 : Int32)) dX10_swimsOne_0 (by decide) ?_
  refine J_istore_n X (i := 2) (ls' := [some (.ref v0), some (.int v1), some (.int (0 : Int32)), none]) dX10_swimsOne_1 rfl (by decide) rfl ?_
  exact t_X10_swimsOne_2 X hR FU v0 kv0 v1 (0 : Int32) S w
theorem C_X10_swimsOne (G : GG) (v0 : Nat) (kv0 : KA (gD G) v0 (0, 10)) (v1 : Int32) (S : St) : CM G yX10_swimsOne cX10_swimsOne 4 none 0 [.ref v0, .int v1] S (fun _ : Unit => none) (f_X10_swimsOne v0 v1 S) :=
  CM_of (by decide) (Nat.le_of_ble_eq_true rfl) rfl (fun K hG X hR w => by subst hG; exact t_X10_swimsOne_0 X hR v0 kv0 v1 S w)
-- ==== X10_monthGoes
theorem hy_X10_monthGoes : yX10_monthGoes.cls ≠ "java/lang/invoke/MethodHandle" ∧ yX10_monthGoes.cls ≠ "java/lang/invoke/VarHandle" ∧ (parseMethodDescriptor yX10_monthGoes.desc).map (fun d => d.parameters.length) = some 0 := by decide +kernel
set_option maxRecDepth 20000 in
def b_X10_monthGoes_172 (q142 : Nat → Int32 → St → Option (Unit × St)) (v0 : Nat) (v1 : Int32) (S : St) : Option (Unit × St) := nm (v1 + (1 : Int32)) fun x1 => q142 v0 x1 S
set_option maxRecDepth 20000 in
theorem t_X10_monthGoes_172 {K : KK} (X : CX K cX10_monthGoes 2 RX10 none) (hR : kR K = rmD 7) {q142 : Nat → Int32 → St → Option (Unit × St)} (hq142 : ∀ (v0 : Nat) (kv0 : KA (kDn K) v0 (0, 10)) (v1 : Int32) (S : St), WT (kDn K) S.2.2 → JX K (Zm K (fun _ : Unit => none)) 142 [some (.ref v0), some (.int v1)] [] (rwN (kN K) S) (kn K) 0 0 (q142 v0 v1 S)) (v0 : Nat) (kv0 : KA (kDn K) v0 (0, 10)) (v1 : Int32) (S : St) (w : WT (kDn K) S.2.2) : JX K (Zm K (fun _ : Unit => none)) 172 [some (.ref v0), some (.int v1)] [] (rwN (kN K) S) (kn K) 0 0 (b_X10_monthGoes_172 q142 v0 v1 S) := by
  unfold b_X10_monthGoes_172
  refine J_nmv (v1 + (1 : Int32)) (fun x1 ex1 => ?_)
  refine J_iinc X (v := x1) (ls' := [some (.ref v0), some (.int x1)]) dX10_monthGoes_172 (by decide) rfl (by rw [ex1]; rfl) rfl ?_
  refine J_goto X (tgt := 142) dX10_monthGoes_175 (by decide) ?_
  exact hq142 v0 kv0 x1 S w
set_option maxRecDepth 20000 in
def b_X10_monthGoes_142 : Nat → Nat → Int32 → St → Option (Unit × St)
  | 0, _, _, _ => none
  | fu + 1, v0, v1, S => (ix (S.1 v0 18) 2).bind fun j1 => if (S.1 (S.2.2 v0 23) j1) ≤ v1 then ((ix (54 : Int32) 55).bind fun j2 => (ix (54 : Int32) 55).bind fun j3 => nm (sI S (S.2.2 v0 52) j3 ((S.1 (S.2.2 v0 52) j2) + (1 : Int32))) fun S4 => some ((), S4)) else ((ix ((16 : Int32) + v1) 55).bind fun j5 => if (S.1 (S.2.2 v0 52) j5) = 0 then (bd (f_X10_swimsOne v0 v1 S) fun _ S6 => b_X10_monthGoes_172 (b_X10_monthGoes_142 fu) v0 v1 S6) else (b_X10_monthGoes_172 (b_X10_monthGoes_142 fu) v0 v1 S))
set_option maxRecDepth 20000 in
theorem t_X10_monthGoes_142 {K : KK} (X : CX K cX10_monthGoes 2 RX10 none) (hR : kR K = rmD 7) : ∀ (fu : Nat) (v0 : Nat) (kv0 : KA (kDn K) v0 (0, 10)) (v1 : Int32) (S : St), WT (kDn K) S.2.2 → JX K (Zm K (fun _ : Unit => none)) 142 [some (.ref v0), some (.int v1)] [] (rwN (kN K) S) (kn K) 0 0 (b_X10_monthGoes_142 fu v0 v1 S) := by
  intro fu
  induction fu with
  | zero => intro v0 kv0 v1 S w; exact J_none
  | succ fu ih =>
    intro v0 kv0 v1 S w
    rw [b_X10_monthGoes_142]
    refine J_iload_n X dX10_monthGoes_142 (i := 1) rfl rfl ?_
    refine J_aload_n X dX10_monthGoes_143 (i := 0) rfl rfl ?_
    refine T_getR X (kf := 23) cb10 kv0 (by decide) fl_X10_46 (fun _ _ _ => rfl) dX10_monthGoes_144 ?_
    refine J_aload_n X dX10_monthGoes_147 (i := 0) rfl rfl ?_
    refine T_getI X (kf := 18) cb10 kv0 (by decide) fl_X10_239 (fun _ _ _ => rfl) dX10_monthGoes_148 ?_
    refine T_iald X (w.1 _ _ kv0 23 _ rfl) dX10_monthGoes_151 (fun j1 => ?_)
    refine J_icmp_ge X (tgt := 178) dX10_monthGoes_152 (by decide) ?_ ?_
    · refine J_aload_n X dX10_monthGoes_178 (i := 0) rfl rfl ?_
      refine T_getR X (kf := 52) cb10 kv0 (by decide) fl_X10_122 (fun _ _ _ => rfl) dX10_monthGoes_179 ?_
      refine J_bipush X (v := (54 : Int32)) dX10_monthGoes_182 (by decide) ?_
      refine J_dup2 X dX10_monthGoes_184 rfl rfl ?_
      refine T_iald X (w.1 _ _ kv0 52 _ rfl) dX10_monthGoes_185 (fun j2 => ?_)
      refine J_iconst X (v := (1 : Int32)) dX10_monthGoes_186 (by decide) ?_
      refine J_iadd X dX10_monthGoes_187 ?_
      refine T_iast X (w.1 _ _ kv0 52 _ rfl) dX10_monthGoes_188 (fun j3 S4 hS4 => ?_)
      have wS4 : WT (kDn K) S4.2.2 := by rw [hS4]; exact w
      clear hS4
      exact T_vret wS4 X dX10_monthGoes_189
    · refine J_aload_n X dX10_monthGoes_155 (i := 0) rfl rfl ?_
      refine T_getR X (kf := 52) cb10 kv0 (by decide) fl_X10_122 (fun _ _ _ => rfl) dX10_monthGoes_156 ?_
      refine J_bipush X (v := (16 : Int32)) dX10_monthGoes_159 (by decide) ?_
      refine J_iload_n X dX10_monthGoes_161 (i := 1) rfl rfl ?_
      refine J_iadd X dX10_monthGoes_162 ?_
      refine T_iald X (w.1 _ _ kv0 52 _ rfl) dX10_monthGoes_163 (fun j5 => ?_)
      refine J_if_ne X (tgt := 172) dX10_monthGoes_164 (by decide) ?_ ?_
      · refine J_aload_n X dX10_monthGoes_167 (i := 0) rfl rfl ?_
        refine J_iload_n X dX10_monthGoes_168 (i := 1) rfl rfl ?_
        refine T_callV (As := [.int v1]) w X (C_X10_swimsOne (kG K) v0 kv0 v1 S) cb10 kv0 ml_X10_413 in_yX10_swimsOne se_yX10_swimsOne ii_RX10 co_yX10_swimsOne hy_X10_swimsOne (hRd hR (by decide) (by decide)) rfl (Nat.le_of_ble_eq_true rfl) dX10_monthGoes_169 (fun _ S6 _ wS6 => ?_)
        exact t_X10_monthGoes_172 X hR ih v0 kv0 v1 S6 wS6
      · exact t_X10_monthGoes_172 X hR ih v0 kv0 v1 S w
set_option maxRecDepth 20000 in
def b_X10_monthGoes_134 (q28 : Nat → Int32 → St → Option (Unit × St)) (v0 : Nat) (v1 : Int32) (S : St) : Option (Unit × St) := nm (v1 + (1 : Int32)) fun x1 => q28 v0 x1 S
set_option maxRecDepth 20000 in
theorem t_X10_monthGoes_134 {K : KK} (X : CX K cX10_monthGoes 2 RX10 none) (hR : kR K = rmD 7) {q28 : Nat → Int32 → St → Option (Unit × St)} (hq28 : ∀ (v0 : Nat) (kv0 : KA (kDn K) v0 (0, 10)) (v1 : Int32) (S : St), WT (kDn K) S.2.2 → JX K (Zm K (fun _ : Unit => none)) 28 [some (.ref v0), some (.int v1)] [] (rwN (kN K) S) (kn K) 0 0 (q28 v0 v1 S)) (v0 : Nat) (kv0 : KA (kDn K) v0 (0, 10)) (v1 : Int32) (S : St) (w : WT (kDn K) S.2.2) : JX K (Zm K (fun _ : Unit => none)) 134 [some (.ref v0), some (.int v1)] [] (rwN (kN K) S) (kn K) 0 0 (b_X10_monthGoes_134 q28 v0 v1 S) := by
  unfold b_X10_monthGoes_134
  refine J_nmv (v1 + (1 : Int32)) (fun x1 ex1 => ?_)
  refine J_iinc X (v := x1) (ls' := [some (.ref v0), some (.int x1)]) dX10_monthGoes_134 (by decide) rfl (by rw [ex1]; rfl) rfl ?_
  refine J_goto X (tgt := 28) dX10_monthGoes_137 (by decide) ?_
  exact hq28 v0 kv0 x1 S w
set_option maxRecDepth 20000 in
def b_X10_monthGoes_124 (q28 : Nat → Int32 → St → Option (Unit × St)) (v0 : Nat) (v1 : Int32) (S : St) : Option (Unit × St) := (ix ((32 : Int32) + v1) 55).bind fun j1 => nm (sI S (S.2.2 v0 52) j1 (1 : Int32)) fun S2 => b_X10_monthGoes_134 q28 v0 v1 S2
set_option maxRecDepth 20000 in
theorem t_X10_monthGoes_124 {K : KK} (X : CX K cX10_monthGoes 2 RX10 none) (hR : kR K = rmD 7) {q28 : Nat → Int32 → St → Option (Unit × St)} (hq28 : ∀ (v0 : Nat) (kv0 : KA (kDn K) v0 (0, 10)) (v1 : Int32) (S : St), WT (kDn K) S.2.2 → JX K (Zm K (fun _ : Unit => none)) 28 [some (.ref v0), some (.int v1)] [] (rwN (kN K) S) (kn K) 0 0 (q28 v0 v1 S)) (v0 : Nat) (kv0 : KA (kDn K) v0 (0, 10)) (v1 : Int32) (S : St) (w : WT (kDn K) S.2.2) : JX K (Zm K (fun _ : Unit => none)) 124 [some (.ref v0), some (.int v1)] [] (rwN (kN K) S) (kn K) 0 0 (b_X10_monthGoes_124 q28 v0 v1 S) := by
  unfold b_X10_monthGoes_124
  refine J_aload_n X dX10_monthGoes_124 (i := 0) rfl rfl ?_
  refine T_getR X (kf := 52) cb10 kv0 (by decide) fl_X10_122 (fun _ _ _ => rfl) dX10_monthGoes_125 ?_
  refine J_bipush X (v := (32 : Int32)) dX10_monthGoes_128 (by decide) ?_
  refine J_iload_n X dX10_monthGoes_130 (i := 1) rfl rfl ?_
  refine J_iadd X dX10_monthGoes_131 ?_
  refine J_iconst X (v := (1 : Int32)) dX10_monthGoes_132 (by decide) ?_
  refine T_iast X (w.1 _ _ kv0 52 _ rfl) dX10_monthGoes_133 (fun j1 S2 hS2 => ?_)
  have wS2 : WT (kDn K) S2.2.2 := by rw [hS2]; exact w
  clear hS2
  exact t_X10_monthGoes_134 X hR hq28 v0 kv0 v1 S2 wS2
set_option maxRecDepth 20000 in
def b_X10_monthGoes_28 : Nat → Nat → Int32 → St → Option (Unit × St)
  | 0, _, _, _ => none
  | fu + 1, v0, v1, S => (ix (S.1 v0 18) 2).bind fun j1 => if (S.1 (S.2.2 v0 25) j1) ≤ v1 then (b_X10_monthGoes_142 FU v0 (0 : Int32) S) else (bd (f_X10_isOff v0 v1 S) fun r3 S2 => if r3 = 0 then ((ix v1 6).bind fun j4 => bd (f_X10_within (S2.1 (S2.2.2 v0 58) j4) (0 : Int32) (9 : Int32) S2) fun r6 S5 => (ix ((20 : Int32) + v1) 55).bind fun j7 => nm (sI S5 (S2.2.2 v0 52) j7 r6) fun S8 => (ix v1 6).bind fun j9 => bd (f_X10_within (S8.1 (S8.2.2 v0 59) j9) (0 : Int32) (9 : Int32) S8) fun r11 S10 => (ix ((26 : Int32) + v1) 55).bind fun j12 => nm (sI S10 (S8.2.2 v0 52) j12 r11) fun S13 => (ix ((26 : Int32) + v1) 55).bind fun j14 => (ix (S13.1 v0 18) 2).bind fun j15 => if (S13.1 (S13.2.2 v0 33) j15) < (S13.1 (S13.2.2 v0 52) j14) then (b_X10_monthGoes_124 (b_X10_monthGoes_28 fu) v0 v1 S13) else ((ix v1 6).bind fun j16 => if (S13.1 (S13.2.2 v0 60) j16) = 0 then (b_X10_monthGoes_134 (b_X10_monthGoes_28 fu) v0 v1 S13) else (b_X10_monthGoes_124 (b_X10_monthGoes_28 fu) v0 v1 S13))) else (b_X10_monthGoes_134 (b_X10_monthGoes_28 fu) v0 v1 S2))
set_option maxRecDepth 20000 in
theorem t_X10_monthGoes_28 {K : KK} (X : CX K cX10_monthGoes 2 RX10 none) (hR : kR K = rmD 7) : ∀ (fu : Nat) (v0 : Nat) (kv0 : KA (kDn K) v0 (0, 10)) (v1 : Int32) (S : St), WT (kDn K) S.2.2 → JX K (Zm K (fun _ : Unit => none)) 28 [some (.ref v0), some (.int v1)] [] (rwN (kN K) S) (kn K) 0 0 (b_X10_monthGoes_28 fu v0 v1 S) := by
  intro fu
  induction fu with
  | zero => intro v0 kv0 v1 S w; exact J_none
  | succ fu ih =>
    intro v0 kv0 v1 S w
    rw [b_X10_monthGoes_28]
    refine J_iload_n X dX10_monthGoes_28 (i := 1) rfl rfl ?_
    refine J_aload_n X dX10_monthGoes_29 (i := 0) rfl rfl ?_
    refine T_getR X (kf := 25) cb10 kv0 (by decide) fl_X10_52 (fun _ _ _ => rfl) dX10_monthGoes_30 ?_
    refine J_aload_n X dX10_monthGoes_33 (i := 0) rfl rfl ?_
    refine T_getI X (kf := 18) cb10 kv0 (by decide) fl_X10_239 (fun _ _ _ => rfl) dX10_monthGoes_34 ?_
    refine T_iald X (w.1 _ _ kv0 25 _ rfl) dX10_monthGoes_37 (fun j1 => ?_)
    refine J_icmp_ge X (tgt := 140) dX10_monthGoes_38 (by decide) ?_ ?_
    · refine J_iconst X (v := (0 : Int32)) dX10_monthGoes_140 (by decide) ?_
      refine J_istore_n X (i := 1) (ls' := [some (.ref v0), some (.int (0 : Int32))]) dX10_monthGoes_141 rfl (by decide) rfl ?_
      exact t_X10_monthGoes_142 X hR FU v0 kv0 (0 : Int32) S w
    · refine J_aload_n X dX10_monthGoes_41 (i := 0) rfl rfl ?_
      refine J_iload_n X dX10_monthGoes_42 (i := 1) rfl rfl ?_
      refine T_callV (As := [.int v1]) w X (C_X10_isOff (kG K) v0 kv0 v1 S) cb10 kv0 ml_X10_360 in_yX10_isOff se_yX10_isOff ii_RX10 co_yX10_isOff hy_X10_isOff (hRd hR (by decide) (by decide)) rfl (Nat.le_of_ble_eq_true rfl) dX10_monthGoes_43 (fun r3 S2 _ wS2 => ?_)
      refine J_if_eq X (tgt := 52) dX10_monthGoes_46 (by decide) ?_ ?_
      · refine J_aload_n X dX10_monthGoes_52 (i := 0) rfl rfl ?_
        refine T_getR X (kf := 52) cb10 kv0 (by decide) fl_X10_122 (fun _ _ _ => rfl) dX10_monthGoes_53 ?_
        refine J_bipush X (v := (20 : Int32)) dX10_monthGoes_56 (by decide) ?_
        refine J_iload_n X dX10_monthGoes_58 (i := 1) rfl rfl ?_
        refine J_iadd X dX10_monthGoes_59 ?_
        refine J_aload_n X dX10_monthGoes_60 (i := 0) rfl rfl ?_
        refine T_getR X (kf := 58) cb10 kv0 (by decide) fl_X10_128 (fun _ _ _ => rfl) dX10_monthGoes_61 ?_
        refine J_iload_n X dX10_monthGoes_64 (i := 1) rfl rfl ?_
        refine T_iald X (wS2.1 _ _ kv0 58 _ rfl) dX10_monthGoes_65 (fun j4 => ?_)
        refine J_iconst X (v := (0 : Int32)) dX10_monthGoes_66 (by decide) ?_
        refine J_bipush X (v := (9 : Int32)) dX10_monthGoes_67 (by decide) ?_
        refine T_callS (As := [.int (S2.1 (S2.2.2 v0 58) j4), .int (0 : Int32), .int (9 : Int32)]) wS2 X (C_X10_within (kG K) (S2.1 (S2.2.2 v0 58) j4) (0 : Int32) (9 : Int32) S2) ml_X10_369 st_yX10_within ii_RX10 co_yX10_within hy_X10_within (hRd hR (by decide) (by decide)) rfl (Nat.le_of_ble_eq_true rfl) dX10_monthGoes_69 (fun r6 S5 _ wS5 => ?_)
        refine T_iast X (wS2.1 _ _ kv0 52 _ rfl) dX10_monthGoes_72 (fun j7 S8 hS8 => ?_)
        have wS8 : WT (kDn K) S8.2.2 := by rw [hS8]; exact wS5
        clear hS8
        refine J_aload_n X dX10_monthGoes_73 (i := 0) rfl rfl ?_
        refine T_getR X (kf := 52) cb10 kv0 (by decide) fl_X10_122 (fun _ _ _ => rfl) dX10_monthGoes_74 ?_
        refine J_bipush X (v := (26 : Int32)) dX10_monthGoes_77 (by decide) ?_
        refine J_iload_n X dX10_monthGoes_79 (i := 1) rfl rfl ?_
        refine J_iadd X dX10_monthGoes_80 ?_
        refine J_aload_n X dX10_monthGoes_81 (i := 0) rfl rfl ?_
        refine T_getR X (kf := 59) cb10 kv0 (by decide) fl_X10_131 (fun _ _ _ => rfl) dX10_monthGoes_82 ?_
        refine J_iload_n X dX10_monthGoes_85 (i := 1) rfl rfl ?_
        refine T_iald X (wS8.1 _ _ kv0 59 _ rfl) dX10_monthGoes_86 (fun j9 => ?_)
        refine J_iconst X (v := (0 : Int32)) dX10_monthGoes_87 (by decide) ?_
        refine J_bipush X (v := (9 : Int32)) dX10_monthGoes_88 (by decide) ?_
        refine T_callS (As := [.int (S8.1 (S8.2.2 v0 59) j9), .int (0 : Int32), .int (9 : Int32)]) wS8 X (C_X10_within (kG K) (S8.1 (S8.2.2 v0 59) j9) (0 : Int32) (9 : Int32) S8) ml_X10_369 st_yX10_within ii_RX10 co_yX10_within hy_X10_within (hRd hR (by decide) (by decide)) rfl (Nat.le_of_ble_eq_true rfl) dX10_monthGoes_90 (fun r11 S10 _ wS10 => ?_)
        refine T_iast X (wS8.1 _ _ kv0 52 _ rfl) dX10_monthGoes_93 (fun j12 S13 hS13 => ?_)
        have wS13 : WT (kDn K) S13.2.2 := by rw [hS13]; exact wS10
        clear hS13
        refine J_aload_n X dX10_monthGoes_94 (i := 0) rfl rfl ?_
        refine T_getR X (kf := 52) cb10 kv0 (by decide) fl_X10_122 (fun _ _ _ => rfl) dX10_monthGoes_95 ?_
        refine J_bipush X (v := (26 : Int32)) dX10_monthGoes_98 (by decide) ?_
        refine J_iload_n X dX10_monthGoes_100 (i := 1) rfl rfl ?_
        refine J_iadd X dX10_monthGoes_101 ?_
        refine T_iald X (wS13.1 _ _ kv0 52 _ rfl) dX10_monthGoes_102 (fun j14 => ?_)
        refine J_aload_n X dX10_monthGoes_103 (i := 0) rfl rfl ?_
        refine T_getR X (kf := 33) cb10 kv0 (by decide) fl_X10_76 (fun _ _ _ => rfl) dX10_monthGoes_104 ?_
        refine J_aload_n X dX10_monthGoes_107 (i := 0) rfl rfl ?_
        refine T_getI X (kf := 18) cb10 kv0 (by decide) fl_X10_239 (fun _ _ _ => rfl) dX10_monthGoes_108 ?_
        refine T_iald X (wS13.1 _ _ kv0 33 _ rfl) dX10_monthGoes_111 (fun j15 => ?_)
        refine J_icmp_gt X (tgt := 124) dX10_monthGoes_112 (by decide) ?_ ?_
        · exact t_X10_monthGoes_124 X hR ih v0 kv0 v1 S13 wS13
        · refine J_aload_n X dX10_monthGoes_115 (i := 0) rfl rfl ?_
          refine T_getR X (kf := 60) cb10 kv0 (by decide) fl_X10_134 (fun _ _ _ => rfl) dX10_monthGoes_116 ?_
          refine J_iload_n X dX10_monthGoes_119 (i := 1) rfl rfl ?_
          refine T_zald X (wS13.1 _ _ kv0 60 _ rfl) dX10_monthGoes_120 (fun j16 => ?_)
          refine J_if_eq X (tgt := 134) dX10_monthGoes_121 (by decide) ?_ ?_
          · exact t_X10_monthGoes_134 X hR ih v0 kv0 v1 S13 wS13
          · exact t_X10_monthGoes_124 X hR ih v0 kv0 v1 S13 wS13
      · refine J_goto X (tgt := 134) dX10_monthGoes_49 (by decide) ?_
        exact t_X10_monthGoes_134 X hR ih v0 kv0 v1 S2 wS2
set_option maxRecDepth 20000 in
def b_X10_monthGoes_2 : Nat → Nat → Int32 → St → Option (Unit × St)
  | 0, _, _, _ => none
  | fu + 1, v0, v1, S => (ix (S.1 v0 18) 2).bind fun j1 => if (S.1 (S.2.2 v0 25) j1) ≤ v1 then (b_X10_monthGoes_28 FU v0 (0 : Int32) S) else (bd (f_X10_looksAt v0 v1 S) fun _ S2 => nm (v1 + (1 : Int32)) fun x4 => b_X10_monthGoes_2 fu v0 x4 S2)
set_option maxRecDepth 20000 in
theorem t_X10_monthGoes_2 {K : KK} (X : CX K cX10_monthGoes 2 RX10 none) (hR : kR K = rmD 7) : ∀ (fu : Nat) (v0 : Nat) (kv0 : KA (kDn K) v0 (0, 10)) (v1 : Int32) (S : St), WT (kDn K) S.2.2 → JX K (Zm K (fun _ : Unit => none)) 2 [some (.ref v0), some (.int v1)] [] (rwN (kN K) S) (kn K) 0 0 (b_X10_monthGoes_2 fu v0 v1 S) := by
  intro fu
  induction fu with
  | zero => intro v0 kv0 v1 S w; exact J_none
  | succ fu ih =>
    intro v0 kv0 v1 S w
    rw [b_X10_monthGoes_2]
    refine J_iload_n X dX10_monthGoes_2 (i := 1) rfl rfl ?_
    refine J_aload_n X dX10_monthGoes_3 (i := 0) rfl rfl ?_
    refine T_getR X (kf := 25) cb10 kv0 (by decide) fl_X10_52 (fun _ _ _ => rfl) dX10_monthGoes_4 ?_
    refine J_aload_n X dX10_monthGoes_7 (i := 0) rfl rfl ?_
    refine T_getI X (kf := 18) cb10 kv0 (by decide) fl_X10_239 (fun _ _ _ => rfl) dX10_monthGoes_8 ?_
    refine T_iald X (w.1 _ _ kv0 25 _ rfl) dX10_monthGoes_11 (fun j1 => ?_)
    refine J_icmp_ge X (tgt := 26) dX10_monthGoes_12 (by decide) ?_ ?_
    · refine J_iconst X (v := (0 : Int32)) dX10_monthGoes_26 (by decide) ?_
      refine J_istore_n X (i := 1) (ls' := [some (.ref v0), some (.int (0 : Int32))]) dX10_monthGoes_27 rfl (by decide) rfl ?_
      exact t_X10_monthGoes_28 X hR FU v0 kv0 (0 : Int32) S w
    · refine J_aload_n X dX10_monthGoes_15 (i := 0) rfl rfl ?_
      refine J_iload_n X dX10_monthGoes_16 (i := 1) rfl rfl ?_
      refine T_callV (As := [.int v1]) w X (C_X10_looksAt (kG K) v0 kv0 v1 S) cb10 kv0 ml_X10_410 in_yX10_looksAt se_yX10_looksAt ii_RX10 co_yX10_looksAt hy_X10_looksAt (hRd hR (by decide) (by decide)) rfl (Nat.le_of_ble_eq_true rfl) dX10_monthGoes_17 (fun _ S2 _ wS2 => ?_)
      refine J_nmv (v1 + (1 : Int32)) (fun x4 ex4 => ?_)
      refine J_iinc X (v := x4) (ls' := [some (.ref v0), some (.int x4)]) dX10_monthGoes_20 (by decide) rfl (by rw [ex4]; rfl) rfl ?_
      refine J_goto X (tgt := 2) dX10_monthGoes_23 (by decide) ?_
      exact ih v0 kv0 x4 S2 wS2
set_option maxRecDepth 20000 in
def f_X10_monthGoes (v0 : Nat) (S : St) : Option (Unit × St) := b_X10_monthGoes_2 FU v0 (0 : Int32) S
set_option maxRecDepth 20000 in
theorem t_X10_monthGoes_0 {K : KK} (X : CX K cX10_monthGoes 2 RX10 none) (hR : kR K = rmD 7) (v0 : Nat) (kv0 : KA (kDn K) v0 (0, 10)) (S : St) (w : WT (kDn K) S.2.2) : JX K (Zm K (fun _ : Unit => none)) 0 [some (.ref v0), none] [] (rwN (kN K) S) (kn K) 0 0 (f_X10_monthGoes v0 S) := by
  unfold f_X10_monthGoes
  refine J_iconst X (v := (0 : Int32)) dX10_monthGoes_0 (by decide) ?_
  refine J_istore_n X (i := 1) (ls' := [some (.ref v0), some (.int (0 : Int32))]) dX10_monthGoes_1 rfl (by decide) rfl ?_
  exact t_X10_monthGoes_2 X hR FU v0 kv0 (0 : Int32) S w
theorem C_X10_monthGoes (G : GG) (v0 : Nat) (kv0 : KA (gD G) v0 (0, 10)) (S : St) : CM G yX10_monthGoes cX10_monthGoes 2 none 7 [.ref v0] S (fun _ : Unit => none) (f_X10_monthGoes v0 S) :=
  CM_of (by decide) (Nat.le_of_ble_eq_true rfl) rfl (fun K hG X hR w => by subst hG; exact t_X10_monthGoes_0 X hR v0 kv0 S w)
-- ==== X10_goes
theorem hy_X10_goes : yX10_goes.cls ≠ "java/lang/invoke/MethodHandle" ∧ yX10_goes.cls ≠ "java/lang/invoke/VarHandle" ∧ (parseMethodDescriptor yX10_goes.desc).map (fun d => d.parameters.length) = some 1 := by decide +kernel
set_option maxRecDepth 20000 in
def b_X10_goes_2 : Nat → Nat → Int32 → Int32 → St → Option (Unit × St)
  | 0, _, _, _, _ => none
  | fu + 1, v0, v1, v2, S => if v1 ≤ v2 then (some ((), S)) else (bd (f_X10_monthGoes v0 S) fun _ S1 => nm (v2 + (1 : Int32)) fun x3 => b_X10_goes_2 fu v0 v1 x3 S1)
set_option maxRecDepth 20000 in
theorem t_X10_goes_2 {K : KK} (X : CX K cX10_goes 3 RX10 none) (hR : kR K = rmD 8) : ∀ (fu : Nat) (v0 : Nat) (kv0 : KA (kDn K) v0 (0, 10)) (v1 : Int32) (v2 : Int32) (S : St), WT (kDn K) S.2.2 → JX K (Zm K (fun _ : Unit => none)) 2 [some (.ref v0), some (.int v1), some (.int v2)] [] (rwN (kN K) S) (kn K) 0 0 (b_X10_goes_2 fu v0 v1 v2 S) := by
  intro fu
  induction fu with
  | zero => intro v0 kv0 v1 v2 S w; exact J_none
  | succ fu ih =>
    intro v0 kv0 v1 v2 S w
    rw [b_X10_goes_2]
    refine J_iload_n X dX10_goes_2 (i := 2) rfl rfl ?_
    refine J_iload_n X dX10_goes_3 (i := 1) rfl rfl ?_
    refine J_icmp_ge X (tgt := 17) dX10_goes_4 (by decide) ?_ ?_
    · exact T_vret w X dX10_goes_17
    · refine J_aload_n X dX10_goes_7 (i := 0) rfl rfl ?_
      refine T_callV (As := []) w X (C_X10_monthGoes (kG K) v0 kv0 S) cb10 kv0 ml_X10_416 in_yX10_monthGoes se_yX10_monthGoes ii_RX10 co_yX10_monthGoes hy_X10_monthGoes (hRd hR (by decide) (by decide)) rfl (Nat.le_of_ble_eq_true rfl) dX10_goes_8 (fun _ S1 _ wS1 => ?_)
      refine J_nmv (v2 + (1 : Int32)) (fun x3 ex3 => ?_)
      refine J_iinc X (v := x3) (ls' := [some (.ref v0), some (.int v1), some (.int x3)]) dX10_goes_11 (by decide) rfl (by rw [ex3]; rfl) rfl ?_
      refine J_goto X (tgt := 2) dX10_goes_14 (by decide) ?_
      exact ih v0 kv0 v1 x3 S1 wS1
set_option maxRecDepth 20000 in
def f_X10_goes (v0 : Nat) (v1 : Int32) (S : St) : Option (Unit × St) := b_X10_goes_2 FU v0 v1 (0 : Int32) S
set_option maxRecDepth 20000 in
theorem t_X10_goes_0 {K : KK} (X : CX K cX10_goes 3 RX10 none) (hR : kR K = rmD 8) (v0 : Nat) (kv0 : KA (kDn K) v0 (0, 10)) (v1 : Int32) (S : St) (w : WT (kDn K) S.2.2) : JX K (Zm K (fun _ : Unit => none)) 0 [some (.ref v0), some (.int v1), none] [] (rwN (kN K) S) (kn K) 0 0 (f_X10_goes v0 v1 S) := by
  unfold f_X10_goes
  refine J_iconst X (v := (0 : Int32)) dX10_goes_0 (by decide) ?_
  refine J_istore_n X (i := 2) (ls' := [some (.ref v0), some (.int v1), some (.int (0 : Int32))]) dX10_goes_1 rfl (by decide) rfl ?_
  exact t_X10_goes_2 X hR FU v0 kv0 v1 (0 : Int32) S w
theorem C_X10_goes (G : GG) (v0 : Nat) (kv0 : KA (gD G) v0 (0, 10)) (v1 : Int32) (S : St) : CM G yX10_goes cX10_goes 3 none 8 [.ref v0, .int v1] S (fun _ : Unit => none) (f_X10_goes v0 v1 S) :=
  CM_of (by decide) (Nat.le_of_ble_eq_true rfl) rfl (fun K hG X hR w => by subst hG; exact t_X10_goes_0 X hR v0 kv0 v1 S w)
-- ==== X10_mermaid
theorem hy_X10_mermaid : yX10_mermaid.cls ≠ "java/lang/invoke/MethodHandle" ∧ yX10_mermaid.cls ≠ "java/lang/invoke/VarHandle" ∧ (parseMethodDescriptor yX10_mermaid.desc).map (fun d => d.parameters.length) = some 2 := by decide +kernel
set_option maxRecDepth 20000 in
def f_X10_mermaid (v0 : Nat) (v1 : Int32) (v2 : Int32) (S : St) : Option (Int32 × St) := bd (f_X10_isMermaid v0 v1 S) fun r2 S1 => if r2 = 0 then (some ((-100 : Int32), S1)) else (bd (f_X10_in v2 (0 : Int32) (4 : Int32) S1) fun r4 S3 => if r4 = 0 then (some ((-100 : Int32), S3)) else (if v2 = (4 : Int32) then ((ix ((16 : Int32) + v1) 55).bind fun j5 => some ((1 : Int32) - (S3.1 (S3.2.2 v0 51) j5), S3)) else ((ix (((4 : Int32) * v2) + v1) 55).bind fun j6 => some (S3.1 (S3.2.2 v0 51) j6, S3))))
set_option maxRecDepth 20000 in
theorem t_X10_mermaid_0 {K : KK} (X : CX K cX10_mermaid 3 RX10 (some .int)) (hR : kR K = rmD 2) (v0 : Nat) (kv0 : KA (kDn K) v0 (0, 10)) (v1 : Int32) (v2 : Int32) (S : St) (w : WT (kDn K) S.2.2) : JX K (Zm K (fun v : Int32 => some (.int v))) 0 [some (.ref v0), some (.int v1), some (.int v2)] [] (rwN (kN K) S) (kn K) 0 0 (f_X10_mermaid v0 v1 v2 S) := by
  unfold f_X10_mermaid
  refine J_aload_n X dX10_mermaid_0 (i := 0) rfl rfl ?_
  refine J_iload_n X dX10_mermaid_1 (i := 1) rfl rfl ?_
  refine T_callV (As := [.int v1]) w X (C_X10_isMermaid (kG K) v0 kv0 v1 S) cb10 kv0 ml_X10_419 in_yX10_isMermaid se_yX10_isMermaid ii_RX10 co_yX10_isMermaid hy_X10_isMermaid (hRd hR (by decide) (by decide)) rfl (Nat.le_of_ble_eq_true rfl) dX10_mermaid_2 (fun r2 S1 _ wS1 => ?_)
  refine J_if_eq X (tgt := 17) dX10_mermaid_5 (by decide) ?_ ?_
  · refine J_bipush X (v := (-100 : Int32)) dX10_mermaid_17 (by decide) ?_
    exact T_iret wS1 X dX10_mermaid_19
  · refine J_iload_n X dX10_mermaid_8 (i := 2) rfl rfl ?_
    refine J_iconst X (v := (0 : Int32)) dX10_mermaid_9 (by decide) ?_
    refine J_iconst X (v := (4 : Int32)) dX10_mermaid_10 (by decide) ?_
    refine T_callS (As := [.int v2, .int (0 : Int32), .int (4 : Int32)]) wS1 X (C_X10_in (kG K) v2 (0 : Int32) (4 : Int32) S1) ml_X10_325 st_yX10_in ii_RX10 co_yX10_in hy_X10_in (hRd hR (by decide) (by decide)) rfl (Nat.le_of_ble_eq_true rfl) dX10_mermaid_11 (fun r4 S3 _ wS3 => ?_)
    refine J_if_ne X (tgt := 20) dX10_mermaid_14 (by decide) ?_ ?_
    · refine J_bipush X (v := (-100 : Int32)) dX10_mermaid_17 (by decide) ?_
      exact T_iret wS3 X dX10_mermaid_19
    · refine J_iload_n X dX10_mermaid_20 (i := 2) rfl rfl ?_
      refine J_iconst X (v := (4 : Int32)) dX10_mermaid_21 (by decide) ?_
      refine J_icmp_ne X (tgt := 39) dX10_mermaid_22 (by decide) ?_ ?_
      · refine J_iconst X (v := (1 : Int32)) dX10_mermaid_25 (by decide) ?_
        refine J_aload_n X dX10_mermaid_26 (i := 0) rfl rfl ?_
        refine T_getR X (kf := 51) cb10 kv0 (by decide) fl_X10_119 (fun _ _ _ => rfl) dX10_mermaid_27 ?_
        refine J_bipush X (v := (16 : Int32)) dX10_mermaid_30 (by decide) ?_
        refine J_iload_n X dX10_mermaid_32 (i := 1) rfl rfl ?_
        refine J_iadd X dX10_mermaid_33 ?_
        refine T_iald X (wS3.1 _ _ kv0 51 _ rfl) dX10_mermaid_34 (fun j5 => ?_)
        refine J_isub X dX10_mermaid_35 ?_
        refine J_goto X (tgt := 49) dX10_mermaid_36 (by decide) ?_
        exact T_iret wS3 X dX10_mermaid_49
      · refine J_aload_n X dX10_mermaid_39 (i := 0) rfl rfl ?_
        refine T_getR X (kf := 51) cb10 kv0 (by decide) fl_X10_119 (fun _ _ _ => rfl) dX10_mermaid_40 ?_
        refine J_iconst X (v := (4 : Int32)) dX10_mermaid_43 (by decide) ?_
        refine J_iload_n X dX10_mermaid_44 (i := 2) rfl rfl ?_
        refine J_imul X dX10_mermaid_45 ?_
        refine J_iload_n X dX10_mermaid_46 (i := 1) rfl rfl ?_
        refine J_iadd X dX10_mermaid_47 ?_
        refine T_iald X (wS3.1 _ _ kv0 51 _ rfl) dX10_mermaid_48 (fun j6 => ?_)
        exact T_iret wS3 X dX10_mermaid_49
theorem C_X10_mermaid (G : GG) (v0 : Nat) (kv0 : KA (gD G) v0 (0, 10)) (v1 : Int32) (v2 : Int32) (S : St) : CM G yX10_mermaid cX10_mermaid 3 (some .int) 2 [.ref v0, .int v1, .int v2] S (fun v : Int32 => some (.int v)) (f_X10_mermaid v0 v1 v2 S) :=
  CM_of (by decide) (Nat.le_of_ble_eq_true rfl) rfl (fun K hG X hR w => by subst hG; exact t_X10_mermaid_0 X hR v0 kv0 v1 v2 S w)
-- ==== X10_person
theorem hy_X10_person : yX10_person.cls ≠ "java/lang/invoke/MethodHandle" ∧ yX10_person.cls ≠ "java/lang/invoke/VarHandle" ∧ (parseMethodDescriptor yX10_person.desc).map (fun d => d.parameters.length) = some 2 := by decide +kernel
set_option maxRecDepth 20000 in
def f_X10_person (v0 : Nat) (v1 : Int32) (v2 : Int32) (S : St) : Option (Int32 × St) := bd (f_X10_isPerson v0 v1 S) fun r2 S1 => if r2 = 0 then (some ((-100000 : Int32), S1)) else (bd (f_X10_copies v0 S1) fun _ S3 => (ix ((20 : Int32) + v1) 55).bind fun j5 => nm (S3.1 (S3.2.2 v0 52) j5) fun x6 => (ix ((26 : Int32) + v1) 55).bind fun j7 => nm (S3.1 (S3.2.2 v0 52) j7) fun x8 => bd (f_X10_wornBits v0 v1 S3) fun r10 S9 => bd (f_X10_pullsBy v0 r10 v1 x6 x8 S9) fun _ S11 => if v2 = (0 : Int32) then (some (x6, S11)) else if v2 = (1 : Int32) then (some (x8, S11)) else if v2 = (2 : Int32) then ((ix (((6 : Int32) * (S11.1 v0 18)) + v1) 12).bind fun j13 => some (S11.1 (S11.2.2 v0 28) j13, S11)) else if v2 = (3 : Int32) then ((ix ((32 : Int32) + v1) 55).bind fun j14 => some (S11.1 (S11.2.2 v0 52) j14, S11)) else if v2 = (4 : Int32) then (some (S11.1 v0 55, S11)) else if v2 = (5 : Int32) then (some (S11.1 v0 56, S11)) else if v2 = (6 : Int32) then (bd (f_X10_standsAt v0 v1 x6 x8 S11) fun r16 S15 => some (r16, S15)) else if v2 = (7 : Int32) then (bd (f_X10_stormOf v0 v1 S11) fun r18 S17 => some (r18, S17)) else if v2 = (8 : Int32) then (bd (f_X10_wearsOf v0 v1 S11) fun r20 S19 => some (r20, S19)) else (some ((-100000 : Int32), S11)))
set_option maxRecDepth 20000 in
theorem t_X10_person_0 {K : KK} (X : CX K cX10_person 5 RX10 (some .int)) (hR : kR K = rmD 4) (v0 : Nat) (kv0 : KA (kDn K) v0 (0, 10)) (v1 : Int32) (v2 : Int32) (S : St) (w : WT (kDn K) S.2.2) : JX K (Zm K (fun v : Int32 => some (.int v))) 0 [some (.ref v0), some (.int v1), some (.int v2), none, none] [] (rwN (kN K) S) (kn K) 0 0 (f_X10_person v0 v1 v2 S) := by
  unfold f_X10_person
  refine J_aload_n X dX10_person_0 (i := 0) rfl rfl ?_
  refine J_iload_n X dX10_person_1 (i := 1) rfl rfl ?_
  refine T_callV (As := [.int v1]) w X (C_X10_isPerson (kG K) v0 kv0 v1 S) cb10 kv0 ml_X10_422 in_yX10_isPerson se_yX10_isPerson ii_RX10 co_yX10_isPerson hy_X10_isPerson (hRd hR (by decide) (by decide)) rfl (Nat.le_of_ble_eq_true rfl) dX10_person_2 (fun r2 S1 _ wS1 => ?_)
  refine J_if_ne X (tgt := 12) dX10_person_5 (by decide) ?_ ?_
  · refine J_ldcw X kc_X10_425 dX10_person_8 ?_
    exact T_iret wS1 X dX10_person_11
  · refine J_aload_n X dX10_person_12 (i := 0) rfl rfl ?_
    refine T_callV (As := []) wS1 X (C_X10_copies (kG K) v0 kv0 S1) cb10 kv0 ml_X10_335 in_yX10_copies se_yX10_copies ii_RX10 co_yX10_copies hy_X10_copies (hRd hR (by decide) (by decide)) rfl (Nat.le_of_ble_eq_true rfl) dX10_person_13 (fun _ S3 _ wS3 => ?_)
    refine J_aload_n X dX10_person_16 (i := 0) rfl rfl ?_
    refine T_getR X (kf := 52) cb10 kv0 (by decide) fl_X10_122 (fun _ _ _ => rfl) dX10_person_17 ?_
    refine J_bipush X (v := (20 : Int32)) dX10_person_20 (by decide) ?_
    refine J_iload_n X dX10_person_22 (i := 1) rfl rfl ?_
    refine J_iadd X dX10_person_23 ?_
    refine T_iald X (wS3.1 _ _ kv0 52 _ rfl) dX10_person_24 (fun j5 => ?_)
    refine J_nmi (fun x6 => ?_)
    refine J_istore_n X (i := 3) (ls' := [some (.ref v0), some (.int v1), some (.int v2), some (.int x6), none]) dX10_person_25 rfl (by decide) rfl ?_
    refine J_aload_n X dX10_person_26 (i := 0) rfl rfl ?_
    refine T_getR X (kf := 52) cb10 kv0 (by decide) fl_X10_122 (fun _ _ _ => rfl) dX10_person_27 ?_
    refine J_bipush X (v := (26 : Int32)) dX10_person_30 (by decide) ?_
    refine J_iload_n X dX10_person_32 (i := 1) rfl rfl ?_
    refine J_iadd X dX10_person_33 ?_
    refine T_iald X (wS3.1 _ _ kv0 52 _ rfl) dX10_person_34 (fun j7 => ?_)
    refine J_nmi (fun x8 => ?_)
    refine J_istore X (ls' := [some (.ref v0), some (.int v1), some (.int v2), some (.int x6), some (.int x8)]) dX10_person_35 (by decide) rfl ?_
    refine J_aload_n X dX10_person_37 (i := 0) rfl rfl ?_
    refine J_aload_n X dX10_person_38 (i := 0) rfl rfl ?_
    refine J_iload_n X dX10_person_39 (i := 1) rfl rfl ?_
    refine T_callV (As := [.int v1]) wS3 X (C_X10_wornBits (kG K) v0 kv0 v1 S3) cb10 kv0 ml_X10_388 in_yX10_wornBits se_yX10_wornBits ii_RX10 co_yX10_wornBits hy_X10_wornBits (hRd hR (by decide) (by decide)) rfl (Nat.le_of_ble_eq_true rfl) dX10_person_40 (fun r10 S9 _ wS9 => ?_)
    refine J_iload_n X dX10_person_43 (i := 1) rfl rfl ?_
    refine J_iload_n X dX10_person_44 (i := 3) rfl rfl ?_
    refine J_iload X dX10_person_45 rfl ?_
    refine T_callV (As := [.int r10, .int v1, .int x6, .int x8]) wS9 X (C_X10_pullsBy (kG K) v0 kv0 r10 v1 x6 x8 S9) cb10 kv0 ml_X10_391 in_yX10_pullsBy se_yX10_pullsBy ii_RX10 co_yX10_pullsBy hy_X10_pullsBy (hRd hR (by decide) (by decide)) rfl (Nat.le_of_ble_eq_true rfl) dX10_person_47 (fun _ S11 _ wS11 => ?_)
    refine J_iload_n X dX10_person_50 (i := 2) rfl rfl ?_
    refine J_ite (fun hc51_0 => ?_) (fun hc51_0 => ?_)
    · refine J_tabIn X (v := (0 : Int32)) (off := 49) (tgt := 100) hc51_0 dX10_person_51 (by decide) (by decide) (by decide) (by decide) ?_
      refine J_iload_n X dX10_person_100 (i := 3) rfl rfl ?_
      exact T_iret wS11 X dX10_person_101
    refine J_ite (fun hc51_1 => ?_) (fun hc51_1 => ?_)
    · refine J_tabIn X (v := (1 : Int32)) (off := 51) (tgt := 102) hc51_1 dX10_person_51 (by decide) (by decide) (by decide) (by decide) ?_
      refine J_iload X dX10_person_102 rfl ?_
      exact T_iret wS11 X dX10_person_104
    refine J_ite (fun hc51_2 => ?_) (fun hc51_2 => ?_)
    · refine J_tabIn X (v := (2 : Int32)) (off := 54) (tgt := 105) hc51_2 dX10_person_51 (by decide) (by decide) (by decide) (by decide) ?_
      refine J_aload_n X dX10_person_105 (i := 0) rfl rfl ?_
      refine T_getR X (kf := 28) cb10 kv0 (by decide) fl_X10_61 (fun _ _ _ => rfl) dX10_person_106 ?_
      refine J_bipush X (v := (6 : Int32)) dX10_person_109 (by decide) ?_
      refine J_aload_n X dX10_person_111 (i := 0) rfl rfl ?_
      refine T_getI X (kf := 18) cb10 kv0 (by decide) fl_X10_239 (fun _ _ _ => rfl) dX10_person_112 ?_
      refine J_imul X dX10_person_115 ?_
      refine J_iload_n X dX10_person_116 (i := 1) rfl rfl ?_
      refine J_iadd X dX10_person_117 ?_
      refine T_iald X (wS11.1 _ _ kv0 28 _ rfl) dX10_person_118 (fun j13 => ?_)
      exact T_iret wS11 X dX10_person_119
    refine J_ite (fun hc51_3 => ?_) (fun hc51_3 => ?_)
    · refine J_tabIn X (v := (3 : Int32)) (off := 69) (tgt := 120) hc51_3 dX10_person_51 (by decide) (by decide) (by decide) (by decide) ?_
      refine J_aload_n X dX10_person_120 (i := 0) rfl rfl ?_
      refine T_getR X (kf := 52) cb10 kv0 (by decide) fl_X10_122 (fun _ _ _ => rfl) dX10_person_121 ?_
      refine J_bipush X (v := (32 : Int32)) dX10_person_124 (by decide) ?_
      refine J_iload_n X dX10_person_126 (i := 1) rfl rfl ?_
      refine J_iadd X dX10_person_127 ?_
      refine T_iald X (wS11.1 _ _ kv0 52 _ rfl) dX10_person_128 (fun j14 => ?_)
      exact T_iret wS11 X dX10_person_129
    refine J_ite (fun hc51_4 => ?_) (fun hc51_4 => ?_)
    · refine J_tabIn X (v := (4 : Int32)) (off := 79) (tgt := 130) hc51_4 dX10_person_51 (by decide) (by decide) (by decide) (by decide) ?_
      refine J_aload_n X dX10_person_130 (i := 0) rfl rfl ?_
      refine T_getI X (kf := 55) cb10 kv0 (by decide) fl_X10_372 (fun _ _ _ => rfl) dX10_person_131 ?_
      exact T_iret wS11 X dX10_person_134
    refine J_ite (fun hc51_5 => ?_) (fun hc51_5 => ?_)
    · refine J_tabIn X (v := (5 : Int32)) (off := 84) (tgt := 135) hc51_5 dX10_person_51 (by decide) (by decide) (by decide) (by decide) ?_
      refine J_aload_n X dX10_person_135 (i := 0) rfl rfl ?_
      refine T_getI X (kf := 56) cb10 kv0 (by decide) fl_X10_375 (fun _ _ _ => rfl) dX10_person_136 ?_
      exact T_iret wS11 X dX10_person_139
    refine J_ite (fun hc51_6 => ?_) (fun hc51_6 => ?_)
    · refine J_tabIn X (v := (6 : Int32)) (off := 89) (tgt := 140) hc51_6 dX10_person_51 (by decide) (by decide) (by decide) (by decide) ?_
      refine J_aload_n X dX10_person_140 (i := 0) rfl rfl ?_
      refine J_iload_n X dX10_person_141 (i := 1) rfl rfl ?_
      refine J_iload_n X dX10_person_142 (i := 3) rfl rfl ?_
      refine J_iload X dX10_person_143 rfl ?_
      refine T_callV (As := [.int v1, .int x6, .int x8]) wS11 X (C_X10_standsAt (kG K) v0 kv0 v1 x6 x8 S11) cb10 kv0 ml_X10_395 in_yX10_standsAt se_yX10_standsAt ii_RX10 co_yX10_standsAt hy_X10_standsAt (hRd hR (by decide) (by decide)) rfl (Nat.le_of_ble_eq_true rfl) dX10_person_145 (fun r16 S15 _ wS15 => ?_)
      exact T_iret wS15 X dX10_person_148
    refine J_ite (fun hc51_7 => ?_) (fun hc51_7 => ?_)
    · refine J_tabIn X (v := (7 : Int32)) (off := 98) (tgt := 149) hc51_7 dX10_person_51 (by decide) (by decide) (by decide) (by decide) ?_
      refine J_aload_n X dX10_person_149 (i := 0) rfl rfl ?_
      refine J_iload_n X dX10_person_150 (i := 1) rfl rfl ?_
      refine T_callV (As := [.int v1]) wS11 X (C_X10_stormOf (kG K) v0 kv0 v1 S11) cb10 kv0 ml_X10_407 in_yX10_stormOf se_yX10_stormOf ii_RX10 co_yX10_stormOf hy_X10_stormOf (hRd hR (by decide) (by decide)) rfl (Nat.le_of_ble_eq_true rfl) dX10_person_151 (fun r18 S17 _ wS17 => ?_)
      exact T_iret wS17 X dX10_person_154
    refine J_ite (fun hc51_8 => ?_) (fun hc51_8 => ?_)
    · refine J_tabIn X (v := (8 : Int32)) (off := 104) (tgt := 155) hc51_8 dX10_person_51 (by decide) (by decide) (by decide) (by decide) ?_
      refine J_aload_n X dX10_person_155 (i := 0) rfl rfl ?_
      refine J_iload_n X dX10_person_156 (i := 1) rfl rfl ?_
      refine T_callV (As := [.int v1]) wS11 X (C_X10_wearsOf (kG K) v0 kv0 v1 S11) cb10 kv0 ml_X10_385 in_yX10_wearsOf se_yX10_wearsOf ii_RX10 co_yX10_wearsOf hy_X10_wearsOf (hRd hR (by decide) (by decide)) rfl (Nat.le_of_ble_eq_true rfl) dX10_person_157 (fun r20 S19 _ wS19 => ?_)
      exact T_iret wS19 X dX10_person_160
    have nhc51_0 := tabne hc51_0 (k := 0) (by decide)
    have nhc51_1 := tabne hc51_1 (k := 1) (by decide)
    have nhc51_2 := tabne hc51_2 (k := 2) (by decide)
    have nhc51_3 := tabne hc51_3 (k := 3) (by decide)
    have nhc51_4 := tabne hc51_4 (k := 4) (by decide)
    have nhc51_5 := tabne hc51_5 (k := 5) (by decide)
    have nhc51_6 := tabne hc51_6 (k := 6) (by decide)
    have nhc51_7 := tabne hc51_7 (k := 7) (by decide)
    have nhc51_8 := tabne hc51_8 (k := 8) (by decide)
    refine J_tabOut X (tgt := 161) dX10_person_51 (tabout 0 8 (fun v h1 h2 => by omega)) (by decide) ?_
    refine J_ldcw X kc_X10_425 dX10_person_161 ?_
    exact T_iret wS11 X dX10_person_164
theorem C_X10_person (G : GG) (v0 : Nat) (kv0 : KA (gD G) v0 (0, 10)) (v1 : Int32) (v2 : Int32) (S : St) : CM G yX10_person cX10_person 5 (some .int) 4 [.ref v0, .int v1, .int v2] S (fun v : Int32 => some (.int v)) (f_X10_person v0 v1 v2 S) :=
  CM_of (by decide) (Nat.le_of_ble_eq_true rfl) rfl (fun K hG X hR w => by subst hG; exact t_X10_person_0 X hR v0 kv0 v1 v2 S w)
-- ==== X10_strand
theorem hy_X10_strand : yX10_strand.cls ≠ "java/lang/invoke/MethodHandle" ∧ yX10_strand.cls ≠ "java/lang/invoke/VarHandle" ∧ (parseMethodDescriptor yX10_strand.desc).map (fun d => d.parameters.length) = some 2 := by decide +kernel
set_option maxRecDepth 20000 in
def f_X10_strand (v0 : Nat) (v1 : Int32) (v2 : Int32) (S : St) : Option (Int32 × St) := bd (f_X10_isStrand v0 v1 S) fun r2 S1 => if r2 = 0 then (some ((-1 : Int32), S1)) else (bd (f_X10_copies v0 S1) fun _ S3 => (ix ((38 : Int32) + v1) 55).bind fun j5 => nm (S3.1 (S3.2.2 v0 52) j5) fun x6 => if v2 = (0 : Int32) then (bd (f_X10_whose v0 v1 S3) fun r8 S7 => some (r8, S7)) else if v2 = (1 : Int32) then (some (x6, S3)) else if v2 = (2 : Int32) then ((ix (((8 : Int32) * (S3.1 v0 18)) + v1) 16).bind fun j9 => some (S3.1 (S3.2.2 v0 32) j9, S3)) else if v2 = (3 : Int32) then ((ix ((46 : Int32) + v1) 55).bind fun j10 => some (S3.1 (S3.2.2 v0 52) j10, S3)) else if v2 = (4 : Int32) then ((ix ((20 : Int32) + x6) 55).bind fun j11 => (ix ((26 : Int32) + x6) 55).bind fun j12 => bd (f_X10_pullAt v0 v1 x6 (S3.1 (S3.2.2 v0 52) j11) (S3.1 (S3.2.2 v0 52) j12) S3) fun r14 S13 => some (r14, S13)) else if v2 = (5 : Int32) then (bd (f_X10_priceOf v0 v1 S3) fun r16 S15 => some (r16, S15)) else if v2 = (6 : Int32) then (bd (f_X10_whose v0 v1 S3) fun r18 S17 => (ix ((20 : Int32) + x6) 55).bind fun j19 => (ix ((26 : Int32) + x6) 55).bind fun j20 => bd (f_X10_farFrom v0 r18 (S17.1 (S17.2.2 v0 52) j19) (S17.1 (S17.2.2 v0 52) j20) S17) fun r22 S21 => some (r22, S21)) else (some ((-1 : Int32), S3)))
set_option maxRecDepth 20000 in
theorem t_X10_strand_0 {K : KK} (X : CX K cX10_strand 4 RX10 (some .int)) (hR : kR K = rmD 3) (v0 : Nat) (kv0 : KA (kDn K) v0 (0, 10)) (v1 : Int32) (v2 : Int32) (S : St) (w : WT (kDn K) S.2.2) : JX K (Zm K (fun v : Int32 => some (.int v))) 0 [some (.ref v0), some (.int v1), some (.int v2), none] [] (rwN (kN K) S) (kn K) 0 0 (f_X10_strand v0 v1 v2 S) := by
  unfold f_X10_strand
  refine J_aload_n X dX10_strand_0 (i := 0) rfl rfl ?_
  refine J_iload_n X dX10_strand_1 (i := 1) rfl rfl ?_
  refine T_callV (As := [.int v1]) w X (C_X10_isStrand (kG K) v0 kv0 v1 S) cb10 kv0 ml_X10_426 in_yX10_isStrand se_yX10_isStrand ii_RX10 co_yX10_isStrand hy_X10_isStrand (hRd hR (by decide) (by decide)) rfl (Nat.le_of_ble_eq_true rfl) dX10_strand_2 (fun r2 S1 _ wS1 => ?_)
  refine J_if_ne X (tgt := 10) dX10_strand_5 (by decide) ?_ ?_
  · refine J_iconst X (v := (-1 : Int32)) dX10_strand_8 (by decide) ?_
    exact T_iret wS1 X dX10_strand_9
  · refine J_aload_n X dX10_strand_10 (i := 0) rfl rfl ?_
    refine T_callV (As := []) wS1 X (C_X10_copies (kG K) v0 kv0 S1) cb10 kv0 ml_X10_335 in_yX10_copies se_yX10_copies ii_RX10 co_yX10_copies hy_X10_copies (hRd hR (by decide) (by decide)) rfl (Nat.le_of_ble_eq_true rfl) dX10_strand_11 (fun _ S3 _ wS3 => ?_)
    refine J_aload_n X dX10_strand_14 (i := 0) rfl rfl ?_
    refine T_getR X (kf := 52) cb10 kv0 (by decide) fl_X10_122 (fun _ _ _ => rfl) dX10_strand_15 ?_
    refine J_bipush X (v := (38 : Int32)) dX10_strand_18 (by decide) ?_
    refine J_iload_n X dX10_strand_20 (i := 1) rfl rfl ?_
    refine J_iadd X dX10_strand_21 ?_
    refine T_iald X (wS3.1 _ _ kv0 52 _ rfl) dX10_strand_22 (fun j5 => ?_)
    refine J_nmi (fun x6 => ?_)
    refine J_istore_n X (i := 3) (ls' := [some (.ref v0), some (.int v1), some (.int v2), some (.int x6)]) dX10_strand_23 rfl (by decide) rfl ?_
    refine J_iload_n X dX10_strand_24 (i := 2) rfl rfl ?_
    refine J_ite (fun hc25_0 => ?_) (fun hc25_0 => ?_)
    · refine J_tabIn X (v := (0 : Int32)) (off := 43) (tgt := 68) hc25_0 dX10_strand_25 (by decide) (by decide) (by decide) (by decide) ?_
      refine J_aload_n X dX10_strand_68 (i := 0) rfl rfl ?_
      refine J_iload_n X dX10_strand_69 (i := 1) rfl rfl ?_
      refine T_callV (As := [.int v1]) wS3 X (C_X10_whose (kG K) v0 kv0 v1 S3) cb10 kv0 ml_X10_354 in_yX10_whose se_yX10_whose ii_RX10 co_yX10_whose hy_X10_whose (hRd hR (by decide) (by decide)) rfl (Nat.le_of_ble_eq_true rfl) dX10_strand_70 (fun r8 S7 _ wS7 => ?_)
      exact T_iret wS7 X dX10_strand_73
    refine J_ite (fun hc25_1 => ?_) (fun hc25_1 => ?_)
    · refine J_tabIn X (v := (1 : Int32)) (off := 49) (tgt := 74) hc25_1 dX10_strand_25 (by decide) (by decide) (by decide) (by decide) ?_
      refine J_iload_n X dX10_strand_74 (i := 3) rfl rfl ?_
      exact T_iret wS3 X dX10_strand_75
    refine J_ite (fun hc25_2 => ?_) (fun hc25_2 => ?_)
    · refine J_tabIn X (v := (2 : Int32)) (off := 51) (tgt := 76) hc25_2 dX10_strand_25 (by decide) (by decide) (by decide) (by decide) ?_
      refine J_aload_n X dX10_strand_76 (i := 0) rfl rfl ?_
      refine T_getR X (kf := 32) cb10 kv0 (by decide) fl_X10_73 (fun _ _ _ => rfl) dX10_strand_77 ?_
      refine J_bipush X (v := (8 : Int32)) dX10_strand_80 (by decide) ?_
      refine J_aload_n X dX10_strand_82 (i := 0) rfl rfl ?_
      refine T_getI X (kf := 18) cb10 kv0 (by decide) fl_X10_239 (fun _ _ _ => rfl) dX10_strand_83 ?_
      refine J_imul X dX10_strand_86 ?_
      refine J_iload_n X dX10_strand_87 (i := 1) rfl rfl ?_
      refine J_iadd X dX10_strand_88 ?_
      refine T_iald X (wS3.1 _ _ kv0 32 _ rfl) dX10_strand_89 (fun j9 => ?_)
      exact T_iret wS3 X dX10_strand_90
    refine J_ite (fun hc25_3 => ?_) (fun hc25_3 => ?_)
    · refine J_tabIn X (v := (3 : Int32)) (off := 66) (tgt := 91) hc25_3 dX10_strand_25 (by decide) (by decide) (by decide) (by decide) ?_
      refine J_aload_n X dX10_strand_91 (i := 0) rfl rfl ?_
      refine T_getR X (kf := 52) cb10 kv0 (by decide) fl_X10_122 (fun _ _ _ => rfl) dX10_strand_92 ?_
      refine J_bipush X (v := (46 : Int32)) dX10_strand_95 (by decide) ?_
      refine J_iload_n X dX10_strand_97 (i := 1) rfl rfl ?_
      refine J_iadd X dX10_strand_98 ?_
      refine T_iald X (wS3.1 _ _ kv0 52 _ rfl) dX10_strand_99 (fun j10 => ?_)
      exact T_iret wS3 X dX10_strand_100
    refine J_ite (fun hc25_4 => ?_) (fun hc25_4 => ?_)
    · refine J_tabIn X (v := (4 : Int32)) (off := 76) (tgt := 101) hc25_4 dX10_strand_25 (by decide) (by decide) (by decide) (by decide) ?_
      refine J_aload_n X dX10_strand_101 (i := 0) rfl rfl ?_
      refine J_iload_n X dX10_strand_102 (i := 1) rfl rfl ?_
      refine J_iload_n X dX10_strand_103 (i := 3) rfl rfl ?_
      refine J_aload_n X dX10_strand_104 (i := 0) rfl rfl ?_
      refine T_getR X (kf := 52) cb10 kv0 (by decide) fl_X10_122 (fun _ _ _ => rfl) dX10_strand_105 ?_
      refine J_bipush X (v := (20 : Int32)) dX10_strand_108 (by decide) ?_
      refine J_iload_n X dX10_strand_110 (i := 3) rfl rfl ?_
      refine J_iadd X dX10_strand_111 ?_
      refine T_iald X (wS3.1 _ _ kv0 52 _ rfl) dX10_strand_112 (fun j11 => ?_)
      refine J_aload_n X dX10_strand_113 (i := 0) rfl rfl ?_
      refine T_getR X (kf := 52) cb10 kv0 (by decide) fl_X10_122 (fun _ _ _ => rfl) dX10_strand_114 ?_
      refine J_bipush X (v := (26 : Int32)) dX10_strand_117 (by decide) ?_
      refine J_iload_n X dX10_strand_119 (i := 3) rfl rfl ?_
      refine J_iadd X dX10_strand_120 ?_
      refine T_iald X (wS3.1 _ _ kv0 52 _ rfl) dX10_strand_121 (fun j12 => ?_)
      refine T_callV (As := [.int v1, .int x6, .int (S3.1 (S3.2.2 v0 52) j11), .int (S3.1 (S3.2.2 v0 52) j12)]) wS3 X (C_X10_pullAt (kG K) v0 kv0 v1 x6 (S3.1 (S3.2.2 v0 52) j11) (S3.1 (S3.2.2 v0 52) j12) S3) cb10 kv0 ml_X10_378 in_yX10_pullAt se_yX10_pullAt ii_RX10 co_yX10_pullAt hy_X10_pullAt (hRd hR (by decide) (by decide)) rfl (Nat.le_of_ble_eq_true rfl) dX10_strand_122 (fun r14 S13 _ wS13 => ?_)
      exact T_iret wS13 X dX10_strand_125
    refine J_ite (fun hc25_5 => ?_) (fun hc25_5 => ?_)
    · refine J_tabIn X (v := (5 : Int32)) (off := 101) (tgt := 126) hc25_5 dX10_strand_25 (by decide) (by decide) (by decide) (by decide) ?_
      refine J_aload_n X dX10_strand_126 (i := 0) rfl rfl ?_
      refine J_iload_n X dX10_strand_127 (i := 1) rfl rfl ?_
      refine T_callV (As := [.int v1]) wS3 X (C_X10_priceOf (kG K) v0 kv0 v1 S3) cb10 kv0 ml_X10_429 in_yX10_priceOf se_yX10_priceOf ii_RX10 co_yX10_priceOf hy_X10_priceOf (hRd hR (by decide) (by decide)) rfl (Nat.le_of_ble_eq_true rfl) dX10_strand_128 (fun r16 S15 _ wS15 => ?_)
      exact T_iret wS15 X dX10_strand_131
    refine J_ite (fun hc25_6 => ?_) (fun hc25_6 => ?_)
    · refine J_tabIn X (v := (6 : Int32)) (off := 107) (tgt := 132) hc25_6 dX10_strand_25 (by decide) (by decide) (by decide) (by decide) ?_
      refine J_aload_n X dX10_strand_132 (i := 0) rfl rfl ?_
      refine J_aload_n X dX10_strand_133 (i := 0) rfl rfl ?_
      refine J_iload_n X dX10_strand_134 (i := 1) rfl rfl ?_
      refine T_callV (As := [.int v1]) wS3 X (C_X10_whose (kG K) v0 kv0 v1 S3) cb10 kv0 ml_X10_354 in_yX10_whose se_yX10_whose ii_RX10 co_yX10_whose hy_X10_whose (hRd hR (by decide) (by decide)) rfl (Nat.le_of_ble_eq_true rfl) dX10_strand_135 (fun r18 S17 _ wS17 => ?_)
      refine J_aload_n X dX10_strand_138 (i := 0) rfl rfl ?_
      refine T_getR X (kf := 52) cb10 kv0 (by decide) fl_X10_122 (fun _ _ _ => rfl) dX10_strand_139 ?_
      refine J_bipush X (v := (20 : Int32)) dX10_strand_142 (by decide) ?_
      refine J_iload_n X dX10_strand_144 (i := 3) rfl rfl ?_
      refine J_iadd X dX10_strand_145 ?_
      refine T_iald X (wS17.1 _ _ kv0 52 _ rfl) dX10_strand_146 (fun j19 => ?_)
      refine J_aload_n X dX10_strand_147 (i := 0) rfl rfl ?_
      refine T_getR X (kf := 52) cb10 kv0 (by decide) fl_X10_122 (fun _ _ _ => rfl) dX10_strand_148 ?_
      refine J_bipush X (v := (26 : Int32)) dX10_strand_151 (by decide) ?_
      refine J_iload_n X dX10_strand_153 (i := 3) rfl rfl ?_
      refine J_iadd X dX10_strand_154 ?_
      refine T_iald X (wS17.1 _ _ kv0 52 _ rfl) dX10_strand_155 (fun j20 => ?_)
      refine T_callV (As := [.int r18, .int (S17.1 (S17.2.2 v0 52) j19), .int (S17.1 (S17.2.2 v0 52) j20)]) wS17 X (C_X10_farFrom (kG K) v0 kv0 r18 (S17.1 (S17.2.2 v0 52) j19) (S17.1 (S17.2.2 v0 52) j20) S17) cb10 kv0 ml_X10_357 in_yX10_farFrom se_yX10_farFrom ii_RX10 co_yX10_farFrom hy_X10_farFrom (hRd hR (by decide) (by decide)) rfl (Nat.le_of_ble_eq_true rfl) dX10_strand_156 (fun r22 S21 _ wS21 => ?_)
      exact T_iret wS21 X dX10_strand_159
    have nhc25_0 := tabne hc25_0 (k := 0) (by decide)
    have nhc25_1 := tabne hc25_1 (k := 1) (by decide)
    have nhc25_2 := tabne hc25_2 (k := 2) (by decide)
    have nhc25_3 := tabne hc25_3 (k := 3) (by decide)
    have nhc25_4 := tabne hc25_4 (k := 4) (by decide)
    have nhc25_5 := tabne hc25_5 (k := 5) (by decide)
    have nhc25_6 := tabne hc25_6 (k := 6) (by decide)
    refine J_tabOut X (tgt := 160) dX10_strand_25 (tabout 0 6 (fun v h1 h2 => by omega)) (by decide) ?_
    refine J_iconst X (v := (-1 : Int32)) dX10_strand_160 (by decide) ?_
    exact T_iret wS3 X dX10_strand_161
theorem C_X10_strand (G : GG) (v0 : Nat) (kv0 : KA (gD G) v0 (0, 10)) (v1 : Int32) (v2 : Int32) (S : St) : CM G yX10_strand cX10_strand 4 (some .int) 3 [.ref v0, .int v1, .int v2] S (fun v : Int32 => some (.int v)) (f_X10_strand v0 v1 v2 S) :=
  CM_of (by decide) (Nat.le_of_ble_eq_true rfl) rfl (fun K hG X hR w => by subst hG; exact t_X10_strand_0 X hR v0 kv0 v1 v2 S w)
-- ==== X10_records
theorem hy_X10_records : yX10_records.cls ≠ "java/lang/invoke/MethodHandle" ∧ yX10_records.cls ≠ "java/lang/invoke/VarHandle" ∧ (parseMethodDescriptor yX10_records.desc).map (fun d => d.parameters.length) = some 0 := by decide +kernel
set_option maxRecDepth 20000 in
def b_X10_records_51 : Nat → Nat → Int32 → St → Option (Unit × St)
  | 0, _, _, _ => none
  | fu + 1, v0, v1, S => if (55 : Int32) ≤ v1 then (nm (sI S v0 61 ((S.1 v0 61) + (1 : Int32))) fun S1 => bd (f_X10_keepsRow v0 S1) fun _ S2 => some ((), S2)) else ((ix v1 55).bind fun j4 => (ix (((55 : Int32) * (S.1 v0 61)) + v1) 2200).bind fun j5 => nm (sI S (S.2.2 v0 62) j5 (S.1 (S.2.2 v0 51) j4)) fun S6 => nm (v1 + (1 : Int32)) fun x7 => b_X10_records_51 fu v0 x7 S6)
set_option maxRecDepth 20000 in
theorem t_X10_records_51 {K : KK} (X : CX K cX10_records 2 RX10 none) (hR : kR K = rmD 1) : ∀ (fu : Nat) (v0 : Nat) (kv0 : KA (kDn K) v0 (0, 10)) (v1 : Int32) (S : St), WT (kDn K) S.2.2 → JX K (Zm K (fun _ : Unit => none)) 51 [some (.ref v0), some (.int v1)] [] (rwN (kN K) S) (kn K) 0 0 (b_X10_records_51 fu v0 v1 S) := by
  intro fu
  induction fu with
  | zero => intro v0 kv0 v1 S w; exact J_none
  | succ fu ih =>
    intro v0 kv0 v1 S w
    rw [b_X10_records_51]
    refine J_iload_n X dX10_records_51 (i := 1) rfl rfl ?_
    refine J_bipush X (v := (55 : Int32)) dX10_records_52 (by decide) ?_
    refine J_icmp_ge X (tgt := 83) dX10_records_54 (by decide) ?_ ?_
    · refine J_aload_n X dX10_records_83 (i := 0) rfl rfl ?_
      refine J_dup X dX10_records_84 rfl ?_
      refine T_getI X (kf := 61) cb10 kv0 (by decide) fl_X10_257 (fun _ _ _ => rfl) dX10_records_85 ?_
      refine J_iconst X (v := (1 : Int32)) dX10_records_88 (by decide) ?_
      refine J_iadd X dX10_records_89 ?_
      refine T_putI X (kf := 61) cb10 kv0 (by decide) fl_X10_257 (fun _ _ _ => rfl) rfl rfl rfl dX10_records_90 (fun S1 hS1 => ?_)
      have wS1 : WT (kDn K) S1.2.2 := by rw [hS1]; exact w
      clear hS1
      refine J_aload_n X dX10_records_93 (i := 0) rfl rfl ?_
      refine T_callV (As := []) wS1 X (C_X10_keepsRow (kG K) v0 kv0 S1) cb10 kv0 ml_X10_169 in_yX10_keepsRow se_yX10_keepsRow ii_RX10 co_yX10_keepsRow hy_X10_keepsRow (hRd hR (by decide) (by decide)) rfl (Nat.le_of_ble_eq_true rfl) dX10_records_94 (fun _ S2 _ wS2 => ?_)
      exact T_vret wS2 X dX10_records_97
    · refine J_aload_n X dX10_records_57 (i := 0) rfl rfl ?_
      refine T_getR X (kf := 62) cb10 kv0 (by decide) fl_X10_137 (fun _ _ _ => rfl) dX10_records_58 ?_
      refine J_bipush X (v := (55 : Int32)) dX10_records_61 (by decide) ?_
      refine J_aload_n X dX10_records_63 (i := 0) rfl rfl ?_
      refine T_getI X (kf := 61) cb10 kv0 (by decide) fl_X10_257 (fun _ _ _ => rfl) dX10_records_64 ?_
      refine J_imul X dX10_records_67 ?_
      refine J_iload_n X dX10_records_68 (i := 1) rfl rfl ?_
      refine J_iadd X dX10_records_69 ?_
      refine J_aload_n X dX10_records_70 (i := 0) rfl rfl ?_
      refine T_getR X (kf := 51) cb10 kv0 (by decide) fl_X10_119 (fun _ _ _ => rfl) dX10_records_71 ?_
      refine J_iload_n X dX10_records_74 (i := 1) rfl rfl ?_
      refine T_iald X (w.1 _ _ kv0 51 _ rfl) dX10_records_75 (fun j4 => ?_)
      refine T_iast X (w.1 _ _ kv0 62 _ rfl) dX10_records_76 (fun j5 S6 hS6 => ?_)
      have wS6 : WT (kDn K) S6.2.2 := by rw [hS6]; exact w
      clear hS6
      refine J_nmv (v1 + (1 : Int32)) (fun x7 ex7 => ?_)
      refine J_iinc X (v := x7) (ls' := [some (.ref v0), some (.int x7)]) dX10_records_77 (by decide) rfl (by rw [ex7]; rfl) rfl ?_
      refine J_goto X (tgt := 51) dX10_records_80 (by decide) ?_
      exact ih v0 kv0 x7 S6 wS6
set_option maxRecDepth 20000 in
def b_X10_records_49 (v0 : Nat) (S : St) : Option (Unit × St) := b_X10_records_51 FU v0 (0 : Int32) S
set_option maxRecDepth 20000 in
theorem t_X10_records_49 {K : KK} (X : CX K cX10_records 2 RX10 none) (hR : kR K = rmD 1) (v0 : Nat) (kv0 : KA (kDn K) v0 (0, 10)) (S : St) (w : WT (kDn K) S.2.2) : JX K (Zm K (fun _ : Unit => none)) 49 [some (.ref v0), none] [] (rwN (kN K) S) (kn K) 0 0 (b_X10_records_49 v0 S) := by
  unfold b_X10_records_49
  refine J_iconst X (v := (0 : Int32)) dX10_records_49 (by decide) ?_
  refine J_istore_n X (i := 1) (ls' := [some (.ref v0), some (.int (0 : Int32))]) dX10_records_50 rfl (by decide) rfl ?_
  exact t_X10_records_51 X hR FU v0 kv0 (0 : Int32) S w
set_option maxRecDepth 20000 in
def b_X10_records_11 : Nat → Nat → Int32 → St → Option (Unit × St)
  | 0, _, _, _ => none
  | fu + 1, v0, v1, S => if (2145 : Int32) ≤ v1 then (nm (sI S v0 61 ((S.1 v0 61) - (1 : Int32))) fun S1 => b_X10_records_49 v0 S1) else ((ix (v1 + (55 : Int32)) 2200).bind fun j2 => (ix v1 2200).bind fun j3 => nm (sI S (S.2.2 v0 62) j3 (S.1 (S.2.2 v0 62) j2)) fun S4 => nm (v1 + (1 : Int32)) fun x5 => b_X10_records_11 fu v0 x5 S4)
set_option maxRecDepth 20000 in
theorem t_X10_records_11 {K : KK} (X : CX K cX10_records 2 RX10 none) (hR : kR K = rmD 1) : ∀ (fu : Nat) (v0 : Nat) (kv0 : KA (kDn K) v0 (0, 10)) (v1 : Int32) (S : St), WT (kDn K) S.2.2 → JX K (Zm K (fun _ : Unit => none)) 11 [some (.ref v0), some (.int v1)] [] (rwN (kN K) S) (kn K) 0 0 (b_X10_records_11 fu v0 v1 S) := by
  intro fu
  induction fu with
  | zero => intro v0 kv0 v1 S w; exact J_none
  | succ fu ih =>
    intro v0 kv0 v1 S w
    rw [b_X10_records_11]
    refine J_iload_n X dX10_records_11 (i := 1) rfl rfl ?_
    refine J_sipush X (v := (2145 : Int32)) dX10_records_12 (by decide) ?_
    refine J_icmp_ge X (tgt := 39) dX10_records_15 (by decide) ?_ ?_
    · refine J_aload_n X dX10_records_39 (i := 0) rfl rfl ?_
      refine J_dup X dX10_records_40 rfl ?_
      refine T_getI X (kf := 61) cb10 kv0 (by decide) fl_X10_257 (fun _ _ _ => rfl) dX10_records_41 ?_
      refine J_iconst X (v := (1 : Int32)) dX10_records_44 (by decide) ?_
      refine J_isub X dX10_records_45 ?_
      refine T_putI X (kf := 61) cb10 kv0 (by decide) fl_X10_257 (fun _ _ _ => rfl) rfl rfl rfl dX10_records_46 (fun S1 hS1 => ?_)
      have wS1 : WT (kDn K) S1.2.2 := by rw [hS1]; exact w
      clear hS1
      refine J_mask [true, false] ?_
      exact t_X10_records_49 X hR v0 kv0 S1 wS1
    · refine J_aload_n X dX10_records_18 (i := 0) rfl rfl ?_
      refine T_getR X (kf := 62) cb10 kv0 (by decide) fl_X10_137 (fun _ _ _ => rfl) dX10_records_19 ?_
      refine J_iload_n X dX10_records_22 (i := 1) rfl rfl ?_
      refine J_aload_n X dX10_records_23 (i := 0) rfl rfl ?_
      refine T_getR X (kf := 62) cb10 kv0 (by decide) fl_X10_137 (fun _ _ _ => rfl) dX10_records_24 ?_
      refine J_iload_n X dX10_records_27 (i := 1) rfl rfl ?_
      refine J_bipush X (v := (55 : Int32)) dX10_records_28 (by decide) ?_
      refine J_iadd X dX10_records_30 ?_
      refine T_iald X (w.1 _ _ kv0 62 _ rfl) dX10_records_31 (fun j2 => ?_)
      refine T_iast X (w.1 _ _ kv0 62 _ rfl) dX10_records_32 (fun j3 S4 hS4 => ?_)
      have wS4 : WT (kDn K) S4.2.2 := by rw [hS4]; exact w
      clear hS4
      refine J_nmv (v1 + (1 : Int32)) (fun x5 ex5 => ?_)
      refine J_iinc X (v := x5) (ls' := [some (.ref v0), some (.int x5)]) dX10_records_33 (by decide) rfl (by rw [ex5]; rfl) rfl ?_
      refine J_goto X (tgt := 11) dX10_records_36 (by decide) ?_
      exact ih v0 kv0 x5 S4 wS4
set_option maxRecDepth 20000 in
def f_X10_records (v0 : Nat) (S : St) : Option (Unit × St) := if (S.1 v0 61) = (40 : Int32) then (b_X10_records_11 FU v0 (0 : Int32) S) else (b_X10_records_49 v0 S)
set_option maxRecDepth 20000 in
theorem t_X10_records_0 {K : KK} (X : CX K cX10_records 2 RX10 none) (hR : kR K = rmD 1) (v0 : Nat) (kv0 : KA (kDn K) v0 (0, 10)) (S : St) (w : WT (kDn K) S.2.2) : JX K (Zm K (fun _ : Unit => none)) 0 [some (.ref v0), none] [] (rwN (kN K) S) (kn K) 0 0 (f_X10_records v0 S) := by
  unfold f_X10_records
  refine J_aload_n X dX10_records_0 (i := 0) rfl rfl ?_
  refine T_getI X (kf := 61) cb10 kv0 (by decide) fl_X10_257 (fun _ _ _ => rfl) dX10_records_1 ?_
  refine J_bipush X (v := (40 : Int32)) dX10_records_4 (by decide) ?_
  refine J_icmp_ne X (tgt := 49) dX10_records_6 (by decide) ?_ ?_
  · refine J_iconst X (v := (0 : Int32)) dX10_records_9 (by decide) ?_
    refine J_istore_n X (i := 1) (ls' := [some (.ref v0), some (.int (0 : Int32))]) dX10_records_10 rfl (by decide) rfl ?_
    exact t_X10_records_11 X hR FU v0 kv0 (0 : Int32) S w
  · exact t_X10_records_49 X hR v0 kv0 S w
theorem C_X10_records (G : GG) (v0 : Nat) (kv0 : KA (gD G) v0 (0, 10)) (S : St) : CM G yX10_records cX10_records 2 none 1 [.ref v0] S (fun _ : Unit => none) (f_X10_records v0 S) :=
  CM_of (by decide) (Nat.le_of_ble_eq_true rfl) rfl (fun K hG X hR w => by subst hG; exact t_X10_records_0 X hR v0 kv0 S w)
-- ==== X10_hand
theorem hy_X10_hand : yX10_hand.cls ≠ "java/lang/invoke/MethodHandle" ∧ yX10_hand.cls ≠ "java/lang/invoke/VarHandle" ∧ (parseMethodDescriptor yX10_hand.desc).map (fun d => d.parameters.length) = some 2 := by decide +kernel
set_option maxRecDepth 20000 in
def f_X10_hand (v0 : Nat) (v1 : Int32) (v2 : Int32) (S : St) : Option (Int32 × St) := bd (f_X10_isStrand v0 v1 S) fun r2 S1 => if r2 = 0 then (some ((0 : Int32), S1)) else (bd (f_X10_isPerson v0 v2 S1) fun r4 S3 => if r4 = 0 then (some ((0 : Int32), S3)) else ((ix ((46 : Int32) + v1) 55).bind fun j5 => if (S3.1 (S3.2.2 v0 51) j5) = (1 : Int32) then (some ((0 : Int32), S3)) else ((ix ((38 : Int32) + v1) 55).bind fun j6 => if (S3.1 (S3.2.2 v0 51) j6) = v2 then (some ((0 : Int32), S3)) else ((ix ((32 : Int32) + v2) 55).bind fun j7 => if (S3.1 (S3.2.2 v0 51) j7) = (1 : Int32) then (some ((0 : Int32), S3)) else (bd (f_X10_copies v0 S3) fun _ S8 => (ix ((38 : Int32) + v1) 55).bind fun j10 => nm (sI S8 (S8.2.2 v0 52) j10 v2) fun S11 => bd (f_X10_records v0 S11) fun _ S12 => some ((1 : Int32), S12))))))
set_option maxRecDepth 20000 in
theorem t_X10_hand_0 {K : KK} (X : CX K cX10_hand 3 RX10 (some .boolean)) (hR : kR K = rmD 2) (v0 : Nat) (kv0 : KA (kDn K) v0 (0, 10)) (v1 : Int32) (v2 : Int32) (S : St) (w : WT (kDn K) S.2.2) : JX K (Zm K (fun v : Int32 => some (.int v))) 0 [some (.ref v0), some (.int v1), some (.int v2)] [] (rwN (kN K) S) (kn K) 0 0 (f_X10_hand v0 v1 v2 S) := by
  unfold f_X10_hand
  refine J_aload_n X dX10_hand_0 (i := 0) rfl rfl ?_
  refine J_iload_n X dX10_hand_1 (i := 1) rfl rfl ?_
  refine T_callV (As := [.int v1]) w X (C_X10_isStrand (kG K) v0 kv0 v1 S) cb10 kv0 ml_X10_426 in_yX10_isStrand se_yX10_isStrand ii_RX10 co_yX10_isStrand hy_X10_isStrand (hRd hR (by decide) (by decide)) rfl (Nat.le_of_ble_eq_true rfl) dX10_hand_2 (fun r2 S1 _ wS1 => ?_)
  refine J_if_eq X (tgt := 55) dX10_hand_5 (by decide) ?_ ?_
  · refine J_iconst X (v := (0 : Int32)) dX10_hand_55 (by decide) ?_
    exact T_zret wS1 X (by decide) dX10_hand_56
  · refine J_aload_n X dX10_hand_8 (i := 0) rfl rfl ?_
    refine J_iload_n X dX10_hand_9 (i := 2) rfl rfl ?_
    refine T_callV (As := [.int v2]) wS1 X (C_X10_isPerson (kG K) v0 kv0 v2 S1) cb10 kv0 ml_X10_422 in_yX10_isPerson se_yX10_isPerson ii_RX10 co_yX10_isPerson hy_X10_isPerson (hRd hR (by decide) (by decide)) rfl (Nat.le_of_ble_eq_true rfl) dX10_hand_10 (fun r4 S3 _ wS3 => ?_)
    refine J_if_eq X (tgt := 55) dX10_hand_13 (by decide) ?_ ?_
    · refine J_iconst X (v := (0 : Int32)) dX10_hand_55 (by decide) ?_
      exact T_zret wS3 X (by decide) dX10_hand_56
    · refine J_aload_n X dX10_hand_16 (i := 0) rfl rfl ?_
      refine T_getR X (kf := 51) cb10 kv0 (by decide) fl_X10_119 (fun _ _ _ => rfl) dX10_hand_17 ?_
      refine J_bipush X (v := (46 : Int32)) dX10_hand_20 (by decide) ?_
      refine J_iload_n X dX10_hand_22 (i := 1) rfl rfl ?_
      refine J_iadd X dX10_hand_23 ?_
      refine T_iald X (wS3.1 _ _ kv0 51 _ rfl) dX10_hand_24 (fun j5 => ?_)
      refine J_iconst X (v := (1 : Int32)) dX10_hand_25 (by decide) ?_
      refine J_icmp_eq X (tgt := 55) dX10_hand_26 (by decide) ?_ ?_
      · refine J_iconst X (v := (0 : Int32)) dX10_hand_55 (by decide) ?_
        exact T_zret wS3 X (by decide) dX10_hand_56
      · refine J_aload_n X dX10_hand_29 (i := 0) rfl rfl ?_
        refine T_getR X (kf := 51) cb10 kv0 (by decide) fl_X10_119 (fun _ _ _ => rfl) dX10_hand_30 ?_
        refine J_bipush X (v := (38 : Int32)) dX10_hand_33 (by decide) ?_
        refine J_iload_n X dX10_hand_35 (i := 1) rfl rfl ?_
        refine J_iadd X dX10_hand_36 ?_
        refine T_iald X (wS3.1 _ _ kv0 51 _ rfl) dX10_hand_37 (fun j6 => ?_)
        refine J_iload_n X dX10_hand_38 (i := 2) rfl rfl ?_
        refine J_icmp_eq X (tgt := 55) dX10_hand_39 (by decide) ?_ ?_
        · refine J_iconst X (v := (0 : Int32)) dX10_hand_55 (by decide) ?_
          exact T_zret wS3 X (by decide) dX10_hand_56
        · refine J_aload_n X dX10_hand_42 (i := 0) rfl rfl ?_
          refine T_getR X (kf := 51) cb10 kv0 (by decide) fl_X10_119 (fun _ _ _ => rfl) dX10_hand_43 ?_
          refine J_bipush X (v := (32 : Int32)) dX10_hand_46 (by decide) ?_
          refine J_iload_n X dX10_hand_48 (i := 2) rfl rfl ?_
          refine J_iadd X dX10_hand_49 ?_
          refine T_iald X (wS3.1 _ _ kv0 51 _ rfl) dX10_hand_50 (fun j7 => ?_)
          refine J_iconst X (v := (1 : Int32)) dX10_hand_51 (by decide) ?_
          refine J_icmp_ne X (tgt := 57) dX10_hand_52 (by decide) ?_ ?_
          · refine J_iconst X (v := (0 : Int32)) dX10_hand_55 (by decide) ?_
            exact T_zret wS3 X (by decide) dX10_hand_56
          · refine J_aload_n X dX10_hand_57 (i := 0) rfl rfl ?_
            refine T_callV (As := []) wS3 X (C_X10_copies (kG K) v0 kv0 S3) cb10 kv0 ml_X10_335 in_yX10_copies se_yX10_copies ii_RX10 co_yX10_copies hy_X10_copies (hRd hR (by decide) (by decide)) rfl (Nat.le_of_ble_eq_true rfl) dX10_hand_58 (fun _ S8 _ wS8 => ?_)
            refine J_aload_n X dX10_hand_61 (i := 0) rfl rfl ?_
            refine T_getR X (kf := 52) cb10 kv0 (by decide) fl_X10_122 (fun _ _ _ => rfl) dX10_hand_62 ?_
            refine J_bipush X (v := (38 : Int32)) dX10_hand_65 (by decide) ?_
            refine J_iload_n X dX10_hand_67 (i := 1) rfl rfl ?_
            refine J_iadd X dX10_hand_68 ?_
            refine J_iload_n X dX10_hand_69 (i := 2) rfl rfl ?_
            refine T_iast X (wS8.1 _ _ kv0 52 _ rfl) dX10_hand_70 (fun j10 S11 hS11 => ?_)
            have wS11 : WT (kDn K) S11.2.2 := by rw [hS11]; exact wS8
            clear hS11
            refine J_aload_n X dX10_hand_71 (i := 0) rfl rfl ?_
            refine T_callV (As := []) wS11 X (C_X10_records (kG K) v0 kv0 S11) cb10 kv0 ml_X10_432 in_yX10_records se_yX10_records ii_RX10 co_yX10_records hy_X10_records (hRd hR (by decide) (by decide)) rfl (Nat.le_of_ble_eq_true rfl) dX10_hand_72 (fun _ S12 _ wS12 => ?_)
            refine J_iconst X (v := (1 : Int32)) dX10_hand_75 (by decide) ?_
            exact T_zret wS12 X (by decide) dX10_hand_76
theorem C_X10_hand (G : GG) (v0 : Nat) (kv0 : KA (gD G) v0 (0, 10)) (v1 : Int32) (v2 : Int32) (S : St) : CM G yX10_hand cX10_hand 3 (some .boolean) 2 [.ref v0, .int v1, .int v2] S (fun v : Int32 => some (.int v)) (f_X10_hand v0 v1 v2 S) :=
  CM_of (by decide) (Nat.le_of_ble_eq_true rfl) rfl (fun K hG X hR w => by subst hG; exact t_X10_hand_0 X hR v0 kv0 v1 v2 S w)
-- ==== X10_cut
theorem hy_X10_cut : yX10_cut.cls ≠ "java/lang/invoke/MethodHandle" ∧ yX10_cut.cls ≠ "java/lang/invoke/VarHandle" ∧ (parseMethodDescriptor yX10_cut.desc).map (fun d => d.parameters.length) = some 1 := by decide +kernel
set_option maxRecDepth 20000 in
def f_X10_cut (v0 : Nat) (v1 : Int32) (S : St) : Option (Int32 × St) := bd (f_X10_isStrand v0 v1 S) fun r2 S1 => if r2 = 0 then (some ((0 : Int32), S1)) else ((ix ((46 : Int32) + v1) 55).bind fun j3 => if (S1.1 (S1.2.2 v0 51) j3) = (1 : Int32) then (some ((0 : Int32), S1)) else (bd (f_X10_copies v0 S1) fun _ S4 => (ix ((46 : Int32) + v1) 55).bind fun j6 => nm (sI S4 (S4.2.2 v0 52) j6 (1 : Int32)) fun S7 => bd (f_X10_records v0 S7) fun _ S8 => some ((1 : Int32), S8)))
set_option maxRecDepth 20000 in
theorem t_X10_cut_0 {K : KK} (X : CX K cX10_cut 2 RX10 (some .boolean)) (hR : kR K = rmD 2) (v0 : Nat) (kv0 : KA (kDn K) v0 (0, 10)) (v1 : Int32) (S : St) (w : WT (kDn K) S.2.2) : JX K (Zm K (fun v : Int32 => some (.int v))) 0 [some (.ref v0), some (.int v1)] [] (rwN (kN K) S) (kn K) 0 0 (f_X10_cut v0 v1 S) := by
  unfold f_X10_cut
  refine J_aload_n X dX10_cut_0 (i := 0) rfl rfl ?_
  refine J_iload_n X dX10_cut_1 (i := 1) rfl rfl ?_
  refine T_callV (As := [.int v1]) w X (C_X10_isStrand (kG K) v0 kv0 v1 S) cb10 kv0 ml_X10_426 in_yX10_isStrand se_yX10_isStrand ii_RX10 co_yX10_isStrand hy_X10_isStrand (hRd hR (by decide) (by decide)) rfl (Nat.le_of_ble_eq_true rfl) dX10_cut_2 (fun r2 S1 _ wS1 => ?_)
  refine J_if_eq X (tgt := 21) dX10_cut_5 (by decide) ?_ ?_
  · refine J_iconst X (v := (0 : Int32)) dX10_cut_21 (by decide) ?_
    exact T_zret wS1 X (by decide) dX10_cut_22
  · refine J_aload_n X dX10_cut_8 (i := 0) rfl rfl ?_
    refine T_getR X (kf := 51) cb10 kv0 (by decide) fl_X10_119 (fun _ _ _ => rfl) dX10_cut_9 ?_
    refine J_bipush X (v := (46 : Int32)) dX10_cut_12 (by decide) ?_
    refine J_iload_n X dX10_cut_14 (i := 1) rfl rfl ?_
    refine J_iadd X dX10_cut_15 ?_
    refine T_iald X (wS1.1 _ _ kv0 51 _ rfl) dX10_cut_16 (fun j3 => ?_)
    refine J_iconst X (v := (1 : Int32)) dX10_cut_17 (by decide) ?_
    refine J_icmp_ne X (tgt := 23) dX10_cut_18 (by decide) ?_ ?_
    · refine J_iconst X (v := (0 : Int32)) dX10_cut_21 (by decide) ?_
      exact T_zret wS1 X (by decide) dX10_cut_22
    · refine J_aload_n X dX10_cut_23 (i := 0) rfl rfl ?_
      refine T_callV (As := []) wS1 X (C_X10_copies (kG K) v0 kv0 S1) cb10 kv0 ml_X10_335 in_yX10_copies se_yX10_copies ii_RX10 co_yX10_copies hy_X10_copies (hRd hR (by decide) (by decide)) rfl (Nat.le_of_ble_eq_true rfl) dX10_cut_24 (fun _ S4 _ wS4 => ?_)
      refine J_aload_n X dX10_cut_27 (i := 0) rfl rfl ?_
      refine T_getR X (kf := 52) cb10 kv0 (by decide) fl_X10_122 (fun _ _ _ => rfl) dX10_cut_28 ?_
      refine J_bipush X (v := (46 : Int32)) dX10_cut_31 (by decide) ?_
      refine J_iload_n X dX10_cut_33 (i := 1) rfl rfl ?_
      refine J_iadd X dX10_cut_34 ?_
      refine J_iconst X (v := (1 : Int32)) dX10_cut_35 (by decide) ?_
      refine T_iast X (wS4.1 _ _ kv0 52 _ rfl) dX10_cut_36 (fun j6 S7 hS7 => ?_)
      have wS7 : WT (kDn K) S7.2.2 := by rw [hS7]; exact wS4
      clear hS7
      refine J_aload_n X dX10_cut_37 (i := 0) rfl rfl ?_
      refine T_callV (As := []) wS7 X (C_X10_records (kG K) v0 kv0 S7) cb10 kv0 ml_X10_432 in_yX10_records se_yX10_records ii_RX10 co_yX10_records hy_X10_records (hRd hR (by decide) (by decide)) rfl (Nat.le_of_ble_eq_true rfl) dX10_cut_38 (fun _ S8 _ wS8 => ?_)
      refine J_iconst X (v := (1 : Int32)) dX10_cut_41 (by decide) ?_
      exact T_zret wS8 X (by decide) dX10_cut_42
theorem C_X10_cut (G : GG) (v0 : Nat) (kv0 : KA (gD G) v0 (0, 10)) (v1 : Int32) (S : St) : CM G yX10_cut cX10_cut 2 (some .boolean) 2 [.ref v0, .int v1] S (fun v : Int32 => some (.int v)) (f_X10_cut v0 v1 S) :=
  CM_of (by decide) (Nat.le_of_ble_eq_true rfl) rfl (fun K hG X hR w => by subst hG; exact t_X10_cut_0 X hR v0 kv0 v1 S w)
-- ==== X10_die
theorem hy_X10_die : yX10_die.cls ≠ "java/lang/invoke/MethodHandle" ∧ yX10_die.cls ≠ "java/lang/invoke/VarHandle" ∧ (parseMethodDescriptor yX10_die.desc).map (fun d => d.parameters.length) = some 1 := by decide +kernel
set_option maxRecDepth 20000 in
def f_X10_die (v0 : Nat) (v1 : Int32) (S : St) : Option (Int32 × St) := bd (f_X10_isMermaid v0 v1 S) fun r2 S1 => if r2 = 0 then (some ((0 : Int32), S1)) else ((ix ((16 : Int32) + v1) 55).bind fun j3 => if (S1.1 (S1.2.2 v0 51) j3) = (1 : Int32) then (some ((0 : Int32), S1)) else (bd (f_X10_copies v0 S1) fun _ S4 => (ix ((16 : Int32) + v1) 55).bind fun j6 => nm (sI S4 (S4.2.2 v0 52) j6 (1 : Int32)) fun S7 => bd (f_X10_records v0 S7) fun _ S8 => some ((1 : Int32), S8)))
set_option maxRecDepth 20000 in
theorem t_X10_die_0 {K : KK} (X : CX K cX10_die 2 RX10 (some .boolean)) (hR : kR K = rmD 2) (v0 : Nat) (kv0 : KA (kDn K) v0 (0, 10)) (v1 : Int32) (S : St) (w : WT (kDn K) S.2.2) : JX K (Zm K (fun v : Int32 => some (.int v))) 0 [some (.ref v0), some (.int v1)] [] (rwN (kN K) S) (kn K) 0 0 (f_X10_die v0 v1 S) := by
  unfold f_X10_die
  refine J_aload_n X dX10_die_0 (i := 0) rfl rfl ?_
  refine J_iload_n X dX10_die_1 (i := 1) rfl rfl ?_
  refine T_callV (As := [.int v1]) w X (C_X10_isMermaid (kG K) v0 kv0 v1 S) cb10 kv0 ml_X10_419 in_yX10_isMermaid se_yX10_isMermaid ii_RX10 co_yX10_isMermaid hy_X10_isMermaid (hRd hR (by decide) (by decide)) rfl (Nat.le_of_ble_eq_true rfl) dX10_die_2 (fun r2 S1 _ wS1 => ?_)
  refine J_if_eq X (tgt := 21) dX10_die_5 (by decide) ?_ ?_
  · refine J_iconst X (v := (0 : Int32)) dX10_die_21 (by decide) ?_
    exact T_zret wS1 X (by decide) dX10_die_22
  · refine J_aload_n X dX10_die_8 (i := 0) rfl rfl ?_
    refine T_getR X (kf := 51) cb10 kv0 (by decide) fl_X10_119 (fun _ _ _ => rfl) dX10_die_9 ?_
    refine J_bipush X (v := (16 : Int32)) dX10_die_12 (by decide) ?_
    refine J_iload_n X dX10_die_14 (i := 1) rfl rfl ?_
    refine J_iadd X dX10_die_15 ?_
    refine T_iald X (wS1.1 _ _ kv0 51 _ rfl) dX10_die_16 (fun j3 => ?_)
    refine J_iconst X (v := (1 : Int32)) dX10_die_17 (by decide) ?_
    refine J_icmp_ne X (tgt := 23) dX10_die_18 (by decide) ?_ ?_
    · refine J_iconst X (v := (0 : Int32)) dX10_die_21 (by decide) ?_
      exact T_zret wS1 X (by decide) dX10_die_22
    · refine J_aload_n X dX10_die_23 (i := 0) rfl rfl ?_
      refine T_callV (As := []) wS1 X (C_X10_copies (kG K) v0 kv0 S1) cb10 kv0 ml_X10_335 in_yX10_copies se_yX10_copies ii_RX10 co_yX10_copies hy_X10_copies (hRd hR (by decide) (by decide)) rfl (Nat.le_of_ble_eq_true rfl) dX10_die_24 (fun _ S4 _ wS4 => ?_)
      refine J_aload_n X dX10_die_27 (i := 0) rfl rfl ?_
      refine T_getR X (kf := 52) cb10 kv0 (by decide) fl_X10_122 (fun _ _ _ => rfl) dX10_die_28 ?_
      refine J_bipush X (v := (16 : Int32)) dX10_die_31 (by decide) ?_
      refine J_iload_n X dX10_die_33 (i := 1) rfl rfl ?_
      refine J_iadd X dX10_die_34 ?_
      refine J_iconst X (v := (1 : Int32)) dX10_die_35 (by decide) ?_
      refine T_iast X (wS4.1 _ _ kv0 52 _ rfl) dX10_die_36 (fun j6 S7 hS7 => ?_)
      have wS7 : WT (kDn K) S7.2.2 := by rw [hS7]; exact wS4
      clear hS7
      refine J_aload_n X dX10_die_37 (i := 0) rfl rfl ?_
      refine T_callV (As := []) wS7 X (C_X10_records (kG K) v0 kv0 S7) cb10 kv0 ml_X10_432 in_yX10_records se_yX10_records ii_RX10 co_yX10_records hy_X10_records (hRd hR (by decide) (by decide)) rfl (Nat.le_of_ble_eq_true rfl) dX10_die_38 (fun _ S8 _ wS8 => ?_)
      refine J_iconst X (v := (1 : Int32)) dX10_die_41 (by decide) ?_
      exact T_zret wS8 X (by decide) dX10_die_42
theorem C_X10_die (G : GG) (v0 : Nat) (kv0 : KA (gD G) v0 (0, 10)) (v1 : Int32) (S : St) : CM G yX10_die cX10_die 2 (some .boolean) 2 [.ref v0, .int v1] S (fun v : Int32 => some (.int v)) (f_X10_die v0 v1 S) :=
  CM_of (by decide) (Nat.le_of_ble_eq_true rfl) rfl (fun K hG X hR w => by subst hG; exact t_X10_die_0 X hR v0 kv0 v1 S w)
-- ==== X10_isLong
theorem hy_X10_isLong : yX10_isLong.cls ≠ "java/lang/invoke/MethodHandle" ∧ yX10_isLong.cls ≠ "java/lang/invoke/VarHandle" ∧ (parseMethodDescriptor yX10_isLong.desc).map (fun d => d.parameters.length) = some 1 := by decide +kernel
set_option maxRecDepth 20000 in
def f_X10_isLong (v0 : Int32) (S : St) : Option (Int32 × St) := bd (f_X10_in v0 (0 : Int32) (60 : Int32) S) fun r2 S1 => (gb r2).bind fun v => some (v, S1)
set_option maxRecDepth 20000 in
theorem t_X10_isLong_0 {K : KK} (X : CX K cX10_isLong 1 RX10 (some .boolean)) (hR : kR K = rmD 1) (v0 : Int32) (S : St) (w : WT (kDn K) S.2.2) : JX K (Zm K (fun v : Int32 => some (.int v))) 0 [some (.int v0)] [] (rwN (kN K) S) (kn K) 0 0 (f_X10_isLong v0 S) := by
  unfold f_X10_isLong
  refine J_iload_n X dX10_isLong_0 (i := 0) rfl rfl ?_
  refine J_iconst X (v := (0 : Int32)) dX10_isLong_1 (by decide) ?_
  refine J_bipush X (v := (60 : Int32)) dX10_isLong_2 (by decide) ?_
  refine T_callS (As := [.int v0, .int (0 : Int32), .int (60 : Int32)]) w X (C_X10_in (kG K) v0 (0 : Int32) (60 : Int32) S) ml_X10_325 st_yX10_in ii_RX10 co_yX10_in hy_X10_in (hRd hR (by decide) (by decide)) rfl (Nat.le_of_ble_eq_true rfl) dX10_isLong_4 (fun r2 S1 _ wS1 => ?_)
  exact T_gret wS1 X dX10_isLong_7
theorem C_X10_isLong (G : GG) (v0 : Int32) (S : St) : CM G yX10_isLong cX10_isLong 1 (some .boolean) 1 [.int v0] S (fun v : Int32 => some (.int v)) (f_X10_isLong v0 S) :=
  CM_of (by decide) (Nat.le_of_ble_eq_true rfl) rfl (fun K hG X hR w => by subst hG; exact t_X10_isLong_0 X hR v0 S w)
-- ==== X10_months
theorem hy_X10_months : yX10_months.cls ≠ "java/lang/invoke/MethodHandle" ∧ yX10_months.cls ≠ "java/lang/invoke/VarHandle" ∧ (parseMethodDescriptor yX10_months.desc).map (fun d => d.parameters.length) = some 1 := by decide +kernel
set_option maxRecDepth 20000 in
def f_X10_months (v0 : Nat) (v1 : Int32) (S : St) : Option (Int32 × St) := bd (f_X10_isLong v1 S) fun r2 S1 => if r2 = 0 then (some ((-1 : Int32), S1)) else (if v1 = 0 then ((ix (54 : Int32) 55).bind fun j3 => some (S1.1 (S1.2.2 v0 51) j3, S1)) else (bd (f_X10_copies v0 S1) fun _ S4 => bd (f_X10_goes v0 v1 S4) fun _ S6 => bd (f_X10_records v0 S6) fun _ S8 => (ix (54 : Int32) 55).bind fun j10 => some (S8.1 (S8.2.2 v0 51) j10, S8)))
set_option maxRecDepth 20000 in
theorem t_X10_months_0 {K : KK} (X : CX K cX10_months 2 RX10 (some .int)) (hR : kR K = rmD 9) (v0 : Nat) (kv0 : KA (kDn K) v0 (0, 10)) (v1 : Int32) (S : St) (w : WT (kDn K) S.2.2) : JX K (Zm K (fun v : Int32 => some (.int v))) 0 [some (.ref v0), some (.int v1)] [] (rwN (kN K) S) (kn K) 0 0 (f_X10_months v0 v1 S) := by
  unfold f_X10_months
  refine J_iload_n X dX10_months_0 (i := 1) rfl rfl ?_
  refine T_callS (As := [.int v1]) w X (C_X10_isLong (kG K) v1 S) ml_X10_435 st_yX10_isLong ii_RX10 co_yX10_isLong hy_X10_isLong (hRd hR (by decide) (by decide)) rfl (Nat.le_of_ble_eq_true rfl) dX10_months_1 (fun r2 S1 _ wS1 => ?_)
  refine J_if_ne X (tgt := 9) dX10_months_4 (by decide) ?_ ?_
  · refine J_iconst X (v := (-1 : Int32)) dX10_months_7 (by decide) ?_
    exact T_iret wS1 X dX10_months_8
  · refine J_iload_n X dX10_months_9 (i := 1) rfl rfl ?_
    refine J_if_ne X (tgt := 21) dX10_months_10 (by decide) ?_ ?_
    · refine J_aload_n X dX10_months_13 (i := 0) rfl rfl ?_
      refine T_getR X (kf := 51) cb10 kv0 (by decide) fl_X10_119 (fun _ _ _ => rfl) dX10_months_14 ?_
      refine J_bipush X (v := (54 : Int32)) dX10_months_17 (by decide) ?_
      refine T_iald X (wS1.1 _ _ kv0 51 _ rfl) dX10_months_19 (fun j3 => ?_)
      exact T_iret wS1 X dX10_months_20
    · refine J_aload_n X dX10_months_21 (i := 0) rfl rfl ?_
      refine T_callV (As := []) wS1 X (C_X10_copies (kG K) v0 kv0 S1) cb10 kv0 ml_X10_335 in_yX10_copies se_yX10_copies ii_RX10 co_yX10_copies hy_X10_copies (hRd hR (by decide) (by decide)) rfl (Nat.le_of_ble_eq_true rfl) dX10_months_22 (fun _ S4 _ wS4 => ?_)
      refine J_aload_n X dX10_months_25 (i := 0) rfl rfl ?_
      refine J_iload_n X dX10_months_26 (i := 1) rfl rfl ?_
      refine T_callV (As := [.int v1]) wS4 X (C_X10_goes (kG K) v0 kv0 v1 S4) cb10 kv0 ml_X10_438 in_yX10_goes se_yX10_goes ii_RX10 co_yX10_goes hy_X10_goes (hRd hR (by decide) (by decide)) rfl (Nat.le_of_ble_eq_true rfl) dX10_months_27 (fun _ S6 _ wS6 => ?_)
      refine J_aload_n X dX10_months_30 (i := 0) rfl rfl ?_
      refine T_callV (As := []) wS6 X (C_X10_records (kG K) v0 kv0 S6) cb10 kv0 ml_X10_432 in_yX10_records se_yX10_records ii_RX10 co_yX10_records hy_X10_records (hRd hR (by decide) (by decide)) rfl (Nat.le_of_ble_eq_true rfl) dX10_months_31 (fun _ S8 _ wS8 => ?_)
      refine J_aload_n X dX10_months_34 (i := 0) rfl rfl ?_
      refine T_getR X (kf := 51) cb10 kv0 (by decide) fl_X10_119 (fun _ _ _ => rfl) dX10_months_35 ?_
      refine J_bipush X (v := (54 : Int32)) dX10_months_38 (by decide) ?_
      refine T_iald X (wS8.1 _ _ kv0 51 _ rfl) dX10_months_40 (fun j10 => ?_)
      exact T_iret wS8 X dX10_months_41
theorem C_X10_months (G : GG) (v0 : Nat) (kv0 : KA (gD G) v0 (0, 10)) (v1 : Int32) (S : St) : CM G yX10_months cX10_months 2 (some .int) 9 [.ref v0, .int v1] S (fun v : Int32 => some (.int v)) (f_X10_months v0 v1 S) :=
  CM_of (by decide) (Nat.le_of_ble_eq_true rfl) rfl (fun K hG X hR w => by subst hG; exact t_X10_months_0 X hR v0 kv0 v1 S w)
-- ==== X10_undo
theorem hy_X10_undo : yX10_undo.cls ≠ "java/lang/invoke/MethodHandle" ∧ yX10_undo.cls ≠ "java/lang/invoke/VarHandle" ∧ (parseMethodDescriptor yX10_undo.desc).map (fun d => d.parameters.length) = some 0 := by decide +kernel
set_option maxRecDepth 20000 in
def b_X10_undo_21 : Nat → Nat → Int32 → St → Option (Int32 × St)
  | 0, _, _, _ => none
  | fu + 1, v0, v1, S => if (55 : Int32) ≤ v1 then (some ((1 : Int32), S)) else ((ix (((55 : Int32) * (S.1 v0 61)) + v1) 2200).bind fun j1 => (ix v1 55).bind fun j2 => nm (sI S (S.2.2 v0 51) j2 (S.1 (S.2.2 v0 62) j1)) fun S3 => nm (v1 + (1 : Int32)) fun x4 => b_X10_undo_21 fu v0 x4 S3)
set_option maxRecDepth 20000 in
theorem t_X10_undo_21 {K : KK} (X : CX K cX10_undo 2 RX10 (some .boolean)) (hR : kR K = rmD 0) : ∀ (fu : Nat) (v0 : Nat) (kv0 : KA (kDn K) v0 (0, 10)) (v1 : Int32) (S : St), WT (kDn K) S.2.2 → JX K (Zm K (fun v : Int32 => some (.int v))) 21 [some (.ref v0), some (.int v1)] [] (rwN (kN K) S) (kn K) 0 0 (b_X10_undo_21 fu v0 v1 S) := by
  intro fu
  induction fu with
  | zero => intro v0 kv0 v1 S w; exact J_none
  | succ fu ih =>
    intro v0 kv0 v1 S w
    rw [b_X10_undo_21]
    refine J_iload_n X dX10_undo_21 (i := 1) rfl rfl ?_
    refine J_bipush X (v := (55 : Int32)) dX10_undo_22 (by decide) ?_
    refine J_icmp_ge X (tgt := 53) dX10_undo_24 (by decide) ?_ ?_
    · refine J_iconst X (v := (1 : Int32)) dX10_undo_53 (by decide) ?_
      exact T_zret w X (by decide) dX10_undo_54
    · refine J_aload_n X dX10_undo_27 (i := 0) rfl rfl ?_
      refine T_getR X (kf := 51) cb10 kv0 (by decide) fl_X10_119 (fun _ _ _ => rfl) dX10_undo_28 ?_
      refine J_iload_n X dX10_undo_31 (i := 1) rfl rfl ?_
      refine J_aload_n X dX10_undo_32 (i := 0) rfl rfl ?_
      refine T_getR X (kf := 62) cb10 kv0 (by decide) fl_X10_137 (fun _ _ _ => rfl) dX10_undo_33 ?_
      refine J_bipush X (v := (55 : Int32)) dX10_undo_36 (by decide) ?_
      refine J_aload_n X dX10_undo_38 (i := 0) rfl rfl ?_
      refine T_getI X (kf := 61) cb10 kv0 (by decide) fl_X10_257 (fun _ _ _ => rfl) dX10_undo_39 ?_
      refine J_imul X dX10_undo_42 ?_
      refine J_iload_n X dX10_undo_43 (i := 1) rfl rfl ?_
      refine J_iadd X dX10_undo_44 ?_
      refine T_iald X (w.1 _ _ kv0 62 _ rfl) dX10_undo_45 (fun j1 => ?_)
      refine T_iast X (w.1 _ _ kv0 51 _ rfl) dX10_undo_46 (fun j2 S3 hS3 => ?_)
      have wS3 : WT (kDn K) S3.2.2 := by rw [hS3]; exact w
      clear hS3
      refine J_nmv (v1 + (1 : Int32)) (fun x4 ex4 => ?_)
      refine J_iinc X (v := x4) (ls' := [some (.ref v0), some (.int x4)]) dX10_undo_47 (by decide) rfl (by rw [ex4]; rfl) rfl ?_
      refine J_goto X (tgt := 21) dX10_undo_50 (by decide) ?_
      exact ih v0 kv0 x4 S3 wS3
set_option maxRecDepth 20000 in
def f_X10_undo (v0 : Nat) (S : St) : Option (Int32 × St) := if (S.1 v0 61) = 0 then (some ((0 : Int32), S)) else (nm (sI S v0 61 ((S.1 v0 61) - (1 : Int32))) fun S1 => b_X10_undo_21 FU v0 (0 : Int32) S1)
set_option maxRecDepth 20000 in
theorem t_X10_undo_0 {K : KK} (X : CX K cX10_undo 2 RX10 (some .boolean)) (hR : kR K = rmD 0) (v0 : Nat) (kv0 : KA (kDn K) v0 (0, 10)) (S : St) (w : WT (kDn K) S.2.2) : JX K (Zm K (fun v : Int32 => some (.int v))) 0 [some (.ref v0), none] [] (rwN (kN K) S) (kn K) 0 0 (f_X10_undo v0 S) := by
  unfold f_X10_undo
  refine J_aload_n X dX10_undo_0 (i := 0) rfl rfl ?_
  refine T_getI X (kf := 61) cb10 kv0 (by decide) fl_X10_257 (fun _ _ _ => rfl) dX10_undo_1 ?_
  refine J_if_ne X (tgt := 9) dX10_undo_4 (by decide) ?_ ?_
  · refine J_iconst X (v := (0 : Int32)) dX10_undo_7 (by decide) ?_
    exact T_zret w X (by decide) dX10_undo_8
  · refine J_aload_n X dX10_undo_9 (i := 0) rfl rfl ?_
    refine J_dup X dX10_undo_10 rfl ?_
    refine T_getI X (kf := 61) cb10 kv0 (by decide) fl_X10_257 (fun _ _ _ => rfl) dX10_undo_11 ?_
    refine J_iconst X (v := (1 : Int32)) dX10_undo_14 (by decide) ?_
    refine J_isub X dX10_undo_15 ?_
    refine T_putI X (kf := 61) cb10 kv0 (by decide) fl_X10_257 (fun _ _ _ => rfl) rfl rfl rfl dX10_undo_16 (fun S1 hS1 => ?_)
    have wS1 : WT (kDn K) S1.2.2 := by rw [hS1]; exact w
    clear hS1
    refine J_iconst X (v := (0 : Int32)) dX10_undo_19 (by decide) ?_
    refine J_istore_n X (i := 1) (ls' := [some (.ref v0), some (.int (0 : Int32))]) dX10_undo_20 rfl (by decide) rfl ?_
    exact t_X10_undo_21 X hR FU v0 kv0 (0 : Int32) S1 wS1
theorem C_X10_undo (G : GG) (v0 : Nat) (kv0 : KA (gD G) v0 (0, 10)) (S : St) : CM G yX10_undo cX10_undo 2 (some .boolean) 0 [.ref v0] S (fun v : Int32 => some (.int v)) (f_X10_undo v0 S) :=
  CM_of (by decide) (Nat.le_of_ble_eq_true rfl) rfl (fun K hG X hR w => by subst hG; exact t_X10_undo_0 X hR v0 kv0 S w)
-- ==== X10_then
theorem hy_X10_then : yX10_then.cls ≠ "java/lang/invoke/MethodHandle" ∧ yX10_then.cls ≠ "java/lang/invoke/VarHandle" ∧ (parseMethodDescriptor yX10_then.desc).map (fun d => d.parameters.length) = some 3 := by decide +kernel
set_option maxRecDepth 20000 in
def f_X10_then (v0 : Nat) (v1 : Int32) (v2 : Int32) (v3 : Int32) (S : St) : Option (Int32 × St) := bd (f_X10_isPerson v0 v1 S) fun r2 S1 => if r2 = 0 then (some ((-1 : Int32), S1)) else (bd (f_X10_isLong v2 S1) fun r4 S3 => if r4 = 0 then (some ((-1 : Int32), S3)) else (bd (f_X10_in v3 (0 : Int32) (2 : Int32) S3) fun r6 S5 => if r6 = 0 then (some ((-1 : Int32), S5)) else (bd (f_X10_copies v0 S5) fun _ S7 => bd (f_X10_goes v0 v2 S7) fun _ S9 => (ix (((20 : Int32) + ((6 : Int32) * v3)) + v1) 55).bind fun j11 => some (S9.1 (S9.2.2 v0 52) j11, S9))))
set_option maxRecDepth 20000 in
theorem t_X10_then_0 {K : KK} (X : CX K cX10_then 4 RX10 (some .int)) (hR : kR K = rmD 9) (v0 : Nat) (kv0 : KA (kDn K) v0 (0, 10)) (v1 : Int32) (v2 : Int32) (v3 : Int32) (S : St) (w : WT (kDn K) S.2.2) : JX K (Zm K (fun v : Int32 => some (.int v))) 0 [some (.ref v0), some (.int v1), some (.int v2), some (.int v3)] [] (rwN (kN K) S) (kn K) 0 0 (f_X10_then v0 v1 v2 v3 S) := by
  unfold f_X10_then
  refine J_aload_n X dX10_then_0 (i := 0) rfl rfl ?_
  refine J_iload_n X dX10_then_1 (i := 1) rfl rfl ?_
  refine T_callV (As := [.int v1]) w X (C_X10_isPerson (kG K) v0 kv0 v1 S) cb10 kv0 ml_X10_422 in_yX10_isPerson se_yX10_isPerson ii_RX10 co_yX10_isPerson hy_X10_isPerson (hRd hR (by decide) (by decide)) rfl (Nat.le_of_ble_eq_true rfl) dX10_then_2 (fun r2 S1 _ wS1 => ?_)
  refine J_if_eq X (tgt := 24) dX10_then_5 (by decide) ?_ ?_
  · refine J_iconst X (v := (-1 : Int32)) dX10_then_24 (by decide) ?_
    exact T_iret wS1 X dX10_then_25
  · refine J_iload_n X dX10_then_8 (i := 2) rfl rfl ?_
    refine T_callS (As := [.int v2]) wS1 X (C_X10_isLong (kG K) v2 S1) ml_X10_435 st_yX10_isLong ii_RX10 co_yX10_isLong hy_X10_isLong (hRd hR (by decide) (by decide)) rfl (Nat.le_of_ble_eq_true rfl) dX10_then_9 (fun r4 S3 _ wS3 => ?_)
    refine J_if_eq X (tgt := 24) dX10_then_12 (by decide) ?_ ?_
    · refine J_iconst X (v := (-1 : Int32)) dX10_then_24 (by decide) ?_
      exact T_iret wS3 X dX10_then_25
    · refine J_iload_n X dX10_then_15 (i := 3) rfl rfl ?_
      refine J_iconst X (v := (0 : Int32)) dX10_then_16 (by decide) ?_
      refine J_iconst X (v := (2 : Int32)) dX10_then_17 (by decide) ?_
      refine T_callS (As := [.int v3, .int (0 : Int32), .int (2 : Int32)]) wS3 X (C_X10_in (kG K) v3 (0 : Int32) (2 : Int32) S3) ml_X10_325 st_yX10_in ii_RX10 co_yX10_in hy_X10_in (hRd hR (by decide) (by decide)) rfl (Nat.le_of_ble_eq_true rfl) dX10_then_18 (fun r6 S5 _ wS5 => ?_)
      refine J_if_ne X (tgt := 26) dX10_then_21 (by decide) ?_ ?_
      · refine J_iconst X (v := (-1 : Int32)) dX10_then_24 (by decide) ?_
        exact T_iret wS5 X dX10_then_25
      · refine J_aload_n X dX10_then_26 (i := 0) rfl rfl ?_
        refine T_callV (As := []) wS5 X (C_X10_copies (kG K) v0 kv0 S5) cb10 kv0 ml_X10_335 in_yX10_copies se_yX10_copies ii_RX10 co_yX10_copies hy_X10_copies (hRd hR (by decide) (by decide)) rfl (Nat.le_of_ble_eq_true rfl) dX10_then_27 (fun _ S7 _ wS7 => ?_)
        refine J_aload_n X dX10_then_30 (i := 0) rfl rfl ?_
        refine J_iload_n X dX10_then_31 (i := 2) rfl rfl ?_
        refine T_callV (As := [.int v2]) wS7 X (C_X10_goes (kG K) v0 kv0 v2 S7) cb10 kv0 ml_X10_438 in_yX10_goes se_yX10_goes ii_RX10 co_yX10_goes hy_X10_goes (hRd hR (by decide) (by decide)) rfl (Nat.le_of_ble_eq_true rfl) dX10_then_32 (fun _ S9 _ wS9 => ?_)
        refine J_aload_n X dX10_then_35 (i := 0) rfl rfl ?_
        refine T_getR X (kf := 52) cb10 kv0 (by decide) fl_X10_122 (fun _ _ _ => rfl) dX10_then_36 ?_
        refine J_bipush X (v := (20 : Int32)) dX10_then_39 (by decide) ?_
        refine J_bipush X (v := (6 : Int32)) dX10_then_41 (by decide) ?_
        refine J_iload_n X dX10_then_43 (i := 3) rfl rfl ?_
        refine J_imul X dX10_then_44 ?_
        refine J_iadd X dX10_then_45 ?_
        refine J_iload_n X dX10_then_46 (i := 1) rfl rfl ?_
        refine J_iadd X dX10_then_47 ?_
        refine T_iald X (wS9.1 _ _ kv0 52 _ rfl) dX10_then_48 (fun j11 => ?_)
        exact T_iret wS9 X dX10_then_49
theorem C_X10_then (G : GG) (v0 : Nat) (kv0 : KA (gD G) v0 (0, 10)) (v1 : Int32) (v2 : Int32) (v3 : Int32) (S : St) : CM G yX10_then cX10_then 4 (some .int) 9 [.ref v0, .int v1, .int v2, .int v3] S (fun v : Int32 => some (.int v)) (f_X10_then v0 v1 v2 v3 S) :=
  CM_of (by decide) (Nat.le_of_ble_eq_true rfl) rfl (fun K hG X hR w => by subst hG; exact t_X10_then_0 X hR v0 kv0 v1 v2 v3 S w)

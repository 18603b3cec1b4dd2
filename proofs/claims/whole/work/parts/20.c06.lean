-- ==== X9_near
theorem hy_X9_near : yX9_near.cls ≠ "java/lang/invoke/MethodHandle" ∧ yX9_near.cls ≠ "java/lang/invoke/VarHandle" ∧ (parseMethodDescriptor yX9_near.desc).map (fun d => d.parameters.length) = some 3 := by decide +kernel
set_option maxRecDepth 20000 in
def b_X9_near_70 : Nat → Nat → Int32 → Int32 → Int32 → Int32 → Int32 → St → Option (Int32 × St)
  | 0, _, _, _, _, _, _, _ => none
  | fu + 1, v0, v1, v3, v4, v5, v6, S => if (100 : Int32) < v6 then (some ((-2 : Int32), S)) else (bd (f_X5_farOf (S.2.2 v0 6) v1 v4 v5 S) fun r2 S1 => if v3 < r2 then (bd (f_X5_swim (S1.2.2 v0 6) v1 S1) fun _ S3 => nm (v6 + (1 : Int32)) fun x5 => b_X9_near_70 fu v0 v1 v3 v4 v5 x5 S3) else (some (v6, S1)))
set_option maxRecDepth 20000 in
theorem t_X9_near_70 {K : KK} (X : CX K cX9_near 7 RX9 (some .int)) (hR : kR K = rmD 3) : ∀ (fu : Nat) (v0 : Nat) (kv0 : KA (kDn K) v0 (0, 9)) (v1 : Int32) (v3 : Int32) (v4 : Int32) (v5 : Int32) (v6 : Int32) (S : St), WT (kDn K) S.2.2 → JX K (Zm K (fun v : Int32 => some (.int v))) 70 [some (.ref v0), some (.int v1), none, some (.int v3), some (.int v4), some (.int v5), some (.int v6)] [] (rwN (kN K) S) (kn K) 0 0 (b_X9_near_70 fu v0 v1 v3 v4 v5 v6 S) := by
  intro fu
  induction fu with
  | zero => intro v0 kv0 v1 v3 v4 v5 v6 S w; exact J_none
  | succ fu ih =>
    intro v0 kv0 v1 v3 v4 v5 v6 S w
    rw [b_X9_near_70]
    refine J_iload X dX9_near_70 rfl ?_
    refine J_bipush X (v := (100 : Int32)) dX9_near_72 (by decide) ?_
    refine J_icmp_gt X (tgt := 110) dX9_near_74 (by decide) ?_ ?_
    · refine J_bipush X (v := (-2 : Int32)) dX9_near_110 (by decide) ?_
      exact T_iret w X dX9_near_112
    · refine J_aload_n X dX9_near_77 (i := 0) rfl rfl ?_
      refine T_getR X (kf := 6) cb9 kv0 (by decide) fl_X9_39 (fun _ _ _ => rfl) dX9_near_78 ?_
      refine J_iload_n X dX9_near_81 (i := 1) rfl rfl ?_
      refine J_iload X dX9_near_82 rfl ?_
      refine J_iload X dX9_near_84 rfl ?_
      refine T_callV (As := [.int v1, .int v4, .int v5]) w X (C_X5_farOf (kG K) (S.2.2 v0 6) (w.1 _ _ kv0 6 _ rfl) v1 v4 v5 S) cb5 (w.1 _ _ kv0 6 _ rfl) ml_X9_182 in_yX5_farOf se_yX5_farOf ii_RX5 co_yX5_farOf hy_X5_farOf (hRd hR (by decide) (by decide)) rfl (Nat.le_of_ble_eq_true rfl) dX9_near_86 (fun r2 S1 _ wS1 => ?_)
      refine J_iload_n X dX9_near_89 (i := 3) rfl rfl ?_
      refine J_icmp_gt X (tgt := 96) dX9_near_90 (by decide) ?_ ?_
      · refine J_aload_n X dX9_near_96 (i := 0) rfl rfl ?_
        refine T_getR X (kf := 6) cb9 kv0 (by decide) fl_X9_39 (fun _ _ _ => rfl) dX9_near_97 ?_
        refine J_iload_n X dX9_near_100 (i := 1) rfl rfl ?_
        refine T_callV (As := [.int v1]) wS1 X (C_X5_swim (kG K) (S1.2.2 v0 6) (wS1.1 _ _ kv0 6 _ rfl) v1 S1) cb5 (wS1.1 _ _ kv0 6 _ rfl) ml_X9_235 in_yX5_swim se_yX5_swim ii_RX5 co_yX5_swim hy_X5_swim (hRd hR (by decide) (by decide)) rfl (Nat.le_of_ble_eq_true rfl) dX9_near_101 (fun _ S3 _ wS3 => ?_)
        refine J_nmv (v6 + (1 : Int32)) (fun x5 ex5 => ?_)
        refine J_iinc X (v := x5) (ls' := [some (.ref v0), some (.int v1), none, some (.int v3), some (.int v4), some (.int v5), some (.int x5)]) dX9_near_104 (by decide) rfl (by rw [ex5]; rfl) rfl ?_
        refine J_goto X (tgt := 70) dX9_near_107 (by decide) ?_
        exact ih v0 kv0 v1 v3 v4 v5 x5 S3 wS3
      · refine J_iload X dX9_near_93 rfl ?_
        exact T_iret wS1 X dX9_near_95
set_option maxRecDepth 20000 in
def f_X9_near (v0 : Nat) (v1 : Int32) (v2 : Int32) (v3 : Int32) (S : St) : Option (Int32 × St) := bd (f_X9_isMermaid v0 v1 S) fun r2 S1 => if r2 = 0 then (some ((-1 : Int32), S1)) else (bd (f_X9_isPerson v0 v2 S1) fun r4 S3 => if r4 = 0 then (some ((-1 : Int32), S3)) else (bd (f_X9_isWithin v3 (0 : Int32) (9 : Int32) S3) fun r6 S5 => if r6 = 0 then (some ((-1 : Int32), S5)) else ((ix ((16 : Int32) + v2) 36).bind fun j7 => nm (S5.1 (S5.2.2 (S5.2.2 v0 5) 0) j7) fun x8 => (ix ((22 : Int32) + v2) 36).bind fun j9 => nm (S5.1 (S5.2.2 (S5.2.2 v0 5) 0) j9) fun x10 => bd (f_X5_copyFrom (S5.2.2 v0 6) (S5.2.2 v0 5) S5) fun _ S11 => b_X9_near_70 FU v0 v1 v3 x8 x10 (0 : Int32) S11)))
set_option maxRecDepth 20000 in
theorem t_X9_near_0 {K : KK} (X : CX K cX9_near 7 RX9 (some .int)) (hR : kR K = rmD 3) (v0 : Nat) (kv0 : KA (kDn K) v0 (0, 9)) (v1 : Int32) (v2 : Int32) (v3 : Int32) (S : St) (w : WT (kDn K) S.2.2) : JX K (Zm K (fun v : Int32 => some (.int v))) 0 [some (.ref v0), some (.int v1), some (.int v2), some (.int v3), none, none, none] [] (rwN (kN K) S) (kn K) 0 0 (f_X9_near v0 v1 v2 v3 S) := by
  unfold f_X9_near
  refine J_aload_n X dX9_near_0 (i := 0) rfl rfl ?_
  refine J_iload_n X dX9_near_1 (i := 1) rfl rfl ?_
  refine T_callV (As := [.int v1]) w X (C_X9_isMermaid (kG K) v0 kv0 v1 S) cb9 kv0 ml_X9_121 in_yX9_isMermaid se_yX9_isMermaid ii_RX9 co_yX9_isMermaid hy_X9_isMermaid (hRd hR (by decide) (by decide)) rfl (Nat.le_of_ble_eq_true rfl) dX9_near_2 (fun r2 S1 _ wS1 => ?_)
  refine J_if_eq X (tgt := 26) dX9_near_5 (by decide) ?_ ?_
  · refine J_iconst X (v := (-1 : Int32)) dX9_near_26 (by decide) ?_
    exact T_iret wS1 X dX9_near_27
  · refine J_aload_n X dX9_near_8 (i := 0) rfl rfl ?_
    refine J_iload_n X dX9_near_9 (i := 2) rfl rfl ?_
    refine T_callV (As := [.int v2]) wS1 X (C_X9_isPerson (kG K) v0 kv0 v2 S1) cb9 kv0 ml_X9_132 in_yX9_isPerson se_yX9_isPerson ii_RX9 co_yX9_isPerson hy_X9_isPerson (hRd hR (by decide) (by decide)) rfl (Nat.le_of_ble_eq_true rfl) dX9_near_10 (fun r4 S3 _ wS3 => ?_)
    refine J_if_eq X (tgt := 26) dX9_near_13 (by decide) ?_ ?_
    · refine J_iconst X (v := (-1 : Int32)) dX9_near_26 (by decide) ?_
      exact T_iret wS3 X dX9_near_27
    · refine J_iload_n X dX9_near_16 (i := 3) rfl rfl ?_
      refine J_iconst X (v := (0 : Int32)) dX9_near_17 (by decide) ?_
      refine J_bipush X (v := (9 : Int32)) dX9_near_18 (by decide) ?_
      refine T_callS (As := [.int v3, .int (0 : Int32), .int (9 : Int32)]) wS3 X (C_X9_isWithin (kG K) v3 (0 : Int32) (9 : Int32) S3) ml_X9_224 st_yX9_isWithin ii_RX9 co_yX9_isWithin hy_X9_isWithin (hRd hR (by decide) (by decide)) rfl (Nat.le_of_ble_eq_true rfl) dX9_near_20 (fun r6 S5 _ wS5 => ?_)
      refine J_if_ne X (tgt := 28) dX9_near_23 (by decide) ?_ ?_
      · refine J_iconst X (v := (-1 : Int32)) dX9_near_26 (by decide) ?_
        exact T_iret wS5 X dX9_near_27
      · refine J_aload_n X dX9_near_28 (i := 0) rfl rfl ?_
        refine T_getR X (kf := 5) cb9 kv0 (by decide) fl_X9_35 (fun _ _ _ => rfl) dX9_near_29 ?_
        refine T_getR X (kf := 0) cb5 (wS5.1 _ _ kv0 5 _ rfl) (by decide) fl_X9_125 (fun _ _ _ => rfl) dX9_near_32 ?_
        refine J_bipush X (v := (16 : Int32)) dX9_near_35 (by decide) ?_
        refine J_iload_n X dX9_near_37 (i := 2) rfl rfl ?_
        refine J_iadd X dX9_near_38 ?_
        refine T_iald X (wS5.1 _ _ (wS5.1 _ _ kv0 5 _ rfl) 0 _ rfl) dX9_near_39 (fun j7 => ?_)
        refine J_nmi (fun x8 => ?_)
        refine J_istore X (ls' := [some (.ref v0), some (.int v1), some (.int v2), some (.int v3), some (.int x8), none, none]) dX9_near_40 (by decide) rfl ?_
        refine J_aload_n X dX9_near_42 (i := 0) rfl rfl ?_
        refine T_getR X (kf := 5) cb9 kv0 (by decide) fl_X9_35 (fun _ _ _ => rfl) dX9_near_43 ?_
        refine T_getR X (kf := 0) cb5 (wS5.1 _ _ kv0 5 _ rfl) (by decide) fl_X9_125 (fun _ _ _ => rfl) dX9_near_46 ?_
        refine J_bipush X (v := (22 : Int32)) dX9_near_49 (by decide) ?_
        refine J_iload_n X dX9_near_51 (i := 2) rfl rfl ?_
        refine J_iadd X dX9_near_52 ?_
        refine T_iald X (wS5.1 _ _ (wS5.1 _ _ kv0 5 _ rfl) 0 _ rfl) dX9_near_53 (fun j9 => ?_)
        refine J_nmi (fun x10 => ?_)
        refine J_istore X (ls' := [some (.ref v0), some (.int v1), some (.int v2), some (.int v3), some (.int x8), some (.int x10), none]) dX9_near_54 (by decide) rfl ?_
        refine J_aload_n X dX9_near_56 (i := 0) rfl rfl ?_
        refine T_getR X (kf := 6) cb9 kv0 (by decide) fl_X9_39 (fun _ _ _ => rfl) dX9_near_57 ?_
        refine J_aload_n X dX9_near_60 (i := 0) rfl rfl ?_
        refine T_getR X (kf := 5) cb9 kv0 (by decide) fl_X9_35 (fun _ _ _ => rfl) dX9_near_61 ?_
        refine T_callV (As := [.ref (S5.2.2 v0 5)]) wS5 X (C_X5_copyFrom (kG K) (S5.2.2 v0 6) (wS5.1 _ _ kv0 6 _ rfl) (S5.2.2 v0 5) (wS5.1 _ _ kv0 5 _ rfl) S5) cb5 (wS5.1 _ _ kv0 6 _ rfl) ml_X9_98 in_yX5_copyFrom se_yX5_copyFrom ii_RX5 co_yX5_copyFrom hy_X5_copyFrom (hRd hR (by decide) (by decide)) rfl (Nat.le_of_ble_eq_true rfl) dX9_near_64 (fun _ S11 _ wS11 => ?_)
        refine J_iconst X (v := (0 : Int32)) dX9_near_67 (by decide) ?_
        refine J_istore X (ls' := [some (.ref v0), some (.int v1), some (.int v2), some (.int v3), some (.int x8), some (.int x10), some (.int (0 : Int32))]) dX9_near_68 (by decide) rfl ?_
        refine J_mask [true, true, false, true, true, true, true] ?_
        exact t_X9_near_70 X hR FU v0 kv0 v1 v3 x8 x10 (0 : Int32) S11 wS11
theorem C_X9_near (G : GG) (v0 : Nat) (kv0 : KA (gD G) v0 (0, 9)) (v1 : Int32) (v2 : Int32) (v3 : Int32) (S : St) : CM G yX9_near cX9_near 7 (some .int) 3 [.ref v0, .int v1, .int v2, .int v3] S (fun v : Int32 => some (.int v)) (f_X9_near v0 v1 v2 v3 S) :=
  CM_of (by decide) (Nat.le_of_ble_eq_true rfl) rfl (fun K hG X hR w => by subst hG; exact t_X9_near_0 X hR v0 kv0 v1 v2 v3 S w)
-- ==== X9_passing
theorem hy_X9_passing : yX9_passing.cls ≠ "java/lang/invoke/MethodHandle" ∧ yX9_passing.cls ≠ "java/lang/invoke/VarHandle" ∧ (parseMethodDescriptor yX9_passing.desc).map (fun d => d.parameters.length) = some 3 := by decide +kernel
set_option maxRecDepth 20000 in
def b_X9_passing_47 : Nat → Nat → Int32 → Int32 → Int32 → Int32 → St → Option (Int32 × St)
  | 0, _, _, _, _, _, _ => none
  | fu + 1, v0, v1, v2, v3, v4, S => if (100 : Int32) < v4 then (some ((-2 : Int32), S)) else ((ix ((0 : Int32) + v2) 36).bind fun j1 => nm (S.1 (S.2.2 (S.2.2 v0 6) 0) j1) fun x2 => (ix ((4 : Int32) + v2) 36).bind fun j3 => nm (S.1 (S.2.2 (S.2.2 v0 6) 0) j3) fun x4 => bd (f_X5_farOf (S.2.2 v0 6) v1 x2 x4 S) fun r6 S5 => if v3 < r6 then (bd (f_X5_swim (S5.2.2 v0 6) v1 S5) fun _ S7 => bd (f_X5_swim (S7.2.2 v0 6) v2 S7) fun _ S9 => nm (v4 + (1 : Int32)) fun x11 => b_X9_passing_47 fu v0 v1 v2 v3 x11 S9) else (some (v4, S5)))
set_option maxRecDepth 20000 in
theorem t_X9_passing_47 {K : KK} (X : CX K cX9_passing 7 RX9 (some .int)) (hR : kR K = rmD 3) : ∀ (fu : Nat) (v0 : Nat) (kv0 : KA (kDn K) v0 (0, 9)) (v1 : Int32) (v2 : Int32) (v3 : Int32) (v4 : Int32) (S : St), WT (kDn K) S.2.2 → JX K (Zm K (fun v : Int32 => some (.int v))) 47 [some (.ref v0), some (.int v1), some (.int v2), some (.int v3), some (.int v4), none, none] [] (rwN (kN K) S) (kn K) 0 0 (b_X9_passing_47 fu v0 v1 v2 v3 v4 S) := by
  intro fu
  induction fu with
  | zero => intro v0 kv0 v1 v2 v3 v4 S w; exact J_none
  | succ fu ih =>
    intro v0 kv0 v1 v2 v3 v4 S w
    rw [b_X9_passing_47]
    refine J_iload X dX9_passing_47 rfl ?_
    refine J_bipush X (v := (100 : Int32)) dX9_passing_49 (by decide) ?_
    refine J_icmp_gt X (tgt := 121) dX9_passing_51 (by decide) ?_ ?_
    · refine J_bipush X (v := (-2 : Int32)) dX9_passing_121 (by decide) ?_
      exact T_iret w X dX9_passing_123
    · refine J_aload_n X dX9_passing_54 (i := 0) rfl rfl ?_
      refine T_getR X (kf := 6) cb9 kv0 (by decide) fl_X9_39 (fun _ _ _ => rfl) dX9_passing_55 ?_
      refine T_getR X (kf := 0) cb5 (w.1 _ _ kv0 6 _ rfl) (by decide) fl_X9_125 (fun _ _ _ => rfl) dX9_passing_58 ?_
      refine J_iconst X (v := (0 : Int32)) dX9_passing_61 (by decide) ?_
      refine J_iload_n X dX9_passing_62 (i := 2) rfl rfl ?_
      refine J_iadd X dX9_passing_63 ?_
      refine T_iald X (w.1 _ _ (w.1 _ _ kv0 6 _ rfl) 0 _ rfl) dX9_passing_64 (fun j1 => ?_)
      refine J_nmi (fun x2 => ?_)
      refine J_istore X (ls' := [some (.ref v0), some (.int v1), some (.int v2), some (.int v3), some (.int v4), some (.int x2), none]) dX9_passing_65 (by decide) rfl ?_
      refine J_aload_n X dX9_passing_67 (i := 0) rfl rfl ?_
      refine T_getR X (kf := 6) cb9 kv0 (by decide) fl_X9_39 (fun _ _ _ => rfl) dX9_passing_68 ?_
      refine T_getR X (kf := 0) cb5 (w.1 _ _ kv0 6 _ rfl) (by decide) fl_X9_125 (fun _ _ _ => rfl) dX9_passing_71 ?_
      refine J_iconst X (v := (4 : Int32)) dX9_passing_74 (by decide) ?_
      refine J_iload_n X dX9_passing_75 (i := 2) rfl rfl ?_
      refine J_iadd X dX9_passing_76 ?_
      refine T_iald X (w.1 _ _ (w.1 _ _ kv0 6 _ rfl) 0 _ rfl) dX9_passing_77 (fun j3 => ?_)
      refine J_nmi (fun x4 => ?_)
      refine J_istore X (ls' := [some (.ref v0), some (.int v1), some (.int v2), some (.int v3), some (.int v4), some (.int x2), some (.int x4)]) dX9_passing_78 (by decide) rfl ?_
      refine J_aload_n X dX9_passing_80 (i := 0) rfl rfl ?_
      refine T_getR X (kf := 6) cb9 kv0 (by decide) fl_X9_39 (fun _ _ _ => rfl) dX9_passing_81 ?_
      refine J_iload_n X dX9_passing_84 (i := 1) rfl rfl ?_
      refine J_iload X dX9_passing_85 rfl ?_
      refine J_iload X dX9_passing_87 rfl ?_
      refine T_callV (As := [.int v1, .int x2, .int x4]) w X (C_X5_farOf (kG K) (S.2.2 v0 6) (w.1 _ _ kv0 6 _ rfl) v1 x2 x4 S) cb5 (w.1 _ _ kv0 6 _ rfl) ml_X9_182 in_yX5_farOf se_yX5_farOf ii_RX5 co_yX5_farOf hy_X5_farOf (hRd hR (by decide) (by decide)) rfl (Nat.le_of_ble_eq_true rfl) dX9_passing_89 (fun r6 S5 _ wS5 => ?_)
      refine J_iload_n X dX9_passing_92 (i := 3) rfl rfl ?_
      refine J_icmp_gt X (tgt := 99) dX9_passing_93 (by decide) ?_ ?_
      · refine J_aload_n X dX9_passing_99 (i := 0) rfl rfl ?_
        refine T_getR X (kf := 6) cb9 kv0 (by decide) fl_X9_39 (fun _ _ _ => rfl) dX9_passing_100 ?_
        refine J_iload_n X dX9_passing_103 (i := 1) rfl rfl ?_
        refine T_callV (As := [.int v1]) wS5 X (C_X5_swim (kG K) (S5.2.2 v0 6) (wS5.1 _ _ kv0 6 _ rfl) v1 S5) cb5 (wS5.1 _ _ kv0 6 _ rfl) ml_X9_235 in_yX5_swim se_yX5_swim ii_RX5 co_yX5_swim hy_X5_swim (hRd hR (by decide) (by decide)) rfl (Nat.le_of_ble_eq_true rfl) dX9_passing_104 (fun _ S7 _ wS7 => ?_)
        refine J_aload_n X dX9_passing_107 (i := 0) rfl rfl ?_
        refine T_getR X (kf := 6) cb9 kv0 (by decide) fl_X9_39 (fun _ _ _ => rfl) dX9_passing_108 ?_
        refine J_iload_n X dX9_passing_111 (i := 2) rfl rfl ?_
        refine T_callV (As := [.int v2]) wS7 X (C_X5_swim (kG K) (S7.2.2 v0 6) (wS7.1 _ _ kv0 6 _ rfl) v2 S7) cb5 (wS7.1 _ _ kv0 6 _ rfl) ml_X9_235 in_yX5_swim se_yX5_swim ii_RX5 co_yX5_swim hy_X5_swim (hRd hR (by decide) (by decide)) rfl (Nat.le_of_ble_eq_true rfl) dX9_passing_112 (fun _ S9 _ wS9 => ?_)
        refine J_nmv (v4 + (1 : Int32)) (fun x11 ex11 => ?_)
        refine J_iinc X (v := x11) (ls' := [some (.ref v0), some (.int v1), some (.int v2), some (.int v3), some (.int x11), some (.int x2), some (.int x4)]) dX9_passing_115 (by decide) rfl (by rw [ex11]; rfl) rfl ?_
        refine J_goto X (tgt := 47) dX9_passing_118 (by decide) ?_
        refine J_mask [true, true, true, true, true, false, false] ?_
        exact ih v0 kv0 v1 v2 v3 x11 S9 wS9
      · refine J_iload X dX9_passing_96 rfl ?_
        exact T_iret wS5 X dX9_passing_98
set_option maxRecDepth 20000 in
def f_X9_passing (v0 : Nat) (v1 : Int32) (v2 : Int32) (v3 : Int32) (S : St) : Option (Int32 × St) := bd (f_X9_isMermaid v0 v1 S) fun r2 S1 => if r2 = 0 then (some ((-1 : Int32), S1)) else (bd (f_X9_isMermaid v0 v2 S1) fun r4 S3 => if r4 = 0 then (some ((-1 : Int32), S3)) else (if v1 = v2 then (some ((-1 : Int32), S3)) else (bd (f_X9_isWithin v3 (0 : Int32) (9 : Int32) S3) fun r6 S5 => if r6 = 0 then (some ((-1 : Int32), S5)) else (bd (f_X5_copyFrom (S5.2.2 v0 6) (S5.2.2 v0 5) S5) fun _ S7 => b_X9_passing_47 FU v0 v1 v2 v3 (0 : Int32) S7))))
set_option maxRecDepth 20000 in
theorem t_X9_passing_0 {K : KK} (X : CX K cX9_passing 7 RX9 (some .int)) (hR : kR K = rmD 3) (v0 : Nat) (kv0 : KA (kDn K) v0 (0, 9)) (v1 : Int32) (v2 : Int32) (v3 : Int32) (S : St) (w : WT (kDn K) S.2.2) : JX K (Zm K (fun v : Int32 => some (.int v))) 0 [some (.ref v0), some (.int v1), some (.int v2), some (.int v3), none, none, none] [] (rwN (kN K) S) (kn K) 0 0 (f_X9_passing v0 v1 v2 v3 S) := by
  unfold f_X9_passing
  refine J_aload_n X dX9_passing_0 (i := 0) rfl rfl ?_
  refine J_iload_n X dX9_passing_1 (i := 1) rfl rfl ?_
  refine T_callV (As := [.int v1]) w X (C_X9_isMermaid (kG K) v0 kv0 v1 S) cb9 kv0 ml_X9_121 in_yX9_isMermaid se_yX9_isMermaid ii_RX9 co_yX9_isMermaid hy_X9_isMermaid (hRd hR (by decide) (by decide)) rfl (Nat.le_of_ble_eq_true rfl) dX9_passing_2 (fun r2 S1 _ wS1 => ?_)
  refine J_if_eq X (tgt := 31) dX9_passing_5 (by decide) ?_ ?_
  · refine J_iconst X (v := (-1 : Int32)) dX9_passing_31 (by decide) ?_
    exact T_iret wS1 X dX9_passing_32
  · refine J_aload_n X dX9_passing_8 (i := 0) rfl rfl ?_
    refine J_iload_n X dX9_passing_9 (i := 2) rfl rfl ?_
    refine T_callV (As := [.int v2]) wS1 X (C_X9_isMermaid (kG K) v0 kv0 v2 S1) cb9 kv0 ml_X9_121 in_yX9_isMermaid se_yX9_isMermaid ii_RX9 co_yX9_isMermaid hy_X9_isMermaid (hRd hR (by decide) (by decide)) rfl (Nat.le_of_ble_eq_true rfl) dX9_passing_10 (fun r4 S3 _ wS3 => ?_)
    refine J_if_eq X (tgt := 31) dX9_passing_13 (by decide) ?_ ?_
    · refine J_iconst X (v := (-1 : Int32)) dX9_passing_31 (by decide) ?_
      exact T_iret wS3 X dX9_passing_32
    · refine J_iload_n X dX9_passing_16 (i := 1) rfl rfl ?_
      refine J_iload_n X dX9_passing_17 (i := 2) rfl rfl ?_
      refine J_icmp_eq X (tgt := 31) dX9_passing_18 (by decide) ?_ ?_
      · refine J_iconst X (v := (-1 : Int32)) dX9_passing_31 (by decide) ?_
        exact T_iret wS3 X dX9_passing_32
      · refine J_iload_n X dX9_passing_21 (i := 3) rfl rfl ?_
        refine J_iconst X (v := (0 : Int32)) dX9_passing_22 (by decide) ?_
        refine J_bipush X (v := (9 : Int32)) dX9_passing_23 (by decide) ?_
        refine T_callS (As := [.int v3, .int (0 : Int32), .int (9 : Int32)]) wS3 X (C_X9_isWithin (kG K) v3 (0 : Int32) (9 : Int32) S3) ml_X9_224 st_yX9_isWithin ii_RX9 co_yX9_isWithin hy_X9_isWithin (hRd hR (by decide) (by decide)) rfl (Nat.le_of_ble_eq_true rfl) dX9_passing_25 (fun r6 S5 _ wS5 => ?_)
        refine J_if_ne X (tgt := 33) dX9_passing_28 (by decide) ?_ ?_
        · refine J_iconst X (v := (-1 : Int32)) dX9_passing_31 (by decide) ?_
          exact T_iret wS5 X dX9_passing_32
        · refine J_aload_n X dX9_passing_33 (i := 0) rfl rfl ?_
          refine T_getR X (kf := 6) cb9 kv0 (by decide) fl_X9_39 (fun _ _ _ => rfl) dX9_passing_34 ?_
          refine J_aload_n X dX9_passing_37 (i := 0) rfl rfl ?_
          refine T_getR X (kf := 5) cb9 kv0 (by decide) fl_X9_35 (fun _ _ _ => rfl) dX9_passing_38 ?_
          refine T_callV (As := [.ref (S5.2.2 v0 5)]) wS5 X (C_X5_copyFrom (kG K) (S5.2.2 v0 6) (wS5.1 _ _ kv0 6 _ rfl) (S5.2.2 v0 5) (wS5.1 _ _ kv0 5 _ rfl) S5) cb5 (wS5.1 _ _ kv0 6 _ rfl) ml_X9_98 in_yX5_copyFrom se_yX5_copyFrom ii_RX5 co_yX5_copyFrom hy_X5_copyFrom (hRd hR (by decide) (by decide)) rfl (Nat.le_of_ble_eq_true rfl) dX9_passing_41 (fun _ S7 _ wS7 => ?_)
          refine J_iconst X (v := (0 : Int32)) dX9_passing_44 (by decide) ?_
          refine J_istore X (ls' := [some (.ref v0), some (.int v1), some (.int v2), some (.int v3), some (.int (0 : Int32)), none, none]) dX9_passing_45 (by decide) rfl ?_
          exact t_X9_passing_47 X hR FU v0 kv0 v1 v2 v3 (0 : Int32) S7 wS7
theorem C_X9_passing (G : GG) (v0 : Nat) (kv0 : KA (gD G) v0 (0, 9)) (v1 : Int32) (v2 : Int32) (v3 : Int32) (S : St) : CM G yX9_passing cX9_passing 7 (some .int) 3 [.ref v0, .int v1, .int v2, .int v3] S (fun v : Int32 => some (.int v)) (f_X9_passing v0 v1 v2 v3 S) :=
  CM_of (by decide) (Nat.le_of_ble_eq_true rfl) rfl (fun K hG X hR w => by subst hG; exact t_X9_passing_0 X hR v0 kv0 v1 v2 v3 S w)
-- ==== X9_again
theorem hy_X9_again : yX9_again.cls ≠ "java/lang/invoke/MethodHandle" ∧ yX9_again.cls ≠ "java/lang/invoke/VarHandle" ∧ (parseMethodDescriptor yX9_again.desc).map (fun d => d.parameters.length) = some 1 := by decide +kernel
set_option maxRecDepth 20000 in
def b_X9_again_23 : Nat → Nat → Int32 → Int32 → St → Option (Int32 × St)
  | 0, _, _, _, _ => none
  | fu + 1, v0, v1, v2, S => if (36 : Int32) < v2 then (some ((-2 : Int32), S)) else (bd (f_X5_swim (S.2.2 v0 6) v1 S) fun _ S1 => bd (f_X5_swimsLike (S1.2.2 v0 6) (S1.2.2 v0 5) v1 S1) fun r4 S3 => if r4 = 0 then (nm (v2 + (1 : Int32)) fun x5 => b_X9_again_23 fu v0 v1 x5 S3) else (some (v2, S3)))
set_option maxRecDepth 20000 in
theorem t_X9_again_23 {K : KK} (X : CX K cX9_again 3 RX9 (some .int)) (hR : kR K = rmD 2) : ∀ (fu : Nat) (v0 : Nat) (kv0 : KA (kDn K) v0 (0, 9)) (v1 : Int32) (v2 : Int32) (S : St), WT (kDn K) S.2.2 → JX K (Zm K (fun v : Int32 => some (.int v))) 23 [some (.ref v0), some (.int v1), some (.int v2)] [] (rwN (kN K) S) (kn K) 0 0 (b_X9_again_23 fu v0 v1 v2 S) := by
  intro fu
  induction fu with
  | zero => intro v0 kv0 v1 v2 S w; exact J_none
  | succ fu ih =>
    intro v0 kv0 v1 v2 S w
    rw [b_X9_again_23]
    refine J_iload_n X dX9_again_23 (i := 2) rfl rfl ?_
    refine J_bipush X (v := (36 : Int32)) dX9_again_24 (by decide) ?_
    refine J_icmp_gt X (tgt := 60) dX9_again_26 (by decide) ?_ ?_
    · refine J_bipush X (v := (-2 : Int32)) dX9_again_60 (by decide) ?_
      exact T_iret w X dX9_again_62
    · refine J_aload_n X dX9_again_29 (i := 0) rfl rfl ?_
      refine T_getR X (kf := 6) cb9 kv0 (by decide) fl_X9_39 (fun _ _ _ => rfl) dX9_again_30 ?_
      refine J_iload_n X dX9_again_33 (i := 1) rfl rfl ?_
      refine T_callV (As := [.int v1]) w X (C_X5_swim (kG K) (S.2.2 v0 6) (w.1 _ _ kv0 6 _ rfl) v1 S) cb5 (w.1 _ _ kv0 6 _ rfl) ml_X9_235 in_yX5_swim se_yX5_swim ii_RX5 co_yX5_swim hy_X5_swim (hRd hR (by decide) (by decide)) rfl (Nat.le_of_ble_eq_true rfl) dX9_again_34 (fun _ S1 _ wS1 => ?_)
      refine J_aload_n X dX9_again_37 (i := 0) rfl rfl ?_
      refine T_getR X (kf := 6) cb9 kv0 (by decide) fl_X9_39 (fun _ _ _ => rfl) dX9_again_38 ?_
      refine J_aload_n X dX9_again_41 (i := 0) rfl rfl ?_
      refine T_getR X (kf := 5) cb9 kv0 (by decide) fl_X9_35 (fun _ _ _ => rfl) dX9_again_42 ?_
      refine J_iload_n X dX9_again_45 (i := 1) rfl rfl ?_
      refine T_callV (As := [.ref (S1.2.2 v0 5), .int v1]) wS1 X (C_X5_swimsLike (kG K) (S1.2.2 v0 6) (wS1.1 _ _ kv0 6 _ rfl) (S1.2.2 v0 5) (wS1.1 _ _ kv0 5 _ rfl) v1 S1) cb5 (wS1.1 _ _ kv0 6 _ rfl) ml_X9_244 in_yX5_swimsLike se_yX5_swimsLike ii_RX5 co_yX5_swimsLike hy_X5_swimsLike (hRd hR (by decide) (by decide)) rfl (Nat.le_of_ble_eq_true rfl) dX9_again_46 (fun r4 S3 _ wS3 => ?_)
      refine J_if_eq X (tgt := 54) dX9_again_49 (by decide) ?_ ?_
      · refine J_nmv (v2 + (1 : Int32)) (fun x5 ex5 => ?_)
        refine J_iinc X (v := x5) (ls' := [some (.ref v0), some (.int v1), some (.int x5)]) dX9_again_54 (by decide) rfl (by rw [ex5]; rfl) rfl ?_
        refine J_goto X (tgt := 23) dX9_again_57 (by decide) ?_
        exact ih v0 kv0 v1 x5 S3 wS3
      · refine J_iload_n X dX9_again_52 (i := 2) rfl rfl ?_
        exact T_iret wS3 X dX9_again_53
set_option maxRecDepth 20000 in
def f_X9_again (v0 : Nat) (v1 : Int32) (S : St) : Option (Int32 × St) := bd (f_X9_isMermaid v0 v1 S) fun r2 S1 => if r2 = 0 then (some ((-1 : Int32), S1)) else (bd (f_X5_copyFrom (S1.2.2 v0 6) (S1.2.2 v0 5) S1) fun _ S3 => b_X9_again_23 FU v0 v1 (1 : Int32) S3)
set_option maxRecDepth 20000 in
theorem t_X9_again_0 {K : KK} (X : CX K cX9_again 3 RX9 (some .int)) (hR : kR K = rmD 2) (v0 : Nat) (kv0 : KA (kDn K) v0 (0, 9)) (v1 : Int32) (S : St) (w : WT (kDn K) S.2.2) : JX K (Zm K (fun v : Int32 => some (.int v))) 0 [some (.ref v0), some (.int v1), none] [] (rwN (kN K) S) (kn K) 0 0 (f_X9_again v0 v1 S) := by
  unfold f_X9_again
  refine J_aload_n X dX9_again_0 (i := 0) rfl rfl ?_
  refine J_iload_n X dX9_again_1 (i := 1) rfl rfl ?_
  refine T_callV (As := [.int v1]) w X (C_X9_isMermaid (kG K) v0 kv0 v1 S) cb9 kv0 ml_X9_121 in_yX9_isMermaid se_yX9_isMermaid ii_RX9 co_yX9_isMermaid hy_X9_isMermaid (hRd hR (by decide) (by decide)) rfl (Nat.le_of_ble_eq_true rfl) dX9_again_2 (fun r2 S1 _ wS1 => ?_)
  refine J_if_ne X (tgt := 10) dX9_again_5 (by decide) ?_ ?_
  · refine J_iconst X (v := (-1 : Int32)) dX9_again_8 (by decide) ?_
    exact T_iret wS1 X dX9_again_9
  · refine J_aload_n X dX9_again_10 (i := 0) rfl rfl ?_
    refine T_getR X (kf := 6) cb9 kv0 (by decide) fl_X9_39 (fun _ _ _ => rfl) dX9_again_11 ?_
    refine J_aload_n X dX9_again_14 (i := 0) rfl rfl ?_
    refine T_getR X (kf := 5) cb9 kv0 (by decide) fl_X9_35 (fun _ _ _ => rfl) dX9_again_15 ?_
    refine T_callV (As := [.ref (S1.2.2 v0 5)]) wS1 X (C_X5_copyFrom (kG K) (S1.2.2 v0 6) (wS1.1 _ _ kv0 6 _ rfl) (S1.2.2 v0 5) (wS1.1 _ _ kv0 5 _ rfl) S1) cb5 (wS1.1 _ _ kv0 6 _ rfl) ml_X9_98 in_yX5_copyFrom se_yX5_copyFrom ii_RX5 co_yX5_copyFrom hy_X5_copyFrom (hRd hR (by decide) (by decide)) rfl (Nat.le_of_ble_eq_true rfl) dX9_again_18 (fun _ S3 _ wS3 => ?_)
    refine J_iconst X (v := (1 : Int32)) dX9_again_21 (by decide) ?_
    refine J_istore_n X (i := 2) (ls' := [some (.ref v0), some (.int v1), some (.int (1 : Int32))]) dX9_again_22 rfl (by decide) rfl ?_
    exact t_X9_again_23 X hR FU v0 kv0 v1 (1 : Int32) S3 wS3
theorem C_X9_again (G : GG) (v0 : Nat) (kv0 : KA (gD G) v0 (0, 9)) (v1 : Int32) (S : St) : CM G yX9_again cX9_again 3 (some .int) 2 [.ref v0, .int v1] S (fun v : Int32 => some (.int v)) (f_X9_again v0 v1 S) :=
  CM_of (by decide) (Nat.le_of_ble_eq_true rfl) rfl (fun K hG X hR w => by subst hG; exact t_X9_again_0 X hR v0 kv0 v1 S w)
-- ==== X9_turns
theorem hy_X9_turns : yX9_turns.cls ≠ "java/lang/invoke/MethodHandle" ∧ yX9_turns.cls ≠ "java/lang/invoke/VarHandle" ∧ (parseMethodDescriptor yX9_turns.desc).map (fun d => d.parameters.length) = some 2 := by decide +kernel
set_option maxRecDepth 20000 in
def b_X9_turns_88 (q36 : Nat → Int32 → Int32 → Int32 → Int32 → St → Option (Int32 × St)) (v0 : Nat) (v1 : Int32) (v2 : Int32) (v3 : Int32) (v4 : Int32) (S : St) : Option (Int32 × St) := bd (f_X8_goMonth (S.2.2 v0 8) v1 (v1 + (1 : Int32)) (0 : Int32) S) fun _ S1 => nm (v4 + (1 : Int32)) fun x3 => q36 v0 v1 v2 v3 x3 S1
set_option maxRecDepth 20000 in
theorem t_X9_turns_88 {K : KK} (X : CX K cX9_turns 7 RX9 (some .int)) (hR : kR K = rmD 6) {q36 : Nat → Int32 → Int32 → Int32 → Int32 → St → Option (Int32 × St)} (hq36 : ∀ (v0 : Nat) (kv0 : KA (kDn K) v0 (0, 9)) (v1 : Int32) (v2 : Int32) (v3 : Int32) (v4 : Int32) (S : St), WT (kDn K) S.2.2 → JX K (Zm K (fun v : Int32 => some (.int v))) 36 [some (.ref v0), some (.int v1), some (.int v2), some (.int v3), some (.int v4), none, none] [] (rwN (kN K) S) (kn K) 0 0 (q36 v0 v1 v2 v3 v4 S)) (v0 : Nat) (kv0 : KA (kDn K) v0 (0, 9)) (v1 : Int32) (v2 : Int32) (v3 : Int32) (v4 : Int32) (S : St) (w : WT (kDn K) S.2.2) : JX K (Zm K (fun v : Int32 => some (.int v))) 88 [some (.ref v0), some (.int v1), some (.int v2), some (.int v3), some (.int v4), none, none] [] (rwN (kN K) S) (kn K) 0 0 (b_X9_turns_88 q36 v0 v1 v2 v3 v4 S) := by
  unfold b_X9_turns_88
  refine J_aload_n X dX9_turns_88 (i := 0) rfl rfl ?_
  refine T_getR X (kf := 8) cb9 kv0 (by decide) fl_X9_51 (fun _ _ _ => rfl) dX9_turns_89 ?_
  refine J_iload_n X dX9_turns_92 (i := 1) rfl rfl ?_
  refine J_iload_n X dX9_turns_93 (i := 1) rfl rfl ?_
  refine J_iconst X (v := (1 : Int32)) dX9_turns_94 (by decide) ?_
  refine J_iadd X dX9_turns_95 ?_
  refine J_iconst X (v := (0 : Int32)) dX9_turns_96 (by decide) ?_
  refine T_callV (As := [.int v1, .int (v1 + (1 : Int32)), .int (0 : Int32)]) w X (C_X8_goMonth (kG K) (S.2.2 v0 8) (w.1 _ _ kv0 8 _ rfl) v1 (v1 + (1 : Int32)) (0 : Int32) S) cb8 (w.1 _ _ kv0 8 _ rfl) ml_X9_227 in_yX8_goMonth se_yX8_goMonth ii_RX8 co_yX8_goMonth hy_X8_goMonth (hRd hR (by decide) (by decide)) rfl (Nat.le_of_ble_eq_true rfl) dX9_turns_97 (fun _ S1 _ wS1 => ?_)
  refine J_nmv (v4 + (1 : Int32)) (fun x3 ex3 => ?_)
  refine J_iinc X (v := x3) (ls' := [some (.ref v0), some (.int v1), some (.int v2), some (.int v3), some (.int x3), none, none]) dX9_turns_100 (by decide) rfl (by rw [ex3]; rfl) rfl ?_
  refine J_goto X (tgt := 36) dX9_turns_103 (by decide) ?_
  exact hq36 v0 kv0 v1 v2 v3 x3 S1 wS1
set_option maxRecDepth 20000 in
def b_X9_turns_36 : Nat → Nat → Int32 → Int32 → Int32 → Int32 → St → Option (Int32 × St)
  | 0, _, _, _, _, _, _ => none
  | fu + 1, v0, v1, v2, v3, v4, S => if v2 ≤ v4 then (some (v3, S)) else ((ix ((16 : Int32) + v1) 36).bind fun j1 => nm (S.1 (S.2.2 (S.2.2 v0 6) 0) j1) fun x2 => (ix ((22 : Int32) + v1) 36).bind fun j3 => nm (S.1 (S.2.2 (S.2.2 v0 6) 0) j3) fun x4 => bd (f_X8_isMovedAt (S.2.2 v0 8) v1 x2 x4 S) fun r6 S5 => if r6 = 0 then (b_X9_turns_88 (b_X9_turns_36 fu) v0 v1 v2 v3 v4 S5) else (nm (v3 + (1 : Int32)) fun x7 => b_X9_turns_88 (b_X9_turns_36 fu) v0 v1 v2 x7 v4 S5))
set_option maxRecDepth 20000 in
theorem t_X9_turns_36 {K : KK} (X : CX K cX9_turns 7 RX9 (some .int)) (hR : kR K = rmD 6) : ∀ (fu : Nat) (v0 : Nat) (kv0 : KA (kDn K) v0 (0, 9)) (v1 : Int32) (v2 : Int32) (v3 : Int32) (v4 : Int32) (S : St), WT (kDn K) S.2.2 → JX K (Zm K (fun v : Int32 => some (.int v))) 36 [some (.ref v0), some (.int v1), some (.int v2), some (.int v3), some (.int v4), none, none] [] (rwN (kN K) S) (kn K) 0 0 (b_X9_turns_36 fu v0 v1 v2 v3 v4 S) := by
  intro fu
  induction fu with
  | zero => intro v0 kv0 v1 v2 v3 v4 S w; exact J_none
  | succ fu ih =>
    intro v0 kv0 v1 v2 v3 v4 S w
    rw [b_X9_turns_36]
    refine J_iload X dX9_turns_36 rfl ?_
    refine J_iload_n X dX9_turns_38 (i := 2) rfl rfl ?_
    refine J_icmp_ge X (tgt := 106) dX9_turns_39 (by decide) ?_ ?_
    · refine J_iload_n X dX9_turns_106 (i := 3) rfl rfl ?_
      exact T_iret w X dX9_turns_107
    · refine J_aload_n X dX9_turns_42 (i := 0) rfl rfl ?_
      refine T_getR X (kf := 6) cb9 kv0 (by decide) fl_X9_39 (fun _ _ _ => rfl) dX9_turns_43 ?_
      refine T_getR X (kf := 0) cb5 (w.1 _ _ kv0 6 _ rfl) (by decide) fl_X9_125 (fun _ _ _ => rfl) dX9_turns_46 ?_
      refine J_bipush X (v := (16 : Int32)) dX9_turns_49 (by decide) ?_
      refine J_iload_n X dX9_turns_51 (i := 1) rfl rfl ?_
      refine J_iadd X dX9_turns_52 ?_
      refine T_iald X (w.1 _ _ (w.1 _ _ kv0 6 _ rfl) 0 _ rfl) dX9_turns_53 (fun j1 => ?_)
      refine J_nmi (fun x2 => ?_)
      refine J_istore X (ls' := [some (.ref v0), some (.int v1), some (.int v2), some (.int v3), some (.int v4), some (.int x2), none]) dX9_turns_54 (by decide) rfl ?_
      refine J_aload_n X dX9_turns_56 (i := 0) rfl rfl ?_
      refine T_getR X (kf := 6) cb9 kv0 (by decide) fl_X9_39 (fun _ _ _ => rfl) dX9_turns_57 ?_
      refine T_getR X (kf := 0) cb5 (w.1 _ _ kv0 6 _ rfl) (by decide) fl_X9_125 (fun _ _ _ => rfl) dX9_turns_60 ?_
      refine J_bipush X (v := (22 : Int32)) dX9_turns_63 (by decide) ?_
      refine J_iload_n X dX9_turns_65 (i := 1) rfl rfl ?_
      refine J_iadd X dX9_turns_66 ?_
      refine T_iald X (w.1 _ _ (w.1 _ _ kv0 6 _ rfl) 0 _ rfl) dX9_turns_67 (fun j3 => ?_)
      refine J_nmi (fun x4 => ?_)
      refine J_istore X (ls' := [some (.ref v0), some (.int v1), some (.int v2), some (.int v3), some (.int v4), some (.int x2), some (.int x4)]) dX9_turns_68 (by decide) rfl ?_
      refine J_aload_n X dX9_turns_70 (i := 0) rfl rfl ?_
      refine T_getR X (kf := 8) cb9 kv0 (by decide) fl_X9_51 (fun _ _ _ => rfl) dX9_turns_71 ?_
      refine J_iload_n X dX9_turns_74 (i := 1) rfl rfl ?_
      refine J_iload X dX9_turns_75 rfl ?_
      refine J_iload X dX9_turns_77 rfl ?_
      refine T_callV (As := [.int v1, .int x2, .int x4]) w X (C_X8_isMovedAt (kG K) (S.2.2 v0 8) (w.1 _ _ kv0 8 _ rfl) v1 x2 x4 S) cb8 (w.1 _ _ kv0 8 _ rfl) ml_X9_213 in_yX8_isMovedAt se_yX8_isMovedAt ii_RX8 co_yX8_isMovedAt hy_X8_isMovedAt (hRd hR (by decide) (by decide)) rfl (Nat.le_of_ble_eq_true rfl) dX9_turns_79 (fun r6 S5 _ wS5 => ?_)
      refine J_if_eq X (tgt := 88) dX9_turns_82 (by decide) ?_ ?_
      · refine J_mask [true, true, true, true, true, false, false] ?_
        exact t_X9_turns_88 X hR ih v0 kv0 v1 v2 v3 v4 S5 wS5
      · refine J_nmv (v3 + (1 : Int32)) (fun x7 ex7 => ?_)
        refine J_iinc X (v := x7) (ls' := [some (.ref v0), some (.int v1), some (.int v2), some (.int x7), some (.int v4), some (.int x2), some (.int x4)]) dX9_turns_85 (by decide) rfl (by rw [ex7]; rfl) rfl ?_
        refine J_mask [true, true, true, true, true, false, false] ?_
        exact t_X9_turns_88 X hR ih v0 kv0 v1 v2 x7 v4 S5 wS5
set_option maxRecDepth 20000 in
def f_X9_turns (v0 : Nat) (v1 : Int32) (v2 : Int32) (S : St) : Option (Int32 × St) := bd (f_X9_isPerson v0 v1 S) fun r2 S1 => if r2 = 0 then (some ((-1 : Int32), S1)) else (bd (f_X9_isWithin v2 (0 : Int32) (60 : Int32) S1) fun r4 S3 => if r4 = 0 then (some ((-1 : Int32), S3)) else (bd (f_X5_copyFrom (S3.2.2 v0 6) (S3.2.2 v0 5) S3) fun _ S5 => b_X9_turns_36 FU v0 v1 v2 (0 : Int32) (0 : Int32) S5))
set_option maxRecDepth 20000 in
theorem t_X9_turns_0 {K : KK} (X : CX K cX9_turns 7 RX9 (some .int)) (hR : kR K = rmD 6) (v0 : Nat) (kv0 : KA (kDn K) v0 (0, 9)) (v1 : Int32) (v2 : Int32) (S : St) (w : WT (kDn K) S.2.2) : JX K (Zm K (fun v : Int32 => some (.int v))) 0 [some (.ref v0), some (.int v1), some (.int v2), none, none, none, none] [] (rwN (kN K) S) (kn K) 0 0 (f_X9_turns v0 v1 v2 S) := by
  unfold f_X9_turns
  refine J_aload_n X dX9_turns_0 (i := 0) rfl rfl ?_
  refine J_iload_n X dX9_turns_1 (i := 1) rfl rfl ?_
  refine T_callV (As := [.int v1]) w X (C_X9_isPerson (kG K) v0 kv0 v1 S) cb9 kv0 ml_X9_132 in_yX9_isPerson se_yX9_isPerson ii_RX9 co_yX9_isPerson hy_X9_isPerson (hRd hR (by decide) (by decide)) rfl (Nat.le_of_ble_eq_true rfl) dX9_turns_2 (fun r2 S1 _ wS1 => ?_)
  refine J_if_eq X (tgt := 18) dX9_turns_5 (by decide) ?_ ?_
  · refine J_iconst X (v := (-1 : Int32)) dX9_turns_18 (by decide) ?_
    exact T_iret wS1 X dX9_turns_19
  · refine J_iload_n X dX9_turns_8 (i := 2) rfl rfl ?_
    refine J_iconst X (v := (0 : Int32)) dX9_turns_9 (by decide) ?_
    refine J_bipush X (v := (60 : Int32)) dX9_turns_10 (by decide) ?_
    refine T_callS (As := [.int v2, .int (0 : Int32), .int (60 : Int32)]) wS1 X (C_X9_isWithin (kG K) v2 (0 : Int32) (60 : Int32) S1) ml_X9_224 st_yX9_isWithin ii_RX9 co_yX9_isWithin hy_X9_isWithin (hRd hR (by decide) (by decide)) rfl (Nat.le_of_ble_eq_true rfl) dX9_turns_12 (fun r4 S3 _ wS3 => ?_)
    refine J_if_ne X (tgt := 20) dX9_turns_15 (by decide) ?_ ?_
    · refine J_iconst X (v := (-1 : Int32)) dX9_turns_18 (by decide) ?_
      exact T_iret wS3 X dX9_turns_19
    · refine J_iconst X (v := (0 : Int32)) dX9_turns_20 (by decide) ?_
      refine J_istore_n X (i := 3) (ls' := [some (.ref v0), some (.int v1), some (.int v2), some (.int (0 : Int32)), none, none, none]) dX9_turns_21 rfl (by decide) rfl ?_
      refine J_aload_n X dX9_turns_22 (i := 0) rfl rfl ?_
      refine T_getR X (kf := 6) cb9 kv0 (by decide) fl_X9_39 (fun _ _ _ => rfl) dX9_turns_23 ?_
      refine J_aload_n X dX9_turns_26 (i := 0) rfl rfl ?_
      refine T_getR X (kf := 5) cb9 kv0 (by decide) fl_X9_35 (fun _ _ _ => rfl) dX9_turns_27 ?_
      refine T_callV (As := [.ref (S3.2.2 v0 5)]) wS3 X (C_X5_copyFrom (kG K) (S3.2.2 v0 6) (wS3.1 _ _ kv0 6 _ rfl) (S3.2.2 v0 5) (wS3.1 _ _ kv0 5 _ rfl) S3) cb5 (wS3.1 _ _ kv0 6 _ rfl) ml_X9_98 in_yX5_copyFrom se_yX5_copyFrom ii_RX5 co_yX5_copyFrom hy_X5_copyFrom (hRd hR (by decide) (by decide)) rfl (Nat.le_of_ble_eq_true rfl) dX9_turns_30 (fun _ S5 _ wS5 => ?_)
      refine J_iconst X (v := (0 : Int32)) dX9_turns_33 (by decide) ?_
      refine J_istore X (ls' := [some (.ref v0), some (.int v1), some (.int v2), some (.int (0 : Int32)), some (.int (0 : Int32)), none, none]) dX9_turns_34 (by decide) rfl ?_
      exact t_X9_turns_36 X hR FU v0 kv0 v1 v2 (0 : Int32) (0 : Int32) S5 wS5
theorem C_X9_turns (G : GG) (v0 : Nat) (kv0 : KA (gD G) v0 (0, 9)) (v1 : Int32) (v2 : Int32) (S : St) : CM G yX9_turns cX9_turns 7 (some .int) 6 [.ref v0, .int v1, .int v2] S (fun v : Int32 => some (.int v)) (f_X9_turns v0 v1 v2 S) :=
  CM_of (by decide) (Nat.le_of_ble_eq_true rfl) rfl (fun K hG X hR w => by subst hG; exact t_X9_turns_0 X hR v0 kv0 v1 v2 S w)
-- ==== X9_market
theorem hy_X9_market : yX9_market.cls ≠ "java/lang/invoke/MethodHandle" ∧ yX9_market.cls ≠ "java/lang/invoke/VarHandle" ∧ (parseMethodDescriptor yX9_market.desc).map (fun d => d.parameters.length) = some 1 := by decide +kernel
set_option maxRecDepth 20000 in
def b_X9_market_25 : Nat → Nat → Int32 → Int32 → St → Option (Int32 × St)
  | 0, _, _, _, _ => none
  | fu + 1, v0, v1, v2, S => if v1 ≤ v2 then (bd (f_X8_pricesOfAll (S.2.2 v0 8) S) fun r2 S1 => some (r2, S1)) else (bd (f_X8_goMonth (S.2.2 v0 8) (0 : Int32) (S.1 (S.2.2 v0 3) 1) (0 : Int32) S) fun _ S3 => nm (v2 + (1 : Int32)) fun x5 => b_X9_market_25 fu v0 v1 x5 S3)
set_option maxRecDepth 20000 in
theorem t_X9_market_25 {K : KK} (X : CX K cX9_market 3 RX9 (some .int)) (hR : kR K = rmD 6) : ∀ (fu : Nat) (v0 : Nat) (kv0 : KA (kDn K) v0 (0, 9)) (v1 : Int32) (v2 : Int32) (S : St), WT (kDn K) S.2.2 → JX K (Zm K (fun v : Int32 => some (.int v))) 25 [some (.ref v0), some (.int v1), some (.int v2)] [] (rwN (kN K) S) (kn K) 0 0 (b_X9_market_25 fu v0 v1 v2 S) := by
  intro fu
  induction fu with
  | zero => intro v0 kv0 v1 v2 S w; exact J_none
  | succ fu ih =>
    intro v0 kv0 v1 v2 S w
    rw [b_X9_market_25]
    refine J_iload_n X dX9_market_25 (i := 2) rfl rfl ?_
    refine J_iload_n X dX9_market_26 (i := 1) rfl rfl ?_
    refine J_icmp_ge X (tgt := 52) dX9_market_27 (by decide) ?_ ?_
    · refine J_aload_n X dX9_market_52 (i := 0) rfl rfl ?_
      refine T_getR X (kf := 8) cb9 kv0 (by decide) fl_X9_51 (fun _ _ _ => rfl) dX9_market_53 ?_
      refine T_callV (As := []) w X (C_X8_pricesOfAll (kG K) (S.2.2 v0 8) (w.1 _ _ kv0 8 _ rfl) S) cb8 (w.1 _ _ kv0 8 _ rfl) ml_X9_206 in_yX8_pricesOfAll se_yX8_pricesOfAll ii_RX8 co_yX8_pricesOfAll hy_X8_pricesOfAll (hRd hR (by decide) (by decide)) rfl (Nat.le_of_ble_eq_true rfl) dX9_market_56 (fun r2 S1 _ wS1 => ?_)
      exact T_iret wS1 X dX9_market_59
    · refine J_aload_n X dX9_market_30 (i := 0) rfl rfl ?_
      refine T_getR X (kf := 8) cb9 kv0 (by decide) fl_X9_51 (fun _ _ _ => rfl) dX9_market_31 ?_
      refine J_iconst X (v := (0 : Int32)) dX9_market_34 (by decide) ?_
      refine J_aload_n X dX9_market_35 (i := 0) rfl rfl ?_
      refine T_getR X (kf := 3) cb9 kv0 (by decide) fl_X9_16 (fun _ _ _ => rfl) dX9_market_36 ?_
      refine T_getI X (kf := 1) cb0 (w.1 _ _ kv0 3 _ rfl) (by decide) fl_X9_115 (fun _ _ _ => rfl) dX9_market_39 ?_
      refine J_iconst X (v := (0 : Int32)) dX9_market_42 (by decide) ?_
      refine T_callV (As := [.int (0 : Int32), .int (S.1 (S.2.2 v0 3) 1), .int (0 : Int32)]) w X (C_X8_goMonth (kG K) (S.2.2 v0 8) (w.1 _ _ kv0 8 _ rfl) (0 : Int32) (S.1 (S.2.2 v0 3) 1) (0 : Int32) S) cb8 (w.1 _ _ kv0 8 _ rfl) ml_X9_227 in_yX8_goMonth se_yX8_goMonth ii_RX8 co_yX8_goMonth hy_X8_goMonth (hRd hR (by decide) (by decide)) rfl (Nat.le_of_ble_eq_true rfl) dX9_market_43 (fun _ S3 _ wS3 => ?_)
      refine J_nmv (v2 + (1 : Int32)) (fun x5 ex5 => ?_)
      refine J_iinc X (v := x5) (ls' := [some (.ref v0), some (.int v1), some (.int x5)]) dX9_market_46 (by decide) rfl (by rw [ex5]; rfl) rfl ?_
      refine J_goto X (tgt := 25) dX9_market_49 (by decide) ?_
      exact ih v0 kv0 v1 x5 S3 wS3
set_option maxRecDepth 20000 in
def f_X9_market (v0 : Nat) (v1 : Int32) (S : St) : Option (Int32 × St) := bd (f_X9_isWithin v1 (0 : Int32) (60 : Int32) S) fun r2 S1 => if r2 = 0 then (some ((-1 : Int32), S1)) else (bd (f_X5_copyFrom (S1.2.2 v0 6) (S1.2.2 v0 5) S1) fun _ S3 => b_X9_market_25 FU v0 v1 (0 : Int32) S3)
set_option maxRecDepth 20000 in
theorem t_X9_market_0 {K : KK} (X : CX K cX9_market 3 RX9 (some .int)) (hR : kR K = rmD 6) (v0 : Nat) (kv0 : KA (kDn K) v0 (0, 9)) (v1 : Int32) (S : St) (w : WT (kDn K) S.2.2) : JX K (Zm K (fun v : Int32 => some (.int v))) 0 [some (.ref v0), some (.int v1), none] [] (rwN (kN K) S) (kn K) 0 0 (f_X9_market v0 v1 S) := by
  unfold f_X9_market
  refine J_iload_n X dX9_market_0 (i := 1) rfl rfl ?_
  refine J_iconst X (v := (0 : Int32)) dX9_market_1 (by decide) ?_
  refine J_bipush X (v := (60 : Int32)) dX9_market_2 (by decide) ?_
  refine T_callS (As := [.int v1, .int (0 : Int32), .int (60 : Int32)]) w X (C_X9_isWithin (kG K) v1 (0 : Int32) (60 : Int32) S) ml_X9_224 st_yX9_isWithin ii_RX9 co_yX9_isWithin hy_X9_isWithin (hRd hR (by decide) (by decide)) rfl (Nat.le_of_ble_eq_true rfl) dX9_market_4 (fun r2 S1 _ wS1 => ?_)
  refine J_if_ne X (tgt := 12) dX9_market_7 (by decide) ?_ ?_
  · refine J_iconst X (v := (-1 : Int32)) dX9_market_10 (by decide) ?_
    exact T_iret wS1 X dX9_market_11
  · refine J_aload_n X dX9_market_12 (i := 0) rfl rfl ?_
    refine T_getR X (kf := 6) cb9 kv0 (by decide) fl_X9_39 (fun _ _ _ => rfl) dX9_market_13 ?_
    refine J_aload_n X dX9_market_16 (i := 0) rfl rfl ?_
    refine T_getR X (kf := 5) cb9 kv0 (by decide) fl_X9_35 (fun _ _ _ => rfl) dX9_market_17 ?_
    refine T_callV (As := [.ref (S1.2.2 v0 5)]) wS1 X (C_X5_copyFrom (kG K) (S1.2.2 v0 6) (wS1.1 _ _ kv0 6 _ rfl) (S1.2.2 v0 5) (wS1.1 _ _ kv0 5 _ rfl) S1) cb5 (wS1.1 _ _ kv0 6 _ rfl) ml_X9_98 in_yX5_copyFrom se_yX5_copyFrom ii_RX5 co_yX5_copyFrom hy_X5_copyFrom (hRd hR (by decide) (by decide)) rfl (Nat.le_of_ble_eq_true rfl) dX9_market_20 (fun _ S3 _ wS3 => ?_)
    refine J_iconst X (v := (0 : Int32)) dX9_market_23 (by decide) ?_
    refine J_istore_n X (i := 2) (ls' := [some (.ref v0), some (.int v1), some (.int (0 : Int32))]) dX9_market_24 rfl (by decide) rfl ?_
    exact t_X9_market_25 X hR FU v0 kv0 v1 (0 : Int32) S3 wS3
theorem C_X9_market (G : GG) (v0 : Nat) (kv0 : KA (gD G) v0 (0, 9)) (v1 : Int32) (S : St) : CM G yX9_market cX9_market 3 (some .int) 6 [.ref v0, .int v1] S (fun v : Int32 => some (.int v)) (f_X9_market v0 v1 S) :=
  CM_of (by decide) (Nat.le_of_ble_eq_true rfl) rfl (fun K hG X hR w => by subst hG; exact t_X9_market_0 X hR v0 kv0 v1 S w)
-- ==== X9_year
theorem hy_X9_year : yX9_year.cls ≠ "java/lang/invoke/MethodHandle" ∧ yX9_year.cls ≠ "java/lang/invoke/VarHandle" ∧ (parseMethodDescriptor yX9_year.desc).map (fun d => d.parameters.length) = some 3 := by decide +kernel
set_option maxRecDepth 20000 in
def b_X9_year_47 : Nat → Nat → Int32 → Int32 → Int32 → Int32 → Int32 → St → Option (Int32 × St)
  | 0, _, _, _, _, _, _, _ => none
  | fu + 1, v0, v1, v2, v3, v4, v5, S => if v2 ≤ v5 then (bd (f_X5_isOff (S.2.2 v0 6) v1 S) fun r2 S1 => if r2 = 0 then (bd (f_J6_bitCount_0f7a4 v4 S1) fun r4 S3 => some (v3 - r4, S3)) else (some ((0 : Int32), S1))) else (bd (f_X8_seedsThatDrown (S.2.2 v0 8) v1 v3 S) fun r6 S5 => nm (v4 ||| r6) fun x7 => bd (f_X8_goMonth (S5.2.2 v0 8) v1 (v1 + (1 : Int32)) (0 : Int32) S5) fun _ S8 => nm (v5 + (1 : Int32)) fun x10 => b_X9_year_47 fu v0 v1 v2 v3 x7 x10 S8)
set_option maxRecDepth 20000 in
theorem t_X9_year_47 {K : KK} (X : CX K cX9_year 6 RX9 (some .int)) (hR : kR K = rmD 6) : ∀ (fu : Nat) (v0 : Nat) (kv0 : KA (kDn K) v0 (0, 9)) (v1 : Int32) (v2 : Int32) (v3 : Int32) (v4 : Int32) (v5 : Int32) (S : St), WT (kDn K) S.2.2 → JX K (Zm K (fun v : Int32 => some (.int v))) 47 [some (.ref v0), some (.int v1), some (.int v2), some (.int v3), some (.int v4), some (.int v5)] [] (rwN (kN K) S) (kn K) 0 0 (b_X9_year_47 fu v0 v1 v2 v3 v4 v5 S) := by
  intro fu
  induction fu with
  | zero => intro v0 kv0 v1 v2 v3 v4 v5 S w; exact J_none
  | succ fu ih =>
    intro v0 kv0 v1 v2 v3 v4 v5 S w
    rw [b_X9_year_47]
    refine J_iload X dX9_year_47 rfl ?_
    refine J_iload_n X dX9_year_49 (i := 2) rfl rfl ?_
    refine J_icmp_ge X (tgt := 85) dX9_year_50 (by decide) ?_ ?_
    · refine J_aload_n X dX9_year_85 (i := 0) rfl rfl ?_
      refine T_getR X (kf := 6) cb9 kv0 (by decide) fl_X9_39 (fun _ _ _ => rfl) dX9_year_86 ?_
      refine J_iload_n X dX9_year_89 (i := 1) rfl rfl ?_
      refine T_callV (As := [.int v1]) w X (C_X5_isOff (kG K) (S.2.2 v0 6) (w.1 _ _ kv0 6 _ rfl) v1 S) cb5 (w.1 _ _ kv0 6 _ rfl) ml_X9_139 in_yX5_isOff se_yX5_isOff ii_RX5 co_yX5_isOff hy_X5_isOff (hRd hR (by decide) (by decide)) rfl (Nat.le_of_ble_eq_true rfl) dX9_year_90 (fun r2 S1 _ wS1 => ?_)
      refine J_if_eq X (tgt := 100) dX9_year_93 (by decide) ?_ ?_
      · refine J_iload_n X dX9_year_100 (i := 3) rfl rfl ?_
        refine J_iload X dX9_year_101 rfl ?_
        refine T_callS (As := [.int v4]) wS1 X (C_J6_bitCount_0f7a4 (kG K) v4 S1) ml_X9_201 st_yJ6_bitCount_0f7a4 ii_RJ6 co_yJ6_bitCount_0f7a4 hy_J6_bitCount_0f7a4 (hRd hR (by decide) (by decide)) rfl (Nat.le_of_ble_eq_true rfl) dX9_year_103 (fun r4 S3 _ wS3 => ?_)
        refine J_isub X dX9_year_106 ?_
        exact T_iret wS3 X dX9_year_107
      · refine J_iconst X (v := (0 : Int32)) dX9_year_96 (by decide) ?_
        refine J_goto X (tgt := 107) dX9_year_97 (by decide) ?_
        exact T_iret wS1 X dX9_year_107
    · refine J_iload X dX9_year_53 rfl ?_
      refine J_aload_n X dX9_year_55 (i := 0) rfl rfl ?_
      refine T_getR X (kf := 8) cb9 kv0 (by decide) fl_X9_51 (fun _ _ _ => rfl) dX9_year_56 ?_
      refine J_iload_n X dX9_year_59 (i := 1) rfl rfl ?_
      refine J_iload_n X dX9_year_60 (i := 3) rfl rfl ?_
      refine T_callV (As := [.int v1, .int v3]) w X (C_X8_seedsThatDrown (kG K) (S.2.2 v0 8) (w.1 _ _ kv0 8 _ rfl) v1 v3 S) cb8 (w.1 _ _ kv0 8 _ rfl) ml_X9_248 in_yX8_seedsThatDrown se_yX8_seedsThatDrown ii_RX8 co_yX8_seedsThatDrown hy_X8_seedsThatDrown (hRd hR (by decide) (by decide)) rfl (Nat.le_of_ble_eq_true rfl) dX9_year_61 (fun r6 S5 _ wS5 => ?_)
      refine J_ior X dX9_year_64 ?_
      refine J_nmi (fun x7 => ?_)
      refine J_istore X (ls' := [some (.ref v0), some (.int v1), some (.int v2), some (.int v3), some (.int x7), some (.int v5)]) dX9_year_65 (by decide) rfl ?_
      refine J_aload_n X dX9_year_67 (i := 0) rfl rfl ?_
      refine T_getR X (kf := 8) cb9 kv0 (by decide) fl_X9_51 (fun _ _ _ => rfl) dX9_year_68 ?_
      refine J_iload_n X dX9_year_71 (i := 1) rfl rfl ?_
      refine J_iload_n X dX9_year_72 (i := 1) rfl rfl ?_
      refine J_iconst X (v := (1 : Int32)) dX9_year_73 (by decide) ?_
      refine J_iadd X dX9_year_74 ?_
      refine J_iconst X (v := (0 : Int32)) dX9_year_75 (by decide) ?_
      refine T_callV (As := [.int v1, .int (v1 + (1 : Int32)), .int (0 : Int32)]) wS5 X (C_X8_goMonth (kG K) (S5.2.2 v0 8) (wS5.1 _ _ kv0 8 _ rfl) v1 (v1 + (1 : Int32)) (0 : Int32) S5) cb8 (wS5.1 _ _ kv0 8 _ rfl) ml_X9_227 in_yX8_goMonth se_yX8_goMonth ii_RX8 co_yX8_goMonth hy_X8_goMonth (hRd hR (by decide) (by decide)) rfl (Nat.le_of_ble_eq_true rfl) dX9_year_76 (fun _ S8 _ wS8 => ?_)
      refine J_nmv (v5 + (1 : Int32)) (fun x10 ex10 => ?_)
      refine J_iinc X (v := x10) (ls' := [some (.ref v0), some (.int v1), some (.int v2), some (.int v3), some (.int x7), some (.int x10)]) dX9_year_79 (by decide) rfl (by rw [ex10]; rfl) rfl ?_
      refine J_goto X (tgt := 47) dX9_year_82 (by decide) ?_
      exact ih v0 kv0 v1 v2 v3 x7 x10 S8 wS8
set_option maxRecDepth 20000 in
def f_X9_year (v0 : Nat) (v1 : Int32) (v2 : Int32) (v3 : Int32) (S : St) : Option (Int32 × St) := bd (f_X9_isPerson v0 v1 S) fun r2 S1 => if r2 = 0 then (some ((-1 : Int32), S1)) else (bd (f_X9_isWithin v2 (0 : Int32) (60 : Int32) S1) fun r4 S3 => if r4 = 0 then (some ((-1 : Int32), S3)) else (bd (f_X9_isWithin v3 (1 : Int32) (20 : Int32) S3) fun r6 S5 => if r6 = 0 then (some ((-1 : Int32), S5)) else (bd (f_X5_copyFrom (S5.2.2 v0 6) (S5.2.2 v0 5) S5) fun _ S7 => b_X9_year_47 FU v0 v1 v2 v3 (0 : Int32) (0 : Int32) S7)))
set_option maxRecDepth 20000 in
theorem t_X9_year_0 {K : KK} (X : CX K cX9_year 6 RX9 (some .int)) (hR : kR K = rmD 6) (v0 : Nat) (kv0 : KA (kDn K) v0 (0, 9)) (v1 : Int32) (v2 : Int32) (v3 : Int32) (S : St) (w : WT (kDn K) S.2.2) : JX K (Zm K (fun v : Int32 => some (.int v))) 0 [some (.ref v0), some (.int v1), some (.int v2), some (.int v3), none, none] [] (rwN (kN K) S) (kn K) 0 0 (f_X9_year v0 v1 v2 v3 S) := by
  unfold f_X9_year
  refine J_aload_n X dX9_year_0 (i := 0) rfl rfl ?_
  refine J_iload_n X dX9_year_1 (i := 1) rfl rfl ?_
  refine T_callV (As := [.int v1]) w X (C_X9_isPerson (kG K) v0 kv0 v1 S) cb9 kv0 ml_X9_132 in_yX9_isPerson se_yX9_isPerson ii_RX9 co_yX9_isPerson hy_X9_isPerson (hRd hR (by decide) (by decide)) rfl (Nat.le_of_ble_eq_true rfl) dX9_year_2 (fun r2 S1 _ wS1 => ?_)
  refine J_if_eq X (tgt := 28) dX9_year_5 (by decide) ?_ ?_
  · refine J_iconst X (v := (-1 : Int32)) dX9_year_28 (by decide) ?_
    exact T_iret wS1 X dX9_year_29
  · refine J_iload_n X dX9_year_8 (i := 2) rfl rfl ?_
    refine J_iconst X (v := (0 : Int32)) dX9_year_9 (by decide) ?_
    refine J_bipush X (v := (60 : Int32)) dX9_year_10 (by decide) ?_
    refine T_callS (As := [.int v2, .int (0 : Int32), .int (60 : Int32)]) wS1 X (C_X9_isWithin (kG K) v2 (0 : Int32) (60 : Int32) S1) ml_X9_224 st_yX9_isWithin ii_RX9 co_yX9_isWithin hy_X9_isWithin (hRd hR (by decide) (by decide)) rfl (Nat.le_of_ble_eq_true rfl) dX9_year_12 (fun r4 S3 _ wS3 => ?_)
    refine J_if_eq X (tgt := 28) dX9_year_15 (by decide) ?_ ?_
    · refine J_iconst X (v := (-1 : Int32)) dX9_year_28 (by decide) ?_
      exact T_iret wS3 X dX9_year_29
    · refine J_iload_n X dX9_year_18 (i := 3) rfl rfl ?_
      refine J_iconst X (v := (1 : Int32)) dX9_year_19 (by decide) ?_
      refine J_bipush X (v := (20 : Int32)) dX9_year_20 (by decide) ?_
      refine T_callS (As := [.int v3, .int (1 : Int32), .int (20 : Int32)]) wS3 X (C_X9_isWithin (kG K) v3 (1 : Int32) (20 : Int32) S3) ml_X9_224 st_yX9_isWithin ii_RX9 co_yX9_isWithin hy_X9_isWithin (hRd hR (by decide) (by decide)) rfl (Nat.le_of_ble_eq_true rfl) dX9_year_22 (fun r6 S5 _ wS5 => ?_)
      refine J_if_ne X (tgt := 30) dX9_year_25 (by decide) ?_ ?_
      · refine J_iconst X (v := (-1 : Int32)) dX9_year_28 (by decide) ?_
        exact T_iret wS5 X dX9_year_29
      · refine J_iconst X (v := (0 : Int32)) dX9_year_30 (by decide) ?_
        refine J_istore X (ls' := [some (.ref v0), some (.int v1), some (.int v2), some (.int v3), some (.int (0 : Int32)), none]) dX9_year_31 (by decide) rfl ?_
        refine J_aload_n X dX9_year_33 (i := 0) rfl rfl ?_
        refine T_getR X (kf := 6) cb9 kv0 (by decide) fl_X9_39 (fun _ _ _ => rfl) dX9_year_34 ?_
        refine J_aload_n X dX9_year_37 (i := 0) rfl rfl ?_
        refine T_getR X (kf := 5) cb9 kv0 (by decide) fl_X9_35 (fun _ _ _ => rfl) dX9_year_38 ?_
        refine T_callV (As := [.ref (S5.2.2 v0 5)]) wS5 X (C_X5_copyFrom (kG K) (S5.2.2 v0 6) (wS5.1 _ _ kv0 6 _ rfl) (S5.2.2 v0 5) (wS5.1 _ _ kv0 5 _ rfl) S5) cb5 (wS5.1 _ _ kv0 6 _ rfl) ml_X9_98 in_yX5_copyFrom se_yX5_copyFrom ii_RX5 co_yX5_copyFrom hy_X5_copyFrom (hRd hR (by decide) (by decide)) rfl (Nat.le_of_ble_eq_true rfl) dX9_year_41 (fun _ S7 _ wS7 => ?_)
        refine J_iconst X (v := (0 : Int32)) dX9_year_44 (by decide) ?_
        refine J_istore X (ls' := [some (.ref v0), some (.int v1), some (.int v2), some (.int v3), some (.int (0 : Int32)), some (.int (0 : Int32))]) dX9_year_45 (by decide) rfl ?_
        exact t_X9_year_47 X hR FU v0 kv0 v1 v2 v3 (0 : Int32) (0 : Int32) S7 wS7
theorem C_X9_year (G : GG) (v0 : Nat) (kv0 : KA (gD G) v0 (0, 9)) (v1 : Int32) (v2 : Int32) (v3 : Int32) (S : St) : CM G yX9_year cX9_year 6 (some .int) 6 [.ref v0, .int v1, .int v2, .int v3] S (fun v : Int32 => some (.int v)) (f_X9_year v0 v1 v2 v3 S) :=
  CM_of (by decide) (Nat.le_of_ble_eq_true rfl) rfl (fun K hG X hR w => by subst hG; exact t_X9_year_0 X hR v0 kv0 v1 v2 v3 S w)
-- ==== X9_cutBest
theorem hy_X9_cutBest : yX9_cutBest.cls ≠ "java/lang/invoke/MethodHandle" ∧ yX9_cutBest.cls ≠ "java/lang/invoke/VarHandle" ∧ (parseMethodDescriptor yX9_cutBest.desc).map (fun d => d.parameters.length) = some 0 := by decide +kernel
set_option maxRecDepth 20000 in
def b_X9_cutBest_140 (q43 : Nat → Int32 → Int32 → Int32 → Int32 → St → Option (Int32 × St)) (v0 : Nat) (v1 : Int32) (v2 : Int32) (v3 : Int32) (v4 : Int32) (S : St) : Option (Int32 × St) := nm (v4 + (1 : Int32)) fun x1 => q43 v0 v1 v2 v3 x1 S
set_option maxRecDepth 20000 in
theorem t_X9_cutBest_140 {K : KK} (X : CX K cX9_cutBest 6 RX9 (some .int)) (hR : kR K = rmD 7) {q43 : Nat → Int32 → Int32 → Int32 → Int32 → St → Option (Int32 × St)} (hq43 : ∀ (v0 : Nat) (kv0 : KA (kDn K) v0 (0, 9)) (v1 : Int32) (v2 : Int32) (v3 : Int32) (v4 : Int32) (S : St), WT (kDn K) S.2.2 → JX K (Zm K (fun v : Int32 => some (.int v))) 43 [some (.ref v0), some (.int v1), some (.int v2), some (.int v3), some (.int v4), none] [] (rwN (kN K) S) (kn K) 0 0 (q43 v0 v1 v2 v3 v4 S)) (v0 : Nat) (kv0 : KA (kDn K) v0 (0, 9)) (v1 : Int32) (v2 : Int32) (v3 : Int32) (v4 : Int32) (S : St) (w : WT (kDn K) S.2.2) : JX K (Zm K (fun v : Int32 => some (.int v))) 140 [some (.ref v0), some (.int v1), some (.int v2), some (.int v3), some (.int v4), none] [] (rwN (kN K) S) (kn K) 0 0 (b_X9_cutBest_140 q43 v0 v1 v2 v3 v4 S) := by
  unfold b_X9_cutBest_140
  refine J_nmv (v4 + (1 : Int32)) (fun x1 ex1 => ?_)
  refine J_iinc X (v := x1) (ls' := [some (.ref v0), some (.int v1), some (.int v2), some (.int v3), some (.int x1), none]) dX9_cutBest_140 (by decide) rfl (by rw [ex1]; rfl) rfl ?_
  refine J_goto X (tgt := 43) dX9_cutBest_143 (by decide) ?_
  exact hq43 v0 kv0 v1 v2 v3 x1 S w
set_option maxRecDepth 20000 in
def b_X9_cutBest_43 : Nat → Nat → Int32 → Int32 → Int32 → Int32 → St → Option (Int32 × St)
  | 0, _, _, _, _, _, _ => none
  | fu + 1, v0, v1, v2, v3, v4, S => if (S.1 (S.2.2 v0 3) 2) ≤ v4 then (some (v3, S)) else (if (101 : Int32) ≤ v1 then (some (v3, S)) else (bd (f_X5_isCut (S.2.2 v0 5) v4 S) fun r2 S1 => if r2 = 0 then ((ix ((28 : Int32) + v4) 36).bind fun j3 => if v2 = ((1 : Int32) <<< ((S1.1 (S1.2.2 (S1.2.2 v0 5) 0) j3) &&& 31)) then (bd (f_X5_copyFrom (S1.2.2 v0 6) (S1.2.2 v0 5) S1) fun _ S4 => nm (sI S4 (S4.2.2 v0 6) 4 ((S4.1 (S4.2.2 v0 6) 4) ||| ((1 : Int32) <<< (v4 &&& 31)))) fun S6 => bd (f_X8_goUntilFirst (S6.2.2 v0 8) S6) fun r8 S7 => if r8 ≤ v1 then (b_X9_cutBest_140 (b_X9_cutBest_43 fu) v0 v1 v2 v3 v4 S7) else (b_X9_cutBest_140 (b_X9_cutBest_43 fu) v0 r8 v2 v4 v4 S7)) else (b_X9_cutBest_140 (b_X9_cutBest_43 fu) v0 v1 v2 v3 v4 S1)) else (b_X9_cutBest_140 (b_X9_cutBest_43 fu) v0 v1 v2 v3 v4 S1)))
set_option maxRecDepth 20000 in
theorem t_X9_cutBest_43 {K : KK} (X : CX K cX9_cutBest 6 RX9 (some .int)) (hR : kR K = rmD 7) : ∀ (fu : Nat) (v0 : Nat) (kv0 : KA (kDn K) v0 (0, 9)) (v1 : Int32) (v2 : Int32) (v3 : Int32) (v4 : Int32) (S : St), WT (kDn K) S.2.2 → JX K (Zm K (fun v : Int32 => some (.int v))) 43 [some (.ref v0), some (.int v1), some (.int v2), some (.int v3), some (.int v4), none] [] (rwN (kN K) S) (kn K) 0 0 (b_X9_cutBest_43 fu v0 v1 v2 v3 v4 S) := by
  intro fu
  induction fu with
  | zero => intro v0 kv0 v1 v2 v3 v4 S w; exact J_none
  | succ fu ih =>
    intro v0 kv0 v1 v2 v3 v4 S w
    rw [b_X9_cutBest_43]
    refine J_iload X dX9_cutBest_43 rfl ?_
    refine J_aload_n X dX9_cutBest_45 (i := 0) rfl rfl ?_
    refine T_getR X (kf := 3) cb9 kv0 (by decide) fl_X9_16 (fun _ _ _ => rfl) dX9_cutBest_46 ?_
    refine T_getI X (kf := 2) cb0 (w.1 _ _ kv0 3 _ rfl) (by decide) fl_X9_118 (fun _ _ _ => rfl) dX9_cutBest_49 ?_
    refine J_icmp_ge X (tgt := 146) dX9_cutBest_52 (by decide) ?_ ?_
    · refine J_iload_n X dX9_cutBest_146 (i := 3) rfl rfl ?_
      exact T_iret w X dX9_cutBest_147
    · refine J_iload_n X dX9_cutBest_55 (i := 1) rfl rfl ?_
      refine J_bipush X (v := (101 : Int32)) dX9_cutBest_56 (by decide) ?_
      refine J_icmp_ge X (tgt := 146) dX9_cutBest_58 (by decide) ?_ ?_
      · refine J_iload_n X dX9_cutBest_146 (i := 3) rfl rfl ?_
        exact T_iret w X dX9_cutBest_147
      · refine J_aload_n X dX9_cutBest_61 (i := 0) rfl rfl ?_
        refine T_getR X (kf := 5) cb9 kv0 (by decide) fl_X9_35 (fun _ _ _ => rfl) dX9_cutBest_62 ?_
        refine J_iload X dX9_cutBest_65 rfl ?_
        refine T_callV (As := [.int v4]) w X (C_X5_isCut (kG K) (S.2.2 v0 5) (w.1 _ _ kv0 5 _ rfl) v4 S) cb5 (w.1 _ _ kv0 5 _ rfl) ml_X9_172 in_yX5_isCut se_yX5_isCut ii_RX5 co_yX5_isCut hy_X5_isCut (hRd hR (by decide) (by decide)) rfl (Nat.le_of_ble_eq_true rfl) dX9_cutBest_67 (fun r2 S1 _ wS1 => ?_)
        refine J_if_ne X (tgt := 140) dX9_cutBest_70 (by decide) ?_ ?_
        · refine J_iload_n X dX9_cutBest_73 (i := 2) rfl rfl ?_
          refine J_iconst X (v := (1 : Int32)) dX9_cutBest_74 (by decide) ?_
          refine J_aload_n X dX9_cutBest_75 (i := 0) rfl rfl ?_
          refine T_getR X (kf := 5) cb9 kv0 (by decide) fl_X9_35 (fun _ _ _ => rfl) dX9_cutBest_76 ?_
          refine T_getR X (kf := 0) cb5 (wS1.1 _ _ kv0 5 _ rfl) (by decide) fl_X9_125 (fun _ _ _ => rfl) dX9_cutBest_79 ?_
          refine J_bipush X (v := (28 : Int32)) dX9_cutBest_82 (by decide) ?_
          refine J_iload X dX9_cutBest_84 rfl ?_
          refine J_iadd X dX9_cutBest_86 ?_
          refine T_iald X (wS1.1 _ _ (wS1.1 _ _ kv0 5 _ rfl) 0 _ rfl) dX9_cutBest_87 (fun j3 => ?_)
          refine J_ishl X dX9_cutBest_88 ?_
          refine J_icmp_ne X (tgt := 140) dX9_cutBest_89 (by decide) ?_ ?_
          · refine J_aload_n X dX9_cutBest_92 (i := 0) rfl rfl ?_
            refine T_getR X (kf := 6) cb9 kv0 (by decide) fl_X9_39 (fun _ _ _ => rfl) dX9_cutBest_93 ?_
            refine J_aload_n X dX9_cutBest_96 (i := 0) rfl rfl ?_
            refine T_getR X (kf := 5) cb9 kv0 (by decide) fl_X9_35 (fun _ _ _ => rfl) dX9_cutBest_97 ?_
            refine T_callV (As := [.ref (S1.2.2 v0 5)]) wS1 X (C_X5_copyFrom (kG K) (S1.2.2 v0 6) (wS1.1 _ _ kv0 6 _ rfl) (S1.2.2 v0 5) (wS1.1 _ _ kv0 5 _ rfl) S1) cb5 (wS1.1 _ _ kv0 6 _ rfl) ml_X9_98 in_yX5_copyFrom se_yX5_copyFrom ii_RX5 co_yX5_copyFrom hy_X5_copyFrom (hRd hR (by decide) (by decide)) rfl (Nat.le_of_ble_eq_true rfl) dX9_cutBest_100 (fun _ S4 _ wS4 => ?_)
            refine J_aload_n X dX9_cutBest_103 (i := 0) rfl rfl ?_
            refine T_getR X (kf := 6) cb9 kv0 (by decide) fl_X9_39 (fun _ _ _ => rfl) dX9_cutBest_104 ?_
            refine J_dup X dX9_cutBest_107 rfl ?_
            refine T_getI X (kf := 4) cb5 (wS4.1 _ _ kv0 6 _ rfl) (by decide) fl_X9_194 (fun _ _ _ => rfl) dX9_cutBest_108 ?_
            refine J_iconst X (v := (1 : Int32)) dX9_cutBest_111 (by decide) ?_
            refine J_iload X dX9_cutBest_112 rfl ?_
            refine J_ishl X dX9_cutBest_114 ?_
            refine J_ior X dX9_cutBest_115 ?_
            refine T_putI X (kf := 4) cb5 (wS4.1 _ _ kv0 6 _ rfl) (by decide) fl_X9_194 (fun _ _ _ => rfl) rfl rfl rfl dX9_cutBest_116 (fun S6 hS6 => ?_)
            have wS6 : WT (kDn K) S6.2.2 := by rw [hS6]; exact wS4
            clear hS6
            refine J_aload_n X dX9_cutBest_119 (i := 0) rfl rfl ?_
            refine T_getR X (kf := 8) cb9 kv0 (by decide) fl_X9_51 (fun _ _ _ => rfl) dX9_cutBest_120 ?_
            refine T_callV (As := []) wS6 X (C_X8_goUntilFirst (kG K) (S6.2.2 v0 8) (wS6.1 _ _ kv0 8 _ rfl) S6) cb8 (wS6.1 _ _ kv0 8 _ rfl) ml_X9_238 in_yX8_goUntilFirst se_yX8_goUntilFirst ii_RX8 co_yX8_goUntilFirst hy_X8_goUntilFirst (hRd hR (by decide) (by decide)) rfl (Nat.le_of_ble_eq_true rfl) dX9_cutBest_123 (fun r8 S7 _ wS7 => ?_)
            refine J_istore X (ls' := [some (.ref v0), some (.int v1), some (.int v2), some (.int v3), some (.int v4), some (.int r8)]) dX9_cutBest_126 (by decide) rfl ?_
            refine J_iload X dX9_cutBest_128 rfl ?_
            refine J_iload_n X dX9_cutBest_130 (i := 1) rfl rfl ?_
            refine J_icmp_le X (tgt := 140) dX9_cutBest_131 (by decide) ?_ ?_
            · refine J_mask [true, true, true, true, true, false] ?_
              exact t_X9_cutBest_140 X hR ih v0 kv0 v1 v2 v3 v4 S7 wS7
            · refine J_iload X dX9_cutBest_134 rfl ?_
              refine J_istore_n X (i := 1) (ls' := [some (.ref v0), some (.int r8), some (.int v2), some (.int v3), some (.int v4), some (.int r8)]) dX9_cutBest_136 rfl (by decide) rfl ?_
              refine J_iload X dX9_cutBest_137 rfl ?_
              refine J_istore_n X (i := 3) (ls' := [some (.ref v0), some (.int r8), some (.int v2), some (.int v4), some (.int v4), some (.int r8)]) dX9_cutBest_139 rfl (by decide) rfl ?_
              refine J_mask [true, true, true, true, true, false] ?_
              exact t_X9_cutBest_140 X hR ih v0 kv0 r8 v2 v4 v4 S7 wS7
          · exact t_X9_cutBest_140 X hR ih v0 kv0 v1 v2 v3 v4 S1 wS1
        · exact t_X9_cutBest_140 X hR ih v0 kv0 v1 v2 v3 v4 S1 wS1
set_option maxRecDepth 20000 in
def f_X9_cutBest (v0 : Nat) (S : St) : Option (Int32 × St) := bd (f_X5_copyFrom (S.2.2 v0 6) (S.2.2 v0 5) S) fun _ S1 => bd (f_X8_goUntilFirst (S1.2.2 v0 8) S1) fun r4 S3 => nm ((S3.1 (S3.2.2 v0 6) 2) &&& ((S3.1 (S3.2.2 v0 5) 2) ^^^ (-1 : Int32))) fun x5 => b_X9_cutBest_43 FU v0 r4 x5 (-2 : Int32) (0 : Int32) S3
set_option maxRecDepth 20000 in
theorem t_X9_cutBest_0 {K : KK} (X : CX K cX9_cutBest 6 RX9 (some .int)) (hR : kR K = rmD 7) (v0 : Nat) (kv0 : KA (kDn K) v0 (0, 9)) (S : St) (w : WT (kDn K) S.2.2) : JX K (Zm K (fun v : Int32 => some (.int v))) 0 [some (.ref v0), none, none, none, none, none] [] (rwN (kN K) S) (kn K) 0 0 (f_X9_cutBest v0 S) := by
  unfold f_X9_cutBest
  refine J_aload_n X dX9_cutBest_0 (i := 0) rfl rfl ?_
  refine T_getR X (kf := 6) cb9 kv0 (by decide) fl_X9_39 (fun _ _ _ => rfl) dX9_cutBest_1 ?_
  refine J_aload_n X dX9_cutBest_4 (i := 0) rfl rfl ?_
  refine T_getR X (kf := 5) cb9 kv0 (by decide) fl_X9_35 (fun _ _ _ => rfl) dX9_cutBest_5 ?_
  refine T_callV (As := [.ref (S.2.2 v0 5)]) w X (C_X5_copyFrom (kG K) (S.2.2 v0 6) (w.1 _ _ kv0 6 _ rfl) (S.2.2 v0 5) (w.1 _ _ kv0 5 _ rfl) S) cb5 (w.1 _ _ kv0 6 _ rfl) ml_X9_98 in_yX5_copyFrom se_yX5_copyFrom ii_RX5 co_yX5_copyFrom hy_X5_copyFrom (hRd hR (by decide) (by decide)) rfl (Nat.le_of_ble_eq_true rfl) dX9_cutBest_8 (fun _ S1 _ wS1 => ?_)
  refine J_aload_n X dX9_cutBest_11 (i := 0) rfl rfl ?_
  refine T_getR X (kf := 8) cb9 kv0 (by decide) fl_X9_51 (fun _ _ _ => rfl) dX9_cutBest_12 ?_
  refine T_callV (As := []) wS1 X (C_X8_goUntilFirst (kG K) (S1.2.2 v0 8) (wS1.1 _ _ kv0 8 _ rfl) S1) cb8 (wS1.1 _ _ kv0 8 _ rfl) ml_X9_238 in_yX8_goUntilFirst se_yX8_goUntilFirst ii_RX8 co_yX8_goUntilFirst hy_X8_goUntilFirst (hRd hR (by decide) (by decide)) rfl (Nat.le_of_ble_eq_true rfl) dX9_cutBest_15 (fun r4 S3 _ wS3 => ?_)
  refine J_istore_n X (i := 1) (ls' := [some (.ref v0), some (.int r4), none, none, none, none]) dX9_cutBest_18 rfl (by decide) rfl ?_
  refine J_aload_n X dX9_cutBest_19 (i := 0) rfl rfl ?_
  refine T_getR X (kf := 6) cb9 kv0 (by decide) fl_X9_39 (fun _ _ _ => rfl) dX9_cutBest_20 ?_
  refine T_getI X (kf := 2) cb5 (wS3.1 _ _ kv0 6 _ rfl) (by decide) fl_X9_188 (fun _ _ _ => rfl) dX9_cutBest_23 ?_
  refine J_aload_n X dX9_cutBest_26 (i := 0) rfl rfl ?_
  refine T_getR X (kf := 5) cb9 kv0 (by decide) fl_X9_35 (fun _ _ _ => rfl) dX9_cutBest_27 ?_
  refine T_getI X (kf := 2) cb5 (wS3.1 _ _ kv0 5 _ rfl) (by decide) fl_X9_188 (fun _ _ _ => rfl) dX9_cutBest_30 ?_
  refine J_iconst X (v := (-1 : Int32)) dX9_cutBest_33 (by decide) ?_
  refine J_ixor X dX9_cutBest_34 ?_
  refine J_iand X dX9_cutBest_35 ?_
  refine J_nmi (fun x5 => ?_)
  refine J_istore_n X (i := 2) (ls' := [some (.ref v0), some (.int r4), some (.int x5), none, none, none]) dX9_cutBest_36 rfl (by decide) rfl ?_
  refine J_bipush X (v := (-2 : Int32)) dX9_cutBest_37 (by decide) ?_
  refine J_istore_n X (i := 3) (ls' := [some (.ref v0), some (.int r4), some (.int x5), some (.int (-2 : Int32)), none, none]) dX9_cutBest_39 rfl (by decide) rfl ?_
  refine J_iconst X (v := (0 : Int32)) dX9_cutBest_40 (by decide) ?_
  refine J_istore X (ls' := [some (.ref v0), some (.int r4), some (.int x5), some (.int (-2 : Int32)), some (.int (0 : Int32)), none]) dX9_cutBest_41 (by decide) rfl ?_
  exact t_X9_cutBest_43 X hR FU v0 kv0 r4 x5 (-2 : Int32) (0 : Int32) S3 wS3
theorem C_X9_cutBest (G : GG) (v0 : Nat) (kv0 : KA (gD G) v0 (0, 9)) (S : St) : CM G yX9_cutBest cX9_cutBest 6 (some .int) 7 [.ref v0] S (fun v : Int32 => some (.int v)) (f_X9_cutBest v0 S) :=
  CM_of (by decide) (Nat.le_of_ble_eq_true rfl) rfl (fun K hG X hR w => by subst hG; exact t_X9_cutBest_0 X hR v0 kv0 S w)
-- ==== X9_give
theorem hy_X9_give : yX9_give.cls ≠ "java/lang/invoke/MethodHandle" ∧ yX9_give.cls ≠ "java/lang/invoke/VarHandle" ∧ (parseMethodDescriptor yX9_give.desc).map (fun d => d.parameters.length) = some 1 := by decide +kernel
set_option maxRecDepth 20000 in
def b_X9_give_160 (q71 : Nat → Int32 → Int32 → Int32 → Int32 → Int32 → St → Option (Int32 × St)) (v0 : Nat) (v1 : Int32) (v2 : Int32) (v3 : Int32) (v4 : Int32) (v5 : Int32) (S : St) : Option (Int32 × St) := nm (v5 + (1 : Int32)) fun x1 => q71 v0 v1 v2 v3 v4 x1 S
set_option maxRecDepth 20000 in
theorem t_X9_give_160 {K : KK} (X : CX K cX9_give 7 RX9 (some .int)) (hR : kR K = rmD 7) {q71 : Nat → Int32 → Int32 → Int32 → Int32 → Int32 → St → Option (Int32 × St)} (hq71 : ∀ (v0 : Nat) (kv0 : KA (kDn K) v0 (0, 9)) (v1 : Int32) (v2 : Int32) (v3 : Int32) (v4 : Int32) (v5 : Int32) (S : St), WT (kDn K) S.2.2 → JX K (Zm K (fun v : Int32 => some (.int v))) 71 [some (.ref v0), some (.int v1), some (.int v2), some (.int v3), some (.int v4), some (.int v5), none] [] (rwN (kN K) S) (kn K) 0 0 (q71 v0 v1 v2 v3 v4 v5 S)) (v0 : Nat) (kv0 : KA (kDn K) v0 (0, 9)) (v1 : Int32) (v2 : Int32) (v3 : Int32) (v4 : Int32) (v5 : Int32) (S : St) (w : WT (kDn K) S.2.2) : JX K (Zm K (fun v : Int32 => some (.int v))) 160 [some (.ref v0), some (.int v1), some (.int v2), some (.int v3), some (.int v4), some (.int v5), none] [] (rwN (kN K) S) (kn K) 0 0 (b_X9_give_160 q71 v0 v1 v2 v3 v4 v5 S) := by
  unfold b_X9_give_160
  refine J_nmv (v5 + (1 : Int32)) (fun x1 ex1 => ?_)
  refine J_iinc X (v := x1) (ls' := [some (.ref v0), some (.int v1), some (.int v2), some (.int v3), some (.int v4), some (.int x1), none]) dX9_give_160 (by decide) rfl (by rw [ex1]; rfl) rfl ?_
  refine J_goto X (tgt := 71) dX9_give_163 (by decide) ?_
  exact hq71 v0 kv0 v1 v2 v3 v4 x1 S w
set_option maxRecDepth 20000 in
def b_X9_give_71 : Nat → Nat → Int32 → Int32 → Int32 → Int32 → Int32 → St → Option (Int32 × St)
  | 0, _, _, _, _, _, _, _ => none
  | fu + 1, v0, v1, v2, v3, v4, v5, S => if (S.1 (S.2.2 v0 3) 1) ≤ v5 then (some (v4, S)) else (if (101 : Int32) ≤ v2 then (some (v4, S)) else (bd (f_X5_mayBeHanded (S.2.2 v0 5) v1 v5 S) fun r2 S1 => if r2 = 0 then (b_X9_give_160 (b_X9_give_71 fu) v0 v1 v2 v3 v4 v5 S1) else (if (v3 &&& (((1 : Int32) <<< (v5 &&& 31)) ^^^ (-1 : Int32))) = 0 then (bd (f_X5_copyFrom (S1.2.2 v0 6) (S1.2.2 v0 5) S1) fun _ S3 => (ix ((28 : Int32) + v1) 36).bind fun j5 => nm (sI S3 (S3.2.2 (S3.2.2 v0 6) 0) j5 v5) fun S6 => bd (f_X8_goUntilFirst (S6.2.2 v0 8) S6) fun r8 S7 => if r8 ≤ v2 then (b_X9_give_160 (b_X9_give_71 fu) v0 v1 v2 v3 v4 v5 S7) else (b_X9_give_160 (b_X9_give_71 fu) v0 v1 r8 v3 v5 v5 S7)) else (b_X9_give_160 (b_X9_give_71 fu) v0 v1 v2 v3 v4 v5 S1))))
set_option maxRecDepth 20000 in
theorem t_X9_give_71 {K : KK} (X : CX K cX9_give 7 RX9 (some .int)) (hR : kR K = rmD 7) : ∀ (fu : Nat) (v0 : Nat) (kv0 : KA (kDn K) v0 (0, 9)) (v1 : Int32) (v2 : Int32) (v3 : Int32) (v4 : Int32) (v5 : Int32) (S : St), WT (kDn K) S.2.2 → JX K (Zm K (fun v : Int32 => some (.int v))) 71 [some (.ref v0), some (.int v1), some (.int v2), some (.int v3), some (.int v4), some (.int v5), none] [] (rwN (kN K) S) (kn K) 0 0 (b_X9_give_71 fu v0 v1 v2 v3 v4 v5 S) := by
  intro fu
  induction fu with
  | zero => intro v0 kv0 v1 v2 v3 v4 v5 S w; exact J_none
  | succ fu ih =>
    intro v0 kv0 v1 v2 v3 v4 v5 S w
    rw [b_X9_give_71]
    refine J_iload X dX9_give_71 rfl ?_
    refine J_aload_n X dX9_give_73 (i := 0) rfl rfl ?_
    refine T_getR X (kf := 3) cb9 kv0 (by decide) fl_X9_16 (fun _ _ _ => rfl) dX9_give_74 ?_
    refine T_getI X (kf := 1) cb0 (w.1 _ _ kv0 3 _ rfl) (by decide) fl_X9_115 (fun _ _ _ => rfl) dX9_give_77 ?_
    refine J_icmp_ge X (tgt := 166) dX9_give_80 (by decide) ?_ ?_
    · refine J_iload X dX9_give_166 rfl ?_
      exact T_iret w X dX9_give_168
    · refine J_iload_n X dX9_give_83 (i := 2) rfl rfl ?_
      refine J_bipush X (v := (101 : Int32)) dX9_give_84 (by decide) ?_
      refine J_icmp_ge X (tgt := 166) dX9_give_86 (by decide) ?_ ?_
      · refine J_iload X dX9_give_166 rfl ?_
        exact T_iret w X dX9_give_168
      · refine J_aload_n X dX9_give_89 (i := 0) rfl rfl ?_
        refine T_getR X (kf := 5) cb9 kv0 (by decide) fl_X9_35 (fun _ _ _ => rfl) dX9_give_90 ?_
        refine J_iload_n X dX9_give_93 (i := 1) rfl rfl ?_
        refine J_iload X dX9_give_94 rfl ?_
        refine T_callV (As := [.int v1, .int v5]) w X (C_X5_mayBeHanded (kG K) (S.2.2 v0 5) (w.1 _ _ kv0 5 _ rfl) v1 v5 S) cb5 (w.1 _ _ kv0 5 _ rfl) ml_X9_217 in_yX5_mayBeHanded se_yX5_mayBeHanded ii_RX5 co_yX5_mayBeHanded hy_X5_mayBeHanded (hRd hR (by decide) (by decide)) rfl (Nat.le_of_ble_eq_true rfl) dX9_give_96 (fun r2 S1 _ wS1 => ?_)
        refine J_if_eq X (tgt := 160) dX9_give_99 (by decide) ?_ ?_
        · exact t_X9_give_160 X hR ih v0 kv0 v1 v2 v3 v4 v5 S1 wS1
        · refine J_iload_n X dX9_give_102 (i := 3) rfl rfl ?_
          refine J_iconst X (v := (1 : Int32)) dX9_give_103 (by decide) ?_
          refine J_iload X dX9_give_104 rfl ?_
          refine J_ishl X dX9_give_106 ?_
          refine J_iconst X (v := (-1 : Int32)) dX9_give_107 (by decide) ?_
          refine J_ixor X dX9_give_108 ?_
          refine J_iand X dX9_give_109 ?_
          refine J_if_ne X (tgt := 160) dX9_give_110 (by decide) ?_ ?_
          · refine J_aload_n X dX9_give_113 (i := 0) rfl rfl ?_
            refine T_getR X (kf := 6) cb9 kv0 (by decide) fl_X9_39 (fun _ _ _ => rfl) dX9_give_114 ?_
            refine J_aload_n X dX9_give_117 (i := 0) rfl rfl ?_
            refine T_getR X (kf := 5) cb9 kv0 (by decide) fl_X9_35 (fun _ _ _ => rfl) dX9_give_118 ?_
            refine T_callV (As := [.ref (S1.2.2 v0 5)]) wS1 X (C_X5_copyFrom (kG K) (S1.2.2 v0 6) (wS1.1 _ _ kv0 6 _ rfl) (S1.2.2 v0 5) (wS1.1 _ _ kv0 5 _ rfl) S1) cb5 (wS1.1 _ _ kv0 6 _ rfl) ml_X9_98 in_yX5_copyFrom se_yX5_copyFrom ii_RX5 co_yX5_copyFrom hy_X5_copyFrom (hRd hR (by decide) (by decide)) rfl (Nat.le_of_ble_eq_true rfl) dX9_give_121 (fun _ S3 _ wS3 => ?_)
            refine J_aload_n X dX9_give_124 (i := 0) rfl rfl ?_
            refine T_getR X (kf := 6) cb9 kv0 (by decide) fl_X9_39 (fun _ _ _ => rfl) dX9_give_125 ?_
            refine T_getR X (kf := 0) cb5 (wS3.1 _ _ kv0 6 _ rfl) (by decide) fl_X9_125 (fun _ _ _ => rfl) dX9_give_128 ?_
            refine J_bipush X (v := (28 : Int32)) dX9_give_131 (by decide) ?_
            refine J_iload_n X dX9_give_133 (i := 1) rfl rfl ?_
            refine J_iadd X dX9_give_134 ?_
            refine J_iload X dX9_give_135 rfl ?_
            refine T_iast X (wS3.1 _ _ (wS3.1 _ _ kv0 6 _ rfl) 0 _ rfl) dX9_give_137 (fun j5 S6 hS6 => ?_)
            have wS6 : WT (kDn K) S6.2.2 := by rw [hS6]; exact wS3
            clear hS6
            refine J_aload_n X dX9_give_138 (i := 0) rfl rfl ?_
            refine T_getR X (kf := 8) cb9 kv0 (by decide) fl_X9_51 (fun _ _ _ => rfl) dX9_give_139 ?_
            refine T_callV (As := []) wS6 X (C_X8_goUntilFirst (kG K) (S6.2.2 v0 8) (wS6.1 _ _ kv0 8 _ rfl) S6) cb8 (wS6.1 _ _ kv0 8 _ rfl) ml_X9_238 in_yX8_goUntilFirst se_yX8_goUntilFirst ii_RX8 co_yX8_goUntilFirst hy_X8_goUntilFirst (hRd hR (by decide) (by decide)) rfl (Nat.le_of_ble_eq_true rfl) dX9_give_142 (fun r8 S7 _ wS7 => ?_)
            refine J_istore X (ls' := [some (.ref v0), some (.int v1), some (.int v2), some (.int v3), some (.int v4), some (.int v5), some (.int r8)]) dX9_give_145 (by decide) rfl ?_
            refine J_iload X dX9_give_147 rfl ?_
            refine J_iload_n X dX9_give_149 (i := 2) rfl rfl ?_
            refine J_icmp_le X (tgt := 160) dX9_give_150 (by decide) ?_ ?_
            · refine J_mask [true, true, true, true, true, true, false] ?_
              exact t_X9_give_160 X hR ih v0 kv0 v1 v2 v3 v4 v5 S7 wS7
            · refine J_iload X dX9_give_153 rfl ?_
              refine J_istore_n X (i := 2) (ls' := [some (.ref v0), some (.int v1), some (.int r8), some (.int v3), some (.int v4), some (.int v5), some (.int r8)]) dX9_give_155 rfl (by decide) rfl ?_
              refine J_iload X dX9_give_156 rfl ?_
              refine J_istore X (ls' := [some (.ref v0), some (.int v1), some (.int r8), some (.int v3), some (.int v5), some (.int v5), some (.int r8)]) dX9_give_158 (by decide) rfl ?_
              refine J_mask [true, true, true, true, true, true, false] ?_
              exact t_X9_give_160 X hR ih v0 kv0 v1 r8 v3 v5 v5 S7 wS7
          · exact t_X9_give_160 X hR ih v0 kv0 v1 v2 v3 v4 v5 S1 wS1
set_option maxRecDepth 20000 in
def f_X9_give (v0 : Nat) (v1 : Int32) (S : St) : Option (Int32 × St) := bd (f_X9_isStrand v0 v1 S) fun r2 S1 => if r2 = 0 then (some ((-1 : Int32), S1)) else (bd (f_X5_copyFrom (S1.2.2 v0 6) (S1.2.2 v0 5) S1) fun _ S3 => bd (f_X8_goUntilFirst (S3.2.2 v0 8) S3) fun r6 S5 => (ix ((28 : Int32) + v1) 36).bind fun j7 => nm (((S5.1 (S5.2.2 v0 6) 2) &&& ((S5.1 (S5.2.2 v0 5) 2) ^^^ (-1 : Int32))) &&& (((1 : Int32) <<< ((S5.1 (S5.2.2 (S5.2.2 v0 5) 0) j7) &&& 31)) ^^^ (-1 : Int32))) fun x8 => b_X9_give_71 FU v0 v1 r6 x8 (-2 : Int32) (0 : Int32) S5)
set_option maxRecDepth 20000 in
theorem t_X9_give_0 {K : KK} (X : CX K cX9_give 7 RX9 (some .int)) (hR : kR K = rmD 7) (v0 : Nat) (kv0 : KA (kDn K) v0 (0, 9)) (v1 : Int32) (S : St) (w : WT (kDn K) S.2.2) : JX K (Zm K (fun v : Int32 => some (.int v))) 0 [some (.ref v0), some (.int v1), none, none, none, none, none] [] (rwN (kN K) S) (kn K) 0 0 (f_X9_give v0 v1 S) := by
  unfold f_X9_give
  refine J_aload_n X dX9_give_0 (i := 0) rfl rfl ?_
  refine J_iload_n X dX9_give_1 (i := 1) rfl rfl ?_
  refine T_callV (As := [.int v1]) w X (C_X9_isStrand (kG K) v0 kv0 v1 S) cb9 kv0 ml_X9_163 in_yX9_isStrand se_yX9_isStrand ii_RX9 co_yX9_isStrand hy_X9_isStrand (hRd hR (by decide) (by decide)) rfl (Nat.le_of_ble_eq_true rfl) dX9_give_2 (fun r2 S1 _ wS1 => ?_)
  refine J_if_ne X (tgt := 10) dX9_give_5 (by decide) ?_ ?_
  · refine J_iconst X (v := (-1 : Int32)) dX9_give_8 (by decide) ?_
    exact T_iret wS1 X dX9_give_9
  · refine J_aload_n X dX9_give_10 (i := 0) rfl rfl ?_
    refine T_getR X (kf := 6) cb9 kv0 (by decide) fl_X9_39 (fun _ _ _ => rfl) dX9_give_11 ?_
    refine J_aload_n X dX9_give_14 (i := 0) rfl rfl ?_
    refine T_getR X (kf := 5) cb9 kv0 (by decide) fl_X9_35 (fun _ _ _ => rfl) dX9_give_15 ?_
    refine T_callV (As := [.ref (S1.2.2 v0 5)]) wS1 X (C_X5_copyFrom (kG K) (S1.2.2 v0 6) (wS1.1 _ _ kv0 6 _ rfl) (S1.2.2 v0 5) (wS1.1 _ _ kv0 5 _ rfl) S1) cb5 (wS1.1 _ _ kv0 6 _ rfl) ml_X9_98 in_yX5_copyFrom se_yX5_copyFrom ii_RX5 co_yX5_copyFrom hy_X5_copyFrom (hRd hR (by decide) (by decide)) rfl (Nat.le_of_ble_eq_true rfl) dX9_give_18 (fun _ S3 _ wS3 => ?_)
    refine J_aload_n X dX9_give_21 (i := 0) rfl rfl ?_
    refine T_getR X (kf := 8) cb9 kv0 (by decide) fl_X9_51 (fun _ _ _ => rfl) dX9_give_22 ?_
    refine T_callV (As := []) wS3 X (C_X8_goUntilFirst (kG K) (S3.2.2 v0 8) (wS3.1 _ _ kv0 8 _ rfl) S3) cb8 (wS3.1 _ _ kv0 8 _ rfl) ml_X9_238 in_yX8_goUntilFirst se_yX8_goUntilFirst ii_RX8 co_yX8_goUntilFirst hy_X8_goUntilFirst (hRd hR (by decide) (by decide)) rfl (Nat.le_of_ble_eq_true rfl) dX9_give_25 (fun r6 S5 _ wS5 => ?_)
    refine J_istore_n X (i := 2) (ls' := [some (.ref v0), some (.int v1), some (.int r6), none, none, none, none]) dX9_give_28 rfl (by decide) rfl ?_
    refine J_aload_n X dX9_give_29 (i := 0) rfl rfl ?_
    refine T_getR X (kf := 6) cb9 kv0 (by decide) fl_X9_39 (fun _ _ _ => rfl) dX9_give_30 ?_
    refine T_getI X (kf := 2) cb5 (wS5.1 _ _ kv0 6 _ rfl) (by decide) fl_X9_188 (fun _ _ _ => rfl) dX9_give_33 ?_
    refine J_aload_n X dX9_give_36 (i := 0) rfl rfl ?_
    refine T_getR X (kf := 5) cb9 kv0 (by decide) fl_X9_35 (fun _ _ _ => rfl) dX9_give_37 ?_
    refine T_getI X (kf := 2) cb5 (wS5.1 _ _ kv0 5 _ rfl) (by decide) fl_X9_188 (fun _ _ _ => rfl) dX9_give_40 ?_
    refine J_iconst X (v := (-1 : Int32)) dX9_give_43 (by decide) ?_
    refine J_ixor X dX9_give_44 ?_
    refine J_iand X dX9_give_45 ?_
    refine J_iconst X (v := (1 : Int32)) dX9_give_46 (by decide) ?_
    refine J_aload_n X dX9_give_47 (i := 0) rfl rfl ?_
    refine T_getR X (kf := 5) cb9 kv0 (by decide) fl_X9_35 (fun _ _ _ => rfl) dX9_give_48 ?_
    refine T_getR X (kf := 0) cb5 (wS5.1 _ _ kv0 5 _ rfl) (by decide) fl_X9_125 (fun _ _ _ => rfl) dX9_give_51 ?_
    refine J_bipush X (v := (28 : Int32)) dX9_give_54 (by decide) ?_
    refine J_iload_n X dX9_give_56 (i := 1) rfl rfl ?_
    refine J_iadd X dX9_give_57 ?_
    refine T_iald X (wS5.1 _ _ (wS5.1 _ _ kv0 5 _ rfl) 0 _ rfl) dX9_give_58 (fun j7 => ?_)
    refine J_ishl X dX9_give_59 ?_
    refine J_iconst X (v := (-1 : Int32)) dX9_give_60 (by decide) ?_
    refine J_ixor X dX9_give_61 ?_
    refine J_iand X dX9_give_62 ?_
    refine J_nmi (fun x8 => ?_)
    refine J_istore_n X (i := 3) (ls' := [some (.ref v0), some (.int v1), some (.int r6), some (.int x8), none, none, none]) dX9_give_63 rfl (by decide) rfl ?_
    refine J_bipush X (v := (-2 : Int32)) dX9_give_64 (by decide) ?_
    refine J_istore X (ls' := [some (.ref v0), some (.int v1), some (.int r6), some (.int x8), some (.int (-2 : Int32)), none, none]) dX9_give_66 (by decide) rfl ?_
    refine J_iconst X (v := (0 : Int32)) dX9_give_68 (by decide) ?_
    refine J_istore X (ls' := [some (.ref v0), some (.int v1), some (.int r6), some (.int x8), some (.int (-2 : Int32)), some (.int (0 : Int32)), none]) dX9_give_69 (by decide) rfl ?_
    exact t_X9_give_71 X hR FU v0 kv0 v1 r6 x8 (-2 : Int32) (0 : Int32) S5 wS5
theorem C_X9_give (G : GG) (v0 : Nat) (kv0 : KA (gD G) v0 (0, 9)) (v1 : Int32) (S : St) : CM G yX9_give cX9_give 7 (some .int) 7 [.ref v0, .int v1] S (fun v : Int32 => some (.int v)) (f_X9_give v0 v1 S) :=
  CM_of (by decide) (Nat.le_of_ble_eq_true rfl) rfl (fun K hG X hR w => by subst hG; exact t_X9_give_0 X hR v0 kv0 v1 S w)
-- ==== X9_plait
theorem hy_X9_plait : yX9_plait.cls ≠ "java/lang/invoke/MethodHandle" ∧ yX9_plait.cls ≠ "java/lang/invoke/VarHandle" ∧ (parseMethodDescriptor yX9_plait.desc).map (fun d => d.parameters.length) = some 4 := by decide +kernel
set_option maxRecDepth 20000 in
def f_X9_plait (v0 : Nat) (v1 : Int32) (v2 : Int32) (v3 : Int32) (v4 : Int32) (S : St) : Option (Int32 × St) := bd (f_X9_isPerson v0 v1 S) fun r2 S1 => if r2 = 0 then (some ((-1 : Int32), S1)) else (bd (f_X9_isWithin v4 (0 : Int32) (1 : Int32) S1) fun r4 S3 => if r4 = 0 then (some ((-1 : Int32), S3)) else (bd (f_X9_isWithin v2 (-999 : Int32) (999 : Int32) S3) fun r6 S5 => if r6 = 0 then (some ((-1 : Int32), S5)) else (bd (f_X9_isWithin v3 (-999 : Int32) (999 : Int32) S5) fun r8 S7 => if r8 = 0 then (some ((-1 : Int32), S7)) else (bd (f_X5_isOff (S7.2.2 v0 5) v1 S7) fun r10 S9 => if r10 = 0 then (bd (f_X3_layOn (S9.2.2 v0 12) (S9.2.2 v0 7) v1 S9) fun _ S11 => bd (f_X3_seek (S11.2.2 v0 12) v2 v3 (0 : Int32) S11) fun _ S13 => if (S13.1 (S13.2.2 v0 12) 4) = 0 then (some ((-2 : Int32), S13)) else (if v4 = 0 then (bd (f_J6_bitCount_0f7a4 (S13.1 (S13.2.2 v0 12) 5) S13) fun r16 S15 => some (r16, S15)) else (some (S13.1 (S13.2.2 v0 12) 5, S13)))) else (some ((-2 : Int32), S9))))))
set_option maxRecDepth 20000 in
theorem t_X9_plait_0 {K : KK} (X : CX K cX9_plait 5 RX9 (some .int)) (hR : kR K = rmD 5) (v0 : Nat) (kv0 : KA (kDn K) v0 (0, 9)) (v1 : Int32) (v2 : Int32) (v3 : Int32) (v4 : Int32) (S : St) (w : WT (kDn K) S.2.2) : JX K (Zm K (fun v : Int32 => some (.int v))) 0 [some (.ref v0), some (.int v1), some (.int v2), some (.int v3), some (.int v4)] [] (rwN (kN K) S) (kn K) 0 0 (f_X9_plait v0 v1 v2 v3 v4 S) := by
  unfold f_X9_plait
  refine J_aload_n X dX9_plait_0 (i := 0) rfl rfl ?_
  refine J_iload_n X dX9_plait_1 (i := 1) rfl rfl ?_
  refine T_callV (As := [.int v1]) w X (C_X9_isPerson (kG K) v0 kv0 v1 S) cb9 kv0 ml_X9_132 in_yX9_isPerson se_yX9_isPerson ii_RX9 co_yX9_isPerson hy_X9_isPerson (hRd hR (by decide) (by decide)) rfl (Nat.le_of_ble_eq_true rfl) dX9_plait_2 (fun r2 S1 _ wS1 => ?_)
  refine J_if_eq X (tgt := 44) dX9_plait_5 (by decide) ?_ ?_
  · refine J_iconst X (v := (-1 : Int32)) dX9_plait_44 (by decide) ?_
    exact T_iret wS1 X dX9_plait_45
  · refine J_iload X dX9_plait_8 rfl ?_
    refine J_iconst X (v := (0 : Int32)) dX9_plait_10 (by decide) ?_
    refine J_iconst X (v := (1 : Int32)) dX9_plait_11 (by decide) ?_
    refine T_callS (As := [.int v4, .int (0 : Int32), .int (1 : Int32)]) wS1 X (C_X9_isWithin (kG K) v4 (0 : Int32) (1 : Int32) S1) ml_X9_224 st_yX9_isWithin ii_RX9 co_yX9_isWithin hy_X9_isWithin (hRd hR (by decide) (by decide)) rfl (Nat.le_of_ble_eq_true rfl) dX9_plait_12 (fun r4 S3 _ wS3 => ?_)
    refine J_if_eq X (tgt := 44) dX9_plait_15 (by decide) ?_ ?_
    · refine J_iconst X (v := (-1 : Int32)) dX9_plait_44 (by decide) ?_
      exact T_iret wS3 X dX9_plait_45
    · refine J_iload_n X dX9_plait_18 (i := 2) rfl rfl ?_
      refine J_sipush X (v := (-999 : Int32)) dX9_plait_19 (by decide) ?_
      refine J_sipush X (v := (999 : Int32)) dX9_plait_22 (by decide) ?_
      refine T_callS (As := [.int v2, .int (-999 : Int32), .int (999 : Int32)]) wS3 X (C_X9_isWithin (kG K) v2 (-999 : Int32) (999 : Int32) S3) ml_X9_224 st_yX9_isWithin ii_RX9 co_yX9_isWithin hy_X9_isWithin (hRd hR (by decide) (by decide)) rfl (Nat.le_of_ble_eq_true rfl) dX9_plait_25 (fun r6 S5 _ wS5 => ?_)
      refine J_if_eq X (tgt := 44) dX9_plait_28 (by decide) ?_ ?_
      · refine J_iconst X (v := (-1 : Int32)) dX9_plait_44 (by decide) ?_
        exact T_iret wS5 X dX9_plait_45
      · refine J_iload_n X dX9_plait_31 (i := 3) rfl rfl ?_
        refine J_sipush X (v := (-999 : Int32)) dX9_plait_32 (by decide) ?_
        refine J_sipush X (v := (999 : Int32)) dX9_plait_35 (by decide) ?_
        refine T_callS (As := [.int v3, .int (-999 : Int32), .int (999 : Int32)]) wS5 X (C_X9_isWithin (kG K) v3 (-999 : Int32) (999 : Int32) S5) ml_X9_224 st_yX9_isWithin ii_RX9 co_yX9_isWithin hy_X9_isWithin (hRd hR (by decide) (by decide)) rfl (Nat.le_of_ble_eq_true rfl) dX9_plait_38 (fun r8 S7 _ wS7 => ?_)
        refine J_if_ne X (tgt := 46) dX9_plait_41 (by decide) ?_ ?_
        · refine J_iconst X (v := (-1 : Int32)) dX9_plait_44 (by decide) ?_
          exact T_iret wS7 X dX9_plait_45
        · refine J_aload_n X dX9_plait_46 (i := 0) rfl rfl ?_
          refine T_getR X (kf := 5) cb9 kv0 (by decide) fl_X9_35 (fun _ _ _ => rfl) dX9_plait_47 ?_
          refine J_iload_n X dX9_plait_50 (i := 1) rfl rfl ?_
          refine T_callV (As := [.int v1]) wS7 X (C_X5_isOff (kG K) (S7.2.2 v0 5) (wS7.1 _ _ kv0 5 _ rfl) v1 S7) cb5 (wS7.1 _ _ kv0 5 _ rfl) ml_X9_139 in_yX5_isOff se_yX5_isOff ii_RX5 co_yX5_isOff hy_X5_isOff (hRd hR (by decide) (by decide)) rfl (Nat.le_of_ble_eq_true rfl) dX9_plait_51 (fun r10 S9 _ wS9 => ?_)
          refine J_if_eq X (tgt := 60) dX9_plait_54 (by decide) ?_ ?_
          · refine J_aload_n X dX9_plait_60 (i := 0) rfl rfl ?_
            refine T_getR X (kf := 12) cb9 kv0 (by decide) fl_X9_68 (fun _ _ _ => rfl) dX9_plait_61 ?_
            refine J_aload_n X dX9_plait_64 (i := 0) rfl rfl ?_
            refine T_getR X (kf := 7) cb9 kv0 (by decide) fl_X9_47 (fun _ _ _ => rfl) dX9_plait_65 ?_
            refine J_iload_n X dX9_plait_68 (i := 1) rfl rfl ?_
            refine T_callV (As := [.ref (S9.2.2 v0 7), .int v1]) wS9 X (C_X3_layOn (kG K) (S9.2.2 v0 12) (wS9.1 _ _ kv0 12 _ rfl) (S9.2.2 v0 7) (wS9.1 _ _ kv0 7 _ rfl) v1 S9) cb3 (wS9.1 _ _ kv0 12 _ rfl) ml_X9_252 in_yX3_layOn se_yX3_layOn ii_RX3 co_yX3_layOn hy_X3_layOn (hRd hR (by decide) (by decide)) rfl (Nat.le_of_ble_eq_true rfl) dX9_plait_69 (fun _ S11 _ wS11 => ?_)
            refine J_aload_n X dX9_plait_72 (i := 0) rfl rfl ?_
            refine T_getR X (kf := 12) cb9 kv0 (by decide) fl_X9_68 (fun _ _ _ => rfl) dX9_plait_73 ?_
            refine J_iload_n X dX9_plait_76 (i := 2) rfl rfl ?_
            refine J_iload_n X dX9_plait_77 (i := 3) rfl rfl ?_
            refine J_iconst X (v := (0 : Int32)) dX9_plait_78 (by decide) ?_
            refine T_callV (As := [.int v2, .int v3, .int (0 : Int32)]) wS11 X (C_X3_seek (kG K) (S11.2.2 v0 12) (wS11.1 _ _ kv0 12 _ rfl) v2 v3 (0 : Int32) S11) cb3 (wS11.1 _ _ kv0 12 _ rfl) ml_X9_256 in_yX3_seek se_yX3_seek ii_RX3 co_yX3_seek hy_X3_seek (hRd hR (by decide) (by decide)) rfl (Nat.le_of_ble_eq_true rfl) dX9_plait_79 (fun _ S13 _ wS13 => ?_)
            refine J_aload_n X dX9_plait_82 (i := 0) rfl rfl ?_
            refine T_getR X (kf := 12) cb9 kv0 (by decide) fl_X9_68 (fun _ _ _ => rfl) dX9_plait_83 ?_
            refine T_getI X (kf := 4) cb3 (wS13.1 _ _ kv0 12 _ rfl) (by decide) fl_X9_259 (fun _ _ _ => rfl) dX9_plait_86 ?_
            refine J_if_ne X (tgt := 95) dX9_plait_89 (by decide) ?_ ?_
            · refine J_bipush X (v := (-2 : Int32)) dX9_plait_92 (by decide) ?_
              exact T_iret wS13 X dX9_plait_94
            · refine J_iload X dX9_plait_95 rfl ?_
              refine J_if_ne X (tgt := 113) dX9_plait_97 (by decide) ?_ ?_
              · refine J_aload_n X dX9_plait_100 (i := 0) rfl rfl ?_
                refine T_getR X (kf := 12) cb9 kv0 (by decide) fl_X9_68 (fun _ _ _ => rfl) dX9_plait_101 ?_
                refine T_getI X (kf := 5) cb3 (wS13.1 _ _ kv0 12 _ rfl) (by decide) fl_X9_262 (fun _ _ _ => rfl) dX9_plait_104 ?_
                refine T_callS (As := [.int (S13.1 (S13.2.2 v0 12) 5)]) wS13 X (C_J6_bitCount_0f7a4 (kG K) (S13.1 (S13.2.2 v0 12) 5) S13) ml_X9_201 st_yJ6_bitCount_0f7a4 ii_RJ6 co_yJ6_bitCount_0f7a4 hy_J6_bitCount_0f7a4 (hRd hR (by decide) (by decide)) rfl (Nat.le_of_ble_eq_true rfl) dX9_plait_107 (fun r16 S15 _ wS15 => ?_)
                refine J_goto X (tgt := 120) dX9_plait_110 (by decide) ?_
                exact T_iret wS15 X dX9_plait_120
              · refine J_aload_n X dX9_plait_113 (i := 0) rfl rfl ?_
                refine T_getR X (kf := 12) cb9 kv0 (by decide) fl_X9_68 (fun _ _ _ => rfl) dX9_plait_114 ?_
                refine T_getI X (kf := 5) cb3 (wS13.1 _ _ kv0 12 _ rfl) (by decide) fl_X9_262 (fun _ _ _ => rfl) dX9_plait_117 ?_
                exact T_iret wS13 X dX9_plait_120
          · refine J_bipush X (v := (-2 : Int32)) dX9_plait_57 (by decide) ?_
            exact T_iret wS9 X dX9_plait_59
theorem C_X9_plait (G : GG) (v0 : Nat) (kv0 : KA (gD G) v0 (0, 9)) (v1 : Int32) (v2 : Int32) (v3 : Int32) (v4 : Int32) (S : St) : CM G yX9_plait cX9_plait 5 (some .int) 5 [.ref v0, .int v1, .int v2, .int v3, .int v4] S (fun v : Int32 => some (.int v)) (f_X9_plait v0 v1 v2 v3 v4 S) :=
  CM_of (by decide) (Nat.le_of_ble_eq_true rfl) rfl (fun K hG X hR w => by subst hG; exact t_X9_plait_0 X hR v0 kv0 v1 v2 v3 v4 S w)
-- ==== X9_nothing
theorem hy_X9_nothing : yX9_nothing.cls ≠ "java/lang/invoke/MethodHandle" ∧ yX9_nothing.cls ≠ "java/lang/invoke/VarHandle" ∧ (parseMethodDescriptor yX9_nothing.desc).map (fun d => d.parameters.length) = some 2 := by decide +kernel
set_option maxRecDepth 20000 in
def f_X9_nothing (v0 : Nat) (v1 : Int32) (v2 : Int32) (S : St) : Option (Int32 × St) := bd (f_X9_isPerson v0 v1 S) fun r2 S1 => if r2 = 0 then (some ((-1 : Int32), S1)) else (bd (f_X9_isWithin v2 (0 : Int32) (1 : Int32) S1) fun r4 S3 => if r4 = 0 then (some ((-1 : Int32), S3)) else (bd (f_X5_isOff (S3.2.2 v0 5) v1 S3) fun r6 S5 => if r6 = 0 then (bd (f_X3_layOn (S5.2.2 v0 12) (S5.2.2 v0 7) v1 S5) fun _ S7 => bd (f_X3_seek (S7.2.2 v0 12) (0 : Int32) (0 : Int32) (1 : Int32) S7) fun _ S9 => if v2 = 0 then (some (S9.1 (S9.2.2 v0 12) 4, S9)) else (if (S9.1 (S9.2.2 v0 12) 4) = 0 then (some ((-2 : Int32), S9)) else (some (S9.1 (S9.2.2 v0 12) 5, S9)))) else (if v2 = 0 then (some ((0 : Int32), S5)) else (some ((-2 : Int32), S5)))))
set_option maxRecDepth 20000 in
theorem t_X9_nothing_0 {K : KK} (X : CX K cX9_nothing 3 RX9 (some .int)) (hR : kR K = rmD 5) (v0 : Nat) (kv0 : KA (kDn K) v0 (0, 9)) (v1 : Int32) (v2 : Int32) (S : St) (w : WT (kDn K) S.2.2) : JX K (Zm K (fun v : Int32 => some (.int v))) 0 [some (.ref v0), some (.int v1), some (.int v2)] [] (rwN (kN K) S) (kn K) 0 0 (f_X9_nothing v0 v1 v2 S) := by
  unfold f_X9_nothing
  refine J_aload_n X dX9_nothing_0 (i := 0) rfl rfl ?_
  refine J_iload_n X dX9_nothing_1 (i := 1) rfl rfl ?_
  refine T_callV (As := [.int v1]) w X (C_X9_isPerson (kG K) v0 kv0 v1 S) cb9 kv0 ml_X9_132 in_yX9_isPerson se_yX9_isPerson ii_RX9 co_yX9_isPerson hy_X9_isPerson (hRd hR (by decide) (by decide)) rfl (Nat.le_of_ble_eq_true rfl) dX9_nothing_2 (fun r2 S1 _ wS1 => ?_)
  refine J_if_eq X (tgt := 17) dX9_nothing_5 (by decide) ?_ ?_
  · refine J_iconst X (v := (-1 : Int32)) dX9_nothing_17 (by decide) ?_
    exact T_iret wS1 X dX9_nothing_18
  · refine J_iload_n X dX9_nothing_8 (i := 2) rfl rfl ?_
    refine J_iconst X (v := (0 : Int32)) dX9_nothing_9 (by decide) ?_
    refine J_iconst X (v := (1 : Int32)) dX9_nothing_10 (by decide) ?_
    refine T_callS (As := [.int v2, .int (0 : Int32), .int (1 : Int32)]) wS1 X (C_X9_isWithin (kG K) v2 (0 : Int32) (1 : Int32) S1) ml_X9_224 st_yX9_isWithin ii_RX9 co_yX9_isWithin hy_X9_isWithin (hRd hR (by decide) (by decide)) rfl (Nat.le_of_ble_eq_true rfl) dX9_nothing_11 (fun r4 S3 _ wS3 => ?_)
    refine J_if_ne X (tgt := 19) dX9_nothing_14 (by decide) ?_ ?_
    · refine J_iconst X (v := (-1 : Int32)) dX9_nothing_17 (by decide) ?_
      exact T_iret wS3 X dX9_nothing_18
    · refine J_aload_n X dX9_nothing_19 (i := 0) rfl rfl ?_
      refine T_getR X (kf := 5) cb9 kv0 (by decide) fl_X9_35 (fun _ _ _ => rfl) dX9_nothing_20 ?_
      refine J_iload_n X dX9_nothing_23 (i := 1) rfl rfl ?_
      refine T_callV (As := [.int v1]) wS3 X (C_X5_isOff (kG K) (S3.2.2 v0 5) (wS3.1 _ _ kv0 5 _ rfl) v1 S3) cb5 (wS3.1 _ _ kv0 5 _ rfl) ml_X9_139 in_yX5_isOff se_yX5_isOff ii_RX5 co_yX5_isOff hy_X5_isOff (hRd hR (by decide) (by decide)) rfl (Nat.le_of_ble_eq_true rfl) dX9_nothing_24 (fun r6 S5 _ wS5 => ?_)
      refine J_if_eq X (tgt := 41) dX9_nothing_27 (by decide) ?_ ?_
      · refine J_aload_n X dX9_nothing_41 (i := 0) rfl rfl ?_
        refine T_getR X (kf := 12) cb9 kv0 (by decide) fl_X9_68 (fun _ _ _ => rfl) dX9_nothing_42 ?_
        refine J_aload_n X dX9_nothing_45 (i := 0) rfl rfl ?_
        refine T_getR X (kf := 7) cb9 kv0 (by decide) fl_X9_47 (fun _ _ _ => rfl) dX9_nothing_46 ?_
        refine J_iload_n X dX9_nothing_49 (i := 1) rfl rfl ?_
        refine T_callV (As := [.ref (S5.2.2 v0 7), .int v1]) wS5 X (C_X3_layOn (kG K) (S5.2.2 v0 12) (wS5.1 _ _ kv0 12 _ rfl) (S5.2.2 v0 7) (wS5.1 _ _ kv0 7 _ rfl) v1 S5) cb3 (wS5.1 _ _ kv0 12 _ rfl) ml_X9_252 in_yX3_layOn se_yX3_layOn ii_RX3 co_yX3_layOn hy_X3_layOn (hRd hR (by decide) (by decide)) rfl (Nat.le_of_ble_eq_true rfl) dX9_nothing_50 (fun _ S7 _ wS7 => ?_)
        refine J_aload_n X dX9_nothing_53 (i := 0) rfl rfl ?_
        refine T_getR X (kf := 12) cb9 kv0 (by decide) fl_X9_68 (fun _ _ _ => rfl) dX9_nothing_54 ?_
        refine J_iconst X (v := (0 : Int32)) dX9_nothing_57 (by decide) ?_
        refine J_iconst X (v := (0 : Int32)) dX9_nothing_58 (by decide) ?_
        refine J_iconst X (v := (1 : Int32)) dX9_nothing_59 (by decide) ?_
        refine T_callV (As := [.int (0 : Int32), .int (0 : Int32), .int (1 : Int32)]) wS7 X (C_X3_seek (kG K) (S7.2.2 v0 12) (wS7.1 _ _ kv0 12 _ rfl) (0 : Int32) (0 : Int32) (1 : Int32) S7) cb3 (wS7.1 _ _ kv0 12 _ rfl) ml_X9_256 in_yX3_seek se_yX3_seek ii_RX3 co_yX3_seek hy_X3_seek (hRd hR (by decide) (by decide)) rfl (Nat.le_of_ble_eq_true rfl) dX9_nothing_60 (fun _ S9 _ wS9 => ?_)
        refine J_iload_n X dX9_nothing_63 (i := 2) rfl rfl ?_
        refine J_if_ne X (tgt := 75) dX9_nothing_64 (by decide) ?_ ?_
        · refine J_aload_n X dX9_nothing_67 (i := 0) rfl rfl ?_
          refine T_getR X (kf := 12) cb9 kv0 (by decide) fl_X9_68 (fun _ _ _ => rfl) dX9_nothing_68 ?_
          refine T_getI X (kf := 4) cb3 (wS9.1 _ _ kv0 12 _ rfl) (by decide) fl_X9_259 (fun _ _ _ => rfl) dX9_nothing_71 ?_
          exact T_iret wS9 X dX9_nothing_74
        · refine J_aload_n X dX9_nothing_75 (i := 0) rfl rfl ?_
          refine T_getR X (kf := 12) cb9 kv0 (by decide) fl_X9_68 (fun _ _ _ => rfl) dX9_nothing_76 ?_
          refine T_getI X (kf := 4) cb3 (wS9.1 _ _ kv0 12 _ rfl) (by decide) fl_X9_259 (fun _ _ _ => rfl) dX9_nothing_79 ?_
          refine J_if_ne X (tgt := 90) dX9_nothing_82 (by decide) ?_ ?_
          · refine J_bipush X (v := (-2 : Int32)) dX9_nothing_85 (by decide) ?_
            refine J_goto X (tgt := 97) dX9_nothing_87 (by decide) ?_
            exact T_iret wS9 X dX9_nothing_97
          · refine J_aload_n X dX9_nothing_90 (i := 0) rfl rfl ?_
            refine T_getR X (kf := 12) cb9 kv0 (by decide) fl_X9_68 (fun _ _ _ => rfl) dX9_nothing_91 ?_
            refine T_getI X (kf := 5) cb3 (wS9.1 _ _ kv0 12 _ rfl) (by decide) fl_X9_262 (fun _ _ _ => rfl) dX9_nothing_94 ?_
            exact T_iret wS9 X dX9_nothing_97
      · refine J_iload_n X dX9_nothing_30 (i := 2) rfl rfl ?_
        refine J_if_ne X (tgt := 38) dX9_nothing_31 (by decide) ?_ ?_
        · refine J_iconst X (v := (0 : Int32)) dX9_nothing_34 (by decide) ?_
          refine J_goto X (tgt := 40) dX9_nothing_35 (by decide) ?_
          exact T_iret wS5 X dX9_nothing_40
        · refine J_bipush X (v := (-2 : Int32)) dX9_nothing_38 (by decide) ?_
          exact T_iret wS5 X dX9_nothing_40
theorem C_X9_nothing (G : GG) (v0 : Nat) (kv0 : KA (gD G) v0 (0, 9)) (v1 : Int32) (v2 : Int32) (S : St) : CM G yX9_nothing cX9_nothing 3 (some .int) 5 [.ref v0, .int v1, .int v2] S (fun v : Int32 => some (.int v)) (f_X9_nothing v0 v1 v2 S) :=
  CM_of (by decide) (Nat.le_of_ble_eq_true rfl) rfl (fun K hG X hR w => by subst hG; exact t_X9_nothing_0 X hR v0 kv0 v1 v2 S w)
-- ==== X9_strongest
theorem hy_X9_strongest : yX9_strongest.cls ≠ "java/lang/invoke/MethodHandle" ∧ yX9_strongest.cls ≠ "java/lang/invoke/VarHandle" ∧ (parseMethodDescriptor yX9_strongest.desc).map (fun d => d.parameters.length) = some 2 := by decide +kernel
set_option maxRecDepth 20000 in
def b_X9_strongest_104 (q29 : Nat → Int32 → Int32 → Int32 → Int32 → Int32 → St → Option (Int32 × St)) (v0 : Nat) (v1 : Int32) (v2 : Int32) (v3 : Int32) (v4 : Int32) (v5 : Int32) (S : St) : Option (Int32 × St) := nm (v5 + (1 : Int32)) fun x1 => q29 v0 v1 v2 v3 v4 x1 S
set_option maxRecDepth 20000 in
theorem t_X9_strongest_104 {K : KK} (X : CX K cX9_strongest 7 RX9 (some .int)) (hR : kR K = rmD 4) {q29 : Nat → Int32 → Int32 → Int32 → Int32 → Int32 → St → Option (Int32 × St)} (hq29 : ∀ (v0 : Nat) (kv0 : KA (kDn K) v0 (0, 9)) (v1 : Int32) (v2 : Int32) (v3 : Int32) (v4 : Int32) (v5 : Int32) (S : St), WT (kDn K) S.2.2 → JX K (Zm K (fun v : Int32 => some (.int v))) 29 [some (.ref v0), some (.int v1), some (.int v2), some (.int v3), some (.int v4), some (.int v5), none] [] (rwN (kN K) S) (kn K) 0 0 (q29 v0 v1 v2 v3 v4 v5 S)) (v0 : Nat) (kv0 : KA (kDn K) v0 (0, 9)) (v1 : Int32) (v2 : Int32) (v3 : Int32) (v4 : Int32) (v5 : Int32) (S : St) (w : WT (kDn K) S.2.2) : JX K (Zm K (fun v : Int32 => some (.int v))) 104 [some (.ref v0), some (.int v1), some (.int v2), some (.int v3), some (.int v4), some (.int v5), none] [] (rwN (kN K) S) (kn K) 0 0 (b_X9_strongest_104 q29 v0 v1 v2 v3 v4 v5 S) := by
  unfold b_X9_strongest_104
  refine J_nmv (v5 + (1 : Int32)) (fun x1 ex1 => ?_)
  refine J_iinc X (v := x1) (ls' := [some (.ref v0), some (.int v1), some (.int v2), some (.int v3), some (.int v4), some (.int x1), none]) dX9_strongest_104 (by decide) rfl (by rw [ex1]; rfl) rfl ?_
  refine J_goto X (tgt := 29) dX9_strongest_107 (by decide) ?_
  exact hq29 v0 kv0 v1 v2 v3 v4 x1 S w
set_option maxRecDepth 20000 in
def b_X9_strongest_29 : Nat → Nat → Int32 → Int32 → Int32 → Int32 → Int32 → St → Option (Int32 × St)
  | 0, _, _, _, _, _, _, _ => none
  | fu + 1, v0, v1, v2, v3, v4, v5, S => if (S.1 (S.2.2 v0 3) 2) ≤ v5 then (if v2 = 0 then (some (v3, S)) else (some (v4, S))) else (bd (f_X5_isWorn (S.2.2 v0 5) v5 v1 S) fun r2 S1 => if r2 = 0 then (b_X9_strongest_104 (b_X9_strongest_29 fu) v0 v1 v2 v3 v4 v5 S1) else ((ix ((16 : Int32) + v1) 36).bind fun j3 => (ix ((22 : Int32) + v1) 36).bind fun j4 => bd (f_X8_pullAt (S1.2.2 v0 7) v5 v1 (S1.1 (S1.2.2 (S1.2.2 v0 5) 0) j3) (S1.1 (S1.2.2 (S1.2.2 v0 5) 0) j4) S1) fun r6 S5 => if r6 ≤ v4 then (b_X9_strongest_104 (b_X9_strongest_29 fu) v0 v1 v2 v3 v4 v5 S5) else (b_X9_strongest_104 (b_X9_strongest_29 fu) v0 v1 v2 v5 r6 v5 S5)))
set_option maxRecDepth 20000 in
theorem t_X9_strongest_29 {K : KK} (X : CX K cX9_strongest 7 RX9 (some .int)) (hR : kR K = rmD 4) : ∀ (fu : Nat) (v0 : Nat) (kv0 : KA (kDn K) v0 (0, 9)) (v1 : Int32) (v2 : Int32) (v3 : Int32) (v4 : Int32) (v5 : Int32) (S : St), WT (kDn K) S.2.2 → JX K (Zm K (fun v : Int32 => some (.int v))) 29 [some (.ref v0), some (.int v1), some (.int v2), some (.int v3), some (.int v4), some (.int v5), none] [] (rwN (kN K) S) (kn K) 0 0 (b_X9_strongest_29 fu v0 v1 v2 v3 v4 v5 S) := by
  intro fu
  induction fu with
  | zero => intro v0 kv0 v1 v2 v3 v4 v5 S w; exact J_none
  | succ fu ih =>
    intro v0 kv0 v1 v2 v3 v4 v5 S w
    rw [b_X9_strongest_29]
    refine J_iload X dX9_strongest_29 rfl ?_
    refine J_aload_n X dX9_strongest_31 (i := 0) rfl rfl ?_
    refine T_getR X (kf := 3) cb9 kv0 (by decide) fl_X9_16 (fun _ _ _ => rfl) dX9_strongest_32 ?_
    refine T_getI X (kf := 2) cb0 (w.1 _ _ kv0 3 _ rfl) (by decide) fl_X9_118 (fun _ _ _ => rfl) dX9_strongest_35 ?_
    refine J_icmp_ge X (tgt := 110) dX9_strongest_38 (by decide) ?_ ?_
    · refine J_iload_n X dX9_strongest_110 (i := 2) rfl rfl ?_
      refine J_if_ne X (tgt := 118) dX9_strongest_111 (by decide) ?_ ?_
      · refine J_iload_n X dX9_strongest_114 (i := 3) rfl rfl ?_
        refine J_goto X (tgt := 120) dX9_strongest_115 (by decide) ?_
        exact T_iret w X dX9_strongest_120
      · refine J_iload X dX9_strongest_118 rfl ?_
        exact T_iret w X dX9_strongest_120
    · refine J_aload_n X dX9_strongest_41 (i := 0) rfl rfl ?_
      refine T_getR X (kf := 5) cb9 kv0 (by decide) fl_X9_35 (fun _ _ _ => rfl) dX9_strongest_42 ?_
      refine J_iload X dX9_strongest_45 rfl ?_
      refine J_iload_n X dX9_strongest_47 (i := 1) rfl rfl ?_
      refine T_callV (As := [.int v5, .int v1]) w X (C_X5_isWorn (kG K) (S.2.2 v0 5) (w.1 _ _ kv0 5 _ rfl) v5 v1 S) cb5 (w.1 _ _ kv0 5 _ rfl) ml_X9_265 in_yX5_isWorn se_yX5_isWorn ii_RX5 co_yX5_isWorn hy_X5_isWorn (hRd hR (by decide) (by decide)) rfl (Nat.le_of_ble_eq_true rfl) dX9_strongest_48 (fun r2 S1 _ wS1 => ?_)
      refine J_if_eq X (tgt := 104) dX9_strongest_51 (by decide) ?_ ?_
      · exact t_X9_strongest_104 X hR ih v0 kv0 v1 v2 v3 v4 v5 S1 wS1
      · refine J_aload_n X dX9_strongest_54 (i := 0) rfl rfl ?_
        refine T_getR X (kf := 7) cb9 kv0 (by decide) fl_X9_47 (fun _ _ _ => rfl) dX9_strongest_55 ?_
        refine J_iload X dX9_strongest_58 rfl ?_
        refine J_iload_n X dX9_strongest_60 (i := 1) rfl rfl ?_
        refine J_aload_n X dX9_strongest_61 (i := 0) rfl rfl ?_
        refine T_getR X (kf := 5) cb9 kv0 (by decide) fl_X9_35 (fun _ _ _ => rfl) dX9_strongest_62 ?_
        refine T_getR X (kf := 0) cb5 (wS1.1 _ _ kv0 5 _ rfl) (by decide) fl_X9_125 (fun _ _ _ => rfl) dX9_strongest_65 ?_
        refine J_bipush X (v := (16 : Int32)) dX9_strongest_68 (by decide) ?_
        refine J_iload_n X dX9_strongest_70 (i := 1) rfl rfl ?_
        refine J_iadd X dX9_strongest_71 ?_
        refine T_iald X (wS1.1 _ _ (wS1.1 _ _ kv0 5 _ rfl) 0 _ rfl) dX9_strongest_72 (fun j3 => ?_)
        refine J_aload_n X dX9_strongest_73 (i := 0) rfl rfl ?_
        refine T_getR X (kf := 5) cb9 kv0 (by decide) fl_X9_35 (fun _ _ _ => rfl) dX9_strongest_74 ?_
        refine T_getR X (kf := 0) cb5 (wS1.1 _ _ kv0 5 _ rfl) (by decide) fl_X9_125 (fun _ _ _ => rfl) dX9_strongest_77 ?_
        refine J_bipush X (v := (22 : Int32)) dX9_strongest_80 (by decide) ?_
        refine J_iload_n X dX9_strongest_82 (i := 1) rfl rfl ?_
        refine J_iadd X dX9_strongest_83 ?_
        refine T_iald X (wS1.1 _ _ (wS1.1 _ _ kv0 5 _ rfl) 0 _ rfl) dX9_strongest_84 (fun j4 => ?_)
        refine T_callV (As := [.int v5, .int v1, .int (S1.1 (S1.2.2 (S1.2.2 v0 5) 0) j3), .int (S1.1 (S1.2.2 (S1.2.2 v0 5) 0) j4)]) wS1 X (C_X8_pullAt (kG K) (S1.2.2 v0 7) (wS1.1 _ _ kv0 7 _ rfl) v5 v1 (S1.1 (S1.2.2 (S1.2.2 v0 5) 0) j3) (S1.1 (S1.2.2 (S1.2.2 v0 5) 0) j4) S1) cb8 (wS1.1 _ _ kv0 7 _ rfl) ml_X9_175 in_yX8_pullAt se_yX8_pullAt ii_RX8 co_yX8_pullAt hy_X8_pullAt (hRd hR (by decide) (by decide)) rfl (Nat.le_of_ble_eq_true rfl) dX9_strongest_85 (fun r6 S5 _ wS5 => ?_)
        refine J_istore X (ls' := [some (.ref v0), some (.int v1), some (.int v2), some (.int v3), some (.int v4), some (.int v5), some (.int r6)]) dX9_strongest_88 (by decide) rfl ?_
        refine J_iload X dX9_strongest_90 rfl ?_
        refine J_iload X dX9_strongest_92 rfl ?_
        refine J_icmp_le X (tgt := 104) dX9_strongest_94 (by decide) ?_ ?_
        · refine J_mask [true, true, true, true, true, true, false] ?_
          exact t_X9_strongest_104 X hR ih v0 kv0 v1 v2 v3 v4 v5 S5 wS5
        · refine J_iload X dX9_strongest_97 rfl ?_
          refine J_istore X (ls' := [some (.ref v0), some (.int v1), some (.int v2), some (.int v3), some (.int r6), some (.int v5), some (.int r6)]) dX9_strongest_99 (by decide) rfl ?_
          refine J_iload X dX9_strongest_101 rfl ?_
          refine J_istore_n X (i := 3) (ls' := [some (.ref v0), some (.int v1), some (.int v2), some (.int v5), some (.int r6), some (.int v5), some (.int r6)]) dX9_strongest_103 rfl (by decide) rfl ?_
          refine J_mask [true, true, true, true, true, true, false] ?_
          exact t_X9_strongest_104 X hR ih v0 kv0 v1 v2 v5 r6 v5 S5 wS5
set_option maxRecDepth 20000 in
def f_X9_strongest (v0 : Nat) (v1 : Int32) (v2 : Int32) (S : St) : Option (Int32 × St) := bd (f_X9_isPerson v0 v1 S) fun r2 S1 => if r2 = 0 then (some ((-1 : Int32), S1)) else (bd (f_X9_isWithin v2 (0 : Int32) (1 : Int32) S1) fun r4 S3 => if r4 = 0 then (some ((-1 : Int32), S3)) else (b_X9_strongest_29 FU v0 v1 v2 (-2 : Int32) (-2 : Int32) (0 : Int32) S3))
set_option maxRecDepth 20000 in
theorem t_X9_strongest_0 {K : KK} (X : CX K cX9_strongest 7 RX9 (some .int)) (hR : kR K = rmD 4) (v0 : Nat) (kv0 : KA (kDn K) v0 (0, 9)) (v1 : Int32) (v2 : Int32) (S : St) (w : WT (kDn K) S.2.2) : JX K (Zm K (fun v : Int32 => some (.int v))) 0 [some (.ref v0), some (.int v1), some (.int v2), none, none, none, none] [] (rwN (kN K) S) (kn K) 0 0 (f_X9_strongest v0 v1 v2 S) := by
  unfold f_X9_strongest
  refine J_aload_n X dX9_strongest_0 (i := 0) rfl rfl ?_
  refine J_iload_n X dX9_strongest_1 (i := 1) rfl rfl ?_
  refine T_callV (As := [.int v1]) w X (C_X9_isPerson (kG K) v0 kv0 v1 S) cb9 kv0 ml_X9_132 in_yX9_isPerson se_yX9_isPerson ii_RX9 co_yX9_isPerson hy_X9_isPerson (hRd hR (by decide) (by decide)) rfl (Nat.le_of_ble_eq_true rfl) dX9_strongest_2 (fun r2 S1 _ wS1 => ?_)
  refine J_if_eq X (tgt := 17) dX9_strongest_5 (by decide) ?_ ?_
  · refine J_iconst X (v := (-1 : Int32)) dX9_strongest_17 (by decide) ?_
    exact T_iret wS1 X dX9_strongest_18
  · refine J_iload_n X dX9_strongest_8 (i := 2) rfl rfl ?_
    refine J_iconst X (v := (0 : Int32)) dX9_strongest_9 (by decide) ?_
    refine J_iconst X (v := (1 : Int32)) dX9_strongest_10 (by decide) ?_
    refine T_callS (As := [.int v2, .int (0 : Int32), .int (1 : Int32)]) wS1 X (C_X9_isWithin (kG K) v2 (0 : Int32) (1 : Int32) S1) ml_X9_224 st_yX9_isWithin ii_RX9 co_yX9_isWithin hy_X9_isWithin (hRd hR (by decide) (by decide)) rfl (Nat.le_of_ble_eq_true rfl) dX9_strongest_11 (fun r4 S3 _ wS3 => ?_)
    refine J_if_ne X (tgt := 19) dX9_strongest_14 (by decide) ?_ ?_
    · refine J_iconst X (v := (-1 : Int32)) dX9_strongest_17 (by decide) ?_
      exact T_iret wS3 X dX9_strongest_18
    · refine J_bipush X (v := (-2 : Int32)) dX9_strongest_19 (by decide) ?_
      refine J_istore_n X (i := 3) (ls' := [some (.ref v0), some (.int v1), some (.int v2), some (.int (-2 : Int32)), none, none, none]) dX9_strongest_21 rfl (by decide) rfl ?_
      refine J_bipush X (v := (-2 : Int32)) dX9_strongest_22 (by decide) ?_
      refine J_istore X (ls' := [some (.ref v0), some (.int v1), some (.int v2), some (.int (-2 : Int32)), some (.int (-2 : Int32)), none, none]) dX9_strongest_24 (by decide) rfl ?_
      refine J_iconst X (v := (0 : Int32)) dX9_strongest_26 (by decide) ?_
      refine J_istore X (ls' := [some (.ref v0), some (.int v1), some (.int v2), some (.int (-2 : Int32)), some (.int (-2 : Int32)), some (.int (0 : Int32)), none]) dX9_strongest_27 (by decide) rfl ?_
      exact t_X9_strongest_29 X hR FU v0 kv0 v1 v2 (-2 : Int32) (-2 : Int32) (0 : Int32) S3 wS3
theorem C_X9_strongest (G : GG) (v0 : Nat) (kv0 : KA (gD G) v0 (0, 9)) (v1 : Int32) (v2 : Int32) (S : St) : CM G yX9_strongest cX9_strongest 7 (some .int) 4 [.ref v0, .int v1, .int v2] S (fun v : Int32 => some (.int v)) (f_X9_strongest v0 v1 v2 S) :=
  CM_of (by decide) (Nat.le_of_ble_eq_true rfl) rfl (fun K hG X hR w => by subst hG; exact t_X9_strongest_0 X hR v0 kv0 v1 v2 S w)

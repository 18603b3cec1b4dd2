-- ==== X10_surest
theorem hy_X10_surest : yX10_surest.cls ≠ "java/lang/invoke/MethodHandle" ∧ yX10_surest.cls ≠ "java/lang/invoke/VarHandle" ∧ (parseMethodDescriptor yX10_surest.desc).map (fun d => d.parameters.length) = some 1 := by decide +kernel
set_option maxRecDepth 20000 in
def b_X10_surest_16 : Nat → Nat → Int32 → Int32 → St → Option (Int32 × St)
  | 0, _, _, _, _ => none
  | fu + 1, v0, v1, v2, S => if (100 : Int32) ≤ v2 then (some ((-2 : Int32), S)) else (bd (f_X10_isSo v0 v2 v1 S) fun r2 S1 => if r2 = 0 then (nm (v2 + (1 : Int32)) fun x3 => b_X10_surest_16 fu v0 v1 x3 S1) else (some (v2, S1)))
set_option maxRecDepth 20000 in
theorem t_X10_surest_16 {K : KK} (X : CX K cX10_surest 3 RX10 (some .int)) (hR : kR K = rmD 2) : ∀ (fu : Nat) (v0 : Nat) (kv0 : KA (kDn K) v0 (0, 10)) (v1 : Int32) (v2 : Int32) (S : St), WT (kDn K) S.2.2 → JX K (Zm K (fun v : Int32 => some (.int v))) 16 [some (.ref v0), some (.int v1), some (.int v2)] [] (rwN (kN K) S) (kn K) 0 0 (b_X10_surest_16 fu v0 v1 v2 S) := by
  intro fu
  induction fu with
  | zero => intro v0 kv0 v1 v2 S w; exact J_none
  | succ fu ih =>
    intro v0 kv0 v1 v2 S w
    rw [b_X10_surest_16]
    refine J_iload_n X dX10_surest_16 (i := 2) rfl rfl ?_
    refine J_bipush X (v := (100 : Int32)) dX10_surest_17 (by decide) ?_
    refine J_icmp_ge X (tgt := 39) dX10_surest_19 (by decide) ?_ ?_
    · refine J_bipush X (v := (-2 : Int32)) dX10_surest_39 (by decide) ?_
      exact T_iret w X dX10_surest_41
    · refine J_aload_n X dX10_surest_22 (i := 0) rfl rfl ?_
      refine J_iload_n X dX10_surest_23 (i := 2) rfl rfl ?_
      refine J_iload_n X dX10_surest_24 (i := 1) rfl rfl ?_
      refine T_callV (As := [.int v2, .int v1]) w X (C_X10_isSo (kG K) v0 kv0 v2 v1 S) cb10 kv0 ml_X10_474 in_yX10_isSo se_yX10_isSo ii_RX10 co_yX10_isSo hy_X10_isSo (hRd hR (by decide) (by decide)) rfl (Nat.le_of_ble_eq_true rfl) dX10_surest_25 (fun r2 S1 _ wS1 => ?_)
      refine J_if_eq X (tgt := 33) dX10_surest_28 (by decide) ?_ ?_
      · refine J_nmv (v2 + (1 : Int32)) (fun x3 ex3 => ?_)
        refine J_iinc X (v := x3) (ls' := [some (.ref v0), some (.int v1), some (.int x3)]) dX10_surest_33 (by decide) rfl (by rw [ex3]; rfl) rfl ?_
        refine J_goto X (tgt := 16) dX10_surest_36 (by decide) ?_
        exact ih v0 kv0 v1 x3 S1 wS1
      · refine J_iload_n X dX10_surest_31 (i := 2) rfl rfl ?_
        exact T_iret wS1 X dX10_surest_32
set_option maxRecDepth 20000 in
def f_X10_surest (v0 : Nat) (v1 : Int32) (S : St) : Option (Int32 × St) := bd (f_X10_in v1 (0 : Int32) (S.1 v0 64) S) fun r2 S1 => if r2 = 0 then (some ((-1 : Int32), S1)) else (b_X10_surest_16 FU v0 v1 (0 : Int32) S1)
set_option maxRecDepth 20000 in
theorem t_X10_surest_0 {K : KK} (X : CX K cX10_surest 3 RX10 (some .int)) (hR : kR K = rmD 2) (v0 : Nat) (kv0 : KA (kDn K) v0 (0, 10)) (v1 : Int32) (S : St) (w : WT (kDn K) S.2.2) : JX K (Zm K (fun v : Int32 => some (.int v))) 0 [some (.ref v0), some (.int v1), none] [] (rwN (kN K) S) (kn K) 0 0 (f_X10_surest v0 v1 S) := by
  unfold f_X10_surest
  refine J_iload_n X dX10_surest_0 (i := 1) rfl rfl ?_
  refine J_iconst X (v := (0 : Int32)) dX10_surest_1 (by decide) ?_
  refine J_aload_n X dX10_surest_2 (i := 0) rfl rfl ?_
  refine T_getI X (kf := 64) cb10 kv0 (by decide) fl_X10_260 (fun _ _ _ => rfl) dX10_surest_3 ?_
  refine T_callS (As := [.int v1, .int (0 : Int32), .int (S.1 v0 64)]) w X (C_X10_in (kG K) v1 (0 : Int32) (S.1 v0 64) S) ml_X10_325 st_yX10_in ii_RX10 co_yX10_in hy_X10_in (hRd hR (by decide) (by decide)) rfl (Nat.le_of_ble_eq_true rfl) dX10_surest_6 (fun r2 S1 _ wS1 => ?_)
  refine J_if_ne X (tgt := 14) dX10_surest_9 (by decide) ?_ ?_
  · refine J_iconst X (v := (-1 : Int32)) dX10_surest_12 (by decide) ?_
    exact T_iret wS1 X dX10_surest_13
  · refine J_iconst X (v := (0 : Int32)) dX10_surest_14 (by decide) ?_
    refine J_istore_n X (i := 2) (ls' := [some (.ref v0), some (.int v1), some (.int (0 : Int32))]) dX10_surest_15 rfl (by decide) rfl ?_
    exact t_X10_surest_16 X hR FU v0 kv0 v1 (0 : Int32) S1 wS1
theorem C_X10_surest (G : GG) (v0 : Nat) (kv0 : KA (gD G) v0 (0, 10)) (v1 : Int32) (S : St) : CM G yX10_surest cX10_surest 3 (some .int) 2 [.ref v0, .int v1] S (fun v : Int32 => some (.int v)) (f_X10_surest v0 v1 S) :=
  CM_of (by decide) (Nat.le_of_ble_eq_true rfl) rfl (fun K hG X hR w => by subst hG; exact t_X10_surest_0 X hR v0 kv0 v1 S w)
-- ==== X10_worstFrom
theorem hy_X10_worstFrom : yX10_worstFrom.cls ≠ "java/lang/invoke/MethodHandle" ∧ yX10_worstFrom.cls ≠ "java/lang/invoke/VarHandle" ∧ (parseMethodDescriptor yX10_worstFrom.desc).map (fun d => d.parameters.length) = some 2 := by decide +kernel
set_option maxRecDepth 20000 in
def b_X10_worstFrom_109 (q26 : Nat → Int32 → Int32 → Int32 → Int32 → St → Option (Int32 × St)) (v0 : Nat) (v1 : Int32) (v2 : Int32) (v3 : Int32) (v4 : Int32) (S : St) : Option (Int32 × St) := nm (v4 + (1 : Int32)) fun x1 => q26 v0 v1 v2 v3 x1 S
set_option maxRecDepth 20000 in
theorem t_X10_worstFrom_109 {K : KK} (X : CX K cX10_worstFrom 6 RX10 (some .int)) (hR : kR K = rmD 2) {q26 : Nat → Int32 → Int32 → Int32 → Int32 → St → Option (Int32 × St)} (hq26 : ∀ (v0 : Nat) (kv0 : KA (kDn K) v0 (0, 10)) (v1 : Int32) (v2 : Int32) (v3 : Int32) (v4 : Int32) (S : St), WT (kDn K) S.2.2 → JX K (Zm K (fun v : Int32 => some (.int v))) 26 [some (.ref v0), some (.int v1), some (.int v2), some (.int v3), some (.int v4), none] [] (rwN (kN K) S) (kn K) 0 0 (q26 v0 v1 v2 v3 v4 S)) (v0 : Nat) (kv0 : KA (kDn K) v0 (0, 10)) (v1 : Int32) (v2 : Int32) (v3 : Int32) (v4 : Int32) (S : St) (w : WT (kDn K) S.2.2) : JX K (Zm K (fun v : Int32 => some (.int v))) 109 [some (.ref v0), some (.int v1), some (.int v2), some (.int v3), some (.int v4), none] [] (rwN (kN K) S) (kn K) 0 0 (b_X10_worstFrom_109 q26 v0 v1 v2 v3 v4 S) := by
  unfold b_X10_worstFrom_109
  refine J_nmv (v4 + (1 : Int32)) (fun x1 ex1 => ?_)
  refine J_iinc X (v := x1) (ls' := [some (.ref v0), some (.int v1), some (.int v2), some (.int v3), some (.int x1), none]) dX10_worstFrom_109 (by decide) rfl (by rw [ex1]; rfl) rfl ?_
  refine J_goto X (tgt := 26) dX10_worstFrom_112 (by decide) ?_
  exact hq26 v0 kv0 v1 v2 v3 x1 S w
set_option maxRecDepth 20000 in
def b_X10_worstFrom_26 : Nat → Nat → Int32 → Int32 → Int32 → Int32 → St → Option (Int32 × St)
  | 0, _, _, _, _, _, _ => none
  | fu + 1, v0, v1, v2, v3, v4, S => if (100 : Int32) ≤ v4 then (some (v3, S)) else (bd (f_X10_isSo v0 v4 v2 S) fun r2 S1 => if r2 = 0 then (b_X10_worstFrom_109 (b_X10_worstFrom_26 fu) v0 v1 v2 v3 v4 S1) else (bd (f_X10_signOf ((v4 - v4 / (10 : Int32) * (10 : Int32)) - (v1 - v1 / (10 : Int32) * (10 : Int32))) S1) fun r4 S3 => bd (f_X10_signOf ((v4 / (10 : Int32)) - (v1 / (10 : Int32))) S3) fun r6 S5 => nm ((((3 : Int32) * r4) + r6) + (4 : Int32)) fun x7 => (ix x7 9).bind fun j8 => (ix x7 9).bind fun j9 => nm (sI S5 (S5.2.2 v0 68) j9 ((S5.1 (S5.2.2 v0 68) j8) + (1 : Int32))) fun S10 => (ix x7 9).bind fun j11 => if (S10.1 (S10.2.2 v0 68) j11) ≤ v3 then (b_X10_worstFrom_109 (b_X10_worstFrom_26 fu) v0 v1 v2 v3 v4 S10) else ((ix x7 9).bind fun j12 => nm (S10.1 (S10.2.2 v0 68) j12) fun x13 => b_X10_worstFrom_109 (b_X10_worstFrom_26 fu) v0 v1 v2 x13 v4 S10)))
set_option maxRecDepth 20000 in
theorem t_X10_worstFrom_26 {K : KK} (X : CX K cX10_worstFrom 6 RX10 (some .int)) (hR : kR K = rmD 2) : ∀ (fu : Nat) (v0 : Nat) (kv0 : KA (kDn K) v0 (0, 10)) (v1 : Int32) (v2 : Int32) (v3 : Int32) (v4 : Int32) (S : St), WT (kDn K) S.2.2 → JX K (Zm K (fun v : Int32 => some (.int v))) 26 [some (.ref v0), some (.int v1), some (.int v2), some (.int v3), some (.int v4), none] [] (rwN (kN K) S) (kn K) 0 0 (b_X10_worstFrom_26 fu v0 v1 v2 v3 v4 S) := by
  intro fu
  induction fu with
  | zero => intro v0 kv0 v1 v2 v3 v4 S w; exact J_none
  | succ fu ih =>
    intro v0 kv0 v1 v2 v3 v4 S w
    rw [b_X10_worstFrom_26]
    refine J_iload X dX10_worstFrom_26 rfl ?_
    refine J_bipush X (v := (100 : Int32)) dX10_worstFrom_28 (by decide) ?_
    refine J_icmp_ge X (tgt := 115) dX10_worstFrom_30 (by decide) ?_ ?_
    · refine J_iload_n X dX10_worstFrom_115 (i := 3) rfl rfl ?_
      exact T_iret w X dX10_worstFrom_116
    · refine J_aload_n X dX10_worstFrom_33 (i := 0) rfl rfl ?_
      refine J_iload X dX10_worstFrom_34 rfl ?_
      refine J_iload_n X dX10_worstFrom_36 (i := 2) rfl rfl ?_
      refine T_callV (As := [.int v4, .int v2]) w X (C_X10_isSo (kG K) v0 kv0 v4 v2 S) cb10 kv0 ml_X10_474 in_yX10_isSo se_yX10_isSo ii_RX10 co_yX10_isSo hy_X10_isSo (hRd hR (by decide) (by decide)) rfl (Nat.le_of_ble_eq_true rfl) dX10_worstFrom_37 (fun r2 S1 _ wS1 => ?_)
      refine J_if_ne X (tgt := 46) dX10_worstFrom_40 (by decide) ?_ ?_
      · refine J_goto X (tgt := 109) dX10_worstFrom_43 (by decide) ?_
        exact t_X10_worstFrom_109 X hR ih v0 kv0 v1 v2 v3 v4 S1 wS1
      · refine J_iconst X (v := (3 : Int32)) dX10_worstFrom_46 (by decide) ?_
        refine J_iload X dX10_worstFrom_47 rfl ?_
        refine J_bipush X (v := (10 : Int32)) dX10_worstFrom_49 (by decide) ?_
        refine J_iremc X dX10_worstFrom_51 (by decide) ?_
        refine J_iload_n X dX10_worstFrom_52 (i := 1) rfl rfl ?_
        refine J_bipush X (v := (10 : Int32)) dX10_worstFrom_53 (by decide) ?_
        refine J_iremc X dX10_worstFrom_55 (by decide) ?_
        refine J_isub X dX10_worstFrom_56 ?_
        refine T_callS (As := [.int ((v4 - v4 / (10 : Int32) * (10 : Int32)) - (v1 - v1 / (10 : Int32) * (10 : Int32)))]) wS1 X (C_X10_signOf (kG K) ((v4 - v4 / (10 : Int32) * (10 : Int32)) - (v1 - v1 / (10 : Int32) * (10 : Int32))) S1) ml_X10_382 st_yX10_signOf ii_RX10 co_yX10_signOf hy_X10_signOf (hRd hR (by decide) (by decide)) rfl (Nat.le_of_ble_eq_true rfl) dX10_worstFrom_57 (fun r4 S3 _ wS3 => ?_)
        refine J_imul X dX10_worstFrom_60 ?_
        refine J_iload X dX10_worstFrom_61 rfl ?_
        refine J_bipush X (v := (10 : Int32)) dX10_worstFrom_63 (by decide) ?_
        refine J_idivc X dX10_worstFrom_65 (by decide) ?_
        refine J_iload_n X dX10_worstFrom_66 (i := 1) rfl rfl ?_
        refine J_bipush X (v := (10 : Int32)) dX10_worstFrom_67 (by decide) ?_
        refine J_idivc X dX10_worstFrom_69 (by decide) ?_
        refine J_isub X dX10_worstFrom_70 ?_
        refine T_callS (As := [.int ((v4 / (10 : Int32)) - (v1 / (10 : Int32)))]) wS3 X (C_X10_signOf (kG K) ((v4 / (10 : Int32)) - (v1 / (10 : Int32))) S3) ml_X10_382 st_yX10_signOf ii_RX10 co_yX10_signOf hy_X10_signOf (hRd hR (by decide) (by decide)) rfl (Nat.le_of_ble_eq_true rfl) dX10_worstFrom_71 (fun r6 S5 _ wS5 => ?_)
        refine J_iadd X dX10_worstFrom_74 ?_
        refine J_iconst X (v := (4 : Int32)) dX10_worstFrom_75 (by decide) ?_
        refine J_iadd X dX10_worstFrom_76 ?_
        refine J_nmi (fun x7 => ?_)
        refine J_istore X (ls' := [some (.ref v0), some (.int v1), some (.int v2), some (.int v3), some (.int v4), some (.int x7)]) dX10_worstFrom_77 (by decide) rfl ?_
        refine J_aload_n X dX10_worstFrom_79 (i := 0) rfl rfl ?_
        refine T_getR X (kf := 68) cb10 kv0 (by decide) fl_X10_149 (fun _ _ _ => rfl) dX10_worstFrom_80 ?_
        refine J_iload X dX10_worstFrom_83 rfl ?_
        refine J_dup2 X dX10_worstFrom_85 rfl rfl ?_
        refine T_iald X (wS5.1 _ _ kv0 68 _ rfl) dX10_worstFrom_86 (fun j8 => ?_)
        refine J_iconst X (v := (1 : Int32)) dX10_worstFrom_87 (by decide) ?_
        refine J_iadd X dX10_worstFrom_88 ?_
        refine T_iast X (wS5.1 _ _ kv0 68 _ rfl) dX10_worstFrom_89 (fun j9 S10 hS10 => ?_)
        have wS10 : WT (kDn K) S10.2.2 := by rw [hS10]; exact wS5
        clear hS10
        refine J_aload_n X dX10_worstFrom_90 (i := 0) rfl rfl ?_
        refine T_getR X (kf := 68) cb10 kv0 (by decide) fl_X10_149 (fun _ _ _ => rfl) dX10_worstFrom_91 ?_
        refine J_iload X dX10_worstFrom_94 rfl ?_
        refine T_iald X (wS10.1 _ _ kv0 68 _ rfl) dX10_worstFrom_96 (fun j11 => ?_)
        refine J_iload_n X dX10_worstFrom_97 (i := 3) rfl rfl ?_
        refine J_icmp_le X (tgt := 109) dX10_worstFrom_98 (by decide) ?_ ?_
        · refine J_mask [true, true, true, true, true, false] ?_
          exact t_X10_worstFrom_109 X hR ih v0 kv0 v1 v2 v3 v4 S10 wS10
        · refine J_aload_n X dX10_worstFrom_101 (i := 0) rfl rfl ?_
          refine T_getR X (kf := 68) cb10 kv0 (by decide) fl_X10_149 (fun _ _ _ => rfl) dX10_worstFrom_102 ?_
          refine J_iload X dX10_worstFrom_105 rfl ?_
          refine T_iald X (wS10.1 _ _ kv0 68 _ rfl) dX10_worstFrom_107 (fun j12 => ?_)
          refine J_nmi (fun x13 => ?_)
          refine J_istore_n X (i := 3) (ls' := [some (.ref v0), some (.int v1), some (.int v2), some (.int x13), some (.int v4), some (.int x7)]) dX10_worstFrom_108 rfl (by decide) rfl ?_
          refine J_mask [true, true, true, true, true, false] ?_
          exact t_X10_worstFrom_109 X hR ih v0 kv0 v1 v2 x13 v4 S10 wS10
set_option maxRecDepth 20000 in
def b_X10_worstFrom_2 : Nat → Nat → Int32 → Int32 → Int32 → St → Option (Int32 × St)
  | 0, _, _, _, _, _ => none
  | fu + 1, v0, v1, v2, v3, S => if (9 : Int32) ≤ v3 then (b_X10_worstFrom_26 FU v0 v1 v2 (0 : Int32) (0 : Int32) S) else ((ix v3 9).bind fun j1 => nm (sI S (S.2.2 v0 68) j1 (0 : Int32)) fun S2 => nm (v3 + (1 : Int32)) fun x3 => b_X10_worstFrom_2 fu v0 v1 v2 x3 S2)
set_option maxRecDepth 20000 in
theorem t_X10_worstFrom_2 {K : KK} (X : CX K cX10_worstFrom 6 RX10 (some .int)) (hR : kR K = rmD 2) : ∀ (fu : Nat) (v0 : Nat) (kv0 : KA (kDn K) v0 (0, 10)) (v1 : Int32) (v2 : Int32) (v3 : Int32) (S : St), WT (kDn K) S.2.2 → JX K (Zm K (fun v : Int32 => some (.int v))) 2 [some (.ref v0), some (.int v1), some (.int v2), some (.int v3), none, none] [] (rwN (kN K) S) (kn K) 0 0 (b_X10_worstFrom_2 fu v0 v1 v2 v3 S) := by
  intro fu
  induction fu with
  | zero => intro v0 kv0 v1 v2 v3 S w; exact J_none
  | succ fu ih =>
    intro v0 kv0 v1 v2 v3 S w
    rw [b_X10_worstFrom_2]
    refine J_iload_n X dX10_worstFrom_2 (i := 3) rfl rfl ?_
    refine J_bipush X (v := (9 : Int32)) dX10_worstFrom_3 (by decide) ?_
    refine J_icmp_ge X (tgt := 21) dX10_worstFrom_5 (by decide) ?_ ?_
    · refine J_iconst X (v := (0 : Int32)) dX10_worstFrom_21 (by decide) ?_
      refine J_istore_n X (i := 3) (ls' := [some (.ref v0), some (.int v1), some (.int v2), some (.int (0 : Int32)), none, none]) dX10_worstFrom_22 rfl (by decide) rfl ?_
      refine J_iconst X (v := (0 : Int32)) dX10_worstFrom_23 (by decide) ?_
      refine J_istore X (ls' := [some (.ref v0), some (.int v1), some (.int v2), some (.int (0 : Int32)), some (.int (0 : Int32)), none]) dX10_worstFrom_24 (by decide) rfl ?_
      exact t_X10_worstFrom_26 X hR FU v0 kv0 v1 v2 (0 : Int32) (0 : Int32) S w
    · refine J_aload_n X dX10_worstFrom_8 (i := 0) rfl rfl ?_
      refine T_getR X (kf := 68) cb10 kv0 (by decide) fl_X10_149 (fun _ _ _ => rfl) dX10_worstFrom_9 ?_
      refine J_iload_n X dX10_worstFrom_12 (i := 3) rfl rfl ?_
      refine J_iconst X (v := (0 : Int32)) dX10_worstFrom_13 (by decide) ?_
      refine T_iast X (w.1 _ _ kv0 68 _ rfl) dX10_worstFrom_14 (fun j1 S2 hS2 => ?_)
      have wS2 : WT (kDn K) S2.2.2 := by rw [hS2]; exact w
      clear hS2
      refine J_nmv (v3 + (1 : Int32)) (fun x3 ex3 => ?_)
      refine J_iinc X (v := x3) (ls' := [some (.ref v0), some (.int v1), some (.int v2), some (.int x3), none, none]) dX10_worstFrom_15 (by decide) rfl (by rw [ex3]; rfl) rfl ?_
      refine J_goto X (tgt := 2) dX10_worstFrom_18 (by decide) ?_
      exact ih v0 kv0 v1 v2 x3 S2 wS2
set_option maxRecDepth 20000 in
def f_X10_worstFrom (v0 : Nat) (v1 : Int32) (v2 : Int32) (S : St) : Option (Int32 × St) := b_X10_worstFrom_2 FU v0 v1 v2 (0 : Int32) S
set_option maxRecDepth 20000 in
theorem t_X10_worstFrom_0 {K : KK} (X : CX K cX10_worstFrom 6 RX10 (some .int)) (hR : kR K = rmD 2) (v0 : Nat) (kv0 : KA (kDn K) v0 (0, 10)) (v1 : Int32) (v2 : Int32) (S : St) (w : WT (kDn K) S.2.2) : JX K (Zm K (fun v : Int32 => some (.int v))) 0 [some (.ref v0), some (.int v1), some (.int v2), none, none, none] [] (rwN (kN K) S) (kn K) 0 0 (f_X10_worstFrom v0 v1 v2 S) := by
  unfold f_X10_worstFrom
  refine J_iconst X (v := (0 : Int32)) dX10_worstFrom_0 (by decide) ?_
  refine J_istore_n X (i := 3) (ls' := [some (.ref v0), some (.int v1), some (.int v2), some (.int (0 : Int32)), none, none]) dX10_worstFrom_1 rfl (by decide) rfl ?_
  exact t_X10_worstFrom_2 X hR FU v0 kv0 v1 v2 (0 : Int32) S w
theorem C_X10_worstFrom (G : GG) (v0 : Nat) (kv0 : KA (gD G) v0 (0, 10)) (v1 : Int32) (v2 : Int32) (S : St) : CM G yX10_worstFrom cX10_worstFrom 6 (some .int) 2 [.ref v0, .int v1, .int v2] S (fun v : Int32 => some (.int v)) (f_X10_worstFrom v0 v1 v2 S) :=
  CM_of (by decide) (Nat.le_of_ble_eq_true rfl) rfl (fun K hG X hR w => by subst hG; exact t_X10_worstFrom_0 X hR v0 kv0 v1 v2 S w)
-- ==== X10_holdNext
theorem hy_X10_holdNext : yX10_holdNext.cls ≠ "java/lang/invoke/MethodHandle" ∧ yX10_holdNext.cls ≠ "java/lang/invoke/VarHandle" ∧ (parseMethodDescriptor yX10_holdNext.desc).map (fun d => d.parameters.length) = some 1 := by decide +kernel
set_option maxRecDepth 20000 in
def b_X10_holdNext_62 (q22 : Nat → Int32 → Int32 → Int32 → Int32 → St → Option (Int32 × St)) (v0 : Nat) (v1 : Int32) (v2 : Int32) (v3 : Int32) (v4 : Int32) (S : St) : Option (Int32 × St) := nm (v4 + (1 : Int32)) fun x1 => q22 v0 v1 v2 v3 x1 S
set_option maxRecDepth 20000 in
theorem t_X10_holdNext_62 {K : KK} (X : CX K cX10_holdNext 6 RX10 (some .int)) (hR : kR K = rmD 3) {q22 : Nat → Int32 → Int32 → Int32 → Int32 → St → Option (Int32 × St)} (hq22 : ∀ (v0 : Nat) (kv0 : KA (kDn K) v0 (0, 10)) (v1 : Int32) (v2 : Int32) (v3 : Int32) (v4 : Int32) (S : St), WT (kDn K) S.2.2 → JX K (Zm K (fun v : Int32 => some (.int v))) 22 [some (.ref v0), some (.int v1), some (.int v2), some (.int v3), some (.int v4), none] [] (rwN (kN K) S) (kn K) 0 0 (q22 v0 v1 v2 v3 v4 S)) (v0 : Nat) (kv0 : KA (kDn K) v0 (0, 10)) (v1 : Int32) (v2 : Int32) (v3 : Int32) (v4 : Int32) (S : St) (w : WT (kDn K) S.2.2) : JX K (Zm K (fun v : Int32 => some (.int v))) 62 [some (.ref v0), some (.int v1), some (.int v2), some (.int v3), some (.int v4), none] [] (rwN (kN K) S) (kn K) 0 0 (b_X10_holdNext_62 q22 v0 v1 v2 v3 v4 S) := by
  unfold b_X10_holdNext_62
  refine J_nmv (v4 + (1 : Int32)) (fun x1 ex1 => ?_)
  refine J_iinc X (v := x1) (ls' := [some (.ref v0), some (.int v1), some (.int v2), some (.int v3), some (.int x1), none]) dX10_holdNext_62 (by decide) rfl (by rw [ex1]; rfl) rfl ?_
  refine J_goto X (tgt := 22) dX10_holdNext_65 (by decide) ?_
  exact hq22 v0 kv0 v1 v2 v3 x1 S w
set_option maxRecDepth 20000 in
def b_X10_holdNext_56 (q22 : Nat → Int32 → Int32 → Int32 → Int32 → St → Option (Int32 × St)) (v0 : Nat) (v1 : Int32) (v4 : Int32) (v5 : Int32) (S : St) : Option (Int32 × St) := b_X10_holdNext_62 q22 v0 v1 v4 v5 v4 S
set_option maxRecDepth 20000 in
theorem t_X10_holdNext_56 {K : KK} (X : CX K cX10_holdNext 6 RX10 (some .int)) (hR : kR K = rmD 3) {q22 : Nat → Int32 → Int32 → Int32 → Int32 → St → Option (Int32 × St)} (hq22 : ∀ (v0 : Nat) (kv0 : KA (kDn K) v0 (0, 10)) (v1 : Int32) (v2 : Int32) (v3 : Int32) (v4 : Int32) (S : St), WT (kDn K) S.2.2 → JX K (Zm K (fun v : Int32 => some (.int v))) 22 [some (.ref v0), some (.int v1), some (.int v2), some (.int v3), some (.int v4), none] [] (rwN (kN K) S) (kn K) 0 0 (q22 v0 v1 v2 v3 v4 S)) (v0 : Nat) (kv0 : KA (kDn K) v0 (0, 10)) (v1 : Int32) (v4 : Int32) (v5 : Int32) (S : St) (w : WT (kDn K) S.2.2) : JX K (Zm K (fun v : Int32 => some (.int v))) 56 [some (.ref v0), some (.int v1), none, none, some (.int v4), some (.int v5)] [] (rwN (kN K) S) (kn K) 0 0 (b_X10_holdNext_56 q22 v0 v1 v4 v5 S) := by
  unfold b_X10_holdNext_56
  refine J_iload X dX10_holdNext_56 rfl ?_
  refine J_istore_n X (i := 2) (ls' := [some (.ref v0), some (.int v1), some (.int v4), none, some (.int v4), some (.int v5)]) dX10_holdNext_58 rfl (by decide) rfl ?_
  refine J_iload X dX10_holdNext_59 rfl ?_
  refine J_istore_n X (i := 3) (ls' := [some (.ref v0), some (.int v1), some (.int v4), some (.int v5), some (.int v4), some (.int v5)]) dX10_holdNext_61 rfl (by decide) rfl ?_
  refine J_mask [true, true, true, true, true, false] ?_
  exact t_X10_holdNext_62 X hR hq22 v0 kv0 v1 v4 v5 v4 S w
set_option maxRecDepth 20000 in
def b_X10_holdNext_22 : Nat → Nat → Int32 → Int32 → Int32 → Int32 → St → Option (Int32 × St)
  | 0, _, _, _, _, _, _ => none
  | fu + 1, v0, v1, v2, v3, v4, S => if (100 : Int32) ≤ v4 then (some (v2, S)) else (bd (f_X10_worstFrom v0 v4 v1 S) fun r2 S1 => if r2 = 0 then (b_X10_holdNext_62 (b_X10_holdNext_22 fu) v0 v1 v2 v3 v4 S1) else (if v2 < 0 then (b_X10_holdNext_56 (b_X10_holdNext_22 fu) v0 v1 v4 r2 S1) else (if r2 < v3 then (b_X10_holdNext_56 (b_X10_holdNext_22 fu) v0 v1 v4 r2 S1) else (b_X10_holdNext_62 (b_X10_holdNext_22 fu) v0 v1 v2 v3 v4 S1))))
set_option maxRecDepth 20000 in
theorem t_X10_holdNext_22 {K : KK} (X : CX K cX10_holdNext 6 RX10 (some .int)) (hR : kR K = rmD 3) : ∀ (fu : Nat) (v0 : Nat) (kv0 : KA (kDn K) v0 (0, 10)) (v1 : Int32) (v2 : Int32) (v3 : Int32) (v4 : Int32) (S : St), WT (kDn K) S.2.2 → JX K (Zm K (fun v : Int32 => some (.int v))) 22 [some (.ref v0), some (.int v1), some (.int v2), some (.int v3), some (.int v4), none] [] (rwN (kN K) S) (kn K) 0 0 (b_X10_holdNext_22 fu v0 v1 v2 v3 v4 S) := by
  intro fu
  induction fu with
  | zero => intro v0 kv0 v1 v2 v3 v4 S w; exact J_none
  | succ fu ih =>
    intro v0 kv0 v1 v2 v3 v4 S w
    rw [b_X10_holdNext_22]
    refine J_iload X dX10_holdNext_22 rfl ?_
    refine J_bipush X (v := (100 : Int32)) dX10_holdNext_24 (by decide) ?_
    refine J_icmp_ge X (tgt := 68) dX10_holdNext_26 (by decide) ?_ ?_
    · refine J_iload_n X dX10_holdNext_68 (i := 2) rfl rfl ?_
      exact T_iret w X dX10_holdNext_69
    · refine J_aload_n X dX10_holdNext_29 (i := 0) rfl rfl ?_
      refine J_iload X dX10_holdNext_30 rfl ?_
      refine J_iload_n X dX10_holdNext_32 (i := 1) rfl rfl ?_
      refine T_callV (As := [.int v4, .int v1]) w X (C_X10_worstFrom (kG K) v0 kv0 v4 v1 S) cb10 kv0 ml_X10_478 in_yX10_worstFrom se_yX10_worstFrom ii_RX10 co_yX10_worstFrom hy_X10_worstFrom (hRd hR (by decide) (by decide)) rfl (Nat.le_of_ble_eq_true rfl) dX10_holdNext_33 (fun r2 S1 _ wS1 => ?_)
      refine J_istore X (ls' := [some (.ref v0), some (.int v1), some (.int v2), some (.int v3), some (.int v4), some (.int r2)]) dX10_holdNext_36 (by decide) rfl ?_
      refine J_iload X dX10_holdNext_38 rfl ?_
      refine J_if_eq X (tgt := 62) dX10_holdNext_40 (by decide) ?_ ?_
      · refine J_mask [true, true, true, true, true, false] ?_
        exact t_X10_holdNext_62 X hR ih v0 kv0 v1 v2 v3 v4 S1 wS1
      · refine J_iload_n X dX10_holdNext_43 (i := 2) rfl rfl ?_
        refine J_if_lt X (tgt := 56) dX10_holdNext_44 (by decide) ?_ ?_
        · refine J_mask [true, true, false, false, true, true] ?_
          exact t_X10_holdNext_56 X hR ih v0 kv0 v1 v4 r2 S1 wS1
        · refine J_iload X dX10_holdNext_47 rfl ?_
          refine J_iload_n X dX10_holdNext_49 (i := 3) rfl rfl ?_
          refine J_icmp_lt X (tgt := 56) dX10_holdNext_50 (by decide) ?_ ?_
          · refine J_mask [true, true, false, false, true, true] ?_
            exact t_X10_holdNext_56 X hR ih v0 kv0 v1 v4 r2 S1 wS1
          · refine J_goto X (tgt := 62) dX10_holdNext_53 (by decide) ?_
            refine J_mask [true, true, true, true, true, false] ?_
            exact t_X10_holdNext_62 X hR ih v0 kv0 v1 v2 v3 v4 S1 wS1
set_option maxRecDepth 20000 in
def f_X10_holdNext (v0 : Nat) (v1 : Int32) (S : St) : Option (Int32 × St) := bd (f_X10_in v1 (0 : Int32) (S.1 v0 64) S) fun r2 S1 => if r2 = 0 then (some ((-1 : Int32), S1)) else (b_X10_holdNext_22 FU v0 v1 (-2 : Int32) (0 : Int32) (0 : Int32) S1)
set_option maxRecDepth 20000 in
theorem t_X10_holdNext_0 {K : KK} (X : CX K cX10_holdNext 6 RX10 (some .int)) (hR : kR K = rmD 3) (v0 : Nat) (kv0 : KA (kDn K) v0 (0, 10)) (v1 : Int32) (S : St) (w : WT (kDn K) S.2.2) : JX K (Zm K (fun v : Int32 => some (.int v))) 0 [some (.ref v0), some (.int v1), none, none, none, none] [] (rwN (kN K) S) (kn K) 0 0 (f_X10_holdNext v0 v1 S) := by
  unfold f_X10_holdNext
  refine J_iload_n X dX10_holdNext_0 (i := 1) rfl rfl ?_
  refine J_iconst X (v := (0 : Int32)) dX10_holdNext_1 (by decide) ?_
  refine J_aload_n X dX10_holdNext_2 (i := 0) rfl rfl ?_
  refine T_getI X (kf := 64) cb10 kv0 (by decide) fl_X10_260 (fun _ _ _ => rfl) dX10_holdNext_3 ?_
  refine T_callS (As := [.int v1, .int (0 : Int32), .int (S.1 v0 64)]) w X (C_X10_in (kG K) v1 (0 : Int32) (S.1 v0 64) S) ml_X10_325 st_yX10_in ii_RX10 co_yX10_in hy_X10_in (hRd hR (by decide) (by decide)) rfl (Nat.le_of_ble_eq_true rfl) dX10_holdNext_6 (fun r2 S1 _ wS1 => ?_)
  refine J_if_ne X (tgt := 14) dX10_holdNext_9 (by decide) ?_ ?_
  · refine J_iconst X (v := (-1 : Int32)) dX10_holdNext_12 (by decide) ?_
    exact T_iret wS1 X dX10_holdNext_13
  · refine J_bipush X (v := (-2 : Int32)) dX10_holdNext_14 (by decide) ?_
    refine J_istore_n X (i := 2) (ls' := [some (.ref v0), some (.int v1), some (.int (-2 : Int32)), none, none, none]) dX10_holdNext_16 rfl (by decide) rfl ?_
    refine J_iconst X (v := (0 : Int32)) dX10_holdNext_17 (by decide) ?_
    refine J_istore_n X (i := 3) (ls' := [some (.ref v0), some (.int v1), some (.int (-2 : Int32)), some (.int (0 : Int32)), none, none]) dX10_holdNext_18 rfl (by decide) rfl ?_
    refine J_iconst X (v := (0 : Int32)) dX10_holdNext_19 (by decide) ?_
    refine J_istore X (ls' := [some (.ref v0), some (.int v1), some (.int (-2 : Int32)), some (.int (0 : Int32)), some (.int (0 : Int32)), none]) dX10_holdNext_20 (by decide) rfl ?_
    exact t_X10_holdNext_22 X hR FU v0 kv0 v1 (-2 : Int32) (0 : Int32) (0 : Int32) S1 wS1
theorem C_X10_holdNext (G : GG) (v0 : Nat) (kv0 : KA (gD G) v0 (0, 10)) (v1 : Int32) (S : St) : CM G yX10_holdNext cX10_holdNext 6 (some .int) 3 [.ref v0, .int v1] S (fun v : Int32 => some (.int v)) (f_X10_holdNext v0 v1 S) :=
  CM_of (by decide) (Nat.le_of_ble_eq_true rfl) rfl (fun K hG X hR w => by subst hG; exact t_X10_holdNext_0 X hR v0 kv0 v1 S w)
-- ==== X10_hold
theorem hy_X10_hold : yX10_hold.cls ≠ "java/lang/invoke/MethodHandle" ∧ yX10_hold.cls ≠ "java/lang/invoke/VarHandle" ∧ (parseMethodDescriptor yX10_hold.desc).map (fun d => d.parameters.length) = some 1 := by decide +kernel
set_option maxRecDepth 20000 in
def b_X10_hold_20 : Nat → Nat → Int32 → Int32 → St → Option (Int32 × St)
  | 0, _, _, _, _ => none
  | fu + 1, v0, v1, v2, S => if (55 : Int32) ≤ v2 then (some ((1 : Int32), S)) else ((ix v2 55).bind fun j1 => (ix (((55 : Int32) * v1) + v2) 165).bind fun j2 => nm (sI S (S.2.2 v0 70) j2 (S.1 (S.2.2 v0 51) j1)) fun S3 => nm (v2 + (1 : Int32)) fun x4 => b_X10_hold_20 fu v0 v1 x4 S3)
set_option maxRecDepth 20000 in
theorem t_X10_hold_20 {K : KK} (X : CX K cX10_hold 3 RX10 (some .boolean)) (hR : kR K = rmD 1) : ∀ (fu : Nat) (v0 : Nat) (kv0 : KA (kDn K) v0 (0, 10)) (v1 : Int32) (v2 : Int32) (S : St), WT (kDn K) S.2.2 → JX K (Zm K (fun v : Int32 => some (.int v))) 20 [some (.ref v0), some (.int v1), some (.int v2)] [] (rwN (kN K) S) (kn K) 0 0 (b_X10_hold_20 fu v0 v1 v2 S) := by
  intro fu
  induction fu with
  | zero => intro v0 kv0 v1 v2 S w; exact J_none
  | succ fu ih =>
    intro v0 kv0 v1 v2 S w
    rw [b_X10_hold_20]
    refine J_iload_n X dX10_hold_20 (i := 2) rfl rfl ?_
    refine J_bipush X (v := (55 : Int32)) dX10_hold_21 (by decide) ?_
    refine J_icmp_ge X (tgt := 49) dX10_hold_23 (by decide) ?_ ?_
    · refine J_iconst X (v := (1 : Int32)) dX10_hold_49 (by decide) ?_
      exact T_zret w X (by decide) dX10_hold_50
    · refine J_aload_n X dX10_hold_26 (i := 0) rfl rfl ?_
      refine T_getR X (kf := 70) cb10 kv0 (by decide) fl_X10_155 (fun _ _ _ => rfl) dX10_hold_27 ?_
      refine J_bipush X (v := (55 : Int32)) dX10_hold_30 (by decide) ?_
      refine J_iload_n X dX10_hold_32 (i := 1) rfl rfl ?_
      refine J_imul X dX10_hold_33 ?_
      refine J_iload_n X dX10_hold_34 (i := 2) rfl rfl ?_
      refine J_iadd X dX10_hold_35 ?_
      refine J_aload_n X dX10_hold_36 (i := 0) rfl rfl ?_
      refine T_getR X (kf := 51) cb10 kv0 (by decide) fl_X10_119 (fun _ _ _ => rfl) dX10_hold_37 ?_
      refine J_iload_n X dX10_hold_40 (i := 2) rfl rfl ?_
      refine T_iald X (w.1 _ _ kv0 51 _ rfl) dX10_hold_41 (fun j1 => ?_)
      refine T_iast X (w.1 _ _ kv0 70 _ rfl) dX10_hold_42 (fun j2 S3 hS3 => ?_)
      have wS3 : WT (kDn K) S3.2.2 := by rw [hS3]; exact w
      clear hS3
      refine J_nmv (v2 + (1 : Int32)) (fun x4 ex4 => ?_)
      refine J_iinc X (v := x4) (ls' := [some (.ref v0), some (.int v1), some (.int x4)]) dX10_hold_43 (by decide) rfl (by rw [ex4]; rfl) rfl ?_
      refine J_goto X (tgt := 20) dX10_hold_46 (by decide) ?_
      exact ih v0 kv0 v1 x4 S3 wS3
set_option maxRecDepth 20000 in
def f_X10_hold (v0 : Nat) (v1 : Int32) (S : St) : Option (Int32 × St) := bd (f_X10_in v1 (0 : Int32) (2 : Int32) S) fun r2 S1 => if r2 = 0 then (some ((0 : Int32), S1)) else ((ix v1 3).bind fun j3 => nm (sI S1 (S1.2.2 v0 69) j3 (vp_nar .boolean (1 : Int32))) fun S4 => b_X10_hold_20 FU v0 v1 (0 : Int32) S4)
set_option maxRecDepth 20000 in
theorem t_X10_hold_0 {K : KK} (X : CX K cX10_hold 3 RX10 (some .boolean)) (hR : kR K = rmD 1) (v0 : Nat) (kv0 : KA (kDn K) v0 (0, 10)) (v1 : Int32) (S : St) (w : WT (kDn K) S.2.2) : JX K (Zm K (fun v : Int32 => some (.int v))) 0 [some (.ref v0), some (.int v1), none] [] (rwN (kN K) S) (kn K) 0 0 (f_X10_hold v0 v1 S) := by
  unfold f_X10_hold
  refine J_iload_n X dX10_hold_0 (i := 1) rfl rfl ?_
  refine J_iconst X (v := (0 : Int32)) dX10_hold_1 (by decide) ?_
  refine J_iconst X (v := (2 : Int32)) dX10_hold_2 (by decide) ?_
  refine T_callS (As := [.int v1, .int (0 : Int32), .int (2 : Int32)]) w X (C_X10_in (kG K) v1 (0 : Int32) (2 : Int32) S) ml_X10_325 st_yX10_in ii_RX10 co_yX10_in hy_X10_in (hRd hR (by decide) (by decide)) rfl (Nat.le_of_ble_eq_true rfl) dX10_hold_3 (fun r2 S1 _ wS1 => ?_)
  refine J_if_ne X (tgt := 11) dX10_hold_6 (by decide) ?_ ?_
  · refine J_iconst X (v := (0 : Int32)) dX10_hold_9 (by decide) ?_
    exact T_zret wS1 X (by decide) dX10_hold_10
  · refine J_aload_n X dX10_hold_11 (i := 0) rfl rfl ?_
    refine T_getR X (kf := 69) cb10 kv0 (by decide) fl_X10_152 (fun _ _ _ => rfl) dX10_hold_12 ?_
    refine J_iload_n X dX10_hold_15 (i := 1) rfl rfl ?_
    refine J_iconst X (v := (1 : Int32)) dX10_hold_16 (by decide) ?_
    refine T_zast X (wS1.1 _ _ kv0 69 _ rfl) dX10_hold_17 (fun j3 S4 hS4 => ?_)
    have wS4 : WT (kDn K) S4.2.2 := by rw [hS4]; exact wS1
    clear hS4
    refine J_iconst X (v := (0 : Int32)) dX10_hold_18 (by decide) ?_
    refine J_istore_n X (i := 2) (ls' := [some (.ref v0), some (.int v1), some (.int (0 : Int32))]) dX10_hold_19 rfl (by decide) rfl ?_
    exact t_X10_hold_20 X hR FU v0 kv0 v1 (0 : Int32) S4 wS4
theorem C_X10_hold (G : GG) (v0 : Nat) (kv0 : KA (gD G) v0 (0, 10)) (v1 : Int32) (S : St) : CM G yX10_hold cX10_hold 3 (some .boolean) 1 [.ref v0, .int v1] S (fun v : Int32 => some (.int v)) (f_X10_hold v0 v1 S) :=
  CM_of (by decide) (Nat.le_of_ble_eq_true rfl) rfl (fun K hG X hR w => by subst hG; exact t_X10_hold_0 X hR v0 kv0 v1 S w)
-- ==== X10_restore
theorem hy_X10_restore : yX10_restore.cls ≠ "java/lang/invoke/MethodHandle" ∧ yX10_restore.cls ≠ "java/lang/invoke/VarHandle" ∧ (parseMethodDescriptor yX10_restore.desc).map (fun d => d.parameters.length) = some 1 := by decide +kernel
set_option maxRecDepth 20000 in
def b_X10_restore_22 : Nat → Nat → Int32 → Int32 → St → Option (Int32 × St)
  | 0, _, _, _, _ => none
  | fu + 1, v0, v1, v2, S => if (55 : Int32) ≤ v2 then (nm (sI S v0 61 (0 : Int32)) fun S1 => some ((1 : Int32), S1)) else ((ix (((55 : Int32) * v1) + v2) 165).bind fun j2 => (ix v2 55).bind fun j3 => nm (sI S (S.2.2 v0 51) j3 (S.1 (S.2.2 v0 70) j2)) fun S4 => nm (v2 + (1 : Int32)) fun x5 => b_X10_restore_22 fu v0 v1 x5 S4)
set_option maxRecDepth 20000 in
theorem t_X10_restore_22 {K : KK} (X : CX K cX10_restore 3 RX10 (some .boolean)) (hR : kR K = rmD 1) : ∀ (fu : Nat) (v0 : Nat) (kv0 : KA (kDn K) v0 (0, 10)) (v1 : Int32) (v2 : Int32) (S : St), WT (kDn K) S.2.2 → JX K (Zm K (fun v : Int32 => some (.int v))) 22 [some (.ref v0), some (.int v1), some (.int v2)] [] (rwN (kN K) S) (kn K) 0 0 (b_X10_restore_22 fu v0 v1 v2 S) := by
  intro fu
  induction fu with
  | zero => intro v0 kv0 v1 v2 S w; exact J_none
  | succ fu ih =>
    intro v0 kv0 v1 v2 S w
    rw [b_X10_restore_22]
    refine J_iload_n X dX10_restore_22 (i := 2) rfl rfl ?_
    refine J_bipush X (v := (55 : Int32)) dX10_restore_23 (by decide) ?_
    refine J_icmp_ge X (tgt := 51) dX10_restore_25 (by decide) ?_ ?_
    · refine J_aload_n X dX10_restore_51 (i := 0) rfl rfl ?_
      refine J_iconst X (v := (0 : Int32)) dX10_restore_52 (by decide) ?_
      refine T_putI X (kf := 61) cb10 kv0 (by decide) fl_X10_257 (fun _ _ _ => rfl) rfl rfl rfl dX10_restore_53 (fun S1 hS1 => ?_)
      have wS1 : WT (kDn K) S1.2.2 := by rw [hS1]; exact w
      clear hS1
      refine J_iconst X (v := (1 : Int32)) dX10_restore_56 (by decide) ?_
      exact T_zret wS1 X (by decide) dX10_restore_57
    · refine J_aload_n X dX10_restore_28 (i := 0) rfl rfl ?_
      refine T_getR X (kf := 51) cb10 kv0 (by decide) fl_X10_119 (fun _ _ _ => rfl) dX10_restore_29 ?_
      refine J_iload_n X dX10_restore_32 (i := 2) rfl rfl ?_
      refine J_aload_n X dX10_restore_33 (i := 0) rfl rfl ?_
      refine T_getR X (kf := 70) cb10 kv0 (by decide) fl_X10_155 (fun _ _ _ => rfl) dX10_restore_34 ?_
      refine J_bipush X (v := (55 : Int32)) dX10_restore_37 (by decide) ?_
      refine J_iload_n X dX10_restore_39 (i := 1) rfl rfl ?_
      refine J_imul X dX10_restore_40 ?_
      refine J_iload_n X dX10_restore_41 (i := 2) rfl rfl ?_
      refine J_iadd X dX10_restore_42 ?_
      refine T_iald X (w.1 _ _ kv0 70 _ rfl) dX10_restore_43 (fun j2 => ?_)
      refine T_iast X (w.1 _ _ kv0 51 _ rfl) dX10_restore_44 (fun j3 S4 hS4 => ?_)
      have wS4 : WT (kDn K) S4.2.2 := by rw [hS4]; exact w
      clear hS4
      refine J_nmv (v2 + (1 : Int32)) (fun x5 ex5 => ?_)
      refine J_iinc X (v := x5) (ls' := [some (.ref v0), some (.int v1), some (.int x5)]) dX10_restore_45 (by decide) rfl (by rw [ex5]; rfl) rfl ?_
      refine J_goto X (tgt := 22) dX10_restore_48 (by decide) ?_
      exact ih v0 kv0 v1 x5 S4 wS4
set_option maxRecDepth 20000 in
def f_X10_restore (v0 : Nat) (v1 : Int32) (S : St) : Option (Int32 × St) := bd (f_X10_in v1 (0 : Int32) (2 : Int32) S) fun r2 S1 => if r2 = 0 then (some ((0 : Int32), S1)) else ((ix v1 3).bind fun j3 => if (S1.1 (S1.2.2 v0 69) j3) = 0 then (some ((0 : Int32), S1)) else (b_X10_restore_22 FU v0 v1 (0 : Int32) S1))
set_option maxRecDepth 20000 in
theorem t_X10_restore_0 {K : KK} (X : CX K cX10_restore 3 RX10 (some .boolean)) (hR : kR K = rmD 1) (v0 : Nat) (kv0 : KA (kDn K) v0 (0, 10)) (v1 : Int32) (S : St) (w : WT (kDn K) S.2.2) : JX K (Zm K (fun v : Int32 => some (.int v))) 0 [some (.ref v0), some (.int v1), none] [] (rwN (kN K) S) (kn K) 0 0 (f_X10_restore v0 v1 S) := by
  unfold f_X10_restore
  refine J_iload_n X dX10_restore_0 (i := 1) rfl rfl ?_
  refine J_iconst X (v := (0 : Int32)) dX10_restore_1 (by decide) ?_
  refine J_iconst X (v := (2 : Int32)) dX10_restore_2 (by decide) ?_
  refine T_callS (As := [.int v1, .int (0 : Int32), .int (2 : Int32)]) w X (C_X10_in (kG K) v1 (0 : Int32) (2 : Int32) S) ml_X10_325 st_yX10_in ii_RX10 co_yX10_in hy_X10_in (hRd hR (by decide) (by decide)) rfl (Nat.le_of_ble_eq_true rfl) dX10_restore_3 (fun r2 S1 _ wS1 => ?_)
  refine J_if_eq X (tgt := 18) dX10_restore_6 (by decide) ?_ ?_
  · refine J_iconst X (v := (0 : Int32)) dX10_restore_18 (by decide) ?_
    exact T_zret wS1 X (by decide) dX10_restore_19
  · refine J_aload_n X dX10_restore_9 (i := 0) rfl rfl ?_
    refine T_getR X (kf := 69) cb10 kv0 (by decide) fl_X10_152 (fun _ _ _ => rfl) dX10_restore_10 ?_
    refine J_iload_n X dX10_restore_13 (i := 1) rfl rfl ?_
    refine T_zald X (wS1.1 _ _ kv0 69 _ rfl) dX10_restore_14 (fun j3 => ?_)
    refine J_if_ne X (tgt := 20) dX10_restore_15 (by decide) ?_ ?_
    · refine J_iconst X (v := (0 : Int32)) dX10_restore_18 (by decide) ?_
      exact T_zret wS1 X (by decide) dX10_restore_19
    · refine J_iconst X (v := (0 : Int32)) dX10_restore_20 (by decide) ?_
      refine J_istore_n X (i := 2) (ls' := [some (.ref v0), some (.int v1), some (.int (0 : Int32))]) dX10_restore_21 rfl (by decide) rfl ?_
      exact t_X10_restore_22 X hR FU v0 kv0 v1 (0 : Int32) S1 wS1
theorem C_X10_restore (G : GG) (v0 : Nat) (kv0 : KA (gD G) v0 (0, 10)) (v1 : Int32) (S : St) : CM G yX10_restore cX10_restore 3 (some .boolean) 1 [.ref v0, .int v1] S (fun v : Int32 => some (.int v)) (f_X10_restore v0 v1 S) :=
  CM_of (by decide) (Nat.le_of_ble_eq_true rfl) rfl (fun K hG X hR w => by subst hG; exact t_X10_restore_0 X hR v0 kv0 v1 S w)
-- ==== X10_count
theorem hy_X10_count : yX10_count.cls ≠ "java/lang/invoke/MethodHandle" ∧ yX10_count.cls ≠ "java/lang/invoke/VarHandle" ∧ (parseMethodDescriptor yX10_count.desc).map (fun d => d.parameters.length) = some 1 := by decide +kernel
set_option maxRecDepth 20000 in
def b_X10_count_301 (q274 : Nat → Int32 → Int32 → St → Option (Int32 × St)) (v0 : Nat) (v2 : Int32) (v3 : Int32) (S : St) : Option (Int32 × St) := nm (v3 + (1 : Int32)) fun x1 => q274 v0 v2 x1 S
set_option maxRecDepth 20000 in
theorem t_X10_count_301 {K : KK} (X : CX K cX10_count 4 RX10 (some .int)) (hR : kR K = rmD 6) {q274 : Nat → Int32 → Int32 → St → Option (Int32 × St)} (hq274 : ∀ (v0 : Nat) (kv0 : KA (kDn K) v0 (0, 10)) (v2 : Int32) (v3 : Int32) (S : St), WT (kDn K) S.2.2 → JX K (Zm K (fun v : Int32 => some (.int v))) 274 [some (.ref v0), none, some (.int v2), some (.int v3)] [] (rwN (kN K) S) (kn K) 0 0 (q274 v0 v2 v3 S)) (v0 : Nat) (kv0 : KA (kDn K) v0 (0, 10)) (v2 : Int32) (v3 : Int32) (S : St) (w : WT (kDn K) S.2.2) : JX K (Zm K (fun v : Int32 => some (.int v))) 301 [some (.ref v0), none, some (.int v2), some (.int v3)] [] (rwN (kN K) S) (kn K) 0 0 (b_X10_count_301 q274 v0 v2 v3 S) := by
  unfold b_X10_count_301
  refine J_nmv (v3 + (1 : Int32)) (fun x1 ex1 => ?_)
  refine J_iinc X (v := x1) (ls' := [some (.ref v0), none, some (.int v2), some (.int x1)]) dX10_count_301 (by decide) rfl (by rw [ex1]; rfl) rfl ?_
  refine J_goto X (tgt := 274) dX10_count_304 (by decide) ?_
  exact hq274 v0 kv0 v2 x1 S w
set_option maxRecDepth 20000 in
def b_X10_count_274 : Nat → Nat → Int32 → Int32 → St → Option (Int32 × St)
  | 0, _, _, _, _ => none
  | fu + 1, v0, v2, v3, S => (ix (S.1 v0 18) 2).bind fun j1 => if (S.1 (S.2.2 v0 25) j1) ≤ v3 then (some (v2, S)) else (bd (f_X10_movesNow v0 v3 S) fun r3 S2 => if r3 ≤ 0 then (b_X10_count_301 (b_X10_count_274 fu) v0 v2 v3 S2) else (nm (v2 ||| ((1 : Int32) <<< (v3 &&& 31))) fun x4 => b_X10_count_301 (b_X10_count_274 fu) v0 x4 v3 S2))
set_option maxRecDepth 20000 in
theorem t_X10_count_274 {K : KK} (X : CX K cX10_count 4 RX10 (some .int)) (hR : kR K = rmD 6) : ∀ (fu : Nat) (v0 : Nat) (kv0 : KA (kDn K) v0 (0, 10)) (v2 : Int32) (v3 : Int32) (S : St), WT (kDn K) S.2.2 → JX K (Zm K (fun v : Int32 => some (.int v))) 274 [some (.ref v0), none, some (.int v2), some (.int v3)] [] (rwN (kN K) S) (kn K) 0 0 (b_X10_count_274 fu v0 v2 v3 S) := by
  intro fu
  induction fu with
  | zero => intro v0 kv0 v2 v3 S w; exact J_none
  | succ fu ih =>
    intro v0 kv0 v2 v3 S w
    rw [b_X10_count_274]
    refine J_iload_n X dX10_count_274 (i := 3) rfl rfl ?_
    refine J_aload_n X dX10_count_275 (i := 0) rfl rfl ?_
    refine T_getR X (kf := 25) cb10 kv0 (by decide) fl_X10_52 (fun _ _ _ => rfl) dX10_count_276 ?_
    refine J_aload_n X dX10_count_279 (i := 0) rfl rfl ?_
    refine T_getI X (kf := 18) cb10 kv0 (by decide) fl_X10_239 (fun _ _ _ => rfl) dX10_count_280 ?_
    refine T_iald X (w.1 _ _ kv0 25 _ rfl) dX10_count_283 (fun j1 => ?_)
    refine J_icmp_ge X (tgt := 307) dX10_count_284 (by decide) ?_ ?_
    · refine J_iload_n X dX10_count_307 (i := 2) rfl rfl ?_
      exact T_iret w X dX10_count_308
    · refine J_aload_n X dX10_count_287 (i := 0) rfl rfl ?_
      refine J_iload_n X dX10_count_288 (i := 3) rfl rfl ?_
      refine T_callV (As := [.int v3]) w X (C_X10_movesNow (kG K) v0 kv0 v3 S) cb10 kv0 ml_X10_401 in_yX10_movesNow se_yX10_movesNow ii_RX10 co_yX10_movesNow hy_X10_movesNow (hRd hR (by decide) (by decide)) rfl (Nat.le_of_ble_eq_true rfl) dX10_count_289 (fun r3 S2 _ wS2 => ?_)
      refine J_if_le X (tgt := 301) dX10_count_292 (by decide) ?_ ?_
      · exact t_X10_count_301 X hR ih v0 kv0 v2 v3 S2 wS2
      · refine J_iload_n X dX10_count_295 (i := 2) rfl rfl ?_
        refine J_iconst X (v := (1 : Int32)) dX10_count_296 (by decide) ?_
        refine J_iload_n X dX10_count_297 (i := 3) rfl rfl ?_
        refine J_ishl X dX10_count_298 ?_
        refine J_ior X dX10_count_299 ?_
        refine J_nmi (fun x4 => ?_)
        refine J_istore_n X (i := 2) (ls' := [some (.ref v0), none, some (.int x4), some (.int v3)]) dX10_count_300 rfl (by decide) rfl ?_
        exact t_X10_count_301 X hR ih v0 kv0 x4 v3 S2 wS2
set_option maxRecDepth 20000 in
def b_X10_count_246 (v0 : Nat) (s0 : Int32) (s1 : Int32) (S : St) : Option (Int32 × St) := (ix (2 : Int32) 3).bind fun j1 => if (S.1 (S.2.2 v0 69) j1) = 0 then (some ((s0 + s1) + (0 : Int32), S)) else (some ((s0 + s1) + (1 : Int32), S))
set_option maxRecDepth 20000 in
theorem t_X10_count_246 {K : KK} (X : CX K cX10_count 4 RX10 (some .int)) (hR : kR K = rmD 6) (v0 : Nat) (kv0 : KA (kDn K) v0 (0, 10)) (s0 : Int32) (s1 : Int32) (S : St) (w : WT (kDn K) S.2.2) : JX K (Zm K (fun v : Int32 => some (.int v))) 246 [some (.ref v0), none, none, none] [.int s1, .int s0] (rwN (kN K) S) (kn K) 0 0 (b_X10_count_246 v0 s0 s1 S) := by
  unfold b_X10_count_246
  refine J_iadd X dX10_count_246 ?_
  refine J_aload_n X dX10_count_247 (i := 0) rfl rfl ?_
  refine T_getR X (kf := 69) cb10 kv0 (by decide) fl_X10_152 (fun _ _ _ => rfl) dX10_count_248 ?_
  refine J_iconst X (v := (2 : Int32)) dX10_count_251 (by decide) ?_
  refine T_zald X (w.1 _ _ kv0 69 _ rfl) dX10_count_252 (fun j1 => ?_)
  refine J_if_eq X (tgt := 260) dX10_count_253 (by decide) ?_ ?_
  · refine J_iconst X (v := (0 : Int32)) dX10_count_260 (by decide) ?_
    refine J_iadd X dX10_count_261 ?_
    exact T_iret w X dX10_count_262
  · refine J_iconst X (v := (1 : Int32)) dX10_count_256 (by decide) ?_
    refine J_goto X (tgt := 261) dX10_count_257 (by decide) ?_
    refine J_iadd X dX10_count_261 ?_
    exact T_iret w X dX10_count_262
set_option maxRecDepth 20000 in
def b_X10_count_232 (v0 : Nat) (s0 : Int32) (S : St) : Option (Int32 × St) := (ix (1 : Int32) 3).bind fun j1 => if (S.1 (S.2.2 v0 69) j1) = 0 then (b_X10_count_246 v0 s0 (0 : Int32) S) else (b_X10_count_246 v0 s0 (1 : Int32) S)
set_option maxRecDepth 20000 in
theorem t_X10_count_232 {K : KK} (X : CX K cX10_count 4 RX10 (some .int)) (hR : kR K = rmD 6) (v0 : Nat) (kv0 : KA (kDn K) v0 (0, 10)) (s0 : Int32) (S : St) (w : WT (kDn K) S.2.2) : JX K (Zm K (fun v : Int32 => some (.int v))) 232 [some (.ref v0), none, none, none] [.int s0] (rwN (kN K) S) (kn K) 0 0 (b_X10_count_232 v0 s0 S) := by
  unfold b_X10_count_232
  refine J_aload_n X dX10_count_232 (i := 0) rfl rfl ?_
  refine T_getR X (kf := 69) cb10 kv0 (by decide) fl_X10_152 (fun _ _ _ => rfl) dX10_count_233 ?_
  refine J_iconst X (v := (1 : Int32)) dX10_count_236 (by decide) ?_
  refine T_zald X (w.1 _ _ kv0 69 _ rfl) dX10_count_237 (fun j1 => ?_)
  refine J_if_eq X (tgt := 245) dX10_count_238 (by decide) ?_ ?_
  · refine J_iconst X (v := (0 : Int32)) dX10_count_245 (by decide) ?_
    exact t_X10_count_246 X hR v0 kv0 s0 (0 : Int32) S w
  · refine J_iconst X (v := (1 : Int32)) dX10_count_241 (by decide) ?_
    refine J_goto X (tgt := 246) dX10_count_242 (by decide) ?_
    exact t_X10_count_246 X hR v0 kv0 s0 (1 : Int32) S w
set_option maxRecDepth 20000 in
def b_X10_count_168 : Nat → Nat → Int32 → Int32 → St → Option (Int32 × St)
  | 0, _, _, _, _ => none
  | fu + 1, v0, v2, v3, S => (ix (S.1 v0 18) 2).bind fun j1 => if (S.1 (S.2.2 v0 29) j1) ≤ v3 then (some (v2, S)) else ((ix ((46 : Int32) + v3) 55).bind fun j2 => nm (v2 ||| ((S.1 (S.2.2 v0 52) j2) <<< (v3 &&& 31))) fun x3 => nm (v3 + (1 : Int32)) fun x4 => b_X10_count_168 fu v0 x3 x4 S)
set_option maxRecDepth 20000 in
theorem t_X10_count_168 {K : KK} (X : CX K cX10_count 4 RX10 (some .int)) (hR : kR K = rmD 6) : ∀ (fu : Nat) (v0 : Nat) (kv0 : KA (kDn K) v0 (0, 10)) (v2 : Int32) (v3 : Int32) (S : St), WT (kDn K) S.2.2 → JX K (Zm K (fun v : Int32 => some (.int v))) 168 [some (.ref v0), none, some (.int v2), some (.int v3)] [] (rwN (kN K) S) (kn K) 0 0 (b_X10_count_168 fu v0 v2 v3 S) := by
  intro fu
  induction fu with
  | zero => intro v0 kv0 v2 v3 S w; exact J_none
  | succ fu ih =>
    intro v0 kv0 v2 v3 S w
    rw [b_X10_count_168]
    refine J_iload_n X dX10_count_168 (i := 3) rfl rfl ?_
    refine J_aload_n X dX10_count_169 (i := 0) rfl rfl ?_
    refine T_getR X (kf := 29) cb10 kv0 (by decide) fl_X10_64 (fun _ _ _ => rfl) dX10_count_170 ?_
    refine J_aload_n X dX10_count_173 (i := 0) rfl rfl ?_
    refine T_getI X (kf := 18) cb10 kv0 (by decide) fl_X10_239 (fun _ _ _ => rfl) dX10_count_174 ?_
    refine T_iald X (w.1 _ _ kv0 29 _ rfl) dX10_count_177 (fun j1 => ?_)
    refine J_icmp_ge X (tgt := 201) dX10_count_178 (by decide) ?_ ?_
    · refine J_iload_n X dX10_count_201 (i := 2) rfl rfl ?_
      exact T_iret w X dX10_count_202
    · refine J_iload_n X dX10_count_181 (i := 2) rfl rfl ?_
      refine J_aload_n X dX10_count_182 (i := 0) rfl rfl ?_
      refine T_getR X (kf := 52) cb10 kv0 (by decide) fl_X10_122 (fun _ _ _ => rfl) dX10_count_183 ?_
      refine J_bipush X (v := (46 : Int32)) dX10_count_186 (by decide) ?_
      refine J_iload_n X dX10_count_188 (i := 3) rfl rfl ?_
      refine J_iadd X dX10_count_189 ?_
      refine T_iald X (w.1 _ _ kv0 52 _ rfl) dX10_count_190 (fun j2 => ?_)
      refine J_iload_n X dX10_count_191 (i := 3) rfl rfl ?_
      refine J_ishl X dX10_count_192 ?_
      refine J_ior X dX10_count_193 ?_
      refine J_nmi (fun x3 => ?_)
      refine J_istore_n X (i := 2) (ls' := [some (.ref v0), none, some (.int x3), some (.int v3)]) dX10_count_194 rfl (by decide) rfl ?_
      refine J_nmv (v3 + (1 : Int32)) (fun x4 ex4 => ?_)
      refine J_iinc X (v := x4) (ls' := [some (.ref v0), none, some (.int x3), some (.int x4)]) dX10_count_195 (by decide) rfl (by rw [ex4]; rfl) rfl ?_
      refine J_goto X (tgt := 168) dX10_count_198 (by decide) ?_
      exact ih v0 kv0 x3 x4 S w
set_option maxRecDepth 20000 in
def b_X10_count_131 : Nat → Nat → Int32 → Int32 → St → Option (Int32 × St)
  | 0, _, _, _, _ => none
  | fu + 1, v0, v2, v3, S => (ix (S.1 v0 18) 2).bind fun j1 => if (S.1 (S.2.2 v0 23) j1) ≤ v3 then (some (v2, S)) else ((ix ((16 : Int32) + v3) 55).bind fun j2 => nm (v2 ||| ((S.1 (S.2.2 v0 52) j2) <<< (v3 &&& 31))) fun x3 => nm (v3 + (1 : Int32)) fun x4 => b_X10_count_131 fu v0 x3 x4 S)
set_option maxRecDepth 20000 in
theorem t_X10_count_131 {K : KK} (X : CX K cX10_count 4 RX10 (some .int)) (hR : kR K = rmD 6) : ∀ (fu : Nat) (v0 : Nat) (kv0 : KA (kDn K) v0 (0, 10)) (v2 : Int32) (v3 : Int32) (S : St), WT (kDn K) S.2.2 → JX K (Zm K (fun v : Int32 => some (.int v))) 131 [some (.ref v0), none, some (.int v2), some (.int v3)] [] (rwN (kN K) S) (kn K) 0 0 (b_X10_count_131 fu v0 v2 v3 S) := by
  intro fu
  induction fu with
  | zero => intro v0 kv0 v2 v3 S w; exact J_none
  | succ fu ih =>
    intro v0 kv0 v2 v3 S w
    rw [b_X10_count_131]
    refine J_iload_n X dX10_count_131 (i := 3) rfl rfl ?_
    refine J_aload_n X dX10_count_132 (i := 0) rfl rfl ?_
    refine T_getR X (kf := 23) cb10 kv0 (by decide) fl_X10_46 (fun _ _ _ => rfl) dX10_count_133 ?_
    refine J_aload_n X dX10_count_136 (i := 0) rfl rfl ?_
    refine T_getI X (kf := 18) cb10 kv0 (by decide) fl_X10_239 (fun _ _ _ => rfl) dX10_count_137 ?_
    refine T_iald X (w.1 _ _ kv0 23 _ rfl) dX10_count_140 (fun j1 => ?_)
    refine J_icmp_ge X (tgt := 164) dX10_count_141 (by decide) ?_ ?_
    · refine J_iload_n X dX10_count_164 (i := 2) rfl rfl ?_
      exact T_iret w X dX10_count_165
    · refine J_iload_n X dX10_count_144 (i := 2) rfl rfl ?_
      refine J_aload_n X dX10_count_145 (i := 0) rfl rfl ?_
      refine T_getR X (kf := 52) cb10 kv0 (by decide) fl_X10_122 (fun _ _ _ => rfl) dX10_count_146 ?_
      refine J_bipush X (v := (16 : Int32)) dX10_count_149 (by decide) ?_
      refine J_iload_n X dX10_count_151 (i := 3) rfl rfl ?_
      refine J_iadd X dX10_count_152 ?_
      refine T_iald X (w.1 _ _ kv0 52 _ rfl) dX10_count_153 (fun j2 => ?_)
      refine J_iload_n X dX10_count_154 (i := 3) rfl rfl ?_
      refine J_ishl X dX10_count_155 ?_
      refine J_ior X dX10_count_156 ?_
      refine J_nmi (fun x3 => ?_)
      refine J_istore_n X (i := 2) (ls' := [some (.ref v0), none, some (.int x3), some (.int v3)]) dX10_count_157 rfl (by decide) rfl ?_
      refine J_nmv (v3 + (1 : Int32)) (fun x4 ex4 => ?_)
      refine J_iinc X (v := x4) (ls' := [some (.ref v0), none, some (.int x3), some (.int x4)]) dX10_count_158 (by decide) rfl (by rw [ex4]; rfl) rfl ?_
      refine J_goto X (tgt := 131) dX10_count_161 (by decide) ?_
      exact ih v0 kv0 x3 x4 S w
set_option maxRecDepth 20000 in
def f_X10_count (v0 : Nat) (v1 : Int32) (S : St) : Option (Int32 × St) := bd (f_X10_copies v0 S) fun _ S1 => if v1 = (0 : Int32) then ((ix (S1.1 v0 18) 2).bind fun j3 => some (S1.1 (S1.2.2 v0 23) j3, S1)) else if v1 = (1 : Int32) then ((ix (S1.1 v0 18) 2).bind fun j4 => some (S1.1 (S1.2.2 v0 25) j4, S1)) else if v1 = (2 : Int32) then ((ix (S1.1 v0 18) 2).bind fun j5 => some (S1.1 (S1.2.2 v0 29) j5, S1)) else if v1 = (3 : Int32) then ((ix (54 : Int32) 55).bind fun j6 => some (S1.1 (S1.2.2 v0 52) j6, S1)) else if v1 = (4 : Int32) then ((ix (54 : Int32) 55).bind fun j7 => some ((S1.1 (S1.2.2 v0 52) j7) - (S1.1 (S1.2.2 v0 52) j7) / (4 : Int32) * (4 : Int32), S1)) else if v1 = (5 : Int32) then (bd (f_X10_offBits v0 S1) fun r9 S8 => some (r9, S8)) else if v1 = (6 : Int32) then (b_X10_count_131 FU v0 (0 : Int32) (0 : Int32) S1) else if v1 = (7 : Int32) then (b_X10_count_168 FU v0 (0 : Int32) (0 : Int32) S1) else if v1 = (8 : Int32) then (some (S1.1 v0 2, S1)) else if v1 = (9 : Int32) then (some (S1.1 v0 61, S1)) else if v1 = (10 : Int32) then (some (S1.1 v0 64, S1)) else if v1 = (11 : Int32) then ((ix (0 : Int32) 3).bind fun j10 => if (S1.1 (S1.2.2 v0 69) j10) = 0 then (b_X10_count_232 v0 (0 : Int32) S1) else (b_X10_count_232 v0 (1 : Int32) S1)) else if v1 = (12 : Int32) then (bd (f_X10_wholeBits v0 S1) fun r12 S11 => bd (f_X10_pricesOf v0 r12 S11) fun r14 S13 => some (r14, S13)) else if v1 = (13 : Int32) then (b_X10_count_274 FU v0 (0 : Int32) (0 : Int32) S1) else (some ((-1 : Int32), S1))
set_option maxRecDepth 20000 in
theorem t_X10_count_0 {K : KK} (X : CX K cX10_count 4 RX10 (some .int)) (hR : kR K = rmD 6) (v0 : Nat) (kv0 : KA (kDn K) v0 (0, 10)) (v1 : Int32) (S : St) (w : WT (kDn K) S.2.2) : JX K (Zm K (fun v : Int32 => some (.int v))) 0 [some (.ref v0), some (.int v1), none, none] [] (rwN (kN K) S) (kn K) 0 0 (f_X10_count v0 v1 S) := by
  unfold f_X10_count
  refine J_aload_n X dX10_count_0 (i := 0) rfl rfl ?_
  refine T_callV (As := []) w X (C_X10_copies (kG K) v0 kv0 S) cb10 kv0 ml_X10_335 in_yX10_copies se_yX10_copies ii_RX10 co_yX10_copies hy_X10_copies (hRd hR (by decide) (by decide)) rfl (Nat.le_of_ble_eq_true rfl) dX10_count_1 (fun _ S1 _ wS1 => ?_)
  refine J_iconst X (v := (0 : Int32)) dX10_count_4 (by decide) ?_
  refine J_istore_n X (i := 2) (ls' := [some (.ref v0), some (.int v1), some (.int (0 : Int32)), none]) dX10_count_5 rfl (by decide) rfl ?_
  refine J_iload_n X dX10_count_6 (i := 1) rfl rfl ?_
  refine J_ite (fun hc7_0 => ?_) (fun hc7_0 => ?_)
  · refine J_tabIn X (v := (0 : Int32)) (off := 69) (tgt := 76) hc7_0 dX10_count_7 (by decide) (by decide) (by decide) (by decide) ?_
    refine J_aload_n X dX10_count_76 (i := 0) rfl rfl ?_
    refine T_getR X (kf := 23) cb10 kv0 (by decide) fl_X10_46 (fun _ _ _ => rfl) dX10_count_77 ?_
    refine J_aload_n X dX10_count_80 (i := 0) rfl rfl ?_
    refine T_getI X (kf := 18) cb10 kv0 (by decide) fl_X10_239 (fun _ _ _ => rfl) dX10_count_81 ?_
    refine T_iald X (wS1.1 _ _ kv0 23 _ rfl) dX10_count_84 (fun j3 => ?_)
    exact T_iret wS1 X dX10_count_85
  refine J_ite (fun hc7_1 => ?_) (fun hc7_1 => ?_)
  · refine J_tabIn X (v := (1 : Int32)) (off := 79) (tgt := 86) hc7_1 dX10_count_7 (by decide) (by decide) (by decide) (by decide) ?_
    refine J_aload_n X dX10_count_86 (i := 0) rfl rfl ?_
    refine T_getR X (kf := 25) cb10 kv0 (by decide) fl_X10_52 (fun _ _ _ => rfl) dX10_count_87 ?_
    refine J_aload_n X dX10_count_90 (i := 0) rfl rfl ?_
    refine T_getI X (kf := 18) cb10 kv0 (by decide) fl_X10_239 (fun _ _ _ => rfl) dX10_count_91 ?_
    refine T_iald X (wS1.1 _ _ kv0 25 _ rfl) dX10_count_94 (fun j4 => ?_)
    exact T_iret wS1 X dX10_count_95
  refine J_ite (fun hc7_2 => ?_) (fun hc7_2 => ?_)
  · refine J_tabIn X (v := (2 : Int32)) (off := 89) (tgt := 96) hc7_2 dX10_count_7 (by decide) (by decide) (by decide) (by decide) ?_
    refine J_aload_n X dX10_count_96 (i := 0) rfl rfl ?_
    refine T_getR X (kf := 29) cb10 kv0 (by decide) fl_X10_64 (fun _ _ _ => rfl) dX10_count_97 ?_
    refine J_aload_n X dX10_count_100 (i := 0) rfl rfl ?_
    refine T_getI X (kf := 18) cb10 kv0 (by decide) fl_X10_239 (fun _ _ _ => rfl) dX10_count_101 ?_
    refine T_iald X (wS1.1 _ _ kv0 29 _ rfl) dX10_count_104 (fun j5 => ?_)
    exact T_iret wS1 X dX10_count_105
  refine J_ite (fun hc7_3 => ?_) (fun hc7_3 => ?_)
  · refine J_tabIn X (v := (3 : Int32)) (off := 99) (tgt := 106) hc7_3 dX10_count_7 (by decide) (by decide) (by decide) (by decide) ?_
    refine J_aload_n X dX10_count_106 (i := 0) rfl rfl ?_
    refine T_getR X (kf := 52) cb10 kv0 (by decide) fl_X10_122 (fun _ _ _ => rfl) dX10_count_107 ?_
    refine J_bipush X (v := (54 : Int32)) dX10_count_110 (by decide) ?_
    refine T_iald X (wS1.1 _ _ kv0 52 _ rfl) dX10_count_112 (fun j6 => ?_)
    exact T_iret wS1 X dX10_count_113
  refine J_ite (fun hc7_4 => ?_) (fun hc7_4 => ?_)
  · refine J_tabIn X (v := (4 : Int32)) (off := 107) (tgt := 114) hc7_4 dX10_count_7 (by decide) (by decide) (by decide) (by decide) ?_
    refine J_aload_n X dX10_count_114 (i := 0) rfl rfl ?_
    refine T_getR X (kf := 52) cb10 kv0 (by decide) fl_X10_122 (fun _ _ _ => rfl) dX10_count_115 ?_
    refine J_bipush X (v := (54 : Int32)) dX10_count_118 (by decide) ?_
    refine T_iald X (wS1.1 _ _ kv0 52 _ rfl) dX10_count_120 (fun j7 => ?_)
    refine J_iconst X (v := (4 : Int32)) dX10_count_121 (by decide) ?_
    refine J_iremc X dX10_count_122 (by decide) ?_
    exact T_iret wS1 X dX10_count_123
  refine J_ite (fun hc7_5 => ?_) (fun hc7_5 => ?_)
  · refine J_tabIn X (v := (5 : Int32)) (off := 117) (tgt := 124) hc7_5 dX10_count_7 (by decide) (by decide) (by decide) (by decide) ?_
    refine J_aload_n X dX10_count_124 (i := 0) rfl rfl ?_
    refine T_callV (As := []) wS1 X (C_X10_offBits (kG K) v0 kv0 S1) cb10 kv0 ml_X10_444 in_yX10_offBits se_yX10_offBits ii_RX10 co_yX10_offBits hy_X10_offBits (hRd hR (by decide) (by decide)) rfl (Nat.le_of_ble_eq_true rfl) dX10_count_125 (fun r9 S8 _ wS8 => ?_)
    exact T_iret wS8 X dX10_count_128
  refine J_ite (fun hc7_6 => ?_) (fun hc7_6 => ?_)
  · refine J_tabIn X (v := (6 : Int32)) (off := 122) (tgt := 129) hc7_6 dX10_count_7 (by decide) (by decide) (by decide) (by decide) ?_
    refine J_iconst X (v := (0 : Int32)) dX10_count_129 (by decide) ?_
    refine J_istore_n X (i := 3) (ls' := [some (.ref v0), some (.int v1), some (.int (0 : Int32)), some (.int (0 : Int32))]) dX10_count_130 rfl (by decide) rfl ?_
    refine J_mask [true, false, true, true] ?_
    exact t_X10_count_131 X hR FU v0 kv0 (0 : Int32) (0 : Int32) S1 wS1
  refine J_ite (fun hc7_7 => ?_) (fun hc7_7 => ?_)
  · refine J_tabIn X (v := (7 : Int32)) (off := 159) (tgt := 166) hc7_7 dX10_count_7 (by decide) (by decide) (by decide) (by decide) ?_
    refine J_iconst X (v := (0 : Int32)) dX10_count_166 (by decide) ?_
    refine J_istore_n X (i := 3) (ls' := [some (.ref v0), some (.int v1), some (.int (0 : Int32)), some (.int (0 : Int32))]) dX10_count_167 rfl (by decide) rfl ?_
    refine J_mask [true, false, true, true] ?_
    exact t_X10_count_168 X hR FU v0 kv0 (0 : Int32) (0 : Int32) S1 wS1
  refine J_ite (fun hc7_8 => ?_) (fun hc7_8 => ?_)
  · refine J_tabIn X (v := (8 : Int32)) (off := 196) (tgt := 203) hc7_8 dX10_count_7 (by decide) (by decide) (by decide) (by decide) ?_
    refine J_aload_n X dX10_count_203 (i := 0) rfl rfl ?_
    refine T_getI X (kf := 2) cb10 kv0 (by decide) fl_X10_172 (fun _ _ _ => rfl) dX10_count_204 ?_
    exact T_iret wS1 X dX10_count_207
  refine J_ite (fun hc7_9 => ?_) (fun hc7_9 => ?_)
  · refine J_tabIn X (v := (9 : Int32)) (off := 201) (tgt := 208) hc7_9 dX10_count_7 (by decide) (by decide) (by decide) (by decide) ?_
    refine J_aload_n X dX10_count_208 (i := 0) rfl rfl ?_
    refine T_getI X (kf := 61) cb10 kv0 (by decide) fl_X10_257 (fun _ _ _ => rfl) dX10_count_209 ?_
    exact T_iret wS1 X dX10_count_212
  refine J_ite (fun hc7_10 => ?_) (fun hc7_10 => ?_)
  · refine J_tabIn X (v := (10 : Int32)) (off := 206) (tgt := 213) hc7_10 dX10_count_7 (by decide) (by decide) (by decide) (by decide) ?_
    refine J_aload_n X dX10_count_213 (i := 0) rfl rfl ?_
    refine T_getI X (kf := 64) cb10 kv0 (by decide) fl_X10_260 (fun _ _ _ => rfl) dX10_count_214 ?_
    exact T_iret wS1 X dX10_count_217
  refine J_ite (fun hc7_11 => ?_) (fun hc7_11 => ?_)
  · refine J_tabIn X (v := (11 : Int32)) (off := 211) (tgt := 218) hc7_11 dX10_count_7 (by decide) (by decide) (by decide) (by decide) ?_
    refine J_aload_n X dX10_count_218 (i := 0) rfl rfl ?_
    refine T_getR X (kf := 69) cb10 kv0 (by decide) fl_X10_152 (fun _ _ _ => rfl) dX10_count_219 ?_
    refine J_iconst X (v := (0 : Int32)) dX10_count_222 (by decide) ?_
    refine T_zald X (wS1.1 _ _ kv0 69 _ rfl) dX10_count_223 (fun j10 => ?_)
    refine J_if_eq X (tgt := 231) dX10_count_224 (by decide) ?_ ?_
    · refine J_iconst X (v := (0 : Int32)) dX10_count_231 (by decide) ?_
      refine J_mask [true, false, false, false] ?_
      exact t_X10_count_232 X hR v0 kv0 (0 : Int32) S1 wS1
    · refine J_iconst X (v := (1 : Int32)) dX10_count_227 (by decide) ?_
      refine J_goto X (tgt := 232) dX10_count_228 (by decide) ?_
      refine J_mask [true, false, false, false] ?_
      exact t_X10_count_232 X hR v0 kv0 (1 : Int32) S1 wS1
  refine J_ite (fun hc7_12 => ?_) (fun hc7_12 => ?_)
  · refine J_tabIn X (v := (12 : Int32)) (off := 256) (tgt := 263) hc7_12 dX10_count_7 (by decide) (by decide) (by decide) (by decide) ?_
    refine J_aload_n X dX10_count_263 (i := 0) rfl rfl ?_
    refine J_aload_n X dX10_count_264 (i := 0) rfl rfl ?_
    refine T_callV (As := []) wS1 X (C_X10_wholeBits (kG K) v0 kv0 S1) cb10 kv0 ml_X10_456 in_yX10_wholeBits se_yX10_wholeBits ii_RX10 co_yX10_wholeBits hy_X10_wholeBits (hRd hR (by decide) (by decide)) rfl (Nat.le_of_ble_eq_true rfl) dX10_count_265 (fun r12 S11 _ wS11 => ?_)
    refine T_callV (As := [.int r12]) wS11 X (C_X10_pricesOf (kG K) v0 kv0 r12 S11) cb10 kv0 ml_X10_471 in_yX10_pricesOf se_yX10_pricesOf ii_RX10 co_yX10_pricesOf hy_X10_pricesOf (hRd hR (by decide) (by decide)) rfl (Nat.le_of_ble_eq_true rfl) dX10_count_268 (fun r14 S13 _ wS13 => ?_)
    exact T_iret wS13 X dX10_count_271
  refine J_ite (fun hc7_13 => ?_) (fun hc7_13 => ?_)
  · refine J_tabIn X (v := (13 : Int32)) (off := 265) (tgt := 272) hc7_13 dX10_count_7 (by decide) (by decide) (by decide) (by decide) ?_
    refine J_iconst X (v := (0 : Int32)) dX10_count_272 (by decide) ?_
    refine J_istore_n X (i := 3) (ls' := [some (.ref v0), some (.int v1), some (.int (0 : Int32)), some (.int (0 : Int32))]) dX10_count_273 rfl (by decide) rfl ?_
    refine J_mask [true, false, true, true] ?_
    exact t_X10_count_274 X hR FU v0 kv0 (0 : Int32) (0 : Int32) S1 wS1
  have nhc7_0 := tabne hc7_0 (k := 0) (by decide)
  have nhc7_1 := tabne hc7_1 (k := 1) (by decide)
  have nhc7_2 := tabne hc7_2 (k := 2) (by decide)
  have nhc7_3 := tabne hc7_3 (k := 3) (by decide)
  have nhc7_4 := tabne hc7_4 (k := 4) (by decide)
  have nhc7_5 := tabne hc7_5 (k := 5) (by decide)
  have nhc7_6 := tabne hc7_6 (k := 6) (by decide)
  have nhc7_7 := tabne hc7_7 (k := 7) (by decide)
  have nhc7_8 := tabne hc7_8 (k := 8) (by decide)
  have nhc7_9 := tabne hc7_9 (k := 9) (by decide)
  have nhc7_10 := tabne hc7_10 (k := 10) (by decide)
  have nhc7_11 := tabne hc7_11 (k := 11) (by decide)
  have nhc7_12 := tabne hc7_12 (k := 12) (by decide)
  have nhc7_13 := tabne hc7_13 (k := 13) (by decide)
  refine J_tabOut X (tgt := 309) dX10_count_7 (tabout 0 13 (fun v h1 h2 => by omega)) (by decide) ?_
  refine J_iconst X (v := (-1 : Int32)) dX10_count_309 (by decide) ?_
  exact T_iret wS1 X dX10_count_310
theorem C_X10_count (G : GG) (v0 : Nat) (kv0 : KA (gD G) v0 (0, 10)) (v1 : Int32) (S : St) : CM G yX10_count cX10_count 4 (some .int) 6 [.ref v0, .int v1] S (fun v : Int32 => some (.int v)) (f_X10_count v0 v1 S) :=
  CM_of (by decide) (Nat.le_of_ble_eq_true rfl) rfl (fun K hG X hR w => by subst hG; exact t_X10_count_0 X hR v0 kv0 v1 S w)

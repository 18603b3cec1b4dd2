-- ==== X10_bounded
theorem hy_X10_bounded : yX10_bounded.cls ≠ "java/lang/invoke/MethodHandle" ∧ yX10_bounded.cls ≠ "java/lang/invoke/VarHandle" ∧ (parseMethodDescriptor yX10_bounded.desc).map (fun d => d.parameters.length) = some 2 := by decide +kernel
set_option maxRecDepth 20000 in
def b_X10_bounded_15 (v0 : Nat) (v1 : Int32) (S : St) : Option (Int32 × St) := bd (f_X10_fail v0 (1 : Int32) S) fun _ S1 => some (v1, S1)
set_option maxRecDepth 20000 in
theorem t_X10_bounded_15 {K : KK} (X : CX K cX10_bounded 4 RX10 (some .int)) (hR : kR K = rmD 2) (v0 : Nat) (kv0 : KA (kDn K) v0 (0, 10)) (v1 : Int32) (S : St) (w : WT (kDn K) S.2.2) : JX K (Zm K (fun v : Int32 => some (.int v))) 15 [some (.ref v0), some (.int v1), none, none] [] (rwN (kN K) S) (kn K) 0 0 (b_X10_bounded_15 v0 v1 S) := by
  unfold b_X10_bounded_15
  refine J_aload_n X dX10_bounded_15 (i := 0) rfl rfl ?_
  refine J_iconst X (v := (1 : Int32)) dX10_bounded_16 (by decide) ?_
  refine T_callV (As := [.int (1 : Int32)]) w X (C_X10_fail (kG K) v0 kv0 (1 : Int32) S) cb10 kv0 ml_X10_224 in_yX10_fail se_yX10_fail ii_RX10 co_yX10_fail hy_X10_fail (hRd hR (by decide) (by decide)) rfl (Nat.le_of_ble_eq_true rfl) dX10_bounded_17 (fun _ S1 _ wS1 => ?_)
  refine J_iload_n X dX10_bounded_20 (i := 1) rfl rfl ?_
  exact T_iret wS1 X dX10_bounded_21
set_option maxRecDepth 20000 in
def b_X10_bounded_51 (v0 : Nat) (v3 : Int32) (S : St) : Option (Int32 × St) := bd (f_X10_goesOn v0 S) fun _ S1 => some (v3, S1)
set_option maxRecDepth 20000 in
theorem t_X10_bounded_51 {K : KK} (X : CX K cX10_bounded 4 RX10 (some .int)) (hR : kR K = rmD 2) (v0 : Nat) (kv0 : KA (kDn K) v0 (0, 10)) (v3 : Int32) (S : St) (w : WT (kDn K) S.2.2) : JX K (Zm K (fun v : Int32 => some (.int v))) 51 [some (.ref v0), none, none, some (.int v3)] [] (rwN (kN K) S) (kn K) 0 0 (b_X10_bounded_51 v0 v3 S) := by
  unfold b_X10_bounded_51
  refine J_aload_n X dX10_bounded_51 (i := 0) rfl rfl ?_
  refine T_callV (As := []) w X (C_X10_goesOn (kG K) v0 kv0 S) cb10 kv0 ml_X10_230 in_yX10_goesOn se_yX10_goesOn ii_RX10 co_yX10_goesOn hy_X10_goesOn (hRd hR (by decide) (by decide)) rfl (Nat.le_of_ble_eq_true rfl) dX10_bounded_52 (fun _ S1 _ wS1 => ?_)
  refine J_iload_n X dX10_bounded_55 (i := 3) rfl rfl ?_
  exact T_iret wS1 X dX10_bounded_56
set_option maxRecDepth 20000 in
def b_X10_bounded_42 (v0 : Nat) (v3 : Int32) (S : St) : Option (Int32 × St) := bd (f_X10_wrong v0 (5 : Int32) (S.1 v0 11) S) fun _ S1 => b_X10_bounded_51 v0 v3 S1
set_option maxRecDepth 20000 in
theorem t_X10_bounded_42 {K : KK} (X : CX K cX10_bounded 4 RX10 (some .int)) (hR : kR K = rmD 2) (v0 : Nat) (kv0 : KA (kDn K) v0 (0, 10)) (v3 : Int32) (S : St) (w : WT (kDn K) S.2.2) : JX K (Zm K (fun v : Int32 => some (.int v))) 42 [some (.ref v0), none, none, some (.int v3)] [] (rwN (kN K) S) (kn K) 0 0 (b_X10_bounded_42 v0 v3 S) := by
  unfold b_X10_bounded_42
  refine J_aload_n X dX10_bounded_42 (i := 0) rfl rfl ?_
  refine J_iconst X (v := (5 : Int32)) dX10_bounded_43 (by decide) ?_
  refine J_aload_n X dX10_bounded_44 (i := 0) rfl rfl ?_
  refine T_getI X (kf := 11) cb10 kv0 (by decide) fl_X10_212 (fun _ _ _ => rfl) dX10_bounded_45 ?_
  refine T_callV (As := [.int (5 : Int32), .int (S.1 v0 11)]) w X (C_X10_wrong (kG K) v0 kv0 (5 : Int32) (S.1 v0 11) S) cb10 kv0 ml_X10_286 in_yX10_wrong se_yX10_wrong ii_RX10 co_yX10_wrong hy_X10_wrong (hRd hR (by decide) (by decide)) rfl (Nat.le_of_ble_eq_true rfl) dX10_bounded_48 (fun _ S1 _ wS1 => ?_)
  exact t_X10_bounded_51 X hR v0 kv0 v3 S1 wS1
set_option maxRecDepth 20000 in
def f_X10_bounded (v0 : Nat) (v1 : Int32) (v2 : Int32) (S : St) : Option (Int32 × St) := if 0 < (S.1 v0 13) then (b_X10_bounded_15 v0 v1 S) else (bd (f_X10_is v0 (2 : Int32) S) fun r2 S1 => if r2 = 0 then (b_X10_bounded_15 v0 v1 S1) else ((ix (S1.1 v0 11) 403).bind fun j3 => nm (S1.1 (S1.2.2 v0 7) j3) fun x4 => if x4 < v1 then (b_X10_bounded_42 v0 x4 S1) else (if x4 ≤ v2 then (b_X10_bounded_51 v0 x4 S1) else (b_X10_bounded_42 v0 x4 S1))))
set_option maxRecDepth 20000 in
theorem t_X10_bounded_0 {K : KK} (X : CX K cX10_bounded 4 RX10 (some .int)) (hR : kR K = rmD 2) (v0 : Nat) (kv0 : KA (kDn K) v0 (0, 10)) (v1 : Int32) (v2 : Int32) (S : St) (w : WT (kDn K) S.2.2) : JX K (Zm K (fun v : Int32 => some (.int v))) 0 [some (.ref v0), some (.int v1), some (.int v2), none] [] (rwN (kN K) S) (kn K) 0 0 (f_X10_bounded v0 v1 v2 S) := by
  unfold f_X10_bounded
  refine J_aload_n X dX10_bounded_0 (i := 0) rfl rfl ?_
  refine T_getI X (kf := 13) cb10 kv0 (by decide) fl_X10_209 (fun _ _ _ => rfl) dX10_bounded_1 ?_
  refine J_if_gt X (tgt := 15) dX10_bounded_4 (by decide) ?_ ?_
  · refine J_mask [true, true, false, false] ?_
    exact t_X10_bounded_15 X hR v0 kv0 v1 S w
  · refine J_aload_n X dX10_bounded_7 (i := 0) rfl rfl ?_
    refine J_iconst X (v := (2 : Int32)) dX10_bounded_8 (by decide) ?_
    refine T_callV (As := [.int (2 : Int32)]) w X (C_X10_is (kG K) v0 kv0 (2 : Int32) S) cb10 kv0 ml_X10_227 in_yX10_is se_yX10_is ii_RX10 co_yX10_is hy_X10_is (hRd hR (by decide) (by decide)) rfl (Nat.le_of_ble_eq_true rfl) dX10_bounded_9 (fun r2 S1 _ wS1 => ?_)
    refine J_if_ne X (tgt := 22) dX10_bounded_12 (by decide) ?_ ?_
    · refine J_mask [true, true, false, false] ?_
      exact t_X10_bounded_15 X hR v0 kv0 v1 S1 wS1
    · refine J_aload_n X dX10_bounded_22 (i := 0) rfl rfl ?_
      refine T_getR X (kf := 7) cb10 kv0 (by decide) fl_X10_27 (fun _ _ _ => rfl) dX10_bounded_23 ?_
      refine J_aload_n X dX10_bounded_26 (i := 0) rfl rfl ?_
      refine T_getI X (kf := 11) cb10 kv0 (by decide) fl_X10_212 (fun _ _ _ => rfl) dX10_bounded_27 ?_
      refine T_iald X (wS1.1 _ _ kv0 7 _ rfl) dX10_bounded_30 (fun j3 => ?_)
      refine J_nmi (fun x4 => ?_)
      refine J_istore_n X (i := 3) (ls' := [some (.ref v0), some (.int v1), some (.int v2), some (.int x4)]) dX10_bounded_31 rfl (by decide) rfl ?_
      refine J_iload_n X dX10_bounded_32 (i := 3) rfl rfl ?_
      refine J_iload_n X dX10_bounded_33 (i := 1) rfl rfl ?_
      refine J_icmp_lt X (tgt := 42) dX10_bounded_34 (by decide) ?_ ?_
      · refine J_mask [true, false, false, true] ?_
        exact t_X10_bounded_42 X hR v0 kv0 x4 S1 wS1
      · refine J_iload_n X dX10_bounded_37 (i := 3) rfl rfl ?_
        refine J_iload_n X dX10_bounded_38 (i := 2) rfl rfl ?_
        refine J_icmp_le X (tgt := 51) dX10_bounded_39 (by decide) ?_ ?_
        · refine J_mask [true, false, false, true] ?_
          exact t_X10_bounded_51 X hR v0 kv0 x4 S1 wS1
        · refine J_mask [true, false, false, true] ?_
          exact t_X10_bounded_42 X hR v0 kv0 x4 S1 wS1
theorem C_X10_bounded (G : GG) (v0 : Nat) (kv0 : KA (gD G) v0 (0, 10)) (v1 : Int32) (v2 : Int32) (S : St) : CM G yX10_bounded cX10_bounded 4 (some .int) 2 [.ref v0, .int v1, .int v2] S (fun v : Int32 => some (.int v)) (f_X10_bounded v0 v1 v2 S) :=
  CM_of (by decide) (Nat.le_of_ble_eq_true rfl) rfl (fun K hG X hR w => by subst hG; exact t_X10_bounded_0 X hR v0 kv0 v1 v2 S w)
-- ==== X10_toldStep
theorem hy_X10_toldStep : yX10_toldStep.cls ≠ "java/lang/invoke/MethodHandle" ∧ yX10_toldStep.cls ≠ "java/lang/invoke/VarHandle" ∧ (parseMethodDescriptor yX10_toldStep.desc).map (fun d => d.parameters.length) = some 0 := by decide +kernel
set_option maxRecDepth 20000 in
def b_X10_toldStep_30 (v0 : Nat) (v1 : Int32) (S : St) : Option (Int32 × St) := bd (f_X10_bounded v0 (0 : Int32) (3 : Int32) S) fun r2 S1 => if v1 = 0 then (some (r2, S1)) else (some (-r2, S1))
set_option maxRecDepth 20000 in
theorem t_X10_toldStep_30 {K : KK} (X : CX K cX10_toldStep 3 RX10 (some .int)) (hR : kR K = rmD 3) (v0 : Nat) (kv0 : KA (kDn K) v0 (0, 10)) (v1 : Int32) (S : St) (w : WT (kDn K) S.2.2) : JX K (Zm K (fun v : Int32 => some (.int v))) 30 [some (.ref v0), some (.int v1), none] [] (rwN (kN K) S) (kn K) 0 0 (b_X10_toldStep_30 v0 v1 S) := by
  unfold b_X10_toldStep_30
  refine J_aload_n X dX10_toldStep_30 (i := 0) rfl rfl ?_
  refine J_iconst X (v := (0 : Int32)) dX10_toldStep_31 (by decide) ?_
  refine J_iconst X (v := (3 : Int32)) dX10_toldStep_32 (by decide) ?_
  refine T_callV (As := [.int (0 : Int32), .int (3 : Int32)]) w X (C_X10_bounded (kG K) v0 kv0 (0 : Int32) (3 : Int32) S) cb10 kv0 ml_X10_276 in_yX10_bounded se_yX10_bounded ii_RX10 co_yX10_bounded hy_X10_bounded (hRd hR (by decide) (by decide)) rfl (Nat.le_of_ble_eq_true rfl) dX10_toldStep_33 (fun r2 S1 _ wS1 => ?_)
  refine J_istore_n X (i := 2) (ls' := [some (.ref v0), some (.int v1), some (.int r2)]) dX10_toldStep_36 rfl (by decide) rfl ?_
  refine J_iload_n X dX10_toldStep_37 (i := 1) rfl rfl ?_
  refine J_if_eq X (tgt := 46) dX10_toldStep_38 (by decide) ?_ ?_
  · refine J_iload_n X dX10_toldStep_46 (i := 2) rfl rfl ?_
    exact T_iret wS1 X dX10_toldStep_47
  · refine J_iload_n X dX10_toldStep_41 (i := 2) rfl rfl ?_
    refine J_ineg X dX10_toldStep_42 ?_
    refine J_goto X (tgt := 47) dX10_toldStep_43 (by decide) ?_
    exact T_iret wS1 X dX10_toldStep_47
set_option maxRecDepth 20000 in
def b_X10_toldStep_21 (v0 : Nat) (s0 : Int32) (S : St) : Option (Int32 × St) := if s0 = 0 then (b_X10_toldStep_30 v0 s0 S) else (bd (f_X10_goesOn v0 S) fun _ S1 => b_X10_toldStep_30 v0 s0 S1)
set_option maxRecDepth 20000 in
theorem t_X10_toldStep_21 {K : KK} (X : CX K cX10_toldStep 3 RX10 (some .int)) (hR : kR K = rmD 3) (v0 : Nat) (kv0 : KA (kDn K) v0 (0, 10)) (s0 : Int32) (S : St) (w : WT (kDn K) S.2.2) : JX K (Zm K (fun v : Int32 => some (.int v))) 21 [some (.ref v0), none, none] [.int s0] (rwN (kN K) S) (kn K) 0 0 (b_X10_toldStep_21 v0 s0 S) := by
  unfold b_X10_toldStep_21
  refine J_istore_n X (i := 1) (ls' := [some (.ref v0), some (.int s0), none]) dX10_toldStep_21 rfl (by decide) rfl ?_
  refine J_iload_n X dX10_toldStep_22 (i := 1) rfl rfl ?_
  refine J_if_eq X (tgt := 30) dX10_toldStep_23 (by decide) ?_ ?_
  · exact t_X10_toldStep_30 X hR v0 kv0 s0 S w
  · refine J_aload_n X dX10_toldStep_26 (i := 0) rfl rfl ?_
    refine T_callV (As := []) w X (C_X10_goesOn (kG K) v0 kv0 S) cb10 kv0 ml_X10_230 in_yX10_goesOn se_yX10_goesOn ii_RX10 co_yX10_goesOn hy_X10_goesOn (hRd hR (by decide) (by decide)) rfl (Nat.le_of_ble_eq_true rfl) dX10_toldStep_27 (fun _ S1 _ wS1 => ?_)
    exact t_X10_toldStep_30 X hR v0 kv0 s0 S1 wS1
set_option maxRecDepth 20000 in
def b_X10_toldStep_20 (v0 : Nat) (S : St) : Option (Int32 × St) := b_X10_toldStep_21 v0 (0 : Int32) S
set_option maxRecDepth 20000 in
theorem t_X10_toldStep_20 {K : KK} (X : CX K cX10_toldStep 3 RX10 (some .int)) (hR : kR K = rmD 3) (v0 : Nat) (kv0 : KA (kDn K) v0 (0, 10)) (S : St) (w : WT (kDn K) S.2.2) : JX K (Zm K (fun v : Int32 => some (.int v))) 20 [some (.ref v0), none, none] [] (rwN (kN K) S) (kn K) 0 0 (b_X10_toldStep_20 v0 S) := by
  unfold b_X10_toldStep_20
  refine J_iconst X (v := (0 : Int32)) dX10_toldStep_20 (by decide) ?_
  exact t_X10_toldStep_21 X hR v0 kv0 (0 : Int32) S w
set_option maxRecDepth 20000 in
def f_X10_toldStep (v0 : Nat) (S : St) : Option (Int32 × St) := if (S.1 v0 13) = 0 then (bd (f_X10_is v0 (9 : Int32) S) fun r2 S1 => if r2 = 0 then (b_X10_toldStep_20 v0 S1) else (b_X10_toldStep_21 v0 (1 : Int32) S1)) else (b_X10_toldStep_20 v0 S)
set_option maxRecDepth 20000 in
theorem t_X10_toldStep_0 {K : KK} (X : CX K cX10_toldStep 3 RX10 (some .int)) (hR : kR K = rmD 3) (v0 : Nat) (kv0 : KA (kDn K) v0 (0, 10)) (S : St) (w : WT (kDn K) S.2.2) : JX K (Zm K (fun v : Int32 => some (.int v))) 0 [some (.ref v0), none, none] [] (rwN (kN K) S) (kn K) 0 0 (f_X10_toldStep v0 S) := by
  unfold f_X10_toldStep
  refine J_aload_n X dX10_toldStep_0 (i := 0) rfl rfl ?_
  refine T_getI X (kf := 13) cb10 kv0 (by decide) fl_X10_209 (fun _ _ _ => rfl) dX10_toldStep_1 ?_
  refine J_if_ne X (tgt := 20) dX10_toldStep_4 (by decide) ?_ ?_
  · refine J_aload_n X dX10_toldStep_7 (i := 0) rfl rfl ?_
    refine J_bipush X (v := (9 : Int32)) dX10_toldStep_8 (by decide) ?_
    refine T_callV (As := [.int (9 : Int32)]) w X (C_X10_is (kG K) v0 kv0 (9 : Int32) S) cb10 kv0 ml_X10_227 in_yX10_is se_yX10_is ii_RX10 co_yX10_is hy_X10_is (hRd hR (by decide) (by decide)) rfl (Nat.le_of_ble_eq_true rfl) dX10_toldStep_10 (fun r2 S1 _ wS1 => ?_)
    refine J_if_eq X (tgt := 20) dX10_toldStep_13 (by decide) ?_ ?_
    · exact t_X10_toldStep_20 X hR v0 kv0 S1 wS1
    · refine J_iconst X (v := (1 : Int32)) dX10_toldStep_16 (by decide) ?_
      refine J_goto X (tgt := 21) dX10_toldStep_17 (by decide) ?_
      exact t_X10_toldStep_21 X hR v0 kv0 (1 : Int32) S1 wS1
  · exact t_X10_toldStep_20 X hR v0 kv0 S w
theorem C_X10_toldStep (G : GG) (v0 : Nat) (kv0 : KA (gD G) v0 (0, 10)) (S : St) : CM G yX10_toldStep cX10_toldStep 3 (some .int) 3 [.ref v0] S (fun v : Int32 => some (.int v)) (f_X10_toldStep v0 S) :=
  CM_of (by decide) (Nat.le_of_ble_eq_true rfl) rfl (fun K hG X hR w => by subst hG; exact t_X10_toldStep_0 X hR v0 kv0 S w)
-- ==== X10_endsName
theorem hy_X10_endsName : yX10_endsName.cls ≠ "java/lang/invoke/MethodHandle" ∧ yX10_endsName.cls ≠ "java/lang/invoke/VarHandle" ∧ (parseMethodDescriptor yX10_endsName.desc).map (fun d => d.parameters.length) = some 2 := by decide +kernel
set_option maxRecDepth 20000 in
def f_X10_endsName (v0 : Nat) (v1 : Int32) (v2 : Int32) (S : St) : Option (Unit × St) := bd (f_X10_must v0 (4 : Int32) S) fun _ S1 => if (S1.1 v0 13) ≤ 0 then ((ix v1 403).bind fun j3 => (ix (S1.1 v0 20) 10).bind fun j4 => nm (sL S1 (S1.2.2 v0 21) j4 (S1.2.1 (S1.2.2 v0 8) j3)) fun S5 => (ix (S5.1 v0 20) 10).bind fun j6 => nm (sI S5 (S5.2.2 v0 22) j6 v2) fun S7 => nm (sI S7 v0 20 ((S7.1 v0 20) + (1 : Int32))) fun S8 => some ((), S8)) else (some ((), S1))
set_option maxRecDepth 20000 in
theorem t_X10_endsName_0 {K : KK} (X : CX K cX10_endsName 3 RX10 none) (hR : kR K = rmD 3) (v0 : Nat) (kv0 : KA (kDn K) v0 (0, 10)) (v1 : Int32) (v2 : Int32) (S : St) (w : WT (kDn K) S.2.2) : JX K (Zm K (fun _ : Unit => none)) 0 [some (.ref v0), some (.int v1), some (.int v2)] [] (rwN (kN K) S) (kn K) 0 0 (f_X10_endsName v0 v1 v2 S) := by
  unfold f_X10_endsName
  refine J_aload_n X dX10_endsName_0 (i := 0) rfl rfl ?_
  refine J_iconst X (v := (4 : Int32)) dX10_endsName_1 (by decide) ?_
  refine T_callV (As := [.int (4 : Int32)]) w X (C_X10_must (kG K) v0 kv0 (4 : Int32) S) cb10 kv0 ml_X10_280 in_yX10_must se_yX10_must ii_RX10 co_yX10_must hy_X10_must (hRd hR (by decide) (by decide)) rfl (Nat.le_of_ble_eq_true rfl) dX10_endsName_2 (fun _ S1 _ wS1 => ?_)
  refine J_aload_n X dX10_endsName_5 (i := 0) rfl rfl ?_
  refine T_getI X (kf := 13) cb10 kv0 (by decide) fl_X10_209 (fun _ _ _ => rfl) dX10_endsName_6 ?_
  refine J_if_le X (tgt := 13) dX10_endsName_9 (by decide) ?_ ?_
  · refine J_aload_n X dX10_endsName_13 (i := 0) rfl rfl ?_
    refine T_getR X (kf := 21) cb10 kv0 (by decide) fl_X10_40 (fun _ _ _ => rfl) dX10_endsName_14 ?_
    refine J_aload_n X dX10_endsName_17 (i := 0) rfl rfl ?_
    refine T_getI X (kf := 20) cb10 kv0 (by decide) fl_X10_245 (fun _ _ _ => rfl) dX10_endsName_18 ?_
    refine J_aload_n X dX10_endsName_21 (i := 0) rfl rfl ?_
    refine T_getR X (kf := 8) cb10 kv0 (by decide) fl_X10_30 (fun _ _ _ => rfl) dX10_endsName_22 ?_
    refine J_iload_n X dX10_endsName_25 (i := 1) rfl rfl ?_
    refine T_lald X (wS1.1 _ _ kv0 8 _ rfl) dX10_endsName_26 (fun j3 => ?_)
    refine T_last X (wS1.1 _ _ kv0 21 _ rfl) dX10_endsName_27 (fun j4 S5 hS5 => ?_)
    have wS5 : WT (kDn K) S5.2.2 := by rw [hS5]; exact wS1
    clear hS5
    refine J_aload_n X dX10_endsName_28 (i := 0) rfl rfl ?_
    refine T_getR X (kf := 22) cb10 kv0 (by decide) fl_X10_43 (fun _ _ _ => rfl) dX10_endsName_29 ?_
    refine J_aload_n X dX10_endsName_32 (i := 0) rfl rfl ?_
    refine T_getI X (kf := 20) cb10 kv0 (by decide) fl_X10_245 (fun _ _ _ => rfl) dX10_endsName_33 ?_
    refine J_iload_n X dX10_endsName_36 (i := 2) rfl rfl ?_
    refine T_iast X (wS5.1 _ _ kv0 22 _ rfl) dX10_endsName_37 (fun j6 S7 hS7 => ?_)
    have wS7 : WT (kDn K) S7.2.2 := by rw [hS7]; exact wS5
    clear hS7
    refine J_aload_n X dX10_endsName_38 (i := 0) rfl rfl ?_
    refine J_dup X dX10_endsName_39 rfl ?_
    refine T_getI X (kf := 20) cb10 kv0 (by decide) fl_X10_245 (fun _ _ _ => rfl) dX10_endsName_40 ?_
    refine J_iconst X (v := (1 : Int32)) dX10_endsName_43 (by decide) ?_
    refine J_iadd X dX10_endsName_44 ?_
    refine T_putI X (kf := 20) cb10 kv0 (by decide) fl_X10_245 (fun _ _ _ => rfl) rfl rfl rfl dX10_endsName_45 (fun S8 hS8 => ?_)
    have wS8 : WT (kDn K) S8.2.2 := by rw [hS8]; exact wS7
    clear hS8
    exact T_vret wS8 X dX10_endsName_48
  · exact T_vret wS1 X dX10_endsName_12
theorem C_X10_endsName (G : GG) (v0 : Nat) (kv0 : KA (gD G) v0 (0, 10)) (v1 : Int32) (v2 : Int32) (S : St) : CM G yX10_endsName cX10_endsName 3 none 3 [.ref v0, .int v1, .int v2] S (fun _ : Unit => none) (f_X10_endsName v0 v1 v2 S) :=
  CM_of (by decide) (Nat.le_of_ble_eq_true rfl) rfl (fun K hG X hR w => by subst hG; exact t_X10_endsName_0 X hR v0 kv0 v1 v2 S w)
-- ==== X10_tellMermaid
theorem hy_X10_tellMermaid : yX10_tellMermaid.cls ≠ "java/lang/invoke/MethodHandle" ∧ yX10_tellMermaid.cls ≠ "java/lang/invoke/VarHandle" ∧ (parseMethodDescriptor yX10_tellMermaid.desc).map (fun d => d.parameters.length) = some 0 := by decide +kernel
set_option maxRecDepth 20000 in
def f_X10_tellMermaid (v0 : Nat) (S : St) : Option (Unit × St) := (ix (S.1 v0 19) 2).bind fun j1 => nm (((16 : Int32) * (S.1 v0 19)) + (S.1 (S.2.2 v0 23) j1)) fun x2 => bd (f_X10_named v0 S) fun r4 S3 => bd (f_X10_bounded v0 (0 : Int32) (9 : Int32) S3) fun r6 S5 => (ix x2 32).bind fun j7 => nm (sI S5 (S3.2.2 v0 24) j7 r6) fun S8 => bd (f_X10_bounded v0 (0 : Int32) (9 : Int32) S8) fun r10 S9 => (ix (x2 + (4 : Int32)) 32).bind fun j11 => nm (sI S9 (S8.2.2 v0 24) j11 r10) fun S12 => bd (f_X10_toldStep v0 S12) fun r14 S13 => (ix (x2 + (8 : Int32)) 32).bind fun j15 => nm (sI S13 (S12.2.2 v0 24) j15 r14) fun S16 => bd (f_X10_toldStep v0 S16) fun r18 S17 => (ix (x2 + (12 : Int32)) 32).bind fun j19 => nm (sI S17 (S16.2.2 v0 24) j19 r18) fun S20 => (ix (S20.1 v0 19) 2).bind fun j21 => bd (f_X10_endsName v0 r4 (S20.1 (S20.2.2 v0 23) j21) S20) fun _ S22 => if (S22.1 v0 13) = 0 then (nm (S22.1 v0 19) fun x24 => (ix x24 2).bind fun j25 => (ix x24 2).bind fun j26 => nm (sI S22 (S22.2.2 v0 23) j26 ((S22.1 (S22.2.2 v0 23) j25) + (1 : Int32))) fun S27 => some ((), S27)) else (some ((), S22))
set_option maxRecDepth 20000 in
theorem t_X10_tellMermaid_0 {K : KK} (X : CX K cX10_tellMermaid 3 RX10 none) (hR : kR K = rmD 4) (v0 : Nat) (kv0 : KA (kDn K) v0 (0, 10)) (S : St) (w : WT (kDn K) S.2.2) : JX K (Zm K (fun _ : Unit => none)) 0 [some (.ref v0), none, none] [] (rwN (kN K) S) (kn K) 0 0 (f_X10_tellMermaid v0 S) := by
  unfold f_X10_tellMermaid
  refine J_bipush X (v := (16 : Int32)) dX10_tellMermaid_0 (by decide) ?_
  refine J_aload_n X dX10_tellMermaid_2 (i := 0) rfl rfl ?_
  refine T_getI X (kf := 19) cb10 kv0 (by decide) fl_X10_242 (fun _ _ _ => rfl) dX10_tellMermaid_3 ?_
  refine J_imul X dX10_tellMermaid_6 ?_
  refine J_aload_n X dX10_tellMermaid_7 (i := 0) rfl rfl ?_
  refine T_getR X (kf := 23) cb10 kv0 (by decide) fl_X10_46 (fun _ _ _ => rfl) dX10_tellMermaid_8 ?_
  refine J_aload_n X dX10_tellMermaid_11 (i := 0) rfl rfl ?_
  refine T_getI X (kf := 19) cb10 kv0 (by decide) fl_X10_242 (fun _ _ _ => rfl) dX10_tellMermaid_12 ?_
  refine T_iald X (w.1 _ _ kv0 23 _ rfl) dX10_tellMermaid_15 (fun j1 => ?_)
  refine J_iadd X dX10_tellMermaid_16 ?_
  refine J_nmi (fun x2 => ?_)
  refine J_istore_n X (i := 1) (ls' := [some (.ref v0), some (.int x2), none]) dX10_tellMermaid_17 rfl (by decide) rfl ?_
  refine J_aload_n X dX10_tellMermaid_18 (i := 0) rfl rfl ?_
  refine T_callV (As := []) w X (C_X10_named (kG K) v0 kv0 S) cb10 kv0 ml_X10_289 in_yX10_named se_yX10_named ii_RX10 co_yX10_named hy_X10_named (hRd hR (by decide) (by decide)) rfl (Nat.le_of_ble_eq_true rfl) dX10_tellMermaid_19 (fun r4 S3 _ wS3 => ?_)
  refine J_istore_n X (i := 2) (ls' := [some (.ref v0), some (.int x2), some (.int r4)]) dX10_tellMermaid_22 rfl (by decide) rfl ?_
  refine J_aload_n X dX10_tellMermaid_23 (i := 0) rfl rfl ?_
  refine T_getR X (kf := 24) cb10 kv0 (by decide) fl_X10_49 (fun _ _ _ => rfl) dX10_tellMermaid_24 ?_
  refine J_iload_n X dX10_tellMermaid_27 (i := 1) rfl rfl ?_
  refine J_aload_n X dX10_tellMermaid_28 (i := 0) rfl rfl ?_
  refine J_iconst X (v := (0 : Int32)) dX10_tellMermaid_29 (by decide) ?_
  refine J_bipush X (v := (9 : Int32)) dX10_tellMermaid_30 (by decide) ?_
  refine T_callV (As := [.int (0 : Int32), .int (9 : Int32)]) wS3 X (C_X10_bounded (kG K) v0 kv0 (0 : Int32) (9 : Int32) S3) cb10 kv0 ml_X10_276 in_yX10_bounded se_yX10_bounded ii_RX10 co_yX10_bounded hy_X10_bounded (hRd hR (by decide) (by decide)) rfl (Nat.le_of_ble_eq_true rfl) dX10_tellMermaid_32 (fun r6 S5 _ wS5 => ?_)
  refine T_iast X (wS3.1 _ _ kv0 24 _ rfl) dX10_tellMermaid_35 (fun j7 S8 hS8 => ?_)
  have wS8 : WT (kDn K) S8.2.2 := by rw [hS8]; exact wS5
  clear hS8
  refine J_aload_n X dX10_tellMermaid_36 (i := 0) rfl rfl ?_
  refine T_getR X (kf := 24) cb10 kv0 (by decide) fl_X10_49 (fun _ _ _ => rfl) dX10_tellMermaid_37 ?_
  refine J_iload_n X dX10_tellMermaid_40 (i := 1) rfl rfl ?_
  refine J_iconst X (v := (4 : Int32)) dX10_tellMermaid_41 (by decide) ?_
  refine J_iadd X dX10_tellMermaid_42 ?_
  refine J_aload_n X dX10_tellMermaid_43 (i := 0) rfl rfl ?_
  refine J_iconst X (v := (0 : Int32)) dX10_tellMermaid_44 (by decide) ?_
  refine J_bipush X (v := (9 : Int32)) dX10_tellMermaid_45 (by decide) ?_
  refine T_callV (As := [.int (0 : Int32), .int (9 : Int32)]) wS8 X (C_X10_bounded (kG K) v0 kv0 (0 : Int32) (9 : Int32) S8) cb10 kv0 ml_X10_276 in_yX10_bounded se_yX10_bounded ii_RX10 co_yX10_bounded hy_X10_bounded (hRd hR (by decide) (by decide)) rfl (Nat.le_of_ble_eq_true rfl) dX10_tellMermaid_47 (fun r10 S9 _ wS9 => ?_)
  refine T_iast X (wS8.1 _ _ kv0 24 _ rfl) dX10_tellMermaid_50 (fun j11 S12 hS12 => ?_)
  have wS12 : WT (kDn K) S12.2.2 := by rw [hS12]; exact wS9
  clear hS12
  refine J_aload_n X dX10_tellMermaid_51 (i := 0) rfl rfl ?_
  refine T_getR X (kf := 24) cb10 kv0 (by decide) fl_X10_49 (fun _ _ _ => rfl) dX10_tellMermaid_52 ?_
  refine J_iload_n X dX10_tellMermaid_55 (i := 1) rfl rfl ?_
  refine J_bipush X (v := (8 : Int32)) dX10_tellMermaid_56 (by decide) ?_
  refine J_iadd X dX10_tellMermaid_58 ?_
  refine J_aload_n X dX10_tellMermaid_59 (i := 0) rfl rfl ?_
  refine T_callV (As := []) wS12 X (C_X10_toldStep (kG K) v0 kv0 S12) cb10 kv0 ml_X10_293 in_yX10_toldStep se_yX10_toldStep ii_RX10 co_yX10_toldStep hy_X10_toldStep (hRd hR (by decide) (by decide)) rfl (Nat.le_of_ble_eq_true rfl) dX10_tellMermaid_60 (fun r14 S13 _ wS13 => ?_)
  refine T_iast X (wS12.1 _ _ kv0 24 _ rfl) dX10_tellMermaid_63 (fun j15 S16 hS16 => ?_)
  have wS16 : WT (kDn K) S16.2.2 := by rw [hS16]; exact wS13
  clear hS16
  refine J_aload_n X dX10_tellMermaid_64 (i := 0) rfl rfl ?_
  refine T_getR X (kf := 24) cb10 kv0 (by decide) fl_X10_49 (fun _ _ _ => rfl) dX10_tellMermaid_65 ?_
  refine J_iload_n X dX10_tellMermaid_68 (i := 1) rfl rfl ?_
  refine J_bipush X (v := (12 : Int32)) dX10_tellMermaid_69 (by decide) ?_
  refine J_iadd X dX10_tellMermaid_71 ?_
  refine J_aload_n X dX10_tellMermaid_72 (i := 0) rfl rfl ?_
  refine T_callV (As := []) wS16 X (C_X10_toldStep (kG K) v0 kv0 S16) cb10 kv0 ml_X10_293 in_yX10_toldStep se_yX10_toldStep ii_RX10 co_yX10_toldStep hy_X10_toldStep (hRd hR (by decide) (by decide)) rfl (Nat.le_of_ble_eq_true rfl) dX10_tellMermaid_73 (fun r18 S17 _ wS17 => ?_)
  refine T_iast X (wS16.1 _ _ kv0 24 _ rfl) dX10_tellMermaid_76 (fun j19 S20 hS20 => ?_)
  have wS20 : WT (kDn K) S20.2.2 := by rw [hS20]; exact wS17
  clear hS20
  refine J_aload_n X dX10_tellMermaid_77 (i := 0) rfl rfl ?_
  refine J_iload_n X dX10_tellMermaid_78 (i := 2) rfl rfl ?_
  refine J_aload_n X dX10_tellMermaid_79 (i := 0) rfl rfl ?_
  refine T_getR X (kf := 23) cb10 kv0 (by decide) fl_X10_46 (fun _ _ _ => rfl) dX10_tellMermaid_80 ?_
  refine J_aload_n X dX10_tellMermaid_83 (i := 0) rfl rfl ?_
  refine T_getI X (kf := 19) cb10 kv0 (by decide) fl_X10_242 (fun _ _ _ => rfl) dX10_tellMermaid_84 ?_
  refine T_iald X (wS20.1 _ _ kv0 23 _ rfl) dX10_tellMermaid_87 (fun j21 => ?_)
  refine T_callV (As := [.int r4, .int (S20.1 (S20.2.2 v0 23) j21)]) wS20 X (C_X10_endsName (kG K) v0 kv0 r4 (S20.1 (S20.2.2 v0 23) j21) S20) cb10 kv0 ml_X10_296 in_yX10_endsName se_yX10_endsName ii_RX10 co_yX10_endsName hy_X10_endsName (hRd hR (by decide) (by decide)) rfl (Nat.le_of_ble_eq_true rfl) dX10_tellMermaid_88 (fun _ S22 _ wS22 => ?_)
  refine J_aload_n X dX10_tellMermaid_91 (i := 0) rfl rfl ?_
  refine T_getI X (kf := 13) cb10 kv0 (by decide) fl_X10_209 (fun _ _ _ => rfl) dX10_tellMermaid_92 ?_
  refine J_if_ne X (tgt := 111) dX10_tellMermaid_95 (by decide) ?_ ?_
  · refine J_aload_n X dX10_tellMermaid_98 (i := 0) rfl rfl ?_
    refine T_getR X (kf := 23) cb10 kv0 (by decide) fl_X10_46 (fun _ _ _ => rfl) dX10_tellMermaid_99 ?_
    refine J_aload_n X dX10_tellMermaid_102 (i := 0) rfl rfl ?_
    refine T_getI X (kf := 19) cb10 kv0 (by decide) fl_X10_242 (fun _ _ _ => rfl) dX10_tellMermaid_103 ?_
    refine J_nmi (fun x24 => ?_)
    refine J_dup2 X dX10_tellMermaid_106 rfl rfl ?_
    refine T_iald X (wS22.1 _ _ kv0 23 _ rfl) dX10_tellMermaid_107 (fun j25 => ?_)
    refine J_iconst X (v := (1 : Int32)) dX10_tellMermaid_108 (by decide) ?_
    refine J_iadd X dX10_tellMermaid_109 ?_
    refine T_iast X (wS22.1 _ _ kv0 23 _ rfl) dX10_tellMermaid_110 (fun j26 S27 hS27 => ?_)
    have wS27 : WT (kDn K) S27.2.2 := by rw [hS27]; exact wS22
    clear hS27
    exact T_vret wS27 X dX10_tellMermaid_111
  · exact T_vret wS22 X dX10_tellMermaid_111
theorem C_X10_tellMermaid (G : GG) (v0 : Nat) (kv0 : KA (gD G) v0 (0, 10)) (S : St) : CM G yX10_tellMermaid cX10_tellMermaid 3 none 4 [.ref v0] S (fun _ : Unit => none) (f_X10_tellMermaid v0 S) :=
  CM_of (by decide) (Nat.le_of_ble_eq_true rfl) rfl (fun K hG X hR w => by subst hG; exact t_X10_tellMermaid_0 X hR v0 kv0 S w)
-- ==== X10_tellPerson
theorem hy_X10_tellPerson : yX10_tellPerson.cls ≠ "java/lang/invoke/MethodHandle" ∧ yX10_tellPerson.cls ≠ "java/lang/invoke/VarHandle" ∧ (parseMethodDescriptor yX10_tellPerson.desc).map (fun d => d.parameters.length) = some 0 := by decide +kernel
set_option maxRecDepth 20000 in
def f_X10_tellPerson (v0 : Nat) (S : St) : Option (Unit × St) := (ix (S.1 v0 19) 2).bind fun j1 => nm (((6 : Int32) * (S.1 v0 19)) + (S.1 (S.2.2 v0 25) j1)) fun x2 => bd (f_X10_named v0 S) fun r4 S3 => bd (f_X10_bounded v0 (0 : Int32) (9 : Int32) S3) fun r6 S5 => (ix x2 12).bind fun j7 => nm (sI S5 (S3.2.2 v0 26) j7 r6) fun S8 => bd (f_X10_bounded v0 (0 : Int32) (9 : Int32) S8) fun r10 S9 => (ix x2 12).bind fun j11 => nm (sI S9 (S8.2.2 v0 27) j11 r10) fun S12 => bd (f_X10_bounded v0 (1 : Int32) (99 : Int32) S12) fun r14 S13 => (ix x2 12).bind fun j15 => nm (sI S13 (S12.2.2 v0 28) j15 r14) fun S16 => (ix (S16.1 v0 19) 2).bind fun j17 => bd (f_X10_endsName v0 r4 ((10 : Int32) + (S16.1 (S16.2.2 v0 25) j17)) S16) fun _ S18 => if (S18.1 v0 13) = 0 then (nm (S18.1 v0 19) fun x20 => (ix x20 2).bind fun j21 => (ix x20 2).bind fun j22 => nm (sI S18 (S18.2.2 v0 25) j22 ((S18.1 (S18.2.2 v0 25) j21) + (1 : Int32))) fun S23 => some ((), S23)) else (some ((), S18))
set_option maxRecDepth 20000 in
theorem t_X10_tellPerson_0 {K : KK} (X : CX K cX10_tellPerson 3 RX10 none) (hR : kR K = rmD 4) (v0 : Nat) (kv0 : KA (kDn K) v0 (0, 10)) (S : St) (w : WT (kDn K) S.2.2) : JX K (Zm K (fun _ : Unit => none)) 0 [some (.ref v0), none, none] [] (rwN (kN K) S) (kn K) 0 0 (f_X10_tellPerson v0 S) := by
  unfold f_X10_tellPerson
  refine J_bipush X (v := (6 : Int32)) dX10_tellPerson_0 (by decide) ?_
  refine J_aload_n X dX10_tellPerson_2 (i := 0) rfl rfl ?_
  refine T_getI X (kf := 19) cb10 kv0 (by decide) fl_X10_242 (fun _ _ _ => rfl) dX10_tellPerson_3 ?_
  refine J_imul X dX10_tellPerson_6 ?_
  refine J_aload_n X dX10_tellPerson_7 (i := 0) rfl rfl ?_
  refine T_getR X (kf := 25) cb10 kv0 (by decide) fl_X10_52 (fun _ _ _ => rfl) dX10_tellPerson_8 ?_
  refine J_aload_n X dX10_tellPerson_11 (i := 0) rfl rfl ?_
  refine T_getI X (kf := 19) cb10 kv0 (by decide) fl_X10_242 (fun _ _ _ => rfl) dX10_tellPerson_12 ?_
  refine T_iald X (w.1 _ _ kv0 25 _ rfl) dX10_tellPerson_15 (fun j1 => ?_)
  refine J_iadd X dX10_tellPerson_16 ?_
  refine J_nmi (fun x2 => ?_)
  refine J_istore_n X (i := 1) (ls' := [some (.ref v0), some (.int x2), none]) dX10_tellPerson_17 rfl (by decide) rfl ?_
  refine J_aload_n X dX10_tellPerson_18 (i := 0) rfl rfl ?_
  refine T_callV (As := []) w X (C_X10_named (kG K) v0 kv0 S) cb10 kv0 ml_X10_289 in_yX10_named se_yX10_named ii_RX10 co_yX10_named hy_X10_named (hRd hR (by decide) (by decide)) rfl (Nat.le_of_ble_eq_true rfl) dX10_tellPerson_19 (fun r4 S3 _ wS3 => ?_)
  refine J_istore_n X (i := 2) (ls' := [some (.ref v0), some (.int x2), some (.int r4)]) dX10_tellPerson_22 rfl (by decide) rfl ?_
  refine J_aload_n X dX10_tellPerson_23 (i := 0) rfl rfl ?_
  refine T_getR X (kf := 26) cb10 kv0 (by decide) fl_X10_55 (fun _ _ _ => rfl) dX10_tellPerson_24 ?_
  refine J_iload_n X dX10_tellPerson_27 (i := 1) rfl rfl ?_
  refine J_aload_n X dX10_tellPerson_28 (i := 0) rfl rfl ?_
  refine J_iconst X (v := (0 : Int32)) dX10_tellPerson_29 (by decide) ?_
  refine J_bipush X (v := (9 : Int32)) dX10_tellPerson_30 (by decide) ?_
  refine T_callV (As := [.int (0 : Int32), .int (9 : Int32)]) wS3 X (C_X10_bounded (kG K) v0 kv0 (0 : Int32) (9 : Int32) S3) cb10 kv0 ml_X10_276 in_yX10_bounded se_yX10_bounded ii_RX10 co_yX10_bounded hy_X10_bounded (hRd hR (by decide) (by decide)) rfl (Nat.le_of_ble_eq_true rfl) dX10_tellPerson_32 (fun r6 S5 _ wS5 => ?_)
  refine T_iast X (wS3.1 _ _ kv0 26 _ rfl) dX10_tellPerson_35 (fun j7 S8 hS8 => ?_)
  have wS8 : WT (kDn K) S8.2.2 := by rw [hS8]; exact wS5
  clear hS8
  refine J_aload_n X dX10_tellPerson_36 (i := 0) rfl rfl ?_
  refine T_getR X (kf := 27) cb10 kv0 (by decide) fl_X10_58 (fun _ _ _ => rfl) dX10_tellPerson_37 ?_
  refine J_iload_n X dX10_tellPerson_40 (i := 1) rfl rfl ?_
  refine J_aload_n X dX10_tellPerson_41 (i := 0) rfl rfl ?_
  refine J_iconst X (v := (0 : Int32)) dX10_tellPerson_42 (by decide) ?_
  refine J_bipush X (v := (9 : Int32)) dX10_tellPerson_43 (by decide) ?_
  refine T_callV (As := [.int (0 : Int32), .int (9 : Int32)]) wS8 X (C_X10_bounded (kG K) v0 kv0 (0 : Int32) (9 : Int32) S8) cb10 kv0 ml_X10_276 in_yX10_bounded se_yX10_bounded ii_RX10 co_yX10_bounded hy_X10_bounded (hRd hR (by decide) (by decide)) rfl (Nat.le_of_ble_eq_true rfl) dX10_tellPerson_45 (fun r10 S9 _ wS9 => ?_)
  refine T_iast X (wS8.1 _ _ kv0 27 _ rfl) dX10_tellPerson_48 (fun j11 S12 hS12 => ?_)
  have wS12 : WT (kDn K) S12.2.2 := by rw [hS12]; exact wS9
  clear hS12
  refine J_aload_n X dX10_tellPerson_49 (i := 0) rfl rfl ?_
  refine T_getR X (kf := 28) cb10 kv0 (by decide) fl_X10_61 (fun _ _ _ => rfl) dX10_tellPerson_50 ?_
  refine J_iload_n X dX10_tellPerson_53 (i := 1) rfl rfl ?_
  refine J_aload_n X dX10_tellPerson_54 (i := 0) rfl rfl ?_
  refine J_iconst X (v := (1 : Int32)) dX10_tellPerson_55 (by decide) ?_
  refine J_bipush X (v := (99 : Int32)) dX10_tellPerson_56 (by decide) ?_
  refine T_callV (As := [.int (1 : Int32), .int (99 : Int32)]) wS12 X (C_X10_bounded (kG K) v0 kv0 (1 : Int32) (99 : Int32) S12) cb10 kv0 ml_X10_276 in_yX10_bounded se_yX10_bounded ii_RX10 co_yX10_bounded hy_X10_bounded (hRd hR (by decide) (by decide)) rfl (Nat.le_of_ble_eq_true rfl) dX10_tellPerson_58 (fun r14 S13 _ wS13 => ?_)
  refine T_iast X (wS12.1 _ _ kv0 28 _ rfl) dX10_tellPerson_61 (fun j15 S16 hS16 => ?_)
  have wS16 : WT (kDn K) S16.2.2 := by rw [hS16]; exact wS13
  clear hS16
  refine J_aload_n X dX10_tellPerson_62 (i := 0) rfl rfl ?_
  refine J_iload_n X dX10_tellPerson_63 (i := 2) rfl rfl ?_
  refine J_bipush X (v := (10 : Int32)) dX10_tellPerson_64 (by decide) ?_
  refine J_aload_n X dX10_tellPerson_66 (i := 0) rfl rfl ?_
  refine T_getR X (kf := 25) cb10 kv0 (by decide) fl_X10_52 (fun _ _ _ => rfl) dX10_tellPerson_67 ?_
  refine J_aload_n X dX10_tellPerson_70 (i := 0) rfl rfl ?_
  refine T_getI X (kf := 19) cb10 kv0 (by decide) fl_X10_242 (fun _ _ _ => rfl) dX10_tellPerson_71 ?_
  refine T_iald X (wS16.1 _ _ kv0 25 _ rfl) dX10_tellPerson_74 (fun j17 => ?_)
  refine J_iadd X dX10_tellPerson_75 ?_
  refine T_callV (As := [.int r4, .int ((10 : Int32) + (S16.1 (S16.2.2 v0 25) j17))]) wS16 X (C_X10_endsName (kG K) v0 kv0 r4 ((10 : Int32) + (S16.1 (S16.2.2 v0 25) j17)) S16) cb10 kv0 ml_X10_296 in_yX10_endsName se_yX10_endsName ii_RX10 co_yX10_endsName hy_X10_endsName (hRd hR (by decide) (by decide)) rfl (Nat.le_of_ble_eq_true rfl) dX10_tellPerson_76 (fun _ S18 _ wS18 => ?_)
  refine J_aload_n X dX10_tellPerson_79 (i := 0) rfl rfl ?_
  refine T_getI X (kf := 13) cb10 kv0 (by decide) fl_X10_209 (fun _ _ _ => rfl) dX10_tellPerson_80 ?_
  refine J_if_ne X (tgt := 99) dX10_tellPerson_83 (by decide) ?_ ?_
  · refine J_aload_n X dX10_tellPerson_86 (i := 0) rfl rfl ?_
    refine T_getR X (kf := 25) cb10 kv0 (by decide) fl_X10_52 (fun _ _ _ => rfl) dX10_tellPerson_87 ?_
    refine J_aload_n X dX10_tellPerson_90 (i := 0) rfl rfl ?_
    refine T_getI X (kf := 19) cb10 kv0 (by decide) fl_X10_242 (fun _ _ _ => rfl) dX10_tellPerson_91 ?_
    refine J_nmi (fun x20 => ?_)
    refine J_dup2 X dX10_tellPerson_94 rfl rfl ?_
    refine T_iald X (wS18.1 _ _ kv0 25 _ rfl) dX10_tellPerson_95 (fun j21 => ?_)
    refine J_iconst X (v := (1 : Int32)) dX10_tellPerson_96 (by decide) ?_
    refine J_iadd X dX10_tellPerson_97 ?_
    refine T_iast X (wS18.1 _ _ kv0 25 _ rfl) dX10_tellPerson_98 (fun j22 S23 hS23 => ?_)
    have wS23 : WT (kDn K) S23.2.2 := by rw [hS23]; exact wS18
    clear hS23
    exact T_vret wS23 X dX10_tellPerson_99
  · exact T_vret wS18 X dX10_tellPerson_99
theorem C_X10_tellPerson (G : GG) (v0 : Nat) (kv0 : KA (gD G) v0 (0, 10)) (S : St) : CM G yX10_tellPerson cX10_tellPerson 3 none 4 [.ref v0] S (fun _ : Unit => none) (f_X10_tellPerson v0 S) :=
  CM_of (by decide) (Nat.le_of_ble_eq_true rfl) rfl (fun K hG X hR w => by subst hG; exact t_X10_tellPerson_0 X hR v0 kv0 S w)
-- ==== X10_known
theorem hy_X10_known : yX10_known.cls ≠ "java/lang/invoke/MethodHandle" ∧ yX10_known.cls ≠ "java/lang/invoke/VarHandle" ∧ (parseMethodDescriptor yX10_known.desc).map (fun d => d.parameters.length) = some 1 := by decide +kernel
set_option maxRecDepth 20000 in
def b_X10_known_77 (q21 : Nat → Int32 → Int32 → Int32 → St → Option (Int32 × St)) (v0 : Nat) (v1 : Int32) (v2 : Int32) (v3 : Int32) (S : St) : Option (Int32 × St) := nm (v3 + (1 : Int32)) fun x1 => q21 v0 v1 v2 x1 S
set_option maxRecDepth 20000 in
theorem t_X10_known_77 {K : KK} (X : CX K cX10_known 4 RX10 (some .int)) (hR : kR K = rmD 3) {q21 : Nat → Int32 → Int32 → Int32 → St → Option (Int32 × St)} (hq21 : ∀ (v0 : Nat) (kv0 : KA (kDn K) v0 (0, 10)) (v1 : Int32) (v2 : Int32) (v3 : Int32) (S : St), WT (kDn K) S.2.2 → JX K (Zm K (fun v : Int32 => some (.int v))) 21 [some (.ref v0), some (.int v1), some (.int v2), some (.int v3)] [] (rwN (kN K) S) (kn K) 0 0 (q21 v0 v1 v2 v3 S)) (v0 : Nat) (kv0 : KA (kDn K) v0 (0, 10)) (v1 : Int32) (v2 : Int32) (v3 : Int32) (S : St) (w : WT (kDn K) S.2.2) : JX K (Zm K (fun v : Int32 => some (.int v))) 77 [some (.ref v0), some (.int v1), some (.int v2), some (.int v3)] [] (rwN (kN K) S) (kn K) 0 0 (b_X10_known_77 q21 v0 v1 v2 v3 S) := by
  unfold b_X10_known_77
  refine J_nmv (v3 + (1 : Int32)) (fun x1 ex1 => ?_)
  refine J_iinc X (v := x1) (ls' := [some (.ref v0), some (.int v1), some (.int v2), some (.int x1)]) dX10_known_77 (by decide) rfl (by rw [ex1]; rfl) rfl ?_
  refine J_goto X (tgt := 21) dX10_known_80 (by decide) ?_
  exact hq21 v0 kv0 v1 v2 x1 S w
set_option maxRecDepth 20000 in
def b_X10_known_21 : Nat → Nat → Int32 → Int32 → Int32 → St → Option (Int32 × St)
  | 0, _, _, _, _, _ => none
  | fu + 1, v0, v1, v2, v3, S => if (S.1 v0 20) ≤ v3 then (bd (f_X10_wrong v0 (4 : Int32) v2 S) fun _ S1 => some ((-1 : Int32), S1)) else ((ix v3 10).bind fun j3 => (ix v2 403).bind fun j4 => if (lg_cmp (S.2.1 (S.2.2 v0 21) j3) (S.2.1 (S.2.2 v0 8) j4)) = 0 then ((ix v3 10).bind fun j5 => if (S.1 (S.2.2 v0 22) j5) < v1 then (b_X10_known_77 (b_X10_known_21 fu) v0 v1 v2 v3 S) else ((ix v3 10).bind fun j6 => if (v1 + (10 : Int32)) ≤ (S.1 (S.2.2 v0 22) j6) then (b_X10_known_77 (b_X10_known_21 fu) v0 v1 v2 v3 S) else ((ix v3 10).bind fun j7 => some ((S.1 (S.2.2 v0 22) j7) - v1, S)))) else (b_X10_known_77 (b_X10_known_21 fu) v0 v1 v2 v3 S))
set_option maxRecDepth 20000 in
theorem t_X10_known_21 {K : KK} (X : CX K cX10_known 4 RX10 (some .int)) (hR : kR K = rmD 3) : ∀ (fu : Nat) (v0 : Nat) (kv0 : KA (kDn K) v0 (0, 10)) (v1 : Int32) (v2 : Int32) (v3 : Int32) (S : St), WT (kDn K) S.2.2 → JX K (Zm K (fun v : Int32 => some (.int v))) 21 [some (.ref v0), some (.int v1), some (.int v2), some (.int v3)] [] (rwN (kN K) S) (kn K) 0 0 (b_X10_known_21 fu v0 v1 v2 v3 S) := by
  intro fu
  induction fu with
  | zero => intro v0 kv0 v1 v2 v3 S w; exact J_none
  | succ fu ih =>
    intro v0 kv0 v1 v2 v3 S w
    rw [b_X10_known_21]
    refine J_iload_n X dX10_known_21 (i := 3) rfl rfl ?_
    refine J_aload_n X dX10_known_22 (i := 0) rfl rfl ?_
    refine T_getI X (kf := 20) cb10 kv0 (by decide) fl_X10_245 (fun _ _ _ => rfl) dX10_known_23 ?_
    refine J_icmp_ge X (tgt := 83) dX10_known_26 (by decide) ?_ ?_
    · refine J_aload_n X dX10_known_83 (i := 0) rfl rfl ?_
      refine J_iconst X (v := (4 : Int32)) dX10_known_84 (by decide) ?_
      refine J_iload_n X dX10_known_85 (i := 2) rfl rfl ?_
      refine T_callV (As := [.int (4 : Int32), .int v2]) w X (C_X10_wrong (kG K) v0 kv0 (4 : Int32) v2 S) cb10 kv0 ml_X10_286 in_yX10_wrong se_yX10_wrong ii_RX10 co_yX10_wrong hy_X10_wrong (hRd hR (by decide) (by decide)) rfl (Nat.le_of_ble_eq_true rfl) dX10_known_86 (fun _ S1 _ wS1 => ?_)
      refine J_iconst X (v := (-1 : Int32)) dX10_known_89 (by decide) ?_
      exact T_iret wS1 X dX10_known_90
    · refine J_aload_n X dX10_known_29 (i := 0) rfl rfl ?_
      refine T_getR X (kf := 21) cb10 kv0 (by decide) fl_X10_40 (fun _ _ _ => rfl) dX10_known_30 ?_
      refine J_iload_n X dX10_known_33 (i := 3) rfl rfl ?_
      refine T_lald X (w.1 _ _ kv0 21 _ rfl) dX10_known_34 (fun j3 => ?_)
      refine J_aload_n X dX10_known_35 (i := 0) rfl rfl ?_
      refine T_getR X (kf := 8) cb10 kv0 (by decide) fl_X10_30 (fun _ _ _ => rfl) dX10_known_36 ?_
      refine J_iload_n X dX10_known_39 (i := 2) rfl rfl ?_
      refine T_lald X (w.1 _ _ kv0 8 _ rfl) dX10_known_40 (fun j4 => ?_)
      refine J_lcmp X dX10_known_41 ?_
      refine J_if_ne X (tgt := 77) dX10_known_42 (by decide) ?_ ?_
      · refine J_aload_n X dX10_known_45 (i := 0) rfl rfl ?_
        refine T_getR X (kf := 22) cb10 kv0 (by decide) fl_X10_43 (fun _ _ _ => rfl) dX10_known_46 ?_
        refine J_iload_n X dX10_known_49 (i := 3) rfl rfl ?_
        refine T_iald X (w.1 _ _ kv0 22 _ rfl) dX10_known_50 (fun j5 => ?_)
        refine J_iload_n X dX10_known_51 (i := 1) rfl rfl ?_
        refine J_icmp_lt X (tgt := 77) dX10_known_52 (by decide) ?_ ?_
        · exact t_X10_known_77 X hR ih v0 kv0 v1 v2 v3 S w
        · refine J_aload_n X dX10_known_55 (i := 0) rfl rfl ?_
          refine T_getR X (kf := 22) cb10 kv0 (by decide) fl_X10_43 (fun _ _ _ => rfl) dX10_known_56 ?_
          refine J_iload_n X dX10_known_59 (i := 3) rfl rfl ?_
          refine T_iald X (w.1 _ _ kv0 22 _ rfl) dX10_known_60 (fun j6 => ?_)
          refine J_iload_n X dX10_known_61 (i := 1) rfl rfl ?_
          refine J_bipush X (v := (10 : Int32)) dX10_known_62 (by decide) ?_
          refine J_iadd X dX10_known_64 ?_
          refine J_icmp_ge X (tgt := 77) dX10_known_65 (by decide) ?_ ?_
          · exact t_X10_known_77 X hR ih v0 kv0 v1 v2 v3 S w
          · refine J_aload_n X dX10_known_68 (i := 0) rfl rfl ?_
            refine T_getR X (kf := 22) cb10 kv0 (by decide) fl_X10_43 (fun _ _ _ => rfl) dX10_known_69 ?_
            refine J_iload_n X dX10_known_72 (i := 3) rfl rfl ?_
            refine T_iald X (w.1 _ _ kv0 22 _ rfl) dX10_known_73 (fun j7 => ?_)
            refine J_iload_n X dX10_known_74 (i := 1) rfl rfl ?_
            refine J_isub X dX10_known_75 ?_
            exact T_iret w X dX10_known_76
      · exact t_X10_known_77 X hR ih v0 kv0 v1 v2 v3 S w
set_option maxRecDepth 20000 in
def f_X10_known (v0 : Nat) (v1 : Int32) (S : St) : Option (Int32 × St) := nm (S.1 v0 11) fun x1 => bd (f_X10_must v0 (1 : Int32) S) fun _ S2 => if (S2.1 v0 13) ≤ 0 then (b_X10_known_21 FU v0 v1 x1 (0 : Int32) S2) else (some ((-1 : Int32), S2))
set_option maxRecDepth 20000 in
theorem t_X10_known_0 {K : KK} (X : CX K cX10_known 4 RX10 (some .int)) (hR : kR K = rmD 3) (v0 : Nat) (kv0 : KA (kDn K) v0 (0, 10)) (v1 : Int32) (S : St) (w : WT (kDn K) S.2.2) : JX K (Zm K (fun v : Int32 => some (.int v))) 0 [some (.ref v0), some (.int v1), none, none] [] (rwN (kN K) S) (kn K) 0 0 (f_X10_known v0 v1 S) := by
  unfold f_X10_known
  refine J_aload_n X dX10_known_0 (i := 0) rfl rfl ?_
  refine T_getI X (kf := 11) cb10 kv0 (by decide) fl_X10_212 (fun _ _ _ => rfl) dX10_known_1 ?_
  refine J_nmi (fun x1 => ?_)
  refine J_istore_n X (i := 2) (ls' := [some (.ref v0), some (.int v1), some (.int x1), none]) dX10_known_4 rfl (by decide) rfl ?_
  refine J_aload_n X dX10_known_5 (i := 0) rfl rfl ?_
  refine J_iconst X (v := (1 : Int32)) dX10_known_6 (by decide) ?_
  refine T_callV (As := [.int (1 : Int32)]) w X (C_X10_must (kG K) v0 kv0 (1 : Int32) S) cb10 kv0 ml_X10_280 in_yX10_must se_yX10_must ii_RX10 co_yX10_must hy_X10_must (hRd hR (by decide) (by decide)) rfl (Nat.le_of_ble_eq_true rfl) dX10_known_7 (fun _ S2 _ wS2 => ?_)
  refine J_aload_n X dX10_known_10 (i := 0) rfl rfl ?_
  refine T_getI X (kf := 13) cb10 kv0 (by decide) fl_X10_209 (fun _ _ _ => rfl) dX10_known_11 ?_
  refine J_if_le X (tgt := 19) dX10_known_14 (by decide) ?_ ?_
  · refine J_iconst X (v := (0 : Int32)) dX10_known_19 (by decide) ?_
    refine J_istore_n X (i := 3) (ls' := [some (.ref v0), some (.int v1), some (.int x1), some (.int (0 : Int32))]) dX10_known_20 rfl (by decide) rfl ?_
    exact t_X10_known_21 X hR FU v0 kv0 v1 x1 (0 : Int32) S2 wS2
  · refine J_iconst X (v := (-1 : Int32)) dX10_known_17 (by decide) ?_
    exact T_iret wS2 X dX10_known_18
theorem C_X10_known (G : GG) (v0 : Nat) (kv0 : KA (gD G) v0 (0, 10)) (v1 : Int32) (S : St) : CM G yX10_known cX10_known 4 (some .int) 3 [.ref v0, .int v1] S (fun v : Int32 => some (.int v)) (f_X10_known v0 v1 S) :=
  CM_of (by decide) (Nat.le_of_ble_eq_true rfl) rfl (fun K hG X hR w => by subst hG; exact t_X10_known_0 X hR v0 kv0 v1 S w)
-- ==== X10_tellStrand
theorem hy_X10_tellStrand : yX10_tellStrand.cls ≠ "java/lang/invoke/MethodHandle" ∧ yX10_tellStrand.cls ≠ "java/lang/invoke/VarHandle" ∧ (parseMethodDescriptor yX10_tellStrand.desc).map (fun d => d.parameters.length) = some 0 := by decide +kernel
set_option maxRecDepth 20000 in
def f_X10_tellStrand (v0 : Nat) (S : St) : Option (Unit × St) := (ix (S.1 v0 19) 2).bind fun j1 => nm (((8 : Int32) * (S.1 v0 19)) + (S.1 (S.2.2 v0 29) j1)) fun x2 => bd (f_X10_known v0 (0 : Int32) S) fun r4 S3 => (ix x2 16).bind fun j5 => nm (sI S3 (S.2.2 v0 30) j5 r4) fun S6 => bd (f_X10_known v0 (10 : Int32) S6) fun r8 S7 => (ix x2 16).bind fun j9 => nm (sI S7 (S6.2.2 v0 31) j9 r8) fun S10 => bd (f_X10_bounded v0 (1 : Int32) (9 : Int32) S10) fun r12 S11 => (ix x2 16).bind fun j13 => nm (sI S11 (S10.2.2 v0 32) j13 r12) fun S14 => bd (f_X10_must v0 (4 : Int32) S14) fun _ S15 => if (S15.1 v0 13) = 0 then (nm (S15.1 v0 19) fun x17 => (ix x17 2).bind fun j18 => (ix x17 2).bind fun j19 => nm (sI S15 (S15.2.2 v0 29) j19 ((S15.1 (S15.2.2 v0 29) j18) + (1 : Int32))) fun S20 => some ((), S20)) else (some ((), S15))
set_option maxRecDepth 20000 in
theorem t_X10_tellStrand_0 {K : KK} (X : CX K cX10_tellStrand 2 RX10 none) (hR : kR K = rmD 4) (v0 : Nat) (kv0 : KA (kDn K) v0 (0, 10)) (S : St) (w : WT (kDn K) S.2.2) : JX K (Zm K (fun _ : Unit => none)) 0 [some (.ref v0), none] [] (rwN (kN K) S) (kn K) 0 0 (f_X10_tellStrand v0 S) := by
  unfold f_X10_tellStrand
  refine J_bipush X (v := (8 : Int32)) dX10_tellStrand_0 (by decide) ?_
  refine J_aload_n X dX10_tellStrand_2 (i := 0) rfl rfl ?_
  refine T_getI X (kf := 19) cb10 kv0 (by decide) fl_X10_242 (fun _ _ _ => rfl) dX10_tellStrand_3 ?_
  refine J_imul X dX10_tellStrand_6 ?_
  refine J_aload_n X dX10_tellStrand_7 (i := 0) rfl rfl ?_
  refine T_getR X (kf := 29) cb10 kv0 (by decide) fl_X10_64 (fun _ _ _ => rfl) dX10_tellStrand_8 ?_
  refine J_aload_n X dX10_tellStrand_11 (i := 0) rfl rfl ?_
  refine T_getI X (kf := 19) cb10 kv0 (by decide) fl_X10_242 (fun _ _ _ => rfl) dX10_tellStrand_12 ?_
  refine T_iald X (w.1 _ _ kv0 29 _ rfl) dX10_tellStrand_15 (fun j1 => ?_)
  refine J_iadd X dX10_tellStrand_16 ?_
  refine J_nmi (fun x2 => ?_)
  refine J_istore_n X (i := 1) (ls' := [some (.ref v0), some (.int x2)]) dX10_tellStrand_17 rfl (by decide) rfl ?_
  refine J_aload_n X dX10_tellStrand_18 (i := 0) rfl rfl ?_
  refine T_getR X (kf := 30) cb10 kv0 (by decide) fl_X10_67 (fun _ _ _ => rfl) dX10_tellStrand_19 ?_
  refine J_iload_n X dX10_tellStrand_22 (i := 1) rfl rfl ?_
  refine J_aload_n X dX10_tellStrand_23 (i := 0) rfl rfl ?_
  refine J_iconst X (v := (0 : Int32)) dX10_tellStrand_24 (by decide) ?_
  refine T_callV (As := [.int (0 : Int32)]) w X (C_X10_known (kG K) v0 kv0 (0 : Int32) S) cb10 kv0 ml_X10_299 in_yX10_known se_yX10_known ii_RX10 co_yX10_known hy_X10_known (hRd hR (by decide) (by decide)) rfl (Nat.le_of_ble_eq_true rfl) dX10_tellStrand_25 (fun r4 S3 _ wS3 => ?_)
  refine T_iast X (w.1 _ _ kv0 30 _ rfl) dX10_tellStrand_28 (fun j5 S6 hS6 => ?_)
  have wS6 : WT (kDn K) S6.2.2 := by rw [hS6]; exact wS3
  clear hS6
  refine J_aload_n X dX10_tellStrand_29 (i := 0) rfl rfl ?_
  refine T_getR X (kf := 31) cb10 kv0 (by decide) fl_X10_70 (fun _ _ _ => rfl) dX10_tellStrand_30 ?_
  refine J_iload_n X dX10_tellStrand_33 (i := 1) rfl rfl ?_
  refine J_aload_n X dX10_tellStrand_34 (i := 0) rfl rfl ?_
  refine J_bipush X (v := (10 : Int32)) dX10_tellStrand_35 (by decide) ?_
  refine T_callV (As := [.int (10 : Int32)]) wS6 X (C_X10_known (kG K) v0 kv0 (10 : Int32) S6) cb10 kv0 ml_X10_299 in_yX10_known se_yX10_known ii_RX10 co_yX10_known hy_X10_known (hRd hR (by decide) (by decide)) rfl (Nat.le_of_ble_eq_true rfl) dX10_tellStrand_37 (fun r8 S7 _ wS7 => ?_)
  refine T_iast X (wS6.1 _ _ kv0 31 _ rfl) dX10_tellStrand_40 (fun j9 S10 hS10 => ?_)
  have wS10 : WT (kDn K) S10.2.2 := by rw [hS10]; exact wS7
  clear hS10
  refine J_aload_n X dX10_tellStrand_41 (i := 0) rfl rfl ?_
  refine T_getR X (kf := 32) cb10 kv0 (by decide) fl_X10_73 (fun _ _ _ => rfl) dX10_tellStrand_42 ?_
  refine J_iload_n X dX10_tellStrand_45 (i := 1) rfl rfl ?_
  refine J_aload_n X dX10_tellStrand_46 (i := 0) rfl rfl ?_
  refine J_iconst X (v := (1 : Int32)) dX10_tellStrand_47 (by decide) ?_
  refine J_bipush X (v := (9 : Int32)) dX10_tellStrand_48 (by decide) ?_
  refine T_callV (As := [.int (1 : Int32), .int (9 : Int32)]) wS10 X (C_X10_bounded (kG K) v0 kv0 (1 : Int32) (9 : Int32) S10) cb10 kv0 ml_X10_276 in_yX10_bounded se_yX10_bounded ii_RX10 co_yX10_bounded hy_X10_bounded (hRd hR (by decide) (by decide)) rfl (Nat.le_of_ble_eq_true rfl) dX10_tellStrand_50 (fun r12 S11 _ wS11 => ?_)
  refine T_iast X (wS10.1 _ _ kv0 32 _ rfl) dX10_tellStrand_53 (fun j13 S14 hS14 => ?_)
  have wS14 : WT (kDn K) S14.2.2 := by rw [hS14]; exact wS11
  clear hS14
  refine J_aload_n X dX10_tellStrand_54 (i := 0) rfl rfl ?_
  refine J_iconst X (v := (4 : Int32)) dX10_tellStrand_55 (by decide) ?_
  refine T_callV (As := [.int (4 : Int32)]) wS14 X (C_X10_must (kG K) v0 kv0 (4 : Int32) S14) cb10 kv0 ml_X10_280 in_yX10_must se_yX10_must ii_RX10 co_yX10_must hy_X10_must (hRd hR (by decide) (by decide)) rfl (Nat.le_of_ble_eq_true rfl) dX10_tellStrand_56 (fun _ S15 _ wS15 => ?_)
  refine J_aload_n X dX10_tellStrand_59 (i := 0) rfl rfl ?_
  refine T_getI X (kf := 13) cb10 kv0 (by decide) fl_X10_209 (fun _ _ _ => rfl) dX10_tellStrand_60 ?_
  refine J_if_ne X (tgt := 79) dX10_tellStrand_63 (by decide) ?_ ?_
  · refine J_aload_n X dX10_tellStrand_66 (i := 0) rfl rfl ?_
    refine T_getR X (kf := 29) cb10 kv0 (by decide) fl_X10_64 (fun _ _ _ => rfl) dX10_tellStrand_67 ?_
    refine J_aload_n X dX10_tellStrand_70 (i := 0) rfl rfl ?_
    refine T_getI X (kf := 19) cb10 kv0 (by decide) fl_X10_242 (fun _ _ _ => rfl) dX10_tellStrand_71 ?_
    refine J_nmi (fun x17 => ?_)
    refine J_dup2 X dX10_tellStrand_74 rfl rfl ?_
    refine T_iald X (wS15.1 _ _ kv0 29 _ rfl) dX10_tellStrand_75 (fun j18 => ?_)
    refine J_iconst X (v := (1 : Int32)) dX10_tellStrand_76 (by decide) ?_
    refine J_iadd X dX10_tellStrand_77 ?_
    refine T_iast X (wS15.1 _ _ kv0 29 _ rfl) dX10_tellStrand_78 (fun j19 S20 hS20 => ?_)
    have wS20 : WT (kDn K) S20.2.2 := by rw [hS20]; exact wS15
    clear hS20
    exact T_vret wS20 X dX10_tellStrand_79
  · exact T_vret wS15 X dX10_tellStrand_79
theorem C_X10_tellStrand (G : GG) (v0 : Nat) (kv0 : KA (gD G) v0 (0, 10)) (S : St) : CM G yX10_tellStrand cX10_tellStrand 2 none 4 [.ref v0] S (fun _ : Unit => none) (f_X10_tellStrand v0 S) :=
  CM_of (by decide) (Nat.le_of_ble_eq_true rfl) rfl (fun K hG X hR w => by subst hG; exact t_X10_tellStrand_0 X hR v0 kv0 S w)
-- ==== X10_emit
theorem hy_X10_emit : yX10_emit.cls ≠ "java/lang/invoke/MethodHandle" ∧ yX10_emit.cls ≠ "java/lang/invoke/VarHandle" ∧ (parseMethodDescriptor yX10_emit.desc).map (fun d => d.parameters.length) = some 2 := by decide +kernel
set_option maxRecDepth 20000 in
def f_X10_emit (v0 : Nat) (v1 : Int32) (v2 : Int32) (S : St) : Option (Unit × St) := (ix (S.1 v0 43) 840).bind fun j1 => nm (sI S (S.2.2 v0 44) j1 v1) fun S2 => (ix (S2.1 v0 43) 840).bind fun j3 => nm (sI S2 (S2.2.2 v0 45) j3 v2) fun S4 => nm (sI S4 v0 43 ((S4.1 v0 43) + (1 : Int32))) fun S5 => some ((), S5)
set_option maxRecDepth 20000 in
theorem t_X10_emit_0 {K : KK} (X : CX K cX10_emit 3 RX10 none) (hR : kR K = rmD 0) (v0 : Nat) (kv0 : KA (kDn K) v0 (0, 10)) (v1 : Int32) (v2 : Int32) (S : St) (w : WT (kDn K) S.2.2) : JX K (Zm K (fun _ : Unit => none)) 0 [some (.ref v0), some (.int v1), some (.int v2)] [] (rwN (kN K) S) (kn K) 0 0 (f_X10_emit v0 v1 v2 S) := by
  unfold f_X10_emit
  refine J_aload_n X dX10_emit_0 (i := 0) rfl rfl ?_
  refine T_getR X (kf := 44) cb10 kv0 (by decide) fl_X10_104 (fun _ _ _ => rfl) dX10_emit_1 ?_
  refine J_aload_n X dX10_emit_4 (i := 0) rfl rfl ?_
  refine T_getI X (kf := 43) cb10 kv0 (by decide) fl_X10_251 (fun _ _ _ => rfl) dX10_emit_5 ?_
  refine J_iload_n X dX10_emit_8 (i := 1) rfl rfl ?_
  refine T_iast X (w.1 _ _ kv0 44 _ rfl) dX10_emit_9 (fun j1 S2 hS2 => ?_)
  have wS2 : WT (kDn K) S2.2.2 := by rw [hS2]; exact w
  clear hS2
  refine J_aload_n X dX10_emit_10 (i := 0) rfl rfl ?_
  refine T_getR X (kf := 45) cb10 kv0 (by decide) fl_X10_107 (fun _ _ _ => rfl) dX10_emit_11 ?_
  refine J_aload_n X dX10_emit_14 (i := 0) rfl rfl ?_
  refine T_getI X (kf := 43) cb10 kv0 (by decide) fl_X10_251 (fun _ _ _ => rfl) dX10_emit_15 ?_
  refine J_iload_n X dX10_emit_18 (i := 2) rfl rfl ?_
  refine T_iast X (wS2.1 _ _ kv0 45 _ rfl) dX10_emit_19 (fun j3 S4 hS4 => ?_)
  have wS4 : WT (kDn K) S4.2.2 := by rw [hS4]; exact wS2
  clear hS4
  refine J_aload_n X dX10_emit_20 (i := 0) rfl rfl ?_
  refine J_dup X dX10_emit_21 rfl ?_
  refine T_getI X (kf := 43) cb10 kv0 (by decide) fl_X10_251 (fun _ _ _ => rfl) dX10_emit_22 ?_
  refine J_iconst X (v := (1 : Int32)) dX10_emit_25 (by decide) ?_
  refine J_iadd X dX10_emit_26 ?_
  refine T_putI X (kf := 43) cb10 kv0 (by decide) fl_X10_251 (fun _ _ _ => rfl) rfl rfl rfl dX10_emit_27 (fun S5 hS5 => ?_)
  have wS5 : WT (kDn K) S5.2.2 := by rw [hS5]; exact wS4
  clear hS5
  exact T_vret wS5 X dX10_emit_30
theorem C_X10_emit (G : GG) (v0 : Nat) (kv0 : KA (gD G) v0 (0, 10)) (v1 : Int32) (v2 : Int32) (S : St) : CM G yX10_emit cX10_emit 3 none 0 [.ref v0, .int v1, .int v2] S (fun _ : Unit => none) (f_X10_emit v0 v1 v2 S) :=
  CM_of (by decide) (Nat.le_of_ble_eq_true rfl) rfl (fun K hG X hR w => by subst hG; exact t_X10_emit_0 X hR v0 kv0 v1 v2 S w)
-- ==== X10_unit
theorem hy_X10_unit : yX10_unit.cls ≠ "java/lang/invoke/MethodHandle" ∧ yX10_unit.cls ≠ "java/lang/invoke/VarHandle" ∧ (parseMethodDescriptor yX10_unit.desc).map (fun d => d.parameters.length) = some 0 := by decide +kernel
set_option maxRecDepth 20000 in
def b_X10_unit_88 (v0 : Nat) (S : St) : Option (Unit × St) := bd (f_X10_fail v0 (1 : Int32) S) fun _ S1 => some ((), S1)
set_option maxRecDepth 20000 in
theorem t_X10_unit_88 {K : KK} (X : CX K cX10_unit 1 RX10 none) (hR : kR K = rmD 2) (v0 : Nat) (kv0 : KA (kDn K) v0 (0, 10)) (S : St) (w : WT (kDn K) S.2.2) : JX K (Zm K (fun _ : Unit => none)) 88 [some (.ref v0)] [] (rwN (kN K) S) (kn K) 0 0 (b_X10_unit_88 v0 S) := by
  unfold b_X10_unit_88
  refine J_aload_n X dX10_unit_88 (i := 0) rfl rfl ?_
  refine J_iconst X (v := (1 : Int32)) dX10_unit_89 (by decide) ?_
  refine T_callV (As := [.int (1 : Int32)]) w X (C_X10_fail (kG K) v0 kv0 (1 : Int32) S) cb10 kv0 ml_X10_224 in_yX10_fail se_yX10_fail ii_RX10 co_yX10_fail hy_X10_fail (hRd hR (by decide) (by decide)) rfl (Nat.le_of_ble_eq_true rfl) dX10_unit_90 (fun _ S1 _ wS1 => ?_)
  exact T_vret wS1 X dX10_unit_93
set_option maxRecDepth 20000 in
def f_X10_unit (v0 : Nat) (S : St) : Option (Unit × St) := bd (f_X10_is v0 (2 : Int32) S) fun r2 S1 => if r2 = 0 then (if (S1.1 v0 13) = 0 then ((ix (S1.1 v0 11) 403).bind fun j3 => if (S1.1 (S1.2.2 v0 5) j3) < (32 : Int32) then (b_X10_unit_88 v0 S1) else ((ix (S1.1 v0 11) 403).bind fun j4 => if (40 : Int32) < (S1.1 (S1.2.2 v0 5) j4) then (b_X10_unit_88 v0 S1) else ((ix (S1.1 v0 11) 403).bind fun j5 => bd (f_X10_emit v0 (1 : Int32) ((S1.1 (S1.2.2 v0 5) j5) - (32 : Int32)) S1) fun _ S6 => bd (f_X10_goesOn v0 S6) fun _ S8 => some ((), S8)))) else (b_X10_unit_88 v0 S1)) else ((ix (S1.1 v0 11) 403).bind fun j10 => bd (f_X10_emit v0 (0 : Int32) (S1.1 (S1.2.2 v0 7) j10) S1) fun _ S11 => bd (f_X10_goesOn v0 S11) fun _ S13 => some ((), S13))
set_option maxRecDepth 20000 in
theorem t_X10_unit_0 {K : KK} (X : CX K cX10_unit 1 RX10 none) (hR : kR K = rmD 2) (v0 : Nat) (kv0 : KA (kDn K) v0 (0, 10)) (S : St) (w : WT (kDn K) S.2.2) : JX K (Zm K (fun _ : Unit => none)) 0 [some (.ref v0)] [] (rwN (kN K) S) (kn K) 0 0 (f_X10_unit v0 S) := by
  unfold f_X10_unit
  refine J_aload_n X dX10_unit_0 (i := 0) rfl rfl ?_
  refine J_iconst X (v := (2 : Int32)) dX10_unit_1 (by decide) ?_
  refine T_callV (As := [.int (2 : Int32)]) w X (C_X10_is (kG K) v0 kv0 (2 : Int32) S) cb10 kv0 ml_X10_227 in_yX10_is se_yX10_is ii_RX10 co_yX10_is hy_X10_is (hRd hR (by decide) (by decide)) rfl (Nat.le_of_ble_eq_true rfl) dX10_unit_2 (fun r2 S1 _ wS1 => ?_)
  refine J_if_eq X (tgt := 29) dX10_unit_5 (by decide) ?_ ?_
  · refine J_aload_n X dX10_unit_29 (i := 0) rfl rfl ?_
    refine T_getI X (kf := 13) cb10 kv0 (by decide) fl_X10_209 (fun _ _ _ => rfl) dX10_unit_30 ?_
    refine J_if_ne X (tgt := 88) dX10_unit_33 (by decide) ?_ ?_
    · refine J_aload_n X dX10_unit_36 (i := 0) rfl rfl ?_
      refine T_getR X (kf := 5) cb10 kv0 (by decide) fl_X10_20 (fun _ _ _ => rfl) dX10_unit_37 ?_
      refine J_aload_n X dX10_unit_40 (i := 0) rfl rfl ?_
      refine T_getI X (kf := 11) cb10 kv0 (by decide) fl_X10_212 (fun _ _ _ => rfl) dX10_unit_41 ?_
      refine T_iald X (wS1.1 _ _ kv0 5 _ rfl) dX10_unit_44 (fun j3 => ?_)
      refine J_bipush X (v := (32 : Int32)) dX10_unit_45 (by decide) ?_
      refine J_icmp_lt X (tgt := 88) dX10_unit_47 (by decide) ?_ ?_
      · exact t_X10_unit_88 X hR v0 kv0 S1 wS1
      · refine J_aload_n X dX10_unit_50 (i := 0) rfl rfl ?_
        refine T_getR X (kf := 5) cb10 kv0 (by decide) fl_X10_20 (fun _ _ _ => rfl) dX10_unit_51 ?_
        refine J_aload_n X dX10_unit_54 (i := 0) rfl rfl ?_
        refine T_getI X (kf := 11) cb10 kv0 (by decide) fl_X10_212 (fun _ _ _ => rfl) dX10_unit_55 ?_
        refine T_iald X (wS1.1 _ _ kv0 5 _ rfl) dX10_unit_58 (fun j4 => ?_)
        refine J_bipush X (v := (40 : Int32)) dX10_unit_59 (by decide) ?_
        refine J_icmp_gt X (tgt := 88) dX10_unit_61 (by decide) ?_ ?_
        · exact t_X10_unit_88 X hR v0 kv0 S1 wS1
        · refine J_aload_n X dX10_unit_64 (i := 0) rfl rfl ?_
          refine J_iconst X (v := (1 : Int32)) dX10_unit_65 (by decide) ?_
          refine J_aload_n X dX10_unit_66 (i := 0) rfl rfl ?_
          refine T_getR X (kf := 5) cb10 kv0 (by decide) fl_X10_20 (fun _ _ _ => rfl) dX10_unit_67 ?_
          refine J_aload_n X dX10_unit_70 (i := 0) rfl rfl ?_
          refine T_getI X (kf := 11) cb10 kv0 (by decide) fl_X10_212 (fun _ _ _ => rfl) dX10_unit_71 ?_
          refine T_iald X (wS1.1 _ _ kv0 5 _ rfl) dX10_unit_74 (fun j5 => ?_)
          refine J_bipush X (v := (32 : Int32)) dX10_unit_75 (by decide) ?_
          refine J_isub X dX10_unit_77 ?_
          refine T_callV (As := [.int (1 : Int32), .int ((S1.1 (S1.2.2 v0 5) j5) - (32 : Int32))]) wS1 X (C_X10_emit (kG K) v0 kv0 (1 : Int32) ((S1.1 (S1.2.2 v0 5) j5) - (32 : Int32)) S1) cb10 kv0 ml_X10_311 in_yX10_emit se_yX10_emit ii_RX10 co_yX10_emit hy_X10_emit (hRd hR (by decide) (by decide)) rfl (Nat.le_of_ble_eq_true rfl) dX10_unit_78 (fun _ S6 _ wS6 => ?_)
          refine J_aload_n X dX10_unit_81 (i := 0) rfl rfl ?_
          refine T_callV (As := []) wS6 X (C_X10_goesOn (kG K) v0 kv0 S6) cb10 kv0 ml_X10_230 in_yX10_goesOn se_yX10_goesOn ii_RX10 co_yX10_goesOn hy_X10_goesOn (hRd hR (by decide) (by decide)) rfl (Nat.le_of_ble_eq_true rfl) dX10_unit_82 (fun _ S8 _ wS8 => ?_)
          refine J_goto X (tgt := 93) dX10_unit_85 (by decide) ?_
          exact T_vret wS8 X dX10_unit_93
    · exact t_X10_unit_88 X hR v0 kv0 S1 wS1
  · refine J_aload_n X dX10_unit_8 (i := 0) rfl rfl ?_
    refine J_iconst X (v := (0 : Int32)) dX10_unit_9 (by decide) ?_
    refine J_aload_n X dX10_unit_10 (i := 0) rfl rfl ?_
    refine T_getR X (kf := 7) cb10 kv0 (by decide) fl_X10_27 (fun _ _ _ => rfl) dX10_unit_11 ?_
    refine J_aload_n X dX10_unit_14 (i := 0) rfl rfl ?_
    refine T_getI X (kf := 11) cb10 kv0 (by decide) fl_X10_212 (fun _ _ _ => rfl) dX10_unit_15 ?_
    refine T_iald X (wS1.1 _ _ kv0 7 _ rfl) dX10_unit_18 (fun j10 => ?_)
    refine T_callV (As := [.int (0 : Int32), .int (S1.1 (S1.2.2 v0 7) j10)]) wS1 X (C_X10_emit (kG K) v0 kv0 (0 : Int32) (S1.1 (S1.2.2 v0 7) j10) S1) cb10 kv0 ml_X10_311 in_yX10_emit se_yX10_emit ii_RX10 co_yX10_emit hy_X10_emit (hRd hR (by decide) (by decide)) rfl (Nat.le_of_ble_eq_true rfl) dX10_unit_19 (fun _ S11 _ wS11 => ?_)
    refine J_aload_n X dX10_unit_22 (i := 0) rfl rfl ?_
    refine T_callV (As := []) wS11 X (C_X10_goesOn (kG K) v0 kv0 S11) cb10 kv0 ml_X10_230 in_yX10_goesOn se_yX10_goesOn ii_RX10 co_yX10_goesOn hy_X10_goesOn (hRd hR (by decide) (by decide)) rfl (Nat.le_of_ble_eq_true rfl) dX10_unit_23 (fun _ S13 _ wS13 => ?_)
    refine J_goto X (tgt := 93) dX10_unit_26 (by decide) ?_
    exact T_vret wS13 X dX10_unit_93
theorem C_X10_unit (G : GG) (v0 : Nat) (kv0 : KA (gD G) v0 (0, 10)) (S : St) : CM G yX10_unit cX10_unit 1 none 2 [.ref v0] S (fun _ : Unit => none) (f_X10_unit v0 S) :=
  CM_of (by decide) (Nat.le_of_ble_eq_true rfl) rfl (fun K hG X hR w => by subst hG; exact t_X10_unit_0 X hR v0 kv0 S w)
-- ==== X10_comesOut
theorem hy_X10_comesOut : yX10_comesOut.cls ≠ "java/lang/invoke/MethodHandle" ∧ yX10_comesOut.cls ≠ "java/lang/invoke/VarHandle" ∧ (parseMethodDescriptor yX10_comesOut.desc).map (fun d => d.parameters.length) = some 1 := by decide +kernel
set_option maxRecDepth 20000 in
def b_X10_comesOut_84 (q0 : Nat → Int32 → St → Option (Unit × St)) (v0 : Nat) (v1 : Int32) (s0 : Nat) (s1 : Int32) (S : St) : Option (Unit × St) := bd (f_X10_emit s0 s1 (0 : Int32) S) fun _ S1 => q0 v0 v1 S1
set_option maxRecDepth 20000 in
theorem t_X10_comesOut_84 {K : KK} (X : CX K cX10_comesOut 3 RX10 none) (hR : kR K = rmD 1) {q0 : Nat → Int32 → St → Option (Unit × St)} (hq0 : ∀ (v0 : Nat) (kv0 : KA (kDn K) v0 (0, 10)) (v1 : Int32) (S : St), WT (kDn K) S.2.2 → JX K (Zm K (fun _ : Unit => none)) 0 [some (.ref v0), some (.int v1), none] [] (rwN (kN K) S) (kn K) 0 0 (q0 v0 v1 S)) (v0 : Nat) (kv0 : KA (kDn K) v0 (0, 10)) (v1 : Int32) (s0 : Nat) (ks0 : KA (kDn K) s0 (0, 10)) (s1 : Int32) (S : St) (w : WT (kDn K) S.2.2) : JX K (Zm K (fun _ : Unit => none)) 84 [some (.ref v0), some (.int v1), none] [.int s1, .ref s0] (rwN (kN K) S) (kn K) 0 0 (b_X10_comesOut_84 q0 v0 v1 s0 s1 S) := by
  unfold b_X10_comesOut_84
  refine J_iconst X (v := (0 : Int32)) dX10_comesOut_84 (by decide) ?_
  refine T_callV (As := [.int s1, .int (0 : Int32)]) w X (C_X10_emit (kG K) s0 ks0 s1 (0 : Int32) S) cb10 ks0 ml_X10_311 in_yX10_emit se_yX10_emit ii_RX10 co_yX10_emit hy_X10_emit (hRd hR (by decide) (by decide)) rfl (Nat.le_of_ble_eq_true rfl) dX10_comesOut_85 (fun _ S1 _ wS1 => ?_)
  refine J_goto X (tgt := 0) dX10_comesOut_88 (by decide) ?_
  exact hq0 v0 kv0 v1 S1 wS1
set_option maxRecDepth 20000 in
def b_X10_comesOut_42 (q0 : Nat → Int32 → St → Option (Unit × St)) (v0 : Nat) (v1 : Int32) (v2 : Int32) (S : St) : Option (Unit × St) := nm (sI S v0 47 ((S.1 v0 47) - (1 : Int32))) fun S1 => if v2 = (8 : Int32) then (b_X10_comesOut_84 q0 v0 v1 v0 (2 : Int32) S1) else (if v2 = (9 : Int32) then (b_X10_comesOut_84 q0 v0 v1 v0 (3 : Int32) S1) else (if v2 = (10 : Int32) then (b_X10_comesOut_84 q0 v0 v1 v0 (4 : Int32) S1) else (b_X10_comesOut_84 q0 v0 v1 v0 (5 : Int32) S1)))
set_option maxRecDepth 20000 in
theorem t_X10_comesOut_42 {K : KK} (X : CX K cX10_comesOut 3 RX10 none) (hR : kR K = rmD 1) {q0 : Nat → Int32 → St → Option (Unit × St)} (hq0 : ∀ (v0 : Nat) (kv0 : KA (kDn K) v0 (0, 10)) (v1 : Int32) (S : St), WT (kDn K) S.2.2 → JX K (Zm K (fun _ : Unit => none)) 0 [some (.ref v0), some (.int v1), none] [] (rwN (kN K) S) (kn K) 0 0 (q0 v0 v1 S)) (v0 : Nat) (kv0 : KA (kDn K) v0 (0, 10)) (v1 : Int32) (v2 : Int32) (S : St) (w : WT (kDn K) S.2.2) : JX K (Zm K (fun _ : Unit => none)) 42 [some (.ref v0), some (.int v1), some (.int v2)] [] (rwN (kN K) S) (kn K) 0 0 (b_X10_comesOut_42 q0 v0 v1 v2 S) := by
  unfold b_X10_comesOut_42
  refine J_aload_n X dX10_comesOut_42 (i := 0) rfl rfl ?_
  refine J_dup X dX10_comesOut_43 rfl ?_
  refine T_getI X (kf := 47) cb10 kv0 (by decide) fl_X10_308 (fun _ _ _ => rfl) dX10_comesOut_44 ?_
  refine J_iconst X (v := (1 : Int32)) dX10_comesOut_47 (by decide) ?_
  refine J_isub X dX10_comesOut_48 ?_
  refine T_putI X (kf := 47) cb10 kv0 (by decide) fl_X10_308 (fun _ _ _ => rfl) rfl rfl rfl dX10_comesOut_49 (fun S1 hS1 => ?_)
  have wS1 : WT (kDn K) S1.2.2 := by rw [hS1]; exact w
  clear hS1
  refine J_aload_n X dX10_comesOut_52 (i := 0) rfl rfl ?_
  refine J_iload_n X dX10_comesOut_53 (i := 2) rfl rfl ?_
  refine J_bipush X (v := (8 : Int32)) dX10_comesOut_54 (by decide) ?_
  refine J_icmp_ne X (tgt := 63) dX10_comesOut_56 (by decide) ?_ ?_
  · refine J_iconst X (v := (2 : Int32)) dX10_comesOut_59 (by decide) ?_
    refine J_goto X (tgt := 84) dX10_comesOut_60 (by decide) ?_
    refine J_mask [true, true, false] ?_
    exact t_X10_comesOut_84 X hR hq0 v0 kv0 v1 v0 kv0 (2 : Int32) S1 wS1
  · refine J_iload_n X dX10_comesOut_63 (i := 2) rfl rfl ?_
    refine J_bipush X (v := (9 : Int32)) dX10_comesOut_64 (by decide) ?_
    refine J_icmp_ne X (tgt := 73) dX10_comesOut_66 (by decide) ?_ ?_
    · refine J_iconst X (v := (3 : Int32)) dX10_comesOut_69 (by decide) ?_
      refine J_goto X (tgt := 84) dX10_comesOut_70 (by decide) ?_
      refine J_mask [true, true, false] ?_
      exact t_X10_comesOut_84 X hR hq0 v0 kv0 v1 v0 kv0 (3 : Int32) S1 wS1
    · refine J_iload_n X dX10_comesOut_73 (i := 2) rfl rfl ?_
      refine J_bipush X (v := (10 : Int32)) dX10_comesOut_74 (by decide) ?_
      refine J_icmp_ne X (tgt := 83) dX10_comesOut_76 (by decide) ?_ ?_
      · refine J_iconst X (v := (4 : Int32)) dX10_comesOut_79 (by decide) ?_
        refine J_goto X (tgt := 84) dX10_comesOut_80 (by decide) ?_
        refine J_mask [true, true, false] ?_
        exact t_X10_comesOut_84 X hR hq0 v0 kv0 v1 v0 kv0 (4 : Int32) S1 wS1
      · refine J_iconst X (v := (5 : Int32)) dX10_comesOut_83 (by decide) ?_
        refine J_mask [true, true, false] ?_
        exact t_X10_comesOut_84 X hR hq0 v0 kv0 v1 v0 kv0 (5 : Int32) S1 wS1
set_option maxRecDepth 20000 in
def b_X10_comesOut_0 : Nat → Nat → Int32 → St → Option (Unit × St)
  | 0, _, _, _ => none
  | fu + 1, v0, v1, S => if (S.1 v0 47) ≤ 0 then (some ((), S)) else ((ix ((S.1 v0 47) - (1 : Int32)) 64).bind fun j1 => nm (S.1 (S.2.2 v0 46) j1) fun x2 => if x2 = (6 : Int32) then (some ((), S)) else (if v1 = 0 then (b_X10_comesOut_42 (b_X10_comesOut_0 fu) v0 v1 x2 S) else (if x2 = (8 : Int32) then (some ((), S)) else (if x2 = (9 : Int32) then (some ((), S)) else (b_X10_comesOut_42 (b_X10_comesOut_0 fu) v0 v1 x2 S)))))
set_option maxRecDepth 20000 in
theorem t_X10_comesOut_0 {K : KK} (X : CX K cX10_comesOut 3 RX10 none) (hR : kR K = rmD 1) : ∀ (fu : Nat) (v0 : Nat) (kv0 : KA (kDn K) v0 (0, 10)) (v1 : Int32) (S : St), WT (kDn K) S.2.2 → JX K (Zm K (fun _ : Unit => none)) 0 [some (.ref v0), some (.int v1), none] [] (rwN (kN K) S) (kn K) 0 0 (b_X10_comesOut_0 fu v0 v1 S) := by
  intro fu
  induction fu with
  | zero => intro v0 kv0 v1 S w; exact J_none
  | succ fu ih =>
    intro v0 kv0 v1 S w
    rw [b_X10_comesOut_0]
    refine J_aload_n X dX10_comesOut_0 (i := 0) rfl rfl ?_
    refine T_getI X (kf := 47) cb10 kv0 (by decide) fl_X10_308 (fun _ _ _ => rfl) dX10_comesOut_1 ?_
    refine J_if_le X (tgt := 91) dX10_comesOut_4 (by decide) ?_ ?_
    · exact T_vret w X dX10_comesOut_91
    · refine J_aload_n X dX10_comesOut_7 (i := 0) rfl rfl ?_
      refine T_getR X (kf := 46) cb10 kv0 (by decide) fl_X10_110 (fun _ _ _ => rfl) dX10_comesOut_8 ?_
      refine J_aload_n X dX10_comesOut_11 (i := 0) rfl rfl ?_
      refine T_getI X (kf := 47) cb10 kv0 (by decide) fl_X10_308 (fun _ _ _ => rfl) dX10_comesOut_12 ?_
      refine J_iconst X (v := (1 : Int32)) dX10_comesOut_15 (by decide) ?_
      refine J_isub X dX10_comesOut_16 ?_
      refine T_iald X (w.1 _ _ kv0 46 _ rfl) dX10_comesOut_17 (fun j1 => ?_)
      refine J_nmi (fun x2 => ?_)
      refine J_istore_n X (i := 2) (ls' := [some (.ref v0), some (.int v1), some (.int x2)]) dX10_comesOut_18 rfl (by decide) rfl ?_
      refine J_iload_n X dX10_comesOut_19 (i := 2) rfl rfl ?_
      refine J_bipush X (v := (6 : Int32)) dX10_comesOut_20 (by decide) ?_
      refine J_icmp_eq X (tgt := 41) dX10_comesOut_22 (by decide) ?_ ?_
      · exact T_vret w X dX10_comesOut_41
      · refine J_iload_n X dX10_comesOut_25 (i := 1) rfl rfl ?_
        refine J_if_eq X (tgt := 42) dX10_comesOut_26 (by decide) ?_ ?_
        · exact t_X10_comesOut_42 X hR ih v0 kv0 v1 x2 S w
        · refine J_iload_n X dX10_comesOut_29 (i := 2) rfl rfl ?_
          refine J_bipush X (v := (8 : Int32)) dX10_comesOut_30 (by decide) ?_
          refine J_icmp_eq X (tgt := 41) dX10_comesOut_32 (by decide) ?_ ?_
          · exact T_vret w X dX10_comesOut_41
          · refine J_iload_n X dX10_comesOut_35 (i := 2) rfl rfl ?_
            refine J_bipush X (v := (9 : Int32)) dX10_comesOut_36 (by decide) ?_
            refine J_icmp_ne X (tgt := 42) dX10_comesOut_38 (by decide) ?_ ?_
            · exact T_vret w X dX10_comesOut_41
            · exact t_X10_comesOut_42 X hR ih v0 kv0 v1 x2 S w
set_option maxRecDepth 20000 in
def f_X10_comesOut (v0 : Nat) (v1 : Int32) (S : St) : Option (Unit × St) := b_X10_comesOut_0 FU v0 v1 S
theorem C_X10_comesOut (G : GG) (v0 : Nat) (kv0 : KA (gD G) v0 (0, 10)) (v1 : Int32) (S : St) : CM G yX10_comesOut cX10_comesOut 3 none 1 [.ref v0, .int v1] S (fun _ : Unit => none) (f_X10_comesOut v0 v1 S) :=
  CM_of (by decide) (Nat.le_of_ble_eq_true rfl) rfl (fun K hG X hR w => by subst hG; exact t_X10_comesOut_0 X hR FU v0 kv0 v1 S w)
-- ==== X10_expression
theorem hy_X10_expression : yX10_expression.cls ≠ "java/lang/invoke/MethodHandle" ∧ yX10_expression.cls ≠ "java/lang/invoke/VarHandle" ∧ (parseMethodDescriptor yX10_expression.desc).map (fun d => d.parameters.length) = some 0 := by decide +kernel
set_option maxRecDepth 20000 in
def b_X10_expression_234 (q12 : Nat → Int32 → Int32 → St → Option (Unit × St)) (v0 : Nat) (v1 : Int32) (v2 : Int32) (s0 : Nat) (s1 : Int32) (S : St) : Option (Unit × St) := bd (f_X10_comesOut s0 s1 S) fun _ S1 => (ix (S1.1 v0 11) 403).bind fun j3 => (ix (S1.1 v0 47) 64).bind fun j4 => nm (sI S1 (S1.2.2 v0 46) j4 (S1.1 (S1.2.2 v0 5) j3)) fun S5 => nm (sI S5 v0 47 ((S5.1 v0 47) + (1 : Int32))) fun S6 => bd (f_X10_goesOn v0 S6) fun _ S7 => q12 v0 v1 v2 S7
set_option maxRecDepth 20000 in
theorem t_X10_expression_234 {K : KK} (X : CX K cX10_expression 3 RX10 none) (hR : kR K = rmD 3) {q12 : Nat → Int32 → Int32 → St → Option (Unit × St)} (hq12 : ∀ (v0 : Nat) (kv0 : KA (kDn K) v0 (0, 10)) (v1 : Int32) (v2 : Int32) (S : St), WT (kDn K) S.2.2 → JX K (Zm K (fun _ : Unit => none)) 12 [some (.ref v0), some (.int v1), some (.int v2)] [] (rwN (kN K) S) (kn K) 0 0 (q12 v0 v1 v2 S)) (v0 : Nat) (kv0 : KA (kDn K) v0 (0, 10)) (v1 : Int32) (v2 : Int32) (s0 : Nat) (ks0 : KA (kDn K) s0 (0, 10)) (s1 : Int32) (S : St) (w : WT (kDn K) S.2.2) : JX K (Zm K (fun _ : Unit => none)) 234 [some (.ref v0), some (.int v1), some (.int v2)] [.int s1, .ref s0] (rwN (kN K) S) (kn K) 0 0 (b_X10_expression_234 q12 v0 v1 v2 s0 s1 S) := by
  unfold b_X10_expression_234
  refine T_callV (As := [.int s1]) w X (C_X10_comesOut (kG K) s0 ks0 s1 S) cb10 ks0 ml_X10_317 in_yX10_comesOut se_yX10_comesOut ii_RX10 co_yX10_comesOut hy_X10_comesOut (hRd hR (by decide) (by decide)) rfl (Nat.le_of_ble_eq_true rfl) dX10_expression_234 (fun _ S1 _ wS1 => ?_)
  refine J_aload_n X dX10_expression_237 (i := 0) rfl rfl ?_
  refine T_getR X (kf := 46) cb10 kv0 (by decide) fl_X10_110 (fun _ _ _ => rfl) dX10_expression_238 ?_
  refine J_aload_n X dX10_expression_241 (i := 0) rfl rfl ?_
  refine T_getI X (kf := 47) cb10 kv0 (by decide) fl_X10_308 (fun _ _ _ => rfl) dX10_expression_242 ?_
  refine J_aload_n X dX10_expression_245 (i := 0) rfl rfl ?_
  refine T_getR X (kf := 5) cb10 kv0 (by decide) fl_X10_20 (fun _ _ _ => rfl) dX10_expression_246 ?_
  refine J_aload_n X dX10_expression_249 (i := 0) rfl rfl ?_
  refine T_getI X (kf := 11) cb10 kv0 (by decide) fl_X10_212 (fun _ _ _ => rfl) dX10_expression_250 ?_
  refine T_iald X (wS1.1 _ _ kv0 5 _ rfl) dX10_expression_253 (fun j3 => ?_)
  refine T_iast X (wS1.1 _ _ kv0 46 _ rfl) dX10_expression_254 (fun j4 S5 hS5 => ?_)
  have wS5 : WT (kDn K) S5.2.2 := by rw [hS5]; exact wS1
  clear hS5
  refine J_aload_n X dX10_expression_255 (i := 0) rfl rfl ?_
  refine J_dup X dX10_expression_256 rfl ?_
  refine T_getI X (kf := 47) cb10 kv0 (by decide) fl_X10_308 (fun _ _ _ => rfl) dX10_expression_257 ?_
  refine J_iconst X (v := (1 : Int32)) dX10_expression_260 (by decide) ?_
  refine J_iadd X dX10_expression_261 ?_
  refine T_putI X (kf := 47) cb10 kv0 (by decide) fl_X10_308 (fun _ _ _ => rfl) rfl rfl rfl dX10_expression_262 (fun S6 hS6 => ?_)
  have wS6 : WT (kDn K) S6.2.2 := by rw [hS6]; exact wS5
  clear hS6
  refine J_aload_n X dX10_expression_265 (i := 0) rfl rfl ?_
  refine T_callV (As := []) wS6 X (C_X10_goesOn (kG K) v0 kv0 S6) cb10 kv0 ml_X10_230 in_yX10_goesOn se_yX10_goesOn ii_RX10 co_yX10_goesOn hy_X10_goesOn (hRd hR (by decide) (by decide)) rfl (Nat.le_of_ble_eq_true rfl) dX10_expression_266 (fun _ S7 _ wS7 => ?_)
  refine J_goto X (tgt := 12) dX10_expression_269 (by decide) ?_
  exact hq12 v0 kv0 v1 v2 S7 wS7
set_option maxRecDepth 20000 in
def b_X10_expression_229 (q12 : Nat → Int32 → Int32 → St → Option (Unit × St)) (v0 : Nat) (v1 : Int32) (v2 : Int32) (s0 : Nat) (S : St) : Option (Unit × St) := b_X10_expression_234 q12 v0 v1 v2 s0 (1 : Int32) S
set_option maxRecDepth 20000 in
theorem t_X10_expression_229 {K : KK} (X : CX K cX10_expression 3 RX10 none) (hR : kR K = rmD 3) {q12 : Nat → Int32 → Int32 → St → Option (Unit × St)} (hq12 : ∀ (v0 : Nat) (kv0 : KA (kDn K) v0 (0, 10)) (v1 : Int32) (v2 : Int32) (S : St), WT (kDn K) S.2.2 → JX K (Zm K (fun _ : Unit => none)) 12 [some (.ref v0), some (.int v1), some (.int v2)] [] (rwN (kN K) S) (kn K) 0 0 (q12 v0 v1 v2 S)) (v0 : Nat) (kv0 : KA (kDn K) v0 (0, 10)) (v1 : Int32) (v2 : Int32) (s0 : Nat) (ks0 : KA (kDn K) s0 (0, 10)) (S : St) (w : WT (kDn K) S.2.2) : JX K (Zm K (fun _ : Unit => none)) 229 [some (.ref v0), some (.int v1), some (.int v2)] [.ref s0] (rwN (kN K) S) (kn K) 0 0 (b_X10_expression_229 q12 v0 v1 v2 s0 S) := by
  unfold b_X10_expression_229
  refine J_iconst X (v := (1 : Int32)) dX10_expression_229 (by decide) ?_
  refine J_goto X (tgt := 234) dX10_expression_230 (by decide) ?_
  exact t_X10_expression_234 X hR hq12 v0 kv0 v1 v2 s0 ks0 (1 : Int32) S w
set_option maxRecDepth 20000 in
def b_X10_expression_204 (v0 : Nat) (S : St) : Option (Unit × St) := bd (f_X10_comesOut v0 (0 : Int32) S) fun _ S1 => some ((), S1)
set_option maxRecDepth 20000 in
theorem t_X10_expression_204 {K : KK} (X : CX K cX10_expression 3 RX10 none) (hR : kR K = rmD 3) (v0 : Nat) (kv0 : KA (kDn K) v0 (0, 10)) (S : St) (w : WT (kDn K) S.2.2) : JX K (Zm K (fun _ : Unit => none)) 204 [some (.ref v0), none, none] [] (rwN (kN K) S) (kn K) 0 0 (b_X10_expression_204 v0 S) := by
  unfold b_X10_expression_204
  refine J_aload_n X dX10_expression_204 (i := 0) rfl rfl ?_
  refine J_iconst X (v := (0 : Int32)) dX10_expression_205 (by decide) ?_
  refine T_callV (As := [.int (0 : Int32)]) w X (C_X10_comesOut (kG K) v0 kv0 (0 : Int32) S) cb10 kv0 ml_X10_317 in_yX10_comesOut se_yX10_comesOut ii_RX10 co_yX10_comesOut hy_X10_comesOut (hRd hR (by decide) (by decide)) rfl (Nat.le_of_ble_eq_true rfl) dX10_expression_206 (fun _ S1 _ wS1 => ?_)
  exact T_vret wS1 X dX10_expression_209
set_option maxRecDepth 20000 in
def b_X10_expression_186 (q12 : Nat → Int32 → Int32 → St → Option (Unit × St)) (v0 : Nat) (v1 : Int32) (s0 : Int32) (S : St) : Option (Unit × St) := if s0 = 0 then (if (S.1 v0 12) ≤ v1 then (b_X10_expression_204 v0 S) else (bd (f_X10_fail v0 (1 : Int32) S) fun _ S1 => b_X10_expression_204 v0 S1)) else (bd (f_X10_is v0 (10 : Int32) S) fun r4 S3 => if r4 = 0 then (bd (f_X10_is v0 (15 : Int32) S3) fun r6 S5 => if r6 = 0 then (b_X10_expression_234 q12 v0 v1 s0 v0 (0 : Int32) S5) else (b_X10_expression_229 q12 v0 v1 s0 v0 S5)) else (b_X10_expression_229 q12 v0 v1 s0 v0 S3))
set_option maxRecDepth 20000 in
theorem t_X10_expression_186 {K : KK} (X : CX K cX10_expression 3 RX10 none) (hR : kR K = rmD 3) {q12 : Nat → Int32 → Int32 → St → Option (Unit × St)} (hq12 : ∀ (v0 : Nat) (kv0 : KA (kDn K) v0 (0, 10)) (v1 : Int32) (v2 : Int32) (S : St), WT (kDn K) S.2.2 → JX K (Zm K (fun _ : Unit => none)) 12 [some (.ref v0), some (.int v1), some (.int v2)] [] (rwN (kN K) S) (kn K) 0 0 (q12 v0 v1 v2 S)) (v0 : Nat) (kv0 : KA (kDn K) v0 (0, 10)) (v1 : Int32) (s0 : Int32) (S : St) (w : WT (kDn K) S.2.2) : JX K (Zm K (fun _ : Unit => none)) 186 [some (.ref v0), some (.int v1), none] [.int s0] (rwN (kN K) S) (kn K) 0 0 (b_X10_expression_186 q12 v0 v1 s0 S) := by
  unfold b_X10_expression_186
  refine J_istore_n X (i := 2) (ls' := [some (.ref v0), some (.int v1), some (.int s0)]) dX10_expression_186 rfl (by decide) rfl ?_
  refine J_iload_n X dX10_expression_187 (i := 2) rfl rfl ?_
  refine J_if_ne X (tgt := 210) dX10_expression_188 (by decide) ?_ ?_
  · refine J_aload_n X dX10_expression_191 (i := 0) rfl rfl ?_
    refine T_getI X (kf := 12) cb10 kv0 (by decide) fl_X10_236 (fun _ _ _ => rfl) dX10_expression_192 ?_
    refine J_iload_n X dX10_expression_195 (i := 1) rfl rfl ?_
    refine J_icmp_le X (tgt := 204) dX10_expression_196 (by decide) ?_ ?_
    · refine J_mask [true, false, false] ?_
      exact t_X10_expression_204 X hR v0 kv0 S w
    · refine J_aload_n X dX10_expression_199 (i := 0) rfl rfl ?_
      refine J_iconst X (v := (1 : Int32)) dX10_expression_200 (by decide) ?_
      refine T_callV (As := [.int (1 : Int32)]) w X (C_X10_fail (kG K) v0 kv0 (1 : Int32) S) cb10 kv0 ml_X10_224 in_yX10_fail se_yX10_fail ii_RX10 co_yX10_fail hy_X10_fail (hRd hR (by decide) (by decide)) rfl (Nat.le_of_ble_eq_true rfl) dX10_expression_201 (fun _ S1 _ wS1 => ?_)
      refine J_mask [true, false, false] ?_
      exact t_X10_expression_204 X hR v0 kv0 S1 wS1
  · refine J_aload_n X dX10_expression_210 (i := 0) rfl rfl ?_
    refine J_aload_n X dX10_expression_211 (i := 0) rfl rfl ?_
    refine J_bipush X (v := (10 : Int32)) dX10_expression_212 (by decide) ?_
    refine T_callV (As := [.int (10 : Int32)]) w X (C_X10_is (kG K) v0 kv0 (10 : Int32) S) cb10 kv0 ml_X10_227 in_yX10_is se_yX10_is ii_RX10 co_yX10_is hy_X10_is (hRd hR (by decide) (by decide)) rfl (Nat.le_of_ble_eq_true rfl) dX10_expression_214 (fun r4 S3 _ wS3 => ?_)
    refine J_if_ne X (tgt := 229) dX10_expression_217 (by decide) ?_ ?_
    · refine J_aload_n X dX10_expression_220 (i := 0) rfl rfl ?_
      refine J_bipush X (v := (15 : Int32)) dX10_expression_221 (by decide) ?_
      refine T_callV (As := [.int (15 : Int32)]) wS3 X (C_X10_is (kG K) v0 kv0 (15 : Int32) S3) cb10 kv0 ml_X10_227 in_yX10_is se_yX10_is ii_RX10 co_yX10_is hy_X10_is (hRd hR (by decide) (by decide)) rfl (Nat.le_of_ble_eq_true rfl) dX10_expression_223 (fun r6 S5 _ wS5 => ?_)
      refine J_if_eq X (tgt := 233) dX10_expression_226 (by decide) ?_ ?_
      · refine J_iconst X (v := (0 : Int32)) dX10_expression_233 (by decide) ?_
        exact t_X10_expression_234 X hR hq12 v0 kv0 v1 s0 v0 kv0 (0 : Int32) S5 wS5
      · exact t_X10_expression_229 X hR hq12 v0 kv0 v1 s0 v0 kv0 S5 wS5
    · exact t_X10_expression_229 X hR hq12 v0 kv0 v1 s0 v0 kv0 S3 wS3
set_option maxRecDepth 20000 in
def b_X10_expression_181 (q12 : Nat → Int32 → Int32 → St → Option (Unit × St)) (v0 : Nat) (v1 : Int32) (S : St) : Option (Unit × St) := b_X10_expression_186 q12 v0 v1 (1 : Int32) S
set_option maxRecDepth 20000 in
theorem t_X10_expression_181 {K : KK} (X : CX K cX10_expression 3 RX10 none) (hR : kR K = rmD 3) {q12 : Nat → Int32 → Int32 → St → Option (Unit × St)} (hq12 : ∀ (v0 : Nat) (kv0 : KA (kDn K) v0 (0, 10)) (v1 : Int32) (v2 : Int32) (S : St), WT (kDn K) S.2.2 → JX K (Zm K (fun _ : Unit => none)) 12 [some (.ref v0), some (.int v1), some (.int v2)] [] (rwN (kN K) S) (kn K) 0 0 (q12 v0 v1 v2 S)) (v0 : Nat) (kv0 : KA (kDn K) v0 (0, 10)) (v1 : Int32) (S : St) (w : WT (kDn K) S.2.2) : JX K (Zm K (fun _ : Unit => none)) 181 [some (.ref v0), some (.int v1), none] [] (rwN (kN K) S) (kn K) 0 0 (b_X10_expression_181 q12 v0 v1 S) := by
  unfold b_X10_expression_181
  refine J_iconst X (v := (1 : Int32)) dX10_expression_181 (by decide) ?_
  refine J_goto X (tgt := 186) dX10_expression_182 (by decide) ?_
  exact t_X10_expression_186 X hR hq12 v0 kv0 v1 (1 : Int32) S w
set_option maxRecDepth 20000 in
def b_X10_expression_145 (q12 : Nat → Int32 → Int32 → St → Option (Unit × St)) (v0 : Nat) (v1 : Int32) (S : St) : Option (Unit × St) := bd (f_X10_is v0 (8 : Int32) S) fun r2 S1 => if r2 = 0 then (bd (f_X10_is v0 (9 : Int32) S1) fun r4 S3 => if r4 = 0 then (bd (f_X10_is v0 (10 : Int32) S3) fun r6 S5 => if r6 = 0 then (bd (f_X10_is v0 (15 : Int32) S5) fun r8 S7 => if r8 = 0 then (b_X10_expression_186 q12 v0 v1 (0 : Int32) S7) else (b_X10_expression_181 q12 v0 v1 S7)) else (b_X10_expression_181 q12 v0 v1 S5)) else (b_X10_expression_181 q12 v0 v1 S3)) else (b_X10_expression_181 q12 v0 v1 S1)
set_option maxRecDepth 20000 in
theorem t_X10_expression_145 {K : KK} (X : CX K cX10_expression 3 RX10 none) (hR : kR K = rmD 3) {q12 : Nat → Int32 → Int32 → St → Option (Unit × St)} (hq12 : ∀ (v0 : Nat) (kv0 : KA (kDn K) v0 (0, 10)) (v1 : Int32) (v2 : Int32) (S : St), WT (kDn K) S.2.2 → JX K (Zm K (fun _ : Unit => none)) 12 [some (.ref v0), some (.int v1), some (.int v2)] [] (rwN (kN K) S) (kn K) 0 0 (q12 v0 v1 v2 S)) (v0 : Nat) (kv0 : KA (kDn K) v0 (0, 10)) (v1 : Int32) (S : St) (w : WT (kDn K) S.2.2) : JX K (Zm K (fun _ : Unit => none)) 145 [some (.ref v0), some (.int v1), none] [] (rwN (kN K) S) (kn K) 0 0 (b_X10_expression_145 q12 v0 v1 S) := by
  unfold b_X10_expression_145
  refine J_aload_n X dX10_expression_145 (i := 0) rfl rfl ?_
  refine J_bipush X (v := (8 : Int32)) dX10_expression_146 (by decide) ?_
  refine T_callV (As := [.int (8 : Int32)]) w X (C_X10_is (kG K) v0 kv0 (8 : Int32) S) cb10 kv0 ml_X10_227 in_yX10_is se_yX10_is ii_RX10 co_yX10_is hy_X10_is (hRd hR (by decide) (by decide)) rfl (Nat.le_of_ble_eq_true rfl) dX10_expression_148 (fun r2 S1 _ wS1 => ?_)
  refine J_if_ne X (tgt := 181) dX10_expression_151 (by decide) ?_ ?_
  · refine J_aload_n X dX10_expression_154 (i := 0) rfl rfl ?_
    refine J_bipush X (v := (9 : Int32)) dX10_expression_155 (by decide) ?_
    refine T_callV (As := [.int (9 : Int32)]) wS1 X (C_X10_is (kG K) v0 kv0 (9 : Int32) S1) cb10 kv0 ml_X10_227 in_yX10_is se_yX10_is ii_RX10 co_yX10_is hy_X10_is (hRd hR (by decide) (by decide)) rfl (Nat.le_of_ble_eq_true rfl) dX10_expression_157 (fun r4 S3 _ wS3 => ?_)
    refine J_if_ne X (tgt := 181) dX10_expression_160 (by decide) ?_ ?_
    · refine J_aload_n X dX10_expression_163 (i := 0) rfl rfl ?_
      refine J_bipush X (v := (10 : Int32)) dX10_expression_164 (by decide) ?_
      refine T_callV (As := [.int (10 : Int32)]) wS3 X (C_X10_is (kG K) v0 kv0 (10 : Int32) S3) cb10 kv0 ml_X10_227 in_yX10_is se_yX10_is ii_RX10 co_yX10_is hy_X10_is (hRd hR (by decide) (by decide)) rfl (Nat.le_of_ble_eq_true rfl) dX10_expression_166 (fun r6 S5 _ wS5 => ?_)
      refine J_if_ne X (tgt := 181) dX10_expression_169 (by decide) ?_ ?_
      · refine J_aload_n X dX10_expression_172 (i := 0) rfl rfl ?_
        refine J_bipush X (v := (15 : Int32)) dX10_expression_173 (by decide) ?_
        refine T_callV (As := [.int (15 : Int32)]) wS5 X (C_X10_is (kG K) v0 kv0 (15 : Int32) S5) cb10 kv0 ml_X10_227 in_yX10_is se_yX10_is ii_RX10 co_yX10_is hy_X10_is (hRd hR (by decide) (by decide)) rfl (Nat.le_of_ble_eq_true rfl) dX10_expression_175 (fun r8 S7 _ wS7 => ?_)
        refine J_if_eq X (tgt := 185) dX10_expression_178 (by decide) ?_ ?_
        · refine J_iconst X (v := (0 : Int32)) dX10_expression_185 (by decide) ?_
          exact t_X10_expression_186 X hR hq12 v0 kv0 v1 (0 : Int32) S7 wS7
        · exact t_X10_expression_181 X hR hq12 v0 kv0 v1 S7 wS7
      · exact t_X10_expression_181 X hR hq12 v0 kv0 v1 S5 wS5
    · exact t_X10_expression_181 X hR hq12 v0 kv0 v1 S3 wS3
  · exact t_X10_expression_181 X hR hq12 v0 kv0 v1 S1 wS1
set_option maxRecDepth 20000 in
def b_X10_expression_96 (q12 : Nat → Int32 → Int32 → St → Option (Unit × St)) : Nat → Nat → Int32 → St → Option (Unit × St)
  | 0, _, _, _ => none
  | fu + 1, v0, v1, S => bd (f_X10_is v0 (7 : Int32) S) fun r2 S1 => if r2 = 0 then (b_X10_expression_145 q12 v0 v1 S1) else (if (S1.1 v0 12) ≤ v1 then (b_X10_expression_145 q12 v0 v1 S1) else (bd (f_X10_comesOut v0 (0 : Int32) S1) fun _ S3 => nm (sI S3 v0 47 ((S3.1 v0 47) - (1 : Int32))) fun S5 => nm (sI S5 v0 12 ((S5.1 v0 12) - (1 : Int32))) fun S6 => bd (f_X10_goesOn v0 S6) fun _ S7 => b_X10_expression_96 q12 fu v0 v1 S7))
set_option maxRecDepth 20000 in
theorem t_X10_expression_96 {K : KK} (X : CX K cX10_expression 3 RX10 none) (hR : kR K = rmD 3) {q12 : Nat → Int32 → Int32 → St → Option (Unit × St)} (hq12 : ∀ (v0 : Nat) (kv0 : KA (kDn K) v0 (0, 10)) (v1 : Int32) (v2 : Int32) (S : St), WT (kDn K) S.2.2 → JX K (Zm K (fun _ : Unit => none)) 12 [some (.ref v0), some (.int v1), some (.int v2)] [] (rwN (kN K) S) (kn K) 0 0 (q12 v0 v1 v2 S)) : ∀ (fu : Nat) (v0 : Nat) (kv0 : KA (kDn K) v0 (0, 10)) (v1 : Int32) (S : St), WT (kDn K) S.2.2 → JX K (Zm K (fun _ : Unit => none)) 96 [some (.ref v0), some (.int v1), none] [] (rwN (kN K) S) (kn K) 0 0 (b_X10_expression_96 q12 fu v0 v1 S) := by
  intro fu
  induction fu with
  | zero => intro v0 kv0 v1 S w; exact J_none
  | succ fu ih =>
    intro v0 kv0 v1 S w
    rw [b_X10_expression_96]
    refine J_aload_n X dX10_expression_96 (i := 0) rfl rfl ?_
    refine J_bipush X (v := (7 : Int32)) dX10_expression_97 (by decide) ?_
    refine T_callV (As := [.int (7 : Int32)]) w X (C_X10_is (kG K) v0 kv0 (7 : Int32) S) cb10 kv0 ml_X10_227 in_yX10_is se_yX10_is ii_RX10 co_yX10_is hy_X10_is (hRd hR (by decide) (by decide)) rfl (Nat.le_of_ble_eq_true rfl) dX10_expression_99 (fun r2 S1 _ wS1 => ?_)
    refine J_if_eq X (tgt := 145) dX10_expression_102 (by decide) ?_ ?_
    · exact t_X10_expression_145 X hR hq12 v0 kv0 v1 S1 wS1
    · refine J_aload_n X dX10_expression_105 (i := 0) rfl rfl ?_
      refine T_getI X (kf := 12) cb10 kv0 (by decide) fl_X10_236 (fun _ _ _ => rfl) dX10_expression_106 ?_
      refine J_iload_n X dX10_expression_109 (i := 1) rfl rfl ?_
      refine J_icmp_le X (tgt := 145) dX10_expression_110 (by decide) ?_ ?_
      · exact t_X10_expression_145 X hR hq12 v0 kv0 v1 S1 wS1
      · refine J_aload_n X dX10_expression_113 (i := 0) rfl rfl ?_
        refine J_iconst X (v := (0 : Int32)) dX10_expression_114 (by decide) ?_
        refine T_callV (As := [.int (0 : Int32)]) wS1 X (C_X10_comesOut (kG K) v0 kv0 (0 : Int32) S1) cb10 kv0 ml_X10_317 in_yX10_comesOut se_yX10_comesOut ii_RX10 co_yX10_comesOut hy_X10_comesOut (hRd hR (by decide) (by decide)) rfl (Nat.le_of_ble_eq_true rfl) dX10_expression_115 (fun _ S3 _ wS3 => ?_)
        refine J_aload_n X dX10_expression_118 (i := 0) rfl rfl ?_
        refine J_dup X dX10_expression_119 rfl ?_
        refine T_getI X (kf := 47) cb10 kv0 (by decide) fl_X10_308 (fun _ _ _ => rfl) dX10_expression_120 ?_
        refine J_iconst X (v := (1 : Int32)) dX10_expression_123 (by decide) ?_
        refine J_isub X dX10_expression_124 ?_
        refine T_putI X (kf := 47) cb10 kv0 (by decide) fl_X10_308 (fun _ _ _ => rfl) rfl rfl rfl dX10_expression_125 (fun S5 hS5 => ?_)
        have wS5 : WT (kDn K) S5.2.2 := by rw [hS5]; exact wS3
        clear hS5
        refine J_aload_n X dX10_expression_128 (i := 0) rfl rfl ?_
        refine J_dup X dX10_expression_129 rfl ?_
        refine T_getI X (kf := 12) cb10 kv0 (by decide) fl_X10_236 (fun _ _ _ => rfl) dX10_expression_130 ?_
        refine J_iconst X (v := (1 : Int32)) dX10_expression_133 (by decide) ?_
        refine J_isub X dX10_expression_134 ?_
        refine T_putI X (kf := 12) cb10 kv0 (by decide) fl_X10_236 (fun _ _ _ => rfl) rfl rfl rfl dX10_expression_135 (fun S6 hS6 => ?_)
        have wS6 : WT (kDn K) S6.2.2 := by rw [hS6]; exact wS5
        clear hS6
        refine J_aload_n X dX10_expression_138 (i := 0) rfl rfl ?_
        refine T_callV (As := []) wS6 X (C_X10_goesOn (kG K) v0 kv0 S6) cb10 kv0 ml_X10_230 in_yX10_goesOn se_yX10_goesOn ii_RX10 co_yX10_goesOn hy_X10_goesOn (hRd hR (by decide) (by decide)) rfl (Nat.le_of_ble_eq_true rfl) dX10_expression_139 (fun _ S7 _ wS7 => ?_)
        refine J_goto X (tgt := 96) dX10_expression_142 (by decide) ?_
        exact ih v0 kv0 v1 S7 wS7
set_option maxRecDepth 20000 in
def b_X10_expression_46 (q12 : Nat → Int32 → Int32 → St → Option (Unit × St)) (q23 : Nat → Int32 → St → Option (Unit × St)) (v0 : Nat) (v1 : Int32) (S : St) : Option (Unit × St) := nm (sI S v0 12 ((S.1 v0 12) + (1 : Int32))) fun S1 => bd (f_X10_goesOn v0 S1) fun _ S2 => (ix (S2.1 v0 47) 64).bind fun j4 => nm (sI S2 (S2.2.2 v0 46) j4 (6 : Int32)) fun S5 => nm (sI S5 v0 47 ((S5.1 v0 47) + (1 : Int32))) fun S6 => q23 v0 v1 S6
set_option maxRecDepth 20000 in
theorem t_X10_expression_46 {K : KK} (X : CX K cX10_expression 3 RX10 none) (hR : kR K = rmD 3) {q12 : Nat → Int32 → Int32 → St → Option (Unit × St)} (hq12 : ∀ (v0 : Nat) (kv0 : KA (kDn K) v0 (0, 10)) (v1 : Int32) (v2 : Int32) (S : St), WT (kDn K) S.2.2 → JX K (Zm K (fun _ : Unit => none)) 12 [some (.ref v0), some (.int v1), some (.int v2)] [] (rwN (kN K) S) (kn K) 0 0 (q12 v0 v1 v2 S)) {q23 : Nat → Int32 → St → Option (Unit × St)} (hq23 : ∀ (v0 : Nat) (kv0 : KA (kDn K) v0 (0, 10)) (v1 : Int32) (S : St), WT (kDn K) S.2.2 → JX K (Zm K (fun _ : Unit => none)) 23 [some (.ref v0), some (.int v1), none] [] (rwN (kN K) S) (kn K) 0 0 (q23 v0 v1 S)) (v0 : Nat) (kv0 : KA (kDn K) v0 (0, 10)) (v1 : Int32) (S : St) (w : WT (kDn K) S.2.2) : JX K (Zm K (fun _ : Unit => none)) 46 [some (.ref v0), some (.int v1), none] [] (rwN (kN K) S) (kn K) 0 0 (b_X10_expression_46 q12 q23 v0 v1 S) := by
  unfold b_X10_expression_46
  refine J_aload_n X dX10_expression_46 (i := 0) rfl rfl ?_
  refine J_dup X dX10_expression_47 rfl ?_
  refine T_getI X (kf := 12) cb10 kv0 (by decide) fl_X10_236 (fun _ _ _ => rfl) dX10_expression_48 ?_
  refine J_iconst X (v := (1 : Int32)) dX10_expression_51 (by decide) ?_
  refine J_iadd X dX10_expression_52 ?_
  refine T_putI X (kf := 12) cb10 kv0 (by decide) fl_X10_236 (fun _ _ _ => rfl) rfl rfl rfl dX10_expression_53 (fun S1 hS1 => ?_)
  have wS1 : WT (kDn K) S1.2.2 := by rw [hS1]; exact w
  clear hS1
  refine J_aload_n X dX10_expression_56 (i := 0) rfl rfl ?_
  refine T_callV (As := []) wS1 X (C_X10_goesOn (kG K) v0 kv0 S1) cb10 kv0 ml_X10_230 in_yX10_goesOn se_yX10_goesOn ii_RX10 co_yX10_goesOn hy_X10_goesOn (hRd hR (by decide) (by decide)) rfl (Nat.le_of_ble_eq_true rfl) dX10_expression_57 (fun _ S2 _ wS2 => ?_)
  refine J_aload_n X dX10_expression_60 (i := 0) rfl rfl ?_
  refine T_getR X (kf := 46) cb10 kv0 (by decide) fl_X10_110 (fun _ _ _ => rfl) dX10_expression_61 ?_
  refine J_aload_n X dX10_expression_64 (i := 0) rfl rfl ?_
  refine T_getI X (kf := 47) cb10 kv0 (by decide) fl_X10_308 (fun _ _ _ => rfl) dX10_expression_65 ?_
  refine J_bipush X (v := (6 : Int32)) dX10_expression_68 (by decide) ?_
  refine T_iast X (wS2.1 _ _ kv0 46 _ rfl) dX10_expression_70 (fun j4 S5 hS5 => ?_)
  have wS5 : WT (kDn K) S5.2.2 := by rw [hS5]; exact wS2
  clear hS5
  refine J_aload_n X dX10_expression_71 (i := 0) rfl rfl ?_
  refine J_dup X dX10_expression_72 rfl ?_
  refine T_getI X (kf := 47) cb10 kv0 (by decide) fl_X10_308 (fun _ _ _ => rfl) dX10_expression_73 ?_
  refine J_iconst X (v := (1 : Int32)) dX10_expression_76 (by decide) ?_
  refine J_iadd X dX10_expression_77 ?_
  refine T_putI X (kf := 47) cb10 kv0 (by decide) fl_X10_308 (fun _ _ _ => rfl) rfl rfl rfl dX10_expression_78 (fun S6 hS6 => ?_)
  have wS6 : WT (kDn K) S6.2.2 := by rw [hS6]; exact wS5
  clear hS6
  refine J_goto X (tgt := 23) dX10_expression_81 (by decide) ?_
  exact hq23 v0 kv0 v1 S6 wS6
set_option maxRecDepth 20000 in
def b_X10_expression_23 (q12 : Nat → Int32 → Int32 → St → Option (Unit × St)) : Nat → Nat → Int32 → St → Option (Unit × St)
  | 0, _, _, _ => none
  | fu + 1, v0, v1, S => bd (f_X10_is v0 (6 : Int32) S) fun r2 S1 => if r2 = 0 then (bd (f_X10_unit v0 S1) fun _ S3 => if (S3.1 v0 13) ≤ 0 then (b_X10_expression_96 q12 FU v0 v1 S3) else (some ((), S3))) else (if (S1.1 v0 12) = (6 : Int32) then (bd (f_X10_fail v0 (2 : Int32) S1) fun _ S5 => b_X10_expression_46 q12 (b_X10_expression_23 q12 fu) v0 v1 S5) else (b_X10_expression_46 q12 (b_X10_expression_23 q12 fu) v0 v1 S1))
set_option maxRecDepth 20000 in
theorem t_X10_expression_23 {K : KK} (X : CX K cX10_expression 3 RX10 none) (hR : kR K = rmD 3) {q12 : Nat → Int32 → Int32 → St → Option (Unit × St)} (hq12 : ∀ (v0 : Nat) (kv0 : KA (kDn K) v0 (0, 10)) (v1 : Int32) (v2 : Int32) (S : St), WT (kDn K) S.2.2 → JX K (Zm K (fun _ : Unit => none)) 12 [some (.ref v0), some (.int v1), some (.int v2)] [] (rwN (kN K) S) (kn K) 0 0 (q12 v0 v1 v2 S)) : ∀ (fu : Nat) (v0 : Nat) (kv0 : KA (kDn K) v0 (0, 10)) (v1 : Int32) (S : St), WT (kDn K) S.2.2 → JX K (Zm K (fun _ : Unit => none)) 23 [some (.ref v0), some (.int v1), none] [] (rwN (kN K) S) (kn K) 0 0 (b_X10_expression_23 q12 fu v0 v1 S) := by
  intro fu
  induction fu with
  | zero => intro v0 kv0 v1 S w; exact J_none
  | succ fu ih =>
    intro v0 kv0 v1 S w
    rw [b_X10_expression_23]
    refine J_aload_n X dX10_expression_23 (i := 0) rfl rfl ?_
    refine J_bipush X (v := (6 : Int32)) dX10_expression_24 (by decide) ?_
    refine T_callV (As := [.int (6 : Int32)]) w X (C_X10_is (kG K) v0 kv0 (6 : Int32) S) cb10 kv0 ml_X10_227 in_yX10_is se_yX10_is ii_RX10 co_yX10_is hy_X10_is (hRd hR (by decide) (by decide)) rfl (Nat.le_of_ble_eq_true rfl) dX10_expression_26 (fun r2 S1 _ wS1 => ?_)
    refine J_if_eq X (tgt := 84) dX10_expression_29 (by decide) ?_ ?_
    · refine J_aload_n X dX10_expression_84 (i := 0) rfl rfl ?_
      refine T_callV (As := []) wS1 X (C_X10_unit (kG K) v0 kv0 S1) cb10 kv0 ml_X10_314 in_yX10_unit se_yX10_unit ii_RX10 co_yX10_unit hy_X10_unit (hRd hR (by decide) (by decide)) rfl (Nat.le_of_ble_eq_true rfl) dX10_expression_85 (fun _ S3 _ wS3 => ?_)
      refine J_aload_n X dX10_expression_88 (i := 0) rfl rfl ?_
      refine T_getI X (kf := 13) cb10 kv0 (by decide) fl_X10_209 (fun _ _ _ => rfl) dX10_expression_89 ?_
      refine J_if_le X (tgt := 96) dX10_expression_92 (by decide) ?_ ?_
      · exact t_X10_expression_96 X hR hq12 FU v0 kv0 v1 S3 wS3
      · exact T_vret wS3 X dX10_expression_95
    · refine J_aload_n X dX10_expression_32 (i := 0) rfl rfl ?_
      refine T_getI X (kf := 12) cb10 kv0 (by decide) fl_X10_236 (fun _ _ _ => rfl) dX10_expression_33 ?_
      refine J_bipush X (v := (6 : Int32)) dX10_expression_36 (by decide) ?_
      refine J_icmp_ne X (tgt := 46) dX10_expression_38 (by decide) ?_ ?_
      · refine J_aload_n X dX10_expression_41 (i := 0) rfl rfl ?_
        refine J_iconst X (v := (2 : Int32)) dX10_expression_42 (by decide) ?_
        refine T_callV (As := [.int (2 : Int32)]) wS1 X (C_X10_fail (kG K) v0 kv0 (2 : Int32) S1) cb10 kv0 ml_X10_224 in_yX10_fail se_yX10_fail ii_RX10 co_yX10_fail hy_X10_fail (hRd hR (by decide) (by decide)) rfl (Nat.le_of_ble_eq_true rfl) dX10_expression_43 (fun _ S5 _ wS5 => ?_)
        exact t_X10_expression_46 X hR hq12 ih v0 kv0 v1 S5 wS5
      · exact t_X10_expression_46 X hR hq12 ih v0 kv0 v1 S1 wS1
set_option maxRecDepth 20000 in
def b_X10_expression_12 : Nat → Nat → Int32 → Int32 → St → Option (Unit × St)
  | 0, _, _, _, _ => none
  | fu + 1, v0, v1, v2, S => if v2 = 0 then (some ((), S)) else (if (S.1 v0 13) = 0 then (b_X10_expression_23 (b_X10_expression_12 fu) FU v0 v1 S) else (some ((), S)))
set_option maxRecDepth 20000 in
theorem t_X10_expression_12 {K : KK} (X : CX K cX10_expression 3 RX10 none) (hR : kR K = rmD 3) : ∀ (fu : Nat) (v0 : Nat) (kv0 : KA (kDn K) v0 (0, 10)) (v1 : Int32) (v2 : Int32) (S : St), WT (kDn K) S.2.2 → JX K (Zm K (fun _ : Unit => none)) 12 [some (.ref v0), some (.int v1), some (.int v2)] [] (rwN (kN K) S) (kn K) 0 0 (b_X10_expression_12 fu v0 v1 v2 S) := by
  intro fu
  induction fu with
  | zero => intro v0 kv0 v1 v2 S w; exact J_none
  | succ fu ih =>
    intro v0 kv0 v1 v2 S w
    rw [b_X10_expression_12]
    refine J_iload_n X dX10_expression_12 (i := 2) rfl rfl ?_
    refine J_if_eq X (tgt := 272) dX10_expression_13 (by decide) ?_ ?_
    · exact T_vret w X dX10_expression_272
    · refine J_aload_n X dX10_expression_16 (i := 0) rfl rfl ?_
      refine T_getI X (kf := 13) cb10 kv0 (by decide) fl_X10_209 (fun _ _ _ => rfl) dX10_expression_17 ?_
      refine J_if_ne X (tgt := 272) dX10_expression_20 (by decide) ?_ ?_
      · refine J_mask [true, true, false] ?_
        exact t_X10_expression_23 X hR ih FU v0 kv0 v1 S w
      · exact T_vret w X dX10_expression_272
set_option maxRecDepth 20000 in
def f_X10_expression (v0 : Nat) (S : St) : Option (Unit × St) := nm (sI S v0 47 (0 : Int32)) fun S1 => nm (S1.1 v0 12) fun x2 => b_X10_expression_12 FU v0 x2 (1 : Int32) S1
set_option maxRecDepth 20000 in
theorem t_X10_expression_0 {K : KK} (X : CX K cX10_expression 3 RX10 none) (hR : kR K = rmD 3) (v0 : Nat) (kv0 : KA (kDn K) v0 (0, 10)) (S : St) (w : WT (kDn K) S.2.2) : JX K (Zm K (fun _ : Unit => none)) 0 [some (.ref v0), none, none] [] (rwN (kN K) S) (kn K) 0 0 (f_X10_expression v0 S) := by
  unfold f_X10_expression
  refine J_aload_n X dX10_expression_0 (i := 0) rfl rfl ?_
  refine J_iconst X (v := (0 : Int32)) dX10_expression_1 (by decide) ?_
  refine T_putI X (kf := 47) cb10 kv0 (by decide) fl_X10_308 (fun _ _ _ => rfl) rfl rfl rfl dX10_expression_2 (fun S1 hS1 => ?_)
  have wS1 : WT (kDn K) S1.2.2 := by rw [hS1]; exact w
  clear hS1
  refine J_aload_n X dX10_expression_5 (i := 0) rfl rfl ?_
  refine T_getI X (kf := 12) cb10 kv0 (by decide) fl_X10_236 (fun _ _ _ => rfl) dX10_expression_6 ?_
  refine J_nmi (fun x2 => ?_)
  refine J_istore_n X (i := 1) (ls' := [some (.ref v0), some (.int x2), none]) dX10_expression_9 rfl (by decide) rfl ?_
  refine J_iconst X (v := (1 : Int32)) dX10_expression_10 (by decide) ?_
  refine J_istore_n X (i := 2) (ls' := [some (.ref v0), some (.int x2), some (.int (1 : Int32))]) dX10_expression_11 rfl (by decide) rfl ?_
  exact t_X10_expression_12 X hR FU v0 kv0 x2 (1 : Int32) S1 wS1
theorem C_X10_expression (G : GG) (v0 : Nat) (kv0 : KA (gD G) v0 (0, 10)) (S : St) : CM G yX10_expression cX10_expression 3 none 3 [.ref v0] S (fun _ : Unit => none) (f_X10_expression v0 S) :=
  CM_of (by decide) (Nat.le_of_ble_eq_true rfl) rfl (fun K hG X hR w => by subst hG; exact t_X10_expression_0 X hR v0 kv0 S w)
-- ==== X10_term
theorem hy_X10_term : yX10_term.cls ≠ "java/lang/invoke/MethodHandle" ∧ yX10_term.cls ≠ "java/lang/invoke/VarHandle" ∧ (parseMethodDescriptor yX10_term.desc).map (fun d => d.parameters.length) = some 0 := by decide +kernel
set_option maxRecDepth 20000 in
def b_X10_term_24 (v0 : Nat) (S : St) : Option (Unit × St) := (ix (S.1 v0 37) 260).bind fun j1 => nm (sI S (S.2.2 v0 42) j1 (S.1 v0 43)) fun S2 => nm (sI S2 v0 37 ((S2.1 v0 37) + (1 : Int32))) fun S3 => some ((), S3)
set_option maxRecDepth 20000 in
theorem t_X10_term_24 {K : KK} (X : CX K cX10_term 1 RX10 none) (hR : kR K = rmD 4) (v0 : Nat) (kv0 : KA (kDn K) v0 (0, 10)) (S : St) (w : WT (kDn K) S.2.2) : JX K (Zm K (fun _ : Unit => none)) 24 [some (.ref v0)] [] (rwN (kN K) S) (kn K) 0 0 (b_X10_term_24 v0 S) := by
  unfold b_X10_term_24
  refine J_aload_n X dX10_term_24 (i := 0) rfl rfl ?_
  refine T_getR X (kf := 42) cb10 kv0 (by decide) fl_X10_101 (fun _ _ _ => rfl) dX10_term_25 ?_
  refine J_aload_n X dX10_term_28 (i := 0) rfl rfl ?_
  refine T_getI X (kf := 37) cb10 kv0 (by decide) fl_X10_248 (fun _ _ _ => rfl) dX10_term_29 ?_
  refine J_aload_n X dX10_term_32 (i := 0) rfl rfl ?_
  refine T_getI X (kf := 43) cb10 kv0 (by decide) fl_X10_251 (fun _ _ _ => rfl) dX10_term_33 ?_
  refine T_iast X (w.1 _ _ kv0 42 _ rfl) dX10_term_36 (fun j1 S2 hS2 => ?_)
  have wS2 : WT (kDn K) S2.2.2 := by rw [hS2]; exact w
  clear hS2
  refine J_aload_n X dX10_term_37 (i := 0) rfl rfl ?_
  refine J_dup X dX10_term_38 rfl ?_
  refine T_getI X (kf := 37) cb10 kv0 (by decide) fl_X10_248 (fun _ _ _ => rfl) dX10_term_39 ?_
  refine J_iconst X (v := (1 : Int32)) dX10_term_42 (by decide) ?_
  refine J_iadd X dX10_term_43 ?_
  refine T_putI X (kf := 37) cb10 kv0 (by decide) fl_X10_248 (fun _ _ _ => rfl) rfl rfl rfl dX10_term_44 (fun S3 hS3 => ?_)
  have wS3 : WT (kDn K) S3.2.2 := by rw [hS3]; exact wS2
  clear hS3
  exact T_vret wS3 X dX10_term_47
set_option maxRecDepth 20000 in
def f_X10_term (v0 : Nat) (S : St) : Option (Unit × St) := (ix (S.1 v0 37) 260).bind fun j1 => nm (sI S (S.2.2 v0 41) j1 (S.1 v0 43)) fun S2 => if (S2.1 v0 13) = 0 then (bd (f_X10_expression v0 S2) fun _ S3 => b_X10_term_24 v0 S3) else (b_X10_term_24 v0 S2)
set_option maxRecDepth 20000 in
theorem t_X10_term_0 {K : KK} (X : CX K cX10_term 1 RX10 none) (hR : kR K = rmD 4) (v0 : Nat) (kv0 : KA (kDn K) v0 (0, 10)) (S : St) (w : WT (kDn K) S.2.2) : JX K (Zm K (fun _ : Unit => none)) 0 [some (.ref v0)] [] (rwN (kN K) S) (kn K) 0 0 (f_X10_term v0 S) := by
  unfold f_X10_term
  refine J_aload_n X dX10_term_0 (i := 0) rfl rfl ?_
  refine T_getR X (kf := 41) cb10 kv0 (by decide) fl_X10_98 (fun _ _ _ => rfl) dX10_term_1 ?_
  refine J_aload_n X dX10_term_4 (i := 0) rfl rfl ?_
  refine T_getI X (kf := 37) cb10 kv0 (by decide) fl_X10_248 (fun _ _ _ => rfl) dX10_term_5 ?_
  refine J_aload_n X dX10_term_8 (i := 0) rfl rfl ?_
  refine T_getI X (kf := 43) cb10 kv0 (by decide) fl_X10_251 (fun _ _ _ => rfl) dX10_term_9 ?_
  refine T_iast X (w.1 _ _ kv0 41 _ rfl) dX10_term_12 (fun j1 S2 hS2 => ?_)
  have wS2 : WT (kDn K) S2.2.2 := by rw [hS2]; exact w
  clear hS2
  refine J_aload_n X dX10_term_13 (i := 0) rfl rfl ?_
  refine T_getI X (kf := 13) cb10 kv0 (by decide) fl_X10_209 (fun _ _ _ => rfl) dX10_term_14 ?_
  refine J_if_ne X (tgt := 24) dX10_term_17 (by decide) ?_ ?_
  · refine J_aload_n X dX10_term_20 (i := 0) rfl rfl ?_
    refine T_callV (As := []) wS2 X (C_X10_expression (kG K) v0 kv0 S2) cb10 kv0 ml_X10_302 in_yX10_expression se_yX10_expression ii_RX10 co_yX10_expression hy_X10_expression (hRd hR (by decide) (by decide)) rfl (Nat.le_of_ble_eq_true rfl) dX10_term_21 (fun _ S3 _ wS3 => ?_)
    exact t_X10_term_24 X hR v0 kv0 S3 wS3
  · exact t_X10_term_24 X hR v0 kv0 S2 wS2
theorem C_X10_term (G : GG) (v0 : Nat) (kv0 : KA (gD G) v0 (0, 10)) (S : St) : CM G yX10_term cX10_term 1 none 4 [.ref v0] S (fun _ : Unit => none) (f_X10_term v0 S) :=
  CM_of (by decide) (Nat.le_of_ble_eq_true rfl) rfl (fun K hG X hR w => by subst hG; exact t_X10_term_0 X hR v0 kv0 S w)

-- ==== X10_put
theorem hy_X10_put : yX10_put.cls ≠ "java/lang/invoke/MethodHandle" ∧ yX10_put.cls ≠ "java/lang/invoke/VarHandle" ∧ (parseMethodDescriptor yX10_put.desc).map (fun d => d.parameters.length) = some 1 := by decide +kernel
set_option maxRecDepth 20000 in
def b_X10_put_3 : Nat → Nat → Int32 → Int32 → St → Option (Unit × St)
  | 0, _, _, _, _ => none
  | fu + 1, v0, v1, v2, S => if v2 < 0 then (some ((), S)) else ((ix (S.1 v0 2) 2000).bind fun j1 => nm (sI S (S.2.2 v0 1) j1 (vp_nar .byte ((v1 >>> (v2 &&& 31)).toInt8.toInt32))) fun S2 => nm (sI S2 v0 2 ((S2.1 v0 2) + (1 : Int32))) fun S3 => nm (v2 + (-8 : Int32)) fun x4 => b_X10_put_3 fu v0 v1 x4 S3)
set_option maxRecDepth 20000 in
theorem t_X10_put_3 {K : KK} (X : CX K cX10_put 3 RX10 none) (hR : kR K = rmD 0) : ∀ (fu : Nat) (v0 : Nat) (kv0 : KA (kDn K) v0 (0, 10)) (v1 : Int32) (v2 : Int32) (S : St), WT (kDn K) S.2.2 → JX K (Zm K (fun _ : Unit => none)) 3 [some (.ref v0), some (.int v1), some (.int v2)] [] (rwN (kN K) S) (kn K) 0 0 (b_X10_put_3 fu v0 v1 v2 S) := by
  intro fu
  induction fu with
  | zero => intro v0 kv0 v1 v2 S w; exact J_none
  | succ fu ih =>
    intro v0 kv0 v1 v2 S w
    rw [b_X10_put_3]
    refine J_iload_n X dX10_put_3 (i := 2) rfl rfl ?_
    refine J_if_lt X (tgt := 36) dX10_put_4 (by decide) ?_ ?_
    · exact T_vret w X dX10_put_36
    · refine J_aload_n X dX10_put_7 (i := 0) rfl rfl ?_
      refine T_getR X (kf := 1) cb10 kv0 (by decide) fl_X10_13 (fun _ _ _ => rfl) dX10_put_8 ?_
      refine J_aload_n X dX10_put_11 (i := 0) rfl rfl ?_
      refine T_getI X (kf := 2) cb10 kv0 (by decide) fl_X10_172 (fun _ _ _ => rfl) dX10_put_12 ?_
      refine J_iload_n X dX10_put_15 (i := 1) rfl rfl ?_
      refine J_iload_n X dX10_put_16 (i := 2) rfl rfl ?_
      refine J_ishr X dX10_put_17 ?_
      refine J_i2b X dX10_put_18 ?_
      refine T_bast X (w.1 _ _ kv0 1 _ rfl) dX10_put_19 (fun j1 S2 hS2 => ?_)
      have wS2 : WT (kDn K) S2.2.2 := by rw [hS2]; exact w
      clear hS2
      refine J_aload_n X dX10_put_20 (i := 0) rfl rfl ?_
      refine J_dup X dX10_put_21 rfl ?_
      refine T_getI X (kf := 2) cb10 kv0 (by decide) fl_X10_172 (fun _ _ _ => rfl) dX10_put_22 ?_
      refine J_iconst X (v := (1 : Int32)) dX10_put_25 (by decide) ?_
      refine J_iadd X dX10_put_26 ?_
      refine T_putI X (kf := 2) cb10 kv0 (by decide) fl_X10_172 (fun _ _ _ => rfl) rfl rfl rfl dX10_put_27 (fun S3 hS3 => ?_)
      have wS3 : WT (kDn K) S3.2.2 := by rw [hS3]; exact wS2
      clear hS3
      refine J_nmv (v2 + (-8 : Int32)) (fun x4 ex4 => ?_)
      refine J_iinc X (v := x4) (ls' := [some (.ref v0), some (.int v1), some (.int x4)]) dX10_put_30 (by decide) rfl (by rw [ex4]; rfl) rfl ?_
      refine J_goto X (tgt := 3) dX10_put_33 (by decide) ?_
      exact ih v0 kv0 v1 x4 S3 wS3
set_option maxRecDepth 20000 in
def f_X10_put (v0 : Nat) (v1 : Int32) (S : St) : Option (Unit × St) := b_X10_put_3 FU v0 v1 (24 : Int32) S
set_option maxRecDepth 20000 in
theorem t_X10_put_0 {K : KK} (X : CX K cX10_put 3 RX10 none) (hR : kR K = rmD 0) (v0 : Nat) (kv0 : KA (kDn K) v0 (0, 10)) (v1 : Int32) (S : St) (w : WT (kDn K) S.2.2) : JX K (Zm K (fun _ : Unit => none)) 0 [some (.ref v0), some (.int v1), none] [] (rwN (kN K) S) (kn K) 0 0 (f_X10_put v0 v1 S) := by
  unfold f_X10_put
  refine J_bipush X (v := (24 : Int32)) dX10_put_0 (by decide) ?_
  refine J_istore_n X (i := 2) (ls' := [some (.ref v0), some (.int v1), some (.int (24 : Int32))]) dX10_put_2 rfl (by decide) rfl ?_
  exact t_X10_put_3 X hR FU v0 kv0 v1 (24 : Int32) S w
theorem C_X10_put (G : GG) (v0 : Nat) (kv0 : KA (gD G) v0 (0, 10)) (v1 : Int32) (S : St) : CM G yX10_put cX10_put 3 none 0 [.ref v0, .int v1] S (fun _ : Unit => none) (f_X10_put v0 v1 S) :=
  CM_of (by decide) (Nat.le_of_ble_eq_true rfl) rfl (fun K hG X hR w => by subst hG; exact t_X10_put_0 X hR v0 kv0 v1 S w)
-- ==== X10_feed
theorem hy_X10_feed : yX10_feed.cls ≠ "java/lang/invoke/MethodHandle" ∧ yX10_feed.cls ≠ "java/lang/invoke/VarHandle" ∧ (parseMethodDescriptor yX10_feed.desc).map (fun d => d.parameters.length) = some 5 := by decide +kernel
set_option maxRecDepth 20000 in
def f_X10_feed (v0 : Nat) (v1 : Int32) (v2 : Int32) (v3 : Int32) (v4 : Int32) (v5 : Int32) (S : St) : Option (Int32 × St) := if ((S.1 v0 2) + (20 : Int32)) ≤ (2000 : Int32) then (bd (f_X10_put v0 v1 S) fun _ S1 => bd (f_X10_put v0 v2 S1) fun _ S3 => bd (f_X10_put v0 v3 S3) fun _ S5 => bd (f_X10_put v0 v4 S5) fun _ S7 => bd (f_X10_put v0 v5 S7) fun _ S9 => some (S9.1 v0 2, S9)) else (some ((-1 : Int32), S))
set_option maxRecDepth 20000 in
theorem t_X10_feed_0 {K : KK} (X : CX K cX10_feed 6 RX10 (some .int)) (hR : kR K = rmD 1) (v0 : Nat) (kv0 : KA (kDn K) v0 (0, 10)) (v1 : Int32) (v2 : Int32) (v3 : Int32) (v4 : Int32) (v5 : Int32) (S : St) (w : WT (kDn K) S.2.2) : JX K (Zm K (fun v : Int32 => some (.int v))) 0 [some (.ref v0), some (.int v1), some (.int v2), some (.int v3), some (.int v4), some (.int v5)] [] (rwN (kN K) S) (kn K) 0 0 (f_X10_feed v0 v1 v2 v3 v4 v5 S) := by
  unfold f_X10_feed
  refine J_aload_n X dX10_feed_0 (i := 0) rfl rfl ?_
  refine T_getI X (kf := 2) cb10 kv0 (by decide) fl_X10_172 (fun _ _ _ => rfl) dX10_feed_1 ?_
  refine J_bipush X (v := (20 : Int32)) dX10_feed_4 (by decide) ?_
  refine J_iadd X dX10_feed_6 ?_
  refine J_sipush X (v := (2000 : Int32)) dX10_feed_7 (by decide) ?_
  refine J_icmp_le X (tgt := 15) dX10_feed_10 (by decide) ?_ ?_
  · refine J_aload_n X dX10_feed_15 (i := 0) rfl rfl ?_
    refine J_iload_n X dX10_feed_16 (i := 1) rfl rfl ?_
    refine T_callV (As := [.int v1]) w X (C_X10_put (kG K) v0 kv0 v1 S) cb10 kv0 ml_X10_175 in_yX10_put se_yX10_put ii_RX10 co_yX10_put hy_X10_put (hRd hR (by decide) (by decide)) rfl (Nat.le_of_ble_eq_true rfl) dX10_feed_17 (fun _ S1 _ wS1 => ?_)
    refine J_aload_n X dX10_feed_20 (i := 0) rfl rfl ?_
    refine J_iload_n X dX10_feed_21 (i := 2) rfl rfl ?_
    refine T_callV (As := [.int v2]) wS1 X (C_X10_put (kG K) v0 kv0 v2 S1) cb10 kv0 ml_X10_175 in_yX10_put se_yX10_put ii_RX10 co_yX10_put hy_X10_put (hRd hR (by decide) (by decide)) rfl (Nat.le_of_ble_eq_true rfl) dX10_feed_22 (fun _ S3 _ wS3 => ?_)
    refine J_aload_n X dX10_feed_25 (i := 0) rfl rfl ?_
    refine J_iload_n X dX10_feed_26 (i := 3) rfl rfl ?_
    refine T_callV (As := [.int v3]) wS3 X (C_X10_put (kG K) v0 kv0 v3 S3) cb10 kv0 ml_X10_175 in_yX10_put se_yX10_put ii_RX10 co_yX10_put hy_X10_put (hRd hR (by decide) (by decide)) rfl (Nat.le_of_ble_eq_true rfl) dX10_feed_27 (fun _ S5 _ wS5 => ?_)
    refine J_aload_n X dX10_feed_30 (i := 0) rfl rfl ?_
    refine J_iload X dX10_feed_31 rfl ?_
    refine T_callV (As := [.int v4]) wS5 X (C_X10_put (kG K) v0 kv0 v4 S5) cb10 kv0 ml_X10_175 in_yX10_put se_yX10_put ii_RX10 co_yX10_put hy_X10_put (hRd hR (by decide) (by decide)) rfl (Nat.le_of_ble_eq_true rfl) dX10_feed_33 (fun _ S7 _ wS7 => ?_)
    refine J_aload_n X dX10_feed_36 (i := 0) rfl rfl ?_
    refine J_iload X dX10_feed_37 rfl ?_
    refine T_callV (As := [.int v5]) wS7 X (C_X10_put (kG K) v0 kv0 v5 S7) cb10 kv0 ml_X10_175 in_yX10_put se_yX10_put ii_RX10 co_yX10_put hy_X10_put (hRd hR (by decide) (by decide)) rfl (Nat.le_of_ble_eq_true rfl) dX10_feed_39 (fun _ S9 _ wS9 => ?_)
    refine J_aload_n X dX10_feed_42 (i := 0) rfl rfl ?_
    refine T_getI X (kf := 2) cb10 kv0 (by decide) fl_X10_172 (fun _ _ _ => rfl) dX10_feed_43 ?_
    exact T_iret wS9 X dX10_feed_46
  · refine J_iconst X (v := (-1 : Int32)) dX10_feed_13 (by decide) ?_
    exact T_iret w X dX10_feed_14
theorem C_X10_feed (G : GG) (v0 : Nat) (kv0 : KA (gD G) v0 (0, 10)) (v1 : Int32) (v2 : Int32) (v3 : Int32) (v4 : Int32) (v5 : Int32) (S : St) : CM G yX10_feed cX10_feed 6 (some .int) 1 [.ref v0, .int v1, .int v2, .int v3, .int v4, .int v5] S (fun v : Int32 => some (.int v)) (f_X10_feed v0 v1 v2 v3 v4 v5 S) :=
  CM_of (by decide) (Nat.le_of_ble_eq_true rfl) rfl (fun K hG X hR w => by subst hG; exact t_X10_feed_0 X hR v0 kv0 v1 v2 v3 v4 v5 S w)
-- ==== X10_back
theorem hy_X10_back : yX10_back.cls ≠ "java/lang/invoke/MethodHandle" ∧ yX10_back.cls ≠ "java/lang/invoke/VarHandle" ∧ (parseMethodDescriptor yX10_back.desc).map (fun d => d.parameters.length) = some 1 := by decide +kernel
set_option maxRecDepth 20000 in
def f_X10_back (v0 : Nat) (v1 : Int32) (S : St) : Option (Int32 × St) := if v1 < 0 then (some ((-1 : Int32), S)) else (if v1 ≤ (S.1 v0 2) then (nm (sI S v0 2 ((S.1 v0 2) - v1)) fun S1 => some (S1.1 v0 2, S1)) else (some ((-1 : Int32), S)))
set_option maxRecDepth 20000 in
theorem t_X10_back_0 {K : KK} (X : CX K cX10_back 2 RX10 (some .int)) (hR : kR K = rmD 0) (v0 : Nat) (kv0 : KA (kDn K) v0 (0, 10)) (v1 : Int32) (S : St) (w : WT (kDn K) S.2.2) : JX K (Zm K (fun v : Int32 => some (.int v))) 0 [some (.ref v0), some (.int v1)] [] (rwN (kN K) S) (kn K) 0 0 (f_X10_back v0 v1 S) := by
  unfold f_X10_back
  refine J_iload_n X dX10_back_0 (i := 1) rfl rfl ?_
  refine J_if_lt X (tgt := 12) dX10_back_1 (by decide) ?_ ?_
  · refine J_iconst X (v := (-1 : Int32)) dX10_back_12 (by decide) ?_
    exact T_iret w X dX10_back_13
  · refine J_iload_n X dX10_back_4 (i := 1) rfl rfl ?_
    refine J_aload_n X dX10_back_5 (i := 0) rfl rfl ?_
    refine T_getI X (kf := 2) cb10 kv0 (by decide) fl_X10_172 (fun _ _ _ => rfl) dX10_back_6 ?_
    refine J_icmp_le X (tgt := 14) dX10_back_9 (by decide) ?_ ?_
    · refine J_aload_n X dX10_back_14 (i := 0) rfl rfl ?_
      refine J_dup X dX10_back_15 rfl ?_
      refine T_getI X (kf := 2) cb10 kv0 (by decide) fl_X10_172 (fun _ _ _ => rfl) dX10_back_16 ?_
      refine J_iload_n X dX10_back_19 (i := 1) rfl rfl ?_
      refine J_isub X dX10_back_20 ?_
      refine T_putI X (kf := 2) cb10 kv0 (by decide) fl_X10_172 (fun _ _ _ => rfl) rfl rfl rfl dX10_back_21 (fun S1 hS1 => ?_)
      have wS1 : WT (kDn K) S1.2.2 := by rw [hS1]; exact w
      clear hS1
      refine J_aload_n X dX10_back_24 (i := 0) rfl rfl ?_
      refine T_getI X (kf := 2) cb10 kv0 (by decide) fl_X10_172 (fun _ _ _ => rfl) dX10_back_25 ?_
      exact T_iret wS1 X dX10_back_28
    · refine J_iconst X (v := (-1 : Int32)) dX10_back_12 (by decide) ?_
      exact T_iret w X dX10_back_13
theorem C_X10_back (G : GG) (v0 : Nat) (kv0 : KA (gD G) v0 (0, 10)) (v1 : Int32) (S : St) : CM G yX10_back cX10_back 2 (some .int) 0 [.ref v0, .int v1] S (fun v : Int32 => some (.int v)) (f_X10_back v0 v1 S) :=
  CM_of (by decide) (Nat.le_of_ble_eq_true rfl) rfl (fun K hG X hR w => by subst hG; exact t_X10_back_0 X hR v0 kv0 v1 S w)
-- ==== X10_byteAt
theorem hy_X10_byteAt : yX10_byteAt.cls ≠ "java/lang/invoke/MethodHandle" ∧ yX10_byteAt.cls ≠ "java/lang/invoke/VarHandle" ∧ (parseMethodDescriptor yX10_byteAt.desc).map (fun d => d.parameters.length) = some 1 := by decide +kernel
set_option maxRecDepth 20000 in
def f_X10_byteAt (v0 : Nat) (v1 : Int32) (S : St) : Option (Int32 × St) := if (S.1 v0 4) ≤ v1 then (some ((0 : Int32), S)) else ((ix v1 2000).bind fun j1 => some ((S.1 (S.2.2 v0 3) j1) &&& (255 : Int32), S))
set_option maxRecDepth 20000 in
theorem t_X10_byteAt_0 {K : KK} (X : CX K cX10_byteAt 2 RX10 (some .int)) (hR : kR K = rmD 0) (v0 : Nat) (kv0 : KA (kDn K) v0 (0, 10)) (v1 : Int32) (S : St) (w : WT (kDn K) S.2.2) : JX K (Zm K (fun v : Int32 => some (.int v))) 0 [some (.ref v0), some (.int v1)] [] (rwN (kN K) S) (kn K) 0 0 (f_X10_byteAt v0 v1 S) := by
  unfold f_X10_byteAt
  refine J_iload_n X dX10_byteAt_0 (i := 1) rfl rfl ?_
  refine J_aload_n X dX10_byteAt_1 (i := 0) rfl rfl ?_
  refine T_getI X (kf := 4) cb10 kv0 (by decide) fl_X10_178 (fun _ _ _ => rfl) dX10_byteAt_2 ?_
  refine J_icmp_ge X (tgt := 21) dX10_byteAt_5 (by decide) ?_ ?_
  · refine J_iconst X (v := (0 : Int32)) dX10_byteAt_21 (by decide) ?_
    exact T_iret w X dX10_byteAt_22
  · refine J_aload_n X dX10_byteAt_8 (i := 0) rfl rfl ?_
    refine T_getR X (kf := 3) cb10 kv0 (by decide) fl_X10_17 (fun _ _ _ => rfl) dX10_byteAt_9 ?_
    refine J_iload_n X dX10_byteAt_12 (i := 1) rfl rfl ?_
    refine T_bald X (w.1 _ _ kv0 3 _ rfl) dX10_byteAt_13 (fun j1 => ?_)
    refine J_sipush X (v := (255 : Int32)) dX10_byteAt_14 (by decide) ?_
    refine J_iand X dX10_byteAt_17 ?_
    refine J_goto X (tgt := 22) dX10_byteAt_18 (by decide) ?_
    exact T_iret w X dX10_byteAt_22
theorem C_X10_byteAt (G : GG) (v0 : Nat) (kv0 : KA (gD G) v0 (0, 10)) (v1 : Int32) (S : St) : CM G yX10_byteAt cX10_byteAt 2 (some .int) 0 [.ref v0, .int v1] S (fun v : Int32 => some (.int v)) (f_X10_byteAt v0 v1 S) :=
  CM_of (by decide) (Nat.le_of_ble_eq_true rfl) rfl (fun K hG X hR w => by subst hG; exact t_X10_byteAt_0 X hR v0 kv0 v1 S w)
-- ==== X10_isDigit
theorem hy_X10_isDigit : yX10_isDigit.cls ≠ "java/lang/invoke/MethodHandle" ∧ yX10_isDigit.cls ≠ "java/lang/invoke/VarHandle" ∧ (parseMethodDescriptor yX10_isDigit.desc).map (fun d => d.parameters.length) = some 1 := by decide +kernel
set_option maxRecDepth 20000 in
def f_X10_isDigit (v0 : Int32) (S : St) : Option (Int32 × St) := if v0 < (48 : Int32) then (some ((0 : Int32), S)) else (if (57 : Int32) < v0 then (some ((0 : Int32), S)) else (some ((1 : Int32), S)))
set_option maxRecDepth 20000 in
theorem t_X10_isDigit_0 {K : KK} (X : CX K cX10_isDigit 1 RX10 (some .boolean)) (hR : kR K = rmD 0) (v0 : Int32) (S : St) (w : WT (kDn K) S.2.2) : JX K (Zm K (fun v : Int32 => some (.int v))) 0 [some (.int v0)] [] (rwN (kN K) S) (kn K) 0 0 (f_X10_isDigit v0 S) := by
  unfold f_X10_isDigit
  refine J_iload_n X dX10_isDigit_0 (i := 0) rfl rfl ?_
  refine J_bipush X (v := (48 : Int32)) dX10_isDigit_1 (by decide) ?_
  refine J_icmp_lt X (tgt := 16) dX10_isDigit_3 (by decide) ?_ ?_
  · refine J_iconst X (v := (0 : Int32)) dX10_isDigit_16 (by decide) ?_
    exact T_zret w X (by decide) dX10_isDigit_17
  · refine J_iload_n X dX10_isDigit_6 (i := 0) rfl rfl ?_
    refine J_bipush X (v := (57 : Int32)) dX10_isDigit_7 (by decide) ?_
    refine J_icmp_gt X (tgt := 16) dX10_isDigit_9 (by decide) ?_ ?_
    · refine J_iconst X (v := (0 : Int32)) dX10_isDigit_16 (by decide) ?_
      exact T_zret w X (by decide) dX10_isDigit_17
    · refine J_iconst X (v := (1 : Int32)) dX10_isDigit_12 (by decide) ?_
      refine J_goto X (tgt := 17) dX10_isDigit_13 (by decide) ?_
      exact T_zret w X (by decide) dX10_isDigit_17
theorem C_X10_isDigit (G : GG) (v0 : Int32) (S : St) : CM G yX10_isDigit cX10_isDigit 1 (some .boolean) 0 [.int v0] S (fun v : Int32 => some (.int v)) (f_X10_isDigit v0 S) :=
  CM_of (by decide) (Nat.le_of_ble_eq_true rfl) rfl (fun K hG X hR w => by subst hG; exact t_X10_isDigit_0 X hR v0 S w)
-- ==== X10_isLetter
theorem hy_X10_isLetter : yX10_isLetter.cls ≠ "java/lang/invoke/MethodHandle" ∧ yX10_isLetter.cls ≠ "java/lang/invoke/VarHandle" ∧ (parseMethodDescriptor yX10_isLetter.desc).map (fun d => d.parameters.length) = some 1 := by decide +kernel
set_option maxRecDepth 20000 in
def f_X10_isLetter (v0 : Int32) (S : St) : Option (Int32 × St) := if v0 < (97 : Int32) then (some ((0 : Int32), S)) else (if (122 : Int32) < v0 then (some ((0 : Int32), S)) else (some ((1 : Int32), S)))
set_option maxRecDepth 20000 in
theorem t_X10_isLetter_0 {K : KK} (X : CX K cX10_isLetter 1 RX10 (some .boolean)) (hR : kR K = rmD 0) (v0 : Int32) (S : St) (w : WT (kDn K) S.2.2) : JX K (Zm K (fun v : Int32 => some (.int v))) 0 [some (.int v0)] [] (rwN (kN K) S) (kn K) 0 0 (f_X10_isLetter v0 S) := by
  unfold f_X10_isLetter
  refine J_iload_n X dX10_isLetter_0 (i := 0) rfl rfl ?_
  refine J_bipush X (v := (97 : Int32)) dX10_isLetter_1 (by decide) ?_
  refine J_icmp_lt X (tgt := 16) dX10_isLetter_3 (by decide) ?_ ?_
  · refine J_iconst X (v := (0 : Int32)) dX10_isLetter_16 (by decide) ?_
    exact T_zret w X (by decide) dX10_isLetter_17
  · refine J_iload_n X dX10_isLetter_6 (i := 0) rfl rfl ?_
    refine J_bipush X (v := (122 : Int32)) dX10_isLetter_7 (by decide) ?_
    refine J_icmp_gt X (tgt := 16) dX10_isLetter_9 (by decide) ?_ ?_
    · refine J_iconst X (v := (0 : Int32)) dX10_isLetter_16 (by decide) ?_
      exact T_zret w X (by decide) dX10_isLetter_17
    · refine J_iconst X (v := (1 : Int32)) dX10_isLetter_12 (by decide) ?_
      refine J_goto X (tgt := 17) dX10_isLetter_13 (by decide) ?_
      exact T_zret w X (by decide) dX10_isLetter_17
theorem C_X10_isLetter (G : GG) (v0 : Int32) (S : St) : CM G yX10_isLetter cX10_isLetter 1 (some .boolean) 0 [.int v0] S (fun v : Int32 => some (.int v)) (f_X10_isLetter v0 S) :=
  CM_of (by decide) (Nat.le_of_ble_eq_true rfl) rfl (fun K hG X hR w => by subst hG; exact t_X10_isLetter_0 X hR v0 S w)
-- ==== X10_appends
theorem hy_X10_appends : yX10_appends.cls ≠ "java/lang/invoke/MethodHandle" ∧ yX10_appends.cls ≠ "java/lang/invoke/VarHandle" ∧ (parseMethodDescriptor yX10_appends.desc).map (fun d => d.parameters.length) = some 2 := by decide +kernel
set_option maxRecDepth 20000 in
def f_X10_appends (v0 : Int64) (v2 : Int32) (S : St) : Option (Int64 × St) := if v2 = 0 then (some (v0, S)) else (some (((27 : Int64) * v0) + (((v2 - (97 : Int32)) + (1 : Int32)).toInt64), S))
set_option maxRecDepth 20000 in
theorem t_X10_appends_0 {K : KK} (X : CX K cX10_appends 3 RX10 (some .long)) (hR : kR K = rmD 0) (v0 : Int64) (v2 : Int32) (S : St) (w : WT (kDn K) S.2.2) : JX K (Zm K (fun v : Int64 => some (.long v))) 0 [some (.long v0), none, some (.int v2)] [] (rwN (kN K) S) (kn K) 0 0 (f_X10_appends v0 v2 S) := by
  unfold f_X10_appends
  refine J_iload_n X dX10_appends_0 (i := 2) rfl rfl ?_
  refine J_if_ne X (tgt := 8) dX10_appends_1 (by decide) ?_ ?_
  · refine J_lload_n X dX10_appends_4 (i := 0) rfl rfl ?_
    refine J_goto X (tgt := 21) dX10_appends_5 (by decide) ?_
    exact T_lret w X dX10_appends_21
  · refine J_ldc2 X kl_X10_181 dX10_appends_8 ?_
    refine J_lload_n X dX10_appends_11 (i := 0) rfl rfl ?_
    refine J_lmul X dX10_appends_12 ?_
    refine J_iload_n X dX10_appends_13 (i := 2) rfl rfl ?_
    refine J_bipush X (v := (97 : Int32)) dX10_appends_14 (by decide) ?_
    refine J_isub X dX10_appends_16 ?_
    refine J_iconst X (v := (1 : Int32)) dX10_appends_17 (by decide) ?_
    refine J_iadd X dX10_appends_18 ?_
    refine J_i2l X dX10_appends_19 ?_
    refine J_ladd X dX10_appends_20 ?_
    exact T_lret w X dX10_appends_21
theorem C_X10_appends (G : GG) (v0 : Int64) (v2 : Int32) (S : St) : CM G yX10_appends cX10_appends 3 (some .long) 0 [.long v0, .int v2] S (fun v : Int64 => some (.long v)) (f_X10_appends v0 v2 S) :=
  CM_of (by decide) (Nat.le_of_ble_eq_true rfl) rfl (fun K hG X hR w => by subst hG; exact t_X10_appends_0 X hR v0 v2 S w)
-- ==== X10_word
theorem hy_X10_word : yX10_word.cls ≠ "java/lang/invoke/MethodHandle" ∧ yX10_word.cls ≠ "java/lang/invoke/VarHandle" ∧ (parseMethodDescriptor yX10_word.desc).map (fun d => d.parameters.length) = some 7 := by decide +kernel
set_option maxRecDepth 20000 in
def f_X10_word (v0 : Int32) (v1 : Int32) (v2 : Int32) (v3 : Int32) (v4 : Int32) (v5 : Int32) (v6 : Int32) (S : St) : Option (Int64 × St) := bd (f_X10_appends (0 : Int64) v0 S) fun r2 S1 => bd (f_X10_appends r2 v1 S1) fun r4 S3 => bd (f_X10_appends r4 v2 S3) fun r6 S5 => bd (f_X10_appends r6 v3 S5) fun r8 S7 => bd (f_X10_appends r8 v4 S7) fun r10 S9 => bd (f_X10_appends r10 v5 S9) fun r12 S11 => bd (f_X10_appends r12 v6 S11) fun r14 S13 => some (r14, S13)
set_option maxRecDepth 20000 in
theorem t_X10_word_0 {K : KK} (X : CX K cX10_word 7 RX10 (some .long)) (hR : kR K = rmD 1) (v0 : Int32) (v1 : Int32) (v2 : Int32) (v3 : Int32) (v4 : Int32) (v5 : Int32) (v6 : Int32) (S : St) (w : WT (kDn K) S.2.2) : JX K (Zm K (fun v : Int64 => some (.long v))) 0 [some (.int v0), some (.int v1), some (.int v2), some (.int v3), some (.int v4), some (.int v5), some (.int v6)] [] (rwN (kN K) S) (kn K) 0 0 (f_X10_word v0 v1 v2 v3 v4 v5 v6 S) := by
  unfold f_X10_word
  refine J_lconst X (v := (0 : Int64)) dX10_word_0 (by decide) ?_
  refine J_iload_n X dX10_word_1 (i := 0) rfl rfl ?_
  refine T_callS (As := [.long (0 : Int64), .int v0]) w X (C_X10_appends (kG K) (0 : Int64) v0 S) ml_X10_183 st_yX10_appends ii_RX10 co_yX10_appends hy_X10_appends (hRd hR (by decide) (by decide)) rfl (Nat.le_of_ble_eq_true rfl) dX10_word_2 (fun r2 S1 _ wS1 => ?_)
  refine J_iload_n X dX10_word_5 (i := 1) rfl rfl ?_
  refine T_callS (As := [.long r2, .int v1]) wS1 X (C_X10_appends (kG K) r2 v1 S1) ml_X10_183 st_yX10_appends ii_RX10 co_yX10_appends hy_X10_appends (hRd hR (by decide) (by decide)) rfl (Nat.le_of_ble_eq_true rfl) dX10_word_6 (fun r4 S3 _ wS3 => ?_)
  refine J_iload_n X dX10_word_9 (i := 2) rfl rfl ?_
  refine T_callS (As := [.long r4, .int v2]) wS3 X (C_X10_appends (kG K) r4 v2 S3) ml_X10_183 st_yX10_appends ii_RX10 co_yX10_appends hy_X10_appends (hRd hR (by decide) (by decide)) rfl (Nat.le_of_ble_eq_true rfl) dX10_word_10 (fun r6 S5 _ wS5 => ?_)
  refine J_iload_n X dX10_word_13 (i := 3) rfl rfl ?_
  refine T_callS (As := [.long r6, .int v3]) wS5 X (C_X10_appends (kG K) r6 v3 S5) ml_X10_183 st_yX10_appends ii_RX10 co_yX10_appends hy_X10_appends (hRd hR (by decide) (by decide)) rfl (Nat.le_of_ble_eq_true rfl) dX10_word_14 (fun r8 S7 _ wS7 => ?_)
  refine J_iload X dX10_word_17 rfl ?_
  refine T_callS (As := [.long r8, .int v4]) wS7 X (C_X10_appends (kG K) r8 v4 S7) ml_X10_183 st_yX10_appends ii_RX10 co_yX10_appends hy_X10_appends (hRd hR (by decide) (by decide)) rfl (Nat.le_of_ble_eq_true rfl) dX10_word_19 (fun r10 S9 _ wS9 => ?_)
  refine J_iload X dX10_word_22 rfl ?_
  refine T_callS (As := [.long r10, .int v5]) wS9 X (C_X10_appends (kG K) r10 v5 S9) ml_X10_183 st_yX10_appends ii_RX10 co_yX10_appends hy_X10_appends (hRd hR (by decide) (by decide)) rfl (Nat.le_of_ble_eq_true rfl) dX10_word_24 (fun r12 S11 _ wS11 => ?_)
  refine J_iload X dX10_word_27 rfl ?_
  refine T_callS (As := [.long r12, .int v6]) wS11 X (C_X10_appends (kG K) r12 v6 S11) ml_X10_183 st_yX10_appends ii_RX10 co_yX10_appends hy_X10_appends (hRd hR (by decide) (by decide)) rfl (Nat.le_of_ble_eq_true rfl) dX10_word_29 (fun r14 S13 _ wS13 => ?_)
  exact T_lret wS13 X dX10_word_32
theorem C_X10_word (G : GG) (v0 : Int32) (v1 : Int32) (v2 : Int32) (v3 : Int32) (v4 : Int32) (v5 : Int32) (v6 : Int32) (S : St) : CM G yX10_word cX10_word 7 (some .long) 1 [.int v0, .int v1, .int v2, .int v3, .int v4, .int v5, .int v6] S (fun v : Int64 => some (.long v)) (f_X10_word v0 v1 v2 v3 v4 v5 v6 S) :=
  CM_of (by decide) (Nat.le_of_ble_eq_true rfl) rfl (fun K hG X hR w => by subst hG; exact t_X10_word_0 X hR v0 v1 v2 v3 v4 v5 v6 S w)
-- ==== X10_token
theorem hy_X10_token : yX10_token.cls ≠ "java/lang/invoke/MethodHandle" ∧ yX10_token.cls ≠ "java/lang/invoke/VarHandle" ∧ (parseMethodDescriptor yX10_token.desc).map (fun d => d.parameters.length) = some 4 := by decide +kernel
set_option maxRecDepth 20000 in
def f_X10_token (v0 : Nat) (v1 : Int32) (v2 : Int32) (v3 : Int32) (v4 : Int64) (S : St) : Option (Unit × St) := (ix (S.1 v0 10) 403).bind fun j1 => nm (sI S (S.2.2 v0 5) j1 v1) fun S2 => (ix (S2.1 v0 10) 403).bind fun j3 => nm (sI S2 (S2.2.2 v0 6) j3 v2) fun S4 => (ix (S4.1 v0 10) 403).bind fun j5 => nm (sI S4 (S4.2.2 v0 7) j5 v3) fun S6 => (ix (S6.1 v0 10) 403).bind fun j7 => nm (sL S6 (S6.2.2 v0 8) j7 v4) fun S8 => nm (sI S8 v0 10 ((S8.1 v0 10) + (1 : Int32))) fun S9 => some ((), S9)
set_option maxRecDepth 20000 in
theorem t_X10_token_0 {K : KK} (X : CX K cX10_token 6 RX10 none) (hR : kR K = rmD 0) (v0 : Nat) (kv0 : KA (kDn K) v0 (0, 10)) (v1 : Int32) (v2 : Int32) (v3 : Int32) (v4 : Int64) (S : St) (w : WT (kDn K) S.2.2) : JX K (Zm K (fun _ : Unit => none)) 0 [some (.ref v0), some (.int v1), some (.int v2), some (.int v3), some (.long v4), none] [] (rwN (kN K) S) (kn K) 0 0 (f_X10_token v0 v1 v2 v3 v4 S) := by
  unfold f_X10_token
  refine J_aload_n X dX10_token_0 (i := 0) rfl rfl ?_
  refine T_getR X (kf := 5) cb10 kv0 (by decide) fl_X10_20 (fun _ _ _ => rfl) dX10_token_1 ?_
  refine J_aload_n X dX10_token_4 (i := 0) rfl rfl ?_
  refine T_getI X (kf := 10) cb10 kv0 (by decide) fl_X10_187 (fun _ _ _ => rfl) dX10_token_5 ?_
  refine J_iload_n X dX10_token_8 (i := 1) rfl rfl ?_
  refine T_iast X (w.1 _ _ kv0 5 _ rfl) dX10_token_9 (fun j1 S2 hS2 => ?_)
  have wS2 : WT (kDn K) S2.2.2 := by rw [hS2]; exact w
  clear hS2
  refine J_aload_n X dX10_token_10 (i := 0) rfl rfl ?_
  refine T_getR X (kf := 6) cb10 kv0 (by decide) fl_X10_24 (fun _ _ _ => rfl) dX10_token_11 ?_
  refine J_aload_n X dX10_token_14 (i := 0) rfl rfl ?_
  refine T_getI X (kf := 10) cb10 kv0 (by decide) fl_X10_187 (fun _ _ _ => rfl) dX10_token_15 ?_
  refine J_iload_n X dX10_token_18 (i := 2) rfl rfl ?_
  refine T_iast X (wS2.1 _ _ kv0 6 _ rfl) dX10_token_19 (fun j3 S4 hS4 => ?_)
  have wS4 : WT (kDn K) S4.2.2 := by rw [hS4]; exact wS2
  clear hS4
  refine J_aload_n X dX10_token_20 (i := 0) rfl rfl ?_
  refine T_getR X (kf := 7) cb10 kv0 (by decide) fl_X10_27 (fun _ _ _ => rfl) dX10_token_21 ?_
  refine J_aload_n X dX10_token_24 (i := 0) rfl rfl ?_
  refine T_getI X (kf := 10) cb10 kv0 (by decide) fl_X10_187 (fun _ _ _ => rfl) dX10_token_25 ?_
  refine J_iload_n X dX10_token_28 (i := 3) rfl rfl ?_
  refine T_iast X (wS4.1 _ _ kv0 7 _ rfl) dX10_token_29 (fun j5 S6 hS6 => ?_)
  have wS6 : WT (kDn K) S6.2.2 := by rw [hS6]; exact wS4
  clear hS6
  refine J_aload_n X dX10_token_30 (i := 0) rfl rfl ?_
  refine T_getR X (kf := 8) cb10 kv0 (by decide) fl_X10_30 (fun _ _ _ => rfl) dX10_token_31 ?_
  refine J_aload_n X dX10_token_34 (i := 0) rfl rfl ?_
  refine T_getI X (kf := 10) cb10 kv0 (by decide) fl_X10_187 (fun _ _ _ => rfl) dX10_token_35 ?_
  refine J_lload X dX10_token_38 rfl ?_
  refine T_last X (wS6.1 _ _ kv0 8 _ rfl) dX10_token_40 (fun j7 S8 hS8 => ?_)
  have wS8 : WT (kDn K) S8.2.2 := by rw [hS8]; exact wS6
  clear hS8
  refine J_aload_n X dX10_token_41 (i := 0) rfl rfl ?_
  refine J_dup X dX10_token_42 rfl ?_
  refine T_getI X (kf := 10) cb10 kv0 (by decide) fl_X10_187 (fun _ _ _ => rfl) dX10_token_43 ?_
  refine J_iconst X (v := (1 : Int32)) dX10_token_46 (by decide) ?_
  refine J_iadd X dX10_token_47 ?_
  refine T_putI X (kf := 10) cb10 kv0 (by decide) fl_X10_187 (fun _ _ _ => rfl) rfl rfl rfl dX10_token_48 (fun S9 hS9 => ?_)
  have wS9 : WT (kDn K) S9.2.2 := by rw [hS9]; exact wS8
  clear hS9
  exact T_vret wS9 X dX10_token_51
theorem C_X10_token (G : GG) (v0 : Nat) (kv0 : KA (gD G) v0 (0, 10)) (v1 : Int32) (v2 : Int32) (v3 : Int32) (v4 : Int64) (S : St) : CM G yX10_token cX10_token 6 none 0 [.ref v0, .int v1, .int v2, .int v3, .long v4] S (fun _ : Unit => none) (f_X10_token v0 v1 v2 v3 v4 S) :=
  CM_of (by decide) (Nat.le_of_ble_eq_true rfl) rfl (fun K hG X hR w => by subst hG; exact t_X10_token_0 X hR v0 kv0 v1 v2 v3 v4 S w)
-- ==== X10_sign
theorem hy_X10_sign : yX10_sign.cls ≠ "java/lang/invoke/MethodHandle" ∧ yX10_sign.cls ≠ "java/lang/invoke/VarHandle" ∧ (parseMethodDescriptor yX10_sign.desc).map (fun d => d.parameters.length) = some 3 := by decide +kernel
set_option maxRecDepth 20000 in
def b_X10_sign_95 (v0 : Nat) (v1 : Int32) (v4 : Int32) (S : St) : Option (Int32 × St) := bd (f_X10_token v0 v4 v1 (0 : Int32) (0 : Int64) S) fun _ S1 => some ((1 : Int32), S1)
set_option maxRecDepth 20000 in
theorem t_X10_sign_95 {K : KK} (X : CX K cX10_sign 5 RX10 (some .int)) (hR : kR K = rmD 1) (v0 : Nat) (kv0 : KA (kDn K) v0 (0, 10)) (v1 : Int32) (v4 : Int32) (S : St) (w : WT (kDn K) S.2.2) : JX K (Zm K (fun v : Int32 => some (.int v))) 95 [some (.ref v0), some (.int v1), none, none, some (.int v4)] [] (rwN (kN K) S) (kn K) 0 0 (b_X10_sign_95 v0 v1 v4 S) := by
  unfold b_X10_sign_95
  refine J_aload_n X dX10_sign_95 (i := 0) rfl rfl ?_
  refine J_iload X dX10_sign_96 rfl ?_
  refine J_iload_n X dX10_sign_98 (i := 1) rfl rfl ?_
  refine J_iconst X (v := (0 : Int32)) dX10_sign_99 (by decide) ?_
  refine J_lconst X (v := (0 : Int64)) dX10_sign_100 (by decide) ?_
  refine T_callV (As := [.int v4, .int v1, .int (0 : Int32), .long (0 : Int64)]) w X (C_X10_token (kG K) v0 kv0 v4 v1 (0 : Int32) (0 : Int64) S) cb10 kv0 ml_X10_194 in_yX10_token se_yX10_token ii_RX10 co_yX10_token hy_X10_token (hRd hR (by decide) (by decide)) rfl (Nat.le_of_ble_eq_true rfl) dX10_sign_101 (fun _ S1 _ wS1 => ?_)
  refine J_iconst X (v := (1 : Int32)) dX10_sign_104 (by decide) ?_
  exact T_iret wS1 X dX10_sign_105
set_option maxRecDepth 20000 in
def b_X10_sign_85 (v0 : Nat) (v1 : Int32) (v2 : Int32) (v4 : Int32) (S : St) : Option (Int32 × St) := if v2 = (60 : Int32) then (b_X10_sign_95 v0 v1 (13 : Int32) S) else (b_X10_sign_95 v0 v1 v4 S)
set_option maxRecDepth 20000 in
theorem t_X10_sign_85 {K : KK} (X : CX K cX10_sign 5 RX10 (some .int)) (hR : kR K = rmD 1) (v0 : Nat) (kv0 : KA (kDn K) v0 (0, 10)) (v1 : Int32) (v2 : Int32) (v4 : Int32) (S : St) (w : WT (kDn K) S.2.2) : JX K (Zm K (fun v : Int32 => some (.int v))) 85 [some (.ref v0), some (.int v1), some (.int v2), none, some (.int v4)] [] (rwN (kN K) S) (kn K) 0 0 (b_X10_sign_85 v0 v1 v2 v4 S) := by
  unfold b_X10_sign_85
  refine J_iload_n X dX10_sign_85 (i := 2) rfl rfl ?_
  refine J_bipush X (v := (60 : Int32)) dX10_sign_86 (by decide) ?_
  refine J_icmp_ne X (tgt := 95) dX10_sign_88 (by decide) ?_ ?_
  · refine J_bipush X (v := (13 : Int32)) dX10_sign_91 (by decide) ?_
    refine J_istore X (ls' := [some (.ref v0), some (.int v1), some (.int v2), none, some (.int (13 : Int32))]) dX10_sign_93 (by decide) rfl ?_
    refine J_mask [true, true, false, false, true] ?_
    exact t_X10_sign_95 X hR v0 kv0 v1 (13 : Int32) S w
  · refine J_mask [true, true, false, false, true] ?_
    exact t_X10_sign_95 X hR v0 kv0 v1 v4 S w
set_option maxRecDepth 20000 in
def b_X10_sign_75 (v0 : Nat) (v1 : Int32) (v2 : Int32) (v4 : Int32) (S : St) : Option (Int32 × St) := if v2 = (47 : Int32) then (b_X10_sign_85 v0 v1 v2 (15 : Int32) S) else (b_X10_sign_85 v0 v1 v2 v4 S)
set_option maxRecDepth 20000 in
theorem t_X10_sign_75 {K : KK} (X : CX K cX10_sign 5 RX10 (some .int)) (hR : kR K = rmD 1) (v0 : Nat) (kv0 : KA (kDn K) v0 (0, 10)) (v1 : Int32) (v2 : Int32) (v4 : Int32) (S : St) (w : WT (kDn K) S.2.2) : JX K (Zm K (fun v : Int32 => some (.int v))) 75 [some (.ref v0), some (.int v1), some (.int v2), none, some (.int v4)] [] (rwN (kN K) S) (kn K) 0 0 (b_X10_sign_75 v0 v1 v2 v4 S) := by
  unfold b_X10_sign_75
  refine J_iload_n X dX10_sign_75 (i := 2) rfl rfl ?_
  refine J_bipush X (v := (47 : Int32)) dX10_sign_76 (by decide) ?_
  refine J_icmp_ne X (tgt := 85) dX10_sign_78 (by decide) ?_ ?_
  · refine J_bipush X (v := (15 : Int32)) dX10_sign_81 (by decide) ?_
    refine J_istore X (ls' := [some (.ref v0), some (.int v1), some (.int v2), none, some (.int (15 : Int32))]) dX10_sign_83 (by decide) rfl ?_
    exact t_X10_sign_85 X hR v0 kv0 v1 v2 (15 : Int32) S w
  · exact t_X10_sign_85 X hR v0 kv0 v1 v2 v4 S w
set_option maxRecDepth 20000 in
def b_X10_sign_65 (v0 : Nat) (v1 : Int32) (v2 : Int32) (v4 : Int32) (S : St) : Option (Int32 × St) := if v2 = (42 : Int32) then (b_X10_sign_75 v0 v1 v2 (10 : Int32) S) else (b_X10_sign_75 v0 v1 v2 v4 S)
set_option maxRecDepth 20000 in
theorem t_X10_sign_65 {K : KK} (X : CX K cX10_sign 5 RX10 (some .int)) (hR : kR K = rmD 1) (v0 : Nat) (kv0 : KA (kDn K) v0 (0, 10)) (v1 : Int32) (v2 : Int32) (v4 : Int32) (S : St) (w : WT (kDn K) S.2.2) : JX K (Zm K (fun v : Int32 => some (.int v))) 65 [some (.ref v0), some (.int v1), some (.int v2), none, some (.int v4)] [] (rwN (kN K) S) (kn K) 0 0 (b_X10_sign_65 v0 v1 v2 v4 S) := by
  unfold b_X10_sign_65
  refine J_iload_n X dX10_sign_65 (i := 2) rfl rfl ?_
  refine J_bipush X (v := (42 : Int32)) dX10_sign_66 (by decide) ?_
  refine J_icmp_ne X (tgt := 75) dX10_sign_68 (by decide) ?_ ?_
  · refine J_bipush X (v := (10 : Int32)) dX10_sign_71 (by decide) ?_
    refine J_istore X (ls' := [some (.ref v0), some (.int v1), some (.int v2), none, some (.int (10 : Int32))]) dX10_sign_73 (by decide) rfl ?_
    exact t_X10_sign_75 X hR v0 kv0 v1 v2 (10 : Int32) S w
  · exact t_X10_sign_75 X hR v0 kv0 v1 v2 v4 S w
set_option maxRecDepth 20000 in
def b_X10_sign_55 (v0 : Nat) (v1 : Int32) (v2 : Int32) (v4 : Int32) (S : St) : Option (Int32 × St) := if v2 = (45 : Int32) then (b_X10_sign_65 v0 v1 v2 (9 : Int32) S) else (b_X10_sign_65 v0 v1 v2 v4 S)
set_option maxRecDepth 20000 in
theorem t_X10_sign_55 {K : KK} (X : CX K cX10_sign 5 RX10 (some .int)) (hR : kR K = rmD 1) (v0 : Nat) (kv0 : KA (kDn K) v0 (0, 10)) (v1 : Int32) (v2 : Int32) (v4 : Int32) (S : St) (w : WT (kDn K) S.2.2) : JX K (Zm K (fun v : Int32 => some (.int v))) 55 [some (.ref v0), some (.int v1), some (.int v2), none, some (.int v4)] [] (rwN (kN K) S) (kn K) 0 0 (b_X10_sign_55 v0 v1 v2 v4 S) := by
  unfold b_X10_sign_55
  refine J_iload_n X dX10_sign_55 (i := 2) rfl rfl ?_
  refine J_bipush X (v := (45 : Int32)) dX10_sign_56 (by decide) ?_
  refine J_icmp_ne X (tgt := 65) dX10_sign_58 (by decide) ?_ ?_
  · refine J_bipush X (v := (9 : Int32)) dX10_sign_61 (by decide) ?_
    refine J_istore X (ls' := [some (.ref v0), some (.int v1), some (.int v2), none, some (.int (9 : Int32))]) dX10_sign_63 (by decide) rfl ?_
    exact t_X10_sign_65 X hR v0 kv0 v1 v2 (9 : Int32) S w
  · exact t_X10_sign_65 X hR v0 kv0 v1 v2 v4 S w
set_option maxRecDepth 20000 in
def b_X10_sign_43 (v0 : Nat) (v1 : Int32) (v2 : Int32) (s0 : Int32) (S : St) : Option (Int32 × St) := if v2 = (43 : Int32) then (b_X10_sign_55 v0 v1 v2 (8 : Int32) S) else (b_X10_sign_55 v0 v1 v2 s0 S)
set_option maxRecDepth 20000 in
theorem t_X10_sign_43 {K : KK} (X : CX K cX10_sign 5 RX10 (some .int)) (hR : kR K = rmD 1) (v0 : Nat) (kv0 : KA (kDn K) v0 (0, 10)) (v1 : Int32) (v2 : Int32) (s0 : Int32) (S : St) (w : WT (kDn K) S.2.2) : JX K (Zm K (fun v : Int32 => some (.int v))) 43 [some (.ref v0), some (.int v1), some (.int v2), none, none] [.int s0] (rwN (kN K) S) (kn K) 0 0 (b_X10_sign_43 v0 v1 v2 s0 S) := by
  unfold b_X10_sign_43
  refine J_istore X (ls' := [some (.ref v0), some (.int v1), some (.int v2), none, some (.int s0)]) dX10_sign_43 (by decide) rfl ?_
  refine J_iload_n X dX10_sign_45 (i := 2) rfl rfl ?_
  refine J_bipush X (v := (43 : Int32)) dX10_sign_46 (by decide) ?_
  refine J_icmp_ne X (tgt := 55) dX10_sign_48 (by decide) ?_ ?_
  · refine J_bipush X (v := (8 : Int32)) dX10_sign_51 (by decide) ?_
    refine J_istore X (ls' := [some (.ref v0), some (.int v1), some (.int v2), none, some (.int (8 : Int32))]) dX10_sign_53 (by decide) rfl ?_
    exact t_X10_sign_55 X hR v0 kv0 v1 v2 (8 : Int32) S w
  · exact t_X10_sign_55 X hR v0 kv0 v1 v2 s0 S w
set_option maxRecDepth 20000 in
def f_X10_sign (v0 : Nat) (v1 : Int32) (v2 : Int32) (v3 : Int32) (S : St) : Option (Int32 × St) := if v2 = (59 : Int32) then (b_X10_sign_43 v0 v1 v2 (4 : Int32) S) else (if v2 = (61 : Int32) then (b_X10_sign_43 v0 v1 v2 (5 : Int32) S) else (if v2 = (40 : Int32) then (b_X10_sign_43 v0 v1 v2 (6 : Int32) S) else (if v2 = (41 : Int32) then (b_X10_sign_43 v0 v1 v2 (7 : Int32) S) else (b_X10_sign_43 v0 v1 v2 (3 : Int32) S))))
set_option maxRecDepth 20000 in
theorem t_X10_sign_0 {K : KK} (X : CX K cX10_sign 5 RX10 (some .int)) (hR : kR K = rmD 1) (v0 : Nat) (kv0 : KA (kDn K) v0 (0, 10)) (v1 : Int32) (v2 : Int32) (v3 : Int32) (S : St) (w : WT (kDn K) S.2.2) : JX K (Zm K (fun v : Int32 => some (.int v))) 0 [some (.ref v0), some (.int v1), some (.int v2), some (.int v3), none] [] (rwN (kN K) S) (kn K) 0 0 (f_X10_sign v0 v1 v2 v3 S) := by
  unfold f_X10_sign
  refine J_iload_n X dX10_sign_0 (i := 2) rfl rfl ?_
  refine J_bipush X (v := (59 : Int32)) dX10_sign_1 (by decide) ?_
  refine J_icmp_ne X (tgt := 10) dX10_sign_3 (by decide) ?_ ?_
  · refine J_iconst X (v := (4 : Int32)) dX10_sign_6 (by decide) ?_
    refine J_goto X (tgt := 43) dX10_sign_7 (by decide) ?_
    refine J_mask [true, true, true, false, false] ?_
    exact t_X10_sign_43 X hR v0 kv0 v1 v2 (4 : Int32) S w
  · refine J_iload_n X dX10_sign_10 (i := 2) rfl rfl ?_
    refine J_bipush X (v := (61 : Int32)) dX10_sign_11 (by decide) ?_
    refine J_icmp_ne X (tgt := 20) dX10_sign_13 (by decide) ?_ ?_
    · refine J_iconst X (v := (5 : Int32)) dX10_sign_16 (by decide) ?_
      refine J_goto X (tgt := 43) dX10_sign_17 (by decide) ?_
      refine J_mask [true, true, true, false, false] ?_
      exact t_X10_sign_43 X hR v0 kv0 v1 v2 (5 : Int32) S w
    · refine J_iload_n X dX10_sign_20 (i := 2) rfl rfl ?_
      refine J_bipush X (v := (40 : Int32)) dX10_sign_21 (by decide) ?_
      refine J_icmp_ne X (tgt := 31) dX10_sign_23 (by decide) ?_ ?_
      · refine J_bipush X (v := (6 : Int32)) dX10_sign_26 (by decide) ?_
        refine J_goto X (tgt := 43) dX10_sign_28 (by decide) ?_
        refine J_mask [true, true, true, false, false] ?_
        exact t_X10_sign_43 X hR v0 kv0 v1 v2 (6 : Int32) S w
      · refine J_iload_n X dX10_sign_31 (i := 2) rfl rfl ?_
        refine J_bipush X (v := (41 : Int32)) dX10_sign_32 (by decide) ?_
        refine J_icmp_ne X (tgt := 42) dX10_sign_34 (by decide) ?_ ?_
        · refine J_bipush X (v := (7 : Int32)) dX10_sign_37 (by decide) ?_
          refine J_goto X (tgt := 43) dX10_sign_39 (by decide) ?_
          refine J_mask [true, true, true, false, false] ?_
          exact t_X10_sign_43 X hR v0 kv0 v1 v2 (7 : Int32) S w
        · refine J_iconst X (v := (3 : Int32)) dX10_sign_42 (by decide) ?_
          refine J_mask [true, true, true, false, false] ?_
          exact t_X10_sign_43 X hR v0 kv0 v1 v2 (3 : Int32) S w
theorem C_X10_sign (G : GG) (v0 : Nat) (kv0 : KA (gD G) v0 (0, 10)) (v1 : Int32) (v2 : Int32) (v3 : Int32) (S : St) : CM G yX10_sign cX10_sign 5 (some .int) 1 [.ref v0, .int v1, .int v2, .int v3] S (fun v : Int32 => some (.int v)) (f_X10_sign v0 v1 v2 v3 S) :=
  CM_of (by decide) (Nat.le_of_ble_eq_true rfl) rfl (fun K hG X hR w => by subst hG; exact t_X10_sign_0 X hR v0 kv0 v1 v2 v3 S w)
-- ==== X10_cutsUp
theorem hy_X10_cutsUp : yX10_cutsUp.cls ≠ "java/lang/invoke/MethodHandle" ∧ yX10_cutsUp.cls ≠ "java/lang/invoke/VarHandle" ∧ (parseMethodDescriptor yX10_cutsUp.desc).map (fun d => d.parameters.length) = some 0 := by decide +kernel
set_option maxRecDepth 20000 in
def b_X10_cutsUp_291 (q7 : Nat → Int32 → St → Option (Unit × St)) (v0 : Nat) (v1 : Int32) (S : St) : Option (Unit × St) := q7 v0 v1 S
set_option maxRecDepth 20000 in
theorem t_X10_cutsUp_291 {K : KK} (X : CX K cX10_cutsUp 8 RX10 none) (hR : kR K = rmD 2) {q7 : Nat → Int32 → St → Option (Unit × St)} (hq7 : ∀ (v0 : Nat) (kv0 : KA (kDn K) v0 (0, 10)) (v1 : Int32) (S : St), WT (kDn K) S.2.2 → JX K (Zm K (fun _ : Unit => none)) 7 [some (.ref v0), some (.int v1), none, none, none, none, none, none] [] (rwN (kN K) S) (kn K) 0 0 (q7 v0 v1 S)) (v0 : Nat) (kv0 : KA (kDn K) v0 (0, 10)) (v1 : Int32) (S : St) (w : WT (kDn K) S.2.2) : JX K (Zm K (fun _ : Unit => none)) 291 [some (.ref v0), some (.int v1), none, none, none, none, none, none] [] (rwN (kN K) S) (kn K) 0 0 (b_X10_cutsUp_291 q7 v0 v1 S) := by
  unfold b_X10_cutsUp_291
  refine J_goto X (tgt := 7) dX10_cutsUp_291 (by decide) ?_
  exact hq7 v0 kv0 v1 S w
set_option maxRecDepth 20000 in
def b_X10_cutsUp_67 (q7 : Nat → Int32 → St → Option (Unit × St)) (v0 : Nat) (v1 : Int32) (S : St) : Option (Unit × St) := nm (v1 + (1 : Int32)) fun x1 => b_X10_cutsUp_291 q7 v0 x1 S
set_option maxRecDepth 20000 in
theorem t_X10_cutsUp_67 {K : KK} (X : CX K cX10_cutsUp 8 RX10 none) (hR : kR K = rmD 2) {q7 : Nat → Int32 → St → Option (Unit × St)} (hq7 : ∀ (v0 : Nat) (kv0 : KA (kDn K) v0 (0, 10)) (v1 : Int32) (S : St), WT (kDn K) S.2.2 → JX K (Zm K (fun _ : Unit => none)) 7 [some (.ref v0), some (.int v1), none, none, none, none, none, none] [] (rwN (kN K) S) (kn K) 0 0 (q7 v0 v1 S)) (v0 : Nat) (kv0 : KA (kDn K) v0 (0, 10)) (v1 : Int32) (S : St) (w : WT (kDn K) S.2.2) : JX K (Zm K (fun _ : Unit => none)) 67 [some (.ref v0), some (.int v1), none, none, none, none, none, none] [] (rwN (kN K) S) (kn K) 0 0 (b_X10_cutsUp_67 q7 v0 v1 S) := by
  unfold b_X10_cutsUp_67
  refine J_nmv (v1 + (1 : Int32)) (fun x1 ex1 => ?_)
  refine J_iinc X (v := x1) (ls' := [some (.ref v0), some (.int x1), none, none, none, none, none, none]) dX10_cutsUp_67 (by decide) rfl (by rw [ex1]; rfl) rfl ?_
  refine J_goto X (tgt := 291) dX10_cutsUp_70 (by decide) ?_
  exact t_X10_cutsUp_291 X hR hq7 v0 kv0 x1 S w
set_option maxRecDepth 20000 in
def b_X10_cutsUp_261 (q7 : Nat → Int32 → St → Option (Unit × St)) (v0 : Nat) (v1 : Int32) (v3 : Int32) (v4 : Int32) (s0 : Nat) (s1 : Int32) (S : St) : Option (Unit × St) := bd (f_X10_token s0 s1 v1 v4 (0 : Int64) S) fun _ S1 => nm (v1 + v3) fun x3 => b_X10_cutsUp_291 q7 v0 x3 S1
set_option maxRecDepth 20000 in
theorem t_X10_cutsUp_261 {K : KK} (X : CX K cX10_cutsUp 8 RX10 none) (hR : kR K = rmD 2) {q7 : Nat → Int32 → St → Option (Unit × St)} (hq7 : ∀ (v0 : Nat) (kv0 : KA (kDn K) v0 (0, 10)) (v1 : Int32) (S : St), WT (kDn K) S.2.2 → JX K (Zm K (fun _ : Unit => none)) 7 [some (.ref v0), some (.int v1), none, none, none, none, none, none] [] (rwN (kN K) S) (kn K) 0 0 (q7 v0 v1 S)) (v0 : Nat) (kv0 : KA (kDn K) v0 (0, 10)) (v1 : Int32) (v3 : Int32) (v4 : Int32) (s0 : Nat) (ks0 : KA (kDn K) s0 (0, 10)) (s1 : Int32) (S : St) (w : WT (kDn K) S.2.2) : JX K (Zm K (fun _ : Unit => none)) 261 [some (.ref v0), some (.int v1), none, some (.int v3), some (.int v4), none, none, none] [.int s1, .ref s0] (rwN (kN K) S) (kn K) 0 0 (b_X10_cutsUp_261 q7 v0 v1 v3 v4 s0 s1 S) := by
  unfold b_X10_cutsUp_261
  refine J_iload_n X dX10_cutsUp_261 (i := 1) rfl rfl ?_
  refine J_iload X dX10_cutsUp_262 rfl ?_
  refine J_lconst X (v := (0 : Int64)) dX10_cutsUp_264 (by decide) ?_
  refine T_callV (As := [.int s1, .int v1, .int v4, .long (0 : Int64)]) w X (C_X10_token (kG K) s0 ks0 s1 v1 v4 (0 : Int64) S) cb10 ks0 ml_X10_194 in_yX10_token se_yX10_token ii_RX10 co_yX10_token hy_X10_token (hRd hR (by decide) (by decide)) rfl (Nat.le_of_ble_eq_true rfl) dX10_cutsUp_265 (fun _ S1 _ wS1 => ?_)
  refine J_iload_n X dX10_cutsUp_268 (i := 1) rfl rfl ?_
  refine J_iload_n X dX10_cutsUp_269 (i := 3) rfl rfl ?_
  refine J_iadd X dX10_cutsUp_270 ?_
  refine J_nmi (fun x3 => ?_)
  refine J_istore_n X (i := 1) (ls' := [some (.ref v0), some (.int x3), none, some (.int v3), some (.int v4), none, none, none]) dX10_cutsUp_271 rfl (by decide) rfl ?_
  refine J_goto X (tgt := 291) dX10_cutsUp_272 (by decide) ?_
  refine J_mask [true, true, false, false, false, false, false, false] ?_
  exact t_X10_cutsUp_291 X hR hq7 v0 kv0 x3 S1 wS1
set_option maxRecDepth 20000 in
def b_X10_cutsUp_244 (q7 : Nat → Int32 → St → Option (Unit × St)) (q208 : Nat → Int32 → Int32 → Int32 → St → Option (Unit × St)) (v0 : Nat) (v1 : Int32) (v3 : Int32) (v4 : Int32) (S : St) : Option (Unit × St) := nm (v3 + (1 : Int32)) fun x1 => q208 v0 v1 x1 v4 S
set_option maxRecDepth 20000 in
theorem t_X10_cutsUp_244 {K : KK} (X : CX K cX10_cutsUp 8 RX10 none) (hR : kR K = rmD 2) {q7 : Nat → Int32 → St → Option (Unit × St)} (hq7 : ∀ (v0 : Nat) (kv0 : KA (kDn K) v0 (0, 10)) (v1 : Int32) (S : St), WT (kDn K) S.2.2 → JX K (Zm K (fun _ : Unit => none)) 7 [some (.ref v0), some (.int v1), none, none, none, none, none, none] [] (rwN (kN K) S) (kn K) 0 0 (q7 v0 v1 S)) {q208 : Nat → Int32 → Int32 → Int32 → St → Option (Unit × St)} (hq208 : ∀ (v0 : Nat) (kv0 : KA (kDn K) v0 (0, 10)) (v1 : Int32) (v3 : Int32) (v4 : Int32) (S : St), WT (kDn K) S.2.2 → JX K (Zm K (fun _ : Unit => none)) 208 [some (.ref v0), some (.int v1), none, some (.int v3), some (.int v4), none, none, none] [] (rwN (kN K) S) (kn K) 0 0 (q208 v0 v1 v3 v4 S)) (v0 : Nat) (kv0 : KA (kDn K) v0 (0, 10)) (v1 : Int32) (v3 : Int32) (v4 : Int32) (S : St) (w : WT (kDn K) S.2.2) : JX K (Zm K (fun _ : Unit => none)) 244 [some (.ref v0), some (.int v1), none, some (.int v3), some (.int v4), none, none, none] [] (rwN (kN K) S) (kn K) 0 0 (b_X10_cutsUp_244 q7 q208 v0 v1 v3 v4 S) := by
  unfold b_X10_cutsUp_244
  refine J_nmv (v3 + (1 : Int32)) (fun x1 ex1 => ?_)
  refine J_iinc X (v := x1) (ls' := [some (.ref v0), some (.int v1), none, some (.int x1), some (.int v4), none, none, none]) dX10_cutsUp_244 (by decide) rfl (by rw [ex1]; rfl) rfl ?_
  refine J_goto X (tgt := 208) dX10_cutsUp_247 (by decide) ?_
  exact hq208 v0 kv0 v1 x1 v4 S w
set_option maxRecDepth 20000 in
def b_X10_cutsUp_208 (q7 : Nat → Int32 → St → Option (Unit × St)) : Nat → Nat → Int32 → Int32 → Int32 → St → Option (Unit × St)
  | 0, _, _, _, _, _ => none
  | fu + 1, v0, v1, v3, v4, S => bd (f_X10_byteAt v0 (v1 + v3) S) fun r2 S1 => bd (f_X10_isDigit r2 S1) fun r4 S3 => if r4 = 0 then (if v3 ≤ (4 : Int32) then (b_X10_cutsUp_261 q7 v0 v1 v3 v4 v0 (2 : Int32) S3) else (b_X10_cutsUp_261 q7 v0 v1 v3 v4 v0 (3 : Int32) S3)) else (if (4 : Int32) ≤ v3 then (b_X10_cutsUp_244 q7 (b_X10_cutsUp_208 q7 fu) v0 v1 v3 v4 S3) else (bd (f_X10_byteAt v0 (v1 + v3) S3) fun r6 S5 => nm ((((10 : Int32) * v4) + r6) - (48 : Int32)) fun x7 => b_X10_cutsUp_244 q7 (b_X10_cutsUp_208 q7 fu) v0 v1 v3 x7 S5))
set_option maxRecDepth 20000 in
theorem t_X10_cutsUp_208 {K : KK} (X : CX K cX10_cutsUp 8 RX10 none) (hR : kR K = rmD 2) {q7 : Nat → Int32 → St → Option (Unit × St)} (hq7 : ∀ (v0 : Nat) (kv0 : KA (kDn K) v0 (0, 10)) (v1 : Int32) (S : St), WT (kDn K) S.2.2 → JX K (Zm K (fun _ : Unit => none)) 7 [some (.ref v0), some (.int v1), none, none, none, none, none, none] [] (rwN (kN K) S) (kn K) 0 0 (q7 v0 v1 S)) : ∀ (fu : Nat) (v0 : Nat) (kv0 : KA (kDn K) v0 (0, 10)) (v1 : Int32) (v3 : Int32) (v4 : Int32) (S : St), WT (kDn K) S.2.2 → JX K (Zm K (fun _ : Unit => none)) 208 [some (.ref v0), some (.int v1), none, some (.int v3), some (.int v4), none, none, none] [] (rwN (kN K) S) (kn K) 0 0 (b_X10_cutsUp_208 q7 fu v0 v1 v3 v4 S) := by
  intro fu
  induction fu with
  | zero => intro v0 kv0 v1 v3 v4 S w; exact J_none
  | succ fu ih =>
    intro v0 kv0 v1 v3 v4 S w
    rw [b_X10_cutsUp_208]
    refine J_aload_n X dX10_cutsUp_208 (i := 0) rfl rfl ?_
    refine J_iload_n X dX10_cutsUp_209 (i := 1) rfl rfl ?_
    refine J_iload_n X dX10_cutsUp_210 (i := 3) rfl rfl ?_
    refine J_iadd X dX10_cutsUp_211 ?_
    refine T_callV (As := [.int (v1 + v3)]) w X (C_X10_byteAt (kG K) v0 kv0 (v1 + v3) S) cb10 kv0 ml_X10_190 in_yX10_byteAt se_yX10_byteAt ii_RX10 co_yX10_byteAt hy_X10_byteAt (hRd hR (by decide) (by decide)) rfl (Nat.le_of_ble_eq_true rfl) dX10_cutsUp_212 (fun r2 S1 _ wS1 => ?_)
    refine T_callS (As := [.int r2]) wS1 X (C_X10_isDigit (kG K) r2 S1) ml_X10_202 st_yX10_isDigit ii_RX10 co_yX10_isDigit hy_X10_isDigit (hRd hR (by decide) (by decide)) rfl (Nat.le_of_ble_eq_true rfl) dX10_cutsUp_215 (fun r4 S3 _ wS3 => ?_)
    refine J_if_eq X (tgt := 250) dX10_cutsUp_218 (by decide) ?_ ?_
    · refine J_aload_n X dX10_cutsUp_250 (i := 0) rfl rfl ?_
      refine J_iload_n X dX10_cutsUp_251 (i := 3) rfl rfl ?_
      refine J_iconst X (v := (4 : Int32)) dX10_cutsUp_252 (by decide) ?_
      refine J_icmp_le X (tgt := 260) dX10_cutsUp_253 (by decide) ?_ ?_
      · refine J_iconst X (v := (2 : Int32)) dX10_cutsUp_260 (by decide) ?_
        exact t_X10_cutsUp_261 X hR hq7 v0 kv0 v1 v3 v4 v0 kv0 (2 : Int32) S3 wS3
      · refine J_iconst X (v := (3 : Int32)) dX10_cutsUp_256 (by decide) ?_
        refine J_goto X (tgt := 261) dX10_cutsUp_257 (by decide) ?_
        exact t_X10_cutsUp_261 X hR hq7 v0 kv0 v1 v3 v4 v0 kv0 (3 : Int32) S3 wS3
    · refine J_iload_n X dX10_cutsUp_221 (i := 3) rfl rfl ?_
      refine J_iconst X (v := (4 : Int32)) dX10_cutsUp_222 (by decide) ?_
      refine J_icmp_ge X (tgt := 244) dX10_cutsUp_223 (by decide) ?_ ?_
      · exact t_X10_cutsUp_244 X hR hq7 ih v0 kv0 v1 v3 v4 S3 wS3
      · refine J_bipush X (v := (10 : Int32)) dX10_cutsUp_226 (by decide) ?_
        refine J_iload X dX10_cutsUp_228 rfl ?_
        refine J_imul X dX10_cutsUp_230 ?_
        refine J_aload_n X dX10_cutsUp_231 (i := 0) rfl rfl ?_
        refine J_iload_n X dX10_cutsUp_232 (i := 1) rfl rfl ?_
        refine J_iload_n X dX10_cutsUp_233 (i := 3) rfl rfl ?_
        refine J_iadd X dX10_cutsUp_234 ?_
        refine T_callV (As := [.int (v1 + v3)]) wS3 X (C_X10_byteAt (kG K) v0 kv0 (v1 + v3) S3) cb10 kv0 ml_X10_190 in_yX10_byteAt se_yX10_byteAt ii_RX10 co_yX10_byteAt hy_X10_byteAt (hRd hR (by decide) (by decide)) rfl (Nat.le_of_ble_eq_true rfl) dX10_cutsUp_235 (fun r6 S5 _ wS5 => ?_)
        refine J_iadd X dX10_cutsUp_238 ?_
        refine J_bipush X (v := (48 : Int32)) dX10_cutsUp_239 (by decide) ?_
        refine J_isub X dX10_cutsUp_241 ?_
        refine J_nmi (fun x7 => ?_)
        refine J_istore X (ls' := [some (.ref v0), some (.int v1), none, some (.int v3), some (.int x7), none, none, none]) dX10_cutsUp_242 (by decide) rfl ?_
        exact t_X10_cutsUp_244 X hR hq7 ih v0 kv0 v1 v3 x7 S5 wS5
set_option maxRecDepth 20000 in
def b_X10_cutsUp_179 (q7 : Nat → Int32 → St → Option (Unit × St)) (v0 : Nat) (v1 : Int32) (v3 : Int32) (v4 : Int64) (v6 : Int32) (S : St) : Option (Unit × St) := bd (f_X10_token v0 v6 v1 (0 : Int32) v4 S) fun _ S1 => nm (v1 + v3) fun x3 => b_X10_cutsUp_291 q7 v0 x3 S1
set_option maxRecDepth 20000 in
theorem t_X10_cutsUp_179 {K : KK} (X : CX K cX10_cutsUp 8 RX10 none) (hR : kR K = rmD 2) {q7 : Nat → Int32 → St → Option (Unit × St)} (hq7 : ∀ (v0 : Nat) (kv0 : KA (kDn K) v0 (0, 10)) (v1 : Int32) (S : St), WT (kDn K) S.2.2 → JX K (Zm K (fun _ : Unit => none)) 7 [some (.ref v0), some (.int v1), none, none, none, none, none, none] [] (rwN (kN K) S) (kn K) 0 0 (q7 v0 v1 S)) (v0 : Nat) (kv0 : KA (kDn K) v0 (0, 10)) (v1 : Int32) (v3 : Int32) (v4 : Int64) (v6 : Int32) (S : St) (w : WT (kDn K) S.2.2) : JX K (Zm K (fun _ : Unit => none)) 179 [some (.ref v0), some (.int v1), none, some (.int v3), some (.long v4), none, some (.int v6), none] [] (rwN (kN K) S) (kn K) 0 0 (b_X10_cutsUp_179 q7 v0 v1 v3 v4 v6 S) := by
  unfold b_X10_cutsUp_179
  refine J_aload_n X dX10_cutsUp_179 (i := 0) rfl rfl ?_
  refine J_iload X dX10_cutsUp_180 rfl ?_
  refine J_iload_n X dX10_cutsUp_182 (i := 1) rfl rfl ?_
  refine J_iconst X (v := (0 : Int32)) dX10_cutsUp_183 (by decide) ?_
  refine J_lload X dX10_cutsUp_184 rfl ?_
  refine T_callV (As := [.int v6, .int v1, .int (0 : Int32), .long v4]) w X (C_X10_token (kG K) v0 kv0 v6 v1 (0 : Int32) v4 S) cb10 kv0 ml_X10_194 in_yX10_token se_yX10_token ii_RX10 co_yX10_token hy_X10_token (hRd hR (by decide) (by decide)) rfl (Nat.le_of_ble_eq_true rfl) dX10_cutsUp_186 (fun _ S1 _ wS1 => ?_)
  refine J_iload_n X dX10_cutsUp_189 (i := 1) rfl rfl ?_
  refine J_iload_n X dX10_cutsUp_190 (i := 3) rfl rfl ?_
  refine J_iadd X dX10_cutsUp_191 ?_
  refine J_nmi (fun x3 => ?_)
  refine J_istore_n X (i := 1) (ls' := [some (.ref v0), some (.int x3), none, some (.int v3), some (.long v4), none, some (.int v6), none]) dX10_cutsUp_192 rfl (by decide) rfl ?_
  refine J_goto X (tgt := 291) dX10_cutsUp_193 (by decide) ?_
  refine J_mask [true, true, false, false, false, false, false, false] ?_
  exact t_X10_cutsUp_291 X hR hq7 v0 kv0 x3 S1 wS1
set_option maxRecDepth 20000 in
def b_X10_cutsUp_173 (q7 : Nat → Int32 → St → Option (Unit × St)) (q146 : Nat → Int32 → Int32 → Int64 → Int32 → Int32 → St → Option (Unit × St)) (v0 : Nat) (v1 : Int32) (v3 : Int32) (v4 : Int64) (v6 : Int32) (v7 : Int32) (S : St) : Option (Unit × St) := nm (v7 + (1 : Int32)) fun x1 => q146 v0 v1 v3 v4 v6 x1 S
set_option maxRecDepth 20000 in
theorem t_X10_cutsUp_173 {K : KK} (X : CX K cX10_cutsUp 8 RX10 none) (hR : kR K = rmD 2) {q7 : Nat → Int32 → St → Option (Unit × St)} (hq7 : ∀ (v0 : Nat) (kv0 : KA (kDn K) v0 (0, 10)) (v1 : Int32) (S : St), WT (kDn K) S.2.2 → JX K (Zm K (fun _ : Unit => none)) 7 [some (.ref v0), some (.int v1), none, none, none, none, none, none] [] (rwN (kN K) S) (kn K) 0 0 (q7 v0 v1 S)) {q146 : Nat → Int32 → Int32 → Int64 → Int32 → Int32 → St → Option (Unit × St)} (hq146 : ∀ (v0 : Nat) (kv0 : KA (kDn K) v0 (0, 10)) (v1 : Int32) (v3 : Int32) (v4 : Int64) (v6 : Int32) (v7 : Int32) (S : St), WT (kDn K) S.2.2 → JX K (Zm K (fun _ : Unit => none)) 146 [some (.ref v0), some (.int v1), none, some (.int v3), some (.long v4), none, some (.int v6), some (.int v7)] [] (rwN (kN K) S) (kn K) 0 0 (q146 v0 v1 v3 v4 v6 v7 S)) (v0 : Nat) (kv0 : KA (kDn K) v0 (0, 10)) (v1 : Int32) (v3 : Int32) (v4 : Int64) (v6 : Int32) (v7 : Int32) (S : St) (w : WT (kDn K) S.2.2) : JX K (Zm K (fun _ : Unit => none)) 173 [some (.ref v0), some (.int v1), none, some (.int v3), some (.long v4), none, some (.int v6), some (.int v7)] [] (rwN (kN K) S) (kn K) 0 0 (b_X10_cutsUp_173 q7 q146 v0 v1 v3 v4 v6 v7 S) := by
  unfold b_X10_cutsUp_173
  refine J_nmv (v7 + (1 : Int32)) (fun x1 ex1 => ?_)
  refine J_iinc X (v := x1) (ls' := [some (.ref v0), some (.int v1), none, some (.int v3), some (.long v4), none, some (.int v6), some (.int x1)]) dX10_cutsUp_173 (by decide) rfl (by rw [ex1]; rfl) rfl ?_
  refine J_goto X (tgt := 146) dX10_cutsUp_176 (by decide) ?_
  exact hq146 v0 kv0 v1 v3 v4 v6 x1 S w
set_option maxRecDepth 20000 in
def b_X10_cutsUp_146 (q7 : Nat → Int32 → St → Option (Unit × St)) : Nat → Nat → Int32 → Int32 → Int64 → Int32 → Int32 → St → Option (Unit × St)
  | 0, _, _, _, _, _, _, _ => none
  | fu + 1, v0, v1, v3, v4, v6, v7, S => if (21 : Int32) ≤ v7 then (b_X10_cutsUp_179 q7 v0 v1 v3 v4 v6 S) else ((ix v7 21).bind fun j1 => if (lg_cmp (S.2.1 (S.2.2 v0 9) j1) v4) = 0 then (nm ((20 : Int32) + v7) fun x2 => b_X10_cutsUp_173 q7 (b_X10_cutsUp_146 q7 fu) v0 v1 v3 v4 x2 v7 S) else (b_X10_cutsUp_173 q7 (b_X10_cutsUp_146 q7 fu) v0 v1 v3 v4 v6 v7 S))
set_option maxRecDepth 20000 in
theorem t_X10_cutsUp_146 {K : KK} (X : CX K cX10_cutsUp 8 RX10 none) (hR : kR K = rmD 2) {q7 : Nat → Int32 → St → Option (Unit × St)} (hq7 : ∀ (v0 : Nat) (kv0 : KA (kDn K) v0 (0, 10)) (v1 : Int32) (S : St), WT (kDn K) S.2.2 → JX K (Zm K (fun _ : Unit => none)) 7 [some (.ref v0), some (.int v1), none, none, none, none, none, none] [] (rwN (kN K) S) (kn K) 0 0 (q7 v0 v1 S)) : ∀ (fu : Nat) (v0 : Nat) (kv0 : KA (kDn K) v0 (0, 10)) (v1 : Int32) (v3 : Int32) (v4 : Int64) (v6 : Int32) (v7 : Int32) (S : St), WT (kDn K) S.2.2 → JX K (Zm K (fun _ : Unit => none)) 146 [some (.ref v0), some (.int v1), none, some (.int v3), some (.long v4), none, some (.int v6), some (.int v7)] [] (rwN (kN K) S) (kn K) 0 0 (b_X10_cutsUp_146 q7 fu v0 v1 v3 v4 v6 v7 S) := by
  intro fu
  induction fu with
  | zero => intro v0 kv0 v1 v3 v4 v6 v7 S w; exact J_none
  | succ fu ih =>
    intro v0 kv0 v1 v3 v4 v6 v7 S w
    rw [b_X10_cutsUp_146]
    refine J_iload X dX10_cutsUp_146 rfl ?_
    refine J_bipush X (v := (21 : Int32)) dX10_cutsUp_148 (by decide) ?_
    refine J_icmp_ge X (tgt := 179) dX10_cutsUp_150 (by decide) ?_ ?_
    · refine J_mask [true, true, false, true, true, false, true, false] ?_
      exact t_X10_cutsUp_179 X hR hq7 v0 kv0 v1 v3 v4 v6 S w
    · refine J_aload_n X dX10_cutsUp_153 (i := 0) rfl rfl ?_
      refine T_getR X (kf := 9) cb10 kv0 (by decide) fl_X10_34 (fun _ _ _ => rfl) dX10_cutsUp_154 ?_
      refine J_iload X dX10_cutsUp_157 rfl ?_
      refine T_lald X (w.1 _ _ kv0 9 _ rfl) dX10_cutsUp_159 (fun j1 => ?_)
      refine J_lload X dX10_cutsUp_160 rfl ?_
      refine J_lcmp X dX10_cutsUp_162 ?_
      refine J_if_ne X (tgt := 173) dX10_cutsUp_163 (by decide) ?_ ?_
      · refine J_bipush X (v := (20 : Int32)) dX10_cutsUp_166 (by decide) ?_
        refine J_iload X dX10_cutsUp_168 rfl ?_
        refine J_iadd X dX10_cutsUp_170 ?_
        refine J_nmi (fun x2 => ?_)
        refine J_istore X (ls' := [some (.ref v0), some (.int v1), none, some (.int v3), some (.long v4), none, some (.int x2), some (.int v7)]) dX10_cutsUp_171 (by decide) rfl ?_
        exact t_X10_cutsUp_173 X hR hq7 ih v0 kv0 v1 v3 v4 x2 v7 S w
      · exact t_X10_cutsUp_173 X hR hq7 ih v0 kv0 v1 v3 v4 v6 v7 S w
set_option maxRecDepth 20000 in
def b_X10_cutsUp_135 (q7 : Nat → Int32 → St → Option (Unit × St)) (v0 : Nat) (v1 : Int32) (v3 : Int32) (v4 : Int64) (s0 : Int32) (S : St) : Option (Unit × St) := if (8 : Int32) < v3 then (b_X10_cutsUp_179 q7 v0 v1 v3 v4 s0 S) else (b_X10_cutsUp_146 q7 FU v0 v1 v3 v4 s0 (0 : Int32) S)
set_option maxRecDepth 20000 in
theorem t_X10_cutsUp_135 {K : KK} (X : CX K cX10_cutsUp 8 RX10 none) (hR : kR K = rmD 2) {q7 : Nat → Int32 → St → Option (Unit × St)} (hq7 : ∀ (v0 : Nat) (kv0 : KA (kDn K) v0 (0, 10)) (v1 : Int32) (S : St), WT (kDn K) S.2.2 → JX K (Zm K (fun _ : Unit => none)) 7 [some (.ref v0), some (.int v1), none, none, none, none, none, none] [] (rwN (kN K) S) (kn K) 0 0 (q7 v0 v1 S)) (v0 : Nat) (kv0 : KA (kDn K) v0 (0, 10)) (v1 : Int32) (v3 : Int32) (v4 : Int64) (s0 : Int32) (S : St) (w : WT (kDn K) S.2.2) : JX K (Zm K (fun _ : Unit => none)) 135 [some (.ref v0), some (.int v1), none, some (.int v3), some (.long v4), none, none, none] [.int s0] (rwN (kN K) S) (kn K) 0 0 (b_X10_cutsUp_135 q7 v0 v1 v3 v4 s0 S) := by
  unfold b_X10_cutsUp_135
  refine J_istore X (ls' := [some (.ref v0), some (.int v1), none, some (.int v3), some (.long v4), none, some (.int s0), none]) dX10_cutsUp_135 (by decide) rfl ?_
  refine J_iload_n X dX10_cutsUp_137 (i := 3) rfl rfl ?_
  refine J_bipush X (v := (8 : Int32)) dX10_cutsUp_138 (by decide) ?_
  refine J_icmp_gt X (tgt := 179) dX10_cutsUp_140 (by decide) ?_ ?_
  · exact t_X10_cutsUp_179 X hR hq7 v0 kv0 v1 v3 v4 s0 S w
  · refine J_iconst X (v := (0 : Int32)) dX10_cutsUp_143 (by decide) ?_
    refine J_istore X (ls' := [some (.ref v0), some (.int v1), none, some (.int v3), some (.long v4), none, some (.int s0), some (.int (0 : Int32))]) dX10_cutsUp_144 (by decide) rfl ?_
    exact t_X10_cutsUp_146 X hR hq7 FU v0 kv0 v1 v3 v4 s0 (0 : Int32) S w
set_option maxRecDepth 20000 in
def b_X10_cutsUp_118 (q7 : Nat → Int32 → St → Option (Unit × St)) (q85 : Nat → Int32 → Int32 → Int64 → St → Option (Unit × St)) (v0 : Nat) (v1 : Int32) (v3 : Int32) (v4 : Int64) (S : St) : Option (Unit × St) := nm (v3 + (1 : Int32)) fun x1 => q85 v0 v1 x1 v4 S
set_option maxRecDepth 20000 in
theorem t_X10_cutsUp_118 {K : KK} (X : CX K cX10_cutsUp 8 RX10 none) (hR : kR K = rmD 2) {q7 : Nat → Int32 → St → Option (Unit × St)} (hq7 : ∀ (v0 : Nat) (kv0 : KA (kDn K) v0 (0, 10)) (v1 : Int32) (S : St), WT (kDn K) S.2.2 → JX K (Zm K (fun _ : Unit => none)) 7 [some (.ref v0), some (.int v1), none, none, none, none, none, none] [] (rwN (kN K) S) (kn K) 0 0 (q7 v0 v1 S)) {q85 : Nat → Int32 → Int32 → Int64 → St → Option (Unit × St)} (hq85 : ∀ (v0 : Nat) (kv0 : KA (kDn K) v0 (0, 10)) (v1 : Int32) (v3 : Int32) (v4 : Int64) (S : St), WT (kDn K) S.2.2 → JX K (Zm K (fun _ : Unit => none)) 85 [some (.ref v0), some (.int v1), none, some (.int v3), some (.long v4), none, none, none] [] (rwN (kN K) S) (kn K) 0 0 (q85 v0 v1 v3 v4 S)) (v0 : Nat) (kv0 : KA (kDn K) v0 (0, 10)) (v1 : Int32) (v3 : Int32) (v4 : Int64) (S : St) (w : WT (kDn K) S.2.2) : JX K (Zm K (fun _ : Unit => none)) 118 [some (.ref v0), some (.int v1), none, some (.int v3), some (.long v4), none, none, none] [] (rwN (kN K) S) (kn K) 0 0 (b_X10_cutsUp_118 q7 q85 v0 v1 v3 v4 S) := by
  unfold b_X10_cutsUp_118
  refine J_nmv (v3 + (1 : Int32)) (fun x1 ex1 => ?_)
  refine J_iinc X (v := x1) (ls' := [some (.ref v0), some (.int v1), none, some (.int x1), some (.long v4), none, none, none]) dX10_cutsUp_118 (by decide) rfl (by rw [ex1]; rfl) rfl ?_
  refine J_goto X (tgt := 85) dX10_cutsUp_121 (by decide) ?_
  exact hq85 v0 kv0 v1 x1 v4 S w
set_option maxRecDepth 20000 in
def b_X10_cutsUp_85 (q7 : Nat → Int32 → St → Option (Unit × St)) : Nat → Nat → Int32 → Int32 → Int64 → St → Option (Unit × St)
  | 0, _, _, _, _, _ => none
  | fu + 1, v0, v1, v3, v4, S => bd (f_X10_byteAt v0 (v1 + v3) S) fun r2 S1 => bd (f_X10_isLetter r2 S1) fun r4 S3 => if r4 = 0 then (if v3 ≤ (8 : Int32) then (b_X10_cutsUp_135 q7 v0 v1 v3 v4 (1 : Int32) S3) else (b_X10_cutsUp_135 q7 v0 v1 v3 v4 (3 : Int32) S3)) else (if (8 : Int32) ≤ v3 then (b_X10_cutsUp_118 q7 (b_X10_cutsUp_85 q7 fu) v0 v1 v3 v4 S3) else (bd (f_X10_byteAt v0 (v1 + v3) S3) fun r6 S5 => bd (f_X10_appends v4 r6 S5) fun r8 S7 => b_X10_cutsUp_118 q7 (b_X10_cutsUp_85 q7 fu) v0 v1 v3 r8 S7))
set_option maxRecDepth 20000 in
theorem t_X10_cutsUp_85 {K : KK} (X : CX K cX10_cutsUp 8 RX10 none) (hR : kR K = rmD 2) {q7 : Nat → Int32 → St → Option (Unit × St)} (hq7 : ∀ (v0 : Nat) (kv0 : KA (kDn K) v0 (0, 10)) (v1 : Int32) (S : St), WT (kDn K) S.2.2 → JX K (Zm K (fun _ : Unit => none)) 7 [some (.ref v0), some (.int v1), none, none, none, none, none, none] [] (rwN (kN K) S) (kn K) 0 0 (q7 v0 v1 S)) : ∀ (fu : Nat) (v0 : Nat) (kv0 : KA (kDn K) v0 (0, 10)) (v1 : Int32) (v3 : Int32) (v4 : Int64) (S : St), WT (kDn K) S.2.2 → JX K (Zm K (fun _ : Unit => none)) 85 [some (.ref v0), some (.int v1), none, some (.int v3), some (.long v4), none, none, none] [] (rwN (kN K) S) (kn K) 0 0 (b_X10_cutsUp_85 q7 fu v0 v1 v3 v4 S) := by
  intro fu
  induction fu with
  | zero => intro v0 kv0 v1 v3 v4 S w; exact J_none
  | succ fu ih =>
    intro v0 kv0 v1 v3 v4 S w
    rw [b_X10_cutsUp_85]
    refine J_aload_n X dX10_cutsUp_85 (i := 0) rfl rfl ?_
    refine J_iload_n X dX10_cutsUp_86 (i := 1) rfl rfl ?_
    refine J_iload_n X dX10_cutsUp_87 (i := 3) rfl rfl ?_
    refine J_iadd X dX10_cutsUp_88 ?_
    refine T_callV (As := [.int (v1 + v3)]) w X (C_X10_byteAt (kG K) v0 kv0 (v1 + v3) S) cb10 kv0 ml_X10_190 in_yX10_byteAt se_yX10_byteAt ii_RX10 co_yX10_byteAt hy_X10_byteAt (hRd hR (by decide) (by decide)) rfl (Nat.le_of_ble_eq_true rfl) dX10_cutsUp_89 (fun r2 S1 _ wS1 => ?_)
    refine T_callS (As := [.int r2]) wS1 X (C_X10_isLetter (kG K) r2 S1) ml_X10_198 st_yX10_isLetter ii_RX10 co_yX10_isLetter hy_X10_isLetter (hRd hR (by decide) (by decide)) rfl (Nat.le_of_ble_eq_true rfl) dX10_cutsUp_92 (fun r4 S3 _ wS3 => ?_)
    refine J_if_eq X (tgt := 124) dX10_cutsUp_95 (by decide) ?_ ?_
    · refine J_iload_n X dX10_cutsUp_124 (i := 3) rfl rfl ?_
      refine J_bipush X (v := (8 : Int32)) dX10_cutsUp_125 (by decide) ?_
      refine J_icmp_le X (tgt := 134) dX10_cutsUp_127 (by decide) ?_ ?_
      · refine J_iconst X (v := (1 : Int32)) dX10_cutsUp_134 (by decide) ?_
        exact t_X10_cutsUp_135 X hR hq7 v0 kv0 v1 v3 v4 (1 : Int32) S3 wS3
      · refine J_iconst X (v := (3 : Int32)) dX10_cutsUp_130 (by decide) ?_
        refine J_goto X (tgt := 135) dX10_cutsUp_131 (by decide) ?_
        exact t_X10_cutsUp_135 X hR hq7 v0 kv0 v1 v3 v4 (3 : Int32) S3 wS3
    · refine J_iload_n X dX10_cutsUp_98 (i := 3) rfl rfl ?_
      refine J_bipush X (v := (8 : Int32)) dX10_cutsUp_99 (by decide) ?_
      refine J_icmp_ge X (tgt := 118) dX10_cutsUp_101 (by decide) ?_ ?_
      · exact t_X10_cutsUp_118 X hR hq7 ih v0 kv0 v1 v3 v4 S3 wS3
      · refine J_lload X dX10_cutsUp_104 rfl ?_
        refine J_aload_n X dX10_cutsUp_106 (i := 0) rfl rfl ?_
        refine J_iload_n X dX10_cutsUp_107 (i := 1) rfl rfl ?_
        refine J_iload_n X dX10_cutsUp_108 (i := 3) rfl rfl ?_
        refine J_iadd X dX10_cutsUp_109 ?_
        refine T_callV (As := [.int (v1 + v3)]) wS3 X (C_X10_byteAt (kG K) v0 kv0 (v1 + v3) S3) cb10 kv0 ml_X10_190 in_yX10_byteAt se_yX10_byteAt ii_RX10 co_yX10_byteAt hy_X10_byteAt (hRd hR (by decide) (by decide)) rfl (Nat.le_of_ble_eq_true rfl) dX10_cutsUp_110 (fun r6 S5 _ wS5 => ?_)
        refine T_callS (As := [.long v4, .int r6]) wS5 X (C_X10_appends (kG K) v4 r6 S5) ml_X10_183 st_yX10_appends ii_RX10 co_yX10_appends hy_X10_appends (hRd hR (by decide) (by decide)) rfl (Nat.le_of_ble_eq_true rfl) dX10_cutsUp_113 (fun r8 S7 _ wS7 => ?_)
        refine J_lstore X (ls' := [some (.ref v0), some (.int v1), none, some (.int v3), some (.long r8), none, none, none]) dX10_cutsUp_116 (by decide) rfl rfl ?_
        exact t_X10_cutsUp_118 X hR hq7 ih v0 kv0 v1 v3 r8 S7 wS7
set_option maxRecDepth 20000 in
def b_X10_cutsUp_7 : Nat → Nat → Int32 → St → Option (Unit × St)
  | 0, _, _, _ => none
  | fu + 1, v0, v1, S => if (400 : Int32) < (S.1 v0 10) then (some ((), S)) else (bd (f_X10_byteAt v0 v1 S) fun r2 S1 => if v1 < (S1.1 v0 4) then (if r2 = (9 : Int32) then (b_X10_cutsUp_67 (b_X10_cutsUp_7 fu) v0 v1 S1) else (if r2 = (10 : Int32) then (b_X10_cutsUp_67 (b_X10_cutsUp_7 fu) v0 v1 S1) else (if r2 = (13 : Int32) then (b_X10_cutsUp_67 (b_X10_cutsUp_7 fu) v0 v1 S1) else (if r2 = (32 : Int32) then (b_X10_cutsUp_67 (b_X10_cutsUp_7 fu) v0 v1 S1) else (bd (f_X10_isLetter r2 S1) fun r4 S3 => if r4 = 0 then (bd (f_X10_isDigit r2 S3) fun r6 S5 => if r6 = 0 then (bd (f_X10_byteAt v0 (v1 + (1 : Int32)) S5) fun r8 S7 => bd (f_X10_sign v0 v1 r2 r8 S7) fun r10 S9 => nm (v1 + r10) fun x11 => b_X10_cutsUp_291 (b_X10_cutsUp_7 fu) v0 x11 S9) else (b_X10_cutsUp_208 (b_X10_cutsUp_7 fu) FU v0 v1 (0 : Int32) (0 : Int32) S5)) else (b_X10_cutsUp_85 (b_X10_cutsUp_7 fu) FU v0 v1 (0 : Int32) (0 : Int64) S3)))))) else (bd (f_X10_token v0 (0 : Int32) (S1.1 v0 4) (0 : Int32) (0 : Int64) S1) fun _ S12 => some ((), S12)))
set_option maxRecDepth 20000 in
theorem t_X10_cutsUp_7 {K : KK} (X : CX K cX10_cutsUp 8 RX10 none) (hR : kR K = rmD 2) : ∀ (fu : Nat) (v0 : Nat) (kv0 : KA (kDn K) v0 (0, 10)) (v1 : Int32) (S : St), WT (kDn K) S.2.2 → JX K (Zm K (fun _ : Unit => none)) 7 [some (.ref v0), some (.int v1), none, none, none, none, none, none] [] (rwN (kN K) S) (kn K) 0 0 (b_X10_cutsUp_7 fu v0 v1 S) := by
  intro fu
  induction fu with
  | zero => intro v0 kv0 v1 S w; exact J_none
  | succ fu ih =>
    intro v0 kv0 v1 S w
    rw [b_X10_cutsUp_7]
    refine J_aload_n X dX10_cutsUp_7 (i := 0) rfl rfl ?_
    refine T_getI X (kf := 10) cb10 kv0 (by decide) fl_X10_187 (fun _ _ _ => rfl) dX10_cutsUp_8 ?_
    refine J_sipush X (v := (400 : Int32)) dX10_cutsUp_11 (by decide) ?_
    refine J_icmp_gt X (tgt := 294) dX10_cutsUp_14 (by decide) ?_ ?_
    · exact T_vret w X dX10_cutsUp_294
    · refine J_aload_n X dX10_cutsUp_17 (i := 0) rfl rfl ?_
      refine J_iload_n X dX10_cutsUp_18 (i := 1) rfl rfl ?_
      refine T_callV (As := [.int v1]) w X (C_X10_byteAt (kG K) v0 kv0 v1 S) cb10 kv0 ml_X10_190 in_yX10_byteAt se_yX10_byteAt ii_RX10 co_yX10_byteAt hy_X10_byteAt (hRd hR (by decide) (by decide)) rfl (Nat.le_of_ble_eq_true rfl) dX10_cutsUp_19 (fun r2 S1 _ wS1 => ?_)
      refine J_istore_n X (i := 2) (ls' := [some (.ref v0), some (.int v1), some (.int r2), none, none, none, none, none]) dX10_cutsUp_22 rfl (by decide) rfl ?_
      refine J_iload_n X dX10_cutsUp_23 (i := 1) rfl rfl ?_
      refine J_aload_n X dX10_cutsUp_24 (i := 0) rfl rfl ?_
      refine T_getI X (kf := 4) cb10 kv0 (by decide) fl_X10_178 (fun _ _ _ => rfl) dX10_cutsUp_25 ?_
      refine J_icmp_lt X (tgt := 43) dX10_cutsUp_28 (by decide) ?_ ?_
      · refine J_iload_n X dX10_cutsUp_43 (i := 2) rfl rfl ?_
        refine J_bipush X (v := (9 : Int32)) dX10_cutsUp_44 (by decide) ?_
        refine J_icmp_eq X (tgt := 67) dX10_cutsUp_46 (by decide) ?_ ?_
        · refine J_mask [true, true, false, false, false, false, false, false] ?_
          exact t_X10_cutsUp_67 X hR ih v0 kv0 v1 S1 wS1
        · refine J_iload_n X dX10_cutsUp_49 (i := 2) rfl rfl ?_
          refine J_bipush X (v := (10 : Int32)) dX10_cutsUp_50 (by decide) ?_
          refine J_icmp_eq X (tgt := 67) dX10_cutsUp_52 (by decide) ?_ ?_
          · refine J_mask [true, true, false, false, false, false, false, false] ?_
            exact t_X10_cutsUp_67 X hR ih v0 kv0 v1 S1 wS1
          · refine J_iload_n X dX10_cutsUp_55 (i := 2) rfl rfl ?_
            refine J_bipush X (v := (13 : Int32)) dX10_cutsUp_56 (by decide) ?_
            refine J_icmp_eq X (tgt := 67) dX10_cutsUp_58 (by decide) ?_ ?_
            · refine J_mask [true, true, false, false, false, false, false, false] ?_
              exact t_X10_cutsUp_67 X hR ih v0 kv0 v1 S1 wS1
            · refine J_iload_n X dX10_cutsUp_61 (i := 2) rfl rfl ?_
              refine J_bipush X (v := (32 : Int32)) dX10_cutsUp_62 (by decide) ?_
              refine J_icmp_ne X (tgt := 73) dX10_cutsUp_64 (by decide) ?_ ?_
              · refine J_mask [true, true, false, false, false, false, false, false] ?_
                exact t_X10_cutsUp_67 X hR ih v0 kv0 v1 S1 wS1
              · refine J_iload_n X dX10_cutsUp_73 (i := 2) rfl rfl ?_
                refine T_callS (As := [.int r2]) wS1 X (C_X10_isLetter (kG K) r2 S1) ml_X10_198 st_yX10_isLetter ii_RX10 co_yX10_isLetter hy_X10_isLetter (hRd hR (by decide) (by decide)) rfl (Nat.le_of_ble_eq_true rfl) dX10_cutsUp_74 (fun r4 S3 _ wS3 => ?_)
                refine J_if_eq X (tgt := 196) dX10_cutsUp_77 (by decide) ?_ ?_
                · refine J_iload_n X dX10_cutsUp_196 (i := 2) rfl rfl ?_
                  refine T_callS (As := [.int r2]) wS3 X (C_X10_isDigit (kG K) r2 S3) ml_X10_202 st_yX10_isDigit ii_RX10 co_yX10_isDigit hy_X10_isDigit (hRd hR (by decide) (by decide)) rfl (Nat.le_of_ble_eq_true rfl) dX10_cutsUp_197 (fun r6 S5 _ wS5 => ?_)
                  refine J_if_eq X (tgt := 275) dX10_cutsUp_200 (by decide) ?_ ?_
                  · refine J_iload_n X dX10_cutsUp_275 (i := 1) rfl rfl ?_
                    refine J_aload_n X dX10_cutsUp_276 (i := 0) rfl rfl ?_
                    refine J_iload_n X dX10_cutsUp_277 (i := 1) rfl rfl ?_
                    refine J_iload_n X dX10_cutsUp_278 (i := 2) rfl rfl ?_
                    refine J_aload_n X dX10_cutsUp_279 (i := 0) rfl rfl ?_
                    refine J_iload_n X dX10_cutsUp_280 (i := 1) rfl rfl ?_
                    refine J_iconst X (v := (1 : Int32)) dX10_cutsUp_281 (by decide) ?_
                    refine J_iadd X dX10_cutsUp_282 ?_
                    refine T_callV (As := [.int (v1 + (1 : Int32))]) wS5 X (C_X10_byteAt (kG K) v0 kv0 (v1 + (1 : Int32)) S5) cb10 kv0 ml_X10_190 in_yX10_byteAt se_yX10_byteAt ii_RX10 co_yX10_byteAt hy_X10_byteAt (hRd hR (by decide) (by decide)) rfl (Nat.le_of_ble_eq_true rfl) dX10_cutsUp_283 (fun r8 S7 _ wS7 => ?_)
                    refine T_callV (As := [.int v1, .int r2, .int r8]) wS7 X (C_X10_sign (kG K) v0 kv0 v1 r2 r8 S7) cb10 kv0 ml_X10_205 in_yX10_sign se_yX10_sign ii_RX10 co_yX10_sign hy_X10_sign (hRd hR (by decide) (by decide)) rfl (Nat.le_of_ble_eq_true rfl) dX10_cutsUp_286 (fun r10 S9 _ wS9 => ?_)
                    refine J_iadd X dX10_cutsUp_289 ?_
                    refine J_nmi (fun x11 => ?_)
                    refine J_istore_n X (i := 1) (ls' := [some (.ref v0), some (.int x11), some (.int r2), none, none, none, none, none]) dX10_cutsUp_290 rfl (by decide) rfl ?_
                    refine J_mask [true, true, false, false, false, false, false, false] ?_
                    exact t_X10_cutsUp_291 X hR ih v0 kv0 x11 S9 wS9
                  · refine J_iconst X (v := (0 : Int32)) dX10_cutsUp_203 (by decide) ?_
                    refine J_istore_n X (i := 3) (ls' := [some (.ref v0), some (.int v1), some (.int r2), some (.int (0 : Int32)), none, none, none, none]) dX10_cutsUp_204 rfl (by decide) rfl ?_
                    refine J_iconst X (v := (0 : Int32)) dX10_cutsUp_205 (by decide) ?_
                    refine J_istore X (ls' := [some (.ref v0), some (.int v1), some (.int r2), some (.int (0 : Int32)), some (.int (0 : Int32)), none, none, none]) dX10_cutsUp_206 (by decide) rfl ?_
                    refine J_mask [true, true, false, true, true, false, false, false] ?_
                    exact t_X10_cutsUp_208 X hR ih FU v0 kv0 v1 (0 : Int32) (0 : Int32) S5 wS5
                · refine J_iconst X (v := (0 : Int32)) dX10_cutsUp_80 (by decide) ?_
                  refine J_istore_n X (i := 3) (ls' := [some (.ref v0), some (.int v1), some (.int r2), some (.int (0 : Int32)), none, none, none, none]) dX10_cutsUp_81 rfl (by decide) rfl ?_
                  refine J_lconst X (v := (0 : Int64)) dX10_cutsUp_82 (by decide) ?_
                  refine J_lstore X (ls' := [some (.ref v0), some (.int v1), some (.int r2), some (.int (0 : Int32)), some (.long (0 : Int64)), none, none, none]) dX10_cutsUp_83 (by decide) rfl rfl ?_
                  refine J_mask [true, true, false, true, true, false, false, false] ?_
                  exact t_X10_cutsUp_85 X hR ih FU v0 kv0 v1 (0 : Int32) (0 : Int64) S3 wS3
      · refine J_aload_n X dX10_cutsUp_31 (i := 0) rfl rfl ?_
        refine J_iconst X (v := (0 : Int32)) dX10_cutsUp_32 (by decide) ?_
        refine J_aload_n X dX10_cutsUp_33 (i := 0) rfl rfl ?_
        refine T_getI X (kf := 4) cb10 kv0 (by decide) fl_X10_178 (fun _ _ _ => rfl) dX10_cutsUp_34 ?_
        refine J_iconst X (v := (0 : Int32)) dX10_cutsUp_37 (by decide) ?_
        refine J_lconst X (v := (0 : Int64)) dX10_cutsUp_38 (by decide) ?_
        refine T_callV (As := [.int (0 : Int32), .int (S1.1 v0 4), .int (0 : Int32), .long (0 : Int64)]) wS1 X (C_X10_token (kG K) v0 kv0 (0 : Int32) (S1.1 v0 4) (0 : Int32) (0 : Int64) S1) cb10 kv0 ml_X10_194 in_yX10_token se_yX10_token ii_RX10 co_yX10_token hy_X10_token (hRd hR (by decide) (by decide)) rfl (Nat.le_of_ble_eq_true rfl) dX10_cutsUp_39 (fun _ S12 _ wS12 => ?_)
        exact T_vret wS12 X dX10_cutsUp_42
set_option maxRecDepth 20000 in
def f_X10_cutsUp (v0 : Nat) (S : St) : Option (Unit × St) := nm (sI S v0 10 (0 : Int32)) fun S1 => b_X10_cutsUp_7 FU v0 (0 : Int32) S1
set_option maxRecDepth 20000 in
theorem t_X10_cutsUp_0 {K : KK} (X : CX K cX10_cutsUp 8 RX10 none) (hR : kR K = rmD 2) (v0 : Nat) (kv0 : KA (kDn K) v0 (0, 10)) (S : St) (w : WT (kDn K) S.2.2) : JX K (Zm K (fun _ : Unit => none)) 0 [some (.ref v0), none, none, none, none, none, none, none] [] (rwN (kN K) S) (kn K) 0 0 (f_X10_cutsUp v0 S) := by
  unfold f_X10_cutsUp
  refine J_aload_n X dX10_cutsUp_0 (i := 0) rfl rfl ?_
  refine J_iconst X (v := (0 : Int32)) dX10_cutsUp_1 (by decide) ?_
  refine T_putI X (kf := 10) cb10 kv0 (by decide) fl_X10_187 (fun _ _ _ => rfl) rfl rfl rfl dX10_cutsUp_2 (fun S1 hS1 => ?_)
  have wS1 : WT (kDn K) S1.2.2 := by rw [hS1]; exact w
  clear hS1
  refine J_iconst X (v := (0 : Int32)) dX10_cutsUp_5 (by decide) ?_
  refine J_istore_n X (i := 1) (ls' := [some (.ref v0), some (.int (0 : Int32)), none, none, none, none, none, none]) dX10_cutsUp_6 rfl (by decide) rfl ?_
  exact t_X10_cutsUp_7 X hR FU v0 kv0 (0 : Int32) S1 wS1
theorem C_X10_cutsUp (G : GG) (v0 : Nat) (kv0 : KA (gD G) v0 (0, 10)) (S : St) : CM G yX10_cutsUp cX10_cutsUp 8 none 2 [.ref v0] S (fun _ : Unit => none) (f_X10_cutsUp v0 S) :=
  CM_of (by decide) (Nat.le_of_ble_eq_true rfl) rfl (fun K hG X hR w => by subst hG; exact t_X10_cutsUp_0 X hR v0 kv0 S w)
-- ==== X10_is
theorem hy_X10_is : yX10_is.cls ≠ "java/lang/invoke/MethodHandle" ∧ yX10_is.cls ≠ "java/lang/invoke/VarHandle" ∧ (parseMethodDescriptor yX10_is.desc).map (fun d => d.parameters.length) = some 1 := by decide +kernel
set_option maxRecDepth 20000 in
def f_X10_is (v0 : Nat) (v1 : Int32) (S : St) : Option (Int32 × St) := if (S.1 v0 13) = 0 then ((ix (S.1 v0 11) 403).bind fun j1 => if (S.1 (S.2.2 v0 5) j1) = v1 then (some ((1 : Int32), S)) else (some ((0 : Int32), S))) else (some ((0 : Int32), S))
set_option maxRecDepth 20000 in
theorem t_X10_is_0 {K : KK} (X : CX K cX10_is 2 RX10 (some .boolean)) (hR : kR K = rmD 0) (v0 : Nat) (kv0 : KA (kDn K) v0 (0, 10)) (v1 : Int32) (S : St) (w : WT (kDn K) S.2.2) : JX K (Zm K (fun v : Int32 => some (.int v))) 0 [some (.ref v0), some (.int v1)] [] (rwN (kN K) S) (kn K) 0 0 (f_X10_is v0 v1 S) := by
  unfold f_X10_is
  refine J_aload_n X dX10_is_0 (i := 0) rfl rfl ?_
  refine T_getI X (kf := 13) cb10 kv0 (by decide) fl_X10_209 (fun _ _ _ => rfl) dX10_is_1 ?_
  refine J_if_ne X (tgt := 24) dX10_is_4 (by decide) ?_ ?_
  · refine J_aload_n X dX10_is_7 (i := 0) rfl rfl ?_
    refine T_getR X (kf := 5) cb10 kv0 (by decide) fl_X10_20 (fun _ _ _ => rfl) dX10_is_8 ?_
    refine J_aload_n X dX10_is_11 (i := 0) rfl rfl ?_
    refine T_getI X (kf := 11) cb10 kv0 (by decide) fl_X10_212 (fun _ _ _ => rfl) dX10_is_12 ?_
    refine T_iald X (w.1 _ _ kv0 5 _ rfl) dX10_is_15 (fun j1 => ?_)
    refine J_iload_n X dX10_is_16 (i := 1) rfl rfl ?_
    refine J_icmp_ne X (tgt := 24) dX10_is_17 (by decide) ?_ ?_
    · refine J_iconst X (v := (1 : Int32)) dX10_is_20 (by decide) ?_
      refine J_goto X (tgt := 25) dX10_is_21 (by decide) ?_
      exact T_zret w X (by decide) dX10_is_25
    · refine J_iconst X (v := (0 : Int32)) dX10_is_24 (by decide) ?_
      exact T_zret w X (by decide) dX10_is_25
  · refine J_iconst X (v := (0 : Int32)) dX10_is_24 (by decide) ?_
    exact T_zret w X (by decide) dX10_is_25
theorem C_X10_is (G : GG) (v0 : Nat) (kv0 : KA (gD G) v0 (0, 10)) (v1 : Int32) (S : St) : CM G yX10_is cX10_is 2 (some .boolean) 0 [.ref v0, .int v1] S (fun v : Int32 => some (.int v)) (f_X10_is v0 v1 S) :=
  CM_of (by decide) (Nat.le_of_ble_eq_true rfl) rfl (fun K hG X hR w => by subst hG; exact t_X10_is_0 X hR v0 kv0 v1 S w)
-- ==== X10_fail
theorem hy_X10_fail : yX10_fail.cls ≠ "java/lang/invoke/MethodHandle" ∧ yX10_fail.cls ≠ "java/lang/invoke/VarHandle" ∧ (parseMethodDescriptor yX10_fail.desc).map (fun d => d.parameters.length) = some 1 := by decide +kernel
set_option maxRecDepth 20000 in
def f_X10_fail (v0 : Nat) (v1 : Int32) (S : St) : Option (Unit × St) := if (S.1 v0 13) ≤ 0 then (nm (sI S v0 13 v1) fun S1 => (ix (S1.1 v0 11) 403).bind fun j2 => nm (sI S1 v0 14 (S1.1 (S1.2.2 v0 6) j2)) fun S3 => some ((), S3)) else (some ((), S))
set_option maxRecDepth 20000 in
theorem t_X10_fail_0 {K : KK} (X : CX K cX10_fail 2 RX10 none) (hR : kR K = rmD 0) (v0 : Nat) (kv0 : KA (kDn K) v0 (0, 10)) (v1 : Int32) (S : St) (w : WT (kDn K) S.2.2) : JX K (Zm K (fun _ : Unit => none)) 0 [some (.ref v0), some (.int v1)] [] (rwN (kN K) S) (kn K) 0 0 (f_X10_fail v0 v1 S) := by
  unfold f_X10_fail
  refine J_aload_n X dX10_fail_0 (i := 0) rfl rfl ?_
  refine T_getI X (kf := 13) cb10 kv0 (by decide) fl_X10_209 (fun _ _ _ => rfl) dX10_fail_1 ?_
  refine J_if_le X (tgt := 8) dX10_fail_4 (by decide) ?_ ?_
  · refine J_aload_n X dX10_fail_8 (i := 0) rfl rfl ?_
    refine J_iload_n X dX10_fail_9 (i := 1) rfl rfl ?_
    refine T_putI X (kf := 13) cb10 kv0 (by decide) fl_X10_209 (fun _ _ _ => rfl) rfl rfl rfl dX10_fail_10 (fun S1 hS1 => ?_)
    have wS1 : WT (kDn K) S1.2.2 := by rw [hS1]; exact w
    clear hS1
    refine J_aload_n X dX10_fail_13 (i := 0) rfl rfl ?_
    refine J_aload_n X dX10_fail_14 (i := 0) rfl rfl ?_
    refine T_getR X (kf := 6) cb10 kv0 (by decide) fl_X10_24 (fun _ _ _ => rfl) dX10_fail_15 ?_
    refine J_aload_n X dX10_fail_18 (i := 0) rfl rfl ?_
    refine T_getI X (kf := 11) cb10 kv0 (by decide) fl_X10_212 (fun _ _ _ => rfl) dX10_fail_19 ?_
    refine T_iald X (wS1.1 _ _ kv0 6 _ rfl) dX10_fail_22 (fun j2 => ?_)
    refine T_putI X (kf := 14) cb10 kv0 (by decide) fl_X10_215 (fun _ _ _ => rfl) rfl rfl rfl dX10_fail_23 (fun S3 hS3 => ?_)
    have wS3 : WT (kDn K) S3.2.2 := by rw [hS3]; exact wS1
    clear hS3
    exact T_vret wS3 X dX10_fail_26
  · exact T_vret w X dX10_fail_7
theorem C_X10_fail (G : GG) (v0 : Nat) (kv0 : KA (gD G) v0 (0, 10)) (v1 : Int32) (S : St) : CM G yX10_fail cX10_fail 2 none 0 [.ref v0, .int v1] S (fun _ : Unit => none) (f_X10_fail v0 v1 S) :=
  CM_of (by decide) (Nat.le_of_ble_eq_true rfl) rfl (fun K hG X hR w => by subst hG; exact t_X10_fail_0 X hR v0 kv0 v1 S w)
-- ==== X10_wrong
theorem hy_X10_wrong : yX10_wrong.cls ≠ "java/lang/invoke/MethodHandle" ∧ yX10_wrong.cls ≠ "java/lang/invoke/VarHandle" ∧ (parseMethodDescriptor yX10_wrong.desc).map (fun d => d.parameters.length) = some 2 := by decide +kernel
set_option maxRecDepth 20000 in
def b_X10_wrong_46 (v0 : Nat) (v1 : Int32) (v3 : Int32) (S : St) : Option (Unit × St) := nm (sI S v0 15 v1) fun S1 => nm (sI S1 v0 16 v3) fun S2 => some ((), S2)
set_option maxRecDepth 20000 in
theorem t_X10_wrong_46 {K : KK} (X : CX K cX10_wrong 4 RX10 none) (hR : kR K = rmD 0) (v0 : Nat) (kv0 : KA (kDn K) v0 (0, 10)) (v1 : Int32) (v3 : Int32) (S : St) (w : WT (kDn K) S.2.2) : JX K (Zm K (fun _ : Unit => none)) 46 [some (.ref v0), some (.int v1), none, some (.int v3)] [] (rwN (kN K) S) (kn K) 0 0 (b_X10_wrong_46 v0 v1 v3 S) := by
  unfold b_X10_wrong_46
  refine J_aload_n X dX10_wrong_46 (i := 0) rfl rfl ?_
  refine J_iload_n X dX10_wrong_47 (i := 1) rfl rfl ?_
  refine T_putI X (kf := 15) cb10 kv0 (by decide) fl_X10_218 (fun _ _ _ => rfl) rfl rfl rfl dX10_wrong_48 (fun S1 hS1 => ?_)
  have wS1 : WT (kDn K) S1.2.2 := by rw [hS1]; exact w
  clear hS1
  refine J_aload_n X dX10_wrong_51 (i := 0) rfl rfl ?_
  refine J_iload_n X dX10_wrong_52 (i := 3) rfl rfl ?_
  refine T_putI X (kf := 16) cb10 kv0 (by decide) fl_X10_221 (fun _ _ _ => rfl) rfl rfl rfl dX10_wrong_53 (fun S2 hS2 => ?_)
  have wS2 : WT (kDn K) S2.2.2 := by rw [hS2]; exact wS1
  clear hS2
  exact T_vret wS2 X dX10_wrong_56
set_option maxRecDepth 20000 in
def f_X10_wrong (v0 : Nat) (v1 : Int32) (v2 : Int32) (S : St) : Option (Unit × St) := (ix v2 403).bind fun j1 => nm (S.1 (S.2.2 v0 6) j1) fun x2 => if 0 < (S.1 v0 13) then (some ((), S)) else (if (S.1 v0 15) = 0 then (b_X10_wrong_46 v0 v1 x2 S) else (if (S.1 v0 16) < x2 then (some ((), S)) else (if x2 = (S.1 v0 16) then (if v1 < (S.1 v0 15) then (b_X10_wrong_46 v0 v1 x2 S) else (some ((), S))) else (b_X10_wrong_46 v0 v1 x2 S))))
set_option maxRecDepth 20000 in
theorem t_X10_wrong_0 {K : KK} (X : CX K cX10_wrong 4 RX10 none) (hR : kR K = rmD 0) (v0 : Nat) (kv0 : KA (kDn K) v0 (0, 10)) (v1 : Int32) (v2 : Int32) (S : St) (w : WT (kDn K) S.2.2) : JX K (Zm K (fun _ : Unit => none)) 0 [some (.ref v0), some (.int v1), some (.int v2), none] [] (rwN (kN K) S) (kn K) 0 0 (f_X10_wrong v0 v1 v2 S) := by
  unfold f_X10_wrong
  refine J_aload_n X dX10_wrong_0 (i := 0) rfl rfl ?_
  refine T_getR X (kf := 6) cb10 kv0 (by decide) fl_X10_24 (fun _ _ _ => rfl) dX10_wrong_1 ?_
  refine J_iload_n X dX10_wrong_4 (i := 2) rfl rfl ?_
  refine T_iald X (w.1 _ _ kv0 6 _ rfl) dX10_wrong_5 (fun j1 => ?_)
  refine J_nmi (fun x2 => ?_)
  refine J_istore_n X (i := 3) (ls' := [some (.ref v0), some (.int v1), some (.int v2), some (.int x2)]) dX10_wrong_6 rfl (by decide) rfl ?_
  refine J_aload_n X dX10_wrong_7 (i := 0) rfl rfl ?_
  refine T_getI X (kf := 13) cb10 kv0 (by decide) fl_X10_209 (fun _ _ _ => rfl) dX10_wrong_8 ?_
  refine J_if_gt X (tgt := 45) dX10_wrong_11 (by decide) ?_ ?_
  · exact T_vret w X dX10_wrong_45
  · refine J_aload_n X dX10_wrong_14 (i := 0) rfl rfl ?_
    refine T_getI X (kf := 15) cb10 kv0 (by decide) fl_X10_218 (fun _ _ _ => rfl) dX10_wrong_15 ?_
    refine J_if_eq X (tgt := 46) dX10_wrong_18 (by decide) ?_ ?_
    · refine J_mask [true, true, false, true] ?_
      exact t_X10_wrong_46 X hR v0 kv0 v1 x2 S w
    · refine J_iload_n X dX10_wrong_21 (i := 3) rfl rfl ?_
      refine J_aload_n X dX10_wrong_22 (i := 0) rfl rfl ?_
      refine T_getI X (kf := 16) cb10 kv0 (by decide) fl_X10_221 (fun _ _ _ => rfl) dX10_wrong_23 ?_
      refine J_icmp_gt X (tgt := 45) dX10_wrong_26 (by decide) ?_ ?_
      · exact T_vret w X dX10_wrong_45
      · refine J_iload_n X dX10_wrong_29 (i := 3) rfl rfl ?_
        refine J_aload_n X dX10_wrong_30 (i := 0) rfl rfl ?_
        refine T_getI X (kf := 16) cb10 kv0 (by decide) fl_X10_221 (fun _ _ _ => rfl) dX10_wrong_31 ?_
        refine J_icmp_ne X (tgt := 46) dX10_wrong_34 (by decide) ?_ ?_
        · refine J_iload_n X dX10_wrong_37 (i := 1) rfl rfl ?_
          refine J_aload_n X dX10_wrong_38 (i := 0) rfl rfl ?_
          refine T_getI X (kf := 15) cb10 kv0 (by decide) fl_X10_218 (fun _ _ _ => rfl) dX10_wrong_39 ?_
          refine J_icmp_lt X (tgt := 46) dX10_wrong_42 (by decide) ?_ ?_
          · refine J_mask [true, true, false, true] ?_
            exact t_X10_wrong_46 X hR v0 kv0 v1 x2 S w
          · exact T_vret w X dX10_wrong_45
        · refine J_mask [true, true, false, true] ?_
          exact t_X10_wrong_46 X hR v0 kv0 v1 x2 S w
theorem C_X10_wrong (G : GG) (v0 : Nat) (kv0 : KA (gD G) v0 (0, 10)) (v1 : Int32) (v2 : Int32) (S : St) : CM G yX10_wrong cX10_wrong 4 none 0 [.ref v0, .int v1, .int v2] S (fun _ : Unit => none) (f_X10_wrong v0 v1 v2 S) :=
  CM_of (by decide) (Nat.le_of_ble_eq_true rfl) rfl (fun K hG X hR w => by subst hG; exact t_X10_wrong_0 X hR v0 kv0 v1 v2 S w)
-- ==== X10_goesOn
theorem hy_X10_goesOn : yX10_goesOn.cls ≠ "java/lang/invoke/MethodHandle" ∧ yX10_goesOn.cls ≠ "java/lang/invoke/VarHandle" ∧ (parseMethodDescriptor yX10_goesOn.desc).map (fun d => d.parameters.length) = some 0 := by decide +kernel
set_option maxRecDepth 20000 in
def f_X10_goesOn (v0 : Nat) (S : St) : Option (Unit × St) := if (S.1 v0 11) = (400 : Int32) then (bd (f_X10_fail v0 (2 : Int32) S) fun _ S1 => some ((), S1)) else (nm (sI S v0 11 ((S.1 v0 11) + (1 : Int32))) fun S3 => some ((), S3))
set_option maxRecDepth 20000 in
theorem t_X10_goesOn_0 {K : KK} (X : CX K cX10_goesOn 1 RX10 none) (hR : kR K = rmD 1) (v0 : Nat) (kv0 : KA (kDn K) v0 (0, 10)) (S : St) (w : WT (kDn K) S.2.2) : JX K (Zm K (fun _ : Unit => none)) 0 [some (.ref v0)] [] (rwN (kN K) S) (kn K) 0 0 (f_X10_goesOn v0 S) := by
  unfold f_X10_goesOn
  refine J_aload_n X dX10_goesOn_0 (i := 0) rfl rfl ?_
  refine T_getI X (kf := 11) cb10 kv0 (by decide) fl_X10_212 (fun _ _ _ => rfl) dX10_goesOn_1 ?_
  refine J_sipush X (v := (400 : Int32)) dX10_goesOn_4 (by decide) ?_
  refine J_icmp_ne X (tgt := 18) dX10_goesOn_7 (by decide) ?_ ?_
  · refine J_aload_n X dX10_goesOn_10 (i := 0) rfl rfl ?_
    refine J_iconst X (v := (2 : Int32)) dX10_goesOn_11 (by decide) ?_
    refine T_callV (As := [.int (2 : Int32)]) w X (C_X10_fail (kG K) v0 kv0 (2 : Int32) S) cb10 kv0 ml_X10_224 in_yX10_fail se_yX10_fail ii_RX10 co_yX10_fail hy_X10_fail (hRd hR (by decide) (by decide)) rfl (Nat.le_of_ble_eq_true rfl) dX10_goesOn_12 (fun _ S1 _ wS1 => ?_)
    refine J_goto X (tgt := 28) dX10_goesOn_15 (by decide) ?_
    exact T_vret wS1 X dX10_goesOn_28
  · refine J_aload_n X dX10_goesOn_18 (i := 0) rfl rfl ?_
    refine J_dup X dX10_goesOn_19 rfl ?_
    refine T_getI X (kf := 11) cb10 kv0 (by decide) fl_X10_212 (fun _ _ _ => rfl) dX10_goesOn_20 ?_
    refine J_iconst X (v := (1 : Int32)) dX10_goesOn_23 (by decide) ?_
    refine J_iadd X dX10_goesOn_24 ?_
    refine T_putI X (kf := 11) cb10 kv0 (by decide) fl_X10_212 (fun _ _ _ => rfl) rfl rfl rfl dX10_goesOn_25 (fun S3 hS3 => ?_)
    have wS3 : WT (kDn K) S3.2.2 := by rw [hS3]; exact w
    clear hS3
    exact T_vret wS3 X dX10_goesOn_28
theorem C_X10_goesOn (G : GG) (v0 : Nat) (kv0 : KA (gD G) v0 (0, 10)) (S : St) : CM G yX10_goesOn cX10_goesOn 1 none 1 [.ref v0] S (fun _ : Unit => none) (f_X10_goesOn v0 S) :=
  CM_of (by decide) (Nat.le_of_ble_eq_true rfl) rfl (fun K hG X hR w => by subst hG; exact t_X10_goesOn_0 X hR v0 kv0 S w)
-- ==== X10_must
theorem hy_X10_must : yX10_must.cls ≠ "java/lang/invoke/MethodHandle" ∧ yX10_must.cls ≠ "java/lang/invoke/VarHandle" ∧ (parseMethodDescriptor yX10_must.desc).map (fun d => d.parameters.length) = some 1 := by decide +kernel
set_option maxRecDepth 20000 in
def f_X10_must (v0 : Nat) (v1 : Int32) (S : St) : Option (Unit × St) := bd (f_X10_is v0 v1 S) fun r2 S1 => if r2 = 0 then (bd (f_X10_fail v0 (1 : Int32) S1) fun _ S3 => some ((), S3)) else (bd (f_X10_goesOn v0 S1) fun _ S5 => some ((), S5))
set_option maxRecDepth 20000 in
theorem t_X10_must_0 {K : KK} (X : CX K cX10_must 2 RX10 none) (hR : kR K = rmD 2) (v0 : Nat) (kv0 : KA (kDn K) v0 (0, 10)) (v1 : Int32) (S : St) (w : WT (kDn K) S.2.2) : JX K (Zm K (fun _ : Unit => none)) 0 [some (.ref v0), some (.int v1)] [] (rwN (kN K) S) (kn K) 0 0 (f_X10_must v0 v1 S) := by
  unfold f_X10_must
  refine J_aload_n X dX10_must_0 (i := 0) rfl rfl ?_
  refine J_iload_n X dX10_must_1 (i := 1) rfl rfl ?_
  refine T_callV (As := [.int v1]) w X (C_X10_is (kG K) v0 kv0 v1 S) cb10 kv0 ml_X10_227 in_yX10_is se_yX10_is ii_RX10 co_yX10_is hy_X10_is (hRd hR (by decide) (by decide)) rfl (Nat.le_of_ble_eq_true rfl) dX10_must_2 (fun r2 S1 _ wS1 => ?_)
  refine J_if_eq X (tgt := 15) dX10_must_5 (by decide) ?_ ?_
  · refine J_aload_n X dX10_must_15 (i := 0) rfl rfl ?_
    refine J_iconst X (v := (1 : Int32)) dX10_must_16 (by decide) ?_
    refine T_callV (As := [.int (1 : Int32)]) wS1 X (C_X10_fail (kG K) v0 kv0 (1 : Int32) S1) cb10 kv0 ml_X10_224 in_yX10_fail se_yX10_fail ii_RX10 co_yX10_fail hy_X10_fail (hRd hR (by decide) (by decide)) rfl (Nat.le_of_ble_eq_true rfl) dX10_must_17 (fun _ S3 _ wS3 => ?_)
    exact T_vret wS3 X dX10_must_20
  · refine J_aload_n X dX10_must_8 (i := 0) rfl rfl ?_
    refine T_callV (As := []) wS1 X (C_X10_goesOn (kG K) v0 kv0 S1) cb10 kv0 ml_X10_230 in_yX10_goesOn se_yX10_goesOn ii_RX10 co_yX10_goesOn hy_X10_goesOn (hRd hR (by decide) (by decide)) rfl (Nat.le_of_ble_eq_true rfl) dX10_must_9 (fun _ S5 _ wS5 => ?_)
    refine J_goto X (tgt := 20) dX10_must_12 (by decide) ?_
    exact T_vret wS5 X dX10_must_20
theorem C_X10_must (G : GG) (v0 : Nat) (kv0 : KA (gD G) v0 (0, 10)) (v1 : Int32) (S : St) : CM G yX10_must cX10_must 2 none 2 [.ref v0, .int v1] S (fun _ : Unit => none) (f_X10_must v0 v1 S) :=
  CM_of (by decide) (Nat.le_of_ble_eq_true rfl) rfl (fun K hG X hR w => by subst hG; exact t_X10_must_0 X hR v0 kv0 v1 S w)
-- ==== X10_plain
theorem hy_X10_plain : yX10_plain.cls ≠ "java/lang/invoke/MethodHandle" ∧ yX10_plain.cls ≠ "java/lang/invoke/VarHandle" ∧ (parseMethodDescriptor yX10_plain.desc).map (fun d => d.parameters.length) = some 1 := by decide +kernel
set_option maxRecDepth 20000 in
def b_X10_plain_37 : Nat → Nat → Int32 → Int32 → St → Option (Unit × St)
  | 0, _, _, _, _ => none
  | fu + 1, v0, v1, v2, S => if (4 : Int32) ≤ v2 then (some ((), S)) else ((ix (((4 : Int32) * v1) + v2) 8).bind fun j1 => nm (sI S (S.2.2 v0 35) j1 (0 : Int32)) fun S2 => (ix (((4 : Int32) * v1) + v2) 8).bind fun j3 => nm (sI S2 (S2.2.2 v0 36) j3 (0 : Int32)) fun S4 => nm (v2 + (1 : Int32)) fun x5 => b_X10_plain_37 fu v0 v1 x5 S4)
set_option maxRecDepth 20000 in
theorem t_X10_plain_37 {K : KK} (X : CX K cX10_plain 3 RX10 none) (hR : kR K = rmD 0) : ∀ (fu : Nat) (v0 : Nat) (kv0 : KA (kDn K) v0 (0, 10)) (v1 : Int32) (v2 : Int32) (S : St), WT (kDn K) S.2.2 → JX K (Zm K (fun _ : Unit => none)) 37 [some (.ref v0), some (.int v1), some (.int v2)] [] (rwN (kN K) S) (kn K) 0 0 (b_X10_plain_37 fu v0 v1 v2 S) := by
  intro fu
  induction fu with
  | zero => intro v0 kv0 v1 v2 S w; exact J_none
  | succ fu ih =>
    intro v0 kv0 v1 v2 S w
    rw [b_X10_plain_37]
    refine J_iload_n X dX10_plain_37 (i := 2) rfl rfl ?_
    refine J_iconst X (v := (4 : Int32)) dX10_plain_38 (by decide) ?_
    refine J_icmp_ge X (tgt := 70) dX10_plain_39 (by decide) ?_ ?_
    · exact T_vret w X dX10_plain_70
    · refine J_aload_n X dX10_plain_42 (i := 0) rfl rfl ?_
      refine T_getR X (kf := 35) cb10 kv0 (by decide) fl_X10_82 (fun _ _ _ => rfl) dX10_plain_43 ?_
      refine J_iconst X (v := (4 : Int32)) dX10_plain_46 (by decide) ?_
      refine J_iload_n X dX10_plain_47 (i := 1) rfl rfl ?_
      refine J_imul X dX10_plain_48 ?_
      refine J_iload_n X dX10_plain_49 (i := 2) rfl rfl ?_
      refine J_iadd X dX10_plain_50 ?_
      refine J_iconst X (v := (0 : Int32)) dX10_plain_51 (by decide) ?_
      refine T_iast X (w.1 _ _ kv0 35 _ rfl) dX10_plain_52 (fun j1 S2 hS2 => ?_)
      have wS2 : WT (kDn K) S2.2.2 := by rw [hS2]; exact w
      clear hS2
      refine J_aload_n X dX10_plain_53 (i := 0) rfl rfl ?_
      refine T_getR X (kf := 36) cb10 kv0 (by decide) fl_X10_85 (fun _ _ _ => rfl) dX10_plain_54 ?_
      refine J_iconst X (v := (4 : Int32)) dX10_plain_57 (by decide) ?_
      refine J_iload_n X dX10_plain_58 (i := 1) rfl rfl ?_
      refine J_imul X dX10_plain_59 ?_
      refine J_iload_n X dX10_plain_60 (i := 2) rfl rfl ?_
      refine J_iadd X dX10_plain_61 ?_
      refine J_iconst X (v := (0 : Int32)) dX10_plain_62 (by decide) ?_
      refine T_iast X (wS2.1 _ _ kv0 36 _ rfl) dX10_plain_63 (fun j3 S4 hS4 => ?_)
      have wS4 : WT (kDn K) S4.2.2 := by rw [hS4]; exact wS2
      clear hS4
      refine J_nmv (v2 + (1 : Int32)) (fun x5 ex5 => ?_)
      refine J_iinc X (v := x5) (ls' := [some (.ref v0), some (.int v1), some (.int x5)]) dX10_plain_64 (by decide) rfl (by rw [ex5]; rfl) rfl ?_
      refine J_goto X (tgt := 37) dX10_plain_67 (by decide) ?_
      exact ih v0 kv0 v1 x5 S4 wS4
set_option maxRecDepth 20000 in
def f_X10_plain (v0 : Nat) (v1 : Int32) (S : St) : Option (Unit × St) := (ix v1 2).bind fun j1 => nm (sI S (S.2.2 v0 23) j1 (0 : Int32)) fun S2 => (ix v1 2).bind fun j3 => nm (sI S2 (S2.2.2 v0 25) j3 (0 : Int32)) fun S4 => (ix v1 2).bind fun j5 => nm (sI S4 (S4.2.2 v0 29) j5 (0 : Int32)) fun S6 => (ix v1 2).bind fun j7 => nm (sI S6 (S6.2.2 v0 33) j7 (4 : Int32)) fun S8 => (ix v1 2).bind fun j9 => nm (sI S8 (S8.2.2 v0 34) j9 (0 : Int32)) fun S10 => b_X10_plain_37 FU v0 v1 (0 : Int32) S10
set_option maxRecDepth 20000 in
theorem t_X10_plain_0 {K : KK} (X : CX K cX10_plain 3 RX10 none) (hR : kR K = rmD 0) (v0 : Nat) (kv0 : KA (kDn K) v0 (0, 10)) (v1 : Int32) (S : St) (w : WT (kDn K) S.2.2) : JX K (Zm K (fun _ : Unit => none)) 0 [some (.ref v0), some (.int v1), none] [] (rwN (kN K) S) (kn K) 0 0 (f_X10_plain v0 v1 S) := by
  unfold f_X10_plain
  refine J_aload_n X dX10_plain_0 (i := 0) rfl rfl ?_
  refine T_getR X (kf := 23) cb10 kv0 (by decide) fl_X10_46 (fun _ _ _ => rfl) dX10_plain_1 ?_
  refine J_iload_n X dX10_plain_4 (i := 1) rfl rfl ?_
  refine J_iconst X (v := (0 : Int32)) dX10_plain_5 (by decide) ?_
  refine T_iast X (w.1 _ _ kv0 23 _ rfl) dX10_plain_6 (fun j1 S2 hS2 => ?_)
  have wS2 : WT (kDn K) S2.2.2 := by rw [hS2]; exact w
  clear hS2
  refine J_aload_n X dX10_plain_7 (i := 0) rfl rfl ?_
  refine T_getR X (kf := 25) cb10 kv0 (by decide) fl_X10_52 (fun _ _ _ => rfl) dX10_plain_8 ?_
  refine J_iload_n X dX10_plain_11 (i := 1) rfl rfl ?_
  refine J_iconst X (v := (0 : Int32)) dX10_plain_12 (by decide) ?_
  refine T_iast X (wS2.1 _ _ kv0 25 _ rfl) dX10_plain_13 (fun j3 S4 hS4 => ?_)
  have wS4 : WT (kDn K) S4.2.2 := by rw [hS4]; exact wS2
  clear hS4
  refine J_aload_n X dX10_plain_14 (i := 0) rfl rfl ?_
  refine T_getR X (kf := 29) cb10 kv0 (by decide) fl_X10_64 (fun _ _ _ => rfl) dX10_plain_15 ?_
  refine J_iload_n X dX10_plain_18 (i := 1) rfl rfl ?_
  refine J_iconst X (v := (0 : Int32)) dX10_plain_19 (by decide) ?_
  refine T_iast X (wS4.1 _ _ kv0 29 _ rfl) dX10_plain_20 (fun j5 S6 hS6 => ?_)
  have wS6 : WT (kDn K) S6.2.2 := by rw [hS6]; exact wS4
  clear hS6
  refine J_aload_n X dX10_plain_21 (i := 0) rfl rfl ?_
  refine T_getR X (kf := 33) cb10 kv0 (by decide) fl_X10_76 (fun _ _ _ => rfl) dX10_plain_22 ?_
  refine J_iload_n X dX10_plain_25 (i := 1) rfl rfl ?_
  refine J_iconst X (v := (4 : Int32)) dX10_plain_26 (by decide) ?_
  refine T_iast X (wS6.1 _ _ kv0 33 _ rfl) dX10_plain_27 (fun j7 S8 hS8 => ?_)
  have wS8 : WT (kDn K) S8.2.2 := by rw [hS8]; exact wS6
  clear hS8
  refine J_aload_n X dX10_plain_28 (i := 0) rfl rfl ?_
  refine T_getR X (kf := 34) cb10 kv0 (by decide) fl_X10_79 (fun _ _ _ => rfl) dX10_plain_29 ?_
  refine J_iload_n X dX10_plain_32 (i := 1) rfl rfl ?_
  refine J_iconst X (v := (0 : Int32)) dX10_plain_33 (by decide) ?_
  refine T_iast X (wS8.1 _ _ kv0 34 _ rfl) dX10_plain_34 (fun j9 S10 hS10 => ?_)
  have wS10 : WT (kDn K) S10.2.2 := by rw [hS10]; exact wS8
  clear hS10
  refine J_iconst X (v := (0 : Int32)) dX10_plain_35 (by decide) ?_
  refine J_istore_n X (i := 2) (ls' := [some (.ref v0), some (.int v1), some (.int (0 : Int32))]) dX10_plain_36 rfl (by decide) rfl ?_
  exact t_X10_plain_37 X hR FU v0 kv0 v1 (0 : Int32) S10 wS10
theorem C_X10_plain (G : GG) (v0 : Nat) (kv0 : KA (gD G) v0 (0, 10)) (v1 : Int32) (S : St) : CM G yX10_plain cX10_plain 3 none 0 [.ref v0, .int v1] S (fun _ : Unit => none) (f_X10_plain v0 v1 S) :=
  CM_of (by decide) (Nat.le_of_ble_eq_true rfl) rfl (fun K hG X hR w => by subst hG; exact t_X10_plain_0 X hR v0 kv0 v1 S w)
-- ==== X10_roomFor
theorem hy_X10_roomFor : yX10_roomFor.cls ≠ "java/lang/invoke/MethodHandle" ∧ yX10_roomFor.cls ≠ "java/lang/invoke/VarHandle" ∧ (parseMethodDescriptor yX10_roomFor.desc).map (fun d => d.parameters.length) = some 2 := by decide +kernel
set_option maxRecDepth 20000 in
def b_X10_roomFor_10 (v0 : Nat) (S : St) : Option (Unit × St) := if (S.1 v0 13) = 0 then (bd (f_X10_goesOn v0 S) fun _ S1 => some ((), S1)) else (some ((), S))
set_option maxRecDepth 20000 in
theorem t_X10_roomFor_10 {K : KK} (X : CX K cX10_roomFor 3 RX10 none) (hR : kR K = rmD 2) (v0 : Nat) (kv0 : KA (kDn K) v0 (0, 10)) (S : St) (w : WT (kDn K) S.2.2) : JX K (Zm K (fun _ : Unit => none)) 10 [some (.ref v0), none, none] [] (rwN (kN K) S) (kn K) 0 0 (b_X10_roomFor_10 v0 S) := by
  unfold b_X10_roomFor_10
  refine J_aload_n X dX10_roomFor_10 (i := 0) rfl rfl ?_
  refine T_getI X (kf := 13) cb10 kv0 (by decide) fl_X10_209 (fun _ _ _ => rfl) dX10_roomFor_11 ?_
  refine J_if_ne X (tgt := 21) dX10_roomFor_14 (by decide) ?_ ?_
  · refine J_aload_n X dX10_roomFor_17 (i := 0) rfl rfl ?_
    refine T_callV (As := []) w X (C_X10_goesOn (kG K) v0 kv0 S) cb10 kv0 ml_X10_230 in_yX10_goesOn se_yX10_goesOn ii_RX10 co_yX10_goesOn hy_X10_goesOn (hRd hR (by decide) (by decide)) rfl (Nat.le_of_ble_eq_true rfl) dX10_roomFor_18 (fun _ S1 _ wS1 => ?_)
    exact T_vret wS1 X dX10_roomFor_21
  · exact T_vret w X dX10_roomFor_21
set_option maxRecDepth 20000 in
def f_X10_roomFor (v0 : Nat) (v1 : Int32) (v2 : Int32) (S : St) : Option (Unit × St) := if v1 = v2 then (bd (f_X10_fail v0 (2 : Int32) S) fun _ S1 => b_X10_roomFor_10 v0 S1) else (b_X10_roomFor_10 v0 S)
set_option maxRecDepth 20000 in
theorem t_X10_roomFor_0 {K : KK} (X : CX K cX10_roomFor 3 RX10 none) (hR : kR K = rmD 2) (v0 : Nat) (kv0 : KA (kDn K) v0 (0, 10)) (v1 : Int32) (v2 : Int32) (S : St) (w : WT (kDn K) S.2.2) : JX K (Zm K (fun _ : Unit => none)) 0 [some (.ref v0), some (.int v1), some (.int v2)] [] (rwN (kN K) S) (kn K) 0 0 (f_X10_roomFor v0 v1 v2 S) := by
  unfold f_X10_roomFor
  refine J_iload_n X dX10_roomFor_0 (i := 1) rfl rfl ?_
  refine J_iload_n X dX10_roomFor_1 (i := 2) rfl rfl ?_
  refine J_icmp_ne X (tgt := 10) dX10_roomFor_2 (by decide) ?_ ?_
  · refine J_aload_n X dX10_roomFor_5 (i := 0) rfl rfl ?_
    refine J_iconst X (v := (2 : Int32)) dX10_roomFor_6 (by decide) ?_
    refine T_callV (As := [.int (2 : Int32)]) w X (C_X10_fail (kG K) v0 kv0 (2 : Int32) S) cb10 kv0 ml_X10_224 in_yX10_fail se_yX10_fail ii_RX10 co_yX10_fail hy_X10_fail (hRd hR (by decide) (by decide)) rfl (Nat.le_of_ble_eq_true rfl) dX10_roomFor_7 (fun _ S1 _ wS1 => ?_)
    refine J_mask [true, false, false] ?_
    exact t_X10_roomFor_10 X hR v0 kv0 S1 wS1
  · refine J_mask [true, false, false] ?_
    exact t_X10_roomFor_10 X hR v0 kv0 S w
theorem C_X10_roomFor (G : GG) (v0 : Nat) (kv0 : KA (gD G) v0 (0, 10)) (v1 : Int32) (v2 : Int32) (S : St) : CM G yX10_roomFor cX10_roomFor 3 none 2 [.ref v0, .int v1, .int v2] S (fun _ : Unit => none) (f_X10_roomFor v0 v1 v2 S) :=
  CM_of (by decide) (Nat.le_of_ble_eq_true rfl) rfl (fun K hG X hR w => by subst hG; exact t_X10_roomFor_0 X hR v0 kv0 v1 v2 S w)
-- ==== X10_named
theorem hy_X10_named : yX10_named.cls ≠ "java/lang/invoke/MethodHandle" ∧ yX10_named.cls ≠ "java/lang/invoke/VarHandle" ∧ (parseMethodDescriptor yX10_named.desc).map (fun d => d.parameters.length) = some 0 := by decide +kernel
set_option maxRecDepth 20000 in
def b_X10_named_49 (q12 : Nat → Int32 → Int32 → St → Option (Int32 × St)) (v0 : Nat) (v1 : Int32) (v2 : Int32) (S : St) : Option (Int32 × St) := nm (v2 + (1 : Int32)) fun x1 => q12 v0 v1 x1 S
set_option maxRecDepth 20000 in
theorem t_X10_named_49 {K : KK} (X : CX K cX10_named 3 RX10 (some .int)) (hR : kR K = rmD 3) {q12 : Nat → Int32 → Int32 → St → Option (Int32 × St)} (hq12 : ∀ (v0 : Nat) (kv0 : KA (kDn K) v0 (0, 10)) (v1 : Int32) (v2 : Int32) (S : St), WT (kDn K) S.2.2 → JX K (Zm K (fun v : Int32 => some (.int v))) 12 [some (.ref v0), some (.int v1), some (.int v2)] [] (rwN (kN K) S) (kn K) 0 0 (q12 v0 v1 v2 S)) (v0 : Nat) (kv0 : KA (kDn K) v0 (0, 10)) (v1 : Int32) (v2 : Int32) (S : St) (w : WT (kDn K) S.2.2) : JX K (Zm K (fun v : Int32 => some (.int v))) 49 [some (.ref v0), some (.int v1), some (.int v2)] [] (rwN (kN K) S) (kn K) 0 0 (b_X10_named_49 q12 v0 v1 v2 S) := by
  unfold b_X10_named_49
  refine J_nmv (v2 + (1 : Int32)) (fun x1 ex1 => ?_)
  refine J_iinc X (v := x1) (ls' := [some (.ref v0), some (.int v1), some (.int x1)]) dX10_named_49 (by decide) rfl (by rw [ex1]; rfl) rfl ?_
  refine J_goto X (tgt := 12) dX10_named_52 (by decide) ?_
  exact hq12 v0 kv0 v1 x1 S w
set_option maxRecDepth 20000 in
def b_X10_named_12 : Nat → Nat → Int32 → Int32 → St → Option (Int32 × St)
  | 0, _, _, _, _ => none
  | fu + 1, v0, v1, v2, S => if (S.1 v0 20) ≤ v2 then (some (v1, S)) else (if (S.1 v0 13) = 0 then ((ix v2 10).bind fun j1 => (ix v1 403).bind fun j2 => if (lg_cmp (S.2.1 (S.2.2 v0 21) j1) (S.2.1 (S.2.2 v0 8) j2)) = 0 then (bd (f_X10_wrong v0 (3 : Int32) v1 S) fun _ S3 => b_X10_named_49 (b_X10_named_12 fu) v0 v1 v2 S3) else (b_X10_named_49 (b_X10_named_12 fu) v0 v1 v2 S)) else (some (v1, S)))
set_option maxRecDepth 20000 in
theorem t_X10_named_12 {K : KK} (X : CX K cX10_named 3 RX10 (some .int)) (hR : kR K = rmD 3) : ∀ (fu : Nat) (v0 : Nat) (kv0 : KA (kDn K) v0 (0, 10)) (v1 : Int32) (v2 : Int32) (S : St), WT (kDn K) S.2.2 → JX K (Zm K (fun v : Int32 => some (.int v))) 12 [some (.ref v0), some (.int v1), some (.int v2)] [] (rwN (kN K) S) (kn K) 0 0 (b_X10_named_12 fu v0 v1 v2 S) := by
  intro fu
  induction fu with
  | zero => intro v0 kv0 v1 v2 S w; exact J_none
  | succ fu ih =>
    intro v0 kv0 v1 v2 S w
    rw [b_X10_named_12]
    refine J_iload_n X dX10_named_12 (i := 2) rfl rfl ?_
    refine J_aload_n X dX10_named_13 (i := 0) rfl rfl ?_
    refine T_getI X (kf := 20) cb10 kv0 (by decide) fl_X10_245 (fun _ _ _ => rfl) dX10_named_14 ?_
    refine J_icmp_ge X (tgt := 55) dX10_named_17 (by decide) ?_ ?_
    · refine J_iload_n X dX10_named_55 (i := 1) rfl rfl ?_
      exact T_iret w X dX10_named_56
    · refine J_aload_n X dX10_named_20 (i := 0) rfl rfl ?_
      refine T_getI X (kf := 13) cb10 kv0 (by decide) fl_X10_209 (fun _ _ _ => rfl) dX10_named_21 ?_
      refine J_if_ne X (tgt := 55) dX10_named_24 (by decide) ?_ ?_
      · refine J_aload_n X dX10_named_27 (i := 0) rfl rfl ?_
        refine T_getR X (kf := 21) cb10 kv0 (by decide) fl_X10_40 (fun _ _ _ => rfl) dX10_named_28 ?_
        refine J_iload_n X dX10_named_31 (i := 2) rfl rfl ?_
        refine T_lald X (w.1 _ _ kv0 21 _ rfl) dX10_named_32 (fun j1 => ?_)
        refine J_aload_n X dX10_named_33 (i := 0) rfl rfl ?_
        refine T_getR X (kf := 8) cb10 kv0 (by decide) fl_X10_30 (fun _ _ _ => rfl) dX10_named_34 ?_
        refine J_iload_n X dX10_named_37 (i := 1) rfl rfl ?_
        refine T_lald X (w.1 _ _ kv0 8 _ rfl) dX10_named_38 (fun j2 => ?_)
        refine J_lcmp X dX10_named_39 ?_
        refine J_if_ne X (tgt := 49) dX10_named_40 (by decide) ?_ ?_
        · refine J_aload_n X dX10_named_43 (i := 0) rfl rfl ?_
          refine J_iconst X (v := (3 : Int32)) dX10_named_44 (by decide) ?_
          refine J_iload_n X dX10_named_45 (i := 1) rfl rfl ?_
          refine T_callV (As := [.int (3 : Int32), .int v1]) w X (C_X10_wrong (kG K) v0 kv0 (3 : Int32) v1 S) cb10 kv0 ml_X10_286 in_yX10_wrong se_yX10_wrong ii_RX10 co_yX10_wrong hy_X10_wrong (hRd hR (by decide) (by decide)) rfl (Nat.le_of_ble_eq_true rfl) dX10_named_46 (fun _ S3 _ wS3 => ?_)
          exact t_X10_named_49 X hR ih v0 kv0 v1 v2 S3 wS3
        · exact t_X10_named_49 X hR ih v0 kv0 v1 v2 S w
      · refine J_iload_n X dX10_named_55 (i := 1) rfl rfl ?_
        exact T_iret w X dX10_named_56
set_option maxRecDepth 20000 in
def f_X10_named (v0 : Nat) (S : St) : Option (Int32 × St) := nm (S.1 v0 11) fun x1 => bd (f_X10_must v0 (1 : Int32) S) fun _ S2 => b_X10_named_12 FU v0 x1 (0 : Int32) S2
set_option maxRecDepth 20000 in
theorem t_X10_named_0 {K : KK} (X : CX K cX10_named 3 RX10 (some .int)) (hR : kR K = rmD 3) (v0 : Nat) (kv0 : KA (kDn K) v0 (0, 10)) (S : St) (w : WT (kDn K) S.2.2) : JX K (Zm K (fun v : Int32 => some (.int v))) 0 [some (.ref v0), none, none] [] (rwN (kN K) S) (kn K) 0 0 (f_X10_named v0 S) := by
  unfold f_X10_named
  refine J_aload_n X dX10_named_0 (i := 0) rfl rfl ?_
  refine T_getI X (kf := 11) cb10 kv0 (by decide) fl_X10_212 (fun _ _ _ => rfl) dX10_named_1 ?_
  refine J_nmi (fun x1 => ?_)
  refine J_istore_n X (i := 1) (ls' := [some (.ref v0), some (.int x1), none]) dX10_named_4 rfl (by decide) rfl ?_
  refine J_aload_n X dX10_named_5 (i := 0) rfl rfl ?_
  refine J_iconst X (v := (1 : Int32)) dX10_named_6 (by decide) ?_
  refine T_callV (As := [.int (1 : Int32)]) w X (C_X10_must (kG K) v0 kv0 (1 : Int32) S) cb10 kv0 ml_X10_280 in_yX10_must se_yX10_must ii_RX10 co_yX10_must hy_X10_must (hRd hR (by decide) (by decide)) rfl (Nat.le_of_ble_eq_true rfl) dX10_named_7 (fun _ S2 _ wS2 => ?_)
  refine J_iconst X (v := (0 : Int32)) dX10_named_10 (by decide) ?_
  refine J_istore_n X (i := 2) (ls' := [some (.ref v0), some (.int x1), some (.int (0 : Int32))]) dX10_named_11 rfl (by decide) rfl ?_
  exact t_X10_named_12 X hR FU v0 kv0 x1 (0 : Int32) S2 wS2
theorem C_X10_named (G : GG) (v0 : Nat) (kv0 : KA (gD G) v0 (0, 10)) (S : St) : CM G yX10_named cX10_named 3 (some .int) 3 [.ref v0] S (fun v : Int32 => some (.int v)) (f_X10_named v0 S) :=
  CM_of (by decide) (Nat.le_of_ble_eq_true rfl) rfl (fun K hG X hR w => by subst hG; exact t_X10_named_0 X hR v0 kv0 S w)

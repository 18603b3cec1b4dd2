-- ==== J6_bitCount_0f7a4
theorem hy_J6_bitCount_0f7a4 : yJ6_bitCount_0f7a4.cls ≠ "java/lang/invoke/MethodHandle" ∧ yJ6_bitCount_0f7a4.cls ≠ "java/lang/invoke/VarHandle" ∧ (parseMethodDescriptor yJ6_bitCount_0f7a4.desc).map (fun d => d.parameters.length) = some 1 := by decide +kernel
set_option maxRecDepth 20000 in
def f_J6_bitCount_0f7a4 (v0 : Int32) (S : St) : Option (Int32 × St) := nm (v0 - (((v0.toUInt32 >>> ((1 : Int32).toUInt32 &&& Int32.toUInt32 31)).toInt32) &&& (1431655765 : Int32))) fun x1 => nm ((x1 &&& (858993459 : Int32)) + (((x1.toUInt32 >>> ((2 : Int32).toUInt32 &&& Int32.toUInt32 31)).toInt32) &&& (858993459 : Int32))) fun x2 => nm ((x2 + ((x2.toUInt32 >>> ((4 : Int32).toUInt32 &&& Int32.toUInt32 31)).toInt32)) &&& (252645135 : Int32)) fun x3 => nm (x3 + ((x3.toUInt32 >>> ((8 : Int32).toUInt32 &&& Int32.toUInt32 31)).toInt32)) fun x4 => nm (x4 + ((x4.toUInt32 >>> ((16 : Int32).toUInt32 &&& Int32.toUInt32 31)).toInt32)) fun x5 => some (x5 &&& (63 : Int32), S)
set_option maxRecDepth 20000 in
theorem t_J6_bitCount_0f7a4_0 {K : KK} (X : CX K cJ6_bitCount_0f7a4 1 RJ6 (some .int)) (hR : kR K = rmD 0) (v0 : Int32) (S : St) (w : WT (kDn K) S.2.2) : JX K (Zm K (fun v : Int32 => some (.int v))) 0 [some (.int v0)] [] (rwN (kN K) S) (kn K) 0 0 (f_J6_bitCount_0f7a4 v0 S) := by
  unfold f_J6_bitCount_0f7a4
  refine J_iload_n X dJ6_bitCount_0f7a4_0 (i := 0) rfl rfl ?_
  refine J_iload_n X dJ6_bitCount_0f7a4_1 (i := 0) rfl rfl ?_
  refine J_iconst X (v := (1 : Int32)) dJ6_bitCount_0f7a4_2 (by decide) ?_
  refine J_iushr X dJ6_bitCount_0f7a4_3 ?_
  refine J_ldcw X kc_J6_265 dJ6_bitCount_0f7a4_4 ?_
  refine J_iand X dJ6_bitCount_0f7a4_7 ?_
  refine J_isub X dJ6_bitCount_0f7a4_8 ?_
  refine J_nmi (fun x1 => ?_)
  refine J_istore_n X (i := 0) (ls' := [some (.int x1)]) dJ6_bitCount_0f7a4_9 rfl (by decide) rfl ?_
  refine J_iload_n X dJ6_bitCount_0f7a4_10 (i := 0) rfl rfl ?_
  refine J_ldcw X kc_J6_266 dJ6_bitCount_0f7a4_11 ?_
  refine J_iand X dJ6_bitCount_0f7a4_14 ?_
  refine J_iload_n X dJ6_bitCount_0f7a4_15 (i := 0) rfl rfl ?_
  refine J_iconst X (v := (2 : Int32)) dJ6_bitCount_0f7a4_16 (by decide) ?_
  refine J_iushr X dJ6_bitCount_0f7a4_17 ?_
  refine J_ldcw X kc_J6_266 dJ6_bitCount_0f7a4_18 ?_
  refine J_iand X dJ6_bitCount_0f7a4_21 ?_
  refine J_iadd X dJ6_bitCount_0f7a4_22 ?_
  refine J_nmi (fun x2 => ?_)
  refine J_istore_n X (i := 0) (ls' := [some (.int x2)]) dJ6_bitCount_0f7a4_23 rfl (by decide) rfl ?_
  refine J_iload_n X dJ6_bitCount_0f7a4_24 (i := 0) rfl rfl ?_
  refine J_iload_n X dJ6_bitCount_0f7a4_25 (i := 0) rfl rfl ?_
  refine J_iconst X (v := (4 : Int32)) dJ6_bitCount_0f7a4_26 (by decide) ?_
  refine J_iushr X dJ6_bitCount_0f7a4_27 ?_
  refine J_iadd X dJ6_bitCount_0f7a4_28 ?_
  refine J_ldcw X kc_J6_267 dJ6_bitCount_0f7a4_29 ?_
  refine J_iand X dJ6_bitCount_0f7a4_32 ?_
  refine J_nmi (fun x3 => ?_)
  refine J_istore_n X (i := 0) (ls' := [some (.int x3)]) dJ6_bitCount_0f7a4_33 rfl (by decide) rfl ?_
  refine J_iload_n X dJ6_bitCount_0f7a4_34 (i := 0) rfl rfl ?_
  refine J_iload_n X dJ6_bitCount_0f7a4_35 (i := 0) rfl rfl ?_
  refine J_bipush X (v := (8 : Int32)) dJ6_bitCount_0f7a4_36 (by decide) ?_
  refine J_iushr X dJ6_bitCount_0f7a4_38 ?_
  refine J_iadd X dJ6_bitCount_0f7a4_39 ?_
  refine J_nmi (fun x4 => ?_)
  refine J_istore_n X (i := 0) (ls' := [some (.int x4)]) dJ6_bitCount_0f7a4_40 rfl (by decide) rfl ?_
  refine J_iload_n X dJ6_bitCount_0f7a4_41 (i := 0) rfl rfl ?_
  refine J_iload_n X dJ6_bitCount_0f7a4_42 (i := 0) rfl rfl ?_
  refine J_bipush X (v := (16 : Int32)) dJ6_bitCount_0f7a4_43 (by decide) ?_
  refine J_iushr X dJ6_bitCount_0f7a4_45 ?_
  refine J_iadd X dJ6_bitCount_0f7a4_46 ?_
  refine J_nmi (fun x5 => ?_)
  refine J_istore_n X (i := 0) (ls' := [some (.int x5)]) dJ6_bitCount_0f7a4_47 rfl (by decide) rfl ?_
  refine J_iload_n X dJ6_bitCount_0f7a4_48 (i := 0) rfl rfl ?_
  refine J_bipush X (v := (63 : Int32)) dJ6_bitCount_0f7a4_49 (by decide) ?_
  refine J_iand X dJ6_bitCount_0f7a4_51 ?_
  exact T_iret w X dJ6_bitCount_0f7a4_52
theorem C_J6_bitCount_0f7a4 (G : GG) (v0 : Int32) (S : St) : CM G yJ6_bitCount_0f7a4 cJ6_bitCount_0f7a4 1 (some .int) 0 [.int v0] S (fun v : Int32 => some (.int v)) (f_J6_bitCount_0f7a4 v0 S) :=
  CM_of (by decide) (Nat.le_of_ble_eq_true rfl) rfl (fun K hG X hR w => by subst hG; exact t_J6_bitCount_0f7a4_0 X hR v0 S w)
-- ==== J7_fill_53178
theorem hy_J7_fill_53178 : yJ7_fill_53178.cls ≠ "java/lang/invoke/MethodHandle" ∧ yJ7_fill_53178.cls ≠ "java/lang/invoke/VarHandle" ∧ (parseMethodDescriptor yJ7_fill_53178.desc).map (fun d => d.parameters.length) = some 2 := by decide +kernel
set_option maxRecDepth 20000 in
def b_J7_fill_53178_5 (l0 : Nat) : Nat → Nat → Int32 → Int32 → Int32 → St → Option (Unit × St)
  | 0, _, _, _, _, _ => none
  | fu + 1, v0, v1, v2, v3, S => if v3 ≤ v2 then (some ((), S)) else ((ix v2 l0).bind fun j1 => nm (sI S v0 j1 v1) fun S2 => nm (v2 + (1 : Int32)) fun x3 => b_J7_fill_53178_5 l0 fu v0 v1 x3 v3 S2)
set_option maxRecDepth 20000 in
theorem t_J7_fill_53178_5 {K : KK} (X : CX K cJ7_fill_53178 4 RJ7 none) (hR : kR K = rmD 0) (l0 : Nat) : ∀ (fu : Nat) (v0 : Nat) (kv0 : KA (kDn K) v0 (1, l0)) (v1 : Int32) (v2 : Int32) (v3 : Int32) (S : St), WT (kDn K) S.2.2 → JX K (Zm K (fun _ : Unit => none)) 5 [some (.ref v0), some (.int v1), some (.int v2), some (.int v3)] [] (rwN (kN K) S) (kn K) 0 0 (b_J7_fill_53178_5 l0 fu v0 v1 v2 v3 S) := by
  intro fu
  induction fu with
  | zero => intro v0 kv0 v1 v2 v3 S w; exact J_none
  | succ fu ih =>
    intro v0 kv0 v1 v2 v3 S w
    rw [b_J7_fill_53178_5]
    refine J_iload_n X dJ7_fill_53178_5 (i := 2) rfl rfl ?_
    refine J_iload_n X dJ7_fill_53178_6 (i := 3) rfl rfl ?_
    refine J_icmp_ge X (tgt := 20) dJ7_fill_53178_7 (by decide) ?_ ?_
    · exact T_vret w X dJ7_fill_53178_20
    · refine J_aload_n X dJ7_fill_53178_10 (i := 0) rfl rfl ?_
      refine J_iload_n X dJ7_fill_53178_11 (i := 2) rfl rfl ?_
      refine J_iload_n X dJ7_fill_53178_12 (i := 1) rfl rfl ?_
      refine T_iast X kv0 dJ7_fill_53178_13 (fun j1 S2 hS2 => ?_)
      have wS2 : WT (kDn K) S2.2.2 := by rw [hS2]; exact w
      clear hS2
      refine J_nmv (v2 + (1 : Int32)) (fun x3 ex3 => ?_)
      refine J_iinc X (v := x3) (ls' := [some (.ref v0), some (.int v1), some (.int x3), some (.int v3)]) dJ7_fill_53178_14 (by decide) rfl (by rw [ex3]; rfl) rfl ?_
      refine J_goto X (tgt := 5) dJ7_fill_53178_17 (by decide) ?_
      exact ih v0 kv0 v1 x3 v3 S2 wS2
set_option maxRecDepth 20000 in
def f_J7_fill_53178 (l0 : Nat) (v0 : Nat) (v1 : Int32) (S : St) : Option (Unit × St) := nm (Int32.ofNat l0) fun x1 => b_J7_fill_53178_5 l0 FU v0 v1 (0 : Int32) x1 S
set_option maxRecDepth 20000 in
theorem t_J7_fill_53178_0 {K : KK} (X : CX K cJ7_fill_53178 4 RJ7 none) (hR : kR K = rmD 0) (l0 : Nat) (v0 : Nat) (kv0 : KA (kDn K) v0 (1, l0)) (v1 : Int32) (S : St) (w : WT (kDn K) S.2.2) : JX K (Zm K (fun _ : Unit => none)) 0 [some (.ref v0), some (.int v1), none, none] [] (rwN (kN K) S) (kn K) 0 0 (f_J7_fill_53178 l0 v0 v1 S) := by
  unfold f_J7_fill_53178
  refine J_iconst X (v := (0 : Int32)) dJ7_fill_53178_0 (by decide) ?_
  refine J_istore_n X (i := 2) (ls' := [some (.ref v0), some (.int v1), some (.int (0 : Int32)), none]) dJ7_fill_53178_1 rfl (by decide) rfl ?_
  refine J_aload_n X dJ7_fill_53178_2 (i := 0) rfl rfl ?_
  refine T_alen1 X kv0 dJ7_fill_53178_3 ?_
  refine J_nmi (fun x1 => ?_)
  refine J_istore_n X (i := 3) (ls' := [some (.ref v0), some (.int v1), some (.int (0 : Int32)), some (.int x1)]) dJ7_fill_53178_4 rfl (by decide) rfl ?_
  exact t_J7_fill_53178_5 X hR l0 FU v0 kv0 v1 (0 : Int32) x1 S w
theorem C_J7_fill_53178 (G : GG) (l0 : Nat) (v0 : Nat) (kv0 : KA (gD G) v0 (1, l0)) (v1 : Int32) (S : St) : CM G yJ7_fill_53178 cJ7_fill_53178 4 none 0 [.ref v0, .int v1] S (fun _ : Unit => none) (f_J7_fill_53178 l0 v0 v1 S) :=
  CM_of (by decide) (Nat.le_of_ble_eq_true rfl) rfl (fun K hG X hR w => by subst hG; exact t_J7_fill_53178_0 X hR l0 v0 kv0 v1 S w)
-- ==== X2_open
theorem hy_X2_open : yX2_open.cls ≠ "java/lang/invoke/MethodHandle" ∧ yX2_open.cls ≠ "java/lang/invoke/VarHandle" ∧ (parseMethodDescriptor yX2_open.desc).map (fun d => d.parameters.length) = some 1 := by decide +kernel
set_option maxRecDepth 20000 in
def f_X2_open (v0 : Nat) (v1 : Int32) (S : St) : Option (Unit × St) := (ix v1 4).bind fun j1 => nm (sI S (S.2.2 v0 4) j1 (0 : Int32)) fun S2 => (ix (v1 * (14 : Int32)) 56).bind fun j3 => nm (sI S2 (S2.2.2 v0 3) j3 (S2.1 v0 2)) fun S4 => some ((), S4)
set_option maxRecDepth 20000 in
theorem t_X2_open_0 {K : KK} (X : CX K cX2_open 2 RX2 none) (hR : kR K = rmD 0) (v0 : Nat) (kv0 : KA (kDn K) v0 (0, 2)) (v1 : Int32) (S : St) (w : WT (kDn K) S.2.2) : JX K (Zm K (fun _ : Unit => none)) 0 [some (.ref v0), some (.int v1)] [] (rwN (kN K) S) (kn K) 0 0 (f_X2_open v0 v1 S) := by
  unfold f_X2_open
  refine J_aload_n X dX2_open_0 (i := 0) rfl rfl ?_
  refine T_getR X (kf := 4) cb2 kv0 (by decide) fl_X2_21 (fun _ _ _ => rfl) dX2_open_1 ?_
  refine J_iload_n X dX2_open_4 (i := 1) rfl rfl ?_
  refine J_iconst X (v := (0 : Int32)) dX2_open_5 (by decide) ?_
  refine T_iast X (w.1 _ _ kv0 4 _ rfl) dX2_open_6 (fun j1 S2 hS2 => ?_)
  have wS2 : WT (kDn K) S2.2.2 := by rw [hS2]; exact w
  clear hS2
  refine J_aload_n X dX2_open_7 (i := 0) rfl rfl ?_
  refine T_getR X (kf := 3) cb2 kv0 (by decide) fl_X2_18 (fun _ _ _ => rfl) dX2_open_8 ?_
  refine J_iload_n X dX2_open_11 (i := 1) rfl rfl ?_
  refine J_bipush X (v := (14 : Int32)) dX2_open_12 (by decide) ?_
  refine J_imul X dX2_open_14 ?_
  refine J_aload_n X dX2_open_15 (i := 0) rfl rfl ?_
  refine T_getI X (kf := 2) cb2 kv0 (by decide) fl_X2_30 (fun _ _ _ => rfl) dX2_open_16 ?_
  refine T_iast X (wS2.1 _ _ kv0 3 _ rfl) dX2_open_19 (fun j3 S4 hS4 => ?_)
  have wS4 : WT (kDn K) S4.2.2 := by rw [hS4]; exact wS2
  clear hS4
  exact T_vret wS4 X dX2_open_20
theorem C_X2_open (G : GG) (v0 : Nat) (kv0 : KA (gD G) v0 (0, 2)) (v1 : Int32) (S : St) : CM G yX2_open cX2_open 2 none 0 [.ref v0, .int v1] S (fun _ : Unit => none) (f_X2_open v0 v1 S) :=
  CM_of (by decide) (Nat.le_of_ble_eq_true rfl) rfl (fun K hG X hR w => by subst hG; exact t_X2_open_0 X hR v0 kv0 v1 S w)
-- ==== X2_put
theorem hy_X2_put : yX2_put.cls ≠ "java/lang/invoke/MethodHandle" ∧ yX2_put.cls ≠ "java/lang/invoke/VarHandle" ∧ (parseMethodDescriptor yX2_put.desc).map (fun d => d.parameters.length) = some 1 := by decide +kernel
set_option maxRecDepth 20000 in
def f_X2_put (v0 : Nat) (v1 : Int32) (S : St) : Option (Unit × St) := if (Int32.ofNat 404) ≤ (S.1 v0 2) then (some ((), S)) else ((ix (S.1 v0 2) 404).bind fun j1 => nm (sI S (S.2.2 v0 1) j1 v1) fun S2 => nm (sI S2 v0 2 ((S2.1 v0 2) + (1 : Int32))) fun S3 => some ((), S3))
set_option maxRecDepth 20000 in
theorem t_X2_put_0 {K : KK} (X : CX K cX2_put 2 RX2 none) (hR : kR K = rmD 0) (v0 : Nat) (kv0 : KA (kDn K) v0 (0, 2)) (v1 : Int32) (S : St) (w : WT (kDn K) S.2.2) : JX K (Zm K (fun _ : Unit => none)) 0 [some (.ref v0), some (.int v1)] [] (rwN (kN K) S) (kn K) 0 0 (f_X2_put v0 v1 S) := by
  unfold f_X2_put
  refine J_aload_n X dX2_put_0 (i := 0) rfl rfl ?_
  refine T_getI X (kf := 2) cb2 kv0 (by decide) fl_X2_30 (fun _ _ _ => rfl) dX2_put_1 ?_
  refine J_aload_n X dX2_put_4 (i := 0) rfl rfl ?_
  refine T_getR X (kf := 1) cb2 kv0 (by decide) fl_X2_15 (fun _ _ _ => rfl) dX2_put_5 ?_
  refine T_alen1 X (w.1 _ _ kv0 1 _ rfl) dX2_put_8 ?_
  refine J_icmp_ge X (tgt := 32) dX2_put_9 (by decide) ?_ ?_
  · exact T_vret w X dX2_put_32
  · refine J_aload_n X dX2_put_12 (i := 0) rfl rfl ?_
    refine T_getR X (kf := 1) cb2 kv0 (by decide) fl_X2_15 (fun _ _ _ => rfl) dX2_put_13 ?_
    refine J_aload_n X dX2_put_16 (i := 0) rfl rfl ?_
    refine T_getI X (kf := 2) cb2 kv0 (by decide) fl_X2_30 (fun _ _ _ => rfl) dX2_put_17 ?_
    refine J_iload_n X dX2_put_20 (i := 1) rfl rfl ?_
    refine T_iast X (w.1 _ _ kv0 1 _ rfl) dX2_put_21 (fun j1 S2 hS2 => ?_)
    have wS2 : WT (kDn K) S2.2.2 := by rw [hS2]; exact w
    clear hS2
    refine J_aload_n X dX2_put_22 (i := 0) rfl rfl ?_
    refine J_dup X dX2_put_23 rfl ?_
    refine T_getI X (kf := 2) cb2 kv0 (by decide) fl_X2_30 (fun _ _ _ => rfl) dX2_put_24 ?_
    refine J_iconst X (v := (1 : Int32)) dX2_put_27 (by decide) ?_
    refine J_iadd X dX2_put_28 ?_
    refine T_putI X (kf := 2) cb2 kv0 (by decide) fl_X2_30 (fun _ _ _ => rfl) rfl rfl rfl dX2_put_29 (fun S3 hS3 => ?_)
    have wS3 : WT (kDn K) S3.2.2 := by rw [hS3]; exact wS2
    clear hS3
    exact T_vret wS3 X dX2_put_32
theorem C_X2_put (G : GG) (v0 : Nat) (kv0 : KA (gD G) v0 (0, 2)) (v1 : Int32) (S : St) : CM G yX2_put cX2_put 2 none 0 [.ref v0, .int v1] S (fun _ : Unit => none) (f_X2_put v0 v1 S) :=
  CM_of (by decide) (Nat.le_of_ble_eq_true rfl) rfl (fun K hG X hR w => by subst hG; exact t_X2_put_0 X hR v0 kv0 v1 S w)
-- ==== X2_endPiece
theorem hy_X2_endPiece : yX2_endPiece.cls ≠ "java/lang/invoke/MethodHandle" ∧ yX2_endPiece.cls ≠ "java/lang/invoke/VarHandle" ∧ (parseMethodDescriptor yX2_endPiece.desc).map (fun d => d.parameters.length) = some 1 := by decide +kernel
set_option maxRecDepth 20000 in
def f_X2_endPiece (v0 : Nat) (v1 : Int32) (S : St) : Option (Unit × St) := (ix v1 4).bind fun j1 => if (13 : Int32) ≤ (S.1 (S.2.2 v0 4) j1) then (some ((), S)) else ((ix v1 4).bind fun j2 => (ix v1 4).bind fun j3 => nm (sI S (S.2.2 v0 4) j3 ((S.1 (S.2.2 v0 4) j2) + (1 : Int32))) fun S4 => (ix v1 4).bind fun j5 => (ix ((v1 * (14 : Int32)) + (S4.1 (S4.2.2 v0 4) j5)) 56).bind fun j6 => nm (sI S4 (S4.2.2 v0 3) j6 (S4.1 v0 2)) fun S7 => some ((), S7))
set_option maxRecDepth 20000 in
theorem t_X2_endPiece_0 {K : KK} (X : CX K cX2_endPiece 2 RX2 none) (hR : kR K = rmD 0) (v0 : Nat) (kv0 : KA (kDn K) v0 (0, 2)) (v1 : Int32) (S : St) (w : WT (kDn K) S.2.2) : JX K (Zm K (fun _ : Unit => none)) 0 [some (.ref v0), some (.int v1)] [] (rwN (kN K) S) (kn K) 0 0 (f_X2_endPiece v0 v1 S) := by
  unfold f_X2_endPiece
  refine J_aload_n X dX2_endPiece_0 (i := 0) rfl rfl ?_
  refine T_getR X (kf := 4) cb2 kv0 (by decide) fl_X2_21 (fun _ _ _ => rfl) dX2_endPiece_1 ?_
  refine J_iload_n X dX2_endPiece_4 (i := 1) rfl rfl ?_
  refine T_iald X (w.1 _ _ kv0 4 _ rfl) dX2_endPiece_5 (fun j1 => ?_)
  refine J_bipush X (v := (13 : Int32)) dX2_endPiece_6 (by decide) ?_
  refine J_icmp_ge X (tgt := 41) dX2_endPiece_8 (by decide) ?_ ?_
  · exact T_vret w X dX2_endPiece_41
  · refine J_aload_n X dX2_endPiece_11 (i := 0) rfl rfl ?_
    refine T_getR X (kf := 4) cb2 kv0 (by decide) fl_X2_21 (fun _ _ _ => rfl) dX2_endPiece_12 ?_
    refine J_iload_n X dX2_endPiece_15 (i := 1) rfl rfl ?_
    refine J_dup2 X dX2_endPiece_16 rfl rfl ?_
    refine T_iald X (w.1 _ _ kv0 4 _ rfl) dX2_endPiece_17 (fun j2 => ?_)
    refine J_iconst X (v := (1 : Int32)) dX2_endPiece_18 (by decide) ?_
    refine J_iadd X dX2_endPiece_19 ?_
    refine T_iast X (w.1 _ _ kv0 4 _ rfl) dX2_endPiece_20 (fun j3 S4 hS4 => ?_)
    have wS4 : WT (kDn K) S4.2.2 := by rw [hS4]; exact w
    clear hS4
    refine J_aload_n X dX2_endPiece_21 (i := 0) rfl rfl ?_
    refine T_getR X (kf := 3) cb2 kv0 (by decide) fl_X2_18 (fun _ _ _ => rfl) dX2_endPiece_22 ?_
    refine J_iload_n X dX2_endPiece_25 (i := 1) rfl rfl ?_
    refine J_bipush X (v := (14 : Int32)) dX2_endPiece_26 (by decide) ?_
    refine J_imul X dX2_endPiece_28 ?_
    refine J_aload_n X dX2_endPiece_29 (i := 0) rfl rfl ?_
    refine T_getR X (kf := 4) cb2 kv0 (by decide) fl_X2_21 (fun _ _ _ => rfl) dX2_endPiece_30 ?_
    refine J_iload_n X dX2_endPiece_33 (i := 1) rfl rfl ?_
    refine T_iald X (wS4.1 _ _ kv0 4 _ rfl) dX2_endPiece_34 (fun j5 => ?_)
    refine J_iadd X dX2_endPiece_35 ?_
    refine J_aload_n X dX2_endPiece_36 (i := 0) rfl rfl ?_
    refine T_getI X (kf := 2) cb2 kv0 (by decide) fl_X2_30 (fun _ _ _ => rfl) dX2_endPiece_37 ?_
    refine T_iast X (wS4.1 _ _ kv0 3 _ rfl) dX2_endPiece_40 (fun j6 S7 hS7 => ?_)
    have wS7 : WT (kDn K) S7.2.2 := by rw [hS7]; exact wS4
    clear hS7
    exact T_vret wS7 X dX2_endPiece_41
theorem C_X2_endPiece (G : GG) (v0 : Nat) (kv0 : KA (gD G) v0 (0, 2)) (v1 : Int32) (S : St) : CM G yX2_endPiece cX2_endPiece 2 none 0 [.ref v0, .int v1] S (fun _ : Unit => none) (f_X2_endPiece v0 v1 S) :=
  CM_of (by decide) (Nat.le_of_ble_eq_true rfl) rfl (fun K hG X hR w => by subst hG; exact t_X2_endPiece_0 X hR v0 kv0 v1 S w)
-- ==== X2_putUntold
theorem hy_X2_putUntold : yX2_putUntold.cls ≠ "java/lang/invoke/MethodHandle" ∧ yX2_putUntold.cls ≠ "java/lang/invoke/VarHandle" ∧ (parseMethodDescriptor yX2_putUntold.desc).map (fun d => d.parameters.length) = some 2 := by decide +kernel
set_option maxRecDepth 20000 in
def f_X2_putUntold (v0 : Nat) (v1 : Int32) (v2 : Int32) (S : St) : Option (Unit × St) := bd (f_X2_open v0 v1 S) fun _ S1 => bd (f_X2_put v0 v2 S1) fun _ S3 => bd (f_X2_endPiece v0 v1 S3) fun _ S5 => some ((), S5)
set_option maxRecDepth 20000 in
theorem t_X2_putUntold_0 {K : KK} (X : CX K cX2_putUntold 3 RX2 none) (hR : kR K = rmD 1) (v0 : Nat) (kv0 : KA (kDn K) v0 (0, 2)) (v1 : Int32) (v2 : Int32) (S : St) (w : WT (kDn K) S.2.2) : JX K (Zm K (fun _ : Unit => none)) 0 [some (.ref v0), some (.int v1), some (.int v2)] [] (rwN (kN K) S) (kn K) 0 0 (f_X2_putUntold v0 v1 v2 S) := by
  unfold f_X2_putUntold
  refine J_aload_n X dX2_putUntold_0 (i := 0) rfl rfl ?_
  refine J_iload_n X dX2_putUntold_1 (i := 1) rfl rfl ?_
  refine T_callV (As := [.int v1]) w X (C_X2_open (kG K) v0 kv0 v1 S) cb2 kv0 ml_X2_38 in_yX2_open se_yX2_open ii_RX2 co_yX2_open hy_X2_open (hRd hR (by decide) (by decide)) rfl (Nat.le_of_ble_eq_true rfl) dX2_putUntold_2 (fun _ S1 _ wS1 => ?_)
  refine J_aload_n X dX2_putUntold_5 (i := 0) rfl rfl ?_
  refine J_iload_n X dX2_putUntold_6 (i := 2) rfl rfl ?_
  refine T_callV (As := [.int v2]) wS1 X (C_X2_put (kG K) v0 kv0 v2 S1) cb2 kv0 ml_X2_42 in_yX2_put se_yX2_put ii_RX2 co_yX2_put hy_X2_put (hRd hR (by decide) (by decide)) rfl (Nat.le_of_ble_eq_true rfl) dX2_putUntold_7 (fun _ S3 _ wS3 => ?_)
  refine J_aload_n X dX2_putUntold_10 (i := 0) rfl rfl ?_
  refine J_iload_n X dX2_putUntold_11 (i := 1) rfl rfl ?_
  refine T_callV (As := [.int v1]) wS3 X (C_X2_endPiece (kG K) v0 kv0 v1 S3) cb2 kv0 ml_X2_45 in_yX2_endPiece se_yX2_endPiece ii_RX2 co_yX2_endPiece hy_X2_endPiece (hRd hR (by decide) (by decide)) rfl (Nat.le_of_ble_eq_true rfl) dX2_putUntold_12 (fun _ S5 _ wS5 => ?_)
  exact T_vret wS5 X dX2_putUntold_15
theorem C_X2_putUntold (G : GG) (v0 : Nat) (kv0 : KA (gD G) v0 (0, 2)) (v1 : Int32) (v2 : Int32) (S : St) : CM G yX2_putUntold cX2_putUntold 3 none 1 [.ref v0, .int v1, .int v2] S (fun _ : Unit => none) (f_X2_putUntold v0 v1 v2 S) :=
  CM_of (by decide) (Nat.le_of_ble_eq_true rfl) rfl (fun K hG X hR w => by subst hG; exact t_X2_putUntold_0 X hR v0 kv0 v1 v2 S w)
-- ==== X2_clearAll
theorem hy_X2_clearAll : yX2_clearAll.cls ≠ "java/lang/invoke/MethodHandle" ∧ yX2_clearAll.cls ≠ "java/lang/invoke/VarHandle" ∧ (parseMethodDescriptor yX2_clearAll.desc).map (fun d => d.parameters.length) = some 0 := by decide +kernel
set_option maxRecDepth 20000 in
def f_X2_clearAll (v0 : Nat) (S : St) : Option (Unit × St) := nm (sI S v0 2 (0 : Int32)) fun S1 => bd (f_X2_putUntold v0 (0 : Int32) (10000 : Int32) S1) fun _ S2 => bd (f_X2_putUntold v0 (1 : Int32) (10004 : Int32) S2) fun _ S4 => bd (f_X2_putUntold v0 (2 : Int32) (10000 : Int32) S4) fun _ S6 => bd (f_X2_putUntold v0 (3 : Int32) (0 : Int32) S6) fun _ S8 => some ((), S8)
set_option maxRecDepth 20000 in
theorem t_X2_clearAll_0 {K : KK} (X : CX K cX2_clearAll 1 RX2 none) (hR : kR K = rmD 2) (v0 : Nat) (kv0 : KA (kDn K) v0 (0, 2)) (S : St) (w : WT (kDn K) S.2.2) : JX K (Zm K (fun _ : Unit => none)) 0 [some (.ref v0)] [] (rwN (kN K) S) (kn K) 0 0 (f_X2_clearAll v0 S) := by
  unfold f_X2_clearAll
  refine J_aload_n X dX2_clearAll_0 (i := 0) rfl rfl ?_
  refine J_iconst X (v := (0 : Int32)) dX2_clearAll_1 (by decide) ?_
  refine T_putI X (kf := 2) cb2 kv0 (by decide) fl_X2_30 (fun _ _ _ => rfl) rfl rfl rfl dX2_clearAll_2 (fun S1 hS1 => ?_)
  have wS1 : WT (kDn K) S1.2.2 := by rw [hS1]; exact w
  clear hS1
  refine J_aload_n X dX2_clearAll_5 (i := 0) rfl rfl ?_
  refine J_iconst X (v := (0 : Int32)) dX2_clearAll_6 (by decide) ?_
  refine J_sipush X (v := (10000 : Int32)) dX2_clearAll_7 (by decide) ?_
  refine T_callV (As := [.int (0 : Int32), .int (10000 : Int32)]) wS1 X (C_X2_putUntold (kG K) v0 kv0 (0 : Int32) (10000 : Int32) S1) cb2 kv0 ml_X2_34 in_yX2_putUntold se_yX2_putUntold ii_RX2 co_yX2_putUntold hy_X2_putUntold (hRd hR (by decide) (by decide)) rfl (Nat.le_of_ble_eq_true rfl) dX2_clearAll_10 (fun _ S2 _ wS2 => ?_)
  refine J_aload_n X dX2_clearAll_13 (i := 0) rfl rfl ?_
  refine J_iconst X (v := (1 : Int32)) dX2_clearAll_14 (by decide) ?_
  refine J_sipush X (v := (10004 : Int32)) dX2_clearAll_15 (by decide) ?_
  refine T_callV (As := [.int (1 : Int32), .int (10004 : Int32)]) wS2 X (C_X2_putUntold (kG K) v0 kv0 (1 : Int32) (10004 : Int32) S2) cb2 kv0 ml_X2_34 in_yX2_putUntold se_yX2_putUntold ii_RX2 co_yX2_putUntold hy_X2_putUntold (hRd hR (by decide) (by decide)) rfl (Nat.le_of_ble_eq_true rfl) dX2_clearAll_18 (fun _ S4 _ wS4 => ?_)
  refine J_aload_n X dX2_clearAll_21 (i := 0) rfl rfl ?_
  refine J_iconst X (v := (2 : Int32)) dX2_clearAll_22 (by decide) ?_
  refine J_sipush X (v := (10000 : Int32)) dX2_clearAll_23 (by decide) ?_
  refine T_callV (As := [.int (2 : Int32), .int (10000 : Int32)]) wS4 X (C_X2_putUntold (kG K) v0 kv0 (2 : Int32) (10000 : Int32) S4) cb2 kv0 ml_X2_34 in_yX2_putUntold se_yX2_putUntold ii_RX2 co_yX2_putUntold hy_X2_putUntold (hRd hR (by decide) (by decide)) rfl (Nat.le_of_ble_eq_true rfl) dX2_clearAll_26 (fun _ S6 _ wS6 => ?_)
  refine J_aload_n X dX2_clearAll_29 (i := 0) rfl rfl ?_
  refine J_iconst X (v := (3 : Int32)) dX2_clearAll_30 (by decide) ?_
  refine J_iconst X (v := (0 : Int32)) dX2_clearAll_31 (by decide) ?_
  refine T_callV (As := [.int (3 : Int32), .int (0 : Int32)]) wS6 X (C_X2_putUntold (kG K) v0 kv0 (3 : Int32) (0 : Int32) S6) cb2 kv0 ml_X2_34 in_yX2_putUntold se_yX2_putUntold ii_RX2 co_yX2_putUntold hy_X2_putUntold (hRd hR (by decide) (by decide)) rfl (Nat.le_of_ble_eq_true rfl) dX2_clearAll_32 (fun _ S8 _ wS8 => ?_)
  exact T_vret wS8 X dX2_clearAll_35
theorem C_X2_clearAll (G : GG) (v0 : Nat) (kv0 : KA (gD G) v0 (0, 2)) (S : St) : CM G yX2_clearAll cX2_clearAll 1 none 2 [.ref v0] S (fun _ : Unit => none) (f_X2_clearAll v0 S) :=
  CM_of (by decide) (Nat.le_of_ble_eq_true rfl) rfl (fun K hG X hR w => by subst hG; exact t_X2_clearAll_0 X hR v0 kv0 S w)
-- ==== X5_clearAll
theorem hy_X5_clearAll : yX5_clearAll.cls ≠ "java/lang/invoke/MethodHandle" ∧ yX5_clearAll.cls ≠ "java/lang/invoke/VarHandle" ∧ (parseMethodDescriptor yX5_clearAll.desc).map (fun d => d.parameters.length) = some 0 := by decide +kernel
set_option maxRecDepth 20000 in
def f_X5_clearAll (v0 : Nat) (S : St) : Option (Unit × St) := bd (f_J7_fill_53178 36 (S.2.2 v0 0) (0 : Int32) S) fun _ S1 => nm (sI S1 v0 1 (0 : Int32)) fun S3 => nm (sI S3 v0 2 (0 : Int32)) fun S4 => nm (sI S4 v0 3 (0 : Int32)) fun S5 => nm (sI S5 v0 4 (0 : Int32)) fun S6 => some ((), S6)
set_option maxRecDepth 20000 in
theorem t_X5_clearAll_0 {K : KK} (X : CX K cX5_clearAll 1 RX5 none) (hR : kR K = rmD 1) (v0 : Nat) (kv0 : KA (kDn K) v0 (0, 5)) (S : St) (w : WT (kDn K) S.2.2) : JX K (Zm K (fun _ : Unit => none)) 0 [some (.ref v0)] [] (rwN (kN K) S) (kn K) 0 0 (f_X5_clearAll v0 S) := by
  unfold f_X5_clearAll
  refine J_aload_n X dX5_clearAll_0 (i := 0) rfl rfl ?_
  refine T_getR X (kf := 0) cb5 kv0 (by decide) fl_X5_9 (fun _ _ _ => rfl) dX5_clearAll_1 ?_
  refine J_iconst X (v := (0 : Int32)) dX5_clearAll_4 (by decide) ?_
  refine T_callS (As := [.ref (S.2.2 v0 0), .int (0 : Int32)]) w X (C_J7_fill_53178 (kG K) 36 (S.2.2 v0 0) (w.1 _ _ kv0 0 _ rfl) (0 : Int32) S) ml_X5_34 st_yJ7_fill_53178 ii_RJ7 co_yJ7_fill_53178 hy_J7_fill_53178 (hRd hR (by decide) (by decide)) rfl (Nat.le_of_ble_eq_true rfl) dX5_clearAll_5 (fun _ S1 _ wS1 => ?_)
  refine J_aload_n X dX5_clearAll_8 (i := 0) rfl rfl ?_
  refine J_iconst X (v := (0 : Int32)) dX5_clearAll_9 (by decide) ?_
  refine T_putI X (kf := 1) cb5 kv0 (by decide) fl_X5_21 (fun _ _ _ => rfl) rfl rfl rfl dX5_clearAll_10 (fun S3 hS3 => ?_)
  have wS3 : WT (kDn K) S3.2.2 := by rw [hS3]; exact wS1
  clear hS3
  refine J_aload_n X dX5_clearAll_13 (i := 0) rfl rfl ?_
  refine J_iconst X (v := (0 : Int32)) dX5_clearAll_14 (by decide) ?_
  refine T_putI X (kf := 2) cb5 kv0 (by decide) fl_X5_25 (fun _ _ _ => rfl) rfl rfl rfl dX5_clearAll_15 (fun S4 hS4 => ?_)
  have wS4 : WT (kDn K) S4.2.2 := by rw [hS4]; exact wS3
  clear hS4
  refine J_aload_n X dX5_clearAll_18 (i := 0) rfl rfl ?_
  refine J_iconst X (v := (0 : Int32)) dX5_clearAll_19 (by decide) ?_
  refine T_putI X (kf := 3) cb5 kv0 (by decide) fl_X5_28 (fun _ _ _ => rfl) rfl rfl rfl dX5_clearAll_20 (fun S5 hS5 => ?_)
  have wS5 : WT (kDn K) S5.2.2 := by rw [hS5]; exact wS4
  clear hS5
  refine J_aload_n X dX5_clearAll_23 (i := 0) rfl rfl ?_
  refine J_iconst X (v := (0 : Int32)) dX5_clearAll_24 (by decide) ?_
  refine T_putI X (kf := 4) cb5 kv0 (by decide) fl_X5_31 (fun _ _ _ => rfl) rfl rfl rfl dX5_clearAll_25 (fun S6 hS6 => ?_)
  have wS6 : WT (kDn K) S6.2.2 := by rw [hS6]; exact wS5
  clear hS6
  exact T_vret wS6 X dX5_clearAll_28
theorem C_X5_clearAll (G : GG) (v0 : Nat) (kv0 : KA (gD G) v0 (0, 5)) (S : St) : CM G yX5_clearAll cX5_clearAll 1 none 1 [.ref v0] S (fun _ : Unit => none) (f_X5_clearAll v0 S) :=
  CM_of (by decide) (Nat.le_of_ble_eq_true rfl) rfl (fun K hG X hR w => by subst hG; exact t_X5_clearAll_0 X hR v0 kv0 S w)
-- ==== X0_clearAll
theorem hy_X0_clearAll : yX0_clearAll.cls ≠ "java/lang/invoke/MethodHandle" ∧ yX0_clearAll.cls ≠ "java/lang/invoke/VarHandle" ∧ (parseMethodDescriptor yX0_clearAll.desc).map (fun d => d.parameters.length) = some 0 := by decide +kernel
set_option maxRecDepth 20000 in
def f_X0_clearAll (v0 : Nat) (S : St) : Option (Unit × St) := nm (sI S v0 0 (0 : Int32)) fun S1 => nm (sI S1 v0 1 (0 : Int32)) fun S2 => nm (sI S2 v0 2 (0 : Int32)) fun S3 => nm (sI S3 v0 3 (4 : Int32)) fun S4 => nm (sI S4 v0 4 (0 : Int32)) fun S5 => bd (f_X2_clearAll (S5.2.2 v0 10) S5) fun _ S6 => bd (f_X5_clearAll (S6.2.2 v0 11) S6) fun _ S8 => some ((), S8)
set_option maxRecDepth 20000 in
theorem t_X0_clearAll_0 {K : KK} (X : CX K cX0_clearAll 1 RX0 none) (hR : kR K = rmD 3) (v0 : Nat) (kv0 : KA (kDn K) v0 (0, 0)) (S : St) (w : WT (kDn K) S.2.2) : JX K (Zm K (fun _ : Unit => none)) 0 [some (.ref v0)] [] (rwN (kN K) S) (kn K) 0 0 (f_X0_clearAll v0 S) := by
  unfold f_X0_clearAll
  refine J_aload_n X dX0_clearAll_0 (i := 0) rfl rfl ?_
  refine J_iconst X (v := (0 : Int32)) dX0_clearAll_1 (by decide) ?_
  refine T_putI X (kf := 0) cb0 kv0 (by decide) fl_X0_46 (fun _ _ _ => rfl) rfl rfl rfl dX0_clearAll_2 (fun S1 hS1 => ?_)
  have wS1 : WT (kDn K) S1.2.2 := by rw [hS1]; exact w
  clear hS1
  refine J_aload_n X dX0_clearAll_5 (i := 0) rfl rfl ?_
  refine J_iconst X (v := (0 : Int32)) dX0_clearAll_6 (by decide) ?_
  refine T_putI X (kf := 1) cb0 kv0 (by decide) fl_X0_49 (fun _ _ _ => rfl) rfl rfl rfl dX0_clearAll_7 (fun S2 hS2 => ?_)
  have wS2 : WT (kDn K) S2.2.2 := by rw [hS2]; exact wS1
  clear hS2
  refine J_aload_n X dX0_clearAll_10 (i := 0) rfl rfl ?_
  refine J_iconst X (v := (0 : Int32)) dX0_clearAll_11 (by decide) ?_
  refine T_putI X (kf := 2) cb0 kv0 (by decide) fl_X0_52 (fun _ _ _ => rfl) rfl rfl rfl dX0_clearAll_12 (fun S3 hS3 => ?_)
  have wS3 : WT (kDn K) S3.2.2 := by rw [hS3]; exact wS2
  clear hS3
  refine J_aload_n X dX0_clearAll_15 (i := 0) rfl rfl ?_
  refine J_iconst X (v := (4 : Int32)) dX0_clearAll_16 (by decide) ?_
  refine T_putI X (kf := 3) cb0 kv0 (by decide) fl_X0_42 (fun _ _ _ => rfl) rfl rfl rfl dX0_clearAll_17 (fun S4 hS4 => ?_)
  have wS4 : WT (kDn K) S4.2.2 := by rw [hS4]; exact wS3
  clear hS4
  refine J_aload_n X dX0_clearAll_20 (i := 0) rfl rfl ?_
  refine J_iconst X (v := (0 : Int32)) dX0_clearAll_21 (by decide) ?_
  refine T_putI X (kf := 4) cb0 kv0 (by decide) fl_X0_55 (fun _ _ _ => rfl) rfl rfl rfl dX0_clearAll_22 (fun S5 hS5 => ?_)
  have wS5 : WT (kDn K) S5.2.2 := by rw [hS5]; exact wS4
  clear hS5
  refine J_aload_n X dX0_clearAll_25 (i := 0) rfl rfl ?_
  refine T_getR X (kf := 10) cb0 kv0 (by decide) fl_X0_31 (fun _ _ _ => rfl) dX0_clearAll_26 ?_
  refine T_callV (As := []) wS5 X (C_X2_clearAll (kG K) (S5.2.2 v0 10) (wS5.1 _ _ kv0 10 _ rfl) S5) cb2 (wS5.1 _ _ kv0 10 _ rfl) ml_X0_58 in_yX2_clearAll se_yX2_clearAll ii_RX2 co_yX2_clearAll hy_X2_clearAll (hRd hR (by decide) (by decide)) rfl (Nat.le_of_ble_eq_true rfl) dX0_clearAll_29 (fun _ S6 _ wS6 => ?_)
  refine J_aload_n X dX0_clearAll_32 (i := 0) rfl rfl ?_
  refine T_getR X (kf := 11) cb0 kv0 (by decide) fl_X0_38 (fun _ _ _ => rfl) dX0_clearAll_33 ?_
  refine T_callV (As := []) wS6 X (C_X5_clearAll (kG K) (S6.2.2 v0 11) (wS6.1 _ _ kv0 11 _ rfl) S6) cb5 (wS6.1 _ _ kv0 11 _ rfl) ml_X0_61 in_yX5_clearAll se_yX5_clearAll ii_RX5 co_yX5_clearAll hy_X5_clearAll (hRd hR (by decide) (by decide)) rfl (Nat.le_of_ble_eq_true rfl) dX0_clearAll_36 (fun _ S8 _ wS8 => ?_)
  exact T_vret wS8 X dX0_clearAll_39
theorem C_X0_clearAll (G : GG) (v0 : Nat) (kv0 : KA (gD G) v0 (0, 0)) (S : St) : CM G yX0_clearAll cX0_clearAll 1 none 3 [.ref v0] S (fun _ : Unit => none) (f_X0_clearAll v0 S) :=
  CM_of (by decide) (Nat.le_of_ble_eq_true rfl) rfl (fun K hG X hR w => by subst hG; exact t_X0_clearAll_0 X hR v0 kv0 S w)
-- ==== X0_indexOf
theorem hy_X0_indexOf : yX0_indexOf.cls ≠ "java/lang/invoke/MethodHandle" ∧ yX0_indexOf.cls ≠ "java/lang/invoke/VarHandle" ∧ (parseMethodDescriptor yX0_indexOf.desc).map (fun d => d.parameters.length) = some 3 := by decide +kernel
set_option maxRecDepth 20000 in
def b_X0_indexOf_3 (l0 : Nat) : Nat → Nat → Int32 → Int64 → Int32 → St → Option (Int32 × St)
  | 0, _, _, _, _, _ => none
  | fu + 1, v0, v1, v2, v4, S => if v1 ≤ v4 then (some ((-1 : Int32), S)) else (if (Int32.ofNat l0) ≤ v4 then (some ((-1 : Int32), S)) else ((ix v4 l0).bind fun j1 => if (lg_cmp (S.2.1 v0 j1) v2) = 0 then (some (v4, S)) else (nm (v4 + (1 : Int32)) fun x2 => b_X0_indexOf_3 l0 fu v0 v1 v2 x2 S)))
set_option maxRecDepth 20000 in
theorem t_X0_indexOf_3 {K : KK} (X : CX K cX0_indexOf 5 RX0 (some .int)) (hR : kR K = rmD 0) (l0 : Nat) : ∀ (fu : Nat) (v0 : Nat) (kv0 : KA (kDn K) v0 (4, l0)) (v1 : Int32) (v2 : Int64) (v4 : Int32) (S : St), WT (kDn K) S.2.2 → JX K (Zm K (fun v : Int32 => some (.int v))) 3 [some (.ref v0), some (.int v1), some (.long v2), none, some (.int v4)] [] (rwN (kN K) S) (kn K) 0 0 (b_X0_indexOf_3 l0 fu v0 v1 v2 v4 S) := by
  intro fu
  induction fu with
  | zero => intro v0 kv0 v1 v2 v4 S w; exact J_none
  | succ fu ih =>
    intro v0 kv0 v1 v2 v4 S w
    rw [b_X0_indexOf_3]
    refine J_iload X dX0_indexOf_3 rfl ?_
    refine J_iload_n X dX0_indexOf_5 (i := 1) rfl rfl ?_
    refine J_icmp_ge X (tgt := 34) dX0_indexOf_6 (by decide) ?_ ?_
    · refine J_iconst X (v := (-1 : Int32)) dX0_indexOf_34 (by decide) ?_
      exact T_iret w X dX0_indexOf_35
    · refine J_iload X dX0_indexOf_9 rfl ?_
      refine J_aload_n X dX0_indexOf_11 (i := 0) rfl rfl ?_
      refine T_alen4 X kv0 dX0_indexOf_12 ?_
      refine J_icmp_ge X (tgt := 34) dX0_indexOf_13 (by decide) ?_ ?_
      · refine J_iconst X (v := (-1 : Int32)) dX0_indexOf_34 (by decide) ?_
        exact T_iret w X dX0_indexOf_35
      · refine J_aload_n X dX0_indexOf_16 (i := 0) rfl rfl ?_
        refine J_iload X dX0_indexOf_17 rfl ?_
        refine T_lald X kv0 dX0_indexOf_19 (fun j1 => ?_)
        refine J_lload_n X dX0_indexOf_20 (i := 2) rfl rfl ?_
        refine J_lcmp X dX0_indexOf_21 ?_
        refine J_if_ne X (tgt := 28) dX0_indexOf_22 (by decide) ?_ ?_
        · refine J_iload X dX0_indexOf_25 rfl ?_
          exact T_iret w X dX0_indexOf_27
        · refine J_nmv (v4 + (1 : Int32)) (fun x2 ex2 => ?_)
          refine J_iinc X (v := x2) (ls' := [some (.ref v0), some (.int v1), some (.long v2), none, some (.int x2)]) dX0_indexOf_28 (by decide) rfl (by rw [ex2]; rfl) rfl ?_
          refine J_goto X (tgt := 3) dX0_indexOf_31 (by decide) ?_
          exact ih v0 kv0 v1 v2 x2 S w
set_option maxRecDepth 20000 in
def f_X0_indexOf (l0 : Nat) (v0 : Nat) (v1 : Int32) (v2 : Int64) (S : St) : Option (Int32 × St) := b_X0_indexOf_3 l0 FU v0 v1 v2 (0 : Int32) S
set_option maxRecDepth 20000 in
theorem t_X0_indexOf_0 {K : KK} (X : CX K cX0_indexOf 5 RX0 (some .int)) (hR : kR K = rmD 0) (l0 : Nat) (v0 : Nat) (kv0 : KA (kDn K) v0 (4, l0)) (v1 : Int32) (v2 : Int64) (S : St) (w : WT (kDn K) S.2.2) : JX K (Zm K (fun v : Int32 => some (.int v))) 0 [some (.ref v0), some (.int v1), some (.long v2), none, none] [] (rwN (kN K) S) (kn K) 0 0 (f_X0_indexOf l0 v0 v1 v2 S) := by
  unfold f_X0_indexOf
  refine J_iconst X (v := (0 : Int32)) dX0_indexOf_0 (by decide) ?_
  refine J_istore X (ls' := [some (.ref v0), some (.int v1), some (.long v2), none, some (.int (0 : Int32))]) dX0_indexOf_1 (by decide) rfl ?_
  exact t_X0_indexOf_3 X hR l0 FU v0 kv0 v1 v2 (0 : Int32) S w
theorem C_X0_indexOf (G : GG) (l0 : Nat) (v0 : Nat) (kv0 : KA (gD G) v0 (4, l0)) (v1 : Int32) (v2 : Int64) (S : St) : CM G yX0_indexOf cX0_indexOf 5 (some .int) 0 [.ref v0, .int v1, .long v2] S (fun v : Int32 => some (.int v)) (f_X0_indexOf l0 v0 v1 v2 S) :=
  CM_of (by decide) (Nat.le_of_ble_eq_true rfl) rfl (fun K hG X hR w => by subst hG; exact t_X0_indexOf_0 X hR l0 v0 kv0 v1 v2 S w)
-- ==== X0_mermaidNamed
theorem hy_X0_mermaidNamed : yX0_mermaidNamed.cls ≠ "java/lang/invoke/MethodHandle" ∧ yX0_mermaidNamed.cls ≠ "java/lang/invoke/VarHandle" ∧ (parseMethodDescriptor yX0_mermaidNamed.desc).map (fun d => d.parameters.length) = some 1 := by decide +kernel
set_option maxRecDepth 20000 in
def f_X0_mermaidNamed (v0 : Nat) (v1 : Int64) (S : St) : Option (Int32 × St) := bd (f_X0_indexOf 4 (S.2.2 v0 5) (S.1 v0 0) v1 S) fun r2 S1 => some (r2, S1)
set_option maxRecDepth 20000 in
theorem t_X0_mermaidNamed_0 {K : KK} (X : CX K cX0_mermaidNamed 3 RX0 (some .int)) (hR : kR K = rmD 1) (v0 : Nat) (kv0 : KA (kDn K) v0 (0, 0)) (v1 : Int64) (S : St) (w : WT (kDn K) S.2.2) : JX K (Zm K (fun v : Int32 => some (.int v))) 0 [some (.ref v0), some (.long v1), none] [] (rwN (kN K) S) (kn K) 0 0 (f_X0_mermaidNamed v0 v1 S) := by
  unfold f_X0_mermaidNamed
  refine J_aload_n X dX0_mermaidNamed_0 (i := 0) rfl rfl ?_
  refine T_getR X (kf := 5) cb0 kv0 (by decide) fl_X0_9 (fun _ _ _ => rfl) dX0_mermaidNamed_1 ?_
  refine J_aload_n X dX0_mermaidNamed_4 (i := 0) rfl rfl ?_
  refine T_getI X (kf := 0) cb0 kv0 (by decide) fl_X0_46 (fun _ _ _ => rfl) dX0_mermaidNamed_5 ?_
  refine J_lload_n X dX0_mermaidNamed_8 (i := 1) rfl rfl ?_
  refine T_callS (As := [.ref (S.2.2 v0 5), .int (S.1 v0 0), .long v1]) w X (C_X0_indexOf (kG K) 4 (S.2.2 v0 5) (w.1 _ _ kv0 5 _ rfl) (S.1 v0 0) v1 S) ml_X0_62 st_yX0_indexOf ii_RX0 co_yX0_indexOf hy_X0_indexOf (hRd hR (by decide) (by decide)) rfl (Nat.le_of_ble_eq_true rfl) dX0_mermaidNamed_9 (fun r2 S1 _ wS1 => ?_)
  exact T_iret wS1 X dX0_mermaidNamed_12
theorem C_X0_mermaidNamed (G : GG) (v0 : Nat) (kv0 : KA (gD G) v0 (0, 0)) (v1 : Int64) (S : St) : CM G yX0_mermaidNamed cX0_mermaidNamed 3 (some .int) 1 [.ref v0, .long v1] S (fun v : Int32 => some (.int v)) (f_X0_mermaidNamed v0 v1 S) :=
  CM_of (by decide) (Nat.le_of_ble_eq_true rfl) rfl (fun K hG X hR w => by subst hG; exact t_X0_mermaidNamed_0 X hR v0 kv0 v1 S w)
-- ==== X0_personNamed
theorem hy_X0_personNamed : yX0_personNamed.cls ≠ "java/lang/invoke/MethodHandle" ∧ yX0_personNamed.cls ≠ "java/lang/invoke/VarHandle" ∧ (parseMethodDescriptor yX0_personNamed.desc).map (fun d => d.parameters.length) = some 1 := by decide +kernel
set_option maxRecDepth 20000 in
def f_X0_personNamed (v0 : Nat) (v1 : Int64) (S : St) : Option (Int32 × St) := bd (f_X0_indexOf 6 (S.2.2 v0 6) (S.1 v0 1) v1 S) fun r2 S1 => some (r2, S1)
set_option maxRecDepth 20000 in
theorem t_X0_personNamed_0 {K : KK} (X : CX K cX0_personNamed 3 RX0 (some .int)) (hR : kR K = rmD 1) (v0 : Nat) (kv0 : KA (kDn K) v0 (0, 0)) (v1 : Int64) (S : St) (w : WT (kDn K) S.2.2) : JX K (Zm K (fun v : Int32 => some (.int v))) 0 [some (.ref v0), some (.long v1), none] [] (rwN (kN K) S) (kn K) 0 0 (f_X0_personNamed v0 v1 S) := by
  unfold f_X0_personNamed
  refine J_aload_n X dX0_personNamed_0 (i := 0) rfl rfl ?_
  refine T_getR X (kf := 6) cb0 kv0 (by decide) fl_X0_15 (fun _ _ _ => rfl) dX0_personNamed_1 ?_
  refine J_aload_n X dX0_personNamed_4 (i := 0) rfl rfl ?_
  refine T_getI X (kf := 1) cb0 kv0 (by decide) fl_X0_49 (fun _ _ _ => rfl) dX0_personNamed_5 ?_
  refine J_lload_n X dX0_personNamed_8 (i := 1) rfl rfl ?_
  refine T_callS (As := [.ref (S.2.2 v0 6), .int (S.1 v0 1), .long v1]) w X (C_X0_indexOf (kG K) 6 (S.2.2 v0 6) (w.1 _ _ kv0 6 _ rfl) (S.1 v0 1) v1 S) ml_X0_62 st_yX0_indexOf ii_RX0 co_yX0_indexOf hy_X0_indexOf (hRd hR (by decide) (by decide)) rfl (Nat.le_of_ble_eq_true rfl) dX0_personNamed_9 (fun r2 S1 _ wS1 => ?_)
  exact T_iret wS1 X dX0_personNamed_12
theorem C_X0_personNamed (G : GG) (v0 : Nat) (kv0 : KA (gD G) v0 (0, 0)) (v1 : Int64) (S : St) : CM G yX0_personNamed cX0_personNamed 3 (some .int) 1 [.ref v0, .long v1] S (fun v : Int32 => some (.int v)) (f_X0_personNamed v0 v1 S) :=
  CM_of (by decide) (Nat.le_of_ble_eq_true rfl) rfl (fun K hG X hR w => by subst hG; exact t_X0_personNamed_0 X hR v0 kv0 v1 S w)
-- ==== X0_addMermaid
theorem hy_X0_addMermaid : yX0_addMermaid.cls ≠ "java/lang/invoke/MethodHandle" ∧ yX0_addMermaid.cls ≠ "java/lang/invoke/VarHandle" ∧ (parseMethodDescriptor yX0_addMermaid.desc).map (fun d => d.parameters.length) = some 5 := by decide +kernel
set_option maxRecDepth 20000 in
def f_X0_addMermaid (v0 : Nat) (v1 : Int64) (v3 : Int32) (v4 : Int32) (v5 : Int32) (v6 : Int32) (S : St) : Option (Unit × St) := if (4 : Int32) ≤ (S.1 v0 0) then (some ((), S)) else ((ix (S.1 v0 0) 4).bind fun j1 => nm (sL S (S.2.2 v0 5) j1 v1) fun S2 => (ix ((0 : Int32) + (S2.1 v0 0)) 36).bind fun j3 => nm (sI S2 (S2.2.2 (S2.2.2 v0 11) 0) j3 v3) fun S4 => (ix ((4 : Int32) + (S4.1 v0 0)) 36).bind fun j5 => nm (sI S4 (S4.2.2 (S4.2.2 v0 11) 0) j5 v4) fun S6 => (ix ((8 : Int32) + (S6.1 v0 0)) 36).bind fun j7 => nm (sI S6 (S6.2.2 (S6.2.2 v0 11) 0) j7 v5) fun S8 => (ix ((12 : Int32) + (S8.1 v0 0)) 36).bind fun j9 => nm (sI S8 (S8.2.2 (S8.2.2 v0 11) 0) j9 v6) fun S10 => nm (sI S10 v0 0 ((S10.1 v0 0) + (1 : Int32))) fun S11 => some ((), S11))
set_option maxRecDepth 20000 in
theorem t_X0_addMermaid_0 {K : KK} (X : CX K cX0_addMermaid 7 RX0 none) (hR : kR K = rmD 0) (v0 : Nat) (kv0 : KA (kDn K) v0 (0, 0)) (v1 : Int64) (v3 : Int32) (v4 : Int32) (v5 : Int32) (v6 : Int32) (S : St) (w : WT (kDn K) S.2.2) : JX K (Zm K (fun _ : Unit => none)) 0 [some (.ref v0), some (.long v1), none, some (.int v3), some (.int v4), some (.int v5), some (.int v6)] [] (rwN (kN K) S) (kn K) 0 0 (f_X0_addMermaid v0 v1 v3 v4 v5 v6 S) := by
  unfold f_X0_addMermaid
  refine J_aload_n X dX0_addMermaid_0 (i := 0) rfl rfl ?_
  refine T_getI X (kf := 0) cb0 kv0 (by decide) fl_X0_46 (fun _ _ _ => rfl) dX0_addMermaid_1 ?_
  refine J_iconst X (v := (4 : Int32)) dX0_addMermaid_4 (by decide) ?_
  refine J_icmp_ge X (tgt := 93) dX0_addMermaid_5 (by decide) ?_ ?_
  · exact T_vret w X dX0_addMermaid_93
  · refine J_aload_n X dX0_addMermaid_8 (i := 0) rfl rfl ?_
    refine T_getR X (kf := 5) cb0 kv0 (by decide) fl_X0_9 (fun _ _ _ => rfl) dX0_addMermaid_9 ?_
    refine J_aload_n X dX0_addMermaid_12 (i := 0) rfl rfl ?_
    refine T_getI X (kf := 0) cb0 kv0 (by decide) fl_X0_46 (fun _ _ _ => rfl) dX0_addMermaid_13 ?_
    refine J_lload_n X dX0_addMermaid_16 (i := 1) rfl rfl ?_
    refine T_last X (w.1 _ _ kv0 5 _ rfl) dX0_addMermaid_17 (fun j1 S2 hS2 => ?_)
    have wS2 : WT (kDn K) S2.2.2 := by rw [hS2]; exact w
    clear hS2
    refine J_aload_n X dX0_addMermaid_18 (i := 0) rfl rfl ?_
    refine T_getR X (kf := 11) cb0 kv0 (by decide) fl_X0_38 (fun _ _ _ => rfl) dX0_addMermaid_19 ?_
    refine T_getR X (kf := 0) cb5 (wS2.1 _ _ kv0 11 _ rfl) (by decide) fl_X0_66 (fun _ _ _ => rfl) dX0_addMermaid_22 ?_
    refine J_iconst X (v := (0 : Int32)) dX0_addMermaid_25 (by decide) ?_
    refine J_aload_n X dX0_addMermaid_26 (i := 0) rfl rfl ?_
    refine T_getI X (kf := 0) cb0 kv0 (by decide) fl_X0_46 (fun _ _ _ => rfl) dX0_addMermaid_27 ?_
    refine J_iadd X dX0_addMermaid_30 ?_
    refine J_iload_n X dX0_addMermaid_31 (i := 3) rfl rfl ?_
    refine T_iast X (wS2.1 _ _ (wS2.1 _ _ kv0 11 _ rfl) 0 _ rfl) dX0_addMermaid_32 (fun j3 S4 hS4 => ?_)
    have wS4 : WT (kDn K) S4.2.2 := by rw [hS4]; exact wS2
    clear hS4
    refine J_aload_n X dX0_addMermaid_33 (i := 0) rfl rfl ?_
    refine T_getR X (kf := 11) cb0 kv0 (by decide) fl_X0_38 (fun _ _ _ => rfl) dX0_addMermaid_34 ?_
    refine T_getR X (kf := 0) cb5 (wS4.1 _ _ kv0 11 _ rfl) (by decide) fl_X0_66 (fun _ _ _ => rfl) dX0_addMermaid_37 ?_
    refine J_iconst X (v := (4 : Int32)) dX0_addMermaid_40 (by decide) ?_
    refine J_aload_n X dX0_addMermaid_41 (i := 0) rfl rfl ?_
    refine T_getI X (kf := 0) cb0 kv0 (by decide) fl_X0_46 (fun _ _ _ => rfl) dX0_addMermaid_42 ?_
    refine J_iadd X dX0_addMermaid_45 ?_
    refine J_iload X dX0_addMermaid_46 rfl ?_
    refine T_iast X (wS4.1 _ _ (wS4.1 _ _ kv0 11 _ rfl) 0 _ rfl) dX0_addMermaid_48 (fun j5 S6 hS6 => ?_)
    have wS6 : WT (kDn K) S6.2.2 := by rw [hS6]; exact wS4
    clear hS6
    refine J_aload_n X dX0_addMermaid_49 (i := 0) rfl rfl ?_
    refine T_getR X (kf := 11) cb0 kv0 (by decide) fl_X0_38 (fun _ _ _ => rfl) dX0_addMermaid_50 ?_
    refine T_getR X (kf := 0) cb5 (wS6.1 _ _ kv0 11 _ rfl) (by decide) fl_X0_66 (fun _ _ _ => rfl) dX0_addMermaid_53 ?_
    refine J_bipush X (v := (8 : Int32)) dX0_addMermaid_56 (by decide) ?_
    refine J_aload_n X dX0_addMermaid_58 (i := 0) rfl rfl ?_
    refine T_getI X (kf := 0) cb0 kv0 (by decide) fl_X0_46 (fun _ _ _ => rfl) dX0_addMermaid_59 ?_
    refine J_iadd X dX0_addMermaid_62 ?_
    refine J_iload X dX0_addMermaid_63 rfl ?_
    refine T_iast X (wS6.1 _ _ (wS6.1 _ _ kv0 11 _ rfl) 0 _ rfl) dX0_addMermaid_65 (fun j7 S8 hS8 => ?_)
    have wS8 : WT (kDn K) S8.2.2 := by rw [hS8]; exact wS6
    clear hS8
    refine J_aload_n X dX0_addMermaid_66 (i := 0) rfl rfl ?_
    refine T_getR X (kf := 11) cb0 kv0 (by decide) fl_X0_38 (fun _ _ _ => rfl) dX0_addMermaid_67 ?_
    refine T_getR X (kf := 0) cb5 (wS8.1 _ _ kv0 11 _ rfl) (by decide) fl_X0_66 (fun _ _ _ => rfl) dX0_addMermaid_70 ?_
    refine J_bipush X (v := (12 : Int32)) dX0_addMermaid_73 (by decide) ?_
    refine J_aload_n X dX0_addMermaid_75 (i := 0) rfl rfl ?_
    refine T_getI X (kf := 0) cb0 kv0 (by decide) fl_X0_46 (fun _ _ _ => rfl) dX0_addMermaid_76 ?_
    refine J_iadd X dX0_addMermaid_79 ?_
    refine J_iload X dX0_addMermaid_80 rfl ?_
    refine T_iast X (wS8.1 _ _ (wS8.1 _ _ kv0 11 _ rfl) 0 _ rfl) dX0_addMermaid_82 (fun j9 S10 hS10 => ?_)
    have wS10 : WT (kDn K) S10.2.2 := by rw [hS10]; exact wS8
    clear hS10
    refine J_aload_n X dX0_addMermaid_83 (i := 0) rfl rfl ?_
    refine J_dup X dX0_addMermaid_84 rfl ?_
    refine T_getI X (kf := 0) cb0 kv0 (by decide) fl_X0_46 (fun _ _ _ => rfl) dX0_addMermaid_85 ?_
    refine J_iconst X (v := (1 : Int32)) dX0_addMermaid_88 (by decide) ?_
    refine J_iadd X dX0_addMermaid_89 ?_
    refine T_putI X (kf := 0) cb0 kv0 (by decide) fl_X0_46 (fun _ _ _ => rfl) rfl rfl rfl dX0_addMermaid_90 (fun S11 hS11 => ?_)
    have wS11 : WT (kDn K) S11.2.2 := by rw [hS11]; exact wS10
    clear hS11
    exact T_vret wS11 X dX0_addMermaid_93
theorem C_X0_addMermaid (G : GG) (v0 : Nat) (kv0 : KA (gD G) v0 (0, 0)) (v1 : Int64) (v3 : Int32) (v4 : Int32) (v5 : Int32) (v6 : Int32) (S : St) : CM G yX0_addMermaid cX0_addMermaid 7 none 0 [.ref v0, .long v1, .int v3, .int v4, .int v5, .int v6] S (fun _ : Unit => none) (f_X0_addMermaid v0 v1 v3 v4 v5 v6 S) :=
  CM_of (by decide) (Nat.le_of_ble_eq_true rfl) rfl (fun K hG X hR w => by subst hG; exact t_X0_addMermaid_0 X hR v0 kv0 v1 v3 v4 v5 v6 S w)
-- ==== X0_addPerson
theorem hy_X0_addPerson : yX0_addPerson.cls ≠ "java/lang/invoke/MethodHandle" ∧ yX0_addPerson.cls ≠ "java/lang/invoke/VarHandle" ∧ (parseMethodDescriptor yX0_addPerson.desc).map (fun d => d.parameters.length) = some 4 := by decide +kernel
set_option maxRecDepth 20000 in
def f_X0_addPerson (v0 : Nat) (v1 : Int64) (v3 : Int32) (v4 : Int32) (v5 : Int32) (S : St) : Option (Unit × St) := if (6 : Int32) ≤ (S.1 v0 1) then (some ((), S)) else ((ix (S.1 v0 1) 6).bind fun j1 => nm (sL S (S.2.2 v0 6) j1 v1) fun S2 => (ix ((16 : Int32) + (S2.1 v0 1)) 36).bind fun j3 => nm (sI S2 (S2.2.2 (S2.2.2 v0 11) 0) j3 v3) fun S4 => (ix ((22 : Int32) + (S4.1 v0 1)) 36).bind fun j5 => nm (sI S4 (S4.2.2 (S4.2.2 v0 11) 0) j5 v4) fun S6 => (ix (S6.1 v0 1) 6).bind fun j7 => nm (sI S6 (S6.2.2 v0 7) j7 v5) fun S8 => nm (sI S8 v0 1 ((S8.1 v0 1) + (1 : Int32))) fun S9 => some ((), S9))
set_option maxRecDepth 20000 in
theorem t_X0_addPerson_0 {K : KK} (X : CX K cX0_addPerson 6 RX0 none) (hR : kR K = rmD 0) (v0 : Nat) (kv0 : KA (kDn K) v0 (0, 0)) (v1 : Int64) (v3 : Int32) (v4 : Int32) (v5 : Int32) (S : St) (w : WT (kDn K) S.2.2) : JX K (Zm K (fun _ : Unit => none)) 0 [some (.ref v0), some (.long v1), none, some (.int v3), some (.int v4), some (.int v5)] [] (rwN (kN K) S) (kn K) 0 0 (f_X0_addPerson v0 v1 v3 v4 v5 S) := by
  unfold f_X0_addPerson
  refine J_aload_n X dX0_addPerson_0 (i := 0) rfl rfl ?_
  refine T_getI X (kf := 1) cb0 kv0 (by decide) fl_X0_49 (fun _ _ _ => rfl) dX0_addPerson_1 ?_
  refine J_bipush X (v := (6 : Int32)) dX0_addPerson_4 (by decide) ?_
  refine J_icmp_ge X (tgt := 73) dX0_addPerson_6 (by decide) ?_ ?_
  · exact T_vret w X dX0_addPerson_73
  · refine J_aload_n X dX0_addPerson_9 (i := 0) rfl rfl ?_
    refine T_getR X (kf := 6) cb0 kv0 (by decide) fl_X0_15 (fun _ _ _ => rfl) dX0_addPerson_10 ?_
    refine J_aload_n X dX0_addPerson_13 (i := 0) rfl rfl ?_
    refine T_getI X (kf := 1) cb0 kv0 (by decide) fl_X0_49 (fun _ _ _ => rfl) dX0_addPerson_14 ?_
    refine J_lload_n X dX0_addPerson_17 (i := 1) rfl rfl ?_
    refine T_last X (w.1 _ _ kv0 6 _ rfl) dX0_addPerson_18 (fun j1 S2 hS2 => ?_)
    have wS2 : WT (kDn K) S2.2.2 := by rw [hS2]; exact w
    clear hS2
    refine J_aload_n X dX0_addPerson_19 (i := 0) rfl rfl ?_
    refine T_getR X (kf := 11) cb0 kv0 (by decide) fl_X0_38 (fun _ _ _ => rfl) dX0_addPerson_20 ?_
    refine T_getR X (kf := 0) cb5 (wS2.1 _ _ kv0 11 _ rfl) (by decide) fl_X0_66 (fun _ _ _ => rfl) dX0_addPerson_23 ?_
    refine J_bipush X (v := (16 : Int32)) dX0_addPerson_26 (by decide) ?_
    refine J_aload_n X dX0_addPerson_28 (i := 0) rfl rfl ?_
    refine T_getI X (kf := 1) cb0 kv0 (by decide) fl_X0_49 (fun _ _ _ => rfl) dX0_addPerson_29 ?_
    refine J_iadd X dX0_addPerson_32 ?_
    refine J_iload_n X dX0_addPerson_33 (i := 3) rfl rfl ?_
    refine T_iast X (wS2.1 _ _ (wS2.1 _ _ kv0 11 _ rfl) 0 _ rfl) dX0_addPerson_34 (fun j3 S4 hS4 => ?_)
    have wS4 : WT (kDn K) S4.2.2 := by rw [hS4]; exact wS2
    clear hS4
    refine J_aload_n X dX0_addPerson_35 (i := 0) rfl rfl ?_
    refine T_getR X (kf := 11) cb0 kv0 (by decide) fl_X0_38 (fun _ _ _ => rfl) dX0_addPerson_36 ?_
    refine T_getR X (kf := 0) cb5 (wS4.1 _ _ kv0 11 _ rfl) (by decide) fl_X0_66 (fun _ _ _ => rfl) dX0_addPerson_39 ?_
    refine J_bipush X (v := (22 : Int32)) dX0_addPerson_42 (by decide) ?_
    refine J_aload_n X dX0_addPerson_44 (i := 0) rfl rfl ?_
    refine T_getI X (kf := 1) cb0 kv0 (by decide) fl_X0_49 (fun _ _ _ => rfl) dX0_addPerson_45 ?_
    refine J_iadd X dX0_addPerson_48 ?_
    refine J_iload X dX0_addPerson_49 rfl ?_
    refine T_iast X (wS4.1 _ _ (wS4.1 _ _ kv0 11 _ rfl) 0 _ rfl) dX0_addPerson_51 (fun j5 S6 hS6 => ?_)
    have wS6 : WT (kDn K) S6.2.2 := by rw [hS6]; exact wS4
    clear hS6
    refine J_aload_n X dX0_addPerson_52 (i := 0) rfl rfl ?_
    refine T_getR X (kf := 7) cb0 kv0 (by decide) fl_X0_18 (fun _ _ _ => rfl) dX0_addPerson_53 ?_
    refine J_aload_n X dX0_addPerson_56 (i := 0) rfl rfl ?_
    refine T_getI X (kf := 1) cb0 kv0 (by decide) fl_X0_49 (fun _ _ _ => rfl) dX0_addPerson_57 ?_
    refine J_iload X dX0_addPerson_60 rfl ?_
    refine T_iast X (wS6.1 _ _ kv0 7 _ rfl) dX0_addPerson_62 (fun j7 S8 hS8 => ?_)
    have wS8 : WT (kDn K) S8.2.2 := by rw [hS8]; exact wS6
    clear hS8
    refine J_aload_n X dX0_addPerson_63 (i := 0) rfl rfl ?_
    refine J_dup X dX0_addPerson_64 rfl ?_
    refine T_getI X (kf := 1) cb0 kv0 (by decide) fl_X0_49 (fun _ _ _ => rfl) dX0_addPerson_65 ?_
    refine J_iconst X (v := (1 : Int32)) dX0_addPerson_68 (by decide) ?_
    refine J_iadd X dX0_addPerson_69 ?_
    refine T_putI X (kf := 1) cb0 kv0 (by decide) fl_X0_49 (fun _ _ _ => rfl) rfl rfl rfl dX0_addPerson_70 (fun S9 hS9 => ?_)
    have wS9 : WT (kDn K) S9.2.2 := by rw [hS9]; exact wS8
    clear hS9
    exact T_vret wS9 X dX0_addPerson_73
theorem C_X0_addPerson (G : GG) (v0 : Nat) (kv0 : KA (gD G) v0 (0, 0)) (v1 : Int64) (v3 : Int32) (v4 : Int32) (v5 : Int32) (S : St) : CM G yX0_addPerson cX0_addPerson 6 none 0 [.ref v0, .long v1, .int v3, .int v4, .int v5] S (fun _ : Unit => none) (f_X0_addPerson v0 v1 v3 v4 v5 S) :=
  CM_of (by decide) (Nat.le_of_ble_eq_true rfl) rfl (fun K hG X hR w => by subst hG; exact t_X0_addPerson_0 X hR v0 kv0 v1 v3 v4 v5 S w)
-- ==== X0_addStrand
theorem hy_X0_addStrand : yX0_addStrand.cls ≠ "java/lang/invoke/MethodHandle" ∧ yX0_addStrand.cls ≠ "java/lang/invoke/VarHandle" ∧ (parseMethodDescriptor yX0_addStrand.desc).map (fun d => d.parameters.length) = some 3 := by decide +kernel
set_option maxRecDepth 20000 in
def f_X0_addStrand (v0 : Nat) (v1 : Int32) (v2 : Int32) (v3 : Int32) (S : St) : Option (Unit × St) := if (8 : Int32) ≤ (S.1 v0 2) then (some ((), S)) else ((ix (S.1 v0 2) 8).bind fun j1 => nm (sI S (S.2.2 v0 8) j1 v1) fun S2 => (ix ((28 : Int32) + (S2.1 v0 2)) 36).bind fun j3 => nm (sI S2 (S2.2.2 (S2.2.2 v0 11) 0) j3 v2) fun S4 => (ix (S4.1 v0 2) 8).bind fun j5 => nm (sI S4 (S4.2.2 v0 9) j5 v3) fun S6 => nm (sI S6 v0 2 ((S6.1 v0 2) + (1 : Int32))) fun S7 => some ((), S7))
set_option maxRecDepth 20000 in
theorem t_X0_addStrand_0 {K : KK} (X : CX K cX0_addStrand 4 RX0 none) (hR : kR K = rmD 0) (v0 : Nat) (kv0 : KA (kDn K) v0 (0, 0)) (v1 : Int32) (v2 : Int32) (v3 : Int32) (S : St) (w : WT (kDn K) S.2.2) : JX K (Zm K (fun _ : Unit => none)) 0 [some (.ref v0), some (.int v1), some (.int v2), some (.int v3)] [] (rwN (kN K) S) (kn K) 0 0 (f_X0_addStrand v0 v1 v2 v3 S) := by
  unfold f_X0_addStrand
  refine J_aload_n X dX0_addStrand_0 (i := 0) rfl rfl ?_
  refine T_getI X (kf := 2) cb0 kv0 (by decide) fl_X0_52 (fun _ _ _ => rfl) dX0_addStrand_1 ?_
  refine J_bipush X (v := (8 : Int32)) dX0_addStrand_4 (by decide) ?_
  refine J_icmp_ge X (tgt := 55) dX0_addStrand_6 (by decide) ?_ ?_
  · exact T_vret w X dX0_addStrand_55
  · refine J_aload_n X dX0_addStrand_9 (i := 0) rfl rfl ?_
    refine T_getR X (kf := 8) cb0 kv0 (by decide) fl_X0_22 (fun _ _ _ => rfl) dX0_addStrand_10 ?_
    refine J_aload_n X dX0_addStrand_13 (i := 0) rfl rfl ?_
    refine T_getI X (kf := 2) cb0 kv0 (by decide) fl_X0_52 (fun _ _ _ => rfl) dX0_addStrand_14 ?_
    refine J_iload_n X dX0_addStrand_17 (i := 1) rfl rfl ?_
    refine T_iast X (w.1 _ _ kv0 8 _ rfl) dX0_addStrand_18 (fun j1 S2 hS2 => ?_)
    have wS2 : WT (kDn K) S2.2.2 := by rw [hS2]; exact w
    clear hS2
    refine J_aload_n X dX0_addStrand_19 (i := 0) rfl rfl ?_
    refine T_getR X (kf := 11) cb0 kv0 (by decide) fl_X0_38 (fun _ _ _ => rfl) dX0_addStrand_20 ?_
    refine T_getR X (kf := 0) cb5 (wS2.1 _ _ kv0 11 _ rfl) (by decide) fl_X0_66 (fun _ _ _ => rfl) dX0_addStrand_23 ?_
    refine J_bipush X (v := (28 : Int32)) dX0_addStrand_26 (by decide) ?_
    refine J_aload_n X dX0_addStrand_28 (i := 0) rfl rfl ?_
    refine T_getI X (kf := 2) cb0 kv0 (by decide) fl_X0_52 (fun _ _ _ => rfl) dX0_addStrand_29 ?_
    refine J_iadd X dX0_addStrand_32 ?_
    refine J_iload_n X dX0_addStrand_33 (i := 2) rfl rfl ?_
    refine T_iast X (wS2.1 _ _ (wS2.1 _ _ kv0 11 _ rfl) 0 _ rfl) dX0_addStrand_34 (fun j3 S4 hS4 => ?_)
    have wS4 : WT (kDn K) S4.2.2 := by rw [hS4]; exact wS2
    clear hS4
    refine J_aload_n X dX0_addStrand_35 (i := 0) rfl rfl ?_
    refine T_getR X (kf := 9) cb0 kv0 (by decide) fl_X0_25 (fun _ _ _ => rfl) dX0_addStrand_36 ?_
    refine J_aload_n X dX0_addStrand_39 (i := 0) rfl rfl ?_
    refine T_getI X (kf := 2) cb0 kv0 (by decide) fl_X0_52 (fun _ _ _ => rfl) dX0_addStrand_40 ?_
    refine J_iload_n X dX0_addStrand_43 (i := 3) rfl rfl ?_
    refine T_iast X (wS4.1 _ _ kv0 9 _ rfl) dX0_addStrand_44 (fun j5 S6 hS6 => ?_)
    have wS6 : WT (kDn K) S6.2.2 := by rw [hS6]; exact wS4
    clear hS6
    refine J_aload_n X dX0_addStrand_45 (i := 0) rfl rfl ?_
    refine J_dup X dX0_addStrand_46 rfl ?_
    refine T_getI X (kf := 2) cb0 kv0 (by decide) fl_X0_52 (fun _ _ _ => rfl) dX0_addStrand_47 ?_
    refine J_iconst X (v := (1 : Int32)) dX0_addStrand_50 (by decide) ?_
    refine J_iadd X dX0_addStrand_51 ?_
    refine T_putI X (kf := 2) cb0 kv0 (by decide) fl_X0_52 (fun _ _ _ => rfl) rfl rfl rfl dX0_addStrand_52 (fun S7 hS7 => ?_)
    have wS7 : WT (kDn K) S7.2.2 := by rw [hS7]; exact wS6
    clear hS7
    exact T_vret wS7 X dX0_addStrand_55
theorem C_X0_addStrand (G : GG) (v0 : Nat) (kv0 : KA (gD G) v0 (0, 0)) (v1 : Int32) (v2 : Int32) (v3 : Int32) (S : St) : CM G yX0_addStrand cX0_addStrand 4 none 0 [.ref v0, .int v1, .int v2, .int v3] S (fun _ : Unit => none) (f_X0_addStrand v0 v1 v2 v3 S) :=
  CM_of (by decide) (Nat.le_of_ble_eq_true rfl) rfl (fun K hG X hR w => by subst hG; exact t_X0_addStrand_0 X hR v0 kv0 v1 v2 v3 S w)
-- ==== X1_clearAll
theorem hy_X1_clearAll : yX1_clearAll.cls ≠ "java/lang/invoke/MethodHandle" ∧ yX1_clearAll.cls ≠ "java/lang/invoke/VarHandle" ∧ (parseMethodDescriptor yX1_clearAll.desc).map (fun d => d.parameters.length) = some 0 := by decide +kernel
set_option maxRecDepth 20000 in
def f_X1_clearAll (v0 : Nat) (S : St) : Option (Unit × St) := nm (sI S v0 2 (0 : Int32)) fun S1 => some ((), S1)
set_option maxRecDepth 20000 in
theorem t_X1_clearAll_0 {K : KK} (X : CX K cX1_clearAll 1 RX1 none) (hR : kR K = rmD 0) (v0 : Nat) (kv0 : KA (kDn K) v0 (0, 1)) (S : St) (w : WT (kDn K) S.2.2) : JX K (Zm K (fun _ : Unit => none)) 0 [some (.ref v0)] [] (rwN (kN K) S) (kn K) 0 0 (f_X1_clearAll v0 S) := by
  unfold f_X1_clearAll
  refine J_aload_n X dX1_clearAll_0 (i := 0) rfl rfl ?_
  refine J_iconst X (v := (0 : Int32)) dX1_clearAll_1 (by decide) ?_
  refine T_putI X (kf := 2) cb1 kv0 (by decide) fl_X1_18 (fun _ _ _ => rfl) rfl rfl rfl dX1_clearAll_2 (fun S1 hS1 => ?_)
  have wS1 : WT (kDn K) S1.2.2 := by rw [hS1]; exact w
  clear hS1
  exact T_vret wS1 X dX1_clearAll_5
theorem C_X1_clearAll (G : GG) (v0 : Nat) (kv0 : KA (gD G) v0 (0, 1)) (S : St) : CM G yX1_clearAll cX1_clearAll 1 none 0 [.ref v0] S (fun _ : Unit => none) (f_X1_clearAll v0 S) :=
  CM_of (by decide) (Nat.le_of_ble_eq_true rfl) rfl (fun K hG X hR w => by subst hG; exact t_X1_clearAll_0 X hR v0 kv0 S w)
-- ==== X5_copyFrom
theorem hy_X5_copyFrom : yX5_copyFrom.cls ≠ "java/lang/invoke/MethodHandle" ∧ yX5_copyFrom.cls ≠ "java/lang/invoke/VarHandle" ∧ (parseMethodDescriptor yX5_copyFrom.desc).map (fun d => d.parameters.length) = some 1 := by decide +kernel
set_option maxRecDepth 20000 in
def f_X5_copyFrom (v0 : Nat) (v1 : Nat) (S : St) : Option (Unit × St) := nm (cpI S (S.2.2 v1 0) (S.2.2 v0 0) 36) fun S1 => nm (sI S1 v0 1 (S1.1 v1 1)) fun S2 => nm (sI S2 v0 2 (S2.1 v1 2)) fun S3 => nm (sI S3 v0 3 (S3.1 v1 3)) fun S4 => nm (sI S4 v0 4 (S4.1 v1 4)) fun S5 => some ((), S5)
set_option maxRecDepth 20000 in
theorem t_X5_copyFrom_0 {K : KK} (X : CX K cX5_copyFrom 2 RX5 none) (hR : kR K = rmD 1) (v0 : Nat) (kv0 : KA (kDn K) v0 (0, 5)) (v1 : Nat) (kv1 : KA (kDn K) v1 (0, 5)) (S : St) (w : WT (kDn K) S.2.2) : JX K (Zm K (fun _ : Unit => none)) 0 [some (.ref v0), some (.ref v1)] [] (rwN (kN K) S) (kn K) 0 0 (f_X5_copyFrom v0 v1 S) := by
  unfold f_X5_copyFrom
  refine J_aload_n X dX5_copyFrom_0 (i := 1) rfl rfl ?_
  refine T_getR X (kf := 0) cb5 kv1 (by decide) fl_X5_9 (fun _ _ _ => rfl) dX5_copyFrom_1 ?_
  refine J_iconst X (v := (0 : Int32)) dX5_copyFrom_4 (by decide) ?_
  refine J_aload_n X dX5_copyFrom_5 (i := 0) rfl rfl ?_
  refine T_getR X (kf := 0) cb5 kv0 (by decide) fl_X5_9 (fun _ _ _ => rfl) dX5_copyFrom_6 ?_
  refine J_iconst X (v := (0 : Int32)) dX5_copyFrom_9 (by decide) ?_
  refine J_bipush X (v := (36 : Int32)) dX5_copyFrom_10 (by decide) ?_
  refine T_acopy X (m := 36) (w.1 _ _ kv1 0 _ rfl) (w.1 _ _ kv0 0 _ rfl) ml_X5_15 na_arraycopyName st_arraycopyName ii_java_lang_System (by decide) (by decide) (by decide) (by decide) ⟨by rw [hR]; exact Nat.le_of_ble_eq_true rfl, by rw [hR]; exact Nat.le_of_ble_eq_true rfl⟩ (Nat.le_of_ble_eq_true rfl) dX5_copyFrom_12 (fun S1 hS1 => ?_)
  have wS1 : WT (kDn K) S1.2.2 := by rw [hS1]; exact w
  clear hS1
  refine J_aload_n X dX5_copyFrom_15 (i := 0) rfl rfl ?_
  refine J_aload_n X dX5_copyFrom_16 (i := 1) rfl rfl ?_
  refine T_getI X (kf := 1) cb5 kv1 (by decide) fl_X5_21 (fun _ _ _ => rfl) dX5_copyFrom_17 ?_
  refine T_putI X (kf := 1) cb5 kv0 (by decide) fl_X5_21 (fun _ _ _ => rfl) rfl rfl rfl dX5_copyFrom_20 (fun S2 hS2 => ?_)
  have wS2 : WT (kDn K) S2.2.2 := by rw [hS2]; exact wS1
  clear hS2
  refine J_aload_n X dX5_copyFrom_23 (i := 0) rfl rfl ?_
  refine J_aload_n X dX5_copyFrom_24 (i := 1) rfl rfl ?_
  refine T_getI X (kf := 2) cb5 kv1 (by decide) fl_X5_25 (fun _ _ _ => rfl) dX5_copyFrom_25 ?_
  refine T_putI X (kf := 2) cb5 kv0 (by decide) fl_X5_25 (fun _ _ _ => rfl) rfl rfl rfl dX5_copyFrom_28 (fun S3 hS3 => ?_)
  have wS3 : WT (kDn K) S3.2.2 := by rw [hS3]; exact wS2
  clear hS3
  refine J_aload_n X dX5_copyFrom_31 (i := 0) rfl rfl ?_
  refine J_aload_n X dX5_copyFrom_32 (i := 1) rfl rfl ?_
  refine T_getI X (kf := 3) cb5 kv1 (by decide) fl_X5_28 (fun _ _ _ => rfl) dX5_copyFrom_33 ?_
  refine T_putI X (kf := 3) cb5 kv0 (by decide) fl_X5_28 (fun _ _ _ => rfl) rfl rfl rfl dX5_copyFrom_36 (fun S4 hS4 => ?_)
  have wS4 : WT (kDn K) S4.2.2 := by rw [hS4]; exact wS3
  clear hS4
  refine J_aload_n X dX5_copyFrom_39 (i := 0) rfl rfl ?_
  refine J_aload_n X dX5_copyFrom_40 (i := 1) rfl rfl ?_
  refine T_getI X (kf := 4) cb5 kv1 (by decide) fl_X5_31 (fun _ _ _ => rfl) dX5_copyFrom_41 ?_
  refine T_putI X (kf := 4) cb5 kv0 (by decide) fl_X5_31 (fun _ _ _ => rfl) rfl rfl rfl dX5_copyFrom_44 (fun S5 hS5 => ?_)
  have wS5 : WT (kDn K) S5.2.2 := by rw [hS5]; exact wS4
  clear hS5
  exact T_vret wS5 X dX5_copyFrom_47
theorem C_X5_copyFrom (G : GG) (v0 : Nat) (kv0 : KA (gD G) v0 (0, 5)) (v1 : Nat) (kv1 : KA (gD G) v1 (0, 5)) (S : St) : CM G yX5_copyFrom cX5_copyFrom 2 none 1 [.ref v0, .ref v1] S (fun _ : Unit => none) (f_X5_copyFrom v0 v1 S) :=
  CM_of (by decide) (Nat.le_of_ble_eq_true rfl) rfl (fun K hG X hR w => by subst hG; exact t_X5_copyFrom_0 X hR v0 kv0 v1 kv1 S w)
-- ==== X1_keep
theorem hy_X1_keep : yX1_keep.cls ≠ "java/lang/invoke/MethodHandle" ∧ yX1_keep.cls ≠ "java/lang/invoke/VarHandle" ∧ (parseMethodDescriptor yX1_keep.desc).map (fun d => d.parameters.length) = some 1 := by decide +kernel
set_option maxRecDepth 20000 in
def f_X1_keep (v0 : Nat) (v1 : Nat) (S : St) : Option (Unit × St) := (ix (S.1 v0 1) 40).bind fun j1 => bd (f_X5_copyFrom (S.2.2 (S.2.2 v0 0) j1) v1 S) fun _ S2 => nm (sI S2 v0 1 (((S2.1 v0 1) + (1 : Int32)) - ((S2.1 v0 1) + (1 : Int32)) / (40 : Int32) * (40 : Int32))) fun S4 => nm (sI S4 v0 2 (mnI ((S4.1 v0 2) + (1 : Int32)) (40 : Int32))) fun S5 => some ((), S5)
set_option maxRecDepth 20000 in
theorem t_X1_keep_0 {K : KK} (X : CX K cX1_keep 2 RX1 none) (hR : kR K = rmD 2) (v0 : Nat) (kv0 : KA (kDn K) v0 (0, 1)) (v1 : Nat) (kv1 : KA (kDn K) v1 (0, 5)) (S : St) (w : WT (kDn K) S.2.2) : JX K (Zm K (fun _ : Unit => none)) 0 [some (.ref v0), some (.ref v1)] [] (rwN (kN K) S) (kn K) 0 0 (f_X1_keep v0 v1 S) := by
  unfold f_X1_keep
  refine J_aload_n X dX1_keep_0 (i := 0) rfl rfl ?_
  refine T_getR X (kf := 0) cb1 kv0 (by decide) fl_X1_11 (fun _ _ _ => rfl) dX1_keep_1 ?_
  refine J_aload_n X dX1_keep_4 (i := 0) rfl rfl ?_
  refine T_getI X (kf := 1) cb1 kv0 (by decide) fl_X1_22 (fun _ _ _ => rfl) dX1_keep_5 ?_
  refine T_aald w X (w.1 _ _ kv0 0 _ rfl) dX1_keep_8 (fun j1 kj1 => ?_)
  refine J_aload_n X dX1_keep_9 (i := 1) rfl rfl ?_
  refine T_callV (As := [.ref v1]) w X (C_X5_copyFrom (kG K) (S.2.2 (S.2.2 v0 0) j1) kj1 v1 kv1 S) cb5 kj1 ml_X1_25 in_yX5_copyFrom se_yX5_copyFrom ii_RX5 co_yX5_copyFrom hy_X5_copyFrom (hRd hR (by decide) (by decide)) rfl (Nat.le_of_ble_eq_true rfl) dX1_keep_10 (fun _ S2 _ wS2 => ?_)
  refine J_aload_n X dX1_keep_13 (i := 0) rfl rfl ?_
  refine J_aload_n X dX1_keep_14 (i := 0) rfl rfl ?_
  refine T_getI X (kf := 1) cb1 kv0 (by decide) fl_X1_22 (fun _ _ _ => rfl) dX1_keep_15 ?_
  refine J_iconst X (v := (1 : Int32)) dX1_keep_18 (by decide) ?_
  refine J_iadd X dX1_keep_19 ?_
  refine J_bipush X (v := (40 : Int32)) dX1_keep_20 (by decide) ?_
  refine J_iremc X dX1_keep_22 (by decide) ?_
  refine T_putI X (kf := 1) cb1 kv0 (by decide) fl_X1_22 (fun _ _ _ => rfl) rfl rfl rfl dX1_keep_23 (fun S4 hS4 => ?_)
  have wS4 : WT (kDn K) S4.2.2 := by rw [hS4]; exact wS2
  clear hS4
  refine J_aload_n X dX1_keep_26 (i := 0) rfl rfl ?_
  refine J_aload_n X dX1_keep_27 (i := 0) rfl rfl ?_
  refine T_getI X (kf := 2) cb1 kv0 (by decide) fl_X1_18 (fun _ _ _ => rfl) dX1_keep_28 ?_
  refine J_iconst X (v := (1 : Int32)) dX1_keep_31 (by decide) ?_
  refine J_iadd X dX1_keep_32 ?_
  refine J_bipush X (v := (40 : Int32)) dX1_keep_33 (by decide) ?_
  refine T_mmin X ml_X1_29 st_Lib_Math_min_name ii_java_lang_Math co_Lib_Math_min_name ⟨by rw [hR]; exact Nat.le_of_ble_eq_true rfl, by rw [hR]; exact Nat.le_of_ble_eq_true rfl⟩ (Nat.le_of_ble_eq_true rfl) dX1_keep_35 ?_
  refine T_putI X (kf := 2) cb1 kv0 (by decide) fl_X1_18 (fun _ _ _ => rfl) rfl rfl rfl dX1_keep_38 (fun S5 hS5 => ?_)
  have wS5 : WT (kDn K) S5.2.2 := by rw [hS5]; exact wS4
  clear hS5
  exact T_vret wS5 X dX1_keep_41
theorem C_X1_keep (G : GG) (v0 : Nat) (kv0 : KA (gD G) v0 (0, 1)) (v1 : Nat) (kv1 : KA (gD G) v1 (0, 5)) (S : St) : CM G yX1_keep cX1_keep 2 none 2 [.ref v0, .ref v1] S (fun _ : Unit => none) (f_X1_keep v0 v1 S) :=
  CM_of (by decide) (Nat.le_of_ble_eq_true rfl) rfl (fun K hG X hR w => by subst hG; exact t_X1_keep_0 X hR v0 kv0 v1 kv1 S w)
-- ==== X1_takeBackInto
theorem hy_X1_takeBackInto : yX1_takeBackInto.cls ≠ "java/lang/invoke/MethodHandle" ∧ yX1_takeBackInto.cls ≠ "java/lang/invoke/VarHandle" ∧ (parseMethodDescriptor yX1_takeBackInto.desc).map (fun d => d.parameters.length) = some 1 := by decide +kernel
set_option maxRecDepth 20000 in
def f_X1_takeBackInto (v0 : Nat) (v1 : Nat) (S : St) : Option (Int32 × St) := if (S.1 v0 2) = 0 then (some ((0 : Int32), S)) else (nm (sI S v0 2 ((S.1 v0 2) - (1 : Int32))) fun S1 => nm (sI S1 v0 1 ((((S1.1 v0 1) + (40 : Int32)) - (1 : Int32)) - (((S1.1 v0 1) + (40 : Int32)) - (1 : Int32)) / (40 : Int32) * (40 : Int32))) fun S2 => (ix (S2.1 v0 1) 40).bind fun j3 => bd (f_X5_copyFrom v1 (S2.2.2 (S2.2.2 v0 0) j3) S2) fun _ S4 => some ((1 : Int32), S4))
set_option maxRecDepth 20000 in
theorem t_X1_takeBackInto_0 {K : KK} (X : CX K cX1_takeBackInto 2 RX1 (some .boolean)) (hR : kR K = rmD 2) (v0 : Nat) (kv0 : KA (kDn K) v0 (0, 1)) (v1 : Nat) (kv1 : KA (kDn K) v1 (0, 5)) (S : St) (w : WT (kDn K) S.2.2) : JX K (Zm K (fun v : Int32 => some (.int v))) 0 [some (.ref v0), some (.ref v1)] [] (rwN (kN K) S) (kn K) 0 0 (f_X1_takeBackInto v0 v1 S) := by
  unfold f_X1_takeBackInto
  refine J_aload_n X dX1_takeBackInto_0 (i := 0) rfl rfl ?_
  refine T_getI X (kf := 2) cb1 kv0 (by decide) fl_X1_18 (fun _ _ _ => rfl) dX1_takeBackInto_1 ?_
  refine J_if_ne X (tgt := 9) dX1_takeBackInto_4 (by decide) ?_ ?_
  · refine J_iconst X (v := (0 : Int32)) dX1_takeBackInto_7 (by decide) ?_
    exact T_zret w X (by decide) dX1_takeBackInto_8
  · refine J_aload_n X dX1_takeBackInto_9 (i := 0) rfl rfl ?_
    refine J_dup X dX1_takeBackInto_10 rfl ?_
    refine T_getI X (kf := 2) cb1 kv0 (by decide) fl_X1_18 (fun _ _ _ => rfl) dX1_takeBackInto_11 ?_
    refine J_iconst X (v := (1 : Int32)) dX1_takeBackInto_14 (by decide) ?_
    refine J_isub X dX1_takeBackInto_15 ?_
    refine T_putI X (kf := 2) cb1 kv0 (by decide) fl_X1_18 (fun _ _ _ => rfl) rfl rfl rfl dX1_takeBackInto_16 (fun S1 hS1 => ?_)
    have wS1 : WT (kDn K) S1.2.2 := by rw [hS1]; exact w
    clear hS1
    refine J_aload_n X dX1_takeBackInto_19 (i := 0) rfl rfl ?_
    refine J_aload_n X dX1_takeBackInto_20 (i := 0) rfl rfl ?_
    refine T_getI X (kf := 1) cb1 kv0 (by decide) fl_X1_22 (fun _ _ _ => rfl) dX1_takeBackInto_21 ?_
    refine J_bipush X (v := (40 : Int32)) dX1_takeBackInto_24 (by decide) ?_
    refine J_iadd X dX1_takeBackInto_26 ?_
    refine J_iconst X (v := (1 : Int32)) dX1_takeBackInto_27 (by decide) ?_
    refine J_isub X dX1_takeBackInto_28 ?_
    refine J_bipush X (v := (40 : Int32)) dX1_takeBackInto_29 (by decide) ?_
    refine J_iremc X dX1_takeBackInto_31 (by decide) ?_
    refine T_putI X (kf := 1) cb1 kv0 (by decide) fl_X1_22 (fun _ _ _ => rfl) rfl rfl rfl dX1_takeBackInto_32 (fun S2 hS2 => ?_)
    have wS2 : WT (kDn K) S2.2.2 := by rw [hS2]; exact wS1
    clear hS2
    refine J_aload_n X dX1_takeBackInto_35 (i := 1) rfl rfl ?_
    refine J_aload_n X dX1_takeBackInto_36 (i := 0) rfl rfl ?_
    refine T_getR X (kf := 0) cb1 kv0 (by decide) fl_X1_11 (fun _ _ _ => rfl) dX1_takeBackInto_37 ?_
    refine J_aload_n X dX1_takeBackInto_40 (i := 0) rfl rfl ?_
    refine T_getI X (kf := 1) cb1 kv0 (by decide) fl_X1_22 (fun _ _ _ => rfl) dX1_takeBackInto_41 ?_
    refine T_aald wS2 X (wS2.1 _ _ kv0 0 _ rfl) dX1_takeBackInto_44 (fun j3 kj3 => ?_)
    refine T_callV (As := [.ref (S2.2.2 (S2.2.2 v0 0) j3)]) wS2 X (C_X5_copyFrom (kG K) v1 kv1 (S2.2.2 (S2.2.2 v0 0) j3) kj3 S2) cb5 kv1 ml_X1_25 in_yX5_copyFrom se_yX5_copyFrom ii_RX5 co_yX5_copyFrom hy_X5_copyFrom (hRd hR (by decide) (by decide)) rfl (Nat.le_of_ble_eq_true rfl) dX1_takeBackInto_45 (fun _ S4 _ wS4 => ?_)
    refine J_iconst X (v := (1 : Int32)) dX1_takeBackInto_48 (by decide) ?_
    exact T_zret wS4 X (by decide) dX1_takeBackInto_49
theorem C_X1_takeBackInto (G : GG) (v0 : Nat) (kv0 : KA (gD G) v0 (0, 1)) (v1 : Nat) (kv1 : KA (gD G) v1 (0, 5)) (S : St) : CM G yX1_takeBackInto cX1_takeBackInto 2 (some .boolean) 2 [.ref v0, .ref v1] S (fun v : Int32 => some (.int v)) (f_X1_takeBackInto v0 v1 S) :=
  CM_of (by decide) (Nat.le_of_ble_eq_true rfl) rfl (fun K hG X hR w => by subst hG; exact t_X1_takeBackInto_0 X hR v0 kv0 v1 kv1 S w)
-- ==== X2_joined
theorem hy_X2_joined : yX2_joined.cls ≠ "java/lang/invoke/MethodHandle" ∧ yX2_joined.cls ≠ "java/lang/invoke/VarHandle" ∧ (parseMethodDescriptor yX2_joined.desc).map (fun d => d.parameters.length) = some 3 := by decide +kernel
set_option maxRecDepth 20000 in
def f_X2_joined (v0 : Nat) (v1 : Int32) (v2 : Int32) (v3 : Int32) (S : St) : Option (Int32 × St) := if v1 = (42 : Int32) then (some (v2 * v3, S)) else if v1 = (43 : Int32) then (some (v2 + v3, S)) else if v1 = (45 : Int32) then (some (v2 - v3, S)) else (if v3 = 0 then (nm (sI S v0 6 (1 : Int32)) fun S1 => some ((0 : Int32), S1)) else (if v3 = 0 then none else some (v2 / v3, S)))
set_option maxRecDepth 20000 in
theorem t_X2_joined_0 {K : KK} (X : CX K cX2_joined 4 RX2 (some .int)) (hR : kR K = rmD 0) (v0 : Nat) (kv0 : KA (kDn K) v0 (0, 2)) (v1 : Int32) (v2 : Int32) (v3 : Int32) (S : St) (w : WT (kDn K) S.2.2) : JX K (Zm K (fun v : Int32 => some (.int v))) 0 [some (.ref v0), some (.int v1), some (.int v2), some (.int v3)] [] (rwN (kN K) S) (kn K) 0 0 (f_X2_joined v0 v1 v2 v3 S) := by
  unfold f_X2_joined
  refine J_iload_n X dX2_joined_0 (i := 1) rfl rfl ?_
  refine J_ite (fun hc1_42 => ?_) (fun hc1_42 => ?_)
  · refine J_tabIn X (v := (42 : Int32)) (off := 39) (tgt := 40) hc1_42 dX2_joined_1 (by decide) (by decide) (by decide) (by decide) ?_
    refine J_iload_n X dX2_joined_40 (i := 2) rfl rfl ?_
    refine J_iload_n X dX2_joined_41 (i := 3) rfl rfl ?_
    refine J_imul X dX2_joined_42 ?_
    exact T_iret w X dX2_joined_43
  refine J_ite (fun hc1_43 => ?_) (fun hc1_43 => ?_)
  · refine J_tabIn X (v := (43 : Int32)) (off := 31) (tgt := 32) hc1_43 dX2_joined_1 (by decide) (by decide) (by decide) (by decide) ?_
    refine J_iload_n X dX2_joined_32 (i := 2) rfl rfl ?_
    refine J_iload_n X dX2_joined_33 (i := 3) rfl rfl ?_
    refine J_iadd X dX2_joined_34 ?_
    exact T_iret w X dX2_joined_35
  refine J_ite (fun hc1_45 => ?_) (fun hc1_45 => ?_)
  · refine J_tabIn X (v := (45 : Int32)) (off := 35) (tgt := 36) hc1_45 dX2_joined_1 (by decide) (by decide) (by decide) (by decide) ?_
    refine J_iload_n X dX2_joined_36 (i := 2) rfl rfl ?_
    refine J_iload_n X dX2_joined_37 (i := 3) rfl rfl ?_
    refine J_isub X dX2_joined_38 ?_
    exact T_iret w X dX2_joined_39
  by_cases hd1_44 : v1 = (44 : Int32)
  · refine J_tabIn X (v := (44 : Int32)) (off := 43) (tgt := 44) hd1_44 dX2_joined_1 (by decide) (by decide) (by decide) (by decide) ?_
    refine J_iload_n X dX2_joined_44 (i := 3) rfl rfl ?_
    refine J_if_ne X (tgt := 55) dX2_joined_45 (by decide) ?_ ?_
    · refine J_aload_n X dX2_joined_48 (i := 0) rfl rfl ?_
      refine J_iconst X (v := (1 : Int32)) dX2_joined_49 (by decide) ?_
      refine T_putI X (kf := 6) cb2 kv0 (by decide) fl_X2_48 (fun _ _ _ => rfl) rfl (by first | rfl | decide) (by first | rfl | decide) dX2_joined_50 (fun S1 hS1 => ?_)
      have wS1 : WT (kDn K) S1.2.2 := by rw [hS1]; exact w
      clear hS1
      refine J_iconst X (v := (0 : Int32)) dX2_joined_53 (by decide) ?_
      exact T_iret wS1 X dX2_joined_54
    · refine J_iload_n X dX2_joined_55 (i := 2) rfl rfl ?_
      refine J_iload_n X dX2_joined_56 (i := 3) rfl rfl ?_
      refine J_idiv X dX2_joined_57 ?_
      exact T_iret w X dX2_joined_58
  have nhc1_42 := tabne hc1_42 (k := 42) (by decide)
  have nhc1_43 := tabne hc1_43 (k := 43) (by decide)
  have nhc1_45 := tabne hc1_45 (k := 45) (by decide)
  have nhd1_44 := tabne hd1_44 (k := 44) (by decide)
  refine J_tabOut X (tgt := 44) dX2_joined_1 (tabout 42 45 (fun v h1 h2 => by omega)) (by decide) ?_
  refine J_iload_n X dX2_joined_44 (i := 3) rfl rfl ?_
  refine J_if_ne X (tgt := 55) dX2_joined_45 (by decide) ?_ ?_
  · refine J_aload_n X dX2_joined_48 (i := 0) rfl rfl ?_
    refine J_iconst X (v := (1 : Int32)) dX2_joined_49 (by decide) ?_
    refine T_putI X (kf := 6) cb2 kv0 (by decide) fl_X2_48 (fun _ _ _ => rfl) rfl (by first | rfl | decide) (by first | rfl | decide) dX2_joined_50 (fun S1 hS1 => ?_)
    have wS1 : WT (kDn K) S1.2.2 := by rw [hS1]; exact w
    clear hS1
    refine J_iconst X (v := (0 : Int32)) dX2_joined_53 (by decide) ?_
    exact T_iret wS1 X dX2_joined_54
  · refine J_iload_n X dX2_joined_55 (i := 2) rfl rfl ?_
    refine J_iload_n X dX2_joined_56 (i := 3) rfl rfl ?_
    refine J_idiv X dX2_joined_57 ?_
    exact T_iret w X dX2_joined_58
theorem C_X2_joined (G : GG) (v0 : Nat) (kv0 : KA (gD G) v0 (0, 2)) (v1 : Int32) (v2 : Int32) (v3 : Int32) (S : St) : CM G yX2_joined cX2_joined 4 (some .int) 0 [.ref v0, .int v1, .int v2, .int v3] S (fun v : Int32 => some (.int v)) (f_X2_joined v0 v1 v2 v3 S) :=
  CM_of (by decide) (Nat.le_of_ble_eq_true rfl) rfl (fun K hG X hR w => by subst hG; exact t_X2_joined_0 X hR v0 kv0 v1 v2 v3 S w)
-- ==== X2_valueOf
theorem hy_X2_valueOf : yX2_valueOf.cls ≠ "java/lang/invoke/MethodHandle" ∧ yX2_valueOf.cls ≠ "java/lang/invoke/VarHandle" ∧ (parseMethodDescriptor yX2_valueOf.desc).map (fun d => d.parameters.length) = some 2 := by decide +kernel
set_option maxRecDepth 20000 in
def b_X2_valueOf_177 (v0 : Nat) (S : St) : Option (Int32 × St) := (ix (0 : Int32) 15).bind fun j1 => some (S.1 (S.2.2 v0 5) j1, S)
set_option maxRecDepth 20000 in
theorem t_X2_valueOf_177 {K : KK} (X : CX K cX2_valueOf 7 RX2 (some .int)) (hR : kR K = rmD 1) (v0 : Nat) (kv0 : KA (kDn K) v0 (0, 2)) (S : St) (w : WT (kDn K) S.2.2) : JX K (Zm K (fun v : Int32 => some (.int v))) 177 [some (.ref v0), none, none, none, none, none, none] [] (rwN (kN K) S) (kn K) 0 0 (b_X2_valueOf_177 v0 S) := by
  unfold b_X2_valueOf_177
  refine J_aload_n X dX2_valueOf_177 (i := 0) rfl rfl ?_
  refine T_getR X (kf := 5) cb2 kv0 (by decide) fl_X2_24 (fun _ _ _ => rfl) dX2_valueOf_178 ?_
  refine J_iconst X (v := (0 : Int32)) dX2_valueOf_181 (by decide) ?_
  refine T_iald X (w.1 _ _ kv0 5 _ rfl) dX2_valueOf_182 (fun j1 => ?_)
  exact T_iret w X dX2_valueOf_183
set_option maxRecDepth 20000 in
def b_X2_valueOf_171 (q42 : Nat → Int32 → Int32 → Int32 → St → Option (Int32 × St)) (v0 : Nat) (v3 : Int32) (v4 : Int32) (v5 : Int32) (S : St) : Option (Int32 × St) := nm (v5 + (1 : Int32)) fun x1 => q42 v0 v3 v4 x1 S
set_option maxRecDepth 20000 in
theorem t_X2_valueOf_171 {K : KK} (X : CX K cX2_valueOf 7 RX2 (some .int)) (hR : kR K = rmD 1) {q42 : Nat → Int32 → Int32 → Int32 → St → Option (Int32 × St)} (hq42 : ∀ (v0 : Nat) (kv0 : KA (kDn K) v0 (0, 2)) (v3 : Int32) (v4 : Int32) (v5 : Int32) (S : St), WT (kDn K) S.2.2 → JX K (Zm K (fun v : Int32 => some (.int v))) 42 [some (.ref v0), none, none, some (.int v3), some (.int v4), some (.int v5), none] [] (rwN (kN K) S) (kn K) 0 0 (q42 v0 v3 v4 v5 S)) (v0 : Nat) (kv0 : KA (kDn K) v0 (0, 2)) (v3 : Int32) (v4 : Int32) (v5 : Int32) (S : St) (w : WT (kDn K) S.2.2) : JX K (Zm K (fun v : Int32 => some (.int v))) 171 [some (.ref v0), none, none, some (.int v3), some (.int v4), some (.int v5), none] [] (rwN (kN K) S) (kn K) 0 0 (b_X2_valueOf_171 q42 v0 v3 v4 v5 S) := by
  unfold b_X2_valueOf_171
  refine J_nmv (v5 + (1 : Int32)) (fun x1 ex1 => ?_)
  refine J_iinc X (v := x1) (ls' := [some (.ref v0), none, none, some (.int v3), some (.int v4), some (.int x1), none]) dX2_valueOf_171 (by decide) rfl (by rw [ex1]; rfl) rfl ?_
  refine J_goto X (tgt := 42) dX2_valueOf_174 (by decide) ?_
  exact hq42 v0 kv0 v3 v4 x1 S w
set_option maxRecDepth 20000 in
def b_X2_valueOf_167 (q42 : Nat → Int32 → Int32 → Int32 → St → Option (Int32 × St)) (v0 : Nat) (v3 : Int32) (v4 : Int32) (v5 : Int32) (s0 : Nat) (s1 : Int32) (s2 : Int32) (S : St) : Option (Int32 × St) := (ix s1 15).bind fun j1 => nm (sI S s0 j1 s2) fun S2 => nm (v4 + (1 : Int32)) fun x3 => b_X2_valueOf_171 q42 v0 v3 x3 v5 S2
set_option maxRecDepth 20000 in
theorem t_X2_valueOf_167 {K : KK} (X : CX K cX2_valueOf 7 RX2 (some .int)) (hR : kR K = rmD 1) {q42 : Nat → Int32 → Int32 → Int32 → St → Option (Int32 × St)} (hq42 : ∀ (v0 : Nat) (kv0 : KA (kDn K) v0 (0, 2)) (v3 : Int32) (v4 : Int32) (v5 : Int32) (S : St), WT (kDn K) S.2.2 → JX K (Zm K (fun v : Int32 => some (.int v))) 42 [some (.ref v0), none, none, some (.int v3), some (.int v4), some (.int v5), none] [] (rwN (kN K) S) (kn K) 0 0 (q42 v0 v3 v4 v5 S)) (v0 : Nat) (kv0 : KA (kDn K) v0 (0, 2)) (v3 : Int32) (v4 : Int32) (v5 : Int32) (s0 : Nat) (ks0 : KA (kDn K) s0 (1, 15)) (s1 : Int32) (s2 : Int32) (S : St) (w : WT (kDn K) S.2.2) : JX K (Zm K (fun v : Int32 => some (.int v))) 167 [some (.ref v0), none, none, some (.int v3), some (.int v4), some (.int v5), none] [.int s2, .int s1, .ref s0] (rwN (kN K) S) (kn K) 0 0 (b_X2_valueOf_167 q42 v0 v3 v4 v5 s0 s1 s2 S) := by
  unfold b_X2_valueOf_167
  refine T_iast X ks0 dX2_valueOf_167 (fun j1 S2 hS2 => ?_)
  have wS2 : WT (kDn K) S2.2.2 := by rw [hS2]; exact w
  clear hS2
  refine J_nmv (v4 + (1 : Int32)) (fun x3 ex3 => ?_)
  refine J_iinc X (v := x3) (ls' := [some (.ref v0), none, none, some (.int v3), some (.int x3), some (.int v5), none]) dX2_valueOf_168 (by decide) rfl (by rw [ex3]; rfl) rfl ?_
  exact t_X2_valueOf_171 X hR hq42 v0 kv0 v3 x3 v5 S2 wS2
set_option maxRecDepth 20000 in
def b_X2_valueOf_122 (q42 : Nat → Int32 → Int32 → Int32 → St → Option (Int32 × St)) (v0 : Nat) (v3 : Int32) (v4 : Int32) (v5 : Int32) (v6 : Int32) (S : St) : Option (Int32 × St) := if (20000 : Int32) ≤ v6 then (b_X2_valueOf_171 q42 v0 v3 v4 v5 S) else (if (15 : Int32) ≤ v4 then (b_X2_valueOf_171 q42 v0 v3 v4 v5 S) else (if v6 < (10000 : Int32) then (b_X2_valueOf_167 q42 v0 v3 v4 v5 (S.2.2 v0 5) v4 v6 S) else ((ix (v6 - (10000 : Int32)) 9).bind fun j1 => b_X2_valueOf_167 q42 v0 v3 v4 v5 (S.2.2 v0 5) v4 (S.1 (S.2.2 v0 0) j1) S)))
set_option maxRecDepth 20000 in
theorem t_X2_valueOf_122 {K : KK} (X : CX K cX2_valueOf 7 RX2 (some .int)) (hR : kR K = rmD 1) {q42 : Nat → Int32 → Int32 → Int32 → St → Option (Int32 × St)} (hq42 : ∀ (v0 : Nat) (kv0 : KA (kDn K) v0 (0, 2)) (v3 : Int32) (v4 : Int32) (v5 : Int32) (S : St), WT (kDn K) S.2.2 → JX K (Zm K (fun v : Int32 => some (.int v))) 42 [some (.ref v0), none, none, some (.int v3), some (.int v4), some (.int v5), none] [] (rwN (kN K) S) (kn K) 0 0 (q42 v0 v3 v4 v5 S)) (v0 : Nat) (kv0 : KA (kDn K) v0 (0, 2)) (v3 : Int32) (v4 : Int32) (v5 : Int32) (v6 : Int32) (S : St) (w : WT (kDn K) S.2.2) : JX K (Zm K (fun v : Int32 => some (.int v))) 122 [some (.ref v0), none, none, some (.int v3), some (.int v4), some (.int v5), some (.int v6)] [] (rwN (kN K) S) (kn K) 0 0 (b_X2_valueOf_122 q42 v0 v3 v4 v5 v6 S) := by
  unfold b_X2_valueOf_122
  refine J_iload X dX2_valueOf_122 rfl ?_
  refine J_sipush X (v := (20000 : Int32)) dX2_valueOf_124 (by decide) ?_
  refine J_icmp_ge X (tgt := 171) dX2_valueOf_127 (by decide) ?_ ?_
  · refine J_mask [true, false, false, true, true, true, false] ?_
    exact t_X2_valueOf_171 X hR hq42 v0 kv0 v3 v4 v5 S w
  · refine J_iload X dX2_valueOf_130 rfl ?_
    refine J_bipush X (v := (15 : Int32)) dX2_valueOf_132 (by decide) ?_
    refine J_icmp_ge X (tgt := 171) dX2_valueOf_134 (by decide) ?_ ?_
    · refine J_mask [true, false, false, true, true, true, false] ?_
      exact t_X2_valueOf_171 X hR hq42 v0 kv0 v3 v4 v5 S w
    · refine J_aload_n X dX2_valueOf_137 (i := 0) rfl rfl ?_
      refine T_getR X (kf := 5) cb2 kv0 (by decide) fl_X2_24 (fun _ _ _ => rfl) dX2_valueOf_138 ?_
      refine J_iload X dX2_valueOf_141 rfl ?_
      refine J_iload X dX2_valueOf_143 rfl ?_
      refine J_sipush X (v := (10000 : Int32)) dX2_valueOf_145 (by decide) ?_
      refine J_icmp_lt X (tgt := 165) dX2_valueOf_148 (by decide) ?_ ?_
      · refine J_iload X dX2_valueOf_165 rfl ?_
        refine J_mask [true, false, false, true, true, true, false] ?_
        exact t_X2_valueOf_167 X hR hq42 v0 kv0 v3 v4 v5 (S.2.2 v0 5) (w.1 _ _ kv0 5 _ rfl) v4 v6 S w
      · refine J_aload_n X dX2_valueOf_151 (i := 0) rfl rfl ?_
        refine T_getR X (kf := 0) cb2 kv0 (by decide) fl_X2_9 (fun _ _ _ => rfl) dX2_valueOf_152 ?_
        refine J_iload X dX2_valueOf_155 rfl ?_
        refine J_sipush X (v := (10000 : Int32)) dX2_valueOf_157 (by decide) ?_
        refine J_isub X dX2_valueOf_160 ?_
        refine T_iald X (w.1 _ _ kv0 0 _ rfl) dX2_valueOf_161 (fun j1 => ?_)
        refine J_goto X (tgt := 167) dX2_valueOf_162 (by decide) ?_
        refine J_mask [true, false, false, true, true, true, false] ?_
        exact t_X2_valueOf_167 X hR hq42 v0 kv0 v3 v4 v5 (S.2.2 v0 5) (w.1 _ _ kv0 5 _ rfl) v4 (S.1 (S.2.2 v0 0) j1) S w
set_option maxRecDepth 20000 in
def b_X2_valueOf_42 : Nat → Nat → Int32 → Int32 → Int32 → St → Option (Int32 × St)
  | 0, _, _, _, _, _ => none
  | fu + 1, v0, v3, v4, v5, S => if v3 ≤ v5 then (b_X2_valueOf_177 v0 S) else (if (Int32.ofNat 404) ≤ v5 then (b_X2_valueOf_177 v0 S) else ((ix v5 404).bind fun j1 => nm (S.1 (S.2.2 v0 1) j1) fun x2 => if x2 < (20000 : Int32) then (b_X2_valueOf_122 (b_X2_valueOf_42 fu) v0 v3 v4 v5 x2 S) else (if v4 < (2 : Int32) then (b_X2_valueOf_122 (b_X2_valueOf_42 fu) v0 v3 v4 v5 x2 S) else (nm (v4 + (-1 : Int32)) fun x3 => (ix (x3 - (1 : Int32)) 15).bind fun j4 => (ix x3 15).bind fun j5 => bd (f_X2_joined v0 (x2 - (20000 : Int32)) (S.1 (S.2.2 v0 5) j4) (S.1 (S.2.2 v0 5) j5) S) fun r7 S6 => (ix (x3 - (1 : Int32)) 15).bind fun j8 => nm (sI S6 (S.2.2 v0 5) j8 r7) fun S9 => b_X2_valueOf_171 (b_X2_valueOf_42 fu) v0 v3 x3 v5 S9))))
set_option maxRecDepth 20000 in
theorem t_X2_valueOf_42 {K : KK} (X : CX K cX2_valueOf 7 RX2 (some .int)) (hR : kR K = rmD 1) : ∀ (fu : Nat) (v0 : Nat) (kv0 : KA (kDn K) v0 (0, 2)) (v3 : Int32) (v4 : Int32) (v5 : Int32) (S : St), WT (kDn K) S.2.2 → JX K (Zm K (fun v : Int32 => some (.int v))) 42 [some (.ref v0), none, none, some (.int v3), some (.int v4), some (.int v5), none] [] (rwN (kN K) S) (kn K) 0 0 (b_X2_valueOf_42 fu v0 v3 v4 v5 S) := by
  intro fu
  induction fu with
  | zero => intro v0 kv0 v3 v4 v5 S w; exact J_none
  | succ fu ih =>
    intro v0 kv0 v3 v4 v5 S w
    rw [b_X2_valueOf_42]
    refine J_iload X dX2_valueOf_42 rfl ?_
    refine J_iload_n X dX2_valueOf_44 (i := 3) rfl rfl ?_
    refine J_icmp_ge X (tgt := 177) dX2_valueOf_45 (by decide) ?_ ?_
    · refine J_mask [true, false, false, false, false, false, false] ?_
      exact t_X2_valueOf_177 X hR v0 kv0 S w
    · refine J_iload X dX2_valueOf_48 rfl ?_
      refine J_aload_n X dX2_valueOf_50 (i := 0) rfl rfl ?_
      refine T_getR X (kf := 1) cb2 kv0 (by decide) fl_X2_15 (fun _ _ _ => rfl) dX2_valueOf_51 ?_
      refine T_alen1 X (w.1 _ _ kv0 1 _ rfl) dX2_valueOf_54 ?_
      refine J_icmp_ge X (tgt := 177) dX2_valueOf_55 (by decide) ?_ ?_
      · refine J_mask [true, false, false, false, false, false, false] ?_
        exact t_X2_valueOf_177 X hR v0 kv0 S w
      · refine J_aload_n X dX2_valueOf_58 (i := 0) rfl rfl ?_
        refine T_getR X (kf := 1) cb2 kv0 (by decide) fl_X2_15 (fun _ _ _ => rfl) dX2_valueOf_59 ?_
        refine J_iload X dX2_valueOf_62 rfl ?_
        refine T_iald X (w.1 _ _ kv0 1 _ rfl) dX2_valueOf_64 (fun j1 => ?_)
        refine J_nmi (fun x2 => ?_)
        refine J_istore X (ls' := [some (.ref v0), none, none, some (.int v3), some (.int v4), some (.int v5), some (.int x2)]) dX2_valueOf_65 (by decide) rfl ?_
        refine J_iload X dX2_valueOf_67 rfl ?_
        refine J_sipush X (v := (20000 : Int32)) dX2_valueOf_69 (by decide) ?_
        refine J_icmp_lt X (tgt := 122) dX2_valueOf_72 (by decide) ?_ ?_
        · exact t_X2_valueOf_122 X hR ih v0 kv0 v3 v4 v5 x2 S w
        · refine J_iload X dX2_valueOf_75 rfl ?_
          refine J_iconst X (v := (2 : Int32)) dX2_valueOf_77 (by decide) ?_
          refine J_icmp_lt X (tgt := 122) dX2_valueOf_78 (by decide) ?_ ?_
          · exact t_X2_valueOf_122 X hR ih v0 kv0 v3 v4 v5 x2 S w
          · refine J_nmv (v4 + (-1 : Int32)) (fun x3 ex3 => ?_)
            refine J_iinc X (v := x3) (ls' := [some (.ref v0), none, none, some (.int v3), some (.int x3), some (.int v5), some (.int x2)]) dX2_valueOf_81 (by decide) rfl (by rw [ex3]; rfl) rfl ?_
            refine J_aload_n X dX2_valueOf_84 (i := 0) rfl rfl ?_
            refine T_getR X (kf := 5) cb2 kv0 (by decide) fl_X2_24 (fun _ _ _ => rfl) dX2_valueOf_85 ?_
            refine J_iload X dX2_valueOf_88 rfl ?_
            refine J_iconst X (v := (1 : Int32)) dX2_valueOf_90 (by decide) ?_
            refine J_isub X dX2_valueOf_91 ?_
            refine J_aload_n X dX2_valueOf_92 (i := 0) rfl rfl ?_
            refine J_iload X dX2_valueOf_93 rfl ?_
            refine J_sipush X (v := (20000 : Int32)) dX2_valueOf_95 (by decide) ?_
            refine J_isub X dX2_valueOf_98 ?_
            refine J_aload_n X dX2_valueOf_99 (i := 0) rfl rfl ?_
            refine T_getR X (kf := 5) cb2 kv0 (by decide) fl_X2_24 (fun _ _ _ => rfl) dX2_valueOf_100 ?_
            refine J_iload X dX2_valueOf_103 rfl ?_
            refine J_iconst X (v := (1 : Int32)) dX2_valueOf_105 (by decide) ?_
            refine J_isub X dX2_valueOf_106 ?_
            refine T_iald X (w.1 _ _ kv0 5 _ rfl) dX2_valueOf_107 (fun j4 => ?_)
            refine J_aload_n X dX2_valueOf_108 (i := 0) rfl rfl ?_
            refine T_getR X (kf := 5) cb2 kv0 (by decide) fl_X2_24 (fun _ _ _ => rfl) dX2_valueOf_109 ?_
            refine J_iload X dX2_valueOf_112 rfl ?_
            refine T_iald X (w.1 _ _ kv0 5 _ rfl) dX2_valueOf_114 (fun j5 => ?_)
            refine T_callV (As := [.int (x2 - (20000 : Int32)), .int (S.1 (S.2.2 v0 5) j4), .int (S.1 (S.2.2 v0 5) j5)]) w X (C_X2_joined (kG K) v0 kv0 (x2 - (20000 : Int32)) (S.1 (S.2.2 v0 5) j4) (S.1 (S.2.2 v0 5) j5) S) cb2 kv0 ml_X2_59 in_yX2_joined se_yX2_joined ii_RX2 co_yX2_joined hy_X2_joined (hRd hR (by decide) (by decide)) rfl (Nat.le_of_ble_eq_true rfl) dX2_valueOf_115 (fun r7 S6 _ wS6 => ?_)
            refine T_iast X (w.1 _ _ kv0 5 _ rfl) dX2_valueOf_118 (fun j8 S9 hS9 => ?_)
            have wS9 : WT (kDn K) S9.2.2 := by rw [hS9]; exact wS6
            clear hS9
            refine J_goto X (tgt := 171) dX2_valueOf_119 (by decide) ?_
            refine J_mask [true, false, false, true, true, true, false] ?_
            exact t_X2_valueOf_171 X hR ih v0 kv0 v3 x3 v5 S9 wS9
set_option maxRecDepth 20000 in
def f_X2_valueOf (v0 : Nat) (v1 : Int32) (v2 : Int32) (S : St) : Option (Int32 × St) := if v2 < 0 then (some ((0 : Int32), S)) else (if v2 < (13 : Int32) then ((ix (((v1 * (14 : Int32)) + v2) + (1 : Int32)) 56).bind fun j1 => nm (S.1 (S.2.2 v0 3) j1) fun x2 => (ix ((v1 * (14 : Int32)) + v2) 56).bind fun j3 => nm (S.1 (S.2.2 v0 3) j3) fun x4 => b_X2_valueOf_42 FU v0 x2 (0 : Int32) x4 S) else (some ((0 : Int32), S)))
set_option maxRecDepth 20000 in
theorem t_X2_valueOf_0 {K : KK} (X : CX K cX2_valueOf 7 RX2 (some .int)) (hR : kR K = rmD 1) (v0 : Nat) (kv0 : KA (kDn K) v0 (0, 2)) (v1 : Int32) (v2 : Int32) (S : St) (w : WT (kDn K) S.2.2) : JX K (Zm K (fun v : Int32 => some (.int v))) 0 [some (.ref v0), some (.int v1), some (.int v2), none, none, none, none] [] (rwN (kN K) S) (kn K) 0 0 (f_X2_valueOf v0 v1 v2 S) := by
  unfold f_X2_valueOf
  refine J_iload_n X dX2_valueOf_0 (i := 2) rfl rfl ?_
  refine J_if_lt X (tgt := 10) dX2_valueOf_1 (by decide) ?_ ?_
  · refine J_iconst X (v := (0 : Int32)) dX2_valueOf_10 (by decide) ?_
    exact T_iret w X dX2_valueOf_11
  · refine J_iload_n X dX2_valueOf_4 (i := 2) rfl rfl ?_
    refine J_bipush X (v := (13 : Int32)) dX2_valueOf_5 (by decide) ?_
    refine J_icmp_lt X (tgt := 12) dX2_valueOf_7 (by decide) ?_ ?_
    · refine J_aload_n X dX2_valueOf_12 (i := 0) rfl rfl ?_
      refine T_getR X (kf := 3) cb2 kv0 (by decide) fl_X2_18 (fun _ _ _ => rfl) dX2_valueOf_13 ?_
      refine J_iload_n X dX2_valueOf_16 (i := 1) rfl rfl ?_
      refine J_bipush X (v := (14 : Int32)) dX2_valueOf_17 (by decide) ?_
      refine J_imul X dX2_valueOf_19 ?_
      refine J_iload_n X dX2_valueOf_20 (i := 2) rfl rfl ?_
      refine J_iadd X dX2_valueOf_21 ?_
      refine J_iconst X (v := (1 : Int32)) dX2_valueOf_22 (by decide) ?_
      refine J_iadd X dX2_valueOf_23 ?_
      refine T_iald X (w.1 _ _ kv0 3 _ rfl) dX2_valueOf_24 (fun j1 => ?_)
      refine J_nmi (fun x2 => ?_)
      refine J_istore_n X (i := 3) (ls' := [some (.ref v0), some (.int v1), some (.int v2), some (.int x2), none, none, none]) dX2_valueOf_25 rfl (by decide) rfl ?_
      refine J_iconst X (v := (0 : Int32)) dX2_valueOf_26 (by decide) ?_
      refine J_istore X (ls' := [some (.ref v0), some (.int v1), some (.int v2), some (.int x2), some (.int (0 : Int32)), none, none]) dX2_valueOf_27 (by decide) rfl ?_
      refine J_aload_n X dX2_valueOf_29 (i := 0) rfl rfl ?_
      refine T_getR X (kf := 3) cb2 kv0 (by decide) fl_X2_18 (fun _ _ _ => rfl) dX2_valueOf_30 ?_
      refine J_iload_n X dX2_valueOf_33 (i := 1) rfl rfl ?_
      refine J_bipush X (v := (14 : Int32)) dX2_valueOf_34 (by decide) ?_
      refine J_imul X dX2_valueOf_36 ?_
      refine J_iload_n X dX2_valueOf_37 (i := 2) rfl rfl ?_
      refine J_iadd X dX2_valueOf_38 ?_
      refine T_iald X (w.1 _ _ kv0 3 _ rfl) dX2_valueOf_39 (fun j3 => ?_)
      refine J_nmi (fun x4 => ?_)
      refine J_istore X (ls' := [some (.ref v0), some (.int v1), some (.int v2), some (.int x2), some (.int (0 : Int32)), some (.int x4), none]) dX2_valueOf_40 (by decide) rfl ?_
      refine J_mask [true, false, false, true, true, true, false] ?_
      exact t_X2_valueOf_42 X hR FU v0 kv0 x2 (0 : Int32) x4 S w
    · refine J_iconst X (v := (0 : Int32)) dX2_valueOf_10 (by decide) ?_
      exact T_iret w X dX2_valueOf_11
theorem C_X2_valueOf (G : GG) (v0 : Nat) (kv0 : KA (gD G) v0 (0, 2)) (v1 : Int32) (v2 : Int32) (S : St) : CM G yX2_valueOf cX2_valueOf 7 (some .int) 1 [.ref v0, .int v1, .int v2] S (fun v : Int32 => some (.int v)) (f_X2_valueOf v0 v1 v2 S) :=
  CM_of (by decide) (Nat.le_of_ble_eq_true rfl) rfl (fun K hG X hR w => by subst hG; exact t_X2_valueOf_0 X hR v0 kv0 v1 v2 S w)
-- ==== X9_heldTo
theorem hy_X9_heldTo : yX9_heldTo.cls ≠ "java/lang/invoke/MethodHandle" ∧ yX9_heldTo.cls ≠ "java/lang/invoke/VarHandle" ∧ (parseMethodDescriptor yX9_heldTo.desc).map (fun d => d.parameters.length) = some 2 := by decide +kernel
set_option maxRecDepth 20000 in
def f_X9_heldTo (v0 : Int32) (v1 : Int32) (S : St) : Option (Int32 × St) := some (mxI (0 : Int32) (mnI v0 v1), S)
set_option maxRecDepth 20000 in
theorem t_X9_heldTo_0 {K : KK} (X : CX K cX9_heldTo 2 RX9 (some .int)) (hR : kR K = rmD 1) (v0 : Int32) (v1 : Int32) (S : St) (w : WT (kDn K) S.2.2) : JX K (Zm K (fun v : Int32 => some (.int v))) 0 [some (.int v0), some (.int v1)] [] (rwN (kN K) S) (kn K) 0 0 (f_X9_heldTo v0 v1 S) := by
  unfold f_X9_heldTo
  refine J_iconst X (v := (0 : Int32)) dX9_heldTo_0 (by decide) ?_
  refine J_iload_n X dX9_heldTo_1 (i := 0) rfl rfl ?_
  refine J_iload_n X dX9_heldTo_2 (i := 1) rfl rfl ?_
  refine T_mmin X ml_X9_300 st_Lib_Math_min_name ii_java_lang_Math co_Lib_Math_min_name ⟨by rw [hR]; exact Nat.le_of_ble_eq_true rfl, by rw [hR]; exact Nat.le_of_ble_eq_true rfl⟩ (Nat.le_of_ble_eq_true rfl) dX9_heldTo_3 ?_
  refine T_mmax X ml_X9_297 st_Lib_Math_max_name ii_java_lang_Math co_Lib_Math_max_name ⟨by rw [hR]; exact Nat.le_of_ble_eq_true rfl, by rw [hR]; exact Nat.le_of_ble_eq_true rfl⟩ (Nat.le_of_ble_eq_true rfl) dX9_heldTo_6 ?_
  exact T_iret w X dX9_heldTo_9
theorem C_X9_heldTo (G : GG) (v0 : Int32) (v1 : Int32) (S : St) : CM G yX9_heldTo cX9_heldTo 2 (some .int) 1 [.int v0, .int v1] S (fun v : Int32 => some (.int v)) (f_X9_heldTo v0 v1 S) :=
  CM_of (by decide) (Nat.le_of_ble_eq_true rfl) rfl (fun K hG X hR w => by subst hG; exact t_X9_heldTo_0 X hR v0 v1 S w)
-- ==== X2_held
theorem hy_X2_held : yX2_held.cls ≠ "java/lang/invoke/MethodHandle" ∧ yX2_held.cls ≠ "java/lang/invoke/VarHandle" ∧ (parseMethodDescriptor yX2_held.desc).map (fun d => d.parameters.length) = some 2 := by decide +kernel
set_option maxRecDepth 20000 in
def b_X2_held_80 (v0 : Nat) (v1 : Int32) (v2 : Int32) (v3 : Int32) (S : St) : Option (Int32 × St) := bd (f_X2_valueOf v0 v1 v3 S) fun r2 S1 => if (S1.1 v0 6) = 0 then (bd (f_X9_heldTo v2 r2 S1) fun r4 S3 => some (r4, S3)) else (some ((0 : Int32), S1))
set_option maxRecDepth 20000 in
theorem t_X2_held_80 {K : KK} (X : CX K cX2_held 7 RX2 (some .int)) (hR : kR K = rmD 2) (v0 : Nat) (kv0 : KA (kDn K) v0 (0, 2)) (v1 : Int32) (v2 : Int32) (v3 : Int32) (S : St) (w : WT (kDn K) S.2.2) : JX K (Zm K (fun v : Int32 => some (.int v))) 80 [some (.ref v0), some (.int v1), some (.int v2), some (.int v3), none, none, none] [] (rwN (kN K) S) (kn K) 0 0 (b_X2_held_80 v0 v1 v2 v3 S) := by
  unfold b_X2_held_80
  refine J_aload_n X dX2_held_80 (i := 0) rfl rfl ?_
  refine J_iload_n X dX2_held_81 (i := 1) rfl rfl ?_
  refine J_iload_n X dX2_held_82 (i := 3) rfl rfl ?_
  refine T_callV (As := [.int v1, .int v3]) w X (C_X2_valueOf (kG K) v0 kv0 v1 v3 S) cb2 kv0 ml_X2_52 in_yX2_valueOf se_yX2_valueOf ii_RX2 co_yX2_valueOf hy_X2_valueOf (hRd hR (by decide) (by decide)) rfl (Nat.le_of_ble_eq_true rfl) dX2_held_83 (fun r2 S1 _ wS1 => ?_)
  refine J_istore X (ls' := [some (.ref v0), some (.int v1), some (.int v2), some (.int v3), some (.int r2), none, none]) dX2_held_86 (by decide) rfl ?_
  refine J_aload_n X dX2_held_88 (i := 0) rfl rfl ?_
  refine T_getI X (kf := 6) cb2 kv0 (by decide) fl_X2_48 (fun _ _ _ => rfl) dX2_held_89 ?_
  refine J_if_eq X (tgt := 99) dX2_held_92 (by decide) ?_ ?_
  · refine J_iload_n X dX2_held_99 (i := 2) rfl rfl ?_
    refine J_iload X dX2_held_100 rfl ?_
    refine T_callN (As := [.int v2, .int r2]) wS1 X (C_X9_heldTo (kG K) v2 r2 S1) (List.mem_of_getElem? (i := 1) rfl) st_yX9_heldTo ii_RX9 co_yX9_heldTo hy_X9_heldTo (hRd hR (by decide) (by decide)) rfl (Nat.le_of_ble_eq_true rfl) dX2_held_102 (fun r4 S3 _ wS3 => ?_)
    exact T_iret wS3 X dX2_held_105
  · refine J_iconst X (v := (0 : Int32)) dX2_held_95 (by decide) ?_
    refine J_goto X (tgt := 105) dX2_held_96 (by decide) ?_
    exact T_iret wS1 X dX2_held_105
set_option maxRecDepth 20000 in
def b_X2_held_17 : Nat → Nat → Int32 → Int32 → Int32 → Int32 → St → Option (Int32 × St)
  | 0, _, _, _, _, _, _ => none
  | fu + 1, v0, v1, v2, v3, v4, S => (ix v1 4).bind fun j1 => if (S.1 (S.2.2 v0 4) j1) ≤ (v4 + (2 : Int32)) then (b_X2_held_80 v0 v1 v2 v3 S) else (bd (f_X2_valueOf v0 v1 v4 S) fun r3 S2 => bd (f_X2_valueOf v0 v1 (v4 + (1 : Int32)) S2) fun r5 S4 => if (S4.1 v0 6) = 0 then (if r5 ≤ r3 then (nm (v4 + (3 : Int32)) fun x6 => b_X2_held_17 fu v0 v1 v2 v3 x6 S4) else (nm (v4 + (2 : Int32)) fun x7 => b_X2_held_80 v0 v1 v2 x7 S4)) else (some ((0 : Int32), S4)))
set_option maxRecDepth 20000 in
theorem t_X2_held_17 {K : KK} (X : CX K cX2_held 7 RX2 (some .int)) (hR : kR K = rmD 2) : ∀ (fu : Nat) (v0 : Nat) (kv0 : KA (kDn K) v0 (0, 2)) (v1 : Int32) (v2 : Int32) (v3 : Int32) (v4 : Int32) (S : St), WT (kDn K) S.2.2 → JX K (Zm K (fun v : Int32 => some (.int v))) 17 [some (.ref v0), some (.int v1), some (.int v2), some (.int v3), some (.int v4), none, none] [] (rwN (kN K) S) (kn K) 0 0 (b_X2_held_17 fu v0 v1 v2 v3 v4 S) := by
  intro fu
  induction fu with
  | zero => intro v0 kv0 v1 v2 v3 v4 S w; exact J_none
  | succ fu ih =>
    intro v0 kv0 v1 v2 v3 v4 S w
    rw [b_X2_held_17]
    refine J_iload X dX2_held_17 rfl ?_
    refine J_iconst X (v := (2 : Int32)) dX2_held_19 (by decide) ?_
    refine J_iadd X dX2_held_20 ?_
    refine J_aload_n X dX2_held_21 (i := 0) rfl rfl ?_
    refine T_getR X (kf := 4) cb2 kv0 (by decide) fl_X2_21 (fun _ _ _ => rfl) dX2_held_22 ?_
    refine J_iload_n X dX2_held_25 (i := 1) rfl rfl ?_
    refine T_iald X (w.1 _ _ kv0 4 _ rfl) dX2_held_26 (fun j1 => ?_)
    refine J_icmp_ge X (tgt := 80) dX2_held_27 (by decide) ?_ ?_
    · refine J_mask [true, true, true, true, false, false, false] ?_
      exact t_X2_held_80 X hR v0 kv0 v1 v2 v3 S w
    · refine J_aload_n X dX2_held_30 (i := 0) rfl rfl ?_
      refine J_iload_n X dX2_held_31 (i := 1) rfl rfl ?_
      refine J_iload X dX2_held_32 rfl ?_
      refine T_callV (As := [.int v1, .int v4]) w X (C_X2_valueOf (kG K) v0 kv0 v1 v4 S) cb2 kv0 ml_X2_52 in_yX2_valueOf se_yX2_valueOf ii_RX2 co_yX2_valueOf hy_X2_valueOf (hRd hR (by decide) (by decide)) rfl (Nat.le_of_ble_eq_true rfl) dX2_held_34 (fun r3 S2 _ wS2 => ?_)
      refine J_istore X (ls' := [some (.ref v0), some (.int v1), some (.int v2), some (.int v3), some (.int v4), some (.int r3), none]) dX2_held_37 (by decide) rfl ?_
      refine J_aload_n X dX2_held_39 (i := 0) rfl rfl ?_
      refine J_iload_n X dX2_held_40 (i := 1) rfl rfl ?_
      refine J_iload X dX2_held_41 rfl ?_
      refine J_iconst X (v := (1 : Int32)) dX2_held_43 (by decide) ?_
      refine J_iadd X dX2_held_44 ?_
      refine T_callV (As := [.int v1, .int (v4 + (1 : Int32))]) wS2 X (C_X2_valueOf (kG K) v0 kv0 v1 (v4 + (1 : Int32)) S2) cb2 kv0 ml_X2_52 in_yX2_valueOf se_yX2_valueOf ii_RX2 co_yX2_valueOf hy_X2_valueOf (hRd hR (by decide) (by decide)) rfl (Nat.le_of_ble_eq_true rfl) dX2_held_45 (fun r5 S4 _ wS4 => ?_)
      refine J_istore X (ls' := [some (.ref v0), some (.int v1), some (.int v2), some (.int v3), some (.int v4), some (.int r3), some (.int r5)]) dX2_held_48 (by decide) rfl ?_
      refine J_aload_n X dX2_held_50 (i := 0) rfl rfl ?_
      refine T_getI X (kf := 6) cb2 kv0 (by decide) fl_X2_48 (fun _ _ _ => rfl) dX2_held_51 ?_
      refine J_if_eq X (tgt := 59) dX2_held_54 (by decide) ?_ ?_
      · refine J_iload X dX2_held_59 rfl ?_
        refine J_iload X dX2_held_61 rfl ?_
        refine J_icmp_ge X (tgt := 74) dX2_held_63 (by decide) ?_ ?_
        · refine J_nmv (v4 + (3 : Int32)) (fun x6 ex6 => ?_)
          refine J_iinc X (v := x6) (ls' := [some (.ref v0), some (.int v1), some (.int v2), some (.int v3), some (.int x6), some (.int r3), some (.int r5)]) dX2_held_74 (by decide) rfl (by rw [ex6]; rfl) rfl ?_
          refine J_goto X (tgt := 17) dX2_held_77 (by decide) ?_
          refine J_mask [true, true, true, true, true, false, false] ?_
          exact ih v0 kv0 v1 v2 v3 x6 S4 wS4
        · refine J_iload X dX2_held_66 rfl ?_
          refine J_iconst X (v := (2 : Int32)) dX2_held_68 (by decide) ?_
          refine J_iadd X dX2_held_69 ?_
          refine J_nmi (fun x7 => ?_)
          refine J_istore_n X (i := 3) (ls' := [some (.ref v0), some (.int v1), some (.int v2), some (.int x7), some (.int v4), some (.int r3), some (.int r5)]) dX2_held_70 rfl (by decide) rfl ?_
          refine J_goto X (tgt := 80) dX2_held_71 (by decide) ?_
          refine J_mask [true, true, true, true, false, false, false] ?_
          exact t_X2_held_80 X hR v0 kv0 v1 v2 x7 S4 wS4
      · refine J_iconst X (v := (0 : Int32)) dX2_held_57 (by decide) ?_
        exact T_iret wS4 X dX2_held_58
set_option maxRecDepth 20000 in
def f_X2_held (v0 : Nat) (v1 : Int32) (v2 : Int32) (S : St) : Option (Int32 × St) := nm (sI S v0 6 (0 : Int32)) fun S1 => (ix v1 4).bind fun j2 => nm ((S1.1 (S1.2.2 v0 4) j2) - (1 : Int32)) fun x3 => b_X2_held_17 FU v0 v1 v2 x3 (0 : Int32) S1
set_option maxRecDepth 20000 in
theorem t_X2_held_0 {K : KK} (X : CX K cX2_held 7 RX2 (some .int)) (hR : kR K = rmD 2) (v0 : Nat) (kv0 : KA (kDn K) v0 (0, 2)) (v1 : Int32) (v2 : Int32) (S : St) (w : WT (kDn K) S.2.2) : JX K (Zm K (fun v : Int32 => some (.int v))) 0 [some (.ref v0), some (.int v1), some (.int v2), none, none, none, none] [] (rwN (kN K) S) (kn K) 0 0 (f_X2_held v0 v1 v2 S) := by
  unfold f_X2_held
  refine J_aload_n X dX2_held_0 (i := 0) rfl rfl ?_
  refine J_iconst X (v := (0 : Int32)) dX2_held_1 (by decide) ?_
  refine T_putI X (kf := 6) cb2 kv0 (by decide) fl_X2_48 (fun _ _ _ => rfl) rfl (by first | rfl | decide) (by first | rfl | decide) dX2_held_2 (fun S1 hS1 => ?_)
  have wS1 : WT (kDn K) S1.2.2 := by rw [hS1]; exact w
  clear hS1
  refine J_aload_n X dX2_held_5 (i := 0) rfl rfl ?_
  refine T_getR X (kf := 4) cb2 kv0 (by decide) fl_X2_21 (fun _ _ _ => rfl) dX2_held_6 ?_
  refine J_iload_n X dX2_held_9 (i := 1) rfl rfl ?_
  refine T_iald X (wS1.1 _ _ kv0 4 _ rfl) dX2_held_10 (fun j2 => ?_)
  refine J_iconst X (v := (1 : Int32)) dX2_held_11 (by decide) ?_
  refine J_isub X dX2_held_12 ?_
  refine J_nmi (fun x3 => ?_)
  refine J_istore_n X (i := 3) (ls' := [some (.ref v0), some (.int v1), some (.int v2), some (.int x3), none, none, none]) dX2_held_13 rfl (by decide) rfl ?_
  refine J_iconst X (v := (0 : Int32)) dX2_held_14 (by decide) ?_
  refine J_istore X (ls' := [some (.ref v0), some (.int v1), some (.int v2), some (.int x3), some (.int (0 : Int32)), none, none]) dX2_held_15 (by decide) rfl ?_
  exact t_X2_held_17 X hR FU v0 kv0 v1 v2 x3 (0 : Int32) S1 wS1
theorem C_X2_held (G : GG) (v0 : Nat) (kv0 : KA (gD G) v0 (0, 2)) (v1 : Int32) (v2 : Int32) (S : St) : CM G yX2_held cX2_held 7 (some .int) 2 [.ref v0, .int v1, .int v2] S (fun v : Int32 => some (.int v)) (f_X2_held v0 v1 v2 S) :=
  CM_of (by decide) (Nat.le_of_ble_eq_true rfl) rfl (fun K hG X hR w => by subst hG; exact t_X2_held_0 X hR v0 kv0 v1 v2 S w)
-- ==== X9_farApart
theorem hy_X9_farApart : yX9_farApart.cls ≠ "java/lang/invoke/MethodHandle" ∧ yX9_farApart.cls ≠ "java/lang/invoke/VarHandle" ∧ (parseMethodDescriptor yX9_farApart.desc).map (fun d => d.parameters.length) = some 4 := by decide +kernel
set_option maxRecDepth 20000 in
def f_X9_farApart (v0 : Int32) (v1 : Int32) (v2 : Int32) (v3 : Int32) (S : St) : Option (Int32 × St) := some (mxI (abI (v0 - v2)) (abI (v1 - v3)), S)
set_option maxRecDepth 20000 in
theorem t_X9_farApart_0 {K : KK} (X : CX K cX9_farApart 4 RX9 (some .int)) (hR : kR K = rmD 1) (v0 : Int32) (v1 : Int32) (v2 : Int32) (v3 : Int32) (S : St) (w : WT (kDn K) S.2.2) : JX K (Zm K (fun v : Int32 => some (.int v))) 0 [some (.int v0), some (.int v1), some (.int v2), some (.int v3)] [] (rwN (kN K) S) (kn K) 0 0 (f_X9_farApart v0 v1 v2 v3 S) := by
  unfold f_X9_farApart
  refine J_iload_n X dX9_farApart_0 (i := 0) rfl rfl ?_
  refine J_iload_n X dX9_farApart_1 (i := 2) rfl rfl ?_
  refine J_isub X dX9_farApart_2 ?_
  refine T_mabs X ml_X9_292 st_Lib_Math_abs_name ii_java_lang_Math co_Lib_Math_abs_name ⟨by rw [hR]; exact Nat.le_of_ble_eq_true rfl, by rw [hR]; exact Nat.le_of_ble_eq_true rfl⟩ (Nat.le_of_ble_eq_true rfl) dX9_farApart_3 ?_
  refine J_iload_n X dX9_farApart_6 (i := 1) rfl rfl ?_
  refine J_iload_n X dX9_farApart_7 (i := 3) rfl rfl ?_
  refine J_isub X dX9_farApart_8 ?_
  refine T_mabs X ml_X9_292 st_Lib_Math_abs_name ii_java_lang_Math co_Lib_Math_abs_name ⟨by rw [hR]; exact Nat.le_of_ble_eq_true rfl, by rw [hR]; exact Nat.le_of_ble_eq_true rfl⟩ (Nat.le_of_ble_eq_true rfl) dX9_farApart_9 ?_
  refine T_mmax X ml_X9_297 st_Lib_Math_max_name ii_java_lang_Math co_Lib_Math_max_name ⟨by rw [hR]; exact Nat.le_of_ble_eq_true rfl, by rw [hR]; exact Nat.le_of_ble_eq_true rfl⟩ (Nat.le_of_ble_eq_true rfl) dX9_farApart_12 ?_
  exact T_iret w X dX9_farApart_15
theorem C_X9_farApart (G : GG) (v0 : Int32) (v1 : Int32) (v2 : Int32) (v3 : Int32) (S : St) : CM G yX9_farApart cX9_farApart 4 (some .int) 1 [.int v0, .int v1, .int v2, .int v3] S (fun v : Int32 => some (.int v)) (f_X9_farApart v0 v1 v2 v3 S) :=
  CM_of (by decide) (Nat.le_of_ble_eq_true rfl) rfl (fun K hG X hR w => by subst hG; exact t_X9_farApart_0 X hR v0 v1 v2 v3 S w)
-- ==== X5_farOf
theorem hy_X5_farOf : yX5_farOf.cls ≠ "java/lang/invoke/MethodHandle" ∧ yX5_farOf.cls ≠ "java/lang/invoke/VarHandle" ∧ (parseMethodDescriptor yX5_farOf.desc).map (fun d => d.parameters.length) = some 3 := by decide +kernel
set_option maxRecDepth 20000 in
def f_X5_farOf (v0 : Nat) (v1 : Int32) (v2 : Int32) (v3 : Int32) (S : St) : Option (Int32 × St) := (ix ((0 : Int32) + v1) 36).bind fun j1 => (ix ((4 : Int32) + v1) 36).bind fun j2 => bd (f_X9_farApart (S.1 (S.2.2 v0 0) j1) (S.1 (S.2.2 v0 0) j2) v2 v3 S) fun r4 S3 => some (r4, S3)
set_option maxRecDepth 20000 in
theorem t_X5_farOf_0 {K : KK} (X : CX K cX5_farOf 4 RX5 (some .int)) (hR : kR K = rmD 2) (v0 : Nat) (kv0 : KA (kDn K) v0 (0, 5)) (v1 : Int32) (v2 : Int32) (v3 : Int32) (S : St) (w : WT (kDn K) S.2.2) : JX K (Zm K (fun v : Int32 => some (.int v))) 0 [some (.ref v0), some (.int v1), some (.int v2), some (.int v3)] [] (rwN (kN K) S) (kn K) 0 0 (f_X5_farOf v0 v1 v2 v3 S) := by
  unfold f_X5_farOf
  refine J_aload_n X dX5_farOf_0 (i := 0) rfl rfl ?_
  refine T_getR X (kf := 0) cb5 kv0 (by decide) fl_X5_9 (fun _ _ _ => rfl) dX5_farOf_1 ?_
  refine J_iconst X (v := (0 : Int32)) dX5_farOf_4 (by decide) ?_
  refine J_iload_n X dX5_farOf_5 (i := 1) rfl rfl ?_
  refine J_iadd X dX5_farOf_6 ?_
  refine T_iald X (w.1 _ _ kv0 0 _ rfl) dX5_farOf_7 (fun j1 => ?_)
  refine J_aload_n X dX5_farOf_8 (i := 0) rfl rfl ?_
  refine T_getR X (kf := 0) cb5 kv0 (by decide) fl_X5_9 (fun _ _ _ => rfl) dX5_farOf_9 ?_
  refine J_iconst X (v := (4 : Int32)) dX5_farOf_12 (by decide) ?_
  refine J_iload_n X dX5_farOf_13 (i := 1) rfl rfl ?_
  refine J_iadd X dX5_farOf_14 ?_
  refine T_iald X (w.1 _ _ kv0 0 _ rfl) dX5_farOf_15 (fun j2 => ?_)
  refine J_iload_n X dX5_farOf_16 (i := 2) rfl rfl ?_
  refine J_iload_n X dX5_farOf_17 (i := 3) rfl rfl ?_
  refine T_callN (As := [.int (S.1 (S.2.2 v0 0) j1), .int (S.1 (S.2.2 v0 0) j2), .int v2, .int v3]) w X (C_X9_farApart (kG K) (S.1 (S.2.2 v0 0) j1) (S.1 (S.2.2 v0 0) j2) v2 v3 S) (List.mem_of_getElem? (i := 0) rfl) st_yX9_farApart ii_RX9 co_yX9_farApart hy_X9_farApart (hRd hR (by decide) (by decide)) rfl (Nat.le_of_ble_eq_true rfl) dX5_farOf_18 (fun r4 S3 _ wS3 => ?_)
  exact T_iret wS3 X dX5_farOf_21
theorem C_X5_farOf (G : GG) (v0 : Nat) (kv0 : KA (gD G) v0 (0, 5)) (v1 : Int32) (v2 : Int32) (v3 : Int32) (S : St) : CM G yX5_farOf cX5_farOf 4 (some .int) 2 [.ref v0, .int v1, .int v2, .int v3] S (fun v : Int32 => some (.int v)) (f_X5_farOf v0 v1 v2 v3 S) :=
  CM_of (by decide) (Nat.le_of_ble_eq_true rfl) rfl (fun K hG X hR w => by subst hG; exact t_X5_farOf_0 X hR v0 kv0 v1 v2 v3 S w)
-- ==== X5_isCut
theorem hy_X5_isCut : yX5_isCut.cls ≠ "java/lang/invoke/MethodHandle" ∧ yX5_isCut.cls ≠ "java/lang/invoke/VarHandle" ∧ (parseMethodDescriptor yX5_isCut.desc).map (fun d => d.parameters.length) = some 1 := by decide +kernel
set_option maxRecDepth 20000 in
def f_X5_isCut (v0 : Nat) (v1 : Int32) (S : St) : Option (Int32 × St) := if (((S.1 v0 4) >>> (v1 &&& 31)) &&& (1 : Int32)) = 0 then (some ((0 : Int32), S)) else (some ((1 : Int32), S))
set_option maxRecDepth 20000 in
theorem t_X5_isCut_0 {K : KK} (X : CX K cX5_isCut 2 RX5 (some .boolean)) (hR : kR K = rmD 0) (v0 : Nat) (kv0 : KA (kDn K) v0 (0, 5)) (v1 : Int32) (S : St) (w : WT (kDn K) S.2.2) : JX K (Zm K (fun v : Int32 => some (.int v))) 0 [some (.ref v0), some (.int v1)] [] (rwN (kN K) S) (kn K) 0 0 (f_X5_isCut v0 v1 S) := by
  unfold f_X5_isCut
  refine J_aload_n X dX5_isCut_0 (i := 0) rfl rfl ?_
  refine T_getI X (kf := 4) cb5 kv0 (by decide) fl_X5_31 (fun _ _ _ => rfl) dX5_isCut_1 ?_
  refine J_iload_n X dX5_isCut_4 (i := 1) rfl rfl ?_
  refine J_ishr X dX5_isCut_5 ?_
  refine J_iconst X (v := (1 : Int32)) dX5_isCut_6 (by decide) ?_
  refine J_iand X dX5_isCut_7 ?_
  refine J_if_eq X (tgt := 15) dX5_isCut_8 (by decide) ?_ ?_
  · refine J_iconst X (v := (0 : Int32)) dX5_isCut_15 (by decide) ?_
    exact T_zret w X (by decide) dX5_isCut_16
  · refine J_iconst X (v := (1 : Int32)) dX5_isCut_11 (by decide) ?_
    refine J_goto X (tgt := 16) dX5_isCut_12 (by decide) ?_
    exact T_zret w X (by decide) dX5_isCut_16
theorem C_X5_isCut (G : GG) (v0 : Nat) (kv0 : KA (gD G) v0 (0, 5)) (v1 : Int32) (S : St) : CM G yX5_isCut cX5_isCut 2 (some .boolean) 0 [.ref v0, .int v1] S (fun v : Int32 => some (.int v)) (f_X5_isCut v0 v1 S) :=
  CM_of (by decide) (Nat.le_of_ble_eq_true rfl) rfl (fun K hG X hR w => by subst hG; exact t_X5_isCut_0 X hR v0 kv0 v1 S w)
-- ==== X5_isDead
theorem hy_X5_isDead : yX5_isDead.cls ≠ "java/lang/invoke/MethodHandle" ∧ yX5_isDead.cls ≠ "java/lang/invoke/VarHandle" ∧ (parseMethodDescriptor yX5_isDead.desc).map (fun d => d.parameters.length) = some 1 := by decide +kernel
set_option maxRecDepth 20000 in
def f_X5_isDead (v0 : Nat) (v1 : Int32) (S : St) : Option (Int32 × St) := if (((S.1 v0 3) >>> (v1 &&& 31)) &&& (1 : Int32)) = 0 then (some ((0 : Int32), S)) else (some ((1 : Int32), S))
set_option maxRecDepth 20000 in
theorem t_X5_isDead_0 {K : KK} (X : CX K cX5_isDead 2 RX5 (some .boolean)) (hR : kR K = rmD 0) (v0 : Nat) (kv0 : KA (kDn K) v0 (0, 5)) (v1 : Int32) (S : St) (w : WT (kDn K) S.2.2) : JX K (Zm K (fun v : Int32 => some (.int v))) 0 [some (.ref v0), some (.int v1)] [] (rwN (kN K) S) (kn K) 0 0 (f_X5_isDead v0 v1 S) := by
  unfold f_X5_isDead
  refine J_aload_n X dX5_isDead_0 (i := 0) rfl rfl ?_
  refine T_getI X (kf := 3) cb5 kv0 (by decide) fl_X5_28 (fun _ _ _ => rfl) dX5_isDead_1 ?_
  refine J_iload_n X dX5_isDead_4 (i := 1) rfl rfl ?_
  refine J_ishr X dX5_isDead_5 ?_
  refine J_iconst X (v := (1 : Int32)) dX5_isDead_6 (by decide) ?_
  refine J_iand X dX5_isDead_7 ?_
  refine J_if_eq X (tgt := 15) dX5_isDead_8 (by decide) ?_ ?_
  · refine J_iconst X (v := (0 : Int32)) dX5_isDead_15 (by decide) ?_
    exact T_zret w X (by decide) dX5_isDead_16
  · refine J_iconst X (v := (1 : Int32)) dX5_isDead_11 (by decide) ?_
    refine J_goto X (tgt := 16) dX5_isDead_12 (by decide) ?_
    exact T_zret w X (by decide) dX5_isDead_16
theorem C_X5_isDead (G : GG) (v0 : Nat) (kv0 : KA (gD G) v0 (0, 5)) (v1 : Int32) (S : St) : CM G yX5_isDead cX5_isDead 2 (some .boolean) 0 [.ref v0, .int v1] S (fun v : Int32 => some (.int v)) (f_X5_isDead v0 v1 S) :=
  CM_of (by decide) (Nat.le_of_ble_eq_true rfl) rfl (fun K hG X hR w => by subst hG; exact t_X5_isDead_0 X hR v0 kv0 v1 S w)
-- ==== X5_isOff
theorem hy_X5_isOff : yX5_isOff.cls ≠ "java/lang/invoke/MethodHandle" ∧ yX5_isOff.cls ≠ "java/lang/invoke/VarHandle" ∧ (parseMethodDescriptor yX5_isOff.desc).map (fun d => d.parameters.length) = some 1 := by decide +kernel
set_option maxRecDepth 20000 in
def f_X5_isOff (v0 : Nat) (v1 : Int32) (S : St) : Option (Int32 × St) := if (((S.1 v0 2) >>> (v1 &&& 31)) &&& (1 : Int32)) = 0 then (some ((0 : Int32), S)) else (some ((1 : Int32), S))
set_option maxRecDepth 20000 in
theorem t_X5_isOff_0 {K : KK} (X : CX K cX5_isOff 2 RX5 (some .boolean)) (hR : kR K = rmD 0) (v0 : Nat) (kv0 : KA (kDn K) v0 (0, 5)) (v1 : Int32) (S : St) (w : WT (kDn K) S.2.2) : JX K (Zm K (fun v : Int32 => some (.int v))) 0 [some (.ref v0), some (.int v1)] [] (rwN (kN K) S) (kn K) 0 0 (f_X5_isOff v0 v1 S) := by
  unfold f_X5_isOff
  refine J_aload_n X dX5_isOff_0 (i := 0) rfl rfl ?_
  refine T_getI X (kf := 2) cb5 kv0 (by decide) fl_X5_25 (fun _ _ _ => rfl) dX5_isOff_1 ?_
  refine J_iload_n X dX5_isOff_4 (i := 1) rfl rfl ?_
  refine J_ishr X dX5_isOff_5 ?_
  refine J_iconst X (v := (1 : Int32)) dX5_isOff_6 (by decide) ?_
  refine J_iand X dX5_isOff_7 ?_
  refine J_if_eq X (tgt := 15) dX5_isOff_8 (by decide) ?_ ?_
  · refine J_iconst X (v := (0 : Int32)) dX5_isOff_15 (by decide) ?_
    exact T_zret w X (by decide) dX5_isOff_16
  · refine J_iconst X (v := (1 : Int32)) dX5_isOff_11 (by decide) ?_
    refine J_goto X (tgt := 16) dX5_isOff_12 (by decide) ?_
    exact T_zret w X (by decide) dX5_isOff_16
theorem C_X5_isOff (G : GG) (v0 : Nat) (kv0 : KA (gD G) v0 (0, 5)) (v1 : Int32) (S : St) : CM G yX5_isOff cX5_isOff 2 (some .boolean) 0 [.ref v0, .int v1] S (fun v : Int32 => some (.int v)) (f_X5_isOff v0 v1 S) :=
  CM_of (by decide) (Nat.le_of_ble_eq_true rfl) rfl (fun K hG X hR w => by subst hG; exact t_X5_isOff_0 X hR v0 kv0 v1 S w)

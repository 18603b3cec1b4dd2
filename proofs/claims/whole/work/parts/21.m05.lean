-- ==== X10_swimsFor
theorem hy_X10_swimsFor : yX10_swimsFor.cls ≠ "java/lang/invoke/MethodHandle" ∧ yX10_swimsFor.cls ≠ "java/lang/invoke/VarHandle" ∧ (parseMethodDescriptor yX10_swimsFor.desc).map (fun d => d.parameters.length) = some 2 := by decide +kernel
set_option maxRecDepth 20000 in
def b_X10_swimsFor_2 : Nat → Nat → Int32 → Int32 → Int32 → St → Option (Unit × St)
  | 0, _, _, _, _, _ => none
  | fu + 1, v0, v1, v2, v3, S => if v2 ≤ v3 then (some ((), S)) else ((ix ((16 : Int32) + v1) 55).bind fun j1 => if (S.1 (S.2.2 v0 52) j1) = 0 then (bd (f_X10_swimsOne v0 v1 S) fun _ S2 => nm (v3 + (1 : Int32)) fun x4 => b_X10_swimsFor_2 fu v0 v1 v2 x4 S2) else (some ((), S)))
set_option maxRecDepth 20000 in
theorem t_X10_swimsFor_2 {K : KK} (X : CX K cX10_swimsFor 4 RX10 none) (hR : kR K = rmD 1) : ∀ (fu : Nat) (v0 : Nat) (kv0 : KA (kDn K) v0 (0, 10)) (v1 : Int32) (v2 : Int32) (v3 : Int32) (S : St), WT (kDn K) S.2.2 → JX K (Zm K (fun _ : Unit => none)) 2 [some (.ref v0), some (.int v1), some (.int v2), some (.int v3)] [] (rwN (kN K) S) (kn K) 0 0 (b_X10_swimsFor_2 fu v0 v1 v2 v3 S) := by
  intro fu
  induction fu with
  | zero => intro v0 kv0 v1 v2 v3 S w; exact J_none
  | succ fu ih =>
    intro v0 kv0 v1 v2 v3 S w
    rw [b_X10_swimsFor_2]
    refine J_iload_n X dX10_swimsFor_2 (i := 3) rfl rfl ?_
    refine J_iload_n X dX10_swimsFor_3 (i := 2) rfl rfl ?_
    refine J_icmp_ge X (tgt := 30) dX10_swimsFor_4 (by decide) ?_ ?_
    · exact T_vret w X dX10_swimsFor_30
    · refine J_aload_n X dX10_swimsFor_7 (i := 0) rfl rfl ?_
      refine T_getR X (kf := 52) cb10 kv0 (by decide) fl_X10_122 (fun _ _ _ => rfl) dX10_swimsFor_8 ?_
      refine J_bipush X (v := (16 : Int32)) dX10_swimsFor_11 (by decide) ?_
      refine J_iload_n X dX10_swimsFor_13 (i := 1) rfl rfl ?_
      refine J_iadd X dX10_swimsFor_14 ?_
      refine T_iald X (w.1 _ _ kv0 52 _ rfl) dX10_swimsFor_15 (fun j1 => ?_)
      refine J_if_ne X (tgt := 30) dX10_swimsFor_16 (by decide) ?_ ?_
      · refine J_aload_n X dX10_swimsFor_19 (i := 0) rfl rfl ?_
        refine J_iload_n X dX10_swimsFor_20 (i := 1) rfl rfl ?_
        refine T_callV (As := [.int v1]) w X (C_X10_swimsOne (kG K) v0 kv0 v1 S) cb10 kv0 ml_X10_413 in_yX10_swimsOne se_yX10_swimsOne ii_RX10 co_yX10_swimsOne hy_X10_swimsOne (hRd hR (by decide) (by decide)) rfl (Nat.le_of_ble_eq_true rfl) dX10_swimsFor_21 (fun _ S2 _ wS2 => ?_)
        refine J_nmv (v3 + (1 : Int32)) (fun x4 ex4 => ?_)
        refine J_iinc X (v := x4) (ls' := [some (.ref v0), some (.int v1), some (.int v2), some (.int x4)]) dX10_swimsFor_24 (by decide) rfl (by rw [ex4]; rfl) rfl ?_
        refine J_goto X (tgt := 2) dX10_swimsFor_27 (by decide) ?_
        exact ih v0 kv0 v1 v2 x4 S2 wS2
      · exact T_vret w X dX10_swimsFor_30
set_option maxRecDepth 20000 in
def f_X10_swimsFor (v0 : Nat) (v1 : Int32) (v2 : Int32) (S : St) : Option (Unit × St) := b_X10_swimsFor_2 FU v0 v1 v2 (0 : Int32) S
set_option maxRecDepth 20000 in
theorem t_X10_swimsFor_0 {K : KK} (X : CX K cX10_swimsFor 4 RX10 none) (hR : kR K = rmD 1) (v0 : Nat) (kv0 : KA (kDn K) v0 (0, 10)) (v1 : Int32) (v2 : Int32) (S : St) (w : WT (kDn K) S.2.2) : JX K (Zm K (fun _ : Unit => none)) 0 [some (.ref v0), some (.int v1), some (.int v2), none] [] (rwN (kN K) S) (kn K) 0 0 (f_X10_swimsFor v0 v1 v2 S) := by
  unfold f_X10_swimsFor
  refine J_iconst X (v := (0 : Int32)) dX10_swimsFor_0 (by decide) ?_
  refine J_istore_n X (i := 3) (ls' := [some (.ref v0), some (.int v1), some (.int v2), some (.int (0 : Int32))]) dX10_swimsFor_1 rfl (by decide) rfl ?_
  exact t_X10_swimsFor_2 X hR FU v0 kv0 v1 v2 (0 : Int32) S w
theorem C_X10_swimsFor (G : GG) (v0 : Nat) (kv0 : KA (gD G) v0 (0, 10)) (v1 : Int32) (v2 : Int32) (S : St) : CM G yX10_swimsFor cX10_swimsFor 4 none 1 [.ref v0, .int v1, .int v2] S (fun _ : Unit => none) (f_X10_swimsFor v0 v1 v2 S) :=
  CM_of (by decide) (Nat.le_of_ble_eq_true rfl) rfl (fun K hG X hR w => by subst hG; exact t_X10_swimsFor_0 X hR v0 kv0 v1 v2 S w)
-- ==== X10_swims
theorem hy_X10_swims : yX10_swims.cls ≠ "java/lang/invoke/MethodHandle" ∧ yX10_swims.cls ≠ "java/lang/invoke/VarHandle" ∧ (parseMethodDescriptor yX10_swims.desc).map (fun d => d.parameters.length) = some 3 := by decide +kernel
set_option maxRecDepth 20000 in
def f_X10_swims (v0 : Nat) (v1 : Int32) (v2 : Int32) (v3 : Int32) (S : St) : Option (Int32 × St) := bd (f_X10_isMermaid v0 v1 S) fun r2 S1 => if r2 = 0 then (some ((-1 : Int32), S1)) else (bd (f_X10_isLong v2 S1) fun r4 S3 => if r4 = 0 then (some ((-1 : Int32), S3)) else (bd (f_X10_in v3 (0 : Int32) (1 : Int32) S3) fun r6 S5 => if r6 = 0 then (some ((-1 : Int32), S5)) else (bd (f_X10_copies v0 S5) fun _ S7 => bd (f_X10_swimsFor v0 v1 v2 S7) fun _ S9 => (ix (((4 : Int32) * v3) + v1) 55).bind fun j11 => some (S9.1 (S9.2.2 v0 52) j11, S9))))
set_option maxRecDepth 20000 in
theorem t_X10_swims_0 {K : KK} (X : CX K cX10_swims 4 RX10 (some .int)) (hR : kR K = rmD 2) (v0 : Nat) (kv0 : KA (kDn K) v0 (0, 10)) (v1 : Int32) (v2 : Int32) (v3 : Int32) (S : St) (w : WT (kDn K) S.2.2) : JX K (Zm K (fun v : Int32 => some (.int v))) 0 [some (.ref v0), some (.int v1), some (.int v2), some (.int v3)] [] (rwN (kN K) S) (kn K) 0 0 (f_X10_swims v0 v1 v2 v3 S) := by
  unfold f_X10_swims
  refine J_aload_n X dX10_swims_0 (i := 0) rfl rfl ?_
  refine J_iload_n X dX10_swims_1 (i := 1) rfl rfl ?_
  refine T_callV (As := [.int v1]) w X (C_X10_isMermaid (kG K) v0 kv0 v1 S) cb10 kv0 ml_X10_419 in_yX10_isMermaid se_yX10_isMermaid ii_RX10 co_yX10_isMermaid hy_X10_isMermaid (hRd hR (by decide) (by decide)) rfl (Nat.le_of_ble_eq_true rfl) dX10_swims_2 (fun r2 S1 _ wS1 => ?_)
  refine J_if_eq X (tgt := 24) dX10_swims_5 (by decide) ?_ ?_
  · refine J_iconst X (v := (-1 : Int32)) dX10_swims_24 (by decide) ?_
    exact T_iret wS1 X dX10_swims_25
  · refine J_iload_n X dX10_swims_8 (i := 2) rfl rfl ?_
    refine T_callS (As := [.int v2]) wS1 X (C_X10_isLong (kG K) v2 S1) ml_X10_435 st_yX10_isLong ii_RX10 co_yX10_isLong hy_X10_isLong (hRd hR (by decide) (by decide)) rfl (Nat.le_of_ble_eq_true rfl) dX10_swims_9 (fun r4 S3 _ wS3 => ?_)
    refine J_if_eq X (tgt := 24) dX10_swims_12 (by decide) ?_ ?_
    · refine J_iconst X (v := (-1 : Int32)) dX10_swims_24 (by decide) ?_
      exact T_iret wS3 X dX10_swims_25
    · refine J_iload_n X dX10_swims_15 (i := 3) rfl rfl ?_
      refine J_iconst X (v := (0 : Int32)) dX10_swims_16 (by decide) ?_
      refine J_iconst X (v := (1 : Int32)) dX10_swims_17 (by decide) ?_
      refine T_callS (As := [.int v3, .int (0 : Int32), .int (1 : Int32)]) wS3 X (C_X10_in (kG K) v3 (0 : Int32) (1 : Int32) S3) ml_X10_325 st_yX10_in ii_RX10 co_yX10_in hy_X10_in (hRd hR (by decide) (by decide)) rfl (Nat.le_of_ble_eq_true rfl) dX10_swims_18 (fun r6 S5 _ wS5 => ?_)
      refine J_if_ne X (tgt := 26) dX10_swims_21 (by decide) ?_ ?_
      · refine J_iconst X (v := (-1 : Int32)) dX10_swims_24 (by decide) ?_
        exact T_iret wS5 X dX10_swims_25
      · refine J_aload_n X dX10_swims_26 (i := 0) rfl rfl ?_
        refine T_callV (As := []) wS5 X (C_X10_copies (kG K) v0 kv0 S5) cb10 kv0 ml_X10_335 in_yX10_copies se_yX10_copies ii_RX10 co_yX10_copies hy_X10_copies (hRd hR (by decide) (by decide)) rfl (Nat.le_of_ble_eq_true rfl) dX10_swims_27 (fun _ S7 _ wS7 => ?_)
        refine J_aload_n X dX10_swims_30 (i := 0) rfl rfl ?_
        refine J_iload_n X dX10_swims_31 (i := 1) rfl rfl ?_
        refine J_iload_n X dX10_swims_32 (i := 2) rfl rfl ?_
        refine T_callV (As := [.int v1, .int v2]) wS7 X (C_X10_swimsFor (kG K) v0 kv0 v1 v2 S7) cb10 kv0 ml_X10_441 in_yX10_swimsFor se_yX10_swimsFor ii_RX10 co_yX10_swimsFor hy_X10_swimsFor (hRd hR (by decide) (by decide)) rfl (Nat.le_of_ble_eq_true rfl) dX10_swims_33 (fun _ S9 _ wS9 => ?_)
        refine J_aload_n X dX10_swims_36 (i := 0) rfl rfl ?_
        refine T_getR X (kf := 52) cb10 kv0 (by decide) fl_X10_122 (fun _ _ _ => rfl) dX10_swims_37 ?_
        refine J_iconst X (v := (4 : Int32)) dX10_swims_40 (by decide) ?_
        refine J_iload_n X dX10_swims_41 (i := 3) rfl rfl ?_
        refine J_imul X dX10_swims_42 ?_
        refine J_iload_n X dX10_swims_43 (i := 1) rfl rfl ?_
        refine J_iadd X dX10_swims_44 ?_
        refine T_iald X (wS9.1 _ _ kv0 52 _ rfl) dX10_swims_45 (fun j11 => ?_)
        exact T_iret wS9 X dX10_swims_46
theorem C_X10_swims (G : GG) (v0 : Nat) (kv0 : KA (gD G) v0 (0, 10)) (v1 : Int32) (v2 : Int32) (v3 : Int32) (S : St) : CM G yX10_swims cX10_swims 4 (some .int) 2 [.ref v0, .int v1, .int v2, .int v3] S (fun v : Int32 => some (.int v)) (f_X10_swims v0 v1 v2 v3 S) :=
  CM_of (by decide) (Nat.le_of_ble_eq_true rfl) rfl (fun K hG X hR w => by subst hG; exact t_X10_swims_0 X hR v0 kv0 v1 v2 v3 S w)
-- ==== X10_offBits
theorem hy_X10_offBits : yX10_offBits.cls ≠ "java/lang/invoke/MethodHandle" ∧ yX10_offBits.cls ≠ "java/lang/invoke/VarHandle" ∧ (parseMethodDescriptor yX10_offBits.desc).map (fun d => d.parameters.length) = some 0 := by decide +kernel
set_option maxRecDepth 20000 in
def b_X10_offBits_31 (q4 : Nat → Int32 → Int32 → St → Option (Int32 × St)) (v0 : Nat) (v1 : Int32) (v2 : Int32) (S : St) : Option (Int32 × St) := nm (v2 + (1 : Int32)) fun x1 => q4 v0 v1 x1 S
set_option maxRecDepth 20000 in
theorem t_X10_offBits_31 {K : KK} (X : CX K cX10_offBits 3 RX10 (some .int)) (hR : kR K = rmD 1) {q4 : Nat → Int32 → Int32 → St → Option (Int32 × St)} (hq4 : ∀ (v0 : Nat) (kv0 : KA (kDn K) v0 (0, 10)) (v1 : Int32) (v2 : Int32) (S : St), WT (kDn K) S.2.2 → JX K (Zm K (fun v : Int32 => some (.int v))) 4 [some (.ref v0), some (.int v1), some (.int v2)] [] (rwN (kN K) S) (kn K) 0 0 (q4 v0 v1 v2 S)) (v0 : Nat) (kv0 : KA (kDn K) v0 (0, 10)) (v1 : Int32) (v2 : Int32) (S : St) (w : WT (kDn K) S.2.2) : JX K (Zm K (fun v : Int32 => some (.int v))) 31 [some (.ref v0), some (.int v1), some (.int v2)] [] (rwN (kN K) S) (kn K) 0 0 (b_X10_offBits_31 q4 v0 v1 v2 S) := by
  unfold b_X10_offBits_31
  refine J_nmv (v2 + (1 : Int32)) (fun x1 ex1 => ?_)
  refine J_iinc X (v := x1) (ls' := [some (.ref v0), some (.int v1), some (.int x1)]) dX10_offBits_31 (by decide) rfl (by rw [ex1]; rfl) rfl ?_
  refine J_goto X (tgt := 4) dX10_offBits_34 (by decide) ?_
  exact hq4 v0 kv0 v1 x1 S w
set_option maxRecDepth 20000 in
def b_X10_offBits_4 : Nat → Nat → Int32 → Int32 → St → Option (Int32 × St)
  | 0, _, _, _, _ => none
  | fu + 1, v0, v1, v2, S => (ix (S.1 v0 18) 2).bind fun j1 => if (S.1 (S.2.2 v0 25) j1) ≤ v2 then (some (v1, S)) else (bd (f_X10_isOff v0 v2 S) fun r3 S2 => if r3 = 0 then (b_X10_offBits_31 (b_X10_offBits_4 fu) v0 v1 v2 S2) else (nm (v1 ||| ((1 : Int32) <<< (v2 &&& 31))) fun x4 => b_X10_offBits_31 (b_X10_offBits_4 fu) v0 x4 v2 S2))
set_option maxRecDepth 20000 in
theorem t_X10_offBits_4 {K : KK} (X : CX K cX10_offBits 3 RX10 (some .int)) (hR : kR K = rmD 1) : ∀ (fu : Nat) (v0 : Nat) (kv0 : KA (kDn K) v0 (0, 10)) (v1 : Int32) (v2 : Int32) (S : St), WT (kDn K) S.2.2 → JX K (Zm K (fun v : Int32 => some (.int v))) 4 [some (.ref v0), some (.int v1), some (.int v2)] [] (rwN (kN K) S) (kn K) 0 0 (b_X10_offBits_4 fu v0 v1 v2 S) := by
  intro fu
  induction fu with
  | zero => intro v0 kv0 v1 v2 S w; exact J_none
  | succ fu ih =>
    intro v0 kv0 v1 v2 S w
    rw [b_X10_offBits_4]
    refine J_iload_n X dX10_offBits_4 (i := 2) rfl rfl ?_
    refine J_aload_n X dX10_offBits_5 (i := 0) rfl rfl ?_
    refine T_getR X (kf := 25) cb10 kv0 (by decide) fl_X10_52 (fun _ _ _ => rfl) dX10_offBits_6 ?_
    refine J_aload_n X dX10_offBits_9 (i := 0) rfl rfl ?_
    refine T_getI X (kf := 18) cb10 kv0 (by decide) fl_X10_239 (fun _ _ _ => rfl) dX10_offBits_10 ?_
    refine T_iald X (w.1 _ _ kv0 25 _ rfl) dX10_offBits_13 (fun j1 => ?_)
    refine J_icmp_ge X (tgt := 37) dX10_offBits_14 (by decide) ?_ ?_
    · refine J_iload_n X dX10_offBits_37 (i := 1) rfl rfl ?_
      exact T_iret w X dX10_offBits_38
    · refine J_aload_n X dX10_offBits_17 (i := 0) rfl rfl ?_
      refine J_iload_n X dX10_offBits_18 (i := 2) rfl rfl ?_
      refine T_callV (As := [.int v2]) w X (C_X10_isOff (kG K) v0 kv0 v2 S) cb10 kv0 ml_X10_360 in_yX10_isOff se_yX10_isOff ii_RX10 co_yX10_isOff hy_X10_isOff (hRd hR (by decide) (by decide)) rfl (Nat.le_of_ble_eq_true rfl) dX10_offBits_19 (fun r3 S2 _ wS2 => ?_)
      refine J_if_eq X (tgt := 31) dX10_offBits_22 (by decide) ?_ ?_
      · exact t_X10_offBits_31 X hR ih v0 kv0 v1 v2 S2 wS2
      · refine J_iload_n X dX10_offBits_25 (i := 1) rfl rfl ?_
        refine J_iconst X (v := (1 : Int32)) dX10_offBits_26 (by decide) ?_
        refine J_iload_n X dX10_offBits_27 (i := 2) rfl rfl ?_
        refine J_ishl X dX10_offBits_28 ?_
        refine J_ior X dX10_offBits_29 ?_
        refine J_nmi (fun x4 => ?_)
        refine J_istore_n X (i := 1) (ls' := [some (.ref v0), some (.int x4), some (.int v2)]) dX10_offBits_30 rfl (by decide) rfl ?_
        exact t_X10_offBits_31 X hR ih v0 kv0 x4 v2 S2 wS2
set_option maxRecDepth 20000 in
def f_X10_offBits (v0 : Nat) (S : St) : Option (Int32 × St) := b_X10_offBits_4 FU v0 (0 : Int32) (0 : Int32) S
set_option maxRecDepth 20000 in
theorem t_X10_offBits_0 {K : KK} (X : CX K cX10_offBits 3 RX10 (some .int)) (hR : kR K = rmD 1) (v0 : Nat) (kv0 : KA (kDn K) v0 (0, 10)) (S : St) (w : WT (kDn K) S.2.2) : JX K (Zm K (fun v : Int32 => some (.int v))) 0 [some (.ref v0), none, none] [] (rwN (kN K) S) (kn K) 0 0 (f_X10_offBits v0 S) := by
  unfold f_X10_offBits
  refine J_iconst X (v := (0 : Int32)) dX10_offBits_0 (by decide) ?_
  refine J_istore_n X (i := 1) (ls' := [some (.ref v0), some (.int (0 : Int32)), none]) dX10_offBits_1 rfl (by decide) rfl ?_
  refine J_iconst X (v := (0 : Int32)) dX10_offBits_2 (by decide) ?_
  refine J_istore_n X (i := 2) (ls' := [some (.ref v0), some (.int (0 : Int32)), some (.int (0 : Int32))]) dX10_offBits_3 rfl (by decide) rfl ?_
  exact t_X10_offBits_4 X hR FU v0 kv0 (0 : Int32) (0 : Int32) S w
theorem C_X10_offBits (G : GG) (v0 : Nat) (kv0 : KA (gD G) v0 (0, 10)) (S : St) : CM G yX10_offBits cX10_offBits 3 (some .int) 1 [.ref v0] S (fun v : Int32 => some (.int v)) (f_X10_offBits v0 S) :=
  CM_of (by decide) (Nat.le_of_ble_eq_true rfl) rfl (fun K hG X hR w => by subst hG; exact t_X10_offBits_0 X hR v0 kv0 S w)
-- ==== X10_firstFrom
theorem hy_X10_firstFrom : yX10_firstFrom.cls ≠ "java/lang/invoke/MethodHandle" ∧ yX10_firstFrom.cls ≠ "java/lang/invoke/VarHandle" ∧ (parseMethodDescriptor yX10_firstFrom.desc).map (fun d => d.parameters.length) = some 0 := by decide +kernel
set_option maxRecDepth 20000 in
def b_X10_firstFrom_43 : Nat → Nat → Int32 → Int32 → St → Option (Int32 × St)
  | 0, _, _, _, _ => none
  | fu + 1, v0, v2, v3, S => if ((v3 >>> ((S.1 v0 63) &&& 31)) &&& (1 : Int32)) = 0 then (nm (sI S v0 63 ((S.1 v0 63) + (1 : Int32))) fun S1 => b_X10_firstFrom_43 fu v0 v2 v3 S1) else (some (v2, S))
set_option maxRecDepth 20000 in
theorem t_X10_firstFrom_43 {K : KK} (X : CX K cX10_firstFrom 4 RX10 (some .int)) (hR : kR K = rmD 8) : ∀ (fu : Nat) (v0 : Nat) (kv0 : KA (kDn K) v0 (0, 10)) (v2 : Int32) (v3 : Int32) (S : St), WT (kDn K) S.2.2 → JX K (Zm K (fun v : Int32 => some (.int v))) 43 [some (.ref v0), none, some (.int v2), some (.int v3)] [] (rwN (kN K) S) (kn K) 0 0 (b_X10_firstFrom_43 fu v0 v2 v3 S) := by
  intro fu
  induction fu with
  | zero => intro v0 kv0 v2 v3 S w; exact J_none
  | succ fu ih =>
    intro v0 kv0 v2 v3 S w
    rw [b_X10_firstFrom_43]
    refine J_iload_n X dX10_firstFrom_43 (i := 3) rfl rfl ?_
    refine J_aload_n X dX10_firstFrom_44 (i := 0) rfl rfl ?_
    refine T_getI X (kf := 63) cb10 kv0 (by decide) fl_X10_447 (fun _ _ _ => rfl) dX10_firstFrom_45 ?_
    refine J_ishr X dX10_firstFrom_48 ?_
    refine J_iconst X (v := (1 : Int32)) dX10_firstFrom_49 (by decide) ?_
    refine J_iand X dX10_firstFrom_50 ?_
    refine J_if_ne X (tgt := 67) dX10_firstFrom_51 (by decide) ?_ ?_
    · refine J_aload_n X dX10_firstFrom_54 (i := 0) rfl rfl ?_
      refine J_dup X dX10_firstFrom_55 rfl ?_
      refine T_getI X (kf := 63) cb10 kv0 (by decide) fl_X10_447 (fun _ _ _ => rfl) dX10_firstFrom_56 ?_
      refine J_iconst X (v := (1 : Int32)) dX10_firstFrom_59 (by decide) ?_
      refine J_iadd X dX10_firstFrom_60 ?_
      refine T_putI X (kf := 63) cb10 kv0 (by decide) fl_X10_447 (fun _ _ _ => rfl) rfl rfl rfl dX10_firstFrom_61 (fun S1 hS1 => ?_)
      have wS1 : WT (kDn K) S1.2.2 := by rw [hS1]; exact w
      clear hS1
      refine J_goto X (tgt := 43) dX10_firstFrom_64 (by decide) ?_
      exact ih v0 kv0 v2 v3 S1 wS1
    · refine J_iload_n X dX10_firstFrom_67 (i := 2) rfl rfl ?_
      exact T_iret w X dX10_firstFrom_68
set_option maxRecDepth 20000 in
def b_X10_firstFrom_12 : Nat → Nat → Int32 → Int32 → St → Option (Int32 × St)
  | 0, _, _, _, _ => none
  | fu + 1, v0, v1, v2, S => if (100 : Int32) < v2 then (nm (sI S v0 63 (-2 : Int32)) fun S1 => some ((101 : Int32), S1)) else (bd (f_X10_monthGoes v0 S) fun _ S2 => bd (f_X10_offBits v0 S2) fun r5 S4 => nm (r5 &&& (v1 ^^^ (-1 : Int32))) fun x6 => if x6 = 0 then (nm (v2 + (1 : Int32)) fun x7 => b_X10_firstFrom_12 fu v0 v1 x7 S4) else (nm (sI S4 v0 63 (0 : Int32)) fun S8 => b_X10_firstFrom_43 FU v0 v2 x6 S8))
set_option maxRecDepth 20000 in
theorem t_X10_firstFrom_12 {K : KK} (X : CX K cX10_firstFrom 4 RX10 (some .int)) (hR : kR K = rmD 8) : ∀ (fu : Nat) (v0 : Nat) (kv0 : KA (kDn K) v0 (0, 10)) (v1 : Int32) (v2 : Int32) (S : St), WT (kDn K) S.2.2 → JX K (Zm K (fun v : Int32 => some (.int v))) 12 [some (.ref v0), some (.int v1), some (.int v2), none] [] (rwN (kN K) S) (kn K) 0 0 (b_X10_firstFrom_12 fu v0 v1 v2 S) := by
  intro fu
  induction fu with
  | zero => intro v0 kv0 v1 v2 S w; exact J_none
  | succ fu ih =>
    intro v0 kv0 v1 v2 S w
    rw [b_X10_firstFrom_12]
    refine J_iload_n X dX10_firstFrom_12 (i := 2) rfl rfl ?_
    refine J_bipush X (v := (100 : Int32)) dX10_firstFrom_13 (by decide) ?_
    refine J_icmp_gt X (tgt := 75) dX10_firstFrom_15 (by decide) ?_ ?_
    · refine J_aload_n X dX10_firstFrom_75 (i := 0) rfl rfl ?_
      refine J_bipush X (v := (-2 : Int32)) dX10_firstFrom_76 (by decide) ?_
      refine T_putI X (kf := 63) cb10 kv0 (by decide) fl_X10_447 (fun _ _ _ => rfl) rfl rfl rfl dX10_firstFrom_78 (fun S1 hS1 => ?_)
      have wS1 : WT (kDn K) S1.2.2 := by rw [hS1]; exact w
      clear hS1
      refine J_bipush X (v := (101 : Int32)) dX10_firstFrom_81 (by decide) ?_
      exact T_iret wS1 X dX10_firstFrom_83
    · refine J_aload_n X dX10_firstFrom_18 (i := 0) rfl rfl ?_
      refine T_callV (As := []) w X (C_X10_monthGoes (kG K) v0 kv0 S) cb10 kv0 ml_X10_416 in_yX10_monthGoes se_yX10_monthGoes ii_RX10 co_yX10_monthGoes hy_X10_monthGoes (hRd hR (by decide) (by decide)) rfl (Nat.le_of_ble_eq_true rfl) dX10_firstFrom_19 (fun _ S2 _ wS2 => ?_)
      refine J_aload_n X dX10_firstFrom_22 (i := 0) rfl rfl ?_
      refine T_callV (As := []) wS2 X (C_X10_offBits (kG K) v0 kv0 S2) cb10 kv0 ml_X10_444 in_yX10_offBits se_yX10_offBits ii_RX10 co_yX10_offBits hy_X10_offBits (hRd hR (by decide) (by decide)) rfl (Nat.le_of_ble_eq_true rfl) dX10_firstFrom_23 (fun r5 S4 _ wS4 => ?_)
      refine J_iload_n X dX10_firstFrom_26 (i := 1) rfl rfl ?_
      refine J_iconst X (v := (-1 : Int32)) dX10_firstFrom_27 (by decide) ?_
      refine J_ixor X dX10_firstFrom_28 ?_
      refine J_iand X dX10_firstFrom_29 ?_
      refine J_nmi (fun x6 => ?_)
      refine J_istore_n X (i := 3) (ls' := [some (.ref v0), some (.int v1), some (.int v2), some (.int x6)]) dX10_firstFrom_30 rfl (by decide) rfl ?_
      refine J_iload_n X dX10_firstFrom_31 (i := 3) rfl rfl ?_
      refine J_if_ne X (tgt := 38) dX10_firstFrom_32 (by decide) ?_ ?_
      · refine J_goto X (tgt := 69) dX10_firstFrom_35 (by decide) ?_
        refine J_nmv (v2 + (1 : Int32)) (fun x7 ex7 => ?_)
        refine J_iinc X (v := x7) (ls' := [some (.ref v0), some (.int v1), some (.int x7), some (.int x6)]) dX10_firstFrom_69 (by decide) rfl (by rw [ex7]; rfl) rfl ?_
        refine J_goto X (tgt := 12) dX10_firstFrom_72 (by decide) ?_
        refine J_mask [true, true, true, false] ?_
        exact ih v0 kv0 v1 x7 S4 wS4
      · refine J_aload_n X dX10_firstFrom_38 (i := 0) rfl rfl ?_
        refine J_iconst X (v := (0 : Int32)) dX10_firstFrom_39 (by decide) ?_
        refine T_putI X (kf := 63) cb10 kv0 (by decide) fl_X10_447 (fun _ _ _ => rfl) rfl rfl rfl dX10_firstFrom_40 (fun S8 hS8 => ?_)
        have wS8 : WT (kDn K) S8.2.2 := by rw [hS8]; exact wS4
        clear hS8
        refine J_mask [true, false, true, true] ?_
        exact t_X10_firstFrom_43 X hR FU v0 kv0 v2 x6 S8 wS8
set_option maxRecDepth 20000 in
def f_X10_firstFrom (v0 : Nat) (S : St) : Option (Int32 × St) := nm (sI S v0 54 (1 : Int32)) fun S1 => bd (f_X10_offBits v0 S1) fun r3 S2 => b_X10_firstFrom_12 FU v0 r3 (1 : Int32) S2
set_option maxRecDepth 20000 in
theorem t_X10_firstFrom_0 {K : KK} (X : CX K cX10_firstFrom 4 RX10 (some .int)) (hR : kR K = rmD 8) (v0 : Nat) (kv0 : KA (kDn K) v0 (0, 10)) (S : St) (w : WT (kDn K) S.2.2) : JX K (Zm K (fun v : Int32 => some (.int v))) 0 [some (.ref v0), none, none, none] [] (rwN (kN K) S) (kn K) 0 0 (f_X10_firstFrom v0 S) := by
  unfold f_X10_firstFrom
  refine J_aload_n X dX10_firstFrom_0 (i := 0) rfl rfl ?_
  refine J_iconst X (v := (1 : Int32)) dX10_firstFrom_1 (by decide) ?_
  refine T_putI X (kf := 54) cb10 kv0 (by decide) fl_X10_332 (fun _ _ _ => rfl) rfl (by first | rfl | decide) (by first | rfl | decide) dX10_firstFrom_2 (fun S1 hS1 => ?_)
  have wS1 : WT (kDn K) S1.2.2 := by rw [hS1]; exact w
  clear hS1
  refine J_aload_n X dX10_firstFrom_5 (i := 0) rfl rfl ?_
  refine T_callV (As := []) wS1 X (C_X10_offBits (kG K) v0 kv0 S1) cb10 kv0 ml_X10_444 in_yX10_offBits se_yX10_offBits ii_RX10 co_yX10_offBits hy_X10_offBits (hRd hR (by decide) (by decide)) rfl (Nat.le_of_ble_eq_true rfl) dX10_firstFrom_6 (fun r3 S2 _ wS2 => ?_)
  refine J_istore_n X (i := 1) (ls' := [some (.ref v0), some (.int r3), none, none]) dX10_firstFrom_9 rfl (by decide) rfl ?_
  refine J_iconst X (v := (1 : Int32)) dX10_firstFrom_10 (by decide) ?_
  refine J_istore_n X (i := 2) (ls' := [some (.ref v0), some (.int r3), some (.int (1 : Int32)), none]) dX10_firstFrom_11 rfl (by decide) rfl ?_
  exact t_X10_firstFrom_12 X hR FU v0 kv0 r3 (1 : Int32) S2 wS2
theorem C_X10_firstFrom (G : GG) (v0 : Nat) (kv0 : KA (gD G) v0 (0, 10)) (S : St) : CM G yX10_firstFrom cX10_firstFrom 4 (some .int) 8 [.ref v0] S (fun v : Int32 => some (.int v)) (f_X10_firstFrom v0 S) :=
  CM_of (by decide) (Nat.le_of_ble_eq_true rfl) rfl (fun K hG X hR w => by subst hG; exact t_X10_firstFrom_0 X hR v0 kv0 S w)
-- ==== X10_first
theorem hy_X10_first : yX10_first.cls ≠ "java/lang/invoke/MethodHandle" ∧ yX10_first.cls ≠ "java/lang/invoke/VarHandle" ∧ (parseMethodDescriptor yX10_first.desc).map (fun d => d.parameters.length) = some 1 := by decide +kernel
set_option maxRecDepth 20000 in
def f_X10_first (v0 : Nat) (v1 : Int32) (S : St) : Option (Int32 × St) := bd (f_X10_in v1 (0 : Int32) (1 : Int32) S) fun r2 S1 => if r2 = 0 then (some ((-1 : Int32), S1)) else (bd (f_X10_copies v0 S1) fun _ S3 => bd (f_X10_firstFrom v0 S3) fun r6 S5 => if v1 = (1 : Int32) then (some (S5.1 v0 63, S5)) else (if r6 = (101 : Int32) then (some ((-2 : Int32), S5)) else (some (r6, S5))))
set_option maxRecDepth 20000 in
theorem t_X10_first_0 {K : KK} (X : CX K cX10_first 3 RX10 (some .int)) (hR : kR K = rmD 9) (v0 : Nat) (kv0 : KA (kDn K) v0 (0, 10)) (v1 : Int32) (S : St) (w : WT (kDn K) S.2.2) : JX K (Zm K (fun v : Int32 => some (.int v))) 0 [some (.ref v0), some (.int v1), none] [] (rwN (kN K) S) (kn K) 0 0 (f_X10_first v0 v1 S) := by
  unfold f_X10_first
  refine J_iload_n X dX10_first_0 (i := 1) rfl rfl ?_
  refine J_iconst X (v := (0 : Int32)) dX10_first_1 (by decide) ?_
  refine J_iconst X (v := (1 : Int32)) dX10_first_2 (by decide) ?_
  refine T_callS (As := [.int v1, .int (0 : Int32), .int (1 : Int32)]) w X (C_X10_in (kG K) v1 (0 : Int32) (1 : Int32) S) ml_X10_325 st_yX10_in ii_RX10 co_yX10_in hy_X10_in (hRd hR (by decide) (by decide)) rfl (Nat.le_of_ble_eq_true rfl) dX10_first_3 (fun r2 S1 _ wS1 => ?_)
  refine J_if_ne X (tgt := 11) dX10_first_6 (by decide) ?_ ?_
  · refine J_iconst X (v := (-1 : Int32)) dX10_first_9 (by decide) ?_
    exact T_iret wS1 X dX10_first_10
  · refine J_aload_n X dX10_first_11 (i := 0) rfl rfl ?_
    refine T_callV (As := []) wS1 X (C_X10_copies (kG K) v0 kv0 S1) cb10 kv0 ml_X10_335 in_yX10_copies se_yX10_copies ii_RX10 co_yX10_copies hy_X10_copies (hRd hR (by decide) (by decide)) rfl (Nat.le_of_ble_eq_true rfl) dX10_first_12 (fun _ S3 _ wS3 => ?_)
    refine J_aload_n X dX10_first_15 (i := 0) rfl rfl ?_
    refine T_callV (As := []) wS3 X (C_X10_firstFrom (kG K) v0 kv0 S3) cb10 kv0 ml_X10_450 in_yX10_firstFrom se_yX10_firstFrom ii_RX10 co_yX10_firstFrom hy_X10_firstFrom (hRd hR (by decide) (by decide)) rfl (Nat.le_of_ble_eq_true rfl) dX10_first_16 (fun r6 S5 _ wS5 => ?_)
    refine J_istore_n X (i := 2) (ls' := [some (.ref v0), some (.int v1), some (.int r6)]) dX10_first_19 rfl (by decide) rfl ?_
    refine J_iload_n X dX10_first_20 (i := 1) rfl rfl ?_
    refine J_iconst X (v := (1 : Int32)) dX10_first_21 (by decide) ?_
    refine J_icmp_ne X (tgt := 32) dX10_first_22 (by decide) ?_ ?_
    · refine J_aload_n X dX10_first_25 (i := 0) rfl rfl ?_
      refine T_getI X (kf := 63) cb10 kv0 (by decide) fl_X10_447 (fun _ _ _ => rfl) dX10_first_26 ?_
      refine J_goto X (tgt := 44) dX10_first_29 (by decide) ?_
      exact T_iret wS5 X dX10_first_44
    · refine J_iload_n X dX10_first_32 (i := 2) rfl rfl ?_
      refine J_bipush X (v := (101 : Int32)) dX10_first_33 (by decide) ?_
      refine J_icmp_ne X (tgt := 43) dX10_first_35 (by decide) ?_ ?_
      · refine J_bipush X (v := (-2 : Int32)) dX10_first_38 (by decide) ?_
        refine J_goto X (tgt := 44) dX10_first_40 (by decide) ?_
        exact T_iret wS5 X dX10_first_44
      · refine J_iload_n X dX10_first_43 (i := 2) rfl rfl ?_
        exact T_iret wS5 X dX10_first_44
theorem C_X10_first (G : GG) (v0 : Nat) (kv0 : KA (gD G) v0 (0, 10)) (v1 : Int32) (S : St) : CM G yX10_first cX10_first 3 (some .int) 9 [.ref v0, .int v1] S (fun v : Int32 => some (.int v)) (f_X10_first v0 v1 S) :=
  CM_of (by decide) (Nat.le_of_ble_eq_true rfl) rfl (fun K hG X hR w => by subst hG; exact t_X10_first_0 X hR v0 kv0 v1 S w)
-- ==== X10_isNear
theorem hy_X10_isNear : yX10_isNear.cls ≠ "java/lang/invoke/MethodHandle" ∧ yX10_isNear.cls ≠ "java/lang/invoke/VarHandle" ∧ (parseMethodDescriptor yX10_isNear.desc).map (fun d => d.parameters.length) = some 1 := by decide +kernel
set_option maxRecDepth 20000 in
def f_X10_isNear (v0 : Int32) (S : St) : Option (Int32 × St) := bd (f_X10_in v0 (0 : Int32) (9 : Int32) S) fun r2 S1 => (gb r2).bind fun v => some (v, S1)
set_option maxRecDepth 20000 in
theorem t_X10_isNear_0 {K : KK} (X : CX K cX10_isNear 1 RX10 (some .boolean)) (hR : kR K = rmD 1) (v0 : Int32) (S : St) (w : WT (kDn K) S.2.2) : JX K (Zm K (fun v : Int32 => some (.int v))) 0 [some (.int v0)] [] (rwN (kN K) S) (kn K) 0 0 (f_X10_isNear v0 S) := by
  unfold f_X10_isNear
  refine J_iload_n X dX10_isNear_0 (i := 0) rfl rfl ?_
  refine J_iconst X (v := (0 : Int32)) dX10_isNear_1 (by decide) ?_
  refine J_bipush X (v := (9 : Int32)) dX10_isNear_2 (by decide) ?_
  refine T_callS (As := [.int v0, .int (0 : Int32), .int (9 : Int32)]) w X (C_X10_in (kG K) v0 (0 : Int32) (9 : Int32) S) ml_X10_325 st_yX10_in ii_RX10 co_yX10_in hy_X10_in (hRd hR (by decide) (by decide)) rfl (Nat.le_of_ble_eq_true rfl) dX10_isNear_4 (fun r2 S1 _ wS1 => ?_)
  exact T_gret wS1 X dX10_isNear_7
theorem C_X10_isNear (G : GG) (v0 : Int32) (S : St) : CM G yX10_isNear cX10_isNear 1 (some .boolean) 1 [.int v0] S (fun v : Int32 => some (.int v)) (f_X10_isNear v0 S) :=
  CM_of (by decide) (Nat.le_of_ble_eq_true rfl) rfl (fun K hG X hR w => by subst hG; exact t_X10_isNear_0 X hR v0 S w)
-- ==== X10_near
theorem hy_X10_near : yX10_near.cls ≠ "java/lang/invoke/MethodHandle" ∧ yX10_near.cls ≠ "java/lang/invoke/VarHandle" ∧ (parseMethodDescriptor yX10_near.desc).map (fun d => d.parameters.length) = some 3 := by decide +kernel
set_option maxRecDepth 20000 in
def b_X10_near_32 : Nat → Nat → Int32 → Int32 → Int32 → Int32 → St → Option (Int32 × St)
  | 0, _, _, _, _, _, _ => none
  | fu + 1, v0, v1, v2, v3, v4, S => if (100 : Int32) < v4 then (some ((-2 : Int32), S)) else ((ix ((20 : Int32) + v2) 55).bind fun j1 => (ix ((26 : Int32) + v2) 55).bind fun j2 => bd (f_X10_farFrom v0 v1 (S.1 (S.2.2 v0 52) j1) (S.1 (S.2.2 v0 52) j2) S) fun r4 S3 => if v3 < r4 then (bd (f_X10_swimsFor v0 v1 (1 : Int32) S3) fun _ S5 => nm (v4 + (1 : Int32)) fun x7 => b_X10_near_32 fu v0 v1 v2 v3 x7 S5) else (some (v4, S3)))
set_option maxRecDepth 20000 in
theorem t_X10_near_32 {K : KK} (X : CX K cX10_near 5 RX10 (some .int)) (hR : kR K = rmD 2) : ∀ (fu : Nat) (v0 : Nat) (kv0 : KA (kDn K) v0 (0, 10)) (v1 : Int32) (v2 : Int32) (v3 : Int32) (v4 : Int32) (S : St), WT (kDn K) S.2.2 → JX K (Zm K (fun v : Int32 => some (.int v))) 32 [some (.ref v0), some (.int v1), some (.int v2), some (.int v3), some (.int v4)] [] (rwN (kN K) S) (kn K) 0 0 (b_X10_near_32 fu v0 v1 v2 v3 v4 S) := by
  intro fu
  induction fu with
  | zero => intro v0 kv0 v1 v2 v3 v4 S w; exact J_none
  | succ fu ih =>
    intro v0 kv0 v1 v2 v3 v4 S w
    rw [b_X10_near_32]
    refine J_iload X dX10_near_32 rfl ?_
    refine J_bipush X (v := (100 : Int32)) dX10_near_34 (by decide) ?_
    refine J_icmp_gt X (tgt := 81) dX10_near_36 (by decide) ?_ ?_
    · refine J_bipush X (v := (-2 : Int32)) dX10_near_81 (by decide) ?_
      exact T_iret w X dX10_near_83
    · refine J_aload_n X dX10_near_39 (i := 0) rfl rfl ?_
      refine J_iload_n X dX10_near_40 (i := 1) rfl rfl ?_
      refine J_aload_n X dX10_near_41 (i := 0) rfl rfl ?_
      refine T_getR X (kf := 52) cb10 kv0 (by decide) fl_X10_122 (fun _ _ _ => rfl) dX10_near_42 ?_
      refine J_bipush X (v := (20 : Int32)) dX10_near_45 (by decide) ?_
      refine J_iload_n X dX10_near_47 (i := 2) rfl rfl ?_
      refine J_iadd X dX10_near_48 ?_
      refine T_iald X (w.1 _ _ kv0 52 _ rfl) dX10_near_49 (fun j1 => ?_)
      refine J_aload_n X dX10_near_50 (i := 0) rfl rfl ?_
      refine T_getR X (kf := 52) cb10 kv0 (by decide) fl_X10_122 (fun _ _ _ => rfl) dX10_near_51 ?_
      refine J_bipush X (v := (26 : Int32)) dX10_near_54 (by decide) ?_
      refine J_iload_n X dX10_near_56 (i := 2) rfl rfl ?_
      refine J_iadd X dX10_near_57 ?_
      refine T_iald X (w.1 _ _ kv0 52 _ rfl) dX10_near_58 (fun j2 => ?_)
      refine T_callV (As := [.int v1, .int (S.1 (S.2.2 v0 52) j1), .int (S.1 (S.2.2 v0 52) j2)]) w X (C_X10_farFrom (kG K) v0 kv0 v1 (S.1 (S.2.2 v0 52) j1) (S.1 (S.2.2 v0 52) j2) S) cb10 kv0 ml_X10_357 in_yX10_farFrom se_yX10_farFrom ii_RX10 co_yX10_farFrom hy_X10_farFrom (hRd hR (by decide) (by decide)) rfl (Nat.le_of_ble_eq_true rfl) dX10_near_59 (fun r4 S3 _ wS3 => ?_)
      refine J_iload_n X dX10_near_62 (i := 3) rfl rfl ?_
      refine J_icmp_gt X (tgt := 69) dX10_near_63 (by decide) ?_ ?_
      · refine J_aload_n X dX10_near_69 (i := 0) rfl rfl ?_
        refine J_iload_n X dX10_near_70 (i := 1) rfl rfl ?_
        refine J_iconst X (v := (1 : Int32)) dX10_near_71 (by decide) ?_
        refine T_callV (As := [.int v1, .int (1 : Int32)]) wS3 X (C_X10_swimsFor (kG K) v0 kv0 v1 (1 : Int32) S3) cb10 kv0 ml_X10_441 in_yX10_swimsFor se_yX10_swimsFor ii_RX10 co_yX10_swimsFor hy_X10_swimsFor (hRd hR (by decide) (by decide)) rfl (Nat.le_of_ble_eq_true rfl) dX10_near_72 (fun _ S5 _ wS5 => ?_)
        refine J_nmv (v4 + (1 : Int32)) (fun x7 ex7 => ?_)
        refine J_iinc X (v := x7) (ls' := [some (.ref v0), some (.int v1), some (.int v2), some (.int v3), some (.int x7)]) dX10_near_75 (by decide) rfl (by rw [ex7]; rfl) rfl ?_
        refine J_goto X (tgt := 32) dX10_near_78 (by decide) ?_
        exact ih v0 kv0 v1 v2 v3 x7 S5 wS5
      · refine J_iload X dX10_near_66 rfl ?_
        exact T_iret wS3 X dX10_near_68
set_option maxRecDepth 20000 in
def f_X10_near (v0 : Nat) (v1 : Int32) (v2 : Int32) (v3 : Int32) (S : St) : Option (Int32 × St) := bd (f_X10_isMermaid v0 v1 S) fun r2 S1 => if r2 = 0 then (some ((-1 : Int32), S1)) else (bd (f_X10_isPerson v0 v2 S1) fun r4 S3 => if r4 = 0 then (some ((-1 : Int32), S3)) else (bd (f_X10_isNear v3 S3) fun r6 S5 => if r6 = 0 then (some ((-1 : Int32), S5)) else (bd (f_X10_copies v0 S5) fun _ S7 => b_X10_near_32 FU v0 v1 v2 v3 (0 : Int32) S7)))
set_option maxRecDepth 20000 in
theorem t_X10_near_0 {K : KK} (X : CX K cX10_near 5 RX10 (some .int)) (hR : kR K = rmD 2) (v0 : Nat) (kv0 : KA (kDn K) v0 (0, 10)) (v1 : Int32) (v2 : Int32) (v3 : Int32) (S : St) (w : WT (kDn K) S.2.2) : JX K (Zm K (fun v : Int32 => some (.int v))) 0 [some (.ref v0), some (.int v1), some (.int v2), some (.int v3), none] [] (rwN (kN K) S) (kn K) 0 0 (f_X10_near v0 v1 v2 v3 S) := by
  unfold f_X10_near
  refine J_aload_n X dX10_near_0 (i := 0) rfl rfl ?_
  refine J_iload_n X dX10_near_1 (i := 1) rfl rfl ?_
  refine T_callV (As := [.int v1]) w X (C_X10_isMermaid (kG K) v0 kv0 v1 S) cb10 kv0 ml_X10_419 in_yX10_isMermaid se_yX10_isMermaid ii_RX10 co_yX10_isMermaid hy_X10_isMermaid (hRd hR (by decide) (by decide)) rfl (Nat.le_of_ble_eq_true rfl) dX10_near_2 (fun r2 S1 _ wS1 => ?_)
  refine J_if_eq X (tgt := 23) dX10_near_5 (by decide) ?_ ?_
  · refine J_iconst X (v := (-1 : Int32)) dX10_near_23 (by decide) ?_
    exact T_iret wS1 X dX10_near_24
  · refine J_aload_n X dX10_near_8 (i := 0) rfl rfl ?_
    refine J_iload_n X dX10_near_9 (i := 2) rfl rfl ?_
    refine T_callV (As := [.int v2]) wS1 X (C_X10_isPerson (kG K) v0 kv0 v2 S1) cb10 kv0 ml_X10_422 in_yX10_isPerson se_yX10_isPerson ii_RX10 co_yX10_isPerson hy_X10_isPerson (hRd hR (by decide) (by decide)) rfl (Nat.le_of_ble_eq_true rfl) dX10_near_10 (fun r4 S3 _ wS3 => ?_)
    refine J_if_eq X (tgt := 23) dX10_near_13 (by decide) ?_ ?_
    · refine J_iconst X (v := (-1 : Int32)) dX10_near_23 (by decide) ?_
      exact T_iret wS3 X dX10_near_24
    · refine J_iload_n X dX10_near_16 (i := 3) rfl rfl ?_
      refine T_callS (As := [.int v3]) wS3 X (C_X10_isNear (kG K) v3 S3) ml_X10_453 st_yX10_isNear ii_RX10 co_yX10_isNear hy_X10_isNear (hRd hR (by decide) (by decide)) rfl (Nat.le_of_ble_eq_true rfl) dX10_near_17 (fun r6 S5 _ wS5 => ?_)
      refine J_if_ne X (tgt := 25) dX10_near_20 (by decide) ?_ ?_
      · refine J_iconst X (v := (-1 : Int32)) dX10_near_23 (by decide) ?_
        exact T_iret wS5 X dX10_near_24
      · refine J_aload_n X dX10_near_25 (i := 0) rfl rfl ?_
        refine T_callV (As := []) wS5 X (C_X10_copies (kG K) v0 kv0 S5) cb10 kv0 ml_X10_335 in_yX10_copies se_yX10_copies ii_RX10 co_yX10_copies hy_X10_copies (hRd hR (by decide) (by decide)) rfl (Nat.le_of_ble_eq_true rfl) dX10_near_26 (fun _ S7 _ wS7 => ?_)
        refine J_iconst X (v := (0 : Int32)) dX10_near_29 (by decide) ?_
        refine J_istore X (ls' := [some (.ref v0), some (.int v1), some (.int v2), some (.int v3), some (.int (0 : Int32))]) dX10_near_30 (by decide) rfl ?_
        exact t_X10_near_32 X hR FU v0 kv0 v1 v2 v3 (0 : Int32) S7 wS7
theorem C_X10_near (G : GG) (v0 : Nat) (kv0 : KA (gD G) v0 (0, 10)) (v1 : Int32) (v2 : Int32) (v3 : Int32) (S : St) : CM G yX10_near cX10_near 5 (some .int) 2 [.ref v0, .int v1, .int v2, .int v3] S (fun v : Int32 => some (.int v)) (f_X10_near v0 v1 v2 v3 S) :=
  CM_of (by decide) (Nat.le_of_ble_eq_true rfl) rfl (fun K hG X hR w => by subst hG; exact t_X10_near_0 X hR v0 kv0 v1 v2 v3 S w)
-- ==== X10_wholeBits
theorem hy_X10_wholeBits : yX10_wholeBits.cls ≠ "java/lang/invoke/MethodHandle" ∧ yX10_wholeBits.cls ≠ "java/lang/invoke/VarHandle" ∧ (parseMethodDescriptor yX10_wholeBits.desc).map (fun d => d.parameters.length) = some 0 := by decide +kernel
set_option maxRecDepth 20000 in
def b_X10_wholeBits_31 (q4 : Nat → Int32 → Int32 → St → Option (Int32 × St)) (v0 : Nat) (v1 : Int32) (v2 : Int32) (S : St) : Option (Int32 × St) := nm (v2 + (1 : Int32)) fun x1 => q4 v0 v1 x1 S
set_option maxRecDepth 20000 in
theorem t_X10_wholeBits_31 {K : KK} (X : CX K cX10_wholeBits 3 RX10 (some .int)) (hR : kR K = rmD 1) {q4 : Nat → Int32 → Int32 → St → Option (Int32 × St)} (hq4 : ∀ (v0 : Nat) (kv0 : KA (kDn K) v0 (0, 10)) (v1 : Int32) (v2 : Int32) (S : St), WT (kDn K) S.2.2 → JX K (Zm K (fun v : Int32 => some (.int v))) 4 [some (.ref v0), some (.int v1), some (.int v2)] [] (rwN (kN K) S) (kn K) 0 0 (q4 v0 v1 v2 S)) (v0 : Nat) (kv0 : KA (kDn K) v0 (0, 10)) (v1 : Int32) (v2 : Int32) (S : St) (w : WT (kDn K) S.2.2) : JX K (Zm K (fun v : Int32 => some (.int v))) 31 [some (.ref v0), some (.int v1), some (.int v2)] [] (rwN (kN K) S) (kn K) 0 0 (b_X10_wholeBits_31 q4 v0 v1 v2 S) := by
  unfold b_X10_wholeBits_31
  refine J_nmv (v2 + (1 : Int32)) (fun x1 ex1 => ?_)
  refine J_iinc X (v := x1) (ls' := [some (.ref v0), some (.int v1), some (.int x1)]) dX10_wholeBits_31 (by decide) rfl (by rw [ex1]; rfl) rfl ?_
  refine J_goto X (tgt := 4) dX10_wholeBits_34 (by decide) ?_
  exact hq4 v0 kv0 v1 x1 S w
set_option maxRecDepth 20000 in
def b_X10_wholeBits_4 : Nat → Nat → Int32 → Int32 → St → Option (Int32 × St)
  | 0, _, _, _, _ => none
  | fu + 1, v0, v1, v2, S => (ix (S.1 v0 18) 2).bind fun j1 => if (S.1 (S.2.2 v0 29) j1) ≤ v2 then (some (v1, S)) else (bd (f_X10_isCut v0 v2 S) fun r3 S2 => if r3 = 0 then (nm (v1 ||| ((1 : Int32) <<< (v2 &&& 31))) fun x4 => b_X10_wholeBits_31 (b_X10_wholeBits_4 fu) v0 x4 v2 S2) else (b_X10_wholeBits_31 (b_X10_wholeBits_4 fu) v0 v1 v2 S2))
set_option maxRecDepth 20000 in
theorem t_X10_wholeBits_4 {K : KK} (X : CX K cX10_wholeBits 3 RX10 (some .int)) (hR : kR K = rmD 1) : ∀ (fu : Nat) (v0 : Nat) (kv0 : KA (kDn K) v0 (0, 10)) (v1 : Int32) (v2 : Int32) (S : St), WT (kDn K) S.2.2 → JX K (Zm K (fun v : Int32 => some (.int v))) 4 [some (.ref v0), some (.int v1), some (.int v2)] [] (rwN (kN K) S) (kn K) 0 0 (b_X10_wholeBits_4 fu v0 v1 v2 S) := by
  intro fu
  induction fu with
  | zero => intro v0 kv0 v1 v2 S w; exact J_none
  | succ fu ih =>
    intro v0 kv0 v1 v2 S w
    rw [b_X10_wholeBits_4]
    refine J_iload_n X dX10_wholeBits_4 (i := 2) rfl rfl ?_
    refine J_aload_n X dX10_wholeBits_5 (i := 0) rfl rfl ?_
    refine T_getR X (kf := 29) cb10 kv0 (by decide) fl_X10_64 (fun _ _ _ => rfl) dX10_wholeBits_6 ?_
    refine J_aload_n X dX10_wholeBits_9 (i := 0) rfl rfl ?_
    refine T_getI X (kf := 18) cb10 kv0 (by decide) fl_X10_239 (fun _ _ _ => rfl) dX10_wholeBits_10 ?_
    refine T_iald X (w.1 _ _ kv0 29 _ rfl) dX10_wholeBits_13 (fun j1 => ?_)
    refine J_icmp_ge X (tgt := 37) dX10_wholeBits_14 (by decide) ?_ ?_
    · refine J_iload_n X dX10_wholeBits_37 (i := 1) rfl rfl ?_
      exact T_iret w X dX10_wholeBits_38
    · refine J_aload_n X dX10_wholeBits_17 (i := 0) rfl rfl ?_
      refine J_iload_n X dX10_wholeBits_18 (i := 2) rfl rfl ?_
      refine T_callV (As := [.int v2]) w X (C_X10_isCut (kG K) v0 kv0 v2 S) cb10 kv0 ml_X10_342 in_yX10_isCut se_yX10_isCut ii_RX10 co_yX10_isCut hy_X10_isCut (hRd hR (by decide) (by decide)) rfl (Nat.le_of_ble_eq_true rfl) dX10_wholeBits_19 (fun r3 S2 _ wS2 => ?_)
      refine J_if_ne X (tgt := 31) dX10_wholeBits_22 (by decide) ?_ ?_
      · refine J_iload_n X dX10_wholeBits_25 (i := 1) rfl rfl ?_
        refine J_iconst X (v := (1 : Int32)) dX10_wholeBits_26 (by decide) ?_
        refine J_iload_n X dX10_wholeBits_27 (i := 2) rfl rfl ?_
        refine J_ishl X dX10_wholeBits_28 ?_
        refine J_ior X dX10_wholeBits_29 ?_
        refine J_nmi (fun x4 => ?_)
        refine J_istore_n X (i := 1) (ls' := [some (.ref v0), some (.int x4), some (.int v2)]) dX10_wholeBits_30 rfl (by decide) rfl ?_
        exact t_X10_wholeBits_31 X hR ih v0 kv0 x4 v2 S2 wS2
      · exact t_X10_wholeBits_31 X hR ih v0 kv0 v1 v2 S2 wS2
set_option maxRecDepth 20000 in
def f_X10_wholeBits (v0 : Nat) (S : St) : Option (Int32 × St) := b_X10_wholeBits_4 FU v0 (0 : Int32) (0 : Int32) S
set_option maxRecDepth 20000 in
theorem t_X10_wholeBits_0 {K : KK} (X : CX K cX10_wholeBits 3 RX10 (some .int)) (hR : kR K = rmD 1) (v0 : Nat) (kv0 : KA (kDn K) v0 (0, 10)) (S : St) (w : WT (kDn K) S.2.2) : JX K (Zm K (fun v : Int32 => some (.int v))) 0 [some (.ref v0), none, none] [] (rwN (kN K) S) (kn K) 0 0 (f_X10_wholeBits v0 S) := by
  unfold f_X10_wholeBits
  refine J_iconst X (v := (0 : Int32)) dX10_wholeBits_0 (by decide) ?_
  refine J_istore_n X (i := 1) (ls' := [some (.ref v0), some (.int (0 : Int32)), none]) dX10_wholeBits_1 rfl (by decide) rfl ?_
  refine J_iconst X (v := (0 : Int32)) dX10_wholeBits_2 (by decide) ?_
  refine J_istore_n X (i := 2) (ls' := [some (.ref v0), some (.int (0 : Int32)), some (.int (0 : Int32))]) dX10_wholeBits_3 rfl (by decide) rfl ?_
  exact t_X10_wholeBits_4 X hR FU v0 kv0 (0 : Int32) (0 : Int32) S w
theorem C_X10_wholeBits (G : GG) (v0 : Nat) (kv0 : KA (gD G) v0 (0, 10)) (S : St) : CM G yX10_wholeBits cX10_wholeBits 3 (some .int) 1 [.ref v0] S (fun v : Int32 => some (.int v)) (f_X10_wholeBits v0 S) :=
  CM_of (by decide) (Nat.le_of_ble_eq_true rfl) rfl (fun K hG X hR w => by subst hG; exact t_X10_wholeBits_0 X hR v0 kv0 S w)
-- ==== X10_plaitFrom
theorem hy_X10_plaitFrom : yX10_plaitFrom.cls ≠ "java/lang/invoke/MethodHandle" ∧ yX10_plaitFrom.cls ≠ "java/lang/invoke/VarHandle" ∧ (parseMethodDescriptor yX10_plaitFrom.desc).map (fun d => d.parameters.length) = some 4 := by decide +kernel
set_option maxRecDepth 20000 in
def b_X10_plaitFrom_106 (q13 : Nat → Int32 → Int32 → Int32 → Int32 → Int32 → Int32 → St → Option (Int32 × St)) (v0 : Nat) (v1 : Int32) (v3 : Int32) (v4 : Int32) (v5 : Int32) (v6 : Int32) (v7 : Int32) (S : St) : Option (Int32 × St) := nm (v7 + (1 : Int32)) fun x1 => q13 v0 v1 v3 v4 v5 v6 x1 S
set_option maxRecDepth 20000 in
theorem t_X10_plaitFrom_106 {K : KK} (X : CX K cX10_plaitFrom 8 RX10 (some .int)) (hR : kR K = rmD 4) {q13 : Nat → Int32 → Int32 → Int32 → Int32 → Int32 → Int32 → St → Option (Int32 × St)} (hq13 : ∀ (v0 : Nat) (kv0 : KA (kDn K) v0 (0, 10)) (v1 : Int32) (v3 : Int32) (v4 : Int32) (v5 : Int32) (v6 : Int32) (v7 : Int32) (S : St), WT (kDn K) S.2.2 → JX K (Zm K (fun v : Int32 => some (.int v))) 13 [some (.ref v0), some (.int v1), none, some (.int v3), some (.int v4), some (.int v5), some (.int v6), some (.int v7)] [] (rwN (kN K) S) (kn K) 0 0 (q13 v0 v1 v3 v4 v5 v6 v7 S)) (v0 : Nat) (kv0 : KA (kDn K) v0 (0, 10)) (v1 : Int32) (v3 : Int32) (v4 : Int32) (v5 : Int32) (v6 : Int32) (v7 : Int32) (S : St) (w : WT (kDn K) S.2.2) : JX K (Zm K (fun v : Int32 => some (.int v))) 106 [some (.ref v0), some (.int v1), none, some (.int v3), some (.int v4), some (.int v5), some (.int v6), some (.int v7)] [] (rwN (kN K) S) (kn K) 0 0 (b_X10_plaitFrom_106 q13 v0 v1 v3 v4 v5 v6 v7 S) := by
  unfold b_X10_plaitFrom_106
  refine J_nmv (v7 + (1 : Int32)) (fun x1 ex1 => ?_)
  refine J_iinc X (v := x1) (ls' := [some (.ref v0), some (.int v1), none, some (.int v3), some (.int v4), some (.int v5), some (.int v6), some (.int x1)]) dX10_plaitFrom_106 (by decide) rfl (by rw [ex1]; rfl) rfl ?_
  refine J_goto X (tgt := 13) dX10_plaitFrom_109 (by decide) ?_
  exact hq13 v0 kv0 v1 v3 v4 v5 v6 x1 S w
set_option maxRecDepth 20000 in
def b_X10_plaitFrom_60 (q13 : Nat → Int32 → Int32 → Int32 → Int32 → Int32 → Int32 → St → Option (Int32 × St)) (v0 : Nat) (v1 : Int32) (v3 : Int32) (v4 : Int32) (v5 : Int32) (v6 : Int32) (v7 : Int32) (S : St) : Option (Int32 × St) := (ix ((20 : Int32) + v1) 55).bind fun j1 => (ix ((26 : Int32) + v1) 55).bind fun j2 => bd (f_X10_pullsBy v0 v7 v1 (S.1 (S.2.2 v0 52) j1) (S.1 (S.2.2 v0 52) j2) S) fun _ S3 => if (S3.1 v0 55) = v3 then (if (S3.1 v0 56) = v4 then (b_X10_plaitFrom_106 q13 v0 v1 v3 v4 v5 v7 v7 S3) else (b_X10_plaitFrom_106 q13 v0 v1 v3 v4 v5 v6 v7 S3)) else (b_X10_plaitFrom_106 q13 v0 v1 v3 v4 v5 v6 v7 S3)
set_option maxRecDepth 20000 in
theorem t_X10_plaitFrom_60 {K : KK} (X : CX K cX10_plaitFrom 8 RX10 (some .int)) (hR : kR K = rmD 4) {q13 : Nat → Int32 → Int32 → Int32 → Int32 → Int32 → Int32 → St → Option (Int32 × St)} (hq13 : ∀ (v0 : Nat) (kv0 : KA (kDn K) v0 (0, 10)) (v1 : Int32) (v3 : Int32) (v4 : Int32) (v5 : Int32) (v6 : Int32) (v7 : Int32) (S : St), WT (kDn K) S.2.2 → JX K (Zm K (fun v : Int32 => some (.int v))) 13 [some (.ref v0), some (.int v1), none, some (.int v3), some (.int v4), some (.int v5), some (.int v6), some (.int v7)] [] (rwN (kN K) S) (kn K) 0 0 (q13 v0 v1 v3 v4 v5 v6 v7 S)) (v0 : Nat) (kv0 : KA (kDn K) v0 (0, 10)) (v1 : Int32) (v3 : Int32) (v4 : Int32) (v5 : Int32) (v6 : Int32) (v7 : Int32) (S : St) (w : WT (kDn K) S.2.2) : JX K (Zm K (fun v : Int32 => some (.int v))) 60 [some (.ref v0), some (.int v1), none, some (.int v3), some (.int v4), some (.int v5), some (.int v6), some (.int v7)] [] (rwN (kN K) S) (kn K) 0 0 (b_X10_plaitFrom_60 q13 v0 v1 v3 v4 v5 v6 v7 S) := by
  unfold b_X10_plaitFrom_60
  refine J_aload_n X dX10_plaitFrom_60 (i := 0) rfl rfl ?_
  refine J_iload X dX10_plaitFrom_61 rfl ?_
  refine J_iload_n X dX10_plaitFrom_63 (i := 1) rfl rfl ?_
  refine J_aload_n X dX10_plaitFrom_64 (i := 0) rfl rfl ?_
  refine T_getR X (kf := 52) cb10 kv0 (by decide) fl_X10_122 (fun _ _ _ => rfl) dX10_plaitFrom_65 ?_
  refine J_bipush X (v := (20 : Int32)) dX10_plaitFrom_68 (by decide) ?_
  refine J_iload_n X dX10_plaitFrom_70 (i := 1) rfl rfl ?_
  refine J_iadd X dX10_plaitFrom_71 ?_
  refine T_iald X (w.1 _ _ kv0 52 _ rfl) dX10_plaitFrom_72 (fun j1 => ?_)
  refine J_aload_n X dX10_plaitFrom_73 (i := 0) rfl rfl ?_
  refine T_getR X (kf := 52) cb10 kv0 (by decide) fl_X10_122 (fun _ _ _ => rfl) dX10_plaitFrom_74 ?_
  refine J_bipush X (v := (26 : Int32)) dX10_plaitFrom_77 (by decide) ?_
  refine J_iload_n X dX10_plaitFrom_79 (i := 1) rfl rfl ?_
  refine J_iadd X dX10_plaitFrom_80 ?_
  refine T_iald X (w.1 _ _ kv0 52 _ rfl) dX10_plaitFrom_81 (fun j2 => ?_)
  refine T_callV (As := [.int v7, .int v1, .int (S.1 (S.2.2 v0 52) j1), .int (S.1 (S.2.2 v0 52) j2)]) w X (C_X10_pullsBy (kG K) v0 kv0 v7 v1 (S.1 (S.2.2 v0 52) j1) (S.1 (S.2.2 v0 52) j2) S) cb10 kv0 ml_X10_391 in_yX10_pullsBy se_yX10_pullsBy ii_RX10 co_yX10_pullsBy hy_X10_pullsBy (hRd hR (by decide) (by decide)) rfl (Nat.le_of_ble_eq_true rfl) dX10_plaitFrom_82 (fun _ S3 _ wS3 => ?_)
  refine J_aload_n X dX10_plaitFrom_85 (i := 0) rfl rfl ?_
  refine T_getI X (kf := 55) cb10 kv0 (by decide) fl_X10_372 (fun _ _ _ => rfl) dX10_plaitFrom_86 ?_
  refine J_iload_n X dX10_plaitFrom_89 (i := 3) rfl rfl ?_
  refine J_icmp_ne X (tgt := 106) dX10_plaitFrom_90 (by decide) ?_ ?_
  · refine J_aload_n X dX10_plaitFrom_93 (i := 0) rfl rfl ?_
    refine T_getI X (kf := 56) cb10 kv0 (by decide) fl_X10_375 (fun _ _ _ => rfl) dX10_plaitFrom_94 ?_
    refine J_iload X dX10_plaitFrom_97 rfl ?_
    refine J_icmp_ne X (tgt := 106) dX10_plaitFrom_99 (by decide) ?_ ?_
    · refine J_iload X dX10_plaitFrom_102 rfl ?_
      refine J_istore X (ls' := [some (.ref v0), some (.int v1), none, some (.int v3), some (.int v4), some (.int v5), some (.int v7), some (.int v7)]) dX10_plaitFrom_104 (by decide) rfl ?_
      exact t_X10_plaitFrom_106 X hR hq13 v0 kv0 v1 v3 v4 v5 v7 v7 S3 wS3
    · exact t_X10_plaitFrom_106 X hR hq13 v0 kv0 v1 v3 v4 v5 v6 v7 S3 wS3
  · exact t_X10_plaitFrom_106 X hR hq13 v0 kv0 v1 v3 v4 v5 v6 v7 S3 wS3
set_option maxRecDepth 20000 in
def b_X10_plaitFrom_13 : Nat → Nat → Int32 → Int32 → Int32 → Int32 → Int32 → Int32 → St → Option (Int32 × St)
  | 0, _, _, _, _, _, _, _, _ => none
  | fu + 1, v0, v1, v3, v4, v5, v6, v7, S => (ix (S.1 v0 18) 2).bind fun j1 => if ((1 : Int32) <<< ((S.1 (S.2.2 v0 29) j1) &&& 31)) ≤ v7 then (some (v6, S)) else (if (v7 &&& (v5 ^^^ (-1 : Int32))) = 0 then (if v6 < 0 then (b_X10_plaitFrom_60 (b_X10_plaitFrom_13 fu) v0 v1 v3 v4 v5 v6 v7 S) else (bd (f_X10_bits v7 S) fun r3 S2 => bd (f_X10_bits v6 S2) fun r5 S4 => if r3 < r5 then (b_X10_plaitFrom_60 (b_X10_plaitFrom_13 fu) v0 v1 v3 v4 v5 v6 v7 S4) else (b_X10_plaitFrom_106 (b_X10_plaitFrom_13 fu) v0 v1 v3 v4 v5 v6 v7 S4))) else (b_X10_plaitFrom_106 (b_X10_plaitFrom_13 fu) v0 v1 v3 v4 v5 v6 v7 S))
set_option maxRecDepth 20000 in
theorem t_X10_plaitFrom_13 {K : KK} (X : CX K cX10_plaitFrom 8 RX10 (some .int)) (hR : kR K = rmD 4) : ∀ (fu : Nat) (v0 : Nat) (kv0 : KA (kDn K) v0 (0, 10)) (v1 : Int32) (v3 : Int32) (v4 : Int32) (v5 : Int32) (v6 : Int32) (v7 : Int32) (S : St), WT (kDn K) S.2.2 → JX K (Zm K (fun v : Int32 => some (.int v))) 13 [some (.ref v0), some (.int v1), none, some (.int v3), some (.int v4), some (.int v5), some (.int v6), some (.int v7)] [] (rwN (kN K) S) (kn K) 0 0 (b_X10_plaitFrom_13 fu v0 v1 v3 v4 v5 v6 v7 S) := by
  intro fu
  induction fu with
  | zero => intro v0 kv0 v1 v3 v4 v5 v6 v7 S w; exact J_none
  | succ fu ih =>
    intro v0 kv0 v1 v3 v4 v5 v6 v7 S w
    rw [b_X10_plaitFrom_13]
    refine J_iload X dX10_plaitFrom_13 rfl ?_
    refine J_iconst X (v := (1 : Int32)) dX10_plaitFrom_15 (by decide) ?_
    refine J_aload_n X dX10_plaitFrom_16 (i := 0) rfl rfl ?_
    refine T_getR X (kf := 29) cb10 kv0 (by decide) fl_X10_64 (fun _ _ _ => rfl) dX10_plaitFrom_17 ?_
    refine J_aload_n X dX10_plaitFrom_20 (i := 0) rfl rfl ?_
    refine T_getI X (kf := 18) cb10 kv0 (by decide) fl_X10_239 (fun _ _ _ => rfl) dX10_plaitFrom_21 ?_
    refine T_iald X (w.1 _ _ kv0 29 _ rfl) dX10_plaitFrom_24 (fun j1 => ?_)
    refine J_ishl X dX10_plaitFrom_25 ?_
    refine J_icmp_ge X (tgt := 112) dX10_plaitFrom_26 (by decide) ?_ ?_
    · refine J_iload X dX10_plaitFrom_112 rfl ?_
      exact T_iret w X dX10_plaitFrom_114
    · refine J_iload X dX10_plaitFrom_29 rfl ?_
      refine J_iload X dX10_plaitFrom_31 rfl ?_
      refine J_iconst X (v := (-1 : Int32)) dX10_plaitFrom_33 (by decide) ?_
      refine J_ixor X dX10_plaitFrom_34 ?_
      refine J_iand X dX10_plaitFrom_35 ?_
      refine J_if_ne X (tgt := 106) dX10_plaitFrom_36 (by decide) ?_ ?_
      · refine J_iload X dX10_plaitFrom_39 rfl ?_
        refine J_if_lt X (tgt := 60) dX10_plaitFrom_41 (by decide) ?_ ?_
        · exact t_X10_plaitFrom_60 X hR ih v0 kv0 v1 v3 v4 v5 v6 v7 S w
        · refine J_iload X dX10_plaitFrom_44 rfl ?_
          refine T_callS (As := [.int v7]) w X (C_X10_bits (kG K) v7 S) ml_X10_459 st_yX10_bits ii_RX10 co_yX10_bits hy_X10_bits (hRd hR (by decide) (by decide)) rfl (Nat.le_of_ble_eq_true rfl) dX10_plaitFrom_46 (fun r3 S2 _ wS2 => ?_)
          refine J_iload X dX10_plaitFrom_49 rfl ?_
          refine T_callS (As := [.int v6]) wS2 X (C_X10_bits (kG K) v6 S2) ml_X10_459 st_yX10_bits ii_RX10 co_yX10_bits hy_X10_bits (hRd hR (by decide) (by decide)) rfl (Nat.le_of_ble_eq_true rfl) dX10_plaitFrom_51 (fun r5 S4 _ wS4 => ?_)
          refine J_icmp_lt X (tgt := 60) dX10_plaitFrom_54 (by decide) ?_ ?_
          · exact t_X10_plaitFrom_60 X hR ih v0 kv0 v1 v3 v4 v5 v6 v7 S4 wS4
          · refine J_goto X (tgt := 106) dX10_plaitFrom_57 (by decide) ?_
            exact t_X10_plaitFrom_106 X hR ih v0 kv0 v1 v3 v4 v5 v6 v7 S4 wS4
      · exact t_X10_plaitFrom_106 X hR ih v0 kv0 v1 v3 v4 v5 v6 v7 S w
set_option maxRecDepth 20000 in
def f_X10_plaitFrom (v0 : Nat) (v1 : Int32) (v2 : Int32) (v3 : Int32) (v4 : Int32) (S : St) : Option (Int32 × St) := bd (f_X10_wholeBits v0 S) fun r2 S1 => b_X10_plaitFrom_13 FU v0 v1 v3 v4 r2 (-2 : Int32) v2 S1
set_option maxRecDepth 20000 in
theorem t_X10_plaitFrom_0 {K : KK} (X : CX K cX10_plaitFrom 8 RX10 (some .int)) (hR : kR K = rmD 4) (v0 : Nat) (kv0 : KA (kDn K) v0 (0, 10)) (v1 : Int32) (v2 : Int32) (v3 : Int32) (v4 : Int32) (S : St) (w : WT (kDn K) S.2.2) : JX K (Zm K (fun v : Int32 => some (.int v))) 0 [some (.ref v0), some (.int v1), some (.int v2), some (.int v3), some (.int v4), none, none, none] [] (rwN (kN K) S) (kn K) 0 0 (f_X10_plaitFrom v0 v1 v2 v3 v4 S) := by
  unfold f_X10_plaitFrom
  refine J_aload_n X dX10_plaitFrom_0 (i := 0) rfl rfl ?_
  refine T_callV (As := []) w X (C_X10_wholeBits (kG K) v0 kv0 S) cb10 kv0 ml_X10_456 in_yX10_wholeBits se_yX10_wholeBits ii_RX10 co_yX10_wholeBits hy_X10_wholeBits (hRd hR (by decide) (by decide)) rfl (Nat.le_of_ble_eq_true rfl) dX10_plaitFrom_1 (fun r2 S1 _ wS1 => ?_)
  refine J_istore X (ls' := [some (.ref v0), some (.int v1), some (.int v2), some (.int v3), some (.int v4), some (.int r2), none, none]) dX10_plaitFrom_4 (by decide) rfl ?_
  refine J_bipush X (v := (-2 : Int32)) dX10_plaitFrom_6 (by decide) ?_
  refine J_istore X (ls' := [some (.ref v0), some (.int v1), some (.int v2), some (.int v3), some (.int v4), some (.int r2), some (.int (-2 : Int32)), none]) dX10_plaitFrom_8 (by decide) rfl ?_
  refine J_iload_n X dX10_plaitFrom_10 (i := 2) rfl rfl ?_
  refine J_istore X (ls' := [some (.ref v0), some (.int v1), some (.int v2), some (.int v3), some (.int v4), some (.int r2), some (.int (-2 : Int32)), some (.int v2)]) dX10_plaitFrom_11 (by decide) rfl ?_
  refine J_mask [true, true, false, true, true, true, true, true] ?_
  exact t_X10_plaitFrom_13 X hR FU v0 kv0 v1 v3 v4 r2 (-2 : Int32) v2 S1 wS1
theorem C_X10_plaitFrom (G : GG) (v0 : Nat) (kv0 : KA (gD G) v0 (0, 10)) (v1 : Int32) (v2 : Int32) (v3 : Int32) (v4 : Int32) (S : St) : CM G yX10_plaitFrom cX10_plaitFrom 8 (some .int) 4 [.ref v0, .int v1, .int v2, .int v3, .int v4] S (fun v : Int32 => some (.int v)) (f_X10_plaitFrom v0 v1 v2 v3 v4 S) :=
  CM_of (by decide) (Nat.le_of_ble_eq_true rfl) rfl (fun K hG X hR w => by subst hG; exact t_X10_plaitFrom_0 X hR v0 kv0 v1 v2 v3 v4 S w)
-- ==== X10_plait
theorem hy_X10_plait : yX10_plait.cls ≠ "java/lang/invoke/MethodHandle" ∧ yX10_plait.cls ≠ "java/lang/invoke/VarHandle" ∧ (parseMethodDescriptor yX10_plait.desc).map (fun d => d.parameters.length) = some 4 := by decide +kernel
set_option maxRecDepth 20000 in
def b_X10_plait_82 (v5 : Int32) (S : St) : Option (Int32 × St) := some (v5, S)
set_option maxRecDepth 20000 in
theorem t_X10_plait_82 {K : KK} (X : CX K cX10_plait 6 RX10 (some .int)) (hR : kR K = rmD 5) (v5 : Int32) (S : St) (w : WT (kDn K) S.2.2) : JX K (Zm K (fun v : Int32 => some (.int v))) 82 [none, none, none, none, none, some (.int v5)] [] (rwN (kN K) S) (kn K) 0 0 (b_X10_plait_82 v5 S) := by
  unfold b_X10_plait_82
  refine J_iload X dX10_plait_82 rfl ?_
  refine J_goto X (tgt := 92) dX10_plait_84 (by decide) ?_
  exact T_iret w X dX10_plait_92
set_option maxRecDepth 20000 in
def f_X10_plait (v0 : Nat) (v1 : Int32) (v2 : Int32) (v3 : Int32) (v4 : Int32) (S : St) : Option (Int32 × St) := bd (f_X10_isPerson v0 v1 S) fun r2 S1 => if r2 = 0 then (some ((-1 : Int32), S1)) else (bd (f_X10_in v2 (-999 : Int32) (999 : Int32) S1) fun r4 S3 => if r4 = 0 then (some ((-1 : Int32), S3)) else (bd (f_X10_in v3 (-999 : Int32) (999 : Int32) S3) fun r6 S5 => if r6 = 0 then (some ((-1 : Int32), S5)) else (bd (f_X10_in v4 (0 : Int32) (1 : Int32) S5) fun r8 S7 => if r8 = 0 then (some ((-1 : Int32), S7)) else (bd (f_X10_copies v0 S7) fun _ S9 => bd (f_X10_isOff v0 v1 S9) fun r12 S11 => if r12 = 0 then (bd (f_X10_plaitFrom v0 v1 (0 : Int32) v2 v3 S11) fun r14 S13 => if r14 < 0 then (b_X10_plait_82 r14 S13) else (if v4 = (1 : Int32) then (b_X10_plait_82 r14 S13) else (bd (f_X10_bits r14 S13) fun r16 S15 => some (r16, S15)))) else (some ((-2 : Int32), S11))))))
set_option maxRecDepth 20000 in
theorem t_X10_plait_0 {K : KK} (X : CX K cX10_plait 6 RX10 (some .int)) (hR : kR K = rmD 5) (v0 : Nat) (kv0 : KA (kDn K) v0 (0, 10)) (v1 : Int32) (v2 : Int32) (v3 : Int32) (v4 : Int32) (S : St) (w : WT (kDn K) S.2.2) : JX K (Zm K (fun v : Int32 => some (.int v))) 0 [some (.ref v0), some (.int v1), some (.int v2), some (.int v3), some (.int v4), none] [] (rwN (kN K) S) (kn K) 0 0 (f_X10_plait v0 v1 v2 v3 v4 S) := by
  unfold f_X10_plait
  refine J_aload_n X dX10_plait_0 (i := 0) rfl rfl ?_
  refine J_iload_n X dX10_plait_1 (i := 1) rfl rfl ?_
  refine T_callV (As := [.int v1]) w X (C_X10_isPerson (kG K) v0 kv0 v1 S) cb10 kv0 ml_X10_422 in_yX10_isPerson se_yX10_isPerson ii_RX10 co_yX10_isPerson hy_X10_isPerson (hRd hR (by decide) (by decide)) rfl (Nat.le_of_ble_eq_true rfl) dX10_plait_2 (fun r2 S1 _ wS1 => ?_)
  refine J_if_eq X (tgt := 44) dX10_plait_5 (by decide) ?_ ?_
  · refine J_iconst X (v := (-1 : Int32)) dX10_plait_44 (by decide) ?_
    exact T_iret wS1 X dX10_plait_45
  · refine J_iload_n X dX10_plait_8 (i := 2) rfl rfl ?_
    refine J_sipush X (v := (-999 : Int32)) dX10_plait_9 (by decide) ?_
    refine J_sipush X (v := (999 : Int32)) dX10_plait_12 (by decide) ?_
    refine T_callS (As := [.int v2, .int (-999 : Int32), .int (999 : Int32)]) wS1 X (C_X10_in (kG K) v2 (-999 : Int32) (999 : Int32) S1) ml_X10_325 st_yX10_in ii_RX10 co_yX10_in hy_X10_in (hRd hR (by decide) (by decide)) rfl (Nat.le_of_ble_eq_true rfl) dX10_plait_15 (fun r4 S3 _ wS3 => ?_)
    refine J_if_eq X (tgt := 44) dX10_plait_18 (by decide) ?_ ?_
    · refine J_iconst X (v := (-1 : Int32)) dX10_plait_44 (by decide) ?_
      exact T_iret wS3 X dX10_plait_45
    · refine J_iload_n X dX10_plait_21 (i := 3) rfl rfl ?_
      refine J_sipush X (v := (-999 : Int32)) dX10_plait_22 (by decide) ?_
      refine J_sipush X (v := (999 : Int32)) dX10_plait_25 (by decide) ?_
      refine T_callS (As := [.int v3, .int (-999 : Int32), .int (999 : Int32)]) wS3 X (C_X10_in (kG K) v3 (-999 : Int32) (999 : Int32) S3) ml_X10_325 st_yX10_in ii_RX10 co_yX10_in hy_X10_in (hRd hR (by decide) (by decide)) rfl (Nat.le_of_ble_eq_true rfl) dX10_plait_28 (fun r6 S5 _ wS5 => ?_)
      refine J_if_eq X (tgt := 44) dX10_plait_31 (by decide) ?_ ?_
      · refine J_iconst X (v := (-1 : Int32)) dX10_plait_44 (by decide) ?_
        exact T_iret wS5 X dX10_plait_45
      · refine J_iload X dX10_plait_34 rfl ?_
        refine J_iconst X (v := (0 : Int32)) dX10_plait_36 (by decide) ?_
        refine J_iconst X (v := (1 : Int32)) dX10_plait_37 (by decide) ?_
        refine T_callS (As := [.int v4, .int (0 : Int32), .int (1 : Int32)]) wS5 X (C_X10_in (kG K) v4 (0 : Int32) (1 : Int32) S5) ml_X10_325 st_yX10_in ii_RX10 co_yX10_in hy_X10_in (hRd hR (by decide) (by decide)) rfl (Nat.le_of_ble_eq_true rfl) dX10_plait_38 (fun r8 S7 _ wS7 => ?_)
        refine J_if_ne X (tgt := 46) dX10_plait_41 (by decide) ?_ ?_
        · refine J_iconst X (v := (-1 : Int32)) dX10_plait_44 (by decide) ?_
          exact T_iret wS7 X dX10_plait_45
        · refine J_aload_n X dX10_plait_46 (i := 0) rfl rfl ?_
          refine T_callV (As := []) wS7 X (C_X10_copies (kG K) v0 kv0 S7) cb10 kv0 ml_X10_335 in_yX10_copies se_yX10_copies ii_RX10 co_yX10_copies hy_X10_copies (hRd hR (by decide) (by decide)) rfl (Nat.le_of_ble_eq_true rfl) dX10_plait_47 (fun _ S9 _ wS9 => ?_)
          refine J_aload_n X dX10_plait_50 (i := 0) rfl rfl ?_
          refine J_iload_n X dX10_plait_51 (i := 1) rfl rfl ?_
          refine T_callV (As := [.int v1]) wS9 X (C_X10_isOff (kG K) v0 kv0 v1 S9) cb10 kv0 ml_X10_360 in_yX10_isOff se_yX10_isOff ii_RX10 co_yX10_isOff hy_X10_isOff (hRd hR (by decide) (by decide)) rfl (Nat.le_of_ble_eq_true rfl) dX10_plait_52 (fun r12 S11 _ wS11 => ?_)
          refine J_if_eq X (tgt := 61) dX10_plait_55 (by decide) ?_ ?_
          · refine J_aload_n X dX10_plait_61 (i := 0) rfl rfl ?_
            refine J_iload_n X dX10_plait_62 (i := 1) rfl rfl ?_
            refine J_iconst X (v := (0 : Int32)) dX10_plait_63 (by decide) ?_
            refine J_iload_n X dX10_plait_64 (i := 2) rfl rfl ?_
            refine J_iload_n X dX10_plait_65 (i := 3) rfl rfl ?_
            refine T_callV (As := [.int v1, .int (0 : Int32), .int v2, .int v3]) wS11 X (C_X10_plaitFrom (kG K) v0 kv0 v1 (0 : Int32) v2 v3 S11) cb10 kv0 ml_X10_462 in_yX10_plaitFrom se_yX10_plaitFrom ii_RX10 co_yX10_plaitFrom hy_X10_plaitFrom (hRd hR (by decide) (by decide)) rfl (Nat.le_of_ble_eq_true rfl) dX10_plait_66 (fun r14 S13 _ wS13 => ?_)
            refine J_istore X (ls' := [some (.ref v0), some (.int v1), some (.int v2), some (.int v3), some (.int v4), some (.int r14)]) dX10_plait_69 (by decide) rfl ?_
            refine J_iload X dX10_plait_71 rfl ?_
            refine J_if_lt X (tgt := 82) dX10_plait_73 (by decide) ?_ ?_
            · refine J_mask [false, false, false, false, false, true] ?_
              exact t_X10_plait_82 X hR r14 S13 wS13
            · refine J_iload X dX10_plait_76 rfl ?_
              refine J_iconst X (v := (1 : Int32)) dX10_plait_78 (by decide) ?_
              refine J_icmp_ne X (tgt := 87) dX10_plait_79 (by decide) ?_ ?_
              · refine J_mask [false, false, false, false, false, true] ?_
                exact t_X10_plait_82 X hR r14 S13 wS13
              · refine J_iload X dX10_plait_87 rfl ?_
                refine T_callS (As := [.int r14]) wS13 X (C_X10_bits (kG K) r14 S13) ml_X10_459 st_yX10_bits ii_RX10 co_yX10_bits hy_X10_bits (hRd hR (by decide) (by decide)) rfl (Nat.le_of_ble_eq_true rfl) dX10_plait_89 (fun r16 S15 _ wS15 => ?_)
                exact T_iret wS15 X dX10_plait_92
          · refine J_bipush X (v := (-2 : Int32)) dX10_plait_58 (by decide) ?_
            exact T_iret wS11 X dX10_plait_60
theorem C_X10_plait (G : GG) (v0 : Nat) (kv0 : KA (gD G) v0 (0, 10)) (v1 : Int32) (v2 : Int32) (v3 : Int32) (v4 : Int32) (S : St) : CM G yX10_plait cX10_plait 6 (some .int) 5 [.ref v0, .int v1, .int v2, .int v3, .int v4] S (fun v : Int32 => some (.int v)) (f_X10_plait v0 v1 v2 v3 v4 S) :=
  CM_of (by decide) (Nat.le_of_ble_eq_true rfl) rfl (fun K hG X hR w => by subst hG; exact t_X10_plait_0 X hR v0 kv0 v1 v2 v3 v4 S w)
-- ==== X10_turns
theorem hy_X10_turns : yX10_turns.cls ≠ "java/lang/invoke/MethodHandle" ∧ yX10_turns.cls ≠ "java/lang/invoke/VarHandle" ∧ (parseMethodDescriptor yX10_turns.desc).map (fun d => d.parameters.length) = some 2 := by decide +kernel
set_option maxRecDepth 20000 in
def b_X10_turns_48 (q26 : Nat → Int32 → Int32 → Int32 → Int32 → St → Option (Int32 × St)) (v0 : Nat) (v1 : Int32) (v2 : Int32) (v3 : Int32) (v4 : Int32) (S : St) : Option (Int32 × St) := nm (v4 + (1 : Int32)) fun x1 => q26 v0 v1 v2 v3 x1 S
set_option maxRecDepth 20000 in
theorem t_X10_turns_48 {K : KK} (X : CX K cX10_turns 5 RX10 (some .int)) (hR : kR K = rmD 8) {q26 : Nat → Int32 → Int32 → Int32 → Int32 → St → Option (Int32 × St)} (hq26 : ∀ (v0 : Nat) (kv0 : KA (kDn K) v0 (0, 10)) (v1 : Int32) (v2 : Int32) (v3 : Int32) (v4 : Int32) (S : St), WT (kDn K) S.2.2 → JX K (Zm K (fun v : Int32 => some (.int v))) 26 [some (.ref v0), some (.int v1), some (.int v2), some (.int v3), some (.int v4)] [] (rwN (kN K) S) (kn K) 0 0 (q26 v0 v1 v2 v3 v4 S)) (v0 : Nat) (kv0 : KA (kDn K) v0 (0, 10)) (v1 : Int32) (v2 : Int32) (v3 : Int32) (v4 : Int32) (S : St) (w : WT (kDn K) S.2.2) : JX K (Zm K (fun v : Int32 => some (.int v))) 48 [some (.ref v0), some (.int v1), some (.int v2), some (.int v3), some (.int v4)] [] (rwN (kN K) S) (kn K) 0 0 (b_X10_turns_48 q26 v0 v1 v2 v3 v4 S) := by
  unfold b_X10_turns_48
  refine J_nmv (v4 + (1 : Int32)) (fun x1 ex1 => ?_)
  refine J_iinc X (v := x1) (ls' := [some (.ref v0), some (.int v1), some (.int v2), some (.int v3), some (.int x1)]) dX10_turns_48 (by decide) rfl (by rw [ex1]; rfl) rfl ?_
  refine J_goto X (tgt := 26) dX10_turns_51 (by decide) ?_
  exact hq26 v0 kv0 v1 v2 v3 x1 S w
set_option maxRecDepth 20000 in
def b_X10_turns_26 : Nat → Nat → Int32 → Int32 → Int32 → Int32 → St → Option (Int32 × St)
  | 0, _, _, _, _, _, _ => none
  | fu + 1, v0, v1, v2, v3, v4, S => if v2 ≤ v4 then (some (v3, S)) else (bd (f_X10_monthGoes v0 S) fun _ S1 => (ix v1 6).bind fun j3 => if (S1.1 (S1.2.2 v0 57) j3) = 0 then (b_X10_turns_48 (b_X10_turns_26 fu) v0 v1 v2 v3 v4 S1) else (nm (v3 + (1 : Int32)) fun x4 => b_X10_turns_48 (b_X10_turns_26 fu) v0 v1 v2 x4 v4 S1))
set_option maxRecDepth 20000 in
theorem t_X10_turns_26 {K : KK} (X : CX K cX10_turns 5 RX10 (some .int)) (hR : kR K = rmD 8) : ∀ (fu : Nat) (v0 : Nat) (kv0 : KA (kDn K) v0 (0, 10)) (v1 : Int32) (v2 : Int32) (v3 : Int32) (v4 : Int32) (S : St), WT (kDn K) S.2.2 → JX K (Zm K (fun v : Int32 => some (.int v))) 26 [some (.ref v0), some (.int v1), some (.int v2), some (.int v3), some (.int v4)] [] (rwN (kN K) S) (kn K) 0 0 (b_X10_turns_26 fu v0 v1 v2 v3 v4 S) := by
  intro fu
  induction fu with
  | zero => intro v0 kv0 v1 v2 v3 v4 S w; exact J_none
  | succ fu ih =>
    intro v0 kv0 v1 v2 v3 v4 S w
    rw [b_X10_turns_26]
    refine J_iload X dX10_turns_26 rfl ?_
    refine J_iload_n X dX10_turns_28 (i := 2) rfl rfl ?_
    refine J_icmp_ge X (tgt := 54) dX10_turns_29 (by decide) ?_ ?_
    · refine J_iload_n X dX10_turns_54 (i := 3) rfl rfl ?_
      exact T_iret w X dX10_turns_55
    · refine J_aload_n X dX10_turns_32 (i := 0) rfl rfl ?_
      refine T_callV (As := []) w X (C_X10_monthGoes (kG K) v0 kv0 S) cb10 kv0 ml_X10_416 in_yX10_monthGoes se_yX10_monthGoes ii_RX10 co_yX10_monthGoes hy_X10_monthGoes (hRd hR (by decide) (by decide)) rfl (Nat.le_of_ble_eq_true rfl) dX10_turns_33 (fun _ S1 _ wS1 => ?_)
      refine J_aload_n X dX10_turns_36 (i := 0) rfl rfl ?_
      refine T_getR X (kf := 57) cb10 kv0 (by decide) fl_X10_125 (fun _ _ _ => rfl) dX10_turns_37 ?_
      refine J_iload_n X dX10_turns_40 (i := 1) rfl rfl ?_
      refine T_zald X (wS1.1 _ _ kv0 57 _ rfl) dX10_turns_41 (fun j3 => ?_)
      refine J_if_eq X (tgt := 48) dX10_turns_42 (by decide) ?_ ?_
      · exact t_X10_turns_48 X hR ih v0 kv0 v1 v2 v3 v4 S1 wS1
      · refine J_nmv (v3 + (1 : Int32)) (fun x4 ex4 => ?_)
        refine J_iinc X (v := x4) (ls' := [some (.ref v0), some (.int v1), some (.int v2), some (.int x4), some (.int v4)]) dX10_turns_45 (by decide) rfl (by rw [ex4]; rfl) rfl ?_
        exact t_X10_turns_48 X hR ih v0 kv0 v1 v2 x4 v4 S1 wS1
set_option maxRecDepth 20000 in
def f_X10_turns (v0 : Nat) (v1 : Int32) (v2 : Int32) (S : St) : Option (Int32 × St) := bd (f_X10_isPerson v0 v1 S) fun r2 S1 => if r2 = 0 then (some ((-1 : Int32), S1)) else (bd (f_X10_isLong v2 S1) fun r4 S3 => if r4 = 0 then (some ((-1 : Int32), S3)) else (bd (f_X10_copiesStill v0 S3) fun _ S5 => b_X10_turns_26 FU v0 v1 v2 (0 : Int32) (0 : Int32) S5))
set_option maxRecDepth 20000 in
theorem t_X10_turns_0 {K : KK} (X : CX K cX10_turns 5 RX10 (some .int)) (hR : kR K = rmD 8) (v0 : Nat) (kv0 : KA (kDn K) v0 (0, 10)) (v1 : Int32) (v2 : Int32) (S : St) (w : WT (kDn K) S.2.2) : JX K (Zm K (fun v : Int32 => some (.int v))) 0 [some (.ref v0), some (.int v1), some (.int v2), none, none] [] (rwN (kN K) S) (kn K) 0 0 (f_X10_turns v0 v1 v2 S) := by
  unfold f_X10_turns
  refine J_aload_n X dX10_turns_0 (i := 0) rfl rfl ?_
  refine J_iload_n X dX10_turns_1 (i := 1) rfl rfl ?_
  refine T_callV (As := [.int v1]) w X (C_X10_isPerson (kG K) v0 kv0 v1 S) cb10 kv0 ml_X10_422 in_yX10_isPerson se_yX10_isPerson ii_RX10 co_yX10_isPerson hy_X10_isPerson (hRd hR (by decide) (by decide)) rfl (Nat.le_of_ble_eq_true rfl) dX10_turns_2 (fun r2 S1 _ wS1 => ?_)
  refine J_if_eq X (tgt := 15) dX10_turns_5 (by decide) ?_ ?_
  · refine J_iconst X (v := (-1 : Int32)) dX10_turns_15 (by decide) ?_
    exact T_iret wS1 X dX10_turns_16
  · refine J_iload_n X dX10_turns_8 (i := 2) rfl rfl ?_
    refine T_callS (As := [.int v2]) wS1 X (C_X10_isLong (kG K) v2 S1) ml_X10_435 st_yX10_isLong ii_RX10 co_yX10_isLong hy_X10_isLong (hRd hR (by decide) (by decide)) rfl (Nat.le_of_ble_eq_true rfl) dX10_turns_9 (fun r4 S3 _ wS3 => ?_)
    refine J_if_ne X (tgt := 17) dX10_turns_12 (by decide) ?_ ?_
    · refine J_iconst X (v := (-1 : Int32)) dX10_turns_15 (by decide) ?_
      exact T_iret wS3 X dX10_turns_16
    · refine J_aload_n X dX10_turns_17 (i := 0) rfl rfl ?_
      refine T_callV (As := []) wS3 X (C_X10_copiesStill (kG K) v0 kv0 S3) cb10 kv0 ml_X10_465 in_yX10_copiesStill se_yX10_copiesStill ii_RX10 co_yX10_copiesStill hy_X10_copiesStill (hRd hR (by decide) (by decide)) rfl (Nat.le_of_ble_eq_true rfl) dX10_turns_18 (fun _ S5 _ wS5 => ?_)
      refine J_iconst X (v := (0 : Int32)) dX10_turns_21 (by decide) ?_
      refine J_istore_n X (i := 3) (ls' := [some (.ref v0), some (.int v1), some (.int v2), some (.int (0 : Int32)), none]) dX10_turns_22 rfl (by decide) rfl ?_
      refine J_iconst X (v := (0 : Int32)) dX10_turns_23 (by decide) ?_
      refine J_istore X (ls' := [some (.ref v0), some (.int v1), some (.int v2), some (.int (0 : Int32)), some (.int (0 : Int32))]) dX10_turns_24 (by decide) rfl ?_
      exact t_X10_turns_26 X hR FU v0 kv0 v1 v2 (0 : Int32) (0 : Int32) S5 wS5
theorem C_X10_turns (G : GG) (v0 : Nat) (kv0 : KA (gD G) v0 (0, 10)) (v1 : Int32) (v2 : Int32) (S : St) : CM G yX10_turns cX10_turns 5 (some .int) 8 [.ref v0, .int v1, .int v2] S (fun v : Int32 => some (.int v)) (f_X10_turns v0 v1 v2 S) :=
  CM_of (by decide) (Nat.le_of_ble_eq_true rfl) rfl (fun K hG X hR w => by subst hG; exact t_X10_turns_0 X hR v0 kv0 v1 v2 S w)
-- ==== X10_pullNow
theorem hy_X10_pullNow : yX10_pullNow.cls ≠ "java/lang/invoke/MethodHandle" ∧ yX10_pullNow.cls ≠ "java/lang/invoke/VarHandle" ∧ (parseMethodDescriptor yX10_pullNow.desc).map (fun d => d.parameters.length) = some 1 := by decide +kernel
set_option maxRecDepth 20000 in
def f_X10_pullNow (v0 : Nat) (v1 : Int32) (S : St) : Option (Int32 × St) := (ix ((38 : Int32) + v1) 55).bind fun j1 => nm (S.1 (S.2.2 v0 52) j1) fun x2 => (ix ((20 : Int32) + x2) 55).bind fun j3 => (ix ((26 : Int32) + x2) 55).bind fun j4 => bd (f_X10_pullAt v0 v1 x2 (S.1 (S.2.2 v0 52) j3) (S.1 (S.2.2 v0 52) j4) S) fun r6 S5 => some (r6, S5)
set_option maxRecDepth 20000 in
theorem t_X10_pullNow_0 {K : KK} (X : CX K cX10_pullNow 3 RX10 (some .int)) (hR : kR K = rmD 3) (v0 : Nat) (kv0 : KA (kDn K) v0 (0, 10)) (v1 : Int32) (S : St) (w : WT (kDn K) S.2.2) : JX K (Zm K (fun v : Int32 => some (.int v))) 0 [some (.ref v0), some (.int v1), none] [] (rwN (kN K) S) (kn K) 0 0 (f_X10_pullNow v0 v1 S) := by
  unfold f_X10_pullNow
  refine J_aload_n X dX10_pullNow_0 (i := 0) rfl rfl ?_
  refine T_getR X (kf := 52) cb10 kv0 (by decide) fl_X10_122 (fun _ _ _ => rfl) dX10_pullNow_1 ?_
  refine J_bipush X (v := (38 : Int32)) dX10_pullNow_4 (by decide) ?_
  refine J_iload_n X dX10_pullNow_6 (i := 1) rfl rfl ?_
  refine J_iadd X dX10_pullNow_7 ?_
  refine T_iald X (w.1 _ _ kv0 52 _ rfl) dX10_pullNow_8 (fun j1 => ?_)
  refine J_nmi (fun x2 => ?_)
  refine J_istore_n X (i := 2) (ls' := [some (.ref v0), some (.int v1), some (.int x2)]) dX10_pullNow_9 rfl (by decide) rfl ?_
  refine J_aload_n X dX10_pullNow_10 (i := 0) rfl rfl ?_
  refine J_iload_n X dX10_pullNow_11 (i := 1) rfl rfl ?_
  refine J_iload_n X dX10_pullNow_12 (i := 2) rfl rfl ?_
  refine J_aload_n X dX10_pullNow_13 (i := 0) rfl rfl ?_
  refine T_getR X (kf := 52) cb10 kv0 (by decide) fl_X10_122 (fun _ _ _ => rfl) dX10_pullNow_14 ?_
  refine J_bipush X (v := (20 : Int32)) dX10_pullNow_17 (by decide) ?_
  refine J_iload_n X dX10_pullNow_19 (i := 2) rfl rfl ?_
  refine J_iadd X dX10_pullNow_20 ?_
  refine T_iald X (w.1 _ _ kv0 52 _ rfl) dX10_pullNow_21 (fun j3 => ?_)
  refine J_aload_n X dX10_pullNow_22 (i := 0) rfl rfl ?_
  refine T_getR X (kf := 52) cb10 kv0 (by decide) fl_X10_122 (fun _ _ _ => rfl) dX10_pullNow_23 ?_
  refine J_bipush X (v := (26 : Int32)) dX10_pullNow_26 (by decide) ?_
  refine J_iload_n X dX10_pullNow_28 (i := 2) rfl rfl ?_
  refine J_iadd X dX10_pullNow_29 ?_
  refine T_iald X (w.1 _ _ kv0 52 _ rfl) dX10_pullNow_30 (fun j4 => ?_)
  refine T_callV (As := [.int v1, .int x2, .int (S.1 (S.2.2 v0 52) j3), .int (S.1 (S.2.2 v0 52) j4)]) w X (C_X10_pullAt (kG K) v0 kv0 v1 x2 (S.1 (S.2.2 v0 52) j3) (S.1 (S.2.2 v0 52) j4) S) cb10 kv0 ml_X10_378 in_yX10_pullAt se_yX10_pullAt ii_RX10 co_yX10_pullAt hy_X10_pullAt (hRd hR (by decide) (by decide)) rfl (Nat.le_of_ble_eq_true rfl) dX10_pullNow_31 (fun r6 S5 _ wS5 => ?_)
  exact T_iret wS5 X dX10_pullNow_34
theorem C_X10_pullNow (G : GG) (v0 : Nat) (kv0 : KA (gD G) v0 (0, 10)) (v1 : Int32) (S : St) : CM G yX10_pullNow cX10_pullNow 3 (some .int) 3 [.ref v0, .int v1] S (fun v : Int32 => some (.int v)) (f_X10_pullNow v0 v1 S) :=
  CM_of (by decide) (Nat.le_of_ble_eq_true rfl) rfl (fun K hG X hR w => by subst hG; exact t_X10_pullNow_0 X hR v0 kv0 v1 S w)
-- ==== X10_strongest
theorem hy_X10_strongest : yX10_strongest.cls ≠ "java/lang/invoke/MethodHandle" ∧ yX10_strongest.cls ≠ "java/lang/invoke/VarHandle" ∧ (parseMethodDescriptor yX10_strongest.desc).map (fun d => d.parameters.length) = some 2 := by decide +kernel
set_option maxRecDepth 20000 in
def b_X10_strongest_89 (q40 : Nat → Int32 → Int32 → Int32 → Int32 → Int32 → St → Option (Int32 × St)) (v0 : Nat) (v2 : Int32) (v3 : Int32) (v4 : Int32) (v5 : Int32) (v6 : Int32) (S : St) : Option (Int32 × St) := nm (v6 + (1 : Int32)) fun x1 => q40 v0 v2 v3 v4 v5 x1 S
set_option maxRecDepth 20000 in
theorem t_X10_strongest_89 {K : KK} (X : CX K cX10_strongest 7 RX10 (some .int)) (hR : kR K = rmD 4) {q40 : Nat → Int32 → Int32 → Int32 → Int32 → Int32 → St → Option (Int32 × St)} (hq40 : ∀ (v0 : Nat) (kv0 : KA (kDn K) v0 (0, 10)) (v2 : Int32) (v3 : Int32) (v4 : Int32) (v5 : Int32) (v6 : Int32) (S : St), WT (kDn K) S.2.2 → JX K (Zm K (fun v : Int32 => some (.int v))) 40 [some (.ref v0), none, some (.int v2), some (.int v3), some (.int v4), some (.int v5), some (.int v6)] [] (rwN (kN K) S) (kn K) 0 0 (q40 v0 v2 v3 v4 v5 v6 S)) (v0 : Nat) (kv0 : KA (kDn K) v0 (0, 10)) (v2 : Int32) (v3 : Int32) (v4 : Int32) (v5 : Int32) (v6 : Int32) (S : St) (w : WT (kDn K) S.2.2) : JX K (Zm K (fun v : Int32 => some (.int v))) 89 [some (.ref v0), none, some (.int v2), some (.int v3), some (.int v4), some (.int v5), some (.int v6)] [] (rwN (kN K) S) (kn K) 0 0 (b_X10_strongest_89 q40 v0 v2 v3 v4 v5 v6 S) := by
  unfold b_X10_strongest_89
  refine J_nmv (v6 + (1 : Int32)) (fun x1 ex1 => ?_)
  refine J_iinc X (v := x1) (ls' := [some (.ref v0), none, some (.int v2), some (.int v3), some (.int v4), some (.int v5), some (.int x1)]) dX10_strongest_89 (by decide) rfl (by rw [ex1]; rfl) rfl ?_
  refine J_goto X (tgt := 40) dX10_strongest_92 (by decide) ?_
  exact hq40 v0 kv0 v2 v3 v4 v5 x1 S w
set_option maxRecDepth 20000 in
def b_X10_strongest_40 : Nat → Nat → Int32 → Int32 → Int32 → Int32 → Int32 → St → Option (Int32 × St)
  | 0, _, _, _, _, _, _, _ => none
  | fu + 1, v0, v2, v3, v4, v5, v6, S => (ix (S.1 v0 18) 2).bind fun j1 => if (S.1 (S.2.2 v0 29) j1) ≤ v6 then (if v2 = 0 then (some (v4, S)) else (some (v5, S))) else (if ((v3 >>> (v6 &&& 31)) &&& (1 : Int32)) = 0 then (b_X10_strongest_89 (b_X10_strongest_40 fu) v0 v2 v3 v4 v5 v6 S) else (bd (f_X10_pullNow v0 v6 S) fun r3 S2 => if v5 < r3 then (bd (f_X10_pullNow v0 v6 S2) fun r5 S4 => b_X10_strongest_89 (b_X10_strongest_40 fu) v0 v2 v3 v6 r5 v6 S4) else (b_X10_strongest_89 (b_X10_strongest_40 fu) v0 v2 v3 v4 v5 v6 S2)))
set_option maxRecDepth 20000 in
theorem t_X10_strongest_40 {K : KK} (X : CX K cX10_strongest 7 RX10 (some .int)) (hR : kR K = rmD 4) : ∀ (fu : Nat) (v0 : Nat) (kv0 : KA (kDn K) v0 (0, 10)) (v2 : Int32) (v3 : Int32) (v4 : Int32) (v5 : Int32) (v6 : Int32) (S : St), WT (kDn K) S.2.2 → JX K (Zm K (fun v : Int32 => some (.int v))) 40 [some (.ref v0), none, some (.int v2), some (.int v3), some (.int v4), some (.int v5), some (.int v6)] [] (rwN (kN K) S) (kn K) 0 0 (b_X10_strongest_40 fu v0 v2 v3 v4 v5 v6 S) := by
  intro fu
  induction fu with
  | zero => intro v0 kv0 v2 v3 v4 v5 v6 S w; exact J_none
  | succ fu ih =>
    intro v0 kv0 v2 v3 v4 v5 v6 S w
    rw [b_X10_strongest_40]
    refine J_iload X dX10_strongest_40 rfl ?_
    refine J_aload_n X dX10_strongest_42 (i := 0) rfl rfl ?_
    refine T_getR X (kf := 29) cb10 kv0 (by decide) fl_X10_64 (fun _ _ _ => rfl) dX10_strongest_43 ?_
    refine J_aload_n X dX10_strongest_46 (i := 0) rfl rfl ?_
    refine T_getI X (kf := 18) cb10 kv0 (by decide) fl_X10_239 (fun _ _ _ => rfl) dX10_strongest_47 ?_
    refine T_iald X (w.1 _ _ kv0 29 _ rfl) dX10_strongest_50 (fun j1 => ?_)
    refine J_icmp_ge X (tgt := 95) dX10_strongest_51 (by decide) ?_ ?_
    · refine J_iload_n X dX10_strongest_95 (i := 2) rfl rfl ?_
      refine J_if_ne X (tgt := 104) dX10_strongest_96 (by decide) ?_ ?_
      · refine J_iload X dX10_strongest_99 rfl ?_
        refine J_goto X (tgt := 106) dX10_strongest_101 (by decide) ?_
        exact T_iret w X dX10_strongest_106
      · refine J_iload X dX10_strongest_104 rfl ?_
        exact T_iret w X dX10_strongest_106
    · refine J_iload_n X dX10_strongest_54 (i := 3) rfl rfl ?_
      refine J_iload X dX10_strongest_55 rfl ?_
      refine J_ishr X dX10_strongest_57 ?_
      refine J_iconst X (v := (1 : Int32)) dX10_strongest_58 (by decide) ?_
      refine J_iand X dX10_strongest_59 ?_
      refine J_if_eq X (tgt := 89) dX10_strongest_60 (by decide) ?_ ?_
      · exact t_X10_strongest_89 X hR ih v0 kv0 v2 v3 v4 v5 v6 S w
      · refine J_aload_n X dX10_strongest_63 (i := 0) rfl rfl ?_
        refine J_iload X dX10_strongest_64 rfl ?_
        refine T_callV (As := [.int v6]) w X (C_X10_pullNow (kG K) v0 kv0 v6 S) cb10 kv0 ml_X10_468 in_yX10_pullNow se_yX10_pullNow ii_RX10 co_yX10_pullNow hy_X10_pullNow (hRd hR (by decide) (by decide)) rfl (Nat.le_of_ble_eq_true rfl) dX10_strongest_66 (fun r3 S2 _ wS2 => ?_)
        refine J_iload X dX10_strongest_69 rfl ?_
        refine J_icmp_gt X (tgt := 77) dX10_strongest_71 (by decide) ?_ ?_
        · refine J_iload X dX10_strongest_77 rfl ?_
          refine J_istore X (ls' := [some (.ref v0), none, some (.int v2), some (.int v3), some (.int v6), some (.int v5), some (.int v6)]) dX10_strongest_79 (by decide) rfl ?_
          refine J_aload_n X dX10_strongest_81 (i := 0) rfl rfl ?_
          refine J_iload X dX10_strongest_82 rfl ?_
          refine T_callV (As := [.int v6]) wS2 X (C_X10_pullNow (kG K) v0 kv0 v6 S2) cb10 kv0 ml_X10_468 in_yX10_pullNow se_yX10_pullNow ii_RX10 co_yX10_pullNow hy_X10_pullNow (hRd hR (by decide) (by decide)) rfl (Nat.le_of_ble_eq_true rfl) dX10_strongest_84 (fun r5 S4 _ wS4 => ?_)
          refine J_istore X (ls' := [some (.ref v0), none, some (.int v2), some (.int v3), some (.int v6), some (.int r5), some (.int v6)]) dX10_strongest_87 (by decide) rfl ?_
          exact t_X10_strongest_89 X hR ih v0 kv0 v2 v3 v6 r5 v6 S4 wS4
        · refine J_goto X (tgt := 89) dX10_strongest_74 (by decide) ?_
          exact t_X10_strongest_89 X hR ih v0 kv0 v2 v3 v4 v5 v6 S2 wS2
set_option maxRecDepth 20000 in
def f_X10_strongest (v0 : Nat) (v1 : Int32) (v2 : Int32) (S : St) : Option (Int32 × St) := bd (f_X10_isPerson v0 v1 S) fun r2 S1 => if r2 = 0 then (some ((-1 : Int32), S1)) else (bd (f_X10_in v2 (0 : Int32) (1 : Int32) S1) fun r4 S3 => if r4 = 0 then (some ((-1 : Int32), S3)) else (bd (f_X10_copies v0 S3) fun _ S5 => bd (f_X10_wornBits v0 v1 S5) fun r8 S7 => b_X10_strongest_40 FU v0 v2 r8 (-2 : Int32) (-2 : Int32) (0 : Int32) S7))
set_option maxRecDepth 20000 in
theorem t_X10_strongest_0 {K : KK} (X : CX K cX10_strongest 7 RX10 (some .int)) (hR : kR K = rmD 4) (v0 : Nat) (kv0 : KA (kDn K) v0 (0, 10)) (v1 : Int32) (v2 : Int32) (S : St) (w : WT (kDn K) S.2.2) : JX K (Zm K (fun v : Int32 => some (.int v))) 0 [some (.ref v0), some (.int v1), some (.int v2), none, none, none, none] [] (rwN (kN K) S) (kn K) 0 0 (f_X10_strongest v0 v1 v2 S) := by
  unfold f_X10_strongest
  refine J_aload_n X dX10_strongest_0 (i := 0) rfl rfl ?_
  refine J_iload_n X dX10_strongest_1 (i := 1) rfl rfl ?_
  refine T_callV (As := [.int v1]) w X (C_X10_isPerson (kG K) v0 kv0 v1 S) cb10 kv0 ml_X10_422 in_yX10_isPerson se_yX10_isPerson ii_RX10 co_yX10_isPerson hy_X10_isPerson (hRd hR (by decide) (by decide)) rfl (Nat.le_of_ble_eq_true rfl) dX10_strongest_2 (fun r2 S1 _ wS1 => ?_)
  refine J_if_eq X (tgt := 17) dX10_strongest_5 (by decide) ?_ ?_
  · refine J_iconst X (v := (-1 : Int32)) dX10_strongest_17 (by decide) ?_
    exact T_iret wS1 X dX10_strongest_18
  · refine J_iload_n X dX10_strongest_8 (i := 2) rfl rfl ?_
    refine J_iconst X (v := (0 : Int32)) dX10_strongest_9 (by decide) ?_
    refine J_iconst X (v := (1 : Int32)) dX10_strongest_10 (by decide) ?_
    refine T_callS (As := [.int v2, .int (0 : Int32), .int (1 : Int32)]) wS1 X (C_X10_in (kG K) v2 (0 : Int32) (1 : Int32) S1) ml_X10_325 st_yX10_in ii_RX10 co_yX10_in hy_X10_in (hRd hR (by decide) (by decide)) rfl (Nat.le_of_ble_eq_true rfl) dX10_strongest_11 (fun r4 S3 _ wS3 => ?_)
    refine J_if_ne X (tgt := 19) dX10_strongest_14 (by decide) ?_ ?_
    · refine J_iconst X (v := (-1 : Int32)) dX10_strongest_17 (by decide) ?_
      exact T_iret wS3 X dX10_strongest_18
    · refine J_aload_n X dX10_strongest_19 (i := 0) rfl rfl ?_
      refine T_callV (As := []) wS3 X (C_X10_copies (kG K) v0 kv0 S3) cb10 kv0 ml_X10_335 in_yX10_copies se_yX10_copies ii_RX10 co_yX10_copies hy_X10_copies (hRd hR (by decide) (by decide)) rfl (Nat.le_of_ble_eq_true rfl) dX10_strongest_20 (fun _ S5 _ wS5 => ?_)
      refine J_aload_n X dX10_strongest_23 (i := 0) rfl rfl ?_
      refine J_iload_n X dX10_strongest_24 (i := 1) rfl rfl ?_
      refine T_callV (As := [.int v1]) wS5 X (C_X10_wornBits (kG K) v0 kv0 v1 S5) cb10 kv0 ml_X10_388 in_yX10_wornBits se_yX10_wornBits ii_RX10 co_yX10_wornBits hy_X10_wornBits (hRd hR (by decide) (by decide)) rfl (Nat.le_of_ble_eq_true rfl) dX10_strongest_25 (fun r8 S7 _ wS7 => ?_)
      refine J_istore_n X (i := 3) (ls' := [some (.ref v0), some (.int v1), some (.int v2), some (.int r8), none, none, none]) dX10_strongest_28 rfl (by decide) rfl ?_
      refine J_bipush X (v := (-2 : Int32)) dX10_strongest_29 (by decide) ?_
      refine J_istore X (ls' := [some (.ref v0), some (.int v1), some (.int v2), some (.int r8), some (.int (-2 : Int32)), none, none]) dX10_strongest_31 (by decide) rfl ?_
      refine J_bipush X (v := (-2 : Int32)) dX10_strongest_33 (by decide) ?_
      refine J_istore X (ls' := [some (.ref v0), some (.int v1), some (.int v2), some (.int r8), some (.int (-2 : Int32)), some (.int (-2 : Int32)), none]) dX10_strongest_35 (by decide) rfl ?_
      refine J_iconst X (v := (0 : Int32)) dX10_strongest_37 (by decide) ?_
      refine J_istore X (ls' := [some (.ref v0), some (.int v1), some (.int v2), some (.int r8), some (.int (-2 : Int32)), some (.int (-2 : Int32)), some (.int (0 : Int32))]) dX10_strongest_38 (by decide) rfl ?_
      refine J_mask [true, false, true, true, true, true, true] ?_
      exact t_X10_strongest_40 X hR FU v0 kv0 v2 r8 (-2 : Int32) (-2 : Int32) (0 : Int32) S7 wS7
theorem C_X10_strongest (G : GG) (v0 : Nat) (kv0 : KA (gD G) v0 (0, 10)) (v1 : Int32) (v2 : Int32) (S : St) : CM G yX10_strongest cX10_strongest 7 (some .int) 4 [.ref v0, .int v1, .int v2] S (fun v : Int32 => some (.int v)) (f_X10_strongest v0 v1 v2 S) :=
  CM_of (by decide) (Nat.le_of_ble_eq_true rfl) rfl (fun K hG X hR w => by subst hG; exact t_X10_strongest_0 X hR v0 kv0 v1 v2 S w)
-- ==== X10_again
theorem hy_X10_again : yX10_again.cls ≠ "java/lang/invoke/MethodHandle" ∧ yX10_again.cls ≠ "java/lang/invoke/VarHandle" ∧ (parseMethodDescriptor yX10_again.desc).map (fun d => d.parameters.length) = some 1 := by decide +kernel
set_option maxRecDepth 20000 in
def b_X10_again_77 (q31 : Nat → Int32 → Int32 → St → Option (Int32 × St)) (q47 : Nat → Int32 → Int32 → Int32 → Int32 → St → Option (Int32 × St)) (v0 : Nat) (v1 : Int32) (v2 : Int32) (v3 : Int32) (v4 : Int32) (S : St) : Option (Int32 × St) := nm (v4 + (4 : Int32)) fun x1 => q47 v0 v1 v2 v3 x1 S
set_option maxRecDepth 20000 in
theorem t_X10_again_77 {K : KK} (X : CX K cX10_again 5 RX10 (some .int)) (hR : kR K = rmD 2) {q31 : Nat → Int32 → Int32 → St → Option (Int32 × St)} (hq31 : ∀ (v0 : Nat) (kv0 : KA (kDn K) v0 (0, 10)) (v1 : Int32) (v2 : Int32) (S : St), WT (kDn K) S.2.2 → JX K (Zm K (fun v : Int32 => some (.int v))) 31 [some (.ref v0), some (.int v1), some (.int v2), none, none] [] (rwN (kN K) S) (kn K) 0 0 (q31 v0 v1 v2 S)) {q47 : Nat → Int32 → Int32 → Int32 → Int32 → St → Option (Int32 × St)} (hq47 : ∀ (v0 : Nat) (kv0 : KA (kDn K) v0 (0, 10)) (v1 : Int32) (v2 : Int32) (v3 : Int32) (v4 : Int32) (S : St), WT (kDn K) S.2.2 → JX K (Zm K (fun v : Int32 => some (.int v))) 47 [some (.ref v0), some (.int v1), some (.int v2), some (.int v3), some (.int v4)] [] (rwN (kN K) S) (kn K) 0 0 (q47 v0 v1 v2 v3 v4 S)) (v0 : Nat) (kv0 : KA (kDn K) v0 (0, 10)) (v1 : Int32) (v2 : Int32) (v3 : Int32) (v4 : Int32) (S : St) (w : WT (kDn K) S.2.2) : JX K (Zm K (fun v : Int32 => some (.int v))) 77 [some (.ref v0), some (.int v1), some (.int v2), some (.int v3), some (.int v4)] [] (rwN (kN K) S) (kn K) 0 0 (b_X10_again_77 q31 q47 v0 v1 v2 v3 v4 S) := by
  unfold b_X10_again_77
  refine J_nmv (v4 + (4 : Int32)) (fun x1 ex1 => ?_)
  refine J_iinc X (v := x1) (ls' := [some (.ref v0), some (.int v1), some (.int v2), some (.int v3), some (.int x1)]) dX10_again_77 (by decide) rfl (by rw [ex1]; rfl) rfl ?_
  refine J_goto X (tgt := 47) dX10_again_80 (by decide) ?_
  exact hq47 v0 kv0 v1 v2 v3 x1 S w
set_option maxRecDepth 20000 in
def b_X10_again_47 (q31 : Nat → Int32 → Int32 → St → Option (Int32 × St)) : Nat → Nat → Int32 → Int32 → Int32 → Int32 → St → Option (Int32 × St)
  | 0, _, _, _, _, _, _ => none
  | fu + 1, v0, v1, v2, v3, v4, S => if (16 : Int32) ≤ v4 then (if v3 = 0 then (nm (v2 + (1 : Int32)) fun x1 => q31 v0 v1 x1 S) else (some (v2, S))) else ((ix (v4 + v1) 55).bind fun j2 => (ix (v4 + v1) 55).bind fun j3 => if (S.1 (S.2.2 v0 52) j2) = (S.1 (S.2.2 v0 51) j3) then (b_X10_again_77 q31 (b_X10_again_47 q31 fu) v0 v1 v2 v3 v4 S) else (b_X10_again_77 q31 (b_X10_again_47 q31 fu) v0 v1 v2 (0 : Int32) v4 S))
set_option maxRecDepth 20000 in
theorem t_X10_again_47 {K : KK} (X : CX K cX10_again 5 RX10 (some .int)) (hR : kR K = rmD 2) {q31 : Nat → Int32 → Int32 → St → Option (Int32 × St)} (hq31 : ∀ (v0 : Nat) (kv0 : KA (kDn K) v0 (0, 10)) (v1 : Int32) (v2 : Int32) (S : St), WT (kDn K) S.2.2 → JX K (Zm K (fun v : Int32 => some (.int v))) 31 [some (.ref v0), some (.int v1), some (.int v2), none, none] [] (rwN (kN K) S) (kn K) 0 0 (q31 v0 v1 v2 S)) : ∀ (fu : Nat) (v0 : Nat) (kv0 : KA (kDn K) v0 (0, 10)) (v1 : Int32) (v2 : Int32) (v3 : Int32) (v4 : Int32) (S : St), WT (kDn K) S.2.2 → JX K (Zm K (fun v : Int32 => some (.int v))) 47 [some (.ref v0), some (.int v1), some (.int v2), some (.int v3), some (.int v4)] [] (rwN (kN K) S) (kn K) 0 0 (b_X10_again_47 q31 fu v0 v1 v2 v3 v4 S) := by
  intro fu
  induction fu with
  | zero => intro v0 kv0 v1 v2 v3 v4 S w; exact J_none
  | succ fu ih =>
    intro v0 kv0 v1 v2 v3 v4 S w
    rw [b_X10_again_47]
    refine J_iload X dX10_again_47 rfl ?_
    refine J_bipush X (v := (16 : Int32)) dX10_again_49 (by decide) ?_
    refine J_icmp_ge X (tgt := 83) dX10_again_51 (by decide) ?_ ?_
    · refine J_iload_n X dX10_again_83 (i := 3) rfl rfl ?_
      refine J_if_eq X (tgt := 89) dX10_again_84 (by decide) ?_ ?_
      · refine J_nmv (v2 + (1 : Int32)) (fun x1 ex1 => ?_)
        refine J_iinc X (v := x1) (ls' := [some (.ref v0), some (.int v1), some (.int x1), some (.int v3), some (.int v4)]) dX10_again_89 (by decide) rfl (by rw [ex1]; rfl) rfl ?_
        refine J_goto X (tgt := 31) dX10_again_92 (by decide) ?_
        refine J_mask [true, true, true, false, false] ?_
        exact hq31 v0 kv0 v1 x1 S w
      · refine J_iload_n X dX10_again_87 (i := 2) rfl rfl ?_
        exact T_iret w X dX10_again_88
    · refine J_aload_n X dX10_again_54 (i := 0) rfl rfl ?_
      refine T_getR X (kf := 52) cb10 kv0 (by decide) fl_X10_122 (fun _ _ _ => rfl) dX10_again_55 ?_
      refine J_iload X dX10_again_58 rfl ?_
      refine J_iload_n X dX10_again_60 (i := 1) rfl rfl ?_
      refine J_iadd X dX10_again_61 ?_
      refine T_iald X (w.1 _ _ kv0 52 _ rfl) dX10_again_62 (fun j2 => ?_)
      refine J_aload_n X dX10_again_63 (i := 0) rfl rfl ?_
      refine T_getR X (kf := 51) cb10 kv0 (by decide) fl_X10_119 (fun _ _ _ => rfl) dX10_again_64 ?_
      refine J_iload X dX10_again_67 rfl ?_
      refine J_iload_n X dX10_again_69 (i := 1) rfl rfl ?_
      refine J_iadd X dX10_again_70 ?_
      refine T_iald X (w.1 _ _ kv0 51 _ rfl) dX10_again_71 (fun j3 => ?_)
      refine J_icmp_eq X (tgt := 77) dX10_again_72 (by decide) ?_ ?_
      · exact t_X10_again_77 X hR hq31 ih v0 kv0 v1 v2 v3 v4 S w
      · refine J_iconst X (v := (0 : Int32)) dX10_again_75 (by decide) ?_
        refine J_istore_n X (i := 3) (ls' := [some (.ref v0), some (.int v1), some (.int v2), some (.int (0 : Int32)), some (.int v4)]) dX10_again_76 rfl (by decide) rfl ?_
        exact t_X10_again_77 X hR hq31 ih v0 kv0 v1 v2 (0 : Int32) v4 S w
set_option maxRecDepth 20000 in
def b_X10_again_31 : Nat → Nat → Int32 → Int32 → St → Option (Int32 × St)
  | 0, _, _, _, _ => none
  | fu + 1, v0, v1, v2, S => if (36 : Int32) < v2 then (some ((-2 : Int32), S)) else (bd (f_X10_swimsOne v0 v1 S) fun _ S1 => b_X10_again_47 (b_X10_again_31 fu) FU v0 v1 v2 (1 : Int32) (0 : Int32) S1)
set_option maxRecDepth 20000 in
theorem t_X10_again_31 {K : KK} (X : CX K cX10_again 5 RX10 (some .int)) (hR : kR K = rmD 2) : ∀ (fu : Nat) (v0 : Nat) (kv0 : KA (kDn K) v0 (0, 10)) (v1 : Int32) (v2 : Int32) (S : St), WT (kDn K) S.2.2 → JX K (Zm K (fun v : Int32 => some (.int v))) 31 [some (.ref v0), some (.int v1), some (.int v2), none, none] [] (rwN (kN K) S) (kn K) 0 0 (b_X10_again_31 fu v0 v1 v2 S) := by
  intro fu
  induction fu with
  | zero => intro v0 kv0 v1 v2 S w; exact J_none
  | succ fu ih =>
    intro v0 kv0 v1 v2 S w
    rw [b_X10_again_31]
    refine J_iload_n X dX10_again_31 (i := 2) rfl rfl ?_
    refine J_bipush X (v := (36 : Int32)) dX10_again_32 (by decide) ?_
    refine J_icmp_gt X (tgt := 95) dX10_again_34 (by decide) ?_ ?_
    · refine J_bipush X (v := (-2 : Int32)) dX10_again_95 (by decide) ?_
      exact T_iret w X dX10_again_97
    · refine J_aload_n X dX10_again_37 (i := 0) rfl rfl ?_
      refine J_iload_n X dX10_again_38 (i := 1) rfl rfl ?_
      refine T_callV (As := [.int v1]) w X (C_X10_swimsOne (kG K) v0 kv0 v1 S) cb10 kv0 ml_X10_413 in_yX10_swimsOne se_yX10_swimsOne ii_RX10 co_yX10_swimsOne hy_X10_swimsOne (hRd hR (by decide) (by decide)) rfl (Nat.le_of_ble_eq_true rfl) dX10_again_39 (fun _ S1 _ wS1 => ?_)
      refine J_iconst X (v := (1 : Int32)) dX10_again_42 (by decide) ?_
      refine J_istore_n X (i := 3) (ls' := [some (.ref v0), some (.int v1), some (.int v2), some (.int (1 : Int32)), none]) dX10_again_43 rfl (by decide) rfl ?_
      refine J_iconst X (v := (0 : Int32)) dX10_again_44 (by decide) ?_
      refine J_istore X (ls' := [some (.ref v0), some (.int v1), some (.int v2), some (.int (1 : Int32)), some (.int (0 : Int32))]) dX10_again_45 (by decide) rfl ?_
      exact t_X10_again_47 X hR ih FU v0 kv0 v1 v2 (1 : Int32) (0 : Int32) S1 wS1
set_option maxRecDepth 20000 in
def f_X10_again (v0 : Nat) (v1 : Int32) (S : St) : Option (Int32 × St) := bd (f_X10_isMermaid v0 v1 S) fun r2 S1 => if r2 = 0 then (some ((-1 : Int32), S1)) else (bd (f_X10_copies v0 S1) fun _ S3 => (ix ((16 : Int32) + v1) 55).bind fun j5 => if (S3.1 (S3.2.2 v0 52) j5) = (1 : Int32) then (some ((1 : Int32), S3)) else (b_X10_again_31 FU v0 v1 (1 : Int32) S3))
set_option maxRecDepth 20000 in
theorem t_X10_again_0 {K : KK} (X : CX K cX10_again 5 RX10 (some .int)) (hR : kR K = rmD 2) (v0 : Nat) (kv0 : KA (kDn K) v0 (0, 10)) (v1 : Int32) (S : St) (w : WT (kDn K) S.2.2) : JX K (Zm K (fun v : Int32 => some (.int v))) 0 [some (.ref v0), some (.int v1), none, none, none] [] (rwN (kN K) S) (kn K) 0 0 (f_X10_again v0 v1 S) := by
  unfold f_X10_again
  refine J_aload_n X dX10_again_0 (i := 0) rfl rfl ?_
  refine J_iload_n X dX10_again_1 (i := 1) rfl rfl ?_
  refine T_callV (As := [.int v1]) w X (C_X10_isMermaid (kG K) v0 kv0 v1 S) cb10 kv0 ml_X10_419 in_yX10_isMermaid se_yX10_isMermaid ii_RX10 co_yX10_isMermaid hy_X10_isMermaid (hRd hR (by decide) (by decide)) rfl (Nat.le_of_ble_eq_true rfl) dX10_again_2 (fun r2 S1 _ wS1 => ?_)
  refine J_if_ne X (tgt := 10) dX10_again_5 (by decide) ?_ ?_
  · refine J_iconst X (v := (-1 : Int32)) dX10_again_8 (by decide) ?_
    exact T_iret wS1 X dX10_again_9
  · refine J_aload_n X dX10_again_10 (i := 0) rfl rfl ?_
    refine T_callV (As := []) wS1 X (C_X10_copies (kG K) v0 kv0 S1) cb10 kv0 ml_X10_335 in_yX10_copies se_yX10_copies ii_RX10 co_yX10_copies hy_X10_copies (hRd hR (by decide) (by decide)) rfl (Nat.le_of_ble_eq_true rfl) dX10_again_11 (fun _ S3 _ wS3 => ?_)
    refine J_aload_n X dX10_again_14 (i := 0) rfl rfl ?_
    refine T_getR X (kf := 52) cb10 kv0 (by decide) fl_X10_122 (fun _ _ _ => rfl) dX10_again_15 ?_
    refine J_bipush X (v := (16 : Int32)) dX10_again_18 (by decide) ?_
    refine J_iload_n X dX10_again_20 (i := 1) rfl rfl ?_
    refine J_iadd X dX10_again_21 ?_
    refine T_iald X (wS3.1 _ _ kv0 52 _ rfl) dX10_again_22 (fun j5 => ?_)
    refine J_iconst X (v := (1 : Int32)) dX10_again_23 (by decide) ?_
    refine J_icmp_ne X (tgt := 29) dX10_again_24 (by decide) ?_ ?_
    · refine J_iconst X (v := (1 : Int32)) dX10_again_27 (by decide) ?_
      exact T_iret wS3 X dX10_again_28
    · refine J_iconst X (v := (1 : Int32)) dX10_again_29 (by decide) ?_
      refine J_istore_n X (i := 2) (ls' := [some (.ref v0), some (.int v1), some (.int (1 : Int32)), none, none]) dX10_again_30 rfl (by decide) rfl ?_
      exact t_X10_again_31 X hR FU v0 kv0 v1 (1 : Int32) S3 wS3
theorem C_X10_again (G : GG) (v0 : Nat) (kv0 : KA (gD G) v0 (0, 10)) (v1 : Int32) (S : St) : CM G yX10_again cX10_again 5 (some .int) 2 [.ref v0, .int v1] S (fun v : Int32 => some (.int v)) (f_X10_again v0 v1 S) :=
  CM_of (by decide) (Nat.le_of_ble_eq_true rfl) rfl (fun K hG X hR w => by subst hG; exact t_X10_again_0 X hR v0 kv0 v1 S w)
-- ==== X10_passing
theorem hy_X10_passing : yX10_passing.cls ≠ "java/lang/invoke/MethodHandle" ∧ yX10_passing.cls ≠ "java/lang/invoke/VarHandle" ∧ (parseMethodDescriptor yX10_passing.desc).map (fun d => d.parameters.length) = some 3 := by decide +kernel
set_option maxRecDepth 20000 in
def b_X10_passing_37 : Nat → Nat → Int32 → Int32 → Int32 → Int32 → St → Option (Int32 × St)
  | 0, _, _, _, _, _, _ => none
  | fu + 1, v0, v1, v2, v3, v4, S => if (100 : Int32) < v4 then (some ((-2 : Int32), S)) else ((ix v2 55).bind fun j1 => (ix ((4 : Int32) + v2) 55).bind fun j2 => bd (f_X10_farFrom v0 v1 (S.1 (S.2.2 v0 52) j1) (S.1 (S.2.2 v0 52) j2) S) fun r4 S3 => if v3 < r4 then (bd (f_X10_swimsFor v0 v1 (1 : Int32) S3) fun _ S5 => bd (f_X10_swimsFor v0 v2 (1 : Int32) S5) fun _ S7 => nm (v4 + (1 : Int32)) fun x9 => b_X10_passing_37 fu v0 v1 v2 v3 x9 S7) else (some (v4, S3)))
set_option maxRecDepth 20000 in
theorem t_X10_passing_37 {K : KK} (X : CX K cX10_passing 5 RX10 (some .int)) (hR : kR K = rmD 2) : ∀ (fu : Nat) (v0 : Nat) (kv0 : KA (kDn K) v0 (0, 10)) (v1 : Int32) (v2 : Int32) (v3 : Int32) (v4 : Int32) (S : St), WT (kDn K) S.2.2 → JX K (Zm K (fun v : Int32 => some (.int v))) 37 [some (.ref v0), some (.int v1), some (.int v2), some (.int v3), some (.int v4)] [] (rwN (kN K) S) (kn K) 0 0 (b_X10_passing_37 fu v0 v1 v2 v3 v4 S) := by
  intro fu
  induction fu with
  | zero => intro v0 kv0 v1 v2 v3 v4 S w; exact J_none
  | succ fu ih =>
    intro v0 kv0 v1 v2 v3 v4 S w
    rw [b_X10_passing_37]
    refine J_iload X dX10_passing_37 rfl ?_
    refine J_bipush X (v := (100 : Int32)) dX10_passing_39 (by decide) ?_
    refine J_icmp_gt X (tgt := 88) dX10_passing_41 (by decide) ?_ ?_
    · refine J_bipush X (v := (-2 : Int32)) dX10_passing_88 (by decide) ?_
      exact T_iret w X dX10_passing_90
    · refine J_aload_n X dX10_passing_44 (i := 0) rfl rfl ?_
      refine J_iload_n X dX10_passing_45 (i := 1) rfl rfl ?_
      refine J_aload_n X dX10_passing_46 (i := 0) rfl rfl ?_
      refine T_getR X (kf := 52) cb10 kv0 (by decide) fl_X10_122 (fun _ _ _ => rfl) dX10_passing_47 ?_
      refine J_iload_n X dX10_passing_50 (i := 2) rfl rfl ?_
      refine T_iald X (w.1 _ _ kv0 52 _ rfl) dX10_passing_51 (fun j1 => ?_)
      refine J_aload_n X dX10_passing_52 (i := 0) rfl rfl ?_
      refine T_getR X (kf := 52) cb10 kv0 (by decide) fl_X10_122 (fun _ _ _ => rfl) dX10_passing_53 ?_
      refine J_iconst X (v := (4 : Int32)) dX10_passing_56 (by decide) ?_
      refine J_iload_n X dX10_passing_57 (i := 2) rfl rfl ?_
      refine J_iadd X dX10_passing_58 ?_
      refine T_iald X (w.1 _ _ kv0 52 _ rfl) dX10_passing_59 (fun j2 => ?_)
      refine T_callV (As := [.int v1, .int (S.1 (S.2.2 v0 52) j1), .int (S.1 (S.2.2 v0 52) j2)]) w X (C_X10_farFrom (kG K) v0 kv0 v1 (S.1 (S.2.2 v0 52) j1) (S.1 (S.2.2 v0 52) j2) S) cb10 kv0 ml_X10_357 in_yX10_farFrom se_yX10_farFrom ii_RX10 co_yX10_farFrom hy_X10_farFrom (hRd hR (by decide) (by decide)) rfl (Nat.le_of_ble_eq_true rfl) dX10_passing_60 (fun r4 S3 _ wS3 => ?_)
      refine J_iload_n X dX10_passing_63 (i := 3) rfl rfl ?_
      refine J_icmp_gt X (tgt := 70) dX10_passing_64 (by decide) ?_ ?_
      · refine J_aload_n X dX10_passing_70 (i := 0) rfl rfl ?_
        refine J_iload_n X dX10_passing_71 (i := 1) rfl rfl ?_
        refine J_iconst X (v := (1 : Int32)) dX10_passing_72 (by decide) ?_
        refine T_callV (As := [.int v1, .int (1 : Int32)]) wS3 X (C_X10_swimsFor (kG K) v0 kv0 v1 (1 : Int32) S3) cb10 kv0 ml_X10_441 in_yX10_swimsFor se_yX10_swimsFor ii_RX10 co_yX10_swimsFor hy_X10_swimsFor (hRd hR (by decide) (by decide)) rfl (Nat.le_of_ble_eq_true rfl) dX10_passing_73 (fun _ S5 _ wS5 => ?_)
        refine J_aload_n X dX10_passing_76 (i := 0) rfl rfl ?_
        refine J_iload_n X dX10_passing_77 (i := 2) rfl rfl ?_
        refine J_iconst X (v := (1 : Int32)) dX10_passing_78 (by decide) ?_
        refine T_callV (As := [.int v2, .int (1 : Int32)]) wS5 X (C_X10_swimsFor (kG K) v0 kv0 v2 (1 : Int32) S5) cb10 kv0 ml_X10_441 in_yX10_swimsFor se_yX10_swimsFor ii_RX10 co_yX10_swimsFor hy_X10_swimsFor (hRd hR (by decide) (by decide)) rfl (Nat.le_of_ble_eq_true rfl) dX10_passing_79 (fun _ S7 _ wS7 => ?_)
        refine J_nmv (v4 + (1 : Int32)) (fun x9 ex9 => ?_)
        refine J_iinc X (v := x9) (ls' := [some (.ref v0), some (.int v1), some (.int v2), some (.int v3), some (.int x9)]) dX10_passing_82 (by decide) rfl (by rw [ex9]; rfl) rfl ?_
        refine J_goto X (tgt := 37) dX10_passing_85 (by decide) ?_
        exact ih v0 kv0 v1 v2 v3 x9 S7 wS7
      · refine J_iload X dX10_passing_67 rfl ?_
        exact T_iret wS3 X dX10_passing_69
set_option maxRecDepth 20000 in
def f_X10_passing (v0 : Nat) (v1 : Int32) (v2 : Int32) (v3 : Int32) (S : St) : Option (Int32 × St) := bd (f_X10_isMermaid v0 v1 S) fun r2 S1 => if r2 = 0 then (some ((-1 : Int32), S1)) else (bd (f_X10_isMermaid v0 v2 S1) fun r4 S3 => if r4 = 0 then (some ((-1 : Int32), S3)) else (if v1 = v2 then (some ((-1 : Int32), S3)) else (bd (f_X10_isNear v3 S3) fun r6 S5 => if r6 = 0 then (some ((-1 : Int32), S5)) else (bd (f_X10_copies v0 S5) fun _ S7 => b_X10_passing_37 FU v0 v1 v2 v3 (0 : Int32) S7))))
set_option maxRecDepth 20000 in
theorem t_X10_passing_0 {K : KK} (X : CX K cX10_passing 5 RX10 (some .int)) (hR : kR K = rmD 2) (v0 : Nat) (kv0 : KA (kDn K) v0 (0, 10)) (v1 : Int32) (v2 : Int32) (v3 : Int32) (S : St) (w : WT (kDn K) S.2.2) : JX K (Zm K (fun v : Int32 => some (.int v))) 0 [some (.ref v0), some (.int v1), some (.int v2), some (.int v3), none] [] (rwN (kN K) S) (kn K) 0 0 (f_X10_passing v0 v1 v2 v3 S) := by
  unfold f_X10_passing
  refine J_aload_n X dX10_passing_0 (i := 0) rfl rfl ?_
  refine J_iload_n X dX10_passing_1 (i := 1) rfl rfl ?_
  refine T_callV (As := [.int v1]) w X (C_X10_isMermaid (kG K) v0 kv0 v1 S) cb10 kv0 ml_X10_419 in_yX10_isMermaid se_yX10_isMermaid ii_RX10 co_yX10_isMermaid hy_X10_isMermaid (hRd hR (by decide) (by decide)) rfl (Nat.le_of_ble_eq_true rfl) dX10_passing_2 (fun r2 S1 _ wS1 => ?_)
  refine J_if_eq X (tgt := 28) dX10_passing_5 (by decide) ?_ ?_
  · refine J_iconst X (v := (-1 : Int32)) dX10_passing_28 (by decide) ?_
    exact T_iret wS1 X dX10_passing_29
  · refine J_aload_n X dX10_passing_8 (i := 0) rfl rfl ?_
    refine J_iload_n X dX10_passing_9 (i := 2) rfl rfl ?_
    refine T_callV (As := [.int v2]) wS1 X (C_X10_isMermaid (kG K) v0 kv0 v2 S1) cb10 kv0 ml_X10_419 in_yX10_isMermaid se_yX10_isMermaid ii_RX10 co_yX10_isMermaid hy_X10_isMermaid (hRd hR (by decide) (by decide)) rfl (Nat.le_of_ble_eq_true rfl) dX10_passing_10 (fun r4 S3 _ wS3 => ?_)
    refine J_if_eq X (tgt := 28) dX10_passing_13 (by decide) ?_ ?_
    · refine J_iconst X (v := (-1 : Int32)) dX10_passing_28 (by decide) ?_
      exact T_iret wS3 X dX10_passing_29
    · refine J_iload_n X dX10_passing_16 (i := 1) rfl rfl ?_
      refine J_iload_n X dX10_passing_17 (i := 2) rfl rfl ?_
      refine J_icmp_eq X (tgt := 28) dX10_passing_18 (by decide) ?_ ?_
      · refine J_iconst X (v := (-1 : Int32)) dX10_passing_28 (by decide) ?_
        exact T_iret wS3 X dX10_passing_29
      · refine J_iload_n X dX10_passing_21 (i := 3) rfl rfl ?_
        refine T_callS (As := [.int v3]) wS3 X (C_X10_isNear (kG K) v3 S3) ml_X10_453 st_yX10_isNear ii_RX10 co_yX10_isNear hy_X10_isNear (hRd hR (by decide) (by decide)) rfl (Nat.le_of_ble_eq_true rfl) dX10_passing_22 (fun r6 S5 _ wS5 => ?_)
        refine J_if_ne X (tgt := 30) dX10_passing_25 (by decide) ?_ ?_
        · refine J_iconst X (v := (-1 : Int32)) dX10_passing_28 (by decide) ?_
          exact T_iret wS5 X dX10_passing_29
        · refine J_aload_n X dX10_passing_30 (i := 0) rfl rfl ?_
          refine T_callV (As := []) wS5 X (C_X10_copies (kG K) v0 kv0 S5) cb10 kv0 ml_X10_335 in_yX10_copies se_yX10_copies ii_RX10 co_yX10_copies hy_X10_copies (hRd hR (by decide) (by decide)) rfl (Nat.le_of_ble_eq_true rfl) dX10_passing_31 (fun _ S7 _ wS7 => ?_)
          refine J_iconst X (v := (0 : Int32)) dX10_passing_34 (by decide) ?_
          refine J_istore X (ls' := [some (.ref v0), some (.int v1), some (.int v2), some (.int v3), some (.int (0 : Int32))]) dX10_passing_35 (by decide) rfl ?_
          exact t_X10_passing_37 X hR FU v0 kv0 v1 v2 v3 (0 : Int32) S7 wS7
theorem C_X10_passing (G : GG) (v0 : Nat) (kv0 : KA (gD G) v0 (0, 10)) (v1 : Int32) (v2 : Int32) (v3 : Int32) (S : St) : CM G yX10_passing cX10_passing 5 (some .int) 2 [.ref v0, .int v1, .int v2, .int v3] S (fun v : Int32 => some (.int v)) (f_X10_passing v0 v1 v2 v3 S) :=
  CM_of (by decide) (Nat.le_of_ble_eq_true rfl) rfl (fun K hG X hR w => by subst hG; exact t_X10_passing_0 X hR v0 kv0 v1 v2 v3 S w)

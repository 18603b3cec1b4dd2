-- ==== X10_more
theorem hy_X10_more : yX10_more.cls ≠ "java/lang/invoke/MethodHandle" ∧ yX10_more.cls ≠ "java/lang/invoke/VarHandle" ∧ (parseMethodDescriptor yX10_more.desc).map (fun d => d.parameters.length) = some 2 := by decide +kernel
set_option maxRecDepth 20000 in
def f_X10_more (v0 : Int32) (v1 : Int32) (S : St) : Option (Int32 × St) := if v0 ≤ v1 then (some (v1, S)) else (some (v0, S))
set_option maxRecDepth 20000 in
theorem t_X10_more_0 {K : KK} (X : CX K cX10_more 2 RX10 (some .int)) (hR : kR K = rmD 0) (v0 : Int32) (v1 : Int32) (S : St) (w : WT (kDn K) S.2.2) : JX K (Zm K (fun v : Int32 => some (.int v))) 0 [some (.int v0), some (.int v1)] [] (rwN (kN K) S) (kn K) 0 0 (f_X10_more v0 v1 S) := by
  unfold f_X10_more
  refine J_iload_n X dX10_more_0 (i := 0) rfl rfl ?_
  refine J_iload_n X dX10_more_1 (i := 1) rfl rfl ?_
  refine J_icmp_le X (tgt := 9) dX10_more_2 (by decide) ?_ ?_
  · refine J_iload_n X dX10_more_9 (i := 1) rfl rfl ?_
    exact T_iret w X dX10_more_10
  · refine J_iload_n X dX10_more_5 (i := 0) rfl rfl ?_
    refine J_goto X (tgt := 10) dX10_more_6 (by decide) ?_
    exact T_iret w X dX10_more_10
theorem C_X10_more (G : GG) (v0 : Int32) (v1 : Int32) (S : St) : CM G yX10_more cX10_more 2 (some .int) 0 [.int v0, .int v1] S (fun v : Int32 => some (.int v)) (f_X10_more v0 v1 S) :=
  CM_of (by decide) (Nat.le_of_ble_eq_true rfl) rfl (fun K hG X hR w => by subst hG; exact t_X10_more_0 X hR v0 v1 S w)
-- ==== X10_isMermaid
theorem hy_X10_isMermaid : yX10_isMermaid.cls ≠ "java/lang/invoke/MethodHandle" ∧ yX10_isMermaid.cls ≠ "java/lang/invoke/VarHandle" ∧ (parseMethodDescriptor yX10_isMermaid.desc).map (fun d => d.parameters.length) = some 1 := by decide +kernel
set_option maxRecDepth 20000 in
def f_X10_isMermaid (v0 : Nat) (v1 : Int32) (S : St) : Option (Int32 × St) := (ix (S.1 v0 18) 2).bind fun j1 => bd (f_X10_in v1 (0 : Int32) ((S.1 (S.2.2 v0 23) j1) - (1 : Int32)) S) fun r3 S2 => (gb r3).bind fun v => some (v, S2)
set_option maxRecDepth 20000 in
theorem t_X10_isMermaid_0 {K : KK} (X : CX K cX10_isMermaid 2 RX10 (some .boolean)) (hR : kR K = rmD 1) (v0 : Nat) (kv0 : KA (kDn K) v0 (0, 10)) (v1 : Int32) (S : St) (w : WT (kDn K) S.2.2) : JX K (Zm K (fun v : Int32 => some (.int v))) 0 [some (.ref v0), some (.int v1)] [] (rwN (kN K) S) (kn K) 0 0 (f_X10_isMermaid v0 v1 S) := by
  unfold f_X10_isMermaid
  refine J_iload_n X dX10_isMermaid_0 (i := 1) rfl rfl ?_
  refine J_iconst X (v := (0 : Int32)) dX10_isMermaid_1 (by decide) ?_
  refine J_aload_n X dX10_isMermaid_2 (i := 0) rfl rfl ?_
  refine T_getR X (kf := 23) cb10 kv0 (by decide) fl_X10_46 (fun _ _ _ => rfl) dX10_isMermaid_3 ?_
  refine J_aload_n X dX10_isMermaid_6 (i := 0) rfl rfl ?_
  refine T_getI X (kf := 18) cb10 kv0 (by decide) fl_X10_239 (fun _ _ _ => rfl) dX10_isMermaid_7 ?_
  refine T_iald X (w.1 _ _ kv0 23 _ rfl) dX10_isMermaid_10 (fun j1 => ?_)
  refine J_iconst X (v := (1 : Int32)) dX10_isMermaid_11 (by decide) ?_
  refine J_isub X dX10_isMermaid_12 ?_
  refine T_callS (As := [.int v1, .int (0 : Int32), .int ((S.1 (S.2.2 v0 23) j1) - (1 : Int32))]) w X (C_X10_in (kG K) v1 (0 : Int32) ((S.1 (S.2.2 v0 23) j1) - (1 : Int32)) S) ml_X10_325 st_yX10_in ii_RX10 co_yX10_in hy_X10_in (hRd hR (by decide) (by decide)) rfl (Nat.le_of_ble_eq_true rfl) dX10_isMermaid_13 (fun r3 S2 _ wS2 => ?_)
  exact T_gret wS2 X dX10_isMermaid_16
theorem C_X10_isMermaid (G : GG) (v0 : Nat) (kv0 : KA (gD G) v0 (0, 10)) (v1 : Int32) (S : St) : CM G yX10_isMermaid cX10_isMermaid 2 (some .boolean) 1 [.ref v0, .int v1] S (fun v : Int32 => some (.int v)) (f_X10_isMermaid v0 v1 S) :=
  CM_of (by decide) (Nat.le_of_ble_eq_true rfl) rfl (fun K hG X hR w => by subst hG; exact t_X10_isMermaid_0 X hR v0 kv0 v1 S w)
-- ==== X10_isPerson
theorem hy_X10_isPerson : yX10_isPerson.cls ≠ "java/lang/invoke/MethodHandle" ∧ yX10_isPerson.cls ≠ "java/lang/invoke/VarHandle" ∧ (parseMethodDescriptor yX10_isPerson.desc).map (fun d => d.parameters.length) = some 1 := by decide +kernel
set_option maxRecDepth 20000 in
def f_X10_isPerson (v0 : Nat) (v1 : Int32) (S : St) : Option (Int32 × St) := (ix (S.1 v0 18) 2).bind fun j1 => bd (f_X10_in v1 (0 : Int32) ((S.1 (S.2.2 v0 25) j1) - (1 : Int32)) S) fun r3 S2 => (gb r3).bind fun v => some (v, S2)
set_option maxRecDepth 20000 in
theorem t_X10_isPerson_0 {K : KK} (X : CX K cX10_isPerson 2 RX10 (some .boolean)) (hR : kR K = rmD 1) (v0 : Nat) (kv0 : KA (kDn K) v0 (0, 10)) (v1 : Int32) (S : St) (w : WT (kDn K) S.2.2) : JX K (Zm K (fun v : Int32 => some (.int v))) 0 [some (.ref v0), some (.int v1)] [] (rwN (kN K) S) (kn K) 0 0 (f_X10_isPerson v0 v1 S) := by
  unfold f_X10_isPerson
  refine J_iload_n X dX10_isPerson_0 (i := 1) rfl rfl ?_
  refine J_iconst X (v := (0 : Int32)) dX10_isPerson_1 (by decide) ?_
  refine J_aload_n X dX10_isPerson_2 (i := 0) rfl rfl ?_
  refine T_getR X (kf := 25) cb10 kv0 (by decide) fl_X10_52 (fun _ _ _ => rfl) dX10_isPerson_3 ?_
  refine J_aload_n X dX10_isPerson_6 (i := 0) rfl rfl ?_
  refine T_getI X (kf := 18) cb10 kv0 (by decide) fl_X10_239 (fun _ _ _ => rfl) dX10_isPerson_7 ?_
  refine T_iald X (w.1 _ _ kv0 25 _ rfl) dX10_isPerson_10 (fun j1 => ?_)
  refine J_iconst X (v := (1 : Int32)) dX10_isPerson_11 (by decide) ?_
  refine J_isub X dX10_isPerson_12 ?_
  refine T_callS (As := [.int v1, .int (0 : Int32), .int ((S.1 (S.2.2 v0 25) j1) - (1 : Int32))]) w X (C_X10_in (kG K) v1 (0 : Int32) ((S.1 (S.2.2 v0 25) j1) - (1 : Int32)) S) ml_X10_325 st_yX10_in ii_RX10 co_yX10_in hy_X10_in (hRd hR (by decide) (by decide)) rfl (Nat.le_of_ble_eq_true rfl) dX10_isPerson_13 (fun r3 S2 _ wS2 => ?_)
  exact T_gret wS2 X dX10_isPerson_16
theorem C_X10_isPerson (G : GG) (v0 : Nat) (kv0 : KA (gD G) v0 (0, 10)) (v1 : Int32) (S : St) : CM G yX10_isPerson cX10_isPerson 2 (some .boolean) 1 [.ref v0, .int v1] S (fun v : Int32 => some (.int v)) (f_X10_isPerson v0 v1 S) :=
  CM_of (by decide) (Nat.le_of_ble_eq_true rfl) rfl (fun K hG X hR w => by subst hG; exact t_X10_isPerson_0 X hR v0 kv0 v1 S w)
-- ==== X10_isStrand
theorem hy_X10_isStrand : yX10_isStrand.cls ≠ "java/lang/invoke/MethodHandle" ∧ yX10_isStrand.cls ≠ "java/lang/invoke/VarHandle" ∧ (parseMethodDescriptor yX10_isStrand.desc).map (fun d => d.parameters.length) = some 1 := by decide +kernel
set_option maxRecDepth 20000 in
def f_X10_isStrand (v0 : Nat) (v1 : Int32) (S : St) : Option (Int32 × St) := (ix (S.1 v0 18) 2).bind fun j1 => bd (f_X10_in v1 (0 : Int32) ((S.1 (S.2.2 v0 29) j1) - (1 : Int32)) S) fun r3 S2 => (gb r3).bind fun v => some (v, S2)
set_option maxRecDepth 20000 in
theorem t_X10_isStrand_0 {K : KK} (X : CX K cX10_isStrand 2 RX10 (some .boolean)) (hR : kR K = rmD 1) (v0 : Nat) (kv0 : KA (kDn K) v0 (0, 10)) (v1 : Int32) (S : St) (w : WT (kDn K) S.2.2) : JX K (Zm K (fun v : Int32 => some (.int v))) 0 [some (.ref v0), some (.int v1)] [] (rwN (kN K) S) (kn K) 0 0 (f_X10_isStrand v0 v1 S) := by
  unfold f_X10_isStrand
  refine J_iload_n X dX10_isStrand_0 (i := 1) rfl rfl ?_
  refine J_iconst X (v := (0 : Int32)) dX10_isStrand_1 (by decide) ?_
  refine J_aload_n X dX10_isStrand_2 (i := 0) rfl rfl ?_
  refine T_getR X (kf := 29) cb10 kv0 (by decide) fl_X10_64 (fun _ _ _ => rfl) dX10_isStrand_3 ?_
  refine J_aload_n X dX10_isStrand_6 (i := 0) rfl rfl ?_
  refine T_getI X (kf := 18) cb10 kv0 (by decide) fl_X10_239 (fun _ _ _ => rfl) dX10_isStrand_7 ?_
  refine T_iald X (w.1 _ _ kv0 29 _ rfl) dX10_isStrand_10 (fun j1 => ?_)
  refine J_iconst X (v := (1 : Int32)) dX10_isStrand_11 (by decide) ?_
  refine J_isub X dX10_isStrand_12 ?_
  refine T_callS (As := [.int v1, .int (0 : Int32), .int ((S.1 (S.2.2 v0 29) j1) - (1 : Int32))]) w X (C_X10_in (kG K) v1 (0 : Int32) ((S.1 (S.2.2 v0 29) j1) - (1 : Int32)) S) ml_X10_325 st_yX10_in ii_RX10 co_yX10_in hy_X10_in (hRd hR (by decide) (by decide)) rfl (Nat.le_of_ble_eq_true rfl) dX10_isStrand_13 (fun r3 S2 _ wS2 => ?_)
  exact T_gret wS2 X dX10_isStrand_16
theorem C_X10_isStrand (G : GG) (v0 : Nat) (kv0 : KA (gD G) v0 (0, 10)) (v1 : Int32) (S : St) : CM G yX10_isStrand cX10_isStrand 2 (some .boolean) 1 [.ref v0, .int v1] S (fun v : Int32 => some (.int v)) (f_X10_isStrand v0 v1 S) :=
  CM_of (by decide) (Nat.le_of_ble_eq_true rfl) rfl (fun K hG X hR w => by subst hG; exact t_X10_isStrand_0 X hR v0 kv0 v1 S w)
-- ==== X10_copies
theorem hy_X10_copies : yX10_copies.cls ≠ "java/lang/invoke/MethodHandle" ∧ yX10_copies.cls ≠ "java/lang/invoke/VarHandle" ∧ (parseMethodDescriptor yX10_copies.desc).map (fun d => d.parameters.length) = some 0 := by decide +kernel
set_option maxRecDepth 20000 in
def b_X10_copies_2 : Nat → Nat → Int32 → St → Option (Unit × St)
  | 0, _, _, _ => none
  | fu + 1, v0, v1, S => if (55 : Int32) ≤ v1 then ((ix (S.1 v0 18) 2).bind fun j1 => nm (sI S v0 53 (S.1 (S.2.2 v0 34) j1)) fun S2 => nm (sI S2 v0 54 (0 : Int32)) fun S3 => some ((), S3)) else ((ix v1 55).bind fun j4 => (ix v1 55).bind fun j5 => nm (sI S (S.2.2 v0 52) j5 (S.1 (S.2.2 v0 51) j4)) fun S6 => nm (v1 + (1 : Int32)) fun x7 => b_X10_copies_2 fu v0 x7 S6)
set_option maxRecDepth 20000 in
theorem t_X10_copies_2 {K : KK} (X : CX K cX10_copies 2 RX10 none) (hR : kR K = rmD 0) : ∀ (fu : Nat) (v0 : Nat) (kv0 : KA (kDn K) v0 (0, 10)) (v1 : Int32) (S : St), WT (kDn K) S.2.2 → JX K (Zm K (fun _ : Unit => none)) 2 [some (.ref v0), some (.int v1)] [] (rwN (kN K) S) (kn K) 0 0 (b_X10_copies_2 fu v0 v1 S) := by
  intro fu
  induction fu with
  | zero => intro v0 kv0 v1 S w; exact J_none
  | succ fu ih =>
    intro v0 kv0 v1 S w
    rw [b_X10_copies_2]
    refine J_iload_n X dX10_copies_2 (i := 1) rfl rfl ?_
    refine J_bipush X (v := (55 : Int32)) dX10_copies_3 (by decide) ?_
    refine J_icmp_ge X (tgt := 26) dX10_copies_5 (by decide) ?_ ?_
    · refine J_aload_n X dX10_copies_26 (i := 0) rfl rfl ?_
      refine J_aload_n X dX10_copies_27 (i := 0) rfl rfl ?_
      refine T_getR X (kf := 34) cb10 kv0 (by decide) fl_X10_79 (fun _ _ _ => rfl) dX10_copies_28 ?_
      refine J_aload_n X dX10_copies_31 (i := 0) rfl rfl ?_
      refine T_getI X (kf := 18) cb10 kv0 (by decide) fl_X10_239 (fun _ _ _ => rfl) dX10_copies_32 ?_
      refine T_iald X (w.1 _ _ kv0 34 _ rfl) dX10_copies_35 (fun j1 => ?_)
      refine T_putI X (kf := 53) cb10 kv0 (by decide) fl_X10_329 (fun _ _ _ => rfl) rfl rfl rfl dX10_copies_36 (fun S2 hS2 => ?_)
      have wS2 : WT (kDn K) S2.2.2 := by rw [hS2]; exact w
      clear hS2
      refine J_aload_n X dX10_copies_39 (i := 0) rfl rfl ?_
      refine J_iconst X (v := (0 : Int32)) dX10_copies_40 (by decide) ?_
      refine T_putI X (kf := 54) cb10 kv0 (by decide) fl_X10_332 (fun _ _ _ => rfl) rfl (by first | rfl | decide) (by first | rfl | decide) dX10_copies_41 (fun S3 hS3 => ?_)
      have wS3 : WT (kDn K) S3.2.2 := by rw [hS3]; exact wS2
      clear hS3
      exact T_vret wS3 X dX10_copies_44
    · refine J_aload_n X dX10_copies_8 (i := 0) rfl rfl ?_
      refine T_getR X (kf := 52) cb10 kv0 (by decide) fl_X10_122 (fun _ _ _ => rfl) dX10_copies_9 ?_
      refine J_iload_n X dX10_copies_12 (i := 1) rfl rfl ?_
      refine J_aload_n X dX10_copies_13 (i := 0) rfl rfl ?_
      refine T_getR X (kf := 51) cb10 kv0 (by decide) fl_X10_119 (fun _ _ _ => rfl) dX10_copies_14 ?_
      refine J_iload_n X dX10_copies_17 (i := 1) rfl rfl ?_
      refine T_iald X (w.1 _ _ kv0 51 _ rfl) dX10_copies_18 (fun j4 => ?_)
      refine T_iast X (w.1 _ _ kv0 52 _ rfl) dX10_copies_19 (fun j5 S6 hS6 => ?_)
      have wS6 : WT (kDn K) S6.2.2 := by rw [hS6]; exact w
      clear hS6
      refine J_nmv (v1 + (1 : Int32)) (fun x7 ex7 => ?_)
      refine J_iinc X (v := x7) (ls' := [some (.ref v0), some (.int x7)]) dX10_copies_20 (by decide) rfl (by rw [ex7]; rfl) rfl ?_
      refine J_goto X (tgt := 2) dX10_copies_23 (by decide) ?_
      exact ih v0 kv0 x7 S6 wS6
set_option maxRecDepth 20000 in
def f_X10_copies (v0 : Nat) (S : St) : Option (Unit × St) := b_X10_copies_2 FU v0 (0 : Int32) S
set_option maxRecDepth 20000 in
theorem t_X10_copies_0 {K : KK} (X : CX K cX10_copies 2 RX10 none) (hR : kR K = rmD 0) (v0 : Nat) (kv0 : KA (kDn K) v0 (0, 10)) (S : St) (w : WT (kDn K) S.2.2) : JX K (Zm K (fun _ : Unit => none)) 0 [some (.ref v0), none] [] (rwN (kN K) S) (kn K) 0 0 (f_X10_copies v0 S) := by
  unfold f_X10_copies
  refine J_iconst X (v := (0 : Int32)) dX10_copies_0 (by decide) ?_
  refine J_istore_n X (i := 1) (ls' := [some (.ref v0), some (.int (0 : Int32))]) dX10_copies_1 rfl (by decide) rfl ?_
  exact t_X10_copies_2 X hR FU v0 kv0 (0 : Int32) S w
theorem C_X10_copies (G : GG) (v0 : Nat) (kv0 : KA (gD G) v0 (0, 10)) (S : St) : CM G yX10_copies cX10_copies 2 none 0 [.ref v0] S (fun _ : Unit => none) (f_X10_copies v0 S) :=
  CM_of (by decide) (Nat.le_of_ble_eq_true rfl) rfl (fun K hG X hR w => by subst hG; exact t_X10_copies_0 X hR v0 kv0 S w)
-- ==== X10_copiesStill
theorem hy_X10_copiesStill : yX10_copiesStill.cls ≠ "java/lang/invoke/MethodHandle" ∧ yX10_copiesStill.cls ≠ "java/lang/invoke/VarHandle" ∧ (parseMethodDescriptor yX10_copiesStill.desc).map (fun d => d.parameters.length) = some 0 := by decide +kernel
set_option maxRecDepth 20000 in
def f_X10_copiesStill (v0 : Nat) (S : St) : Option (Unit × St) := bd (f_X10_copies v0 S) fun _ S1 => nm (sI S1 v0 54 (1 : Int32)) fun S3 => some ((), S3)
set_option maxRecDepth 20000 in
theorem t_X10_copiesStill_0 {K : KK} (X : CX K cX10_copiesStill 1 RX10 none) (hR : kR K = rmD 1) (v0 : Nat) (kv0 : KA (kDn K) v0 (0, 10)) (S : St) (w : WT (kDn K) S.2.2) : JX K (Zm K (fun _ : Unit => none)) 0 [some (.ref v0)] [] (rwN (kN K) S) (kn K) 0 0 (f_X10_copiesStill v0 S) := by
  unfold f_X10_copiesStill
  refine J_aload_n X dX10_copiesStill_0 (i := 0) rfl rfl ?_
  refine T_callV (As := []) w X (C_X10_copies (kG K) v0 kv0 S) cb10 kv0 ml_X10_335 in_yX10_copies se_yX10_copies ii_RX10 co_yX10_copies hy_X10_copies (hRd hR (by decide) (by decide)) rfl (Nat.le_of_ble_eq_true rfl) dX10_copiesStill_1 (fun _ S1 _ wS1 => ?_)
  refine J_aload_n X dX10_copiesStill_4 (i := 0) rfl rfl ?_
  refine J_iconst X (v := (1 : Int32)) dX10_copiesStill_5 (by decide) ?_
  refine T_putI X (kf := 54) cb10 kv0 (by decide) fl_X10_332 (fun _ _ _ => rfl) rfl (by first | rfl | decide) (by first | rfl | decide) dX10_copiesStill_6 (fun S3 hS3 => ?_)
  have wS3 : WT (kDn K) S3.2.2 := by rw [hS3]; exact wS1
  clear hS3
  exact T_vret wS3 X dX10_copiesStill_9
theorem C_X10_copiesStill (G : GG) (v0 : Nat) (kv0 : KA (gD G) v0 (0, 10)) (S : St) : CM G yX10_copiesStill cX10_copiesStill 1 none 1 [.ref v0] S (fun _ : Unit => none) (f_X10_copiesStill v0 S) :=
  CM_of (by decide) (Nat.le_of_ble_eq_true rfl) rfl (fun K hG X hR w => by subst hG; exact t_X10_copiesStill_0 X hR v0 kv0 S w)
-- ==== X10_mixed
theorem hy_X10_mixed : yX10_mixed.cls ≠ "java/lang/invoke/MethodHandle" ∧ yX10_mixed.cls ≠ "java/lang/invoke/VarHandle" ∧ (parseMethodDescriptor yX10_mixed.desc).map (fun d => d.parameters.length) = some 2 := by decide +kernel
set_option maxRecDepth 20000 in
def f_X10_mixed (v0 : Int32) (v1 : Int32) (S : St) : Option (Int32 × St) := nm (((v0 ^^^ v1) * (1103515245 : Int32)) + (12345 : Int32)) fun x1 => some (x1 ^^^ ((x1.toUInt32 >>> ((15 : Int32).toUInt32 &&& Int32.toUInt32 31)).toInt32), S)
set_option maxRecDepth 20000 in
theorem t_X10_mixed_0 {K : KK} (X : CX K cX10_mixed 3 RX10 (some .int)) (hR : kR K = rmD 0) (v0 : Int32) (v1 : Int32) (S : St) (w : WT (kDn K) S.2.2) : JX K (Zm K (fun v : Int32 => some (.int v))) 0 [some (.int v0), some (.int v1), none] [] (rwN (kN K) S) (kn K) 0 0 (f_X10_mixed v0 v1 S) := by
  unfold f_X10_mixed
  refine J_iload_n X dX10_mixed_0 (i := 0) rfl rfl ?_
  refine J_iload_n X dX10_mixed_1 (i := 1) rfl rfl ?_
  refine J_ixor X dX10_mixed_2 ?_
  refine J_ldcw X kc_X10_338 dX10_mixed_3 ?_
  refine J_imul X dX10_mixed_6 ?_
  refine J_sipush X (v := (12345 : Int32)) dX10_mixed_7 (by decide) ?_
  refine J_iadd X dX10_mixed_10 ?_
  refine J_nmi (fun x1 => ?_)
  refine J_istore_n X (i := 2) (ls' := [some (.int v0), some (.int v1), some (.int x1)]) dX10_mixed_11 rfl (by decide) rfl ?_
  refine J_iload_n X dX10_mixed_12 (i := 2) rfl rfl ?_
  refine J_iload_n X dX10_mixed_13 (i := 2) rfl rfl ?_
  refine J_bipush X (v := (15 : Int32)) dX10_mixed_14 (by decide) ?_
  refine J_iushr X dX10_mixed_16 ?_
  refine J_ixor X dX10_mixed_17 ?_
  exact T_iret w X dX10_mixed_18
theorem C_X10_mixed (G : GG) (v0 : Int32) (v1 : Int32) (S : St) : CM G yX10_mixed cX10_mixed 3 (some .int) 0 [.int v0, .int v1] S (fun v : Int32 => some (.int v)) (f_X10_mixed v0 v1 S) :=
  CM_of (by decide) (Nat.le_of_ble_eq_true rfl) rfl (fun K hG X hR w => by subst hG; exact t_X10_mixed_0 X hR v0 v1 S w)
-- ==== X10_lotOf
theorem hy_X10_lotOf : yX10_lotOf.cls ≠ "java/lang/invoke/MethodHandle" ∧ yX10_lotOf.cls ≠ "java/lang/invoke/VarHandle" ∧ (parseMethodDescriptor yX10_lotOf.desc).map (fun d => d.parameters.length) = some 1 := by decide +kernel
set_option maxRecDepth 20000 in
def f_X10_lotOf (v0 : Nat) (v1 : Int32) (S : St) : Option (Int32 × St) := bd (f_X10_mixed (S.1 v0 53) (135 : Int32) S) fun r2 S1 => bd (f_X10_mixed r2 v1 S1) fun r4 S3 => some (((r4.toUInt32 >>> ((1 : Int32).toUInt32 &&& Int32.toUInt32 31)).toInt32) - ((r4.toUInt32 >>> ((1 : Int32).toUInt32 &&& Int32.toUInt32 31)).toInt32) / (100 : Int32) * (100 : Int32), S3)
set_option maxRecDepth 20000 in
theorem t_X10_lotOf_0 {K : KK} (X : CX K cX10_lotOf 2 RX10 (some .int)) (hR : kR K = rmD 1) (v0 : Nat) (kv0 : KA (kDn K) v0 (0, 10)) (v1 : Int32) (S : St) (w : WT (kDn K) S.2.2) : JX K (Zm K (fun v : Int32 => some (.int v))) 0 [some (.ref v0), some (.int v1)] [] (rwN (kN K) S) (kn K) 0 0 (f_X10_lotOf v0 v1 S) := by
  unfold f_X10_lotOf
  refine J_aload_n X dX10_lotOf_0 (i := 0) rfl rfl ?_
  refine T_getI X (kf := 53) cb10 kv0 (by decide) fl_X10_329 (fun _ _ _ => rfl) dX10_lotOf_1 ?_
  refine J_sipush X (v := (135 : Int32)) dX10_lotOf_4 (by decide) ?_
  refine T_callS (As := [.int (S.1 v0 53), .int (135 : Int32)]) w X (C_X10_mixed (kG K) (S.1 v0 53) (135 : Int32) S) ml_X10_339 st_yX10_mixed ii_RX10 co_yX10_mixed hy_X10_mixed (hRd hR (by decide) (by decide)) rfl (Nat.le_of_ble_eq_true rfl) dX10_lotOf_7 (fun r2 S1 _ wS1 => ?_)
  refine J_iload_n X dX10_lotOf_10 (i := 1) rfl rfl ?_
  refine T_callS (As := [.int r2, .int v1]) wS1 X (C_X10_mixed (kG K) r2 v1 S1) ml_X10_339 st_yX10_mixed ii_RX10 co_yX10_mixed hy_X10_mixed (hRd hR (by decide) (by decide)) rfl (Nat.le_of_ble_eq_true rfl) dX10_lotOf_11 (fun r4 S3 _ wS3 => ?_)
  refine J_iconst X (v := (1 : Int32)) dX10_lotOf_14 (by decide) ?_
  refine J_iushr X dX10_lotOf_15 ?_
  refine J_bipush X (v := (100 : Int32)) dX10_lotOf_16 (by decide) ?_
  refine J_iremc X dX10_lotOf_18 (by decide) ?_
  exact T_iret wS3 X dX10_lotOf_19
theorem C_X10_lotOf (G : GG) (v0 : Nat) (kv0 : KA (gD G) v0 (0, 10)) (v1 : Int32) (S : St) : CM G yX10_lotOf cX10_lotOf 2 (some .int) 1 [.ref v0, .int v1] S (fun v : Int32 => some (.int v)) (f_X10_lotOf v0 v1 S) :=
  CM_of (by decide) (Nat.le_of_ble_eq_true rfl) rfl (fun K hG X hR w => by subst hG; exact t_X10_lotOf_0 X hR v0 kv0 v1 S w)
-- ==== X10_isOff
theorem hy_X10_isOff : yX10_isOff.cls ≠ "java/lang/invoke/MethodHandle" ∧ yX10_isOff.cls ≠ "java/lang/invoke/VarHandle" ∧ (parseMethodDescriptor yX10_isOff.desc).map (fun d => d.parameters.length) = some 1 := by decide +kernel
set_option maxRecDepth 20000 in
def f_X10_isOff (v0 : Nat) (v1 : Int32) (S : St) : Option (Int32 × St) := (ix ((32 : Int32) + v1) 55).bind fun j1 => if (S.1 (S.2.2 v0 52) j1) = (1 : Int32) then (some ((1 : Int32), S)) else (some ((0 : Int32), S))
set_option maxRecDepth 20000 in
theorem t_X10_isOff_0 {K : KK} (X : CX K cX10_isOff 2 RX10 (some .boolean)) (hR : kR K = rmD 0) (v0 : Nat) (kv0 : KA (kDn K) v0 (0, 10)) (v1 : Int32) (S : St) (w : WT (kDn K) S.2.2) : JX K (Zm K (fun v : Int32 => some (.int v))) 0 [some (.ref v0), some (.int v1)] [] (rwN (kN K) S) (kn K) 0 0 (f_X10_isOff v0 v1 S) := by
  unfold f_X10_isOff
  refine J_aload_n X dX10_isOff_0 (i := 0) rfl rfl ?_
  refine T_getR X (kf := 52) cb10 kv0 (by decide) fl_X10_122 (fun _ _ _ => rfl) dX10_isOff_1 ?_
  refine J_bipush X (v := (32 : Int32)) dX10_isOff_4 (by decide) ?_
  refine J_iload_n X dX10_isOff_6 (i := 1) rfl rfl ?_
  refine J_iadd X dX10_isOff_7 ?_
  refine T_iald X (w.1 _ _ kv0 52 _ rfl) dX10_isOff_8 (fun j1 => ?_)
  refine J_iconst X (v := (1 : Int32)) dX10_isOff_9 (by decide) ?_
  refine J_icmp_ne X (tgt := 17) dX10_isOff_10 (by decide) ?_ ?_
  · refine J_iconst X (v := (1 : Int32)) dX10_isOff_13 (by decide) ?_
    refine J_goto X (tgt := 18) dX10_isOff_14 (by decide) ?_
    exact T_zret w X (by decide) dX10_isOff_18
  · refine J_iconst X (v := (0 : Int32)) dX10_isOff_17 (by decide) ?_
    exact T_zret w X (by decide) dX10_isOff_18
theorem C_X10_isOff (G : GG) (v0 : Nat) (kv0 : KA (gD G) v0 (0, 10)) (v1 : Int32) (S : St) : CM G yX10_isOff cX10_isOff 2 (some .boolean) 0 [.ref v0, .int v1] S (fun v : Int32 => some (.int v)) (f_X10_isOff v0 v1 S) :=
  CM_of (by decide) (Nat.le_of_ble_eq_true rfl) rfl (fun K hG X hR w => by subst hG; exact t_X10_isOff_0 X hR v0 kv0 v1 S w)
-- ==== X10_isCut
theorem hy_X10_isCut : yX10_isCut.cls ≠ "java/lang/invoke/MethodHandle" ∧ yX10_isCut.cls ≠ "java/lang/invoke/VarHandle" ∧ (parseMethodDescriptor yX10_isCut.desc).map (fun d => d.parameters.length) = some 1 := by decide +kernel
set_option maxRecDepth 20000 in
def f_X10_isCut (v0 : Nat) (v1 : Int32) (S : St) : Option (Int32 × St) := (ix ((46 : Int32) + v1) 55).bind fun j1 => if (S.1 (S.2.2 v0 52) j1) = (1 : Int32) then (some ((1 : Int32), S)) else (some ((0 : Int32), S))
set_option maxRecDepth 20000 in
theorem t_X10_isCut_0 {K : KK} (X : CX K cX10_isCut 2 RX10 (some .boolean)) (hR : kR K = rmD 0) (v0 : Nat) (kv0 : KA (kDn K) v0 (0, 10)) (v1 : Int32) (S : St) (w : WT (kDn K) S.2.2) : JX K (Zm K (fun v : Int32 => some (.int v))) 0 [some (.ref v0), some (.int v1)] [] (rwN (kN K) S) (kn K) 0 0 (f_X10_isCut v0 v1 S) := by
  unfold f_X10_isCut
  refine J_aload_n X dX10_isCut_0 (i := 0) rfl rfl ?_
  refine T_getR X (kf := 52) cb10 kv0 (by decide) fl_X10_122 (fun _ _ _ => rfl) dX10_isCut_1 ?_
  refine J_bipush X (v := (46 : Int32)) dX10_isCut_4 (by decide) ?_
  refine J_iload_n X dX10_isCut_6 (i := 1) rfl rfl ?_
  refine J_iadd X dX10_isCut_7 ?_
  refine T_iald X (w.1 _ _ kv0 52 _ rfl) dX10_isCut_8 (fun j1 => ?_)
  refine J_iconst X (v := (1 : Int32)) dX10_isCut_9 (by decide) ?_
  refine J_icmp_ne X (tgt := 17) dX10_isCut_10 (by decide) ?_ ?_
  · refine J_iconst X (v := (1 : Int32)) dX10_isCut_13 (by decide) ?_
    refine J_goto X (tgt := 18) dX10_isCut_14 (by decide) ?_
    exact T_zret w X (by decide) dX10_isCut_18
  · refine J_iconst X (v := (0 : Int32)) dX10_isCut_17 (by decide) ?_
    exact T_zret w X (by decide) dX10_isCut_18
theorem C_X10_isCut (G : GG) (v0 : Nat) (kv0 : KA (gD G) v0 (0, 10)) (v1 : Int32) (S : St) : CM G yX10_isCut cX10_isCut 2 (some .boolean) 0 [.ref v0, .int v1] S (fun v : Int32 => some (.int v)) (f_X10_isCut v0 v1 S) :=
  CM_of (by decide) (Nat.le_of_ble_eq_true rfl) rfl (fun K hG X hR w => by subst hG; exact t_X10_isCut_0 X hR v0 kv0 v1 S w)
-- ==== X10_whose
theorem hy_X10_whose : yX10_whose.cls ≠ "java/lang/invoke/MethodHandle" ∧ yX10_whose.cls ≠ "java/lang/invoke/VarHandle" ∧ (parseMethodDescriptor yX10_whose.desc).map (fun d => d.parameters.length) = some 1 := by decide +kernel
set_option maxRecDepth 20000 in
def f_X10_whose (v0 : Nat) (v1 : Int32) (S : St) : Option (Int32 × St) := (ix (((8 : Int32) * (S.1 v0 18)) + v1) 16).bind fun j1 => some (S.1 (S.2.2 v0 30) j1, S)
set_option maxRecDepth 20000 in
theorem t_X10_whose_0 {K : KK} (X : CX K cX10_whose 2 RX10 (some .int)) (hR : kR K = rmD 0) (v0 : Nat) (kv0 : KA (kDn K) v0 (0, 10)) (v1 : Int32) (S : St) (w : WT (kDn K) S.2.2) : JX K (Zm K (fun v : Int32 => some (.int v))) 0 [some (.ref v0), some (.int v1)] [] (rwN (kN K) S) (kn K) 0 0 (f_X10_whose v0 v1 S) := by
  unfold f_X10_whose
  refine J_aload_n X dX10_whose_0 (i := 0) rfl rfl ?_
  refine T_getR X (kf := 30) cb10 kv0 (by decide) fl_X10_67 (fun _ _ _ => rfl) dX10_whose_1 ?_
  refine J_bipush X (v := (8 : Int32)) dX10_whose_4 (by decide) ?_
  refine J_aload_n X dX10_whose_6 (i := 0) rfl rfl ?_
  refine T_getI X (kf := 18) cb10 kv0 (by decide) fl_X10_239 (fun _ _ _ => rfl) dX10_whose_7 ?_
  refine J_imul X dX10_whose_10 ?_
  refine J_iload_n X dX10_whose_11 (i := 1) rfl rfl ?_
  refine J_iadd X dX10_whose_12 ?_
  refine T_iald X (w.1 _ _ kv0 30 _ rfl) dX10_whose_13 (fun j1 => ?_)
  exact T_iret w X dX10_whose_14
theorem C_X10_whose (G : GG) (v0 : Nat) (kv0 : KA (gD G) v0 (0, 10)) (v1 : Int32) (S : St) : CM G yX10_whose cX10_whose 2 (some .int) 0 [.ref v0, .int v1] S (fun v : Int32 => some (.int v)) (f_X10_whose v0 v1 S) :=
  CM_of (by decide) (Nat.le_of_ble_eq_true rfl) rfl (fun K hG X hR w => by subst hG; exact t_X10_whose_0 X hR v0 kv0 v1 S w)
-- ==== X10_wearsOf
theorem hy_X10_wearsOf : yX10_wearsOf.cls ≠ "java/lang/invoke/MethodHandle" ∧ yX10_wearsOf.cls ≠ "java/lang/invoke/VarHandle" ∧ (parseMethodDescriptor yX10_wearsOf.desc).map (fun d => d.parameters.length) = some 1 := by decide +kernel
set_option maxRecDepth 20000 in
def b_X10_wearsOf_41 (q4 : Nat → Int32 → Int32 → Int32 → St → Option (Int32 × St)) (v0 : Nat) (v1 : Int32) (v2 : Int32) (v3 : Int32) (S : St) : Option (Int32 × St) := nm (v3 + (1 : Int32)) fun x1 => q4 v0 v1 v2 x1 S
set_option maxRecDepth 20000 in
theorem t_X10_wearsOf_41 {K : KK} (X : CX K cX10_wearsOf 4 RX10 (some .int)) (hR : kR K = rmD 1) {q4 : Nat → Int32 → Int32 → Int32 → St → Option (Int32 × St)} (hq4 : ∀ (v0 : Nat) (kv0 : KA (kDn K) v0 (0, 10)) (v1 : Int32) (v2 : Int32) (v3 : Int32) (S : St), WT (kDn K) S.2.2 → JX K (Zm K (fun v : Int32 => some (.int v))) 4 [some (.ref v0), some (.int v1), some (.int v2), some (.int v3)] [] (rwN (kN K) S) (kn K) 0 0 (q4 v0 v1 v2 v3 S)) (v0 : Nat) (kv0 : KA (kDn K) v0 (0, 10)) (v1 : Int32) (v2 : Int32) (v3 : Int32) (S : St) (w : WT (kDn K) S.2.2) : JX K (Zm K (fun v : Int32 => some (.int v))) 41 [some (.ref v0), some (.int v1), some (.int v2), some (.int v3)] [] (rwN (kN K) S) (kn K) 0 0 (b_X10_wearsOf_41 q4 v0 v1 v2 v3 S) := by
  unfold b_X10_wearsOf_41
  refine J_nmv (v3 + (1 : Int32)) (fun x1 ex1 => ?_)
  refine J_iinc X (v := x1) (ls' := [some (.ref v0), some (.int v1), some (.int v2), some (.int x1)]) dX10_wearsOf_41 (by decide) rfl (by rw [ex1]; rfl) rfl ?_
  refine J_goto X (tgt := 4) dX10_wearsOf_44 (by decide) ?_
  exact hq4 v0 kv0 v1 v2 x1 S w
set_option maxRecDepth 20000 in
def b_X10_wearsOf_4 : Nat → Nat → Int32 → Int32 → Int32 → St → Option (Int32 × St)
  | 0, _, _, _, _, _ => none
  | fu + 1, v0, v1, v2, v3, S => (ix (S.1 v0 18) 2).bind fun j1 => if (S.1 (S.2.2 v0 29) j1) ≤ v3 then (some (v2, S)) else ((ix ((38 : Int32) + v3) 55).bind fun j2 => if (S.1 (S.2.2 v0 52) j2) = v1 then (bd (f_X10_isCut v0 v3 S) fun r4 S3 => if r4 = 0 then (nm (v2 + (1 : Int32)) fun x5 => b_X10_wearsOf_41 (b_X10_wearsOf_4 fu) v0 v1 x5 v3 S3) else (b_X10_wearsOf_41 (b_X10_wearsOf_4 fu) v0 v1 v2 v3 S3)) else (b_X10_wearsOf_41 (b_X10_wearsOf_4 fu) v0 v1 v2 v3 S))
set_option maxRecDepth 20000 in
theorem t_X10_wearsOf_4 {K : KK} (X : CX K cX10_wearsOf 4 RX10 (some .int)) (hR : kR K = rmD 1) : ∀ (fu : Nat) (v0 : Nat) (kv0 : KA (kDn K) v0 (0, 10)) (v1 : Int32) (v2 : Int32) (v3 : Int32) (S : St), WT (kDn K) S.2.2 → JX K (Zm K (fun v : Int32 => some (.int v))) 4 [some (.ref v0), some (.int v1), some (.int v2), some (.int v3)] [] (rwN (kN K) S) (kn K) 0 0 (b_X10_wearsOf_4 fu v0 v1 v2 v3 S) := by
  intro fu
  induction fu with
  | zero => intro v0 kv0 v1 v2 v3 S w; exact J_none
  | succ fu ih =>
    intro v0 kv0 v1 v2 v3 S w
    rw [b_X10_wearsOf_4]
    refine J_iload_n X dX10_wearsOf_4 (i := 3) rfl rfl ?_
    refine J_aload_n X dX10_wearsOf_5 (i := 0) rfl rfl ?_
    refine T_getR X (kf := 29) cb10 kv0 (by decide) fl_X10_64 (fun _ _ _ => rfl) dX10_wearsOf_6 ?_
    refine J_aload_n X dX10_wearsOf_9 (i := 0) rfl rfl ?_
    refine T_getI X (kf := 18) cb10 kv0 (by decide) fl_X10_239 (fun _ _ _ => rfl) dX10_wearsOf_10 ?_
    refine T_iald X (w.1 _ _ kv0 29 _ rfl) dX10_wearsOf_13 (fun j1 => ?_)
    refine J_icmp_ge X (tgt := 47) dX10_wearsOf_14 (by decide) ?_ ?_
    · refine J_iload_n X dX10_wearsOf_47 (i := 2) rfl rfl ?_
      exact T_iret w X dX10_wearsOf_48
    · refine J_aload_n X dX10_wearsOf_17 (i := 0) rfl rfl ?_
      refine T_getR X (kf := 52) cb10 kv0 (by decide) fl_X10_122 (fun _ _ _ => rfl) dX10_wearsOf_18 ?_
      refine J_bipush X (v := (38 : Int32)) dX10_wearsOf_21 (by decide) ?_
      refine J_iload_n X dX10_wearsOf_23 (i := 3) rfl rfl ?_
      refine J_iadd X dX10_wearsOf_24 ?_
      refine T_iald X (w.1 _ _ kv0 52 _ rfl) dX10_wearsOf_25 (fun j2 => ?_)
      refine J_iload_n X dX10_wearsOf_26 (i := 1) rfl rfl ?_
      refine J_icmp_ne X (tgt := 41) dX10_wearsOf_27 (by decide) ?_ ?_
      · refine J_aload_n X dX10_wearsOf_30 (i := 0) rfl rfl ?_
        refine J_iload_n X dX10_wearsOf_31 (i := 3) rfl rfl ?_
        refine T_callV (As := [.int v3]) w X (C_X10_isCut (kG K) v0 kv0 v3 S) cb10 kv0 ml_X10_342 in_yX10_isCut se_yX10_isCut ii_RX10 co_yX10_isCut hy_X10_isCut (hRd hR (by decide) (by decide)) rfl (Nat.le_of_ble_eq_true rfl) dX10_wearsOf_32 (fun r4 S3 _ wS3 => ?_)
        refine J_if_ne X (tgt := 41) dX10_wearsOf_35 (by decide) ?_ ?_
        · refine J_nmv (v2 + (1 : Int32)) (fun x5 ex5 => ?_)
          refine J_iinc X (v := x5) (ls' := [some (.ref v0), some (.int v1), some (.int x5), some (.int v3)]) dX10_wearsOf_38 (by decide) rfl (by rw [ex5]; rfl) rfl ?_
          exact t_X10_wearsOf_41 X hR ih v0 kv0 v1 x5 v3 S3 wS3
        · exact t_X10_wearsOf_41 X hR ih v0 kv0 v1 v2 v3 S3 wS3
      · exact t_X10_wearsOf_41 X hR ih v0 kv0 v1 v2 v3 S w
set_option maxRecDepth 20000 in
def f_X10_wearsOf (v0 : Nat) (v1 : Int32) (S : St) : Option (Int32 × St) := b_X10_wearsOf_4 FU v0 v1 (0 : Int32) (0 : Int32) S
set_option maxRecDepth 20000 in
theorem t_X10_wearsOf_0 {K : KK} (X : CX K cX10_wearsOf 4 RX10 (some .int)) (hR : kR K = rmD 1) (v0 : Nat) (kv0 : KA (kDn K) v0 (0, 10)) (v1 : Int32) (S : St) (w : WT (kDn K) S.2.2) : JX K (Zm K (fun v : Int32 => some (.int v))) 0 [some (.ref v0), some (.int v1), none, none] [] (rwN (kN K) S) (kn K) 0 0 (f_X10_wearsOf v0 v1 S) := by
  unfold f_X10_wearsOf
  refine J_iconst X (v := (0 : Int32)) dX10_wearsOf_0 (by decide) ?_
  refine J_istore_n X (i := 2) (ls' := [some (.ref v0), some (.int v1), some (.int (0 : Int32)), none]) dX10_wearsOf_1 rfl (by decide) rfl ?_
  refine J_iconst X (v := (0 : Int32)) dX10_wearsOf_2 (by decide) ?_
  refine J_istore_n X (i := 3) (ls' := [some (.ref v0), some (.int v1), some (.int (0 : Int32)), some (.int (0 : Int32))]) dX10_wearsOf_3 rfl (by decide) rfl ?_
  exact t_X10_wearsOf_4 X hR FU v0 kv0 v1 (0 : Int32) (0 : Int32) S w
theorem C_X10_wearsOf (G : GG) (v0 : Nat) (kv0 : KA (gD G) v0 (0, 10)) (v1 : Int32) (S : St) : CM G yX10_wearsOf cX10_wearsOf 4 (some .int) 1 [.ref v0, .int v1] S (fun v : Int32 => some (.int v)) (f_X10_wearsOf v0 v1 S) :=
  CM_of (by decide) (Nat.le_of_ble_eq_true rfl) rfl (fun K hG X hR w => by subst hG; exact t_X10_wearsOf_0 X hR v0 kv0 v1 S w)
-- ==== X10_looks
theorem hy_X10_looks : yX10_looks.cls ≠ "java/lang/invoke/MethodHandle" ∧ yX10_looks.cls ≠ "java/lang/invoke/VarHandle" ∧ (parseMethodDescriptor yX10_looks.desc).map (fun d => d.parameters.length) = some 0 := by decide +kernel
set_option maxRecDepth 20000 in
def b_X10_looks_2 : Nat → Nat → Int32 → St → Option (Unit × St)
  | 0, _, _, _ => none
  | fu + 1, v0, v1, S => if (9 : Int32) ≤ v1 then ((ix (54 : Int32) 55).bind fun j1 => (ix (2 : Int32) 9).bind fun j2 => nm (sI S (S.2.2 v0 48) j2 ((S.1 (S.2.2 v0 52) j1) - (S.1 (S.2.2 v0 52) j1) / (4 : Int32) * (4 : Int32))) fun S3 => (ix (54 : Int32) 55).bind fun j4 => (ix (3 : Int32) 9).bind fun j5 => nm (sI S3 (S3.2.2 v0 48) j5 (S3.1 (S3.2.2 v0 52) j4)) fun S6 => some ((), S6)) else ((ix v1 9).bind fun j7 => nm (sI S (S.2.2 v0 48) j7 (0 : Int32)) fun S8 => nm (v1 + (1 : Int32)) fun x9 => b_X10_looks_2 fu v0 x9 S8)
set_option maxRecDepth 20000 in
theorem t_X10_looks_2 {K : KK} (X : CX K cX10_looks 2 RX10 none) (hR : kR K = rmD 0) : ∀ (fu : Nat) (v0 : Nat) (kv0 : KA (kDn K) v0 (0, 10)) (v1 : Int32) (S : St), WT (kDn K) S.2.2 → JX K (Zm K (fun _ : Unit => none)) 2 [some (.ref v0), some (.int v1)] [] (rwN (kN K) S) (kn K) 0 0 (b_X10_looks_2 fu v0 v1 S) := by
  intro fu
  induction fu with
  | zero => intro v0 kv0 v1 S w; exact J_none
  | succ fu ih =>
    intro v0 kv0 v1 S w
    rw [b_X10_looks_2]
    refine J_iload_n X dX10_looks_2 (i := 1) rfl rfl ?_
    refine J_bipush X (v := (9 : Int32)) dX10_looks_3 (by decide) ?_
    refine J_icmp_ge X (tgt := 21) dX10_looks_5 (by decide) ?_ ?_
    · refine J_aload_n X dX10_looks_21 (i := 0) rfl rfl ?_
      refine T_getR X (kf := 48) cb10 kv0 (by decide) fl_X10_113 (fun _ _ _ => rfl) dX10_looks_22 ?_
      refine J_iconst X (v := (2 : Int32)) dX10_looks_25 (by decide) ?_
      refine J_aload_n X dX10_looks_26 (i := 0) rfl rfl ?_
      refine T_getR X (kf := 52) cb10 kv0 (by decide) fl_X10_122 (fun _ _ _ => rfl) dX10_looks_27 ?_
      refine J_bipush X (v := (54 : Int32)) dX10_looks_30 (by decide) ?_
      refine T_iald X (w.1 _ _ kv0 52 _ rfl) dX10_looks_32 (fun j1 => ?_)
      refine J_iconst X (v := (4 : Int32)) dX10_looks_33 (by decide) ?_
      refine J_iremc X dX10_looks_34 (by decide) ?_
      refine T_iast X (w.1 _ _ kv0 48 _ rfl) dX10_looks_35 (fun j2 S3 hS3 => ?_)
      have wS3 : WT (kDn K) S3.2.2 := by rw [hS3]; exact w
      clear hS3
      refine J_aload_n X dX10_looks_36 (i := 0) rfl rfl ?_
      refine T_getR X (kf := 48) cb10 kv0 (by decide) fl_X10_113 (fun _ _ _ => rfl) dX10_looks_37 ?_
      refine J_iconst X (v := (3 : Int32)) dX10_looks_40 (by decide) ?_
      refine J_aload_n X dX10_looks_41 (i := 0) rfl rfl ?_
      refine T_getR X (kf := 52) cb10 kv0 (by decide) fl_X10_122 (fun _ _ _ => rfl) dX10_looks_42 ?_
      refine J_bipush X (v := (54 : Int32)) dX10_looks_45 (by decide) ?_
      refine T_iald X (wS3.1 _ _ kv0 52 _ rfl) dX10_looks_47 (fun j4 => ?_)
      refine T_iast X (wS3.1 _ _ kv0 48 _ rfl) dX10_looks_48 (fun j5 S6 hS6 => ?_)
      have wS6 : WT (kDn K) S6.2.2 := by rw [hS6]; exact wS3
      clear hS6
      exact T_vret wS6 X dX10_looks_49
    · refine J_aload_n X dX10_looks_8 (i := 0) rfl rfl ?_
      refine T_getR X (kf := 48) cb10 kv0 (by decide) fl_X10_113 (fun _ _ _ => rfl) dX10_looks_9 ?_
      refine J_iload_n X dX10_looks_12 (i := 1) rfl rfl ?_
      refine J_iconst X (v := (0 : Int32)) dX10_looks_13 (by decide) ?_
      refine T_iast X (w.1 _ _ kv0 48 _ rfl) dX10_looks_14 (fun j7 S8 hS8 => ?_)
      have wS8 : WT (kDn K) S8.2.2 := by rw [hS8]; exact w
      clear hS8
      refine J_nmv (v1 + (1 : Int32)) (fun x9 ex9 => ?_)
      refine J_iinc X (v := x9) (ls' := [some (.ref v0), some (.int x9)]) dX10_looks_15 (by decide) rfl (by rw [ex9]; rfl) rfl ?_
      refine J_goto X (tgt := 2) dX10_looks_18 (by decide) ?_
      exact ih v0 kv0 x9 S8 wS8
set_option maxRecDepth 20000 in
def f_X10_looks (v0 : Nat) (S : St) : Option (Unit × St) := b_X10_looks_2 FU v0 (0 : Int32) S
set_option maxRecDepth 20000 in
theorem t_X10_looks_0 {K : KK} (X : CX K cX10_looks 2 RX10 none) (hR : kR K = rmD 0) (v0 : Nat) (kv0 : KA (kDn K) v0 (0, 10)) (S : St) (w : WT (kDn K) S.2.2) : JX K (Zm K (fun _ : Unit => none)) 0 [some (.ref v0), none] [] (rwN (kN K) S) (kn K) 0 0 (f_X10_looks v0 S) := by
  unfold f_X10_looks
  refine J_iconst X (v := (0 : Int32)) dX10_looks_0 (by decide) ?_
  refine J_istore_n X (i := 1) (ls' := [some (.ref v0), some (.int (0 : Int32))]) dX10_looks_1 rfl (by decide) rfl ?_
  exact t_X10_looks_2 X hR FU v0 kv0 (0 : Int32) S w
theorem C_X10_looks (G : GG) (v0 : Nat) (kv0 : KA (gD G) v0 (0, 10)) (S : St) : CM G yX10_looks cX10_looks 2 none 0 [.ref v0] S (fun _ : Unit => none) (f_X10_looks v0 S) :=
  CM_of (by decide) (Nat.le_of_ble_eq_true rfl) rfl (fun K hG X hR w => by subst hG; exact t_X10_looks_0 X hR v0 kv0 S w)
-- ==== X10_lawTells
theorem hy_X10_lawTells : yX10_lawTells.cls ≠ "java/lang/invoke/MethodHandle" ∧ yX10_lawTells.cls ≠ "java/lang/invoke/VarHandle" ∧ (parseMethodDescriptor yX10_lawTells.desc).map (fun d => d.parameters.length) = some 2 := by decide +kernel
set_option maxRecDepth 20000 in
def b_X10_lawTells_119 (v0 : Nat) (v4 : Int32) (S : St) : Option (Int32 × St) := (ix v4 260).bind fun j1 => (ix v4 260).bind fun j2 => bd (f_X10_termOf v0 (S.1 (S.2.2 v0 41) j1) (S.1 (S.2.2 v0 42) j2) S) fun r4 S3 => if (S3.1 v0 50) = 0 then (some (r4, S3)) else (some ((0 : Int32), S3))
set_option maxRecDepth 20000 in
theorem t_X10_lawTells_119 {K : KK} (X : CX K cX10_lawTells 7 RX10 (some .int)) (hR : kR K = rmD 1) (v0 : Nat) (kv0 : KA (kDn K) v0 (0, 10)) (v4 : Int32) (S : St) (w : WT (kDn K) S.2.2) : JX K (Zm K (fun v : Int32 => some (.int v))) 119 [some (.ref v0), none, none, none, some (.int v4), none, none] [] (rwN (kN K) S) (kn K) 0 0 (b_X10_lawTells_119 v0 v4 S) := by
  unfold b_X10_lawTells_119
  refine J_aload_n X dX10_lawTells_119 (i := 0) rfl rfl ?_
  refine J_aload_n X dX10_lawTells_120 (i := 0) rfl rfl ?_
  refine T_getR X (kf := 41) cb10 kv0 (by decide) fl_X10_98 (fun _ _ _ => rfl) dX10_lawTells_121 ?_
  refine J_iload X dX10_lawTells_124 rfl ?_
  refine T_iald X (w.1 _ _ kv0 41 _ rfl) dX10_lawTells_126 (fun j1 => ?_)
  refine J_aload_n X dX10_lawTells_127 (i := 0) rfl rfl ?_
  refine T_getR X (kf := 42) cb10 kv0 (by decide) fl_X10_101 (fun _ _ _ => rfl) dX10_lawTells_128 ?_
  refine J_iload X dX10_lawTells_131 rfl ?_
  refine T_iald X (w.1 _ _ kv0 42 _ rfl) dX10_lawTells_133 (fun j2 => ?_)
  refine T_callV (As := [.int (S.1 (S.2.2 v0 41) j1), .int (S.1 (S.2.2 v0 42) j2)]) w X (C_X10_termOf (kG K) v0 kv0 (S.1 (S.2.2 v0 41) j1) (S.1 (S.2.2 v0 42) j2) S) cb10 kv0 ml_X10_345 in_yX10_termOf se_yX10_termOf ii_RX10 co_yX10_termOf hy_X10_termOf (hRd hR (by decide) (by decide)) rfl (Nat.le_of_ble_eq_true rfl) dX10_lawTells_134 (fun r4 S3 _ wS3 => ?_)
  refine J_istore X (ls' := [some (.ref v0), none, none, none, some (.int v4), some (.int r4), none]) dX10_lawTells_137 (by decide) rfl ?_
  refine J_aload_n X dX10_lawTells_139 (i := 0) rfl rfl ?_
  refine T_getI X (kf := 50) cb10 kv0 (by decide) fl_X10_321 (fun _ _ _ => rfl) dX10_lawTells_140 ?_
  refine J_if_eq X (tgt := 150) dX10_lawTells_143 (by decide) ?_ ?_
  · refine J_iload X dX10_lawTells_150 rfl ?_
    exact T_iret wS3 X dX10_lawTells_152
  · refine J_iconst X (v := (0 : Int32)) dX10_lawTells_146 (by decide) ?_
    refine J_goto X (tgt := 152) dX10_lawTells_147 (by decide) ?_
    exact T_iret wS3 X dX10_lawTells_152
set_option maxRecDepth 20000 in
def b_X10_lawTells_39 : Nat → Nat → Int32 → Int32 → St → Option (Int32 × St)
  | 0, _, _, _, _ => none
  | fu + 1, v0, v3, v4, S => (ix v3 8).bind fun j1 => if (S.1 (S.2.2 v0 36) j1) ≤ v4 then (some ((0 : Int32), S)) else ((ix v4 260).bind fun j2 => if (S.1 (S.2.2 v0 38) j2) = 0 then (b_X10_lawTells_119 v0 v4 S) else ((ix v4 260).bind fun j3 => (ix v4 260).bind fun j4 => bd (f_X10_termOf v0 (S.1 (S.2.2 v0 39) j3) (S.1 (S.2.2 v0 40) j4) S) fun r6 S5 => (ix v4 260).bind fun j7 => (ix v4 260).bind fun j8 => bd (f_X10_termOf v0 (S5.1 (S5.2.2 v0 40) j7) (S5.1 (S5.2.2 v0 41) j8) S5) fun r10 S9 => if (S9.1 v0 50) = 0 then (if r6 < r10 then (b_X10_lawTells_119 v0 v4 S9) else (nm (v4 + (1 : Int32)) fun x11 => b_X10_lawTells_39 fu v0 v3 x11 S9)) else (some ((0 : Int32), S9))))
set_option maxRecDepth 20000 in
theorem t_X10_lawTells_39 {K : KK} (X : CX K cX10_lawTells 7 RX10 (some .int)) (hR : kR K = rmD 1) : ∀ (fu : Nat) (v0 : Nat) (kv0 : KA (kDn K) v0 (0, 10)) (v3 : Int32) (v4 : Int32) (S : St), WT (kDn K) S.2.2 → JX K (Zm K (fun v : Int32 => some (.int v))) 39 [some (.ref v0), none, none, some (.int v3), some (.int v4), none, none] [] (rwN (kN K) S) (kn K) 0 0 (b_X10_lawTells_39 fu v0 v3 v4 S) := by
  intro fu
  induction fu with
  | zero => intro v0 kv0 v3 v4 S w; exact J_none
  | succ fu ih =>
    intro v0 kv0 v3 v4 S w
    rw [b_X10_lawTells_39]
    refine J_iload X dX10_lawTells_39 rfl ?_
    refine J_aload_n X dX10_lawTells_41 (i := 0) rfl rfl ?_
    refine T_getR X (kf := 36) cb10 kv0 (by decide) fl_X10_85 (fun _ _ _ => rfl) dX10_lawTells_42 ?_
    refine J_iload_n X dX10_lawTells_45 (i := 3) rfl rfl ?_
    refine T_iald X (w.1 _ _ kv0 36 _ rfl) dX10_lawTells_46 (fun j1 => ?_)
    refine J_icmp_ge X (tgt := 159) dX10_lawTells_47 (by decide) ?_ ?_
    · refine J_iconst X (v := (0 : Int32)) dX10_lawTells_159 (by decide) ?_
      exact T_iret w X dX10_lawTells_160
    · refine J_aload_n X dX10_lawTells_50 (i := 0) rfl rfl ?_
      refine T_getR X (kf := 38) cb10 kv0 (by decide) fl_X10_88 (fun _ _ _ => rfl) dX10_lawTells_51 ?_
      refine J_iload X dX10_lawTells_54 rfl ?_
      refine T_zald X (w.1 _ _ kv0 38 _ rfl) dX10_lawTells_56 (fun j2 => ?_)
      refine J_if_eq X (tgt := 119) dX10_lawTells_57 (by decide) ?_ ?_
      · refine J_mask [true, false, false, false, true, false, false] ?_
        exact t_X10_lawTells_119 X hR v0 kv0 v4 S w
      · refine J_aload_n X dX10_lawTells_60 (i := 0) rfl rfl ?_
        refine J_aload_n X dX10_lawTells_61 (i := 0) rfl rfl ?_
        refine T_getR X (kf := 39) cb10 kv0 (by decide) fl_X10_92 (fun _ _ _ => rfl) dX10_lawTells_62 ?_
        refine J_iload X dX10_lawTells_65 rfl ?_
        refine T_iald X (w.1 _ _ kv0 39 _ rfl) dX10_lawTells_67 (fun j3 => ?_)
        refine J_aload_n X dX10_lawTells_68 (i := 0) rfl rfl ?_
        refine T_getR X (kf := 40) cb10 kv0 (by decide) fl_X10_95 (fun _ _ _ => rfl) dX10_lawTells_69 ?_
        refine J_iload X dX10_lawTells_72 rfl ?_
        refine T_iald X (w.1 _ _ kv0 40 _ rfl) dX10_lawTells_74 (fun j4 => ?_)
        refine T_callV (As := [.int (S.1 (S.2.2 v0 39) j3), .int (S.1 (S.2.2 v0 40) j4)]) w X (C_X10_termOf (kG K) v0 kv0 (S.1 (S.2.2 v0 39) j3) (S.1 (S.2.2 v0 40) j4) S) cb10 kv0 ml_X10_345 in_yX10_termOf se_yX10_termOf ii_RX10 co_yX10_termOf hy_X10_termOf (hRd hR (by decide) (by decide)) rfl (Nat.le_of_ble_eq_true rfl) dX10_lawTells_75 (fun r6 S5 _ wS5 => ?_)
        refine J_istore X (ls' := [some (.ref v0), none, none, some (.int v3), some (.int v4), some (.int r6), none]) dX10_lawTells_78 (by decide) rfl ?_
        refine J_aload_n X dX10_lawTells_80 (i := 0) rfl rfl ?_
        refine J_aload_n X dX10_lawTells_81 (i := 0) rfl rfl ?_
        refine T_getR X (kf := 40) cb10 kv0 (by decide) fl_X10_95 (fun _ _ _ => rfl) dX10_lawTells_82 ?_
        refine J_iload X dX10_lawTells_85 rfl ?_
        refine T_iald X (wS5.1 _ _ kv0 40 _ rfl) dX10_lawTells_87 (fun j7 => ?_)
        refine J_aload_n X dX10_lawTells_88 (i := 0) rfl rfl ?_
        refine T_getR X (kf := 41) cb10 kv0 (by decide) fl_X10_98 (fun _ _ _ => rfl) dX10_lawTells_89 ?_
        refine J_iload X dX10_lawTells_92 rfl ?_
        refine T_iald X (wS5.1 _ _ kv0 41 _ rfl) dX10_lawTells_94 (fun j8 => ?_)
        refine T_callV (As := [.int (S5.1 (S5.2.2 v0 40) j7), .int (S5.1 (S5.2.2 v0 41) j8)]) wS5 X (C_X10_termOf (kG K) v0 kv0 (S5.1 (S5.2.2 v0 40) j7) (S5.1 (S5.2.2 v0 41) j8) S5) cb10 kv0 ml_X10_345 in_yX10_termOf se_yX10_termOf ii_RX10 co_yX10_termOf hy_X10_termOf (hRd hR (by decide) (by decide)) rfl (Nat.le_of_ble_eq_true rfl) dX10_lawTells_95 (fun r10 S9 _ wS9 => ?_)
        refine J_istore X (ls' := [some (.ref v0), none, none, some (.int v3), some (.int v4), some (.int r6), some (.int r10)]) dX10_lawTells_98 (by decide) rfl ?_
        refine J_aload_n X dX10_lawTells_100 (i := 0) rfl rfl ?_
        refine T_getI X (kf := 50) cb10 kv0 (by decide) fl_X10_321 (fun _ _ _ => rfl) dX10_lawTells_101 ?_
        refine J_if_eq X (tgt := 109) dX10_lawTells_104 (by decide) ?_ ?_
        · refine J_iload X dX10_lawTells_109 rfl ?_
          refine J_iload X dX10_lawTells_111 rfl ?_
          refine J_icmp_lt X (tgt := 119) dX10_lawTells_113 (by decide) ?_ ?_
          · refine J_mask [true, false, false, false, true, false, false] ?_
            exact t_X10_lawTells_119 X hR v0 kv0 v4 S9 wS9
          · refine J_goto X (tgt := 153) dX10_lawTells_116 (by decide) ?_
            refine J_nmv (v4 + (1 : Int32)) (fun x11 ex11 => ?_)
            refine J_iinc X (v := x11) (ls' := [some (.ref v0), none, none, some (.int v3), some (.int x11), some (.int r6), some (.int r10)]) dX10_lawTells_153 (by decide) rfl (by rw [ex11]; rfl) rfl ?_
            refine J_goto X (tgt := 39) dX10_lawTells_156 (by decide) ?_
            refine J_mask [true, false, false, true, true, false, false] ?_
            exact ih v0 kv0 v3 x11 S9 wS9
        · refine J_iconst X (v := (0 : Int32)) dX10_lawTells_107 (by decide) ?_
          exact T_iret wS9 X dX10_lawTells_108
set_option maxRecDepth 20000 in
def f_X10_lawTells (v0 : Nat) (v1 : Int32) (v2 : Int32) (S : St) : Option (Int32 × St) := nm (((4 : Int32) * (S.1 v0 18)) + v1) fun x1 => (ix x1 8).bind fun j2 => (ix x1 8).bind fun j3 => if (S.1 (S.2.2 v0 35) j2) = (S.1 (S.2.2 v0 36) j3) then (some (v2, S)) else (nm (sI S v0 50 (0 : Int32)) fun S4 => (ix x1 8).bind fun j5 => nm (S4.1 (S4.2.2 v0 35) j5) fun x6 => b_X10_lawTells_39 FU v0 x1 x6 S4)
set_option maxRecDepth 20000 in
theorem t_X10_lawTells_0 {K : KK} (X : CX K cX10_lawTells 7 RX10 (some .int)) (hR : kR K = rmD 1) (v0 : Nat) (kv0 : KA (kDn K) v0 (0, 10)) (v1 : Int32) (v2 : Int32) (S : St) (w : WT (kDn K) S.2.2) : JX K (Zm K (fun v : Int32 => some (.int v))) 0 [some (.ref v0), some (.int v1), some (.int v2), none, none, none, none] [] (rwN (kN K) S) (kn K) 0 0 (f_X10_lawTells v0 v1 v2 S) := by
  unfold f_X10_lawTells
  refine J_iconst X (v := (4 : Int32)) dX10_lawTells_0 (by decide) ?_
  refine J_aload_n X dX10_lawTells_1 (i := 0) rfl rfl ?_
  refine T_getI X (kf := 18) cb10 kv0 (by decide) fl_X10_239 (fun _ _ _ => rfl) dX10_lawTells_2 ?_
  refine J_imul X dX10_lawTells_5 ?_
  refine J_iload_n X dX10_lawTells_6 (i := 1) rfl rfl ?_
  refine J_iadd X dX10_lawTells_7 ?_
  refine J_nmi (fun x1 => ?_)
  refine J_istore_n X (i := 3) (ls' := [some (.ref v0), some (.int v1), some (.int v2), some (.int x1), none, none, none]) dX10_lawTells_8 rfl (by decide) rfl ?_
  refine J_aload_n X dX10_lawTells_9 (i := 0) rfl rfl ?_
  refine T_getR X (kf := 35) cb10 kv0 (by decide) fl_X10_82 (fun _ _ _ => rfl) dX10_lawTells_10 ?_
  refine J_iload_n X dX10_lawTells_13 (i := 3) rfl rfl ?_
  refine T_iald X (w.1 _ _ kv0 35 _ rfl) dX10_lawTells_14 (fun j2 => ?_)
  refine J_aload_n X dX10_lawTells_15 (i := 0) rfl rfl ?_
  refine T_getR X (kf := 36) cb10 kv0 (by decide) fl_X10_85 (fun _ _ _ => rfl) dX10_lawTells_16 ?_
  refine J_iload_n X dX10_lawTells_19 (i := 3) rfl rfl ?_
  refine T_iald X (w.1 _ _ kv0 36 _ rfl) dX10_lawTells_20 (fun j3 => ?_)
  refine J_icmp_ne X (tgt := 26) dX10_lawTells_21 (by decide) ?_ ?_
  · refine J_iload_n X dX10_lawTells_24 (i := 2) rfl rfl ?_
    exact T_iret w X dX10_lawTells_25
  · refine J_aload_n X dX10_lawTells_26 (i := 0) rfl rfl ?_
    refine J_iconst X (v := (0 : Int32)) dX10_lawTells_27 (by decide) ?_
    refine T_putI X (kf := 50) cb10 kv0 (by decide) fl_X10_321 (fun _ _ _ => rfl) rfl (by first | rfl | decide) (by first | rfl | decide) dX10_lawTells_28 (fun S4 hS4 => ?_)
    have wS4 : WT (kDn K) S4.2.2 := by rw [hS4]; exact w
    clear hS4
    refine J_aload_n X dX10_lawTells_31 (i := 0) rfl rfl ?_
    refine T_getR X (kf := 35) cb10 kv0 (by decide) fl_X10_82 (fun _ _ _ => rfl) dX10_lawTells_32 ?_
    refine J_iload_n X dX10_lawTells_35 (i := 3) rfl rfl ?_
    refine T_iald X (wS4.1 _ _ kv0 35 _ rfl) dX10_lawTells_36 (fun j5 => ?_)
    refine J_nmi (fun x6 => ?_)
    refine J_istore X (ls' := [some (.ref v0), some (.int v1), some (.int v2), some (.int x1), some (.int x6), none, none]) dX10_lawTells_37 (by decide) rfl ?_
    refine J_mask [true, false, false, true, true, false, false] ?_
    exact t_X10_lawTells_39 X hR FU v0 kv0 x1 x6 S4 wS4
theorem C_X10_lawTells (G : GG) (v0 : Nat) (kv0 : KA (gD G) v0 (0, 10)) (v1 : Int32) (v2 : Int32) (S : St) : CM G yX10_lawTells cX10_lawTells 7 (some .int) 1 [.ref v0, .int v1, .int v2] S (fun v : Int32 => some (.int v)) (f_X10_lawTells v0 v1 v2 S) :=
  CM_of (by decide) (Nat.le_of_ble_eq_true rfl) rfl (fun K hG X hR w => by subst hG; exact t_X10_lawTells_0 X hR v0 kv0 v1 v2 S w)
-- ==== X10_farFrom
theorem hy_X10_farFrom : yX10_farFrom.cls ≠ "java/lang/invoke/MethodHandle" ∧ yX10_farFrom.cls ≠ "java/lang/invoke/VarHandle" ∧ (parseMethodDescriptor yX10_farFrom.desc).map (fun d => d.parameters.length) = some 3 := by decide +kernel
set_option maxRecDepth 20000 in
def f_X10_farFrom (v0 : Nat) (v1 : Int32) (v2 : Int32) (v3 : Int32) (S : St) : Option (Int32 × St) := (ix v1 55).bind fun j1 => bd (f_X10_off (S.1 (S.2.2 v0 52) j1) v2 S) fun r3 S2 => (ix ((4 : Int32) + v1) 55).bind fun j4 => bd (f_X10_off (S2.1 (S2.2.2 v0 52) j4) v3 S2) fun r6 S5 => bd (f_X10_more r3 r6 S5) fun r8 S7 => some (r8, S7)
set_option maxRecDepth 20000 in
theorem t_X10_farFrom_0 {K : KK} (X : CX K cX10_farFrom 4 RX10 (some .int)) (hR : kR K = rmD 1) (v0 : Nat) (kv0 : KA (kDn K) v0 (0, 10)) (v1 : Int32) (v2 : Int32) (v3 : Int32) (S : St) (w : WT (kDn K) S.2.2) : JX K (Zm K (fun v : Int32 => some (.int v))) 0 [some (.ref v0), some (.int v1), some (.int v2), some (.int v3)] [] (rwN (kN K) S) (kn K) 0 0 (f_X10_farFrom v0 v1 v2 v3 S) := by
  unfold f_X10_farFrom
  refine J_aload_n X dX10_farFrom_0 (i := 0) rfl rfl ?_
  refine T_getR X (kf := 52) cb10 kv0 (by decide) fl_X10_122 (fun _ _ _ => rfl) dX10_farFrom_1 ?_
  refine J_iload_n X dX10_farFrom_4 (i := 1) rfl rfl ?_
  refine T_iald X (w.1 _ _ kv0 52 _ rfl) dX10_farFrom_5 (fun j1 => ?_)
  refine J_iload_n X dX10_farFrom_6 (i := 2) rfl rfl ?_
  refine T_callS (As := [.int (S.1 (S.2.2 v0 52) j1), .int v2]) w X (C_X10_off (kG K) (S.1 (S.2.2 v0 52) j1) v2 S) ml_X10_348 st_yX10_off ii_RX10 co_yX10_off hy_X10_off (hRd hR (by decide) (by decide)) rfl (Nat.le_of_ble_eq_true rfl) dX10_farFrom_7 (fun r3 S2 _ wS2 => ?_)
  refine J_aload_n X dX10_farFrom_10 (i := 0) rfl rfl ?_
  refine T_getR X (kf := 52) cb10 kv0 (by decide) fl_X10_122 (fun _ _ _ => rfl) dX10_farFrom_11 ?_
  refine J_iconst X (v := (4 : Int32)) dX10_farFrom_14 (by decide) ?_
  refine J_iload_n X dX10_farFrom_15 (i := 1) rfl rfl ?_
  refine J_iadd X dX10_farFrom_16 ?_
  refine T_iald X (wS2.1 _ _ kv0 52 _ rfl) dX10_farFrom_17 (fun j4 => ?_)
  refine J_iload_n X dX10_farFrom_18 (i := 3) rfl rfl ?_
  refine T_callS (As := [.int (S2.1 (S2.2.2 v0 52) j4), .int v3]) wS2 X (C_X10_off (kG K) (S2.1 (S2.2.2 v0 52) j4) v3 S2) ml_X10_348 st_yX10_off ii_RX10 co_yX10_off hy_X10_off (hRd hR (by decide) (by decide)) rfl (Nat.le_of_ble_eq_true rfl) dX10_farFrom_19 (fun r6 S5 _ wS5 => ?_)
  refine T_callS (As := [.int r3, .int r6]) wS5 X (C_X10_more (kG K) r3 r6 S5) ml_X10_351 st_yX10_more ii_RX10 co_yX10_more hy_X10_more (hRd hR (by decide) (by decide)) rfl (Nat.le_of_ble_eq_true rfl) dX10_farFrom_22 (fun r8 S7 _ wS7 => ?_)
  exact T_iret wS7 X dX10_farFrom_25
theorem C_X10_farFrom (G : GG) (v0 : Nat) (kv0 : KA (gD G) v0 (0, 10)) (v1 : Int32) (v2 : Int32) (v3 : Int32) (S : St) : CM G yX10_farFrom cX10_farFrom 4 (some .int) 1 [.ref v0, .int v1, .int v2, .int v3] S (fun v : Int32 => some (.int v)) (f_X10_farFrom v0 v1 v2 v3 S) :=
  CM_of (by decide) (Nat.le_of_ble_eq_true rfl) rfl (fun K hG X hR w => by subst hG; exact t_X10_farFrom_0 X hR v0 kv0 v1 v2 v3 S w)
-- ==== X10_pullAt
theorem hy_X10_pullAt : yX10_pullAt.cls ≠ "java/lang/invoke/MethodHandle" ∧ yX10_pullAt.cls ≠ "java/lang/invoke/VarHandle" ∧ (parseMethodDescriptor yX10_pullAt.desc).map (fun d => d.parameters.length) = some 4 := by decide +kernel
set_option maxRecDepth 20000 in
def f_X10_pullAt (v0 : Nat) (v1 : Int32) (v2 : Int32) (v3 : Int32) (v4 : Int32) (S : St) : Option (Int32 × St) := bd (f_X10_whose v0 v1 S) fun r2 S1 => bd (f_X10_farFrom v0 r2 v3 v4 S1) fun r4 S3 => bd (f_X10_isCut v0 v1 S3) fun r6 S5 => if r6 = 0 then (bd (f_X10_whose v0 v1 S5) fun r8 S7 => (ix ((16 : Int32) + r8) 55).bind fun j9 => if (S7.1 (S5.2.2 v0 52) j9) = (1 : Int32) then (some ((0 : Int32), S7)) else (bd (f_X10_isOff v0 v2 S7) fun r11 S10 => if r11 = 0 then (if r4 = 0 then (some ((0 : Int32), S10)) else (bd (f_X10_looks v0 S10) fun _ S12 => (ix (((8 : Int32) * (S12.1 v0 18)) + v1) 16).bind fun j14 => (ix (0 : Int32) 9).bind fun j15 => nm (sI S12 (S12.2.2 v0 48) j15 (S12.1 (S12.2.2 v0 32) j14)) fun S16 => (ix (1 : Int32) 9).bind fun j17 => nm (sI S16 (S16.2.2 v0 48) j17 r4) fun S18 => (ix (((6 : Int32) * (S18.1 v0 18)) + v2) 12).bind fun j19 => (ix (4 : Int32) 9).bind fun j20 => nm (sI S18 (S18.2.2 v0 48) j20 (S18.1 (S18.2.2 v0 28) j19)) fun S21 => (ix (7 : Int32) 9).bind fun j22 => nm (sI S21 (S21.2.2 v0 48) j22 v1) fun S23 => (ix (0 : Int32) 9).bind fun j24 => bd (f_X10_lawTells v0 (0 : Int32) (S23.1 (S23.2.2 v0 48) j24) S23) fun r26 S25 => bd (f_X10_within r26 (0 : Int32) (99 : Int32) S25) fun r28 S27 => some (r28, S27))) else (some ((0 : Int32), S10)))) else (some ((0 : Int32), S5))
set_option maxRecDepth 20000 in
theorem t_X10_pullAt_0 {K : KK} (X : CX K cX10_pullAt 6 RX10 (some .int)) (hR : kR K = rmD 2) (v0 : Nat) (kv0 : KA (kDn K) v0 (0, 10)) (v1 : Int32) (v2 : Int32) (v3 : Int32) (v4 : Int32) (S : St) (w : WT (kDn K) S.2.2) : JX K (Zm K (fun v : Int32 => some (.int v))) 0 [some (.ref v0), some (.int v1), some (.int v2), some (.int v3), some (.int v4), none] [] (rwN (kN K) S) (kn K) 0 0 (f_X10_pullAt v0 v1 v2 v3 v4 S) := by
  unfold f_X10_pullAt
  refine J_aload_n X dX10_pullAt_0 (i := 0) rfl rfl ?_
  refine J_aload_n X dX10_pullAt_1 (i := 0) rfl rfl ?_
  refine J_iload_n X dX10_pullAt_2 (i := 1) rfl rfl ?_
  refine T_callV (As := [.int v1]) w X (C_X10_whose (kG K) v0 kv0 v1 S) cb10 kv0 ml_X10_354 in_yX10_whose se_yX10_whose ii_RX10 co_yX10_whose hy_X10_whose (hRd hR (by decide) (by decide)) rfl (Nat.le_of_ble_eq_true rfl) dX10_pullAt_3 (fun r2 S1 _ wS1 => ?_)
  refine J_iload_n X dX10_pullAt_6 (i := 3) rfl rfl ?_
  refine J_iload X dX10_pullAt_7 rfl ?_
  refine T_callV (As := [.int r2, .int v3, .int v4]) wS1 X (C_X10_farFrom (kG K) v0 kv0 r2 v3 v4 S1) cb10 kv0 ml_X10_357 in_yX10_farFrom se_yX10_farFrom ii_RX10 co_yX10_farFrom hy_X10_farFrom (hRd hR (by decide) (by decide)) rfl (Nat.le_of_ble_eq_true rfl) dX10_pullAt_9 (fun r4 S3 _ wS3 => ?_)
  refine J_istore X (ls' := [some (.ref v0), some (.int v1), some (.int v2), some (.int v3), some (.int v4), some (.int r4)]) dX10_pullAt_12 (by decide) rfl ?_
  refine J_aload_n X dX10_pullAt_14 (i := 0) rfl rfl ?_
  refine J_iload_n X dX10_pullAt_15 (i := 1) rfl rfl ?_
  refine T_callV (As := [.int v1]) wS3 X (C_X10_isCut (kG K) v0 kv0 v1 S3) cb10 kv0 ml_X10_342 in_yX10_isCut se_yX10_isCut ii_RX10 co_yX10_isCut hy_X10_isCut (hRd hR (by decide) (by decide)) rfl (Nat.le_of_ble_eq_true rfl) dX10_pullAt_16 (fun r6 S5 _ wS5 => ?_)
  refine J_if_ne X (tgt := 52) dX10_pullAt_19 (by decide) ?_ ?_
  · refine J_aload_n X dX10_pullAt_22 (i := 0) rfl rfl ?_
    refine T_getR X (kf := 52) cb10 kv0 (by decide) fl_X10_122 (fun _ _ _ => rfl) dX10_pullAt_23 ?_
    refine J_bipush X (v := (16 : Int32)) dX10_pullAt_26 (by decide) ?_
    refine J_aload_n X dX10_pullAt_28 (i := 0) rfl rfl ?_
    refine J_iload_n X dX10_pullAt_29 (i := 1) rfl rfl ?_
    refine T_callV (As := [.int v1]) wS5 X (C_X10_whose (kG K) v0 kv0 v1 S5) cb10 kv0 ml_X10_354 in_yX10_whose se_yX10_whose ii_RX10 co_yX10_whose hy_X10_whose (hRd hR (by decide) (by decide)) rfl (Nat.le_of_ble_eq_true rfl) dX10_pullAt_30 (fun r8 S7 _ wS7 => ?_)
    refine J_iadd X dX10_pullAt_33 ?_
    refine T_iald X (wS5.1 _ _ kv0 52 _ rfl) dX10_pullAt_34 (fun j9 => ?_)
    refine J_iconst X (v := (1 : Int32)) dX10_pullAt_35 (by decide) ?_
    refine J_icmp_eq X (tgt := 52) dX10_pullAt_36 (by decide) ?_ ?_
    · refine J_iconst X (v := (0 : Int32)) dX10_pullAt_52 (by decide) ?_
      exact T_iret wS7 X dX10_pullAt_53
    · refine J_aload_n X dX10_pullAt_39 (i := 0) rfl rfl ?_
      refine J_iload_n X dX10_pullAt_40 (i := 2) rfl rfl ?_
      refine T_callV (As := [.int v2]) wS7 X (C_X10_isOff (kG K) v0 kv0 v2 S7) cb10 kv0 ml_X10_360 in_yX10_isOff se_yX10_isOff ii_RX10 co_yX10_isOff hy_X10_isOff (hRd hR (by decide) (by decide)) rfl (Nat.le_of_ble_eq_true rfl) dX10_pullAt_41 (fun r11 S10 _ wS10 => ?_)
      refine J_if_ne X (tgt := 52) dX10_pullAt_44 (by decide) ?_ ?_
      · refine J_iload X dX10_pullAt_47 rfl ?_
        refine J_if_ne X (tgt := 54) dX10_pullAt_49 (by decide) ?_ ?_
        · refine J_iconst X (v := (0 : Int32)) dX10_pullAt_52 (by decide) ?_
          exact T_iret wS10 X dX10_pullAt_53
        · refine J_aload_n X dX10_pullAt_54 (i := 0) rfl rfl ?_
          refine T_callV (As := []) wS10 X (C_X10_looks (kG K) v0 kv0 S10) cb10 kv0 ml_X10_363 in_yX10_looks se_yX10_looks ii_RX10 co_yX10_looks hy_X10_looks (hRd hR (by decide) (by decide)) rfl (Nat.le_of_ble_eq_true rfl) dX10_pullAt_55 (fun _ S12 _ wS12 => ?_)
          refine J_aload_n X dX10_pullAt_58 (i := 0) rfl rfl ?_
          refine T_getR X (kf := 48) cb10 kv0 (by decide) fl_X10_113 (fun _ _ _ => rfl) dX10_pullAt_59 ?_
          refine J_iconst X (v := (0 : Int32)) dX10_pullAt_62 (by decide) ?_
          refine J_aload_n X dX10_pullAt_63 (i := 0) rfl rfl ?_
          refine T_getR X (kf := 32) cb10 kv0 (by decide) fl_X10_73 (fun _ _ _ => rfl) dX10_pullAt_64 ?_
          refine J_bipush X (v := (8 : Int32)) dX10_pullAt_67 (by decide) ?_
          refine J_aload_n X dX10_pullAt_69 (i := 0) rfl rfl ?_
          refine T_getI X (kf := 18) cb10 kv0 (by decide) fl_X10_239 (fun _ _ _ => rfl) dX10_pullAt_70 ?_
          refine J_imul X dX10_pullAt_73 ?_
          refine J_iload_n X dX10_pullAt_74 (i := 1) rfl rfl ?_
          refine J_iadd X dX10_pullAt_75 ?_
          refine T_iald X (wS12.1 _ _ kv0 32 _ rfl) dX10_pullAt_76 (fun j14 => ?_)
          refine T_iast X (wS12.1 _ _ kv0 48 _ rfl) dX10_pullAt_77 (fun j15 S16 hS16 => ?_)
          have wS16 : WT (kDn K) S16.2.2 := by rw [hS16]; exact wS12
          clear hS16
          refine J_aload_n X dX10_pullAt_78 (i := 0) rfl rfl ?_
          refine T_getR X (kf := 48) cb10 kv0 (by decide) fl_X10_113 (fun _ _ _ => rfl) dX10_pullAt_79 ?_
          refine J_iconst X (v := (1 : Int32)) dX10_pullAt_82 (by decide) ?_
          refine J_iload X dX10_pullAt_83 rfl ?_
          refine T_iast X (wS16.1 _ _ kv0 48 _ rfl) dX10_pullAt_85 (fun j17 S18 hS18 => ?_)
          have wS18 : WT (kDn K) S18.2.2 := by rw [hS18]; exact wS16
          clear hS18
          refine J_aload_n X dX10_pullAt_86 (i := 0) rfl rfl ?_
          refine T_getR X (kf := 48) cb10 kv0 (by decide) fl_X10_113 (fun _ _ _ => rfl) dX10_pullAt_87 ?_
          refine J_iconst X (v := (4 : Int32)) dX10_pullAt_90 (by decide) ?_
          refine J_aload_n X dX10_pullAt_91 (i := 0) rfl rfl ?_
          refine T_getR X (kf := 28) cb10 kv0 (by decide) fl_X10_61 (fun _ _ _ => rfl) dX10_pullAt_92 ?_
          refine J_bipush X (v := (6 : Int32)) dX10_pullAt_95 (by decide) ?_
          refine J_aload_n X dX10_pullAt_97 (i := 0) rfl rfl ?_
          refine T_getI X (kf := 18) cb10 kv0 (by decide) fl_X10_239 (fun _ _ _ => rfl) dX10_pullAt_98 ?_
          refine J_imul X dX10_pullAt_101 ?_
          refine J_iload_n X dX10_pullAt_102 (i := 2) rfl rfl ?_
          refine J_iadd X dX10_pullAt_103 ?_
          refine T_iald X (wS18.1 _ _ kv0 28 _ rfl) dX10_pullAt_104 (fun j19 => ?_)
          refine T_iast X (wS18.1 _ _ kv0 48 _ rfl) dX10_pullAt_105 (fun j20 S21 hS21 => ?_)
          have wS21 : WT (kDn K) S21.2.2 := by rw [hS21]; exact wS18
          clear hS21
          refine J_aload_n X dX10_pullAt_106 (i := 0) rfl rfl ?_
          refine T_getR X (kf := 48) cb10 kv0 (by decide) fl_X10_113 (fun _ _ _ => rfl) dX10_pullAt_107 ?_
          refine J_bipush X (v := (7 : Int32)) dX10_pullAt_110 (by decide) ?_
          refine J_iload_n X dX10_pullAt_112 (i := 1) rfl rfl ?_
          refine T_iast X (wS21.1 _ _ kv0 48 _ rfl) dX10_pullAt_113 (fun j22 S23 hS23 => ?_)
          have wS23 : WT (kDn K) S23.2.2 := by rw [hS23]; exact wS21
          clear hS23
          refine J_aload_n X dX10_pullAt_114 (i := 0) rfl rfl ?_
          refine J_iconst X (v := (0 : Int32)) dX10_pullAt_115 (by decide) ?_
          refine J_aload_n X dX10_pullAt_116 (i := 0) rfl rfl ?_
          refine T_getR X (kf := 48) cb10 kv0 (by decide) fl_X10_113 (fun _ _ _ => rfl) dX10_pullAt_117 ?_
          refine J_iconst X (v := (0 : Int32)) dX10_pullAt_120 (by decide) ?_
          refine T_iald X (wS23.1 _ _ kv0 48 _ rfl) dX10_pullAt_121 (fun j24 => ?_)
          refine T_callV (As := [.int (0 : Int32), .int (S23.1 (S23.2.2 v0 48) j24)]) wS23 X (C_X10_lawTells (kG K) v0 kv0 (0 : Int32) (S23.1 (S23.2.2 v0 48) j24) S23) cb10 kv0 ml_X10_366 in_yX10_lawTells se_yX10_lawTells ii_RX10 co_yX10_lawTells hy_X10_lawTells (hRd hR (by decide) (by decide)) rfl (Nat.le_of_ble_eq_true rfl) dX10_pullAt_122 (fun r26 S25 _ wS25 => ?_)
          refine J_iconst X (v := (0 : Int32)) dX10_pullAt_125 (by decide) ?_
          refine J_bipush X (v := (99 : Int32)) dX10_pullAt_126 (by decide) ?_
          refine T_callS (As := [.int r26, .int (0 : Int32), .int (99 : Int32)]) wS25 X (C_X10_within (kG K) r26 (0 : Int32) (99 : Int32) S25) ml_X10_369 st_yX10_within ii_RX10 co_yX10_within hy_X10_within (hRd hR (by decide) (by decide)) rfl (Nat.le_of_ble_eq_true rfl) dX10_pullAt_128 (fun r28 S27 _ wS27 => ?_)
          exact T_iret wS27 X dX10_pullAt_131
      · refine J_iconst X (v := (0 : Int32)) dX10_pullAt_52 (by decide) ?_
        exact T_iret wS10 X dX10_pullAt_53
  · refine J_iconst X (v := (0 : Int32)) dX10_pullAt_52 (by decide) ?_
    exact T_iret wS5 X dX10_pullAt_53
theorem C_X10_pullAt (G : GG) (v0 : Nat) (kv0 : KA (gD G) v0 (0, 10)) (v1 : Int32) (v2 : Int32) (v3 : Int32) (v4 : Int32) (S : St) : CM G yX10_pullAt cX10_pullAt 6 (some .int) 2 [.ref v0, .int v1, .int v2, .int v3, .int v4] S (fun v : Int32 => some (.int v)) (f_X10_pullAt v0 v1 v2 v3 v4 S) :=
  CM_of (by decide) (Nat.le_of_ble_eq_true rfl) rfl (fun K hG X hR w => by subst hG; exact t_X10_pullAt_0 X hR v0 kv0 v1 v2 v3 v4 S w)
-- ==== X10_pullsBy
theorem hy_X10_pullsBy : yX10_pullsBy.cls ≠ "java/lang/invoke/MethodHandle" ∧ yX10_pullsBy.cls ≠ "java/lang/invoke/VarHandle" ∧ (parseMethodDescriptor yX10_pullsBy.desc).map (fun d => d.parameters.length) = some 4 := by decide +kernel
set_option maxRecDepth 20000 in
def b_X10_pullsBy_110 (q13 : Nat → Int32 → Int32 → Int32 → Int32 → Int32 → St → Option (Unit × St)) (v0 : Nat) (v1 : Int32) (v2 : Int32) (v3 : Int32) (v4 : Int32) (v5 : Int32) (S : St) : Option (Unit × St) := nm (v5 + (1 : Int32)) fun x1 => q13 v0 v1 v2 v3 v4 x1 S
set_option maxRecDepth 20000 in
theorem t_X10_pullsBy_110 {K : KK} (X : CX K cX10_pullsBy 7 RX10 none) (hR : kR K = rmD 3) {q13 : Nat → Int32 → Int32 → Int32 → Int32 → Int32 → St → Option (Unit × St)} (hq13 : ∀ (v0 : Nat) (kv0 : KA (kDn K) v0 (0, 10)) (v1 : Int32) (v2 : Int32) (v3 : Int32) (v4 : Int32) (v5 : Int32) (S : St), WT (kDn K) S.2.2 → JX K (Zm K (fun _ : Unit => none)) 13 [some (.ref v0), some (.int v1), some (.int v2), some (.int v3), some (.int v4), some (.int v5), none] [] (rwN (kN K) S) (kn K) 0 0 (q13 v0 v1 v2 v3 v4 v5 S)) (v0 : Nat) (kv0 : KA (kDn K) v0 (0, 10)) (v1 : Int32) (v2 : Int32) (v3 : Int32) (v4 : Int32) (v5 : Int32) (S : St) (w : WT (kDn K) S.2.2) : JX K (Zm K (fun _ : Unit => none)) 110 [some (.ref v0), some (.int v1), some (.int v2), some (.int v3), some (.int v4), some (.int v5), none] [] (rwN (kN K) S) (kn K) 0 0 (b_X10_pullsBy_110 q13 v0 v1 v2 v3 v4 v5 S) := by
  unfold b_X10_pullsBy_110
  refine J_nmv (v5 + (1 : Int32)) (fun x1 ex1 => ?_)
  refine J_iinc X (v := x1) (ls' := [some (.ref v0), some (.int v1), some (.int v2), some (.int v3), some (.int v4), some (.int x1), none]) dX10_pullsBy_110 (by decide) rfl (by rw [ex1]; rfl) rfl ?_
  refine J_goto X (tgt := 13) dX10_pullsBy_113 (by decide) ?_
  exact hq13 v0 kv0 v1 v2 v3 v4 x1 S w
set_option maxRecDepth 20000 in
def b_X10_pullsBy_13 : Nat → Nat → Int32 → Int32 → Int32 → Int32 → Int32 → St → Option (Unit × St)
  | 0, _, _, _, _, _, _, _ => none
  | fu + 1, v0, v1, v2, v3, v4, v5, S => (ix (S.1 v0 18) 2).bind fun j1 => if (S.1 (S.2.2 v0 29) j1) ≤ v5 then (some ((), S)) else (if ((v1 >>> (v5 &&& 31)) &&& (1 : Int32)) = 0 then (b_X10_pullsBy_110 (b_X10_pullsBy_13 fu) v0 v1 v2 v3 v4 v5 S) else (bd (f_X10_pullAt v0 v5 v2 v3 v4 S) fun r3 S2 => bd (f_X10_whose v0 v5 S2) fun r5 S4 => (ix r5 55).bind fun j6 => bd (f_X10_signOf ((S4.1 (S2.2.2 v0 52) j6) - v3) S4) fun r8 S7 => nm (sI S7 v0 55 ((S2.1 v0 55) + (r3 * r8))) fun S9 => bd (f_X10_whose v0 v5 S9) fun r11 S10 => (ix ((4 : Int32) + r11) 55).bind fun j12 => bd (f_X10_signOf ((S10.1 (S9.2.2 v0 52) j12) - v4) S10) fun r14 S13 => nm (sI S13 v0 56 ((S9.1 v0 56) + (r3 * r14))) fun S15 => b_X10_pullsBy_110 (b_X10_pullsBy_13 fu) v0 v1 v2 v3 v4 v5 S15))
set_option maxRecDepth 20000 in
theorem t_X10_pullsBy_13 {K : KK} (X : CX K cX10_pullsBy 7 RX10 none) (hR : kR K = rmD 3) : ∀ (fu : Nat) (v0 : Nat) (kv0 : KA (kDn K) v0 (0, 10)) (v1 : Int32) (v2 : Int32) (v3 : Int32) (v4 : Int32) (v5 : Int32) (S : St), WT (kDn K) S.2.2 → JX K (Zm K (fun _ : Unit => none)) 13 [some (.ref v0), some (.int v1), some (.int v2), some (.int v3), some (.int v4), some (.int v5), none] [] (rwN (kN K) S) (kn K) 0 0 (b_X10_pullsBy_13 fu v0 v1 v2 v3 v4 v5 S) := by
  intro fu
  induction fu with
  | zero => intro v0 kv0 v1 v2 v3 v4 v5 S w; exact J_none
  | succ fu ih =>
    intro v0 kv0 v1 v2 v3 v4 v5 S w
    rw [b_X10_pullsBy_13]
    refine J_iload X dX10_pullsBy_13 rfl ?_
    refine J_aload_n X dX10_pullsBy_15 (i := 0) rfl rfl ?_
    refine T_getR X (kf := 29) cb10 kv0 (by decide) fl_X10_64 (fun _ _ _ => rfl) dX10_pullsBy_16 ?_
    refine J_aload_n X dX10_pullsBy_19 (i := 0) rfl rfl ?_
    refine T_getI X (kf := 18) cb10 kv0 (by decide) fl_X10_239 (fun _ _ _ => rfl) dX10_pullsBy_20 ?_
    refine T_iald X (w.1 _ _ kv0 29 _ rfl) dX10_pullsBy_23 (fun j1 => ?_)
    refine J_icmp_ge X (tgt := 116) dX10_pullsBy_24 (by decide) ?_ ?_
    · exact T_vret w X dX10_pullsBy_116
    · refine J_iload_n X dX10_pullsBy_27 (i := 1) rfl rfl ?_
      refine J_iload X dX10_pullsBy_28 rfl ?_
      refine J_ishr X dX10_pullsBy_30 ?_
      refine J_iconst X (v := (1 : Int32)) dX10_pullsBy_31 (by decide) ?_
      refine J_iand X dX10_pullsBy_32 ?_
      refine J_if_ne X (tgt := 39) dX10_pullsBy_33 (by decide) ?_ ?_
      · refine J_goto X (tgt := 110) dX10_pullsBy_36 (by decide) ?_
        exact t_X10_pullsBy_110 X hR ih v0 kv0 v1 v2 v3 v4 v5 S w
      · refine J_aload_n X dX10_pullsBy_39 (i := 0) rfl rfl ?_
        refine J_iload X dX10_pullsBy_40 rfl ?_
        refine J_iload_n X dX10_pullsBy_42 (i := 2) rfl rfl ?_
        refine J_iload_n X dX10_pullsBy_43 (i := 3) rfl rfl ?_
        refine J_iload X dX10_pullsBy_44 rfl ?_
        refine T_callV (As := [.int v5, .int v2, .int v3, .int v4]) w X (C_X10_pullAt (kG K) v0 kv0 v5 v2 v3 v4 S) cb10 kv0 ml_X10_378 in_yX10_pullAt se_yX10_pullAt ii_RX10 co_yX10_pullAt hy_X10_pullAt (hRd hR (by decide) (by decide)) rfl (Nat.le_of_ble_eq_true rfl) dX10_pullsBy_46 (fun r3 S2 _ wS2 => ?_)
        refine J_istore X (ls' := [some (.ref v0), some (.int v1), some (.int v2), some (.int v3), some (.int v4), some (.int v5), some (.int r3)]) dX10_pullsBy_49 (by decide) rfl ?_
        refine J_aload_n X dX10_pullsBy_51 (i := 0) rfl rfl ?_
        refine J_dup X dX10_pullsBy_52 rfl ?_
        refine T_getI X (kf := 55) cb10 kv0 (by decide) fl_X10_372 (fun _ _ _ => rfl) dX10_pullsBy_53 ?_
        refine J_iload X dX10_pullsBy_56 rfl ?_
        refine J_aload_n X dX10_pullsBy_58 (i := 0) rfl rfl ?_
        refine T_getR X (kf := 52) cb10 kv0 (by decide) fl_X10_122 (fun _ _ _ => rfl) dX10_pullsBy_59 ?_
        refine J_aload_n X dX10_pullsBy_62 (i := 0) rfl rfl ?_
        refine J_iload X dX10_pullsBy_63 rfl ?_
        refine T_callV (As := [.int v5]) wS2 X (C_X10_whose (kG K) v0 kv0 v5 S2) cb10 kv0 ml_X10_354 in_yX10_whose se_yX10_whose ii_RX10 co_yX10_whose hy_X10_whose (hRd hR (by decide) (by decide)) rfl (Nat.le_of_ble_eq_true rfl) dX10_pullsBy_65 (fun r5 S4 _ wS4 => ?_)
        refine T_iald X (wS2.1 _ _ kv0 52 _ rfl) dX10_pullsBy_68 (fun j6 => ?_)
        refine J_iload_n X dX10_pullsBy_69 (i := 3) rfl rfl ?_
        refine J_isub X dX10_pullsBy_70 ?_
        refine T_callS (As := [.int ((S4.1 (S2.2.2 v0 52) j6) - v3)]) wS4 X (C_X10_signOf (kG K) ((S4.1 (S2.2.2 v0 52) j6) - v3) S4) ml_X10_382 st_yX10_signOf ii_RX10 co_yX10_signOf hy_X10_signOf (hRd hR (by decide) (by decide)) rfl (Nat.le_of_ble_eq_true rfl) dX10_pullsBy_71 (fun r8 S7 _ wS7 => ?_)
        refine J_imul X dX10_pullsBy_74 ?_
        refine J_iadd X dX10_pullsBy_75 ?_
        refine T_putI X (kf := 55) cb10 kv0 (by decide) fl_X10_372 (fun _ _ _ => rfl) rfl rfl rfl dX10_pullsBy_76 (fun S9 hS9 => ?_)
        have wS9 : WT (kDn K) S9.2.2 := by rw [hS9]; exact wS7
        clear hS9
        refine J_aload_n X dX10_pullsBy_79 (i := 0) rfl rfl ?_
        refine J_dup X dX10_pullsBy_80 rfl ?_
        refine T_getI X (kf := 56) cb10 kv0 (by decide) fl_X10_375 (fun _ _ _ => rfl) dX10_pullsBy_81 ?_
        refine J_iload X dX10_pullsBy_84 rfl ?_
        refine J_aload_n X dX10_pullsBy_86 (i := 0) rfl rfl ?_
        refine T_getR X (kf := 52) cb10 kv0 (by decide) fl_X10_122 (fun _ _ _ => rfl) dX10_pullsBy_87 ?_
        refine J_iconst X (v := (4 : Int32)) dX10_pullsBy_90 (by decide) ?_
        refine J_aload_n X dX10_pullsBy_91 (i := 0) rfl rfl ?_
        refine J_iload X dX10_pullsBy_92 rfl ?_
        refine T_callV (As := [.int v5]) wS9 X (C_X10_whose (kG K) v0 kv0 v5 S9) cb10 kv0 ml_X10_354 in_yX10_whose se_yX10_whose ii_RX10 co_yX10_whose hy_X10_whose (hRd hR (by decide) (by decide)) rfl (Nat.le_of_ble_eq_true rfl) dX10_pullsBy_94 (fun r11 S10 _ wS10 => ?_)
        refine J_iadd X dX10_pullsBy_97 ?_
        refine T_iald X (wS9.1 _ _ kv0 52 _ rfl) dX10_pullsBy_98 (fun j12 => ?_)
        refine J_iload X dX10_pullsBy_99 rfl ?_
        refine J_isub X dX10_pullsBy_101 ?_
        refine T_callS (As := [.int ((S10.1 (S9.2.2 v0 52) j12) - v4)]) wS10 X (C_X10_signOf (kG K) ((S10.1 (S9.2.2 v0 52) j12) - v4) S10) ml_X10_382 st_yX10_signOf ii_RX10 co_yX10_signOf hy_X10_signOf (hRd hR (by decide) (by decide)) rfl (Nat.le_of_ble_eq_true rfl) dX10_pullsBy_102 (fun r14 S13 _ wS13 => ?_)
        refine J_imul X dX10_pullsBy_105 ?_
        refine J_iadd X dX10_pullsBy_106 ?_
        refine T_putI X (kf := 56) cb10 kv0 (by decide) fl_X10_375 (fun _ _ _ => rfl) rfl rfl rfl dX10_pullsBy_107 (fun S15 hS15 => ?_)
        have wS15 : WT (kDn K) S15.2.2 := by rw [hS15]; exact wS13
        clear hS15
        refine J_mask [true, true, true, true, true, true, false] ?_
        exact t_X10_pullsBy_110 X hR ih v0 kv0 v1 v2 v3 v4 v5 S15 wS15
set_option maxRecDepth 20000 in
def f_X10_pullsBy (v0 : Nat) (v1 : Int32) (v2 : Int32) (v3 : Int32) (v4 : Int32) (S : St) : Option (Unit × St) := nm (sI S v0 55 (0 : Int32)) fun S1 => nm (sI S1 v0 56 (0 : Int32)) fun S2 => b_X10_pullsBy_13 FU v0 v1 v2 v3 v4 (0 : Int32) S2
set_option maxRecDepth 20000 in
theorem t_X10_pullsBy_0 {K : KK} (X : CX K cX10_pullsBy 7 RX10 none) (hR : kR K = rmD 3) (v0 : Nat) (kv0 : KA (kDn K) v0 (0, 10)) (v1 : Int32) (v2 : Int32) (v3 : Int32) (v4 : Int32) (S : St) (w : WT (kDn K) S.2.2) : JX K (Zm K (fun _ : Unit => none)) 0 [some (.ref v0), some (.int v1), some (.int v2), some (.int v3), some (.int v4), none, none] [] (rwN (kN K) S) (kn K) 0 0 (f_X10_pullsBy v0 v1 v2 v3 v4 S) := by
  unfold f_X10_pullsBy
  refine J_aload_n X dX10_pullsBy_0 (i := 0) rfl rfl ?_
  refine J_iconst X (v := (0 : Int32)) dX10_pullsBy_1 (by decide) ?_
  refine T_putI X (kf := 55) cb10 kv0 (by decide) fl_X10_372 (fun _ _ _ => rfl) rfl rfl rfl dX10_pullsBy_2 (fun S1 hS1 => ?_)
  have wS1 : WT (kDn K) S1.2.2 := by rw [hS1]; exact w
  clear hS1
  refine J_aload_n X dX10_pullsBy_5 (i := 0) rfl rfl ?_
  refine J_iconst X (v := (0 : Int32)) dX10_pullsBy_6 (by decide) ?_
  refine T_putI X (kf := 56) cb10 kv0 (by decide) fl_X10_375 (fun _ _ _ => rfl) rfl rfl rfl dX10_pullsBy_7 (fun S2 hS2 => ?_)
  have wS2 : WT (kDn K) S2.2.2 := by rw [hS2]; exact wS1
  clear hS2
  refine J_iconst X (v := (0 : Int32)) dX10_pullsBy_10 (by decide) ?_
  refine J_istore X (ls' := [some (.ref v0), some (.int v1), some (.int v2), some (.int v3), some (.int v4), some (.int (0 : Int32)), none]) dX10_pullsBy_11 (by decide) rfl ?_
  exact t_X10_pullsBy_13 X hR FU v0 kv0 v1 v2 v3 v4 (0 : Int32) S2 wS2
theorem C_X10_pullsBy (G : GG) (v0 : Nat) (kv0 : KA (gD G) v0 (0, 10)) (v1 : Int32) (v2 : Int32) (v3 : Int32) (v4 : Int32) (S : St) : CM G yX10_pullsBy cX10_pullsBy 7 none 3 [.ref v0, .int v1, .int v2, .int v3, .int v4] S (fun _ : Unit => none) (f_X10_pullsBy v0 v1 v2 v3 v4 S) :=
  CM_of (by decide) (Nat.le_of_ble_eq_true rfl) rfl (fun K hG X hR w => by subst hG; exact t_X10_pullsBy_0 X hR v0 kv0 v1 v2 v3 v4 S w)
-- ==== X10_wornBits
theorem hy_X10_wornBits : yX10_wornBits.cls ≠ "java/lang/invoke/MethodHandle" ∧ yX10_wornBits.cls ≠ "java/lang/invoke/VarHandle" ∧ (parseMethodDescriptor yX10_wornBits.desc).map (fun d => d.parameters.length) = some 1 := by decide +kernel
set_option maxRecDepth 20000 in
def b_X10_wornBits_44 (q4 : Nat → Int32 → Int32 → Int32 → St → Option (Int32 × St)) (v0 : Nat) (v1 : Int32) (v2 : Int32) (v3 : Int32) (S : St) : Option (Int32 × St) := nm (v3 + (1 : Int32)) fun x1 => q4 v0 v1 v2 x1 S
set_option maxRecDepth 20000 in
theorem t_X10_wornBits_44 {K : KK} (X : CX K cX10_wornBits 4 RX10 (some .int)) (hR : kR K = rmD 1) {q4 : Nat → Int32 → Int32 → Int32 → St → Option (Int32 × St)} (hq4 : ∀ (v0 : Nat) (kv0 : KA (kDn K) v0 (0, 10)) (v1 : Int32) (v2 : Int32) (v3 : Int32) (S : St), WT (kDn K) S.2.2 → JX K (Zm K (fun v : Int32 => some (.int v))) 4 [some (.ref v0), some (.int v1), some (.int v2), some (.int v3)] [] (rwN (kN K) S) (kn K) 0 0 (q4 v0 v1 v2 v3 S)) (v0 : Nat) (kv0 : KA (kDn K) v0 (0, 10)) (v1 : Int32) (v2 : Int32) (v3 : Int32) (S : St) (w : WT (kDn K) S.2.2) : JX K (Zm K (fun v : Int32 => some (.int v))) 44 [some (.ref v0), some (.int v1), some (.int v2), some (.int v3)] [] (rwN (kN K) S) (kn K) 0 0 (b_X10_wornBits_44 q4 v0 v1 v2 v3 S) := by
  unfold b_X10_wornBits_44
  refine J_nmv (v3 + (1 : Int32)) (fun x1 ex1 => ?_)
  refine J_iinc X (v := x1) (ls' := [some (.ref v0), some (.int v1), some (.int v2), some (.int x1)]) dX10_wornBits_44 (by decide) rfl (by rw [ex1]; rfl) rfl ?_
  refine J_goto X (tgt := 4) dX10_wornBits_47 (by decide) ?_
  exact hq4 v0 kv0 v1 v2 x1 S w
set_option maxRecDepth 20000 in
def b_X10_wornBits_4 : Nat → Nat → Int32 → Int32 → Int32 → St → Option (Int32 × St)
  | 0, _, _, _, _, _ => none
  | fu + 1, v0, v1, v2, v3, S => (ix (S.1 v0 18) 2).bind fun j1 => if (S.1 (S.2.2 v0 29) j1) ≤ v3 then (some (v2, S)) else ((ix ((38 : Int32) + v3) 55).bind fun j2 => if (S.1 (S.2.2 v0 52) j2) = v1 then (bd (f_X10_isCut v0 v3 S) fun r4 S3 => if r4 = 0 then (nm (v2 ||| ((1 : Int32) <<< (v3 &&& 31))) fun x5 => b_X10_wornBits_44 (b_X10_wornBits_4 fu) v0 v1 x5 v3 S3) else (b_X10_wornBits_44 (b_X10_wornBits_4 fu) v0 v1 v2 v3 S3)) else (b_X10_wornBits_44 (b_X10_wornBits_4 fu) v0 v1 v2 v3 S))
set_option maxRecDepth 20000 in
theorem t_X10_wornBits_4 {K : KK} (X : CX K cX10_wornBits 4 RX10 (some .int)) (hR : kR K = rmD 1) : ∀ (fu : Nat) (v0 : Nat) (kv0 : KA (kDn K) v0 (0, 10)) (v1 : Int32) (v2 : Int32) (v3 : Int32) (S : St), WT (kDn K) S.2.2 → JX K (Zm K (fun v : Int32 => some (.int v))) 4 [some (.ref v0), some (.int v1), some (.int v2), some (.int v3)] [] (rwN (kN K) S) (kn K) 0 0 (b_X10_wornBits_4 fu v0 v1 v2 v3 S) := by
  intro fu
  induction fu with
  | zero => intro v0 kv0 v1 v2 v3 S w; exact J_none
  | succ fu ih =>
    intro v0 kv0 v1 v2 v3 S w
    rw [b_X10_wornBits_4]
    refine J_iload_n X dX10_wornBits_4 (i := 3) rfl rfl ?_
    refine J_aload_n X dX10_wornBits_5 (i := 0) rfl rfl ?_
    refine T_getR X (kf := 29) cb10 kv0 (by decide) fl_X10_64 (fun _ _ _ => rfl) dX10_wornBits_6 ?_
    refine J_aload_n X dX10_wornBits_9 (i := 0) rfl rfl ?_
    refine T_getI X (kf := 18) cb10 kv0 (by decide) fl_X10_239 (fun _ _ _ => rfl) dX10_wornBits_10 ?_
    refine T_iald X (w.1 _ _ kv0 29 _ rfl) dX10_wornBits_13 (fun j1 => ?_)
    refine J_icmp_ge X (tgt := 50) dX10_wornBits_14 (by decide) ?_ ?_
    · refine J_iload_n X dX10_wornBits_50 (i := 2) rfl rfl ?_
      exact T_iret w X dX10_wornBits_51
    · refine J_aload_n X dX10_wornBits_17 (i := 0) rfl rfl ?_
      refine T_getR X (kf := 52) cb10 kv0 (by decide) fl_X10_122 (fun _ _ _ => rfl) dX10_wornBits_18 ?_
      refine J_bipush X (v := (38 : Int32)) dX10_wornBits_21 (by decide) ?_
      refine J_iload_n X dX10_wornBits_23 (i := 3) rfl rfl ?_
      refine J_iadd X dX10_wornBits_24 ?_
      refine T_iald X (w.1 _ _ kv0 52 _ rfl) dX10_wornBits_25 (fun j2 => ?_)
      refine J_iload_n X dX10_wornBits_26 (i := 1) rfl rfl ?_
      refine J_icmp_ne X (tgt := 44) dX10_wornBits_27 (by decide) ?_ ?_
      · refine J_aload_n X dX10_wornBits_30 (i := 0) rfl rfl ?_
        refine J_iload_n X dX10_wornBits_31 (i := 3) rfl rfl ?_
        refine T_callV (As := [.int v3]) w X (C_X10_isCut (kG K) v0 kv0 v3 S) cb10 kv0 ml_X10_342 in_yX10_isCut se_yX10_isCut ii_RX10 co_yX10_isCut hy_X10_isCut (hRd hR (by decide) (by decide)) rfl (Nat.le_of_ble_eq_true rfl) dX10_wornBits_32 (fun r4 S3 _ wS3 => ?_)
        refine J_if_ne X (tgt := 44) dX10_wornBits_35 (by decide) ?_ ?_
        · refine J_iload_n X dX10_wornBits_38 (i := 2) rfl rfl ?_
          refine J_iconst X (v := (1 : Int32)) dX10_wornBits_39 (by decide) ?_
          refine J_iload_n X dX10_wornBits_40 (i := 3) rfl rfl ?_
          refine J_ishl X dX10_wornBits_41 ?_
          refine J_ior X dX10_wornBits_42 ?_
          refine J_nmi (fun x5 => ?_)
          refine J_istore_n X (i := 2) (ls' := [some (.ref v0), some (.int v1), some (.int x5), some (.int v3)]) dX10_wornBits_43 rfl (by decide) rfl ?_
          exact t_X10_wornBits_44 X hR ih v0 kv0 v1 x5 v3 S3 wS3
        · exact t_X10_wornBits_44 X hR ih v0 kv0 v1 v2 v3 S3 wS3
      · exact t_X10_wornBits_44 X hR ih v0 kv0 v1 v2 v3 S w
set_option maxRecDepth 20000 in
def f_X10_wornBits (v0 : Nat) (v1 : Int32) (S : St) : Option (Int32 × St) := b_X10_wornBits_4 FU v0 v1 (0 : Int32) (0 : Int32) S
set_option maxRecDepth 20000 in
theorem t_X10_wornBits_0 {K : KK} (X : CX K cX10_wornBits 4 RX10 (some .int)) (hR : kR K = rmD 1) (v0 : Nat) (kv0 : KA (kDn K) v0 (0, 10)) (v1 : Int32) (S : St) (w : WT (kDn K) S.2.2) : JX K (Zm K (fun v : Int32 => some (.int v))) 0 [some (.ref v0), some (.int v1), none, none] [] (rwN (kN K) S) (kn K) 0 0 (f_X10_wornBits v0 v1 S) := by
  unfold f_X10_wornBits
  refine J_iconst X (v := (0 : Int32)) dX10_wornBits_0 (by decide) ?_
  refine J_istore_n X (i := 2) (ls' := [some (.ref v0), some (.int v1), some (.int (0 : Int32)), none]) dX10_wornBits_1 rfl (by decide) rfl ?_
  refine J_iconst X (v := (0 : Int32)) dX10_wornBits_2 (by decide) ?_
  refine J_istore_n X (i := 3) (ls' := [some (.ref v0), some (.int v1), some (.int (0 : Int32)), some (.int (0 : Int32))]) dX10_wornBits_3 rfl (by decide) rfl ?_
  exact t_X10_wornBits_4 X hR FU v0 kv0 v1 (0 : Int32) (0 : Int32) S w
theorem C_X10_wornBits (G : GG) (v0 : Nat) (kv0 : KA (gD G) v0 (0, 10)) (v1 : Int32) (S : St) : CM G yX10_wornBits cX10_wornBits 4 (some .int) 1 [.ref v0, .int v1] S (fun v : Int32 => some (.int v)) (f_X10_wornBits v0 v1 S) :=
  CM_of (by decide) (Nat.le_of_ble_eq_true rfl) rfl (fun K hG X hR w => by subst hG; exact t_X10_wornBits_0 X hR v0 kv0 v1 S w)
-- ==== X10_standsAt
theorem hy_X10_standsAt : yX10_standsAt.cls ≠ "java/lang/invoke/MethodHandle" ∧ yX10_standsAt.cls ≠ "java/lang/invoke/VarHandle" ∧ (parseMethodDescriptor yX10_standsAt.desc).map (fun d => d.parameters.length) = some 3 := by decide +kernel
set_option maxRecDepth 20000 in
def f_X10_standsAt (v0 : Nat) (v1 : Int32) (v2 : Int32) (v3 : Int32) (S : St) : Option (Int32 × St) := bd (f_X10_looks v0 S) fun _ S1 => (ix (((6 : Int32) * (S1.1 v0 18)) + v1) 12).bind fun j3 => (ix (4 : Int32) 9).bind fun j4 => nm (sI S1 (S1.2.2 v0 48) j4 (S1.1 (S1.2.2 v0 28) j3)) fun S5 => (ix (5 : Int32) 9).bind fun j6 => nm (sI S5 (S5.2.2 v0 48) j6 v2) fun S7 => (ix (6 : Int32) 9).bind fun j8 => nm (sI S7 (S7.2.2 v0 48) j8 v3) fun S9 => bd (f_X10_wearsOf v0 v1 S9) fun r11 S10 => (ix (8 : Int32) 9).bind fun j12 => nm (sI S10 (S9.2.2 v0 48) j12 r11) fun S13 => (ix (4 : Int32) 9).bind fun j14 => bd (f_X10_lawTells v0 (1 : Int32) (S13.1 (S13.2.2 v0 48) j14) S13) fun r16 S15 => bd (f_X10_within r16 (0 : Int32) (999 : Int32) S15) fun r18 S17 => some (r18, S17)
set_option maxRecDepth 20000 in
theorem t_X10_standsAt_0 {K : KK} (X : CX K cX10_standsAt 4 RX10 (some .int)) (hR : kR K = rmD 2) (v0 : Nat) (kv0 : KA (kDn K) v0 (0, 10)) (v1 : Int32) (v2 : Int32) (v3 : Int32) (S : St) (w : WT (kDn K) S.2.2) : JX K (Zm K (fun v : Int32 => some (.int v))) 0 [some (.ref v0), some (.int v1), some (.int v2), some (.int v3)] [] (rwN (kN K) S) (kn K) 0 0 (f_X10_standsAt v0 v1 v2 v3 S) := by
  unfold f_X10_standsAt
  refine J_aload_n X dX10_standsAt_0 (i := 0) rfl rfl ?_
  refine T_callV (As := []) w X (C_X10_looks (kG K) v0 kv0 S) cb10 kv0 ml_X10_363 in_yX10_looks se_yX10_looks ii_RX10 co_yX10_looks hy_X10_looks (hRd hR (by decide) (by decide)) rfl (Nat.le_of_ble_eq_true rfl) dX10_standsAt_1 (fun _ S1 _ wS1 => ?_)
  refine J_aload_n X dX10_standsAt_4 (i := 0) rfl rfl ?_
  refine T_getR X (kf := 48) cb10 kv0 (by decide) fl_X10_113 (fun _ _ _ => rfl) dX10_standsAt_5 ?_
  refine J_iconst X (v := (4 : Int32)) dX10_standsAt_8 (by decide) ?_
  refine J_aload_n X dX10_standsAt_9 (i := 0) rfl rfl ?_
  refine T_getR X (kf := 28) cb10 kv0 (by decide) fl_X10_61 (fun _ _ _ => rfl) dX10_standsAt_10 ?_
  refine J_bipush X (v := (6 : Int32)) dX10_standsAt_13 (by decide) ?_
  refine J_aload_n X dX10_standsAt_15 (i := 0) rfl rfl ?_
  refine T_getI X (kf := 18) cb10 kv0 (by decide) fl_X10_239 (fun _ _ _ => rfl) dX10_standsAt_16 ?_
  refine J_imul X dX10_standsAt_19 ?_
  refine J_iload_n X dX10_standsAt_20 (i := 1) rfl rfl ?_
  refine J_iadd X dX10_standsAt_21 ?_
  refine T_iald X (wS1.1 _ _ kv0 28 _ rfl) dX10_standsAt_22 (fun j3 => ?_)
  refine T_iast X (wS1.1 _ _ kv0 48 _ rfl) dX10_standsAt_23 (fun j4 S5 hS5 => ?_)
  have wS5 : WT (kDn K) S5.2.2 := by rw [hS5]; exact wS1
  clear hS5
  refine J_aload_n X dX10_standsAt_24 (i := 0) rfl rfl ?_
  refine T_getR X (kf := 48) cb10 kv0 (by decide) fl_X10_113 (fun _ _ _ => rfl) dX10_standsAt_25 ?_
  refine J_iconst X (v := (5 : Int32)) dX10_standsAt_28 (by decide) ?_
  refine J_iload_n X dX10_standsAt_29 (i := 2) rfl rfl ?_
  refine T_iast X (wS5.1 _ _ kv0 48 _ rfl) dX10_standsAt_30 (fun j6 S7 hS7 => ?_)
  have wS7 : WT (kDn K) S7.2.2 := by rw [hS7]; exact wS5
  clear hS7
  refine J_aload_n X dX10_standsAt_31 (i := 0) rfl rfl ?_
  refine T_getR X (kf := 48) cb10 kv0 (by decide) fl_X10_113 (fun _ _ _ => rfl) dX10_standsAt_32 ?_
  refine J_bipush X (v := (6 : Int32)) dX10_standsAt_35 (by decide) ?_
  refine J_iload_n X dX10_standsAt_37 (i := 3) rfl rfl ?_
  refine T_iast X (wS7.1 _ _ kv0 48 _ rfl) dX10_standsAt_38 (fun j8 S9 hS9 => ?_)
  have wS9 : WT (kDn K) S9.2.2 := by rw [hS9]; exact wS7
  clear hS9
  refine J_aload_n X dX10_standsAt_39 (i := 0) rfl rfl ?_
  refine T_getR X (kf := 48) cb10 kv0 (by decide) fl_X10_113 (fun _ _ _ => rfl) dX10_standsAt_40 ?_
  refine J_bipush X (v := (8 : Int32)) dX10_standsAt_43 (by decide) ?_
  refine J_aload_n X dX10_standsAt_45 (i := 0) rfl rfl ?_
  refine J_iload_n X dX10_standsAt_46 (i := 1) rfl rfl ?_
  refine T_callV (As := [.int v1]) wS9 X (C_X10_wearsOf (kG K) v0 kv0 v1 S9) cb10 kv0 ml_X10_385 in_yX10_wearsOf se_yX10_wearsOf ii_RX10 co_yX10_wearsOf hy_X10_wearsOf (hRd hR (by decide) (by decide)) rfl (Nat.le_of_ble_eq_true rfl) dX10_standsAt_47 (fun r11 S10 _ wS10 => ?_)
  refine T_iast X (wS9.1 _ _ kv0 48 _ rfl) dX10_standsAt_50 (fun j12 S13 hS13 => ?_)
  have wS13 : WT (kDn K) S13.2.2 := by rw [hS13]; exact wS10
  clear hS13
  refine J_aload_n X dX10_standsAt_51 (i := 0) rfl rfl ?_
  refine J_iconst X (v := (1 : Int32)) dX10_standsAt_52 (by decide) ?_
  refine J_aload_n X dX10_standsAt_53 (i := 0) rfl rfl ?_
  refine T_getR X (kf := 48) cb10 kv0 (by decide) fl_X10_113 (fun _ _ _ => rfl) dX10_standsAt_54 ?_
  refine J_iconst X (v := (4 : Int32)) dX10_standsAt_57 (by decide) ?_
  refine T_iald X (wS13.1 _ _ kv0 48 _ rfl) dX10_standsAt_58 (fun j14 => ?_)
  refine T_callV (As := [.int (1 : Int32), .int (S13.1 (S13.2.2 v0 48) j14)]) wS13 X (C_X10_lawTells (kG K) v0 kv0 (1 : Int32) (S13.1 (S13.2.2 v0 48) j14) S13) cb10 kv0 ml_X10_366 in_yX10_lawTells se_yX10_lawTells ii_RX10 co_yX10_lawTells hy_X10_lawTells (hRd hR (by decide) (by decide)) rfl (Nat.le_of_ble_eq_true rfl) dX10_standsAt_59 (fun r16 S15 _ wS15 => ?_)
  refine J_iconst X (v := (0 : Int32)) dX10_standsAt_62 (by decide) ?_
  refine J_sipush X (v := (999 : Int32)) dX10_standsAt_63 (by decide) ?_
  refine T_callS (As := [.int r16, .int (0 : Int32), .int (999 : Int32)]) wS15 X (C_X10_within (kG K) r16 (0 : Int32) (999 : Int32) S15) ml_X10_369 st_yX10_within ii_RX10 co_yX10_within hy_X10_within (hRd hR (by decide) (by decide)) rfl (Nat.le_of_ble_eq_true rfl) dX10_standsAt_66 (fun r18 S17 _ wS17 => ?_)
  exact T_iret wS17 X dX10_standsAt_69
theorem C_X10_standsAt (G : GG) (v0 : Nat) (kv0 : KA (gD G) v0 (0, 10)) (v1 : Int32) (v2 : Int32) (v3 : Int32) (S : St) : CM G yX10_standsAt cX10_standsAt 4 (some .int) 2 [.ref v0, .int v1, .int v2, .int v3] S (fun v : Int32 => some (.int v)) (f_X10_standsAt v0 v1 v2 v3 S) :=
  CM_of (by decide) (Nat.le_of_ble_eq_true rfl) rfl (fun K hG X hR w => by subst hG; exact t_X10_standsAt_0 X hR v0 kv0 v1 v2 v3 S w)
-- ==== X10_stormOf
theorem hy_X10_stormOf : yX10_stormOf.cls ≠ "java/lang/invoke/MethodHandle" ∧ yX10_stormOf.cls ≠ "java/lang/invoke/VarHandle" ∧ (parseMethodDescriptor yX10_stormOf.desc).map (fun d => d.parameters.length) = some 1 := by decide +kernel
set_option maxRecDepth 20000 in
def f_X10_stormOf (v0 : Nat) (v1 : Int32) (S : St) : Option (Int32 × St) := bd (f_X10_looks v0 S) fun _ S1 => (ix (((6 : Int32) * (S1.1 v0 18)) + v1) 12).bind fun j3 => (ix (4 : Int32) 9).bind fun j4 => nm (sI S1 (S1.2.2 v0 48) j4 (S1.1 (S1.2.2 v0 28) j3)) fun S5 => (ix ((20 : Int32) + v1) 55).bind fun j6 => (ix (5 : Int32) 9).bind fun j7 => nm (sI S5 (S5.2.2 v0 48) j7 (S5.1 (S5.2.2 v0 52) j6)) fun S8 => (ix ((26 : Int32) + v1) 55).bind fun j9 => (ix (6 : Int32) 9).bind fun j10 => nm (sI S8 (S8.2.2 v0 48) j10 (S8.1 (S8.2.2 v0 52) j9)) fun S11 => bd (f_X10_wearsOf v0 v1 S11) fun r13 S12 => (ix (8 : Int32) 9).bind fun j14 => nm (sI S12 (S11.2.2 v0 48) j14 r13) fun S15 => bd (f_X10_lawTells v0 (3 : Int32) (0 : Int32) S15) fun r17 S16 => bd (f_X10_within r17 (0 : Int32) (100 : Int32) S16) fun r19 S18 => some (r19, S18)
set_option maxRecDepth 20000 in
theorem t_X10_stormOf_0 {K : KK} (X : CX K cX10_stormOf 2 RX10 (some .int)) (hR : kR K = rmD 2) (v0 : Nat) (kv0 : KA (kDn K) v0 (0, 10)) (v1 : Int32) (S : St) (w : WT (kDn K) S.2.2) : JX K (Zm K (fun v : Int32 => some (.int v))) 0 [some (.ref v0), some (.int v1)] [] (rwN (kN K) S) (kn K) 0 0 (f_X10_stormOf v0 v1 S) := by
  unfold f_X10_stormOf
  refine J_aload_n X dX10_stormOf_0 (i := 0) rfl rfl ?_
  refine T_callV (As := []) w X (C_X10_looks (kG K) v0 kv0 S) cb10 kv0 ml_X10_363 in_yX10_looks se_yX10_looks ii_RX10 co_yX10_looks hy_X10_looks (hRd hR (by decide) (by decide)) rfl (Nat.le_of_ble_eq_true rfl) dX10_stormOf_1 (fun _ S1 _ wS1 => ?_)
  refine J_aload_n X dX10_stormOf_4 (i := 0) rfl rfl ?_
  refine T_getR X (kf := 48) cb10 kv0 (by decide) fl_X10_113 (fun _ _ _ => rfl) dX10_stormOf_5 ?_
  refine J_iconst X (v := (4 : Int32)) dX10_stormOf_8 (by decide) ?_
  refine J_aload_n X dX10_stormOf_9 (i := 0) rfl rfl ?_
  refine T_getR X (kf := 28) cb10 kv0 (by decide) fl_X10_61 (fun _ _ _ => rfl) dX10_stormOf_10 ?_
  refine J_bipush X (v := (6 : Int32)) dX10_stormOf_13 (by decide) ?_
  refine J_aload_n X dX10_stormOf_15 (i := 0) rfl rfl ?_
  refine T_getI X (kf := 18) cb10 kv0 (by decide) fl_X10_239 (fun _ _ _ => rfl) dX10_stormOf_16 ?_
  refine J_imul X dX10_stormOf_19 ?_
  refine J_iload_n X dX10_stormOf_20 (i := 1) rfl rfl ?_
  refine J_iadd X dX10_stormOf_21 ?_
  refine T_iald X (wS1.1 _ _ kv0 28 _ rfl) dX10_stormOf_22 (fun j3 => ?_)
  refine T_iast X (wS1.1 _ _ kv0 48 _ rfl) dX10_stormOf_23 (fun j4 S5 hS5 => ?_)
  have wS5 : WT (kDn K) S5.2.2 := by rw [hS5]; exact wS1
  clear hS5
  refine J_aload_n X dX10_stormOf_24 (i := 0) rfl rfl ?_
  refine T_getR X (kf := 48) cb10 kv0 (by decide) fl_X10_113 (fun _ _ _ => rfl) dX10_stormOf_25 ?_
  refine J_iconst X (v := (5 : Int32)) dX10_stormOf_28 (by decide) ?_
  refine J_aload_n X dX10_stormOf_29 (i := 0) rfl rfl ?_
  refine T_getR X (kf := 52) cb10 kv0 (by decide) fl_X10_122 (fun _ _ _ => rfl) dX10_stormOf_30 ?_
  refine J_bipush X (v := (20 : Int32)) dX10_stormOf_33 (by decide) ?_
  refine J_iload_n X dX10_stormOf_35 (i := 1) rfl rfl ?_
  refine J_iadd X dX10_stormOf_36 ?_
  refine T_iald X (wS5.1 _ _ kv0 52 _ rfl) dX10_stormOf_37 (fun j6 => ?_)
  refine T_iast X (wS5.1 _ _ kv0 48 _ rfl) dX10_stormOf_38 (fun j7 S8 hS8 => ?_)
  have wS8 : WT (kDn K) S8.2.2 := by rw [hS8]; exact wS5
  clear hS8
  refine J_aload_n X dX10_stormOf_39 (i := 0) rfl rfl ?_
  refine T_getR X (kf := 48) cb10 kv0 (by decide) fl_X10_113 (fun _ _ _ => rfl) dX10_stormOf_40 ?_
  refine J_bipush X (v := (6 : Int32)) dX10_stormOf_43 (by decide) ?_
  refine J_aload_n X dX10_stormOf_45 (i := 0) rfl rfl ?_
  refine T_getR X (kf := 52) cb10 kv0 (by decide) fl_X10_122 (fun _ _ _ => rfl) dX10_stormOf_46 ?_
  refine J_bipush X (v := (26 : Int32)) dX10_stormOf_49 (by decide) ?_
  refine J_iload_n X dX10_stormOf_51 (i := 1) rfl rfl ?_
  refine J_iadd X dX10_stormOf_52 ?_
  refine T_iald X (wS8.1 _ _ kv0 52 _ rfl) dX10_stormOf_53 (fun j9 => ?_)
  refine T_iast X (wS8.1 _ _ kv0 48 _ rfl) dX10_stormOf_54 (fun j10 S11 hS11 => ?_)
  have wS11 : WT (kDn K) S11.2.2 := by rw [hS11]; exact wS8
  clear hS11
  refine J_aload_n X dX10_stormOf_55 (i := 0) rfl rfl ?_
  refine T_getR X (kf := 48) cb10 kv0 (by decide) fl_X10_113 (fun _ _ _ => rfl) dX10_stormOf_56 ?_
  refine J_bipush X (v := (8 : Int32)) dX10_stormOf_59 (by decide) ?_
  refine J_aload_n X dX10_stormOf_61 (i := 0) rfl rfl ?_
  refine J_iload_n X dX10_stormOf_62 (i := 1) rfl rfl ?_
  refine T_callV (As := [.int v1]) wS11 X (C_X10_wearsOf (kG K) v0 kv0 v1 S11) cb10 kv0 ml_X10_385 in_yX10_wearsOf se_yX10_wearsOf ii_RX10 co_yX10_wearsOf hy_X10_wearsOf (hRd hR (by decide) (by decide)) rfl (Nat.le_of_ble_eq_true rfl) dX10_stormOf_63 (fun r13 S12 _ wS12 => ?_)
  refine T_iast X (wS11.1 _ _ kv0 48 _ rfl) dX10_stormOf_66 (fun j14 S15 hS15 => ?_)
  have wS15 : WT (kDn K) S15.2.2 := by rw [hS15]; exact wS12
  clear hS15
  refine J_aload_n X dX10_stormOf_67 (i := 0) rfl rfl ?_
  refine J_iconst X (v := (3 : Int32)) dX10_stormOf_68 (by decide) ?_
  refine J_iconst X (v := (0 : Int32)) dX10_stormOf_69 (by decide) ?_
  refine T_callV (As := [.int (3 : Int32), .int (0 : Int32)]) wS15 X (C_X10_lawTells (kG K) v0 kv0 (3 : Int32) (0 : Int32) S15) cb10 kv0 ml_X10_366 in_yX10_lawTells se_yX10_lawTells ii_RX10 co_yX10_lawTells hy_X10_lawTells (hRd hR (by decide) (by decide)) rfl (Nat.le_of_ble_eq_true rfl) dX10_stormOf_70 (fun r17 S16 _ wS16 => ?_)
  refine J_iconst X (v := (0 : Int32)) dX10_stormOf_73 (by decide) ?_
  refine J_bipush X (v := (100 : Int32)) dX10_stormOf_74 (by decide) ?_
  refine T_callS (As := [.int r17, .int (0 : Int32), .int (100 : Int32)]) wS16 X (C_X10_within (kG K) r17 (0 : Int32) (100 : Int32) S16) ml_X10_369 st_yX10_within ii_RX10 co_yX10_within hy_X10_within (hRd hR (by decide) (by decide)) rfl (Nat.le_of_ble_eq_true rfl) dX10_stormOf_76 (fun r19 S18 _ wS18 => ?_)
  exact T_iret wS18 X dX10_stormOf_79
theorem C_X10_stormOf (G : GG) (v0 : Nat) (kv0 : KA (gD G) v0 (0, 10)) (v1 : Int32) (S : St) : CM G yX10_stormOf cX10_stormOf 2 (some .int) 2 [.ref v0, .int v1] S (fun v : Int32 => some (.int v)) (f_X10_stormOf v0 v1 S) :=
  CM_of (by decide) (Nat.le_of_ble_eq_true rfl) rfl (fun K hG X hR w => by subst hG; exact t_X10_stormOf_0 X hR v0 kv0 v1 S w)
-- ==== X10_priceOf
theorem hy_X10_priceOf : yX10_priceOf.cls ≠ "java/lang/invoke/MethodHandle" ∧ yX10_priceOf.cls ≠ "java/lang/invoke/VarHandle" ∧ (parseMethodDescriptor yX10_priceOf.desc).map (fun d => d.parameters.length) = some 1 := by decide +kernel
set_option maxRecDepth 20000 in
def f_X10_priceOf (v0 : Nat) (v1 : Int32) (S : St) : Option (Int32 × St) := (ix ((38 : Int32) + v1) 55).bind fun j1 => nm (S.1 (S.2.2 v0 52) j1) fun x2 => bd (f_X10_looks v0 S) fun _ S3 => (ix (((8 : Int32) * (S3.1 v0 18)) + v1) 16).bind fun j5 => (ix (0 : Int32) 9).bind fun j6 => nm (sI S3 (S3.2.2 v0 48) j6 (S3.1 (S3.2.2 v0 32) j5)) fun S7 => bd (f_X10_whose v0 v1 S7) fun r9 S8 => (ix ((20 : Int32) + x2) 55).bind fun j10 => (ix ((26 : Int32) + x2) 55).bind fun j11 => bd (f_X10_farFrom v0 r9 (S8.1 (S8.2.2 v0 52) j10) (S8.1 (S8.2.2 v0 52) j11) S8) fun r13 S12 => (ix (1 : Int32) 9).bind fun j14 => nm (sI S12 (S7.2.2 v0 48) j14 r13) fun S15 => (ix (7 : Int32) 9).bind fun j16 => nm (sI S15 (S15.2.2 v0 48) j16 v1) fun S17 => bd (f_X10_wearsOf v0 x2 S17) fun r19 S18 => (ix (8 : Int32) 9).bind fun j20 => nm (sI S18 (S17.2.2 v0 48) j20 r19) fun S21 => (ix (0 : Int32) 9).bind fun j22 => bd (f_X10_lawTells v0 (2 : Int32) (S21.1 (S21.2.2 v0 48) j22) S21) fun r24 S23 => bd (f_X10_within r24 (0 : Int32) (999 : Int32) S23) fun r26 S25 => some (r26, S25)
set_option maxRecDepth 20000 in
theorem t_X10_priceOf_0 {K : KK} (X : CX K cX10_priceOf 3 RX10 (some .int)) (hR : kR K = rmD 2) (v0 : Nat) (kv0 : KA (kDn K) v0 (0, 10)) (v1 : Int32) (S : St) (w : WT (kDn K) S.2.2) : JX K (Zm K (fun v : Int32 => some (.int v))) 0 [some (.ref v0), some (.int v1), none] [] (rwN (kN K) S) (kn K) 0 0 (f_X10_priceOf v0 v1 S) := by
  unfold f_X10_priceOf
  refine J_aload_n X dX10_priceOf_0 (i := 0) rfl rfl ?_
  refine T_getR X (kf := 52) cb10 kv0 (by decide) fl_X10_122 (fun _ _ _ => rfl) dX10_priceOf_1 ?_
  refine J_bipush X (v := (38 : Int32)) dX10_priceOf_4 (by decide) ?_
  refine J_iload_n X dX10_priceOf_6 (i := 1) rfl rfl ?_
  refine J_iadd X dX10_priceOf_7 ?_
  refine T_iald X (w.1 _ _ kv0 52 _ rfl) dX10_priceOf_8 (fun j1 => ?_)
  refine J_nmi (fun x2 => ?_)
  refine J_istore_n X (i := 2) (ls' := [some (.ref v0), some (.int v1), some (.int x2)]) dX10_priceOf_9 rfl (by decide) rfl ?_
  refine J_aload_n X dX10_priceOf_10 (i := 0) rfl rfl ?_
  refine T_callV (As := []) w X (C_X10_looks (kG K) v0 kv0 S) cb10 kv0 ml_X10_363 in_yX10_looks se_yX10_looks ii_RX10 co_yX10_looks hy_X10_looks (hRd hR (by decide) (by decide)) rfl (Nat.le_of_ble_eq_true rfl) dX10_priceOf_11 (fun _ S3 _ wS3 => ?_)
  refine J_aload_n X dX10_priceOf_14 (i := 0) rfl rfl ?_
  refine T_getR X (kf := 48) cb10 kv0 (by decide) fl_X10_113 (fun _ _ _ => rfl) dX10_priceOf_15 ?_
  refine J_iconst X (v := (0 : Int32)) dX10_priceOf_18 (by decide) ?_
  refine J_aload_n X dX10_priceOf_19 (i := 0) rfl rfl ?_
  refine T_getR X (kf := 32) cb10 kv0 (by decide) fl_X10_73 (fun _ _ _ => rfl) dX10_priceOf_20 ?_
  refine J_bipush X (v := (8 : Int32)) dX10_priceOf_23 (by decide) ?_
  refine J_aload_n X dX10_priceOf_25 (i := 0) rfl rfl ?_
  refine T_getI X (kf := 18) cb10 kv0 (by decide) fl_X10_239 (fun _ _ _ => rfl) dX10_priceOf_26 ?_
  refine J_imul X dX10_priceOf_29 ?_
  refine J_iload_n X dX10_priceOf_30 (i := 1) rfl rfl ?_
  refine J_iadd X dX10_priceOf_31 ?_
  refine T_iald X (wS3.1 _ _ kv0 32 _ rfl) dX10_priceOf_32 (fun j5 => ?_)
  refine T_iast X (wS3.1 _ _ kv0 48 _ rfl) dX10_priceOf_33 (fun j6 S7 hS7 => ?_)
  have wS7 : WT (kDn K) S7.2.2 := by rw [hS7]; exact wS3
  clear hS7
  refine J_aload_n X dX10_priceOf_34 (i := 0) rfl rfl ?_
  refine T_getR X (kf := 48) cb10 kv0 (by decide) fl_X10_113 (fun _ _ _ => rfl) dX10_priceOf_35 ?_
  refine J_iconst X (v := (1 : Int32)) dX10_priceOf_38 (by decide) ?_
  refine J_aload_n X dX10_priceOf_39 (i := 0) rfl rfl ?_
  refine J_aload_n X dX10_priceOf_40 (i := 0) rfl rfl ?_
  refine J_iload_n X dX10_priceOf_41 (i := 1) rfl rfl ?_
  refine T_callV (As := [.int v1]) wS7 X (C_X10_whose (kG K) v0 kv0 v1 S7) cb10 kv0 ml_X10_354 in_yX10_whose se_yX10_whose ii_RX10 co_yX10_whose hy_X10_whose (hRd hR (by decide) (by decide)) rfl (Nat.le_of_ble_eq_true rfl) dX10_priceOf_42 (fun r9 S8 _ wS8 => ?_)
  refine J_aload_n X dX10_priceOf_45 (i := 0) rfl rfl ?_
  refine T_getR X (kf := 52) cb10 kv0 (by decide) fl_X10_122 (fun _ _ _ => rfl) dX10_priceOf_46 ?_
  refine J_bipush X (v := (20 : Int32)) dX10_priceOf_49 (by decide) ?_
  refine J_iload_n X dX10_priceOf_51 (i := 2) rfl rfl ?_
  refine J_iadd X dX10_priceOf_52 ?_
  refine T_iald X (wS8.1 _ _ kv0 52 _ rfl) dX10_priceOf_53 (fun j10 => ?_)
  refine J_aload_n X dX10_priceOf_54 (i := 0) rfl rfl ?_
  refine T_getR X (kf := 52) cb10 kv0 (by decide) fl_X10_122 (fun _ _ _ => rfl) dX10_priceOf_55 ?_
  refine J_bipush X (v := (26 : Int32)) dX10_priceOf_58 (by decide) ?_
  refine J_iload_n X dX10_priceOf_60 (i := 2) rfl rfl ?_
  refine J_iadd X dX10_priceOf_61 ?_
  refine T_iald X (wS8.1 _ _ kv0 52 _ rfl) dX10_priceOf_62 (fun j11 => ?_)
  refine T_callV (As := [.int r9, .int (S8.1 (S8.2.2 v0 52) j10), .int (S8.1 (S8.2.2 v0 52) j11)]) wS8 X (C_X10_farFrom (kG K) v0 kv0 r9 (S8.1 (S8.2.2 v0 52) j10) (S8.1 (S8.2.2 v0 52) j11) S8) cb10 kv0 ml_X10_357 in_yX10_farFrom se_yX10_farFrom ii_RX10 co_yX10_farFrom hy_X10_farFrom (hRd hR (by decide) (by decide)) rfl (Nat.le_of_ble_eq_true rfl) dX10_priceOf_63 (fun r13 S12 _ wS12 => ?_)
  refine T_iast X (wS7.1 _ _ kv0 48 _ rfl) dX10_priceOf_66 (fun j14 S15 hS15 => ?_)
  have wS15 : WT (kDn K) S15.2.2 := by rw [hS15]; exact wS12
  clear hS15
  refine J_aload_n X dX10_priceOf_67 (i := 0) rfl rfl ?_
  refine T_getR X (kf := 48) cb10 kv0 (by decide) fl_X10_113 (fun _ _ _ => rfl) dX10_priceOf_68 ?_
  refine J_bipush X (v := (7 : Int32)) dX10_priceOf_71 (by decide) ?_
  refine J_iload_n X dX10_priceOf_73 (i := 1) rfl rfl ?_
  refine T_iast X (wS15.1 _ _ kv0 48 _ rfl) dX10_priceOf_74 (fun j16 S17 hS17 => ?_)
  have wS17 : WT (kDn K) S17.2.2 := by rw [hS17]; exact wS15
  clear hS17
  refine J_aload_n X dX10_priceOf_75 (i := 0) rfl rfl ?_
  refine T_getR X (kf := 48) cb10 kv0 (by decide) fl_X10_113 (fun _ _ _ => rfl) dX10_priceOf_76 ?_
  refine J_bipush X (v := (8 : Int32)) dX10_priceOf_79 (by decide) ?_
  refine J_aload_n X dX10_priceOf_81 (i := 0) rfl rfl ?_
  refine J_iload_n X dX10_priceOf_82 (i := 2) rfl rfl ?_
  refine T_callV (As := [.int x2]) wS17 X (C_X10_wearsOf (kG K) v0 kv0 x2 S17) cb10 kv0 ml_X10_385 in_yX10_wearsOf se_yX10_wearsOf ii_RX10 co_yX10_wearsOf hy_X10_wearsOf (hRd hR (by decide) (by decide)) rfl (Nat.le_of_ble_eq_true rfl) dX10_priceOf_83 (fun r19 S18 _ wS18 => ?_)
  refine T_iast X (wS17.1 _ _ kv0 48 _ rfl) dX10_priceOf_86 (fun j20 S21 hS21 => ?_)
  have wS21 : WT (kDn K) S21.2.2 := by rw [hS21]; exact wS18
  clear hS21
  refine J_aload_n X dX10_priceOf_87 (i := 0) rfl rfl ?_
  refine J_iconst X (v := (2 : Int32)) dX10_priceOf_88 (by decide) ?_
  refine J_aload_n X dX10_priceOf_89 (i := 0) rfl rfl ?_
  refine T_getR X (kf := 48) cb10 kv0 (by decide) fl_X10_113 (fun _ _ _ => rfl) dX10_priceOf_90 ?_
  refine J_iconst X (v := (0 : Int32)) dX10_priceOf_93 (by decide) ?_
  refine T_iald X (wS21.1 _ _ kv0 48 _ rfl) dX10_priceOf_94 (fun j22 => ?_)
  refine T_callV (As := [.int (2 : Int32), .int (S21.1 (S21.2.2 v0 48) j22)]) wS21 X (C_X10_lawTells (kG K) v0 kv0 (2 : Int32) (S21.1 (S21.2.2 v0 48) j22) S21) cb10 kv0 ml_X10_366 in_yX10_lawTells se_yX10_lawTells ii_RX10 co_yX10_lawTells hy_X10_lawTells (hRd hR (by decide) (by decide)) rfl (Nat.le_of_ble_eq_true rfl) dX10_priceOf_95 (fun r24 S23 _ wS23 => ?_)
  refine J_iconst X (v := (0 : Int32)) dX10_priceOf_98 (by decide) ?_
  refine J_sipush X (v := (999 : Int32)) dX10_priceOf_99 (by decide) ?_
  refine T_callS (As := [.int r24, .int (0 : Int32), .int (999 : Int32)]) wS23 X (C_X10_within (kG K) r24 (0 : Int32) (999 : Int32) S23) ml_X10_369 st_yX10_within ii_RX10 co_yX10_within hy_X10_within (hRd hR (by decide) (by decide)) rfl (Nat.le_of_ble_eq_true rfl) dX10_priceOf_102 (fun r26 S25 _ wS25 => ?_)
  exact T_iret wS25 X dX10_priceOf_105
theorem C_X10_priceOf (G : GG) (v0 : Nat) (kv0 : KA (gD G) v0 (0, 10)) (v1 : Int32) (S : St) : CM G yX10_priceOf cX10_priceOf 3 (some .int) 2 [.ref v0, .int v1] S (fun v : Int32 => some (.int v)) (f_X10_priceOf v0 v1 S) :=
  CM_of (by decide) (Nat.le_of_ble_eq_true rfl) rfl (fun K hG X hR w => by subst hG; exact t_X10_priceOf_0 X hR v0 kv0 v1 S w)
-- ==== X10_movesAt
theorem hy_X10_movesAt : yX10_movesAt.cls ≠ "java/lang/invoke/MethodHandle" ∧ yX10_movesAt.cls ≠ "java/lang/invoke/VarHandle" ∧ (parseMethodDescriptor yX10_movesAt.desc).map (fun d => d.parameters.length) = some 3 := by decide +kernel
set_option maxRecDepth 20000 in
def b_X10_movesAt_49 (v0 : Nat) (v4 : Int32) (s0 : Int32) (S : St) : Option (Int32 × St) := bd (f_X10_off (S.1 v0 56) (0 : Int32) S) fun r2 S1 => if r2 ≤ v4 then (some (s0 + (0 : Int32), S1)) else (some (s0 + (2 : Int32), S1))
set_option maxRecDepth 20000 in
theorem t_X10_movesAt_49 {K : KK} (X : CX K cX10_movesAt 5 RX10 (some .int)) (hR : kR K = rmD 4) (v0 : Nat) (kv0 : KA (kDn K) v0 (0, 10)) (v4 : Int32) (s0 : Int32) (S : St) (w : WT (kDn K) S.2.2) : JX K (Zm K (fun v : Int32 => some (.int v))) 49 [some (.ref v0), none, none, none, some (.int v4)] [.int s0] (rwN (kN K) S) (kn K) 0 0 (b_X10_movesAt_49 v0 v4 s0 S) := by
  unfold b_X10_movesAt_49
  refine J_aload_n X dX10_movesAt_49 (i := 0) rfl rfl ?_
  refine T_getI X (kf := 56) cb10 kv0 (by decide) fl_X10_375 (fun _ _ _ => rfl) dX10_movesAt_50 ?_
  refine J_iconst X (v := (0 : Int32)) dX10_movesAt_53 (by decide) ?_
  refine T_callS (As := [.int (S.1 v0 56), .int (0 : Int32)]) w X (C_X10_off (kG K) (S.1 v0 56) (0 : Int32) S) ml_X10_348 st_yX10_off ii_RX10 co_yX10_off hy_X10_off (hRd hR (by decide) (by decide)) rfl (Nat.le_of_ble_eq_true rfl) dX10_movesAt_54 (fun r2 S1 _ wS1 => ?_)
  refine J_iload X dX10_movesAt_57 rfl ?_
  refine J_icmp_le X (tgt := 66) dX10_movesAt_59 (by decide) ?_ ?_
  · refine J_iconst X (v := (0 : Int32)) dX10_movesAt_66 (by decide) ?_
    refine J_iadd X dX10_movesAt_67 ?_
    exact T_iret wS1 X dX10_movesAt_68
  · refine J_iconst X (v := (2 : Int32)) dX10_movesAt_62 (by decide) ?_
    refine J_goto X (tgt := 67) dX10_movesAt_63 (by decide) ?_
    refine J_iadd X dX10_movesAt_67 ?_
    exact T_iret wS1 X dX10_movesAt_68
set_option maxRecDepth 20000 in
def f_X10_movesAt (v0 : Nat) (v1 : Int32) (v2 : Int32) (v3 : Int32) (S : St) : Option (Int32 × St) := bd (f_X10_isOff v0 v1 S) fun r2 S1 => if r2 = 0 then (bd (f_X10_wornBits v0 v1 S1) fun r4 S3 => bd (f_X10_pullsBy v0 r4 v1 v2 v3 S3) fun _ S5 => bd (f_X10_standsAt v0 v1 v2 v3 S5) fun r8 S7 => bd (f_X10_off (S7.1 v0 55) (0 : Int32) S7) fun r10 S9 => if r10 ≤ r8 then (b_X10_movesAt_49 v0 r8 (0 : Int32) S9) else (b_X10_movesAt_49 v0 r8 (1 : Int32) S9)) else (some ((0 : Int32), S1))
set_option maxRecDepth 20000 in
theorem t_X10_movesAt_0 {K : KK} (X : CX K cX10_movesAt 5 RX10 (some .int)) (hR : kR K = rmD 4) (v0 : Nat) (kv0 : KA (kDn K) v0 (0, 10)) (v1 : Int32) (v2 : Int32) (v3 : Int32) (S : St) (w : WT (kDn K) S.2.2) : JX K (Zm K (fun v : Int32 => some (.int v))) 0 [some (.ref v0), some (.int v1), some (.int v2), some (.int v3), none] [] (rwN (kN K) S) (kn K) 0 0 (f_X10_movesAt v0 v1 v2 v3 S) := by
  unfold f_X10_movesAt
  refine J_aload_n X dX10_movesAt_0 (i := 0) rfl rfl ?_
  refine J_iload_n X dX10_movesAt_1 (i := 1) rfl rfl ?_
  refine T_callV (As := [.int v1]) w X (C_X10_isOff (kG K) v0 kv0 v1 S) cb10 kv0 ml_X10_360 in_yX10_isOff se_yX10_isOff ii_RX10 co_yX10_isOff hy_X10_isOff (hRd hR (by decide) (by decide)) rfl (Nat.le_of_ble_eq_true rfl) dX10_movesAt_2 (fun r2 S1 _ wS1 => ?_)
  refine J_if_eq X (tgt := 10) dX10_movesAt_5 (by decide) ?_ ?_
  · refine J_aload_n X dX10_movesAt_10 (i := 0) rfl rfl ?_
    refine J_aload_n X dX10_movesAt_11 (i := 0) rfl rfl ?_
    refine J_iload_n X dX10_movesAt_12 (i := 1) rfl rfl ?_
    refine T_callV (As := [.int v1]) wS1 X (C_X10_wornBits (kG K) v0 kv0 v1 S1) cb10 kv0 ml_X10_388 in_yX10_wornBits se_yX10_wornBits ii_RX10 co_yX10_wornBits hy_X10_wornBits (hRd hR (by decide) (by decide)) rfl (Nat.le_of_ble_eq_true rfl) dX10_movesAt_13 (fun r4 S3 _ wS3 => ?_)
    refine J_iload_n X dX10_movesAt_16 (i := 1) rfl rfl ?_
    refine J_iload_n X dX10_movesAt_17 (i := 2) rfl rfl ?_
    refine J_iload_n X dX10_movesAt_18 (i := 3) rfl rfl ?_
    refine T_callV (As := [.int r4, .int v1, .int v2, .int v3]) wS3 X (C_X10_pullsBy (kG K) v0 kv0 r4 v1 v2 v3 S3) cb10 kv0 ml_X10_391 in_yX10_pullsBy se_yX10_pullsBy ii_RX10 co_yX10_pullsBy hy_X10_pullsBy (hRd hR (by decide) (by decide)) rfl (Nat.le_of_ble_eq_true rfl) dX10_movesAt_19 (fun _ S5 _ wS5 => ?_)
    refine J_aload_n X dX10_movesAt_22 (i := 0) rfl rfl ?_
    refine J_iload_n X dX10_movesAt_23 (i := 1) rfl rfl ?_
    refine J_iload_n X dX10_movesAt_24 (i := 2) rfl rfl ?_
    refine J_iload_n X dX10_movesAt_25 (i := 3) rfl rfl ?_
    refine T_callV (As := [.int v1, .int v2, .int v3]) wS5 X (C_X10_standsAt (kG K) v0 kv0 v1 v2 v3 S5) cb10 kv0 ml_X10_395 in_yX10_standsAt se_yX10_standsAt ii_RX10 co_yX10_standsAt hy_X10_standsAt (hRd hR (by decide) (by decide)) rfl (Nat.le_of_ble_eq_true rfl) dX10_movesAt_26 (fun r8 S7 _ wS7 => ?_)
    refine J_istore X (ls' := [some (.ref v0), some (.int v1), some (.int v2), some (.int v3), some (.int r8)]) dX10_movesAt_29 (by decide) rfl ?_
    refine J_aload_n X dX10_movesAt_31 (i := 0) rfl rfl ?_
    refine T_getI X (kf := 55) cb10 kv0 (by decide) fl_X10_372 (fun _ _ _ => rfl) dX10_movesAt_32 ?_
    refine J_iconst X (v := (0 : Int32)) dX10_movesAt_35 (by decide) ?_
    refine T_callS (As := [.int (S7.1 v0 55), .int (0 : Int32)]) wS7 X (C_X10_off (kG K) (S7.1 v0 55) (0 : Int32) S7) ml_X10_348 st_yX10_off ii_RX10 co_yX10_off hy_X10_off (hRd hR (by decide) (by decide)) rfl (Nat.le_of_ble_eq_true rfl) dX10_movesAt_36 (fun r10 S9 _ wS9 => ?_)
    refine J_iload X dX10_movesAt_39 rfl ?_
    refine J_icmp_le X (tgt := 48) dX10_movesAt_41 (by decide) ?_ ?_
    · refine J_iconst X (v := (0 : Int32)) dX10_movesAt_48 (by decide) ?_
      refine J_mask [true, false, false, false, true] ?_
      exact t_X10_movesAt_49 X hR v0 kv0 r8 (0 : Int32) S9 wS9
    · refine J_iconst X (v := (1 : Int32)) dX10_movesAt_44 (by decide) ?_
      refine J_goto X (tgt := 49) dX10_movesAt_45 (by decide) ?_
      refine J_mask [true, false, false, false, true] ?_
      exact t_X10_movesAt_49 X hR v0 kv0 r8 (1 : Int32) S9 wS9
  · refine J_iconst X (v := (0 : Int32)) dX10_movesAt_8 (by decide) ?_
    exact T_iret wS1 X dX10_movesAt_9
theorem C_X10_movesAt (G : GG) (v0 : Nat) (kv0 : KA (gD G) v0 (0, 10)) (v1 : Int32) (v2 : Int32) (v3 : Int32) (S : St) : CM G yX10_movesAt cX10_movesAt 5 (some .int) 4 [.ref v0, .int v1, .int v2, .int v3] S (fun v : Int32 => some (.int v)) (f_X10_movesAt v0 v1 v2 v3 S) :=
  CM_of (by decide) (Nat.le_of_ble_eq_true rfl) rfl (fun K hG X hR w => by subst hG; exact t_X10_movesAt_0 X hR v0 kv0 v1 v2 v3 S w)
-- ==== X10_movesNow
theorem hy_X10_movesNow : yX10_movesNow.cls ≠ "java/lang/invoke/MethodHandle" ∧ yX10_movesNow.cls ≠ "java/lang/invoke/VarHandle" ∧ (parseMethodDescriptor yX10_movesNow.desc).map (fun d => d.parameters.length) = some 1 := by decide +kernel
set_option maxRecDepth 20000 in
def f_X10_movesNow (v0 : Nat) (v1 : Int32) (S : St) : Option (Int32 × St) := (ix ((20 : Int32) + v1) 55).bind fun j1 => (ix ((26 : Int32) + v1) 55).bind fun j2 => bd (f_X10_movesAt v0 v1 (S.1 (S.2.2 v0 52) j1) (S.1 (S.2.2 v0 52) j2) S) fun r4 S3 => some (r4, S3)
set_option maxRecDepth 20000 in
theorem t_X10_movesNow_0 {K : KK} (X : CX K cX10_movesNow 2 RX10 (some .int)) (hR : kR K = rmD 5) (v0 : Nat) (kv0 : KA (kDn K) v0 (0, 10)) (v1 : Int32) (S : St) (w : WT (kDn K) S.2.2) : JX K (Zm K (fun v : Int32 => some (.int v))) 0 [some (.ref v0), some (.int v1)] [] (rwN (kN K) S) (kn K) 0 0 (f_X10_movesNow v0 v1 S) := by
  unfold f_X10_movesNow
  refine J_aload_n X dX10_movesNow_0 (i := 0) rfl rfl ?_
  refine J_iload_n X dX10_movesNow_1 (i := 1) rfl rfl ?_
  refine J_aload_n X dX10_movesNow_2 (i := 0) rfl rfl ?_
  refine T_getR X (kf := 52) cb10 kv0 (by decide) fl_X10_122 (fun _ _ _ => rfl) dX10_movesNow_3 ?_
  refine J_bipush X (v := (20 : Int32)) dX10_movesNow_6 (by decide) ?_
  refine J_iload_n X dX10_movesNow_8 (i := 1) rfl rfl ?_
  refine J_iadd X dX10_movesNow_9 ?_
  refine T_iald X (w.1 _ _ kv0 52 _ rfl) dX10_movesNow_10 (fun j1 => ?_)
  refine J_aload_n X dX10_movesNow_11 (i := 0) rfl rfl ?_
  refine T_getR X (kf := 52) cb10 kv0 (by decide) fl_X10_122 (fun _ _ _ => rfl) dX10_movesNow_12 ?_
  refine J_bipush X (v := (26 : Int32)) dX10_movesNow_15 (by decide) ?_
  refine J_iload_n X dX10_movesNow_17 (i := 1) rfl rfl ?_
  refine J_iadd X dX10_movesNow_18 ?_
  refine T_iald X (w.1 _ _ kv0 52 _ rfl) dX10_movesNow_19 (fun j2 => ?_)
  refine T_callV (As := [.int v1, .int (S.1 (S.2.2 v0 52) j1), .int (S.1 (S.2.2 v0 52) j2)]) w X (C_X10_movesAt (kG K) v0 kv0 v1 (S.1 (S.2.2 v0 52) j1) (S.1 (S.2.2 v0 52) j2) S) cb10 kv0 ml_X10_398 in_yX10_movesAt se_yX10_movesAt ii_RX10 co_yX10_movesAt hy_X10_movesAt (hRd hR (by decide) (by decide)) rfl (Nat.le_of_ble_eq_true rfl) dX10_movesNow_20 (fun r4 S3 _ wS3 => ?_)
  exact T_iret wS3 X dX10_movesNow_23
theorem C_X10_movesNow (G : GG) (v0 : Nat) (kv0 : KA (gD G) v0 (0, 10)) (v1 : Int32) (S : St) : CM G yX10_movesNow cX10_movesNow 2 (some .int) 5 [.ref v0, .int v1] S (fun v : Int32 => some (.int v)) (f_X10_movesNow v0 v1 S) :=
  CM_of (by decide) (Nat.le_of_ble_eq_true rfl) rfl (fun K hG X hR w => by subst hG; exact t_X10_movesNow_0 X hR v0 kv0 v1 S w)

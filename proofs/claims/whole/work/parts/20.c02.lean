-- ==== J1_indexOf_4cfef
theorem hy_J1_indexOf_4cfef : yJ1_indexOf_4cfef.cls ≠ "java/lang/invoke/MethodHandle" ∧ yJ1_indexOf_4cfef.cls ≠ "java/lang/invoke/VarHandle" ∧ (parseMethodDescriptor yJ1_indexOf_4cfef.desc).map (fun d => d.parameters.length) = some 4 := by decide +kernel
set_option maxRecDepth 20000 in
def f_J1_indexOf_4cfef (v0 : Nat) (v1 : Int32) (v2 : Int32) (v3 : Int32) (S : St) : Option (Int32 × St) := bd (f_J1_canEncode_9a6ad v1 S) fun r2 S1 => if r2 = 0 then (some ((-1 : Int32), S1)) else (nm (mxI v2 (0 : Int32)) fun x3 => nm (mnI v3 (Int32.ofNat (sl v0))) fun x4 => if x3 < x4 then (bd (f_J1_indexOfChar_4cfef v0 v1 x3 x4 S1) fun r6 S5 => some (r6, S5)) else (some ((-1 : Int32), S1)))
set_option maxRecDepth 20000 in
theorem t_J1_indexOf_4cfef_0 {K : KK} (X : CX K cJ1_indexOf_4cfef 4 RJ1 (some .int)) (hR : kR K = rmD 1) (v0 : Nat) (kv0 : v0 < 2) (v1 : Int32) (v2 : Int32) (v3 : Int32) (S : St) (w : WT (kDn K) S.2.2) : JX K (Zm K (fun v : Int32 => some (.int v))) 0 [some (.retAddr (10 + v0)), some (.int v1), some (.int v2), some (.int v3)] [] (rwN (kN K) S) (kn K) 0 0 (f_J1_indexOf_4cfef v0 v1 v2 v3 S) := by
  unfold f_J1_indexOf_4cfef
  refine J_iload_n X dJ1_indexOf_4cfef_0 (i := 1) rfl rfl ?_
  refine T_callS (As := [.int v1]) w X (C_J1_canEncode_9a6ad (kG K) v1 S) ml_J1_88 st_yJ1_canEncode_9a6ad ii_RJ1 co_yJ1_canEncode_9a6ad hy_J1_canEncode_9a6ad (hRd hR (by decide) (by decide)) rfl (Nat.le_of_ble_eq_true rfl) dJ1_indexOf_4cfef_1 (fun r2 S1 _ wS1 => ?_)
  refine J_if_ne X (tgt := 9) dJ1_indexOf_4cfef_4 (by decide) ?_ ?_
  · refine J_iconst X (v := (-1 : Int32)) dJ1_indexOf_4cfef_7 (by decide) ?_
    exact T_iret wS1 X dJ1_indexOf_4cfef_8
  · refine J_iload_n X dJ1_indexOf_4cfef_9 (i := 2) rfl rfl ?_
    refine J_iconst X (v := (0 : Int32)) dJ1_indexOf_4cfef_10 (by decide) ?_
    refine T_mmax X ml_J1_92 st_Lib_Math_max_name ii_java_lang_Math co_Lib_Math_max_name ⟨by rw [hR]; exact Nat.le_of_ble_eq_true rfl, by rw [hR]; exact Nat.le_of_ble_eq_true rfl⟩ (Nat.le_of_ble_eq_true rfl) dJ1_indexOf_4cfef_11 ?_
    refine J_nmi (fun x3 => ?_)
    refine J_istore_n X (i := 2) (ls' := [some (.retAddr (10 + v0)), some (.int v1), some (.int x3), some (.int v3)]) dJ1_indexOf_4cfef_14 rfl (by decide) rfl ?_
    refine J_iload_n X dJ1_indexOf_4cfef_15 (i := 3) rfl rfl ?_
    refine Z_aload_n X dJ1_indexOf_4cfef_16 (i := 0) rfl rfl ?_
    refine Z_alen X kv0 dJ1_indexOf_4cfef_17 ?_
    refine T_mmin X ml_J1_38 st_Lib_Math_min_name ii_java_lang_Math co_Lib_Math_min_name ⟨by rw [hR]; exact Nat.le_of_ble_eq_true rfl, by rw [hR]; exact Nat.le_of_ble_eq_true rfl⟩ (Nat.le_of_ble_eq_true rfl) dJ1_indexOf_4cfef_18 ?_
    refine J_nmi (fun x4 => ?_)
    refine J_istore_n X (i := 3) (ls' := [some (.retAddr (10 + v0)), some (.int v1), some (.int x3), some (.int x4)]) dJ1_indexOf_4cfef_21 rfl (by decide) rfl ?_
    refine J_iload_n X dJ1_indexOf_4cfef_22 (i := 2) rfl rfl ?_
    refine J_iload_n X dJ1_indexOf_4cfef_23 (i := 3) rfl rfl ?_
    refine J_icmp_lt X (tgt := 29) dJ1_indexOf_4cfef_24 (by decide) ?_ ?_
    · refine Z_aload_n X dJ1_indexOf_4cfef_29 (i := 0) rfl rfl ?_
      refine J_iload_n X dJ1_indexOf_4cfef_30 (i := 1) rfl rfl ?_
      refine J_iload_n X dJ1_indexOf_4cfef_31 (i := 2) rfl rfl ?_
      refine J_iload_n X dJ1_indexOf_4cfef_32 (i := 3) rfl rfl ?_
      refine T_callS (As := [.retAddr (10 + v0), .int v1, .int x3, .int x4]) wS1 X (C_J1_indexOfChar_4cfef (kG K) v0 kv0 v1 x3 x4 S1) ml_J1_95 st_yJ1_indexOfChar_4cfef ii_RJ1 co_yJ1_indexOfChar_4cfef hy_J1_indexOfChar_4cfef (hRd hR (by decide) (by decide)) rfl (Nat.le_of_ble_eq_true rfl) dJ1_indexOf_4cfef_33 (fun r6 S5 _ wS5 => ?_)
      exact T_iret wS5 X dJ1_indexOf_4cfef_36
    · refine J_iconst X (v := (-1 : Int32)) dJ1_indexOf_4cfef_27 (by decide) ?_
      exact T_iret wS1 X dJ1_indexOf_4cfef_28
theorem C_J1_indexOf_4cfef (G : GG) (v0 : Nat) (kv0 : v0 < 2) (v1 : Int32) (v2 : Int32) (v3 : Int32) (S : St) : CM G yJ1_indexOf_4cfef cJ1_indexOf_4cfef 4 (some .int) 1 [.retAddr (10 + v0), .int v1, .int v2, .int v3] S (fun v : Int32 => some (.int v)) (f_J1_indexOf_4cfef v0 v1 v2 v3 S) :=
  CM_of (by decide) (Nat.le_of_ble_eq_true rfl) rfl (fun K hG X hR w => by subst hG; exact t_J1_indexOf_4cfef_0 X hR v0 kv0 v1 v2 v3 S w)
-- ==== J0_indexOf_7cf53
theorem hy_J0_indexOf_7cf53 : yJ0_indexOf_7cf53.cls ≠ "java/lang/invoke/MethodHandle" ∧ yJ0_indexOf_7cf53.cls ≠ "java/lang/invoke/VarHandle" ∧ (parseMethodDescriptor yJ0_indexOf_7cf53.desc).map (fun d => d.parameters.length) = some 2 := by decide +kernel
set_option maxRecDepth 20000 in
def f_J0_indexOf_7cf53 (v0 : Nat) (v1 : Int32) (v2 : Int32) (S : St) : Option (Int32 × St) := bd (f_J0_isLatin1_aae02 v0 S) fun r2 S1 => if r2 = 0 then (none) else (bd (f_J0_length_8abf5 v0 S1) fun r4 S3 => bd (f_J1_indexOf_4cfef v0 v1 v2 r4 S3) fun r6 S5 => some (r6, S5))
set_option maxRecDepth 20000 in
theorem t_J0_indexOf_7cf53_0 {K : KK} (X : CX K cJ0_indexOf_7cf53 3 RJ0 (some .int)) (hR : kR K = rmD 2) (v0 : Nat) (kv0 : v0 < 2) (v1 : Int32) (v2 : Int32) (S : St) (w : WT (kDn K) S.2.2) : JX K (Zm K (fun v : Int32 => some (.int v))) 0 [some (.retAddr v0), some (.int v1), some (.int v2)] [] (rwN (kN K) S) (kn K) 0 0 (f_J0_indexOf_7cf53 v0 v1 v2 S) := by
  unfold f_J0_indexOf_7cf53
  refine Z_aload_n X dJ0_indexOf_7cf53_0 (i := 0) rfl rfl ?_
  refine T_callZ (As := []) w X (C_J0_isLatin1_aae02 (kG K) v0 kv0 S) rfl kv0 ml_J0_492 in_yJ0_isLatin1_aae02 se_yJ0_isLatin1_aae02 ii_RJ0 co_yJ0_isLatin1_aae02 hy_J0_isLatin1_aae02 (hRd hR (by decide) (by decide)) rfl (Nat.le_of_ble_eq_true rfl) dJ0_indexOf_7cf53_1 (fun r2 S1 _ wS1 => ?_)
  refine J_if_eq X (tgt := 23) dJ0_indexOf_7cf53_4 (by decide) ?_ ?_
  · exact J_none
  · refine Z_aload_n X dJ0_indexOf_7cf53_7 (i := 0) rfl rfl ?_
    refine Z_getV X kv0 fl_J0_9 dJ0_indexOf_7cf53_8 ?_
    refine J_iload_n X dJ0_indexOf_7cf53_11 (i := 1) rfl rfl ?_
    refine J_iload_n X dJ0_indexOf_7cf53_12 (i := 2) rfl rfl ?_
    refine Z_aload_n X dJ0_indexOf_7cf53_13 (i := 0) rfl rfl ?_
    refine T_callZ (As := []) wS1 X (C_J0_length_8abf5 (kG K) v0 kv0 S1) rfl kv0 ml_J0_505 in_yJ0_length_8abf5 se_yJ0_length_8abf5 ii_RJ0 co_yJ0_length_8abf5 hy_J0_length_8abf5 (hRd hR (by decide) (by decide)) rfl (Nat.le_of_ble_eq_true rfl) dJ0_indexOf_7cf53_14 (fun r4 S3 _ wS3 => ?_)
    refine T_callS (As := [.retAddr (10 + v0), .int v1, .int v2, .int r4]) wS3 X (C_J1_indexOf_4cfef (kG K) v0 kv0 v1 v2 r4 S3) ml_J0_637 st_yJ1_indexOf_4cfef ii_RJ1 co_yJ1_indexOf_4cfef hy_J1_indexOf_4cfef (hRd hR (by decide) (by decide)) rfl (Nat.le_of_ble_eq_true rfl) dJ0_indexOf_7cf53_17 (fun r6 S5 _ wS5 => ?_)
    refine J_goto X (tgt := 36) dJ0_indexOf_7cf53_20 (by decide) ?_
    exact T_iret wS5 X dJ0_indexOf_7cf53_36
theorem C_J0_indexOf_7cf53 (G : GG) (v0 : Nat) (kv0 : v0 < 2) (v1 : Int32) (v2 : Int32) (S : St) : CM G yJ0_indexOf_7cf53 cJ0_indexOf_7cf53 3 (some .int) 2 [.retAddr v0, .int v1, .int v2] S (fun v : Int32 => some (.int v)) (f_J0_indexOf_7cf53 v0 v1 v2 S) :=
  CM_of (by decide) (Nat.le_of_ble_eq_true rfl) rfl (fun K hG X hR w => by subst hG; exact t_J0_indexOf_7cf53_0 X hR v0 kv0 v1 v2 S w)
-- ==== J0_indexOf_0f7a4
theorem hy_J0_indexOf_0f7a4 : yJ0_indexOf_0f7a4.cls ≠ "java/lang/invoke/MethodHandle" ∧ yJ0_indexOf_0f7a4.cls ≠ "java/lang/invoke/VarHandle" ∧ (parseMethodDescriptor yJ0_indexOf_0f7a4.desc).map (fun d => d.parameters.length) = some 1 := by decide +kernel
set_option maxRecDepth 20000 in
def f_J0_indexOf_0f7a4 (v0 : Nat) (v1 : Int32) (S : St) : Option (Int32 × St) := bd (f_J0_indexOf_7cf53 v0 v1 (0 : Int32) S) fun r2 S1 => some (r2, S1)
set_option maxRecDepth 20000 in
theorem t_J0_indexOf_0f7a4_0 {K : KK} (X : CX K cJ0_indexOf_0f7a4 2 RJ0 (some .int)) (hR : kR K = rmD 3) (v0 : Nat) (kv0 : v0 < 2) (v1 : Int32) (S : St) (w : WT (kDn K) S.2.2) : JX K (Zm K (fun v : Int32 => some (.int v))) 0 [some (.retAddr v0), some (.int v1)] [] (rwN (kN K) S) (kn K) 0 0 (f_J0_indexOf_0f7a4 v0 v1 S) := by
  unfold f_J0_indexOf_0f7a4
  refine Z_aload_n X dJ0_indexOf_0f7a4_0 (i := 0) rfl rfl ?_
  refine J_iload_n X dJ0_indexOf_0f7a4_1 (i := 1) rfl rfl ?_
  refine J_iconst X (v := (0 : Int32)) dJ0_indexOf_0f7a4_2 (by decide) ?_
  refine T_callZ (As := [.int v1, .int (0 : Int32)]) w X (C_J0_indexOf_7cf53 (kG K) v0 kv0 v1 (0 : Int32) S) rfl kv0 ml_J0_633 in_yJ0_indexOf_7cf53 se_yJ0_indexOf_7cf53 ii_RJ0 co_yJ0_indexOf_7cf53 hy_J0_indexOf_7cf53 (hRd hR (by decide) (by decide)) rfl (Nat.le_of_ble_eq_true rfl) dJ0_indexOf_0f7a4_3 (fun r2 S1 _ wS1 => ?_)
  exact T_iret wS1 X dJ0_indexOf_0f7a4_6
theorem C_J0_indexOf_0f7a4 (G : GG) (v0 : Nat) (kv0 : v0 < 2) (v1 : Int32) (S : St) : CM G yJ0_indexOf_0f7a4 cJ0_indexOf_0f7a4 2 (some .int) 3 [.retAddr v0, .int v1] S (fun v : Int32 => some (.int v)) (f_J0_indexOf_0f7a4 v0 v1 S) :=
  CM_of (by decide) (Nat.le_of_ble_eq_true rfl) rfl (fun K hG X hR w => by subst hG; exact t_J0_indexOf_0f7a4_0 X hR v0 kv0 v1 S w)
-- ==== X6_takeOne
theorem hy_X6_takeOne : yX6_takeOne.cls ≠ "java/lang/invoke/MethodHandle" ∧ yX6_takeOne.cls ≠ "java/lang/invoke/VarHandle" ∧ (parseMethodDescriptor yX6_takeOne.desc).map (fun d => d.parameters.length) = some 2 := by decide +kernel
set_option maxRecDepth 20000 in
def b_X6_takeOne_80 (v2 : Int32) (s0 : Nat) (s1 : Int32) (s2 : Int32) (S : St) : Option (Int32 × St) := (ix s1 401).bind fun j1 => nm (sI S s0 j1 s2) fun S2 => some (v2 + (1 : Int32), S2)
set_option maxRecDepth 20000 in
theorem t_X6_takeOne_80 {K : KK} (X : CX K cX6_takeOne 4 RX6 (some .int)) (hR : kR K = rmD 6) (v2 : Int32) (s0 : Nat) (ks0 : KA (kDn K) s0 (1, 401)) (s1 : Int32) (s2 : Int32) (S : St) (w : WT (kDn K) S.2.2) : JX K (Zm K (fun v : Int32 => some (.int v))) 80 [none, none, some (.int v2), none] [.int s2, .int s1, .ref s0] (rwN (kN K) S) (kn K) 0 0 (b_X6_takeOne_80 v2 s0 s1 s2 S) := by
  unfold b_X6_takeOne_80
  refine T_iast X ks0 dX6_takeOne_80 (fun j1 S2 hS2 => ?_)
  have wS2 : WT (kDn K) S2.2.2 := by rw [hS2]; exact w
  clear hS2
  refine J_iload_n X dX6_takeOne_81 (i := 2) rfl rfl ?_
  refine J_iconst X (v := (1 : Int32)) dX6_takeOne_82 (by decide) ?_
  refine J_iadd X dX6_takeOne_83 ?_
  exact T_iret wS2 X dX6_takeOne_84
set_option maxRecDepth 20000 in
def b_X6_takeOne_78 (v2 : Int32) (s0 : Nat) (s1 : Int32) (S : St) : Option (Int32 × St) := b_X6_takeOne_80 v2 s0 s1 (24 : Int32) S
set_option maxRecDepth 20000 in
theorem t_X6_takeOne_78 {K : KK} (X : CX K cX6_takeOne 4 RX6 (some .int)) (hR : kR K = rmD 6) (v2 : Int32) (s0 : Nat) (ks0 : KA (kDn K) s0 (1, 401)) (s1 : Int32) (S : St) (w : WT (kDn K) S.2.2) : JX K (Zm K (fun v : Int32 => some (.int v))) 78 [none, none, some (.int v2), none] [.int s1, .ref s0] (rwN (kN K) S) (kn K) 0 0 (b_X6_takeOne_78 v2 s0 s1 S) := by
  unfold b_X6_takeOne_78
  refine J_bipush X (v := (24 : Int32)) dX6_takeOne_78 (by decide) ?_
  exact t_X6_takeOne_80 X hR v2 s0 ks0 s1 (24 : Int32) S w
set_option maxRecDepth 20000 in
def f_X6_takeOne (v0 : Nat) (v1 : Int32) (v2 : Int32) (S : St) : Option (Int32 × St) := if v2 < (S.1 v0 4) then (bd (f_X6_isLetter v0 v2 S) fun r2 S1 => if r2 = 0 then (bd (f_X6_isDigit v0 v2 S1) fun r4 S3 => if r4 = 0 then ((ix v2 2000).bind fun j5 => nm (S3.1 (S3.2.2 v0 3) j5) fun x6 => if x6 ≤ 0 then (b_X6_takeOne_78 v2 (S3.2.2 v0 0) v1 S3) else (bd (f_J0_indexOf_0f7a4 1 ((x6.toUInt32 % 65536).toInt32) S3) fun r8 S7 => if r8 < 0 then (b_X6_takeOne_78 v2 (S3.2.2 v0 0) v1 S7) else (b_X6_takeOne_80 v2 (S3.2.2 v0 0) v1 x6 S7))) else (bd (f_X6_takeDigits v0 v1 v2 S3) fun r10 S9 => some (r10, S9))) else (bd (f_X6_takeLetters v0 v1 v2 S1) fun r12 S11 => some (r12, S11))) else ((ix v1 401).bind fun j13 => nm (sI S (S.2.2 v0 0) j13 (23 : Int32)) fun S14 => some (v2, S14))
set_option maxRecDepth 20000 in
theorem t_X6_takeOne_0 {K : KK} (X : CX K cX6_takeOne 4 RX6 (some .int)) (hR : kR K = rmD 6) (v0 : Nat) (kv0 : KA (kDn K) v0 (0, 6)) (v1 : Int32) (v2 : Int32) (S : St) (w : WT (kDn K) S.2.2) : JX K (Zm K (fun v : Int32 => some (.int v))) 0 [some (.ref v0), some (.int v1), some (.int v2), none] [] (rwN (kN K) S) (kn K) 0 0 (f_X6_takeOne v0 v1 v2 S) := by
  unfold f_X6_takeOne
  refine J_iload_n X dX6_takeOne_0 (i := 2) rfl rfl ?_
  refine J_aload_n X dX6_takeOne_1 (i := 0) rfl rfl ?_
  refine T_getI X (kf := 4) cb6 kv0 (by decide) fl_X6_32 (fun _ _ _ => rfl) dX6_takeOne_2 ?_
  refine J_icmp_lt X (tgt := 18) dX6_takeOne_5 (by decide) ?_ ?_
  · refine J_aload_n X dX6_takeOne_18 (i := 0) rfl rfl ?_
    refine J_iload_n X dX6_takeOne_19 (i := 2) rfl rfl ?_
    refine T_callV (As := [.int v2]) w X (C_X6_isLetter (kG K) v0 kv0 v2 S) cb6 kv0 ml_X6_43 in_yX6_isLetter se_yX6_isLetter ii_RX6 co_yX6_isLetter hy_X6_isLetter (hRd hR (by decide) (by decide)) rfl (Nat.le_of_ble_eq_true rfl) dX6_takeOne_20 (fun r2 S1 _ wS1 => ?_)
    refine J_if_eq X (tgt := 33) dX6_takeOne_23 (by decide) ?_ ?_
    · refine J_aload_n X dX6_takeOne_33 (i := 0) rfl rfl ?_
      refine J_iload_n X dX6_takeOne_34 (i := 2) rfl rfl ?_
      refine T_callV (As := [.int v2]) wS1 X (C_X6_isDigit (kG K) v0 kv0 v2 S1) cb6 kv0 ml_X6_50 in_yX6_isDigit se_yX6_isDigit ii_RX6 co_yX6_isDigit hy_X6_isDigit (hRd hR (by decide) (by decide)) rfl (Nat.le_of_ble_eq_true rfl) dX6_takeOne_35 (fun r4 S3 _ wS3 => ?_)
      refine J_if_eq X (tgt := 48) dX6_takeOne_38 (by decide) ?_ ?_
      · refine J_aload_n X dX6_takeOne_48 (i := 0) rfl rfl ?_
        refine T_getR X (kf := 3) cb6 kv0 (by decide) fl_X6_9 (fun _ _ _ => rfl) dX6_takeOne_49 ?_
        refine J_iload_n X dX6_takeOne_52 (i := 2) rfl rfl ?_
        refine T_bald X (wS3.1 _ _ kv0 3 _ rfl) dX6_takeOne_53 (fun j5 => ?_)
        refine J_nmi (fun x6 => ?_)
        refine J_istore_n X (i := 3) (ls' := [some (.ref v0), some (.int v1), some (.int v2), some (.int x6)]) dX6_takeOne_54 rfl (by decide) rfl ?_
        refine J_aload_n X dX6_takeOne_55 (i := 0) rfl rfl ?_
        refine T_getR X (kf := 0) cb6 kv0 (by decide) fl_X6_15 (fun _ _ _ => rfl) dX6_takeOne_56 ?_
        refine J_iload_n X dX6_takeOne_59 (i := 1) rfl rfl ?_
        refine J_iload_n X dX6_takeOne_60 (i := 3) rfl rfl ?_
        refine J_if_le X (tgt := 78) dX6_takeOne_61 (by decide) ?_ ?_
        · refine J_mask [false, false, true, false] ?_
          exact t_X6_takeOne_78 X hR v2 (S3.2.2 v0 0) (wS3.1 _ _ kv0 0 _ rfl) v1 S3 wS3
        · refine T_sldc1 X dX6_takeOne_64 ?_
          refine J_iload_n X dX6_takeOne_66 (i := 3) rfl rfl ?_
          refine J_i2c X dX6_takeOne_67 ?_
          refine T_callZ (As := [.int ((x6.toUInt32 % 65536).toInt32)]) wS3 X (C_J0_indexOf_0f7a4 (kG K) 1 (by decide) ((x6.toUInt32 % 65536).toInt32) S3) rfl (by decide) ml_X6_58 in_yJ0_indexOf_0f7a4 se_yJ0_indexOf_0f7a4 ii_RJ0 co_yJ0_indexOf_0f7a4 hy_J0_indexOf_0f7a4 (hRd hR (by decide) (by decide)) rfl (Nat.le_of_ble_eq_true rfl) dX6_takeOne_68 (fun r8 S7 _ wS7 => ?_)
          refine J_if_lt X (tgt := 78) dX6_takeOne_71 (by decide) ?_ ?_
          · refine J_mask [false, false, true, false] ?_
            exact t_X6_takeOne_78 X hR v2 (S3.2.2 v0 0) (wS3.1 _ _ kv0 0 _ rfl) v1 S7 wS7
          · refine J_iload_n X dX6_takeOne_74 (i := 3) rfl rfl ?_
            refine J_goto X (tgt := 80) dX6_takeOne_75 (by decide) ?_
            refine J_mask [false, false, true, false] ?_
            exact t_X6_takeOne_80 X hR v2 (S3.2.2 v0 0) (wS3.1 _ _ kv0 0 _ rfl) v1 x6 S7 wS7
      · refine J_aload_n X dX6_takeOne_41 (i := 0) rfl rfl ?_
        refine J_iload_n X dX6_takeOne_42 (i := 1) rfl rfl ?_
        refine J_iload_n X dX6_takeOne_43 (i := 2) rfl rfl ?_
        refine T_callV (As := [.int v1, .int v2]) wS3 X (C_X6_takeDigits (kG K) v0 kv0 v1 v2 S3) cb6 kv0 ml_X6_53 in_yX6_takeDigits se_yX6_takeDigits ii_RX6 co_yX6_takeDigits hy_X6_takeDigits (hRd hR (by decide) (by decide)) rfl (Nat.le_of_ble_eq_true rfl) dX6_takeOne_44 (fun r10 S9 _ wS9 => ?_)
        exact T_iret wS9 X dX6_takeOne_47
    · refine J_aload_n X dX6_takeOne_26 (i := 0) rfl rfl ?_
      refine J_iload_n X dX6_takeOne_27 (i := 1) rfl rfl ?_
      refine J_iload_n X dX6_takeOne_28 (i := 2) rfl rfl ?_
      refine T_callV (As := [.int v1, .int v2]) wS1 X (C_X6_takeLetters (kG K) v0 kv0 v1 v2 S1) cb6 kv0 ml_X6_47 in_yX6_takeLetters se_yX6_takeLetters ii_RX6 co_yX6_takeLetters hy_X6_takeLetters (hRd hR (by decide) (by decide)) rfl (Nat.le_of_ble_eq_true rfl) dX6_takeOne_29 (fun r12 S11 _ wS11 => ?_)
      exact T_iret wS11 X dX6_takeOne_32
  · refine J_aload_n X dX6_takeOne_8 (i := 0) rfl rfl ?_
    refine T_getR X (kf := 0) cb6 kv0 (by decide) fl_X6_15 (fun _ _ _ => rfl) dX6_takeOne_9 ?_
    refine J_iload_n X dX6_takeOne_12 (i := 1) rfl rfl ?_
    refine J_bipush X (v := (23 : Int32)) dX6_takeOne_13 (by decide) ?_
    refine T_iast X (w.1 _ _ kv0 0 _ rfl) dX6_takeOne_15 (fun j13 S14 hS14 => ?_)
    have wS14 : WT (kDn K) S14.2.2 := by rw [hS14]; exact w
    clear hS14
    refine J_iload_n X dX6_takeOne_16 (i := 2) rfl rfl ?_
    exact T_iret wS14 X dX6_takeOne_17
theorem C_X6_takeOne (G : GG) (v0 : Nat) (kv0 : KA (gD G) v0 (0, 6)) (v1 : Int32) (v2 : Int32) (S : St) : CM G yX6_takeOne cX6_takeOne 4 (some .int) 6 [.ref v0, .int v1, .int v2] S (fun v : Int32 => some (.int v)) (f_X6_takeOne v0 v1 v2 S) :=
  CM_of (by decide) (Nat.le_of_ble_eq_true rfl) rfl (fun K hG X hR w => by subst hG; exact t_X6_takeOne_0 X hR v0 kv0 v1 v2 S w)
-- ==== X6_split
theorem hy_X6_split : yX6_split.cls ≠ "java/lang/invoke/MethodHandle" ∧ yX6_split.cls ≠ "java/lang/invoke/VarHandle" ∧ (parseMethodDescriptor yX6_split.desc).map (fun d => d.parameters.length) = some 1 := by decide +kernel
set_option maxRecDepth 20000 in
def b_X6_split_17 : Nat → Nat → Int32 → Int32 → St → Option (Unit × St)
  | 0, _, _, _, _ => none
  | fu + 1, v0, v2, v3, S => if (400 : Int32) < v3 then (some ((), S)) else (bd (f_X6_behindBlanks v0 v2 S) fun r2 S1 => (ix v3 401).bind fun j3 => nm (sI S1 (S1.2.2 v0 1) j3 r2) fun S4 => bd (f_X6_takeOne v0 v3 r2 S4) fun r6 S5 => (ix v3 401).bind fun j7 => if (S5.1 (S5.2.2 v0 0) j7) = (23 : Int32) then (some ((), S5)) else ((ix v3 401).bind fun j8 => if (S5.1 (S5.2.2 v0 0) j8) = (24 : Int32) then (some ((), S5)) else (nm (v3 + (1 : Int32)) fun x9 => b_X6_split_17 fu v0 r6 x9 S5)))
set_option maxRecDepth 20000 in
theorem t_X6_split_17 {K : KK} (X : CX K cX6_split 4 RX6 none) (hR : kR K = rmD 7) : ∀ (fu : Nat) (v0 : Nat) (kv0 : KA (kDn K) v0 (0, 6)) (v2 : Int32) (v3 : Int32) (S : St), WT (kDn K) S.2.2 → JX K (Zm K (fun _ : Unit => none)) 17 [some (.ref v0), none, some (.int v2), some (.int v3)] [] (rwN (kN K) S) (kn K) 0 0 (b_X6_split_17 fu v0 v2 v3 S) := by
  intro fu
  induction fu with
  | zero => intro v0 kv0 v2 v3 S w; exact J_none
  | succ fu ih =>
    intro v0 kv0 v2 v3 S w
    rw [b_X6_split_17]
    refine J_iload_n X dX6_split_17 (i := 3) rfl rfl ?_
    refine J_sipush X (v := (400 : Int32)) dX6_split_18 (by decide) ?_
    refine J_icmp_gt X (tgt := 73) dX6_split_21 (by decide) ?_ ?_
    · exact T_vret w X dX6_split_73
    · refine J_aload_n X dX6_split_24 (i := 0) rfl rfl ?_
      refine J_iload_n X dX6_split_25 (i := 2) rfl rfl ?_
      refine T_callV (As := [.int v2]) w X (C_X6_behindBlanks (kG K) v0 kv0 v2 S) cb6 kv0 ml_X6_36 in_yX6_behindBlanks se_yX6_behindBlanks ii_RX6 co_yX6_behindBlanks hy_X6_behindBlanks (hRd hR (by decide) (by decide)) rfl (Nat.le_of_ble_eq_true rfl) dX6_split_26 (fun r2 S1 _ wS1 => ?_)
      refine J_istore_n X (i := 2) (ls' := [some (.ref v0), none, some (.int r2), some (.int v3)]) dX6_split_29 rfl (by decide) rfl ?_
      refine J_aload_n X dX6_split_30 (i := 0) rfl rfl ?_
      refine T_getR X (kf := 1) cb6 kv0 (by decide) fl_X6_19 (fun _ _ _ => rfl) dX6_split_31 ?_
      refine J_iload_n X dX6_split_34 (i := 3) rfl rfl ?_
      refine J_iload_n X dX6_split_35 (i := 2) rfl rfl ?_
      refine T_iast X (wS1.1 _ _ kv0 1 _ rfl) dX6_split_36 (fun j3 S4 hS4 => ?_)
      have wS4 : WT (kDn K) S4.2.2 := by rw [hS4]; exact wS1
      clear hS4
      refine J_aload_n X dX6_split_37 (i := 0) rfl rfl ?_
      refine J_iload_n X dX6_split_38 (i := 3) rfl rfl ?_
      refine J_iload_n X dX6_split_39 (i := 2) rfl rfl ?_
      refine T_callV (As := [.int v3, .int r2]) wS4 X (C_X6_takeOne (kG K) v0 kv0 v3 r2 S4) cb6 kv0 ml_X6_40 in_yX6_takeOne se_yX6_takeOne ii_RX6 co_yX6_takeOne hy_X6_takeOne (hRd hR (by decide) (by decide)) rfl (Nat.le_of_ble_eq_true rfl) dX6_split_40 (fun r6 S5 _ wS5 => ?_)
      refine J_istore_n X (i := 2) (ls' := [some (.ref v0), none, some (.int r6), some (.int v3)]) dX6_split_43 rfl (by decide) rfl ?_
      refine J_aload_n X dX6_split_44 (i := 0) rfl rfl ?_
      refine T_getR X (kf := 0) cb6 kv0 (by decide) fl_X6_15 (fun _ _ _ => rfl) dX6_split_45 ?_
      refine J_iload_n X dX6_split_48 (i := 3) rfl rfl ?_
      refine T_iald X (wS5.1 _ _ kv0 0 _ rfl) dX6_split_49 (fun j7 => ?_)
      refine J_bipush X (v := (23 : Int32)) dX6_split_50 (by decide) ?_
      refine J_icmp_eq X (tgt := 66) dX6_split_52 (by decide) ?_ ?_
      · exact T_vret wS5 X dX6_split_66
      · refine J_aload_n X dX6_split_55 (i := 0) rfl rfl ?_
        refine T_getR X (kf := 0) cb6 kv0 (by decide) fl_X6_15 (fun _ _ _ => rfl) dX6_split_56 ?_
        refine J_iload_n X dX6_split_59 (i := 3) rfl rfl ?_
        refine T_iald X (wS5.1 _ _ kv0 0 _ rfl) dX6_split_60 (fun j8 => ?_)
        refine J_bipush X (v := (24 : Int32)) dX6_split_61 (by decide) ?_
        refine J_icmp_ne X (tgt := 67) dX6_split_63 (by decide) ?_ ?_
        · exact T_vret wS5 X dX6_split_66
        · refine J_nmv (v3 + (1 : Int32)) (fun x9 ex9 => ?_)
          refine J_iinc X (v := x9) (ls' := [some (.ref v0), none, some (.int r6), some (.int x9)]) dX6_split_67 (by decide) rfl (by rw [ex9]; rfl) rfl ?_
          refine J_goto X (tgt := 17) dX6_split_70 (by decide) ?_
          exact ih v0 kv0 r6 x9 S5 wS5
set_option maxRecDepth 20000 in
def f_X6_split (v0 : Nat) (v1 : Int32) (S : St) : Option (Unit × St) := nm (sI S v0 4 (mnI v1 (Int32.ofNat 2000))) fun S1 => b_X6_split_17 FU v0 (0 : Int32) (0 : Int32) S1
set_option maxRecDepth 20000 in
theorem t_X6_split_0 {K : KK} (X : CX K cX6_split 4 RX6 none) (hR : kR K = rmD 7) (v0 : Nat) (kv0 : KA (kDn K) v0 (0, 6)) (v1 : Int32) (S : St) (w : WT (kDn K) S.2.2) : JX K (Zm K (fun _ : Unit => none)) 0 [some (.ref v0), some (.int v1), none, none] [] (rwN (kN K) S) (kn K) 0 0 (f_X6_split v0 v1 S) := by
  unfold f_X6_split
  refine J_aload_n X dX6_split_0 (i := 0) rfl rfl ?_
  refine J_iload_n X dX6_split_1 (i := 1) rfl rfl ?_
  refine J_aload_n X dX6_split_2 (i := 0) rfl rfl ?_
  refine T_getR X (kf := 3) cb6 kv0 (by decide) fl_X6_9 (fun _ _ _ => rfl) dX6_split_3 ?_
  refine T_alen2 X (w.1 _ _ kv0 3 _ rfl) dX6_split_6 ?_
  refine T_mmin X ml_X6_26 st_Lib_Math_min_name ii_java_lang_Math co_Lib_Math_min_name ⟨by rw [hR]; exact Nat.le_of_ble_eq_true rfl, by rw [hR]; exact Nat.le_of_ble_eq_true rfl⟩ (Nat.le_of_ble_eq_true rfl) dX6_split_7 ?_
  refine T_putI X (kf := 4) cb6 kv0 (by decide) fl_X6_32 (fun _ _ _ => rfl) rfl rfl rfl dX6_split_10 (fun S1 hS1 => ?_)
  have wS1 : WT (kDn K) S1.2.2 := by rw [hS1]; exact w
  clear hS1
  refine J_iconst X (v := (0 : Int32)) dX6_split_13 (by decide) ?_
  refine J_istore_n X (i := 2) (ls' := [some (.ref v0), some (.int v1), some (.int (0 : Int32)), none]) dX6_split_14 rfl (by decide) rfl ?_
  refine J_iconst X (v := (0 : Int32)) dX6_split_15 (by decide) ?_
  refine J_istore_n X (i := 3) (ls' := [some (.ref v0), some (.int v1), some (.int (0 : Int32)), some (.int (0 : Int32))]) dX6_split_16 rfl (by decide) rfl ?_
  refine J_mask [true, false, true, true] ?_
  exact t_X6_split_17 X hR FU v0 kv0 (0 : Int32) (0 : Int32) S1 wS1
theorem C_X6_split (G : GG) (v0 : Nat) (kv0 : KA (gD G) v0 (0, 6)) (v1 : Int32) (S : St) : CM G yX6_split cX6_split 4 none 7 [.ref v0, .int v1] S (fun _ : Unit => none) (f_X6_split v0 v1 S) :=
  CM_of (by decide) (Nat.le_of_ble_eq_true rfl) rfl (fun K hG X hR w => by subst hG; exact t_X6_split_0 X hR v0 kv0 v1 S w)
-- ==== X4_atHand
theorem hy_X4_atHand : yX4_atHand.cls ≠ "java/lang/invoke/MethodHandle" ∧ yX4_atHand.cls ≠ "java/lang/invoke/VarHandle" ∧ (parseMethodDescriptor yX4_atHand.desc).map (fun d => d.parameters.length) = some 0 := by decide +kernel
set_option maxRecDepth 20000 in
def f_X4_atHand (v0 : Nat) (S : St) : Option (Int32 × St) := if (S.1 v0 3) = 0 then ((ix (S.1 v0 2) 401).bind fun j1 => some (S.1 (S.2.2 (S.2.2 v0 0) 0) j1, S)) else (some ((-1 : Int32), S))
set_option maxRecDepth 20000 in
theorem t_X4_atHand_0 {K : KK} (X : CX K cX4_atHand 1 RX4 (some .int)) (hR : kR K = rmD 0) (v0 : Nat) (kv0 : KA (kDn K) v0 (0, 4)) (S : St) (w : WT (kDn K) S.2.2) : JX K (Zm K (fun v : Int32 => some (.int v))) 0 [some (.ref v0)] [] (rwN (kN K) S) (kn K) 0 0 (f_X4_atHand v0 S) := by
  unfold f_X4_atHand
  refine J_aload_n X dX4_atHand_0 (i := 0) rfl rfl ?_
  refine T_getI X (kf := 3) cb4 kv0 (by decide) fl_X4_40 (fun _ _ _ => rfl) dX4_atHand_1 ?_
  refine J_if_ne X (tgt := 22) dX4_atHand_4 (by decide) ?_ ?_
  · refine J_aload_n X dX4_atHand_7 (i := 0) rfl rfl ?_
    refine T_getR X (kf := 0) cb4 kv0 (by decide) fl_X4_14 (fun _ _ _ => rfl) dX4_atHand_8 ?_
    refine T_getR X (kf := 0) cb6 (w.1 _ _ kv0 0 _ rfl) (by decide) fl_X4_71 (fun _ _ _ => rfl) dX4_atHand_11 ?_
    refine J_aload_n X dX4_atHand_14 (i := 0) rfl rfl ?_
    refine T_getI X (kf := 2) cb4 kv0 (by decide) fl_X4_37 (fun _ _ _ => rfl) dX4_atHand_15 ?_
    refine T_iald X (w.1 _ _ (w.1 _ _ kv0 0 _ rfl) 0 _ rfl) dX4_atHand_18 (fun j1 => ?_)
    refine J_goto X (tgt := 23) dX4_atHand_19 (by decide) ?_
    exact T_iret w X dX4_atHand_23
  · refine J_iconst X (v := (-1 : Int32)) dX4_atHand_22 (by decide) ?_
    exact T_iret w X dX4_atHand_23
theorem C_X4_atHand (G : GG) (v0 : Nat) (kv0 : KA (gD G) v0 (0, 4)) (S : St) : CM G yX4_atHand cX4_atHand 1 (some .int) 0 [.ref v0] S (fun v : Int32 => some (.int v)) (f_X4_atHand v0 S) :=
  CM_of (by decide) (Nat.le_of_ble_eq_true rfl) rfl (fun K hG X hR w => by subst hG; exact t_X4_atHand_0 X hR v0 kv0 S w)
-- ==== X4_refuse
theorem hy_X4_refuse : yX4_refuse.cls ≠ "java/lang/invoke/MethodHandle" ∧ yX4_refuse.cls ≠ "java/lang/invoke/VarHandle" ∧ (parseMethodDescriptor yX4_refuse.desc).map (fun d => d.parameters.length) = some 1 := by decide +kernel
set_option maxRecDepth 20000 in
def f_X4_refuse (v0 : Nat) (v1 : Int32) (S : St) : Option (Unit × St) := if (S.1 v0 3) = 0 then (nm (sI S v0 3 v1) fun S1 => (ix (S1.1 v0 2) 401).bind fun j2 => nm (sI S1 v0 4 (S1.1 (S1.2.2 (S1.2.2 v0 0) 1) j2)) fun S3 => some ((), S3)) else (some ((), S))
set_option maxRecDepth 20000 in
theorem t_X4_refuse_0 {K : KK} (X : CX K cX4_refuse 2 RX4 none) (hR : kR K = rmD 0) (v0 : Nat) (kv0 : KA (kDn K) v0 (0, 4)) (v1 : Int32) (S : St) (w : WT (kDn K) S.2.2) : JX K (Zm K (fun _ : Unit => none)) 0 [some (.ref v0), some (.int v1)] [] (rwN (kN K) S) (kn K) 0 0 (f_X4_refuse v0 v1 S) := by
  unfold f_X4_refuse
  refine J_aload_n X dX4_refuse_0 (i := 0) rfl rfl ?_
  refine T_getI X (kf := 3) cb4 kv0 (by decide) fl_X4_40 (fun _ _ _ => rfl) dX4_refuse_1 ?_
  refine J_if_ne X (tgt := 28) dX4_refuse_4 (by decide) ?_ ?_
  · refine J_aload_n X dX4_refuse_7 (i := 0) rfl rfl ?_
    refine J_iload_n X dX4_refuse_8 (i := 1) rfl rfl ?_
    refine T_putI X (kf := 3) cb4 kv0 (by decide) fl_X4_40 (fun _ _ _ => rfl) rfl rfl rfl dX4_refuse_9 (fun S1 hS1 => ?_)
    have wS1 : WT (kDn K) S1.2.2 := by rw [hS1]; exact w
    clear hS1
    refine J_aload_n X dX4_refuse_12 (i := 0) rfl rfl ?_
    refine J_aload_n X dX4_refuse_13 (i := 0) rfl rfl ?_
    refine T_getR X (kf := 0) cb4 kv0 (by decide) fl_X4_14 (fun _ _ _ => rfl) dX4_refuse_14 ?_
    refine T_getR X (kf := 1) cb6 (wS1.1 _ _ kv0 0 _ rfl) (by decide) fl_X4_75 (fun _ _ _ => rfl) dX4_refuse_17 ?_
    refine J_aload_n X dX4_refuse_20 (i := 0) rfl rfl ?_
    refine T_getI X (kf := 2) cb4 kv0 (by decide) fl_X4_37 (fun _ _ _ => rfl) dX4_refuse_21 ?_
    refine T_iald X (wS1.1 _ _ (wS1.1 _ _ kv0 0 _ rfl) 1 _ rfl) dX4_refuse_24 (fun j2 => ?_)
    refine T_putI X (kf := 4) cb4 kv0 (by decide) fl_X4_24 (fun _ _ _ => rfl) rfl rfl rfl dX4_refuse_25 (fun S3 hS3 => ?_)
    have wS3 : WT (kDn K) S3.2.2 := by rw [hS3]; exact wS1
    clear hS3
    exact T_vret wS3 X dX4_refuse_28
  · exact T_vret w X dX4_refuse_28
theorem C_X4_refuse (G : GG) (v0 : Nat) (kv0 : KA (gD G) v0 (0, 4)) (v1 : Int32) (S : St) : CM G yX4_refuse cX4_refuse 2 none 0 [.ref v0, .int v1] S (fun _ : Unit => none) (f_X4_refuse v0 v1 S) :=
  CM_of (by decide) (Nat.le_of_ble_eq_true rfl) rfl (fun K hG X hR w => by subst hG; exact t_X4_refuse_0 X hR v0 kv0 v1 S w)
-- ==== X4_take
theorem hy_X4_take : yX4_take.cls ≠ "java/lang/invoke/MethodHandle" ∧ yX4_take.cls ≠ "java/lang/invoke/VarHandle" ∧ (parseMethodDescriptor yX4_take.desc).map (fun d => d.parameters.length) = some 1 := by decide +kernel
set_option maxRecDepth 20000 in
def f_X4_take (v0 : Nat) (v1 : Int32) (S : St) : Option (Int32 × St) := bd (f_X4_atHand v0 S) fun r2 S1 => if r2 = v1 then (if (S1.1 v0 2) < (400 : Int32) then (nm (sI S1 v0 2 ((S1.1 v0 2) + (1 : Int32))) fun S3 => some ((S3.1 v0 2) - (1 : Int32), S3)) else (bd (f_X4_refuse v0 (2 : Int32) S1) fun _ S4 => some (S4.1 v0 2, S4))) else (bd (f_X4_refuse v0 (1 : Int32) S1) fun _ S6 => some (S6.1 v0 2, S6))
set_option maxRecDepth 20000 in
theorem t_X4_take_0 {K : KK} (X : CX K cX4_take 2 RX4 (some .int)) (hR : kR K = rmD 1) (v0 : Nat) (kv0 : KA (kDn K) v0 (0, 4)) (v1 : Int32) (S : St) (w : WT (kDn K) S.2.2) : JX K (Zm K (fun v : Int32 => some (.int v))) 0 [some (.ref v0), some (.int v1)] [] (rwN (kN K) S) (kn K) 0 0 (f_X4_take v0 v1 S) := by
  unfold f_X4_take
  refine J_aload_n X dX4_take_0 (i := 0) rfl rfl ?_
  refine T_callV (As := []) w X (C_X4_atHand (kG K) v0 kv0 S) cb4 kv0 ml_X4_46 in_yX4_atHand se_yX4_atHand ii_RX4 co_yX4_atHand hy_X4_atHand (hRd hR (by decide) (by decide)) rfl (Nat.le_of_ble_eq_true rfl) dX4_take_1 (fun r2 S1 _ wS1 => ?_)
  refine J_iload_n X dX4_take_4 (i := 1) rfl rfl ?_
  refine J_icmp_eq X (tgt := 16) dX4_take_5 (by decide) ?_ ?_
  · refine J_aload_n X dX4_take_16 (i := 0) rfl rfl ?_
    refine T_getI X (kf := 2) cb4 kv0 (by decide) fl_X4_37 (fun _ _ _ => rfl) dX4_take_17 ?_
    refine J_sipush X (v := (400 : Int32)) dX4_take_20 (by decide) ?_
    refine J_icmp_lt X (tgt := 34) dX4_take_23 (by decide) ?_ ?_
    · refine J_aload_n X dX4_take_34 (i := 0) rfl rfl ?_
      refine J_dup X dX4_take_35 rfl ?_
      refine T_getI X (kf := 2) cb4 kv0 (by decide) fl_X4_37 (fun _ _ _ => rfl) dX4_take_36 ?_
      refine J_iconst X (v := (1 : Int32)) dX4_take_39 (by decide) ?_
      refine J_iadd X dX4_take_40 ?_
      refine T_putI X (kf := 2) cb4 kv0 (by decide) fl_X4_37 (fun _ _ _ => rfl) rfl rfl rfl dX4_take_41 (fun S3 hS3 => ?_)
      have wS3 : WT (kDn K) S3.2.2 := by rw [hS3]; exact wS1
      clear hS3
      refine J_aload_n X dX4_take_44 (i := 0) rfl rfl ?_
      refine T_getI X (kf := 2) cb4 kv0 (by decide) fl_X4_37 (fun _ _ _ => rfl) dX4_take_45 ?_
      refine J_iconst X (v := (1 : Int32)) dX4_take_48 (by decide) ?_
      refine J_isub X dX4_take_49 ?_
      exact T_iret wS3 X dX4_take_50
    · refine J_aload_n X dX4_take_26 (i := 0) rfl rfl ?_
      refine J_iconst X (v := (2 : Int32)) dX4_take_27 (by decide) ?_
      refine T_callV (As := [.int (2 : Int32)]) wS1 X (C_X4_refuse (kG K) v0 kv0 (2 : Int32) S1) cb4 kv0 ml_X4_78 in_yX4_refuse se_yX4_refuse ii_RX4 co_yX4_refuse hy_X4_refuse (hRd hR (by decide) (by decide)) rfl (Nat.le_of_ble_eq_true rfl) dX4_take_28 (fun _ S4 _ wS4 => ?_)
      refine J_goto X (tgt := 51) dX4_take_31 (by decide) ?_
      refine J_aload_n X dX4_take_51 (i := 0) rfl rfl ?_
      refine T_getI X (kf := 2) cb4 kv0 (by decide) fl_X4_37 (fun _ _ _ => rfl) dX4_take_52 ?_
      exact T_iret wS4 X dX4_take_55
  · refine J_aload_n X dX4_take_8 (i := 0) rfl rfl ?_
    refine J_iconst X (v := (1 : Int32)) dX4_take_9 (by decide) ?_
    refine T_callV (As := [.int (1 : Int32)]) wS1 X (C_X4_refuse (kG K) v0 kv0 (1 : Int32) S1) cb4 kv0 ml_X4_78 in_yX4_refuse se_yX4_refuse ii_RX4 co_yX4_refuse hy_X4_refuse (hRd hR (by decide) (by decide)) rfl (Nat.le_of_ble_eq_true rfl) dX4_take_10 (fun _ S6 _ wS6 => ?_)
    refine J_goto X (tgt := 51) dX4_take_13 (by decide) ?_
    refine J_aload_n X dX4_take_51 (i := 0) rfl rfl ?_
    refine T_getI X (kf := 2) cb4 kv0 (by decide) fl_X4_37 (fun _ _ _ => rfl) dX4_take_52 ?_
    exact T_iret wS6 X dX4_take_55
theorem C_X4_take (G : GG) (v0 : Nat) (kv0 : KA (gD G) v0 (0, 4)) (v1 : Int32) (S : St) : CM G yX4_take cX4_take 2 (some .int) 1 [.ref v0, .int v1] S (fun v : Int32 => some (.int v)) (f_X4_take v0 v1 S) :=
  CM_of (by decide) (Nat.le_of_ble_eq_true rfl) rfl (fun K hG X hR w => by subst hG; exact t_X4_take_0 X hR v0 kv0 v1 S w)
-- ==== X4_mark
theorem hy_X4_mark : yX4_mark.cls ≠ "java/lang/invoke/MethodHandle" ∧ yX4_mark.cls ≠ "java/lang/invoke/VarHandle" ∧ (parseMethodDescriptor yX4_mark.desc).map (fun d => d.parameters.length) = some 2 := by decide +kernel
set_option maxRecDepth 20000 in
def f_X4_mark (v0 : Nat) (v1 : Int32) (v2 : Int32) (S : St) : Option (Unit × St) := if (S.1 v0 5) = 0 then (nm (sI S v0 5 v1) fun S1 => (ix v2 401).bind fun j2 => nm (sI S1 v0 6 (S1.1 (S1.2.2 (S1.2.2 v0 0) 1) j2)) fun S3 => some ((), S3)) else (some ((), S))
set_option maxRecDepth 20000 in
theorem t_X4_mark_0 {K : KK} (X : CX K cX4_mark 3 RX4 none) (hR : kR K = rmD 0) (v0 : Nat) (kv0 : KA (kDn K) v0 (0, 4)) (v1 : Int32) (v2 : Int32) (S : St) (w : WT (kDn K) S.2.2) : JX K (Zm K (fun _ : Unit => none)) 0 [some (.ref v0), some (.int v1), some (.int v2)] [] (rwN (kN K) S) (kn K) 0 0 (f_X4_mark v0 v1 v2 S) := by
  unfold f_X4_mark
  refine J_aload_n X dX4_mark_0 (i := 0) rfl rfl ?_
  refine T_getI X (kf := 5) cb4 kv0 (by decide) fl_X4_43 (fun _ _ _ => rfl) dX4_mark_1 ?_
  refine J_if_ne X (tgt := 25) dX4_mark_4 (by decide) ?_ ?_
  · refine J_aload_n X dX4_mark_7 (i := 0) rfl rfl ?_
    refine J_iload_n X dX4_mark_8 (i := 1) rfl rfl ?_
    refine T_putI X (kf := 5) cb4 kv0 (by decide) fl_X4_43 (fun _ _ _ => rfl) rfl rfl rfl dX4_mark_9 (fun S1 hS1 => ?_)
    have wS1 : WT (kDn K) S1.2.2 := by rw [hS1]; exact w
    clear hS1
    refine J_aload_n X dX4_mark_12 (i := 0) rfl rfl ?_
    refine J_aload_n X dX4_mark_13 (i := 0) rfl rfl ?_
    refine T_getR X (kf := 0) cb4 kv0 (by decide) fl_X4_14 (fun _ _ _ => rfl) dX4_mark_14 ?_
    refine T_getR X (kf := 1) cb6 (wS1.1 _ _ kv0 0 _ rfl) (by decide) fl_X4_75 (fun _ _ _ => rfl) dX4_mark_17 ?_
    refine J_iload_n X dX4_mark_20 (i := 2) rfl rfl ?_
    refine T_iald X (wS1.1 _ _ (wS1.1 _ _ kv0 0 _ rfl) 1 _ rfl) dX4_mark_21 (fun j2 => ?_)
    refine T_putI X (kf := 6) cb4 kv0 (by decide) fl_X4_68 (fun _ _ _ => rfl) rfl rfl rfl dX4_mark_22 (fun S3 hS3 => ?_)
    have wS3 : WT (kDn K) S3.2.2 := by rw [hS3]; exact wS1
    clear hS3
    exact T_vret wS3 X dX4_mark_25
  · exact T_vret w X dX4_mark_25
theorem C_X4_mark (G : GG) (v0 : Nat) (kv0 : KA (gD G) v0 (0, 4)) (v1 : Int32) (v2 : Int32) (S : St) : CM G yX4_mark cX4_mark 3 none 0 [.ref v0, .int v1, .int v2] S (fun _ : Unit => none) (f_X4_mark v0 v1 v2 S) :=
  CM_of (by decide) (Nat.le_of_ble_eq_true rfl) rfl (fun K hG X hR w => by subst hG; exact t_X4_mark_0 X hR v0 kv0 v1 v2 S w)
-- ==== X4_takeNewName
theorem hy_X4_takeNewName : yX4_takeNewName.cls ≠ "java/lang/invoke/MethodHandle" ∧ yX4_takeNewName.cls ≠ "java/lang/invoke/VarHandle" ∧ (parseMethodDescriptor yX4_takeNewName.desc).map (fun d => d.parameters.length) = some 0 := by decide +kernel
set_option maxRecDepth 20000 in
def b_X4_takeNewName_41 (v0 : Nat) (v1 : Int32) (v2 : Int64) (S : St) : Option (Int64 × St) := bd (f_X4_mark v0 (3 : Int32) v1 S) fun _ S1 => some (v2, S1)
set_option maxRecDepth 20000 in
theorem t_X4_takeNewName_41 {K : KK} (X : CX K cX4_takeNewName 4 RX4 (some .long)) (hR : kR K = rmD 2) (v0 : Nat) (kv0 : KA (kDn K) v0 (0, 4)) (v1 : Int32) (v2 : Int64) (S : St) (w : WT (kDn K) S.2.2) : JX K (Zm K (fun v : Int64 => some (.long v))) 41 [some (.ref v0), some (.int v1), some (.long v2), none] [] (rwN (kN K) S) (kn K) 0 0 (b_X4_takeNewName_41 v0 v1 v2 S) := by
  unfold b_X4_takeNewName_41
  refine J_aload_n X dX4_takeNewName_41 (i := 0) rfl rfl ?_
  refine J_iconst X (v := (3 : Int32)) dX4_takeNewName_42 (by decide) ?_
  refine J_iload_n X dX4_takeNewName_43 (i := 1) rfl rfl ?_
  refine T_callV (As := [.int (3 : Int32), .int v1]) w X (C_X4_mark (kG K) v0 kv0 (3 : Int32) v1 S) cb4 kv0 ml_X4_96 in_yX4_mark se_yX4_mark ii_RX4 co_yX4_mark hy_X4_mark (hRd hR (by decide) (by decide)) rfl (Nat.le_of_ble_eq_true rfl) dX4_takeNewName_44 (fun _ S1 _ wS1 => ?_)
  refine J_lload_n X dX4_takeNewName_47 (i := 2) rfl rfl ?_
  exact T_lret wS1 X dX4_takeNewName_48
set_option maxRecDepth 20000 in
def f_X4_takeNewName (v0 : Nat) (S : St) : Option (Int64 × St) := bd (f_X4_take v0 (21 : Int32) S) fun r2 S1 => (ix r2 401).bind fun j3 => nm (S1.2.1 (S1.2.2 (S1.2.2 v0 0) 2) j3) fun x4 => bd (f_X0_mermaidNamed (S1.2.2 v0 1) x4 S1) fun r6 S5 => if r6 = (-1 : Int32) then (bd (f_X0_personNamed (S5.2.2 v0 1) x4 S5) fun r8 S7 => if r8 = (-1 : Int32) then (some (x4, S7)) else (b_X4_takeNewName_41 v0 r2 x4 S7)) else (b_X4_takeNewName_41 v0 r2 x4 S5)
set_option maxRecDepth 20000 in
theorem t_X4_takeNewName_0 {K : KK} (X : CX K cX4_takeNewName 4 RX4 (some .long)) (hR : kR K = rmD 2) (v0 : Nat) (kv0 : KA (kDn K) v0 (0, 4)) (S : St) (w : WT (kDn K) S.2.2) : JX K (Zm K (fun v : Int64 => some (.long v))) 0 [some (.ref v0), none, none, none] [] (rwN (kN K) S) (kn K) 0 0 (f_X4_takeNewName v0 S) := by
  unfold f_X4_takeNewName
  refine J_aload_n X dX4_takeNewName_0 (i := 0) rfl rfl ?_
  refine J_bipush X (v := (21 : Int32)) dX4_takeNewName_1 (by decide) ?_
  refine T_callV (As := [.int (21 : Int32)]) w X (C_X4_take (kG K) v0 kv0 (21 : Int32) S) cb4 kv0 ml_X4_81 in_yX4_take se_yX4_take ii_RX4 co_yX4_take hy_X4_take (hRd hR (by decide) (by decide)) rfl (Nat.le_of_ble_eq_true rfl) dX4_takeNewName_3 (fun r2 S1 _ wS1 => ?_)
  refine J_istore_n X (i := 1) (ls' := [some (.ref v0), some (.int r2), none, none]) dX4_takeNewName_6 rfl (by decide) rfl ?_
  refine J_aload_n X dX4_takeNewName_7 (i := 0) rfl rfl ?_
  refine T_getR X (kf := 0) cb4 kv0 (by decide) fl_X4_14 (fun _ _ _ => rfl) dX4_takeNewName_8 ?_
  refine T_getR X (kf := 2) cb6 (wS1.1 _ _ kv0 0 _ rfl) (by decide) fl_X4_85 (fun _ _ _ => rfl) dX4_takeNewName_11 ?_
  refine J_iload_n X dX4_takeNewName_14 (i := 1) rfl rfl ?_
  refine T_lald X (wS1.1 _ _ (wS1.1 _ _ kv0 0 _ rfl) 2 _ rfl) dX4_takeNewName_15 (fun j3 => ?_)
  refine J_nml (fun x4 => ?_)
  refine J_lstore_n X (i := 2) (ls' := [some (.ref v0), some (.int r2), some (.long x4), none]) dX4_takeNewName_16 rfl (by decide) rfl rfl ?_
  refine J_aload_n X dX4_takeNewName_17 (i := 0) rfl rfl ?_
  refine T_getR X (kf := 1) cb4 kv0 (by decide) fl_X4_20 (fun _ _ _ => rfl) dX4_takeNewName_18 ?_
  refine J_lload_n X dX4_takeNewName_21 (i := 2) rfl rfl ?_
  refine T_callV (As := [.long x4]) wS1 X (C_X0_mermaidNamed (kG K) (S1.2.2 v0 1) (wS1.1 _ _ kv0 1 _ rfl) x4 S1) cb0 (wS1.1 _ _ kv0 1 _ rfl) ml_X4_89 in_yX0_mermaidNamed se_yX0_mermaidNamed ii_RX0 co_yX0_mermaidNamed hy_X0_mermaidNamed (hRd hR (by decide) (by decide)) rfl (Nat.le_of_ble_eq_true rfl) dX4_takeNewName_22 (fun r6 S5 _ wS5 => ?_)
  refine J_iconst X (v := (-1 : Int32)) dX4_takeNewName_25 (by decide) ?_
  refine J_icmp_ne X (tgt := 41) dX4_takeNewName_26 (by decide) ?_ ?_
  · refine J_aload_n X dX4_takeNewName_29 (i := 0) rfl rfl ?_
    refine T_getR X (kf := 1) cb4 kv0 (by decide) fl_X4_20 (fun _ _ _ => rfl) dX4_takeNewName_30 ?_
    refine J_lload_n X dX4_takeNewName_33 (i := 2) rfl rfl ?_
    refine T_callV (As := [.long x4]) wS5 X (C_X0_personNamed (kG K) (S5.2.2 v0 1) (wS5.1 _ _ kv0 1 _ rfl) x4 S5) cb0 (wS5.1 _ _ kv0 1 _ rfl) ml_X4_93 in_yX0_personNamed se_yX0_personNamed ii_RX0 co_yX0_personNamed hy_X0_personNamed (hRd hR (by decide) (by decide)) rfl (Nat.le_of_ble_eq_true rfl) dX4_takeNewName_34 (fun r8 S7 _ wS7 => ?_)
    refine J_iconst X (v := (-1 : Int32)) dX4_takeNewName_37 (by decide) ?_
    refine J_icmp_eq X (tgt := 47) dX4_takeNewName_38 (by decide) ?_ ?_
    · refine J_lload_n X dX4_takeNewName_47 (i := 2) rfl rfl ?_
      exact T_lret wS7 X dX4_takeNewName_48
    · exact t_X4_takeNewName_41 X hR v0 kv0 r2 x4 S7 wS7
  · exact t_X4_takeNewName_41 X hR v0 kv0 r2 x4 S5 wS5
theorem C_X4_takeNewName (G : GG) (v0 : Nat) (kv0 : KA (gD G) v0 (0, 4)) (S : St) : CM G yX4_takeNewName cX4_takeNewName 4 (some .long) 2 [.ref v0] S (fun v : Int64 => some (.long v)) (f_X4_takeNewName v0 S) :=
  CM_of (by decide) (Nat.le_of_ble_eq_true rfl) rfl (fun K hG X hR w => by subst hG; exact t_X4_takeNewName_0 X hR v0 kv0 S w)
-- ==== X4_takeNumber
theorem hy_X4_takeNumber : yX4_takeNumber.cls ≠ "java/lang/invoke/MethodHandle" ∧ yX4_takeNumber.cls ≠ "java/lang/invoke/VarHandle" ∧ (parseMethodDescriptor yX4_takeNumber.desc).map (fun d => d.parameters.length) = some 3 := by decide +kernel
set_option maxRecDepth 20000 in
def b_X4_takeNumber_35 (v0 : Nat) (v4 : Int32) (v5 : Int32) (S : St) : Option (Int32 × St) := bd (f_X4_mark v0 (5 : Int32) v4 S) fun _ S1 => some (v5, S1)
set_option maxRecDepth 20000 in
theorem t_X4_takeNumber_35 {K : KK} (X : CX K cX4_takeNumber 6 RX4 (some .int)) (hR : kR K = rmD 2) (v0 : Nat) (kv0 : KA (kDn K) v0 (0, 4)) (v4 : Int32) (v5 : Int32) (S : St) (w : WT (kDn K) S.2.2) : JX K (Zm K (fun v : Int32 => some (.int v))) 35 [some (.ref v0), none, none, none, some (.int v4), some (.int v5)] [] (rwN (kN K) S) (kn K) 0 0 (b_X4_takeNumber_35 v0 v4 v5 S) := by
  unfold b_X4_takeNumber_35
  refine J_aload_n X dX4_takeNumber_35 (i := 0) rfl rfl ?_
  refine J_iconst X (v := (5 : Int32)) dX4_takeNumber_36 (by decide) ?_
  refine J_iload X dX4_takeNumber_37 rfl ?_
  refine T_callV (As := [.int (5 : Int32), .int v4]) w X (C_X4_mark (kG K) v0 kv0 (5 : Int32) v4 S) cb4 kv0 ml_X4_96 in_yX4_mark se_yX4_mark ii_RX4 co_yX4_mark hy_X4_mark (hRd hR (by decide) (by decide)) rfl (Nat.le_of_ble_eq_true rfl) dX4_takeNumber_39 (fun _ S1 _ wS1 => ?_)
  refine J_iload X dX4_takeNumber_42 rfl ?_
  exact T_iret wS1 X dX4_takeNumber_44
set_option maxRecDepth 20000 in
def f_X4_takeNumber (v0 : Nat) (v1 : Int32) (v2 : Int32) (v3 : Int32) (S : St) : Option (Int32 × St) := bd (f_X4_take v0 (22 : Int32) S) fun r2 S1 => (ix r2 401).bind fun j3 => nm (v1 * ((S1.2.1 (S1.2.2 (S1.2.2 v0 0) 2) j3).toInt32)) fun x4 => if x4 < v2 then (b_X4_takeNumber_35 v0 r2 x4 S1) else (if x4 ≤ v3 then (some (x4, S1)) else (b_X4_takeNumber_35 v0 r2 x4 S1))
set_option maxRecDepth 20000 in
theorem t_X4_takeNumber_0 {K : KK} (X : CX K cX4_takeNumber 6 RX4 (some .int)) (hR : kR K = rmD 2) (v0 : Nat) (kv0 : KA (kDn K) v0 (0, 4)) (v1 : Int32) (v2 : Int32) (v3 : Int32) (S : St) (w : WT (kDn K) S.2.2) : JX K (Zm K (fun v : Int32 => some (.int v))) 0 [some (.ref v0), some (.int v1), some (.int v2), some (.int v3), none, none] [] (rwN (kN K) S) (kn K) 0 0 (f_X4_takeNumber v0 v1 v2 v3 S) := by
  unfold f_X4_takeNumber
  refine J_aload_n X dX4_takeNumber_0 (i := 0) rfl rfl ?_
  refine J_bipush X (v := (22 : Int32)) dX4_takeNumber_1 (by decide) ?_
  refine T_callV (As := [.int (22 : Int32)]) w X (C_X4_take (kG K) v0 kv0 (22 : Int32) S) cb4 kv0 ml_X4_81 in_yX4_take se_yX4_take ii_RX4 co_yX4_take hy_X4_take (hRd hR (by decide) (by decide)) rfl (Nat.le_of_ble_eq_true rfl) dX4_takeNumber_3 (fun r2 S1 _ wS1 => ?_)
  refine J_istore X (ls' := [some (.ref v0), some (.int v1), some (.int v2), some (.int v3), some (.int r2), none]) dX4_takeNumber_6 (by decide) rfl ?_
  refine J_iload_n X dX4_takeNumber_8 (i := 1) rfl rfl ?_
  refine J_aload_n X dX4_takeNumber_9 (i := 0) rfl rfl ?_
  refine T_getR X (kf := 0) cb4 kv0 (by decide) fl_X4_14 (fun _ _ _ => rfl) dX4_takeNumber_10 ?_
  refine T_getR X (kf := 2) cb6 (wS1.1 _ _ kv0 0 _ rfl) (by decide) fl_X4_85 (fun _ _ _ => rfl) dX4_takeNumber_13 ?_
  refine J_iload X dX4_takeNumber_16 rfl ?_
  refine T_lald X (wS1.1 _ _ (wS1.1 _ _ kv0 0 _ rfl) 2 _ rfl) dX4_takeNumber_18 (fun j3 => ?_)
  refine J_l2i X dX4_takeNumber_19 ?_
  refine J_imul X dX4_takeNumber_20 ?_
  refine J_nmi (fun x4 => ?_)
  refine J_istore X (ls' := [some (.ref v0), some (.int v1), some (.int v2), some (.int v3), some (.int r2), some (.int x4)]) dX4_takeNumber_21 (by decide) rfl ?_
  refine J_iload X dX4_takeNumber_23 rfl ?_
  refine J_iload_n X dX4_takeNumber_25 (i := 2) rfl rfl ?_
  refine J_icmp_lt X (tgt := 35) dX4_takeNumber_26 (by decide) ?_ ?_
  · refine J_mask [true, false, false, false, true, true] ?_
    exact t_X4_takeNumber_35 X hR v0 kv0 r2 x4 S1 wS1
  · refine J_iload X dX4_takeNumber_29 rfl ?_
    refine J_iload_n X dX4_takeNumber_31 (i := 3) rfl rfl ?_
    refine J_icmp_le X (tgt := 42) dX4_takeNumber_32 (by decide) ?_ ?_
    · refine J_iload X dX4_takeNumber_42 rfl ?_
      exact T_iret wS1 X dX4_takeNumber_44
    · refine J_mask [true, false, false, false, true, true] ?_
      exact t_X4_takeNumber_35 X hR v0 kv0 r2 x4 S1 wS1
theorem C_X4_takeNumber (G : GG) (v0 : Nat) (kv0 : KA (gD G) v0 (0, 4)) (v1 : Int32) (v2 : Int32) (v3 : Int32) (S : St) : CM G yX4_takeNumber cX4_takeNumber 6 (some .int) 2 [.ref v0, .int v1, .int v2, .int v3] S (fun v : Int32 => some (.int v)) (f_X4_takeNumber v0 v1 v2 v3 S) :=
  CM_of (by decide) (Nat.le_of_ble_eq_true rfl) rfl (fun K hG X hR w => by subst hG; exact t_X4_takeNumber_0 X hR v0 kv0 v1 v2 v3 S w)
-- ==== X4_takeStep
theorem hy_X4_takeStep : yX4_takeStep.cls ≠ "java/lang/invoke/MethodHandle" ∧ yX4_takeStep.cls ≠ "java/lang/invoke/VarHandle" ∧ (parseMethodDescriptor yX4_takeStep.desc).map (fun d => d.parameters.length) = some 0 := by decide +kernel
set_option maxRecDepth 20000 in
def b_X4_takeStep_20 (v0 : Nat) (v1 : Int32) (S : St) : Option (Int32 × St) := bd (f_X4_takeNumber v0 v1 (-3 : Int32) (3 : Int32) S) fun r2 S1 => some (r2, S1)
set_option maxRecDepth 20000 in
theorem t_X4_takeStep_20 {K : KK} (X : CX K cX4_takeStep 2 RX4 (some .int)) (hR : kR K = rmD 3) (v0 : Nat) (kv0 : KA (kDn K) v0 (0, 4)) (v1 : Int32) (S : St) (w : WT (kDn K) S.2.2) : JX K (Zm K (fun v : Int32 => some (.int v))) 20 [some (.ref v0), some (.int v1)] [] (rwN (kN K) S) (kn K) 0 0 (b_X4_takeStep_20 v0 v1 S) := by
  unfold b_X4_takeStep_20
  refine J_aload_n X dX4_takeStep_20 (i := 0) rfl rfl ?_
  refine J_iload_n X dX4_takeStep_21 (i := 1) rfl rfl ?_
  refine J_bipush X (v := (-3 : Int32)) dX4_takeStep_22 (by decide) ?_
  refine J_iconst X (v := (3 : Int32)) dX4_takeStep_24 (by decide) ?_
  refine T_callV (As := [.int v1, .int (-3 : Int32), .int (3 : Int32)]) w X (C_X4_takeNumber (kG K) v0 kv0 v1 (-3 : Int32) (3 : Int32) S) cb4 kv0 ml_X4_100 in_yX4_takeNumber se_yX4_takeNumber ii_RX4 co_yX4_takeNumber hy_X4_takeNumber (hRd hR (by decide) (by decide)) rfl (Nat.le_of_ble_eq_true rfl) dX4_takeStep_25 (fun r2 S1 _ wS1 => ?_)
  exact T_iret wS1 X dX4_takeStep_28
set_option maxRecDepth 20000 in
def f_X4_takeStep (v0 : Nat) (S : St) : Option (Int32 × St) := bd (f_X4_atHand v0 S) fun r2 S1 => if r2 = (45 : Int32) then (bd (f_X4_take v0 (45 : Int32) S1) fun r4 S3 => b_X4_takeStep_20 v0 (-1 : Int32) S3) else (b_X4_takeStep_20 v0 (1 : Int32) S1)
set_option maxRecDepth 20000 in
theorem t_X4_takeStep_0 {K : KK} (X : CX K cX4_takeStep 2 RX4 (some .int)) (hR : kR K = rmD 3) (v0 : Nat) (kv0 : KA (kDn K) v0 (0, 4)) (S : St) (w : WT (kDn K) S.2.2) : JX K (Zm K (fun v : Int32 => some (.int v))) 0 [some (.ref v0), none] [] (rwN (kN K) S) (kn K) 0 0 (f_X4_takeStep v0 S) := by
  unfold f_X4_takeStep
  refine J_iconst X (v := (1 : Int32)) dX4_takeStep_0 (by decide) ?_
  refine J_istore_n X (i := 1) (ls' := [some (.ref v0), some (.int (1 : Int32))]) dX4_takeStep_1 rfl (by decide) rfl ?_
  refine J_aload_n X dX4_takeStep_2 (i := 0) rfl rfl ?_
  refine T_callV (As := []) w X (C_X4_atHand (kG K) v0 kv0 S) cb4 kv0 ml_X4_46 in_yX4_atHand se_yX4_atHand ii_RX4 co_yX4_atHand hy_X4_atHand (hRd hR (by decide) (by decide)) rfl (Nat.le_of_ble_eq_true rfl) dX4_takeStep_3 (fun r2 S1 _ wS1 => ?_)
  refine J_bipush X (v := (45 : Int32)) dX4_takeStep_6 (by decide) ?_
  refine J_icmp_ne X (tgt := 20) dX4_takeStep_8 (by decide) ?_ ?_
  · refine J_aload_n X dX4_takeStep_11 (i := 0) rfl rfl ?_
    refine J_bipush X (v := (45 : Int32)) dX4_takeStep_12 (by decide) ?_
    refine T_callV (As := [.int (45 : Int32)]) wS1 X (C_X4_take (kG K) v0 kv0 (45 : Int32) S1) cb4 kv0 ml_X4_81 in_yX4_take se_yX4_take ii_RX4 co_yX4_take hy_X4_take (hRd hR (by decide) (by decide)) rfl (Nat.le_of_ble_eq_true rfl) dX4_takeStep_14 (fun r4 S3 _ wS3 => ?_)
    refine J_pop X dX4_takeStep_17 rfl ?_
    refine J_iconst X (v := (-1 : Int32)) dX4_takeStep_18 (by decide) ?_
    refine J_istore_n X (i := 1) (ls' := [some (.ref v0), some (.int (-1 : Int32))]) dX4_takeStep_19 rfl (by decide) rfl ?_
    exact t_X4_takeStep_20 X hR v0 kv0 (-1 : Int32) S3 wS3
  · exact t_X4_takeStep_20 X hR v0 kv0 (1 : Int32) S1 wS1
theorem C_X4_takeStep (G : GG) (v0 : Nat) (kv0 : KA (gD G) v0 (0, 4)) (S : St) : CM G yX4_takeStep cX4_takeStep 2 (some .int) 3 [.ref v0] S (fun v : Int32 => some (.int v)) (f_X4_takeStep v0 S) :=
  CM_of (by decide) (Nat.le_of_ble_eq_true rfl) rfl (fun K hG X hR w => by subst hG; exact t_X4_takeStep_0 X hR v0 kv0 S w)
-- ==== X4_readMermaid
theorem hy_X4_readMermaid : yX4_readMermaid.cls ≠ "java/lang/invoke/MethodHandle" ∧ yX4_readMermaid.cls ≠ "java/lang/invoke/VarHandle" ∧ (parseMethodDescriptor yX4_readMermaid.desc).map (fun d => d.parameters.length) = some 0 := by decide +kernel
set_option maxRecDepth 20000 in
def b_X4_readMermaid_16 (v0 : Nat) (S : St) : Option (Unit × St) := bd (f_X4_take v0 (0 : Int32) S) fun r2 S1 => bd (f_X4_takeNewName v0 S1) fun r4 S3 => bd (f_X4_takeNumber v0 (1 : Int32) (0 : Int32) (9 : Int32) S3) fun r6 S5 => bd (f_X4_takeNumber v0 (1 : Int32) (0 : Int32) (9 : Int32) S5) fun r8 S7 => bd (f_X4_takeStep v0 S7) fun r10 S9 => bd (f_X4_takeStep v0 S9) fun r12 S11 => bd (f_X4_take v0 (59 : Int32) S11) fun r14 S13 => bd (f_X0_addMermaid (S13.2.2 v0 1) r4 r6 r8 r10 r12 S13) fun _ S15 => some ((), S15)
set_option maxRecDepth 20000 in
theorem t_X4_readMermaid_16 {K : KK} (X : CX K cX4_readMermaid 7 RX4 none) (hR : kR K = rmD 4) (v0 : Nat) (kv0 : KA (kDn K) v0 (0, 4)) (S : St) (w : WT (kDn K) S.2.2) : JX K (Zm K (fun _ : Unit => none)) 16 [some (.ref v0), none, none, none, none, none, none] [] (rwN (kN K) S) (kn K) 0 0 (b_X4_readMermaid_16 v0 S) := by
  unfold b_X4_readMermaid_16
  refine J_aload_n X dX4_readMermaid_16 (i := 0) rfl rfl ?_
  refine J_iconst X (v := (0 : Int32)) dX4_readMermaid_17 (by decide) ?_
  refine T_callV (As := [.int (0 : Int32)]) w X (C_X4_take (kG K) v0 kv0 (0 : Int32) S) cb4 kv0 ml_X4_81 in_yX4_take se_yX4_take ii_RX4 co_yX4_take hy_X4_take (hRd hR (by decide) (by decide)) rfl (Nat.le_of_ble_eq_true rfl) dX4_readMermaid_18 (fun r2 S1 _ wS1 => ?_)
  refine J_pop X dX4_readMermaid_21 rfl ?_
  refine J_aload_n X dX4_readMermaid_22 (i := 0) rfl rfl ?_
  refine T_callV (As := []) wS1 X (C_X4_takeNewName (kG K) v0 kv0 S1) cb4 kv0 ml_X4_107 in_yX4_takeNewName se_yX4_takeNewName ii_RX4 co_yX4_takeNewName hy_X4_takeNewName (hRd hR (by decide) (by decide)) rfl (Nat.le_of_ble_eq_true rfl) dX4_readMermaid_23 (fun r4 S3 _ wS3 => ?_)
  refine J_lstore_n X (i := 1) (ls' := [some (.ref v0), some (.long r4), none, none, none, none, none]) dX4_readMermaid_26 rfl (by decide) rfl rfl ?_
  refine J_aload_n X dX4_readMermaid_27 (i := 0) rfl rfl ?_
  refine J_iconst X (v := (1 : Int32)) dX4_readMermaid_28 (by decide) ?_
  refine J_iconst X (v := (0 : Int32)) dX4_readMermaid_29 (by decide) ?_
  refine J_bipush X (v := (9 : Int32)) dX4_readMermaid_30 (by decide) ?_
  refine T_callV (As := [.int (1 : Int32), .int (0 : Int32), .int (9 : Int32)]) wS3 X (C_X4_takeNumber (kG K) v0 kv0 (1 : Int32) (0 : Int32) (9 : Int32) S3) cb4 kv0 ml_X4_100 in_yX4_takeNumber se_yX4_takeNumber ii_RX4 co_yX4_takeNumber hy_X4_takeNumber (hRd hR (by decide) (by decide)) rfl (Nat.le_of_ble_eq_true rfl) dX4_readMermaid_32 (fun r6 S5 _ wS5 => ?_)
  refine J_istore_n X (i := 3) (ls' := [some (.ref v0), some (.long r4), none, some (.int r6), none, none, none]) dX4_readMermaid_35 rfl (by decide) rfl ?_
  refine J_aload_n X dX4_readMermaid_36 (i := 0) rfl rfl ?_
  refine J_iconst X (v := (1 : Int32)) dX4_readMermaid_37 (by decide) ?_
  refine J_iconst X (v := (0 : Int32)) dX4_readMermaid_38 (by decide) ?_
  refine J_bipush X (v := (9 : Int32)) dX4_readMermaid_39 (by decide) ?_
  refine T_callV (As := [.int (1 : Int32), .int (0 : Int32), .int (9 : Int32)]) wS5 X (C_X4_takeNumber (kG K) v0 kv0 (1 : Int32) (0 : Int32) (9 : Int32) S5) cb4 kv0 ml_X4_100 in_yX4_takeNumber se_yX4_takeNumber ii_RX4 co_yX4_takeNumber hy_X4_takeNumber (hRd hR (by decide) (by decide)) rfl (Nat.le_of_ble_eq_true rfl) dX4_readMermaid_41 (fun r8 S7 _ wS7 => ?_)
  refine J_istore X (ls' := [some (.ref v0), some (.long r4), none, some (.int r6), some (.int r8), none, none]) dX4_readMermaid_44 (by decide) rfl ?_
  refine J_aload_n X dX4_readMermaid_46 (i := 0) rfl rfl ?_
  refine T_callV (As := []) wS7 X (C_X4_takeStep (kG K) v0 kv0 S7) cb4 kv0 ml_X4_111 in_yX4_takeStep se_yX4_takeStep ii_RX4 co_yX4_takeStep hy_X4_takeStep (hRd hR (by decide) (by decide)) rfl (Nat.le_of_ble_eq_true rfl) dX4_readMermaid_47 (fun r10 S9 _ wS9 => ?_)
  refine J_istore X (ls' := [some (.ref v0), some (.long r4), none, some (.int r6), some (.int r8), some (.int r10), none]) dX4_readMermaid_50 (by decide) rfl ?_
  refine J_aload_n X dX4_readMermaid_52 (i := 0) rfl rfl ?_
  refine T_callV (As := []) wS9 X (C_X4_takeStep (kG K) v0 kv0 S9) cb4 kv0 ml_X4_111 in_yX4_takeStep se_yX4_takeStep ii_RX4 co_yX4_takeStep hy_X4_takeStep (hRd hR (by decide) (by decide)) rfl (Nat.le_of_ble_eq_true rfl) dX4_readMermaid_53 (fun r12 S11 _ wS11 => ?_)
  refine J_istore X (ls' := [some (.ref v0), some (.long r4), none, some (.int r6), some (.int r8), some (.int r10), some (.int r12)]) dX4_readMermaid_56 (by decide) rfl ?_
  refine J_aload_n X dX4_readMermaid_58 (i := 0) rfl rfl ?_
  refine J_bipush X (v := (59 : Int32)) dX4_readMermaid_59 (by decide) ?_
  refine T_callV (As := [.int (59 : Int32)]) wS11 X (C_X4_take (kG K) v0 kv0 (59 : Int32) S11) cb4 kv0 ml_X4_81 in_yX4_take se_yX4_take ii_RX4 co_yX4_take hy_X4_take (hRd hR (by decide) (by decide)) rfl (Nat.le_of_ble_eq_true rfl) dX4_readMermaid_61 (fun r14 S13 _ wS13 => ?_)
  refine J_pop X dX4_readMermaid_64 rfl ?_
  refine J_aload_n X dX4_readMermaid_65 (i := 0) rfl rfl ?_
  refine T_getR X (kf := 1) cb4 kv0 (by decide) fl_X4_20 (fun _ _ _ => rfl) dX4_readMermaid_66 ?_
  refine J_lload_n X dX4_readMermaid_69 (i := 1) rfl rfl ?_
  refine J_iload_n X dX4_readMermaid_70 (i := 3) rfl rfl ?_
  refine J_iload X dX4_readMermaid_71 rfl ?_
  refine J_iload X dX4_readMermaid_73 rfl ?_
  refine J_iload X dX4_readMermaid_75 rfl ?_
  refine T_callV (As := [.long r4, .int r6, .int r8, .int r10, .int r12]) wS13 X (C_X0_addMermaid (kG K) (S13.2.2 v0 1) (wS13.1 _ _ kv0 1 _ rfl) r4 r6 r8 r10 r12 S13) cb0 (wS13.1 _ _ kv0 1 _ rfl) ml_X4_114 in_yX0_addMermaid se_yX0_addMermaid ii_RX0 co_yX0_addMermaid hy_X0_addMermaid (hRd hR (by decide) (by decide)) rfl (Nat.le_of_ble_eq_true rfl) dX4_readMermaid_77 (fun _ S15 _ wS15 => ?_)
  exact T_vret wS15 X dX4_readMermaid_80
set_option maxRecDepth 20000 in
def f_X4_readMermaid (v0 : Nat) (S : St) : Option (Unit × St) := if (S.1 (S.2.2 v0 1) 0) < (4 : Int32) then (b_X4_readMermaid_16 v0 S) else (bd (f_X4_refuse v0 (2 : Int32) S) fun _ S1 => b_X4_readMermaid_16 v0 S1)
set_option maxRecDepth 20000 in
theorem t_X4_readMermaid_0 {K : KK} (X : CX K cX4_readMermaid 7 RX4 none) (hR : kR K = rmD 4) (v0 : Nat) (kv0 : KA (kDn K) v0 (0, 4)) (S : St) (w : WT (kDn K) S.2.2) : JX K (Zm K (fun _ : Unit => none)) 0 [some (.ref v0), none, none, none, none, none, none] [] (rwN (kN K) S) (kn K) 0 0 (f_X4_readMermaid v0 S) := by
  unfold f_X4_readMermaid
  refine J_aload_n X dX4_readMermaid_0 (i := 0) rfl rfl ?_
  refine T_getR X (kf := 1) cb4 kv0 (by decide) fl_X4_20 (fun _ _ _ => rfl) dX4_readMermaid_1 ?_
  refine T_getI X (kf := 0) cb0 (w.1 _ _ kv0 1 _ rfl) (by decide) fl_X4_104 (fun _ _ _ => rfl) dX4_readMermaid_4 ?_
  refine J_iconst X (v := (4 : Int32)) dX4_readMermaid_7 (by decide) ?_
  refine J_icmp_lt X (tgt := 16) dX4_readMermaid_8 (by decide) ?_ ?_
  · exact t_X4_readMermaid_16 X hR v0 kv0 S w
  · refine J_aload_n X dX4_readMermaid_11 (i := 0) rfl rfl ?_
    refine J_iconst X (v := (2 : Int32)) dX4_readMermaid_12 (by decide) ?_
    refine T_callV (As := [.int (2 : Int32)]) w X (C_X4_refuse (kG K) v0 kv0 (2 : Int32) S) cb4 kv0 ml_X4_78 in_yX4_refuse se_yX4_refuse ii_RX4 co_yX4_refuse hy_X4_refuse (hRd hR (by decide) (by decide)) rfl (Nat.le_of_ble_eq_true rfl) dX4_readMermaid_13 (fun _ S1 _ wS1 => ?_)
    exact t_X4_readMermaid_16 X hR v0 kv0 S1 wS1
theorem C_X4_readMermaid (G : GG) (v0 : Nat) (kv0 : KA (gD G) v0 (0, 4)) (S : St) : CM G yX4_readMermaid cX4_readMermaid 7 none 4 [.ref v0] S (fun _ : Unit => none) (f_X4_readMermaid v0 S) :=
  CM_of (by decide) (Nat.le_of_ble_eq_true rfl) rfl (fun K hG X hR w => by subst hG; exact t_X4_readMermaid_0 X hR v0 kv0 S w)
-- ==== X4_readPerson
theorem hy_X4_readPerson : yX4_readPerson.cls ≠ "java/lang/invoke/MethodHandle" ∧ yX4_readPerson.cls ≠ "java/lang/invoke/VarHandle" ∧ (parseMethodDescriptor yX4_readPerson.desc).map (fun d => d.parameters.length) = some 0 := by decide +kernel
set_option maxRecDepth 20000 in
def b_X4_readPerson_17 (v0 : Nat) (S : St) : Option (Unit × St) := bd (f_X4_take v0 (1 : Int32) S) fun r2 S1 => bd (f_X4_takeNewName v0 S1) fun r4 S3 => bd (f_X4_takeNumber v0 (1 : Int32) (0 : Int32) (9 : Int32) S3) fun r6 S5 => bd (f_X4_takeNumber v0 (1 : Int32) (0 : Int32) (9 : Int32) S5) fun r8 S7 => bd (f_X4_takeNumber v0 (1 : Int32) (1 : Int32) (99 : Int32) S7) fun r10 S9 => bd (f_X4_take v0 (59 : Int32) S9) fun r12 S11 => bd (f_X0_addPerson (S11.2.2 v0 1) r4 r6 r8 r10 S11) fun _ S13 => some ((), S13)
set_option maxRecDepth 20000 in
theorem t_X4_readPerson_17 {K : KK} (X : CX K cX4_readPerson 6 RX4 none) (hR : kR K = rmD 3) (v0 : Nat) (kv0 : KA (kDn K) v0 (0, 4)) (S : St) (w : WT (kDn K) S.2.2) : JX K (Zm K (fun _ : Unit => none)) 17 [some (.ref v0), none, none, none, none, none] [] (rwN (kN K) S) (kn K) 0 0 (b_X4_readPerson_17 v0 S) := by
  unfold b_X4_readPerson_17
  refine J_aload_n X dX4_readPerson_17 (i := 0) rfl rfl ?_
  refine J_iconst X (v := (1 : Int32)) dX4_readPerson_18 (by decide) ?_
  refine T_callV (As := [.int (1 : Int32)]) w X (C_X4_take (kG K) v0 kv0 (1 : Int32) S) cb4 kv0 ml_X4_81 in_yX4_take se_yX4_take ii_RX4 co_yX4_take hy_X4_take (hRd hR (by decide) (by decide)) rfl (Nat.le_of_ble_eq_true rfl) dX4_readPerson_19 (fun r2 S1 _ wS1 => ?_)
  refine J_pop X dX4_readPerson_22 rfl ?_
  refine J_aload_n X dX4_readPerson_23 (i := 0) rfl rfl ?_
  refine T_callV (As := []) wS1 X (C_X4_takeNewName (kG K) v0 kv0 S1) cb4 kv0 ml_X4_107 in_yX4_takeNewName se_yX4_takeNewName ii_RX4 co_yX4_takeNewName hy_X4_takeNewName (hRd hR (by decide) (by decide)) rfl (Nat.le_of_ble_eq_true rfl) dX4_readPerson_24 (fun r4 S3 _ wS3 => ?_)
  refine J_lstore_n X (i := 1) (ls' := [some (.ref v0), some (.long r4), none, none, none, none]) dX4_readPerson_27 rfl (by decide) rfl rfl ?_
  refine J_aload_n X dX4_readPerson_28 (i := 0) rfl rfl ?_
  refine J_iconst X (v := (1 : Int32)) dX4_readPerson_29 (by decide) ?_
  refine J_iconst X (v := (0 : Int32)) dX4_readPerson_30 (by decide) ?_
  refine J_bipush X (v := (9 : Int32)) dX4_readPerson_31 (by decide) ?_
  refine T_callV (As := [.int (1 : Int32), .int (0 : Int32), .int (9 : Int32)]) wS3 X (C_X4_takeNumber (kG K) v0 kv0 (1 : Int32) (0 : Int32) (9 : Int32) S3) cb4 kv0 ml_X4_100 in_yX4_takeNumber se_yX4_takeNumber ii_RX4 co_yX4_takeNumber hy_X4_takeNumber (hRd hR (by decide) (by decide)) rfl (Nat.le_of_ble_eq_true rfl) dX4_readPerson_33 (fun r6 S5 _ wS5 => ?_)
  refine J_istore_n X (i := 3) (ls' := [some (.ref v0), some (.long r4), none, some (.int r6), none, none]) dX4_readPerson_36 rfl (by decide) rfl ?_
  refine J_aload_n X dX4_readPerson_37 (i := 0) rfl rfl ?_
  refine J_iconst X (v := (1 : Int32)) dX4_readPerson_38 (by decide) ?_
  refine J_iconst X (v := (0 : Int32)) dX4_readPerson_39 (by decide) ?_
  refine J_bipush X (v := (9 : Int32)) dX4_readPerson_40 (by decide) ?_
  refine T_callV (As := [.int (1 : Int32), .int (0 : Int32), .int (9 : Int32)]) wS5 X (C_X4_takeNumber (kG K) v0 kv0 (1 : Int32) (0 : Int32) (9 : Int32) S5) cb4 kv0 ml_X4_100 in_yX4_takeNumber se_yX4_takeNumber ii_RX4 co_yX4_takeNumber hy_X4_takeNumber (hRd hR (by decide) (by decide)) rfl (Nat.le_of_ble_eq_true rfl) dX4_readPerson_42 (fun r8 S7 _ wS7 => ?_)
  refine J_istore X (ls' := [some (.ref v0), some (.long r4), none, some (.int r6), some (.int r8), none]) dX4_readPerson_45 (by decide) rfl ?_
  refine J_aload_n X dX4_readPerson_47 (i := 0) rfl rfl ?_
  refine J_iconst X (v := (1 : Int32)) dX4_readPerson_48 (by decide) ?_
  refine J_iconst X (v := (1 : Int32)) dX4_readPerson_49 (by decide) ?_
  refine J_bipush X (v := (99 : Int32)) dX4_readPerson_50 (by decide) ?_
  refine T_callV (As := [.int (1 : Int32), .int (1 : Int32), .int (99 : Int32)]) wS7 X (C_X4_takeNumber (kG K) v0 kv0 (1 : Int32) (1 : Int32) (99 : Int32) S7) cb4 kv0 ml_X4_100 in_yX4_takeNumber se_yX4_takeNumber ii_RX4 co_yX4_takeNumber hy_X4_takeNumber (hRd hR (by decide) (by decide)) rfl (Nat.le_of_ble_eq_true rfl) dX4_readPerson_52 (fun r10 S9 _ wS9 => ?_)
  refine J_istore X (ls' := [some (.ref v0), some (.long r4), none, some (.int r6), some (.int r8), some (.int r10)]) dX4_readPerson_55 (by decide) rfl ?_
  refine J_aload_n X dX4_readPerson_57 (i := 0) rfl rfl ?_
  refine J_bipush X (v := (59 : Int32)) dX4_readPerson_58 (by decide) ?_
  refine T_callV (As := [.int (59 : Int32)]) wS9 X (C_X4_take (kG K) v0 kv0 (59 : Int32) S9) cb4 kv0 ml_X4_81 in_yX4_take se_yX4_take ii_RX4 co_yX4_take hy_X4_take (hRd hR (by decide) (by decide)) rfl (Nat.le_of_ble_eq_true rfl) dX4_readPerson_60 (fun r12 S11 _ wS11 => ?_)
  refine J_pop X dX4_readPerson_63 rfl ?_
  refine J_aload_n X dX4_readPerson_64 (i := 0) rfl rfl ?_
  refine T_getR X (kf := 1) cb4 kv0 (by decide) fl_X4_20 (fun _ _ _ => rfl) dX4_readPerson_65 ?_
  refine J_lload_n X dX4_readPerson_68 (i := 1) rfl rfl ?_
  refine J_iload_n X dX4_readPerson_69 (i := 3) rfl rfl ?_
  refine J_iload X dX4_readPerson_70 rfl ?_
  refine J_iload X dX4_readPerson_72 rfl ?_
  refine T_callV (As := [.long r4, .int r6, .int r8, .int r10]) wS11 X (C_X0_addPerson (kG K) (S11.2.2 v0 1) (wS11.1 _ _ kv0 1 _ rfl) r4 r6 r8 r10 S11) cb0 (wS11.1 _ _ kv0 1 _ rfl) ml_X4_121 in_yX0_addPerson se_yX0_addPerson ii_RX0 co_yX0_addPerson hy_X0_addPerson (hRd hR (by decide) (by decide)) rfl (Nat.le_of_ble_eq_true rfl) dX4_readPerson_74 (fun _ S13 _ wS13 => ?_)
  exact T_vret wS13 X dX4_readPerson_77
set_option maxRecDepth 20000 in
def f_X4_readPerson (v0 : Nat) (S : St) : Option (Unit × St) := if (S.1 (S.2.2 v0 1) 1) < (6 : Int32) then (b_X4_readPerson_17 v0 S) else (bd (f_X4_refuse v0 (2 : Int32) S) fun _ S1 => b_X4_readPerson_17 v0 S1)
set_option maxRecDepth 20000 in
theorem t_X4_readPerson_0 {K : KK} (X : CX K cX4_readPerson 6 RX4 none) (hR : kR K = rmD 3) (v0 : Nat) (kv0 : KA (kDn K) v0 (0, 4)) (S : St) (w : WT (kDn K) S.2.2) : JX K (Zm K (fun _ : Unit => none)) 0 [some (.ref v0), none, none, none, none, none] [] (rwN (kN K) S) (kn K) 0 0 (f_X4_readPerson v0 S) := by
  unfold f_X4_readPerson
  refine J_aload_n X dX4_readPerson_0 (i := 0) rfl rfl ?_
  refine T_getR X (kf := 1) cb4 kv0 (by decide) fl_X4_20 (fun _ _ _ => rfl) dX4_readPerson_1 ?_
  refine T_getI X (kf := 1) cb0 (w.1 _ _ kv0 1 _ rfl) (by decide) fl_X4_118 (fun _ _ _ => rfl) dX4_readPerson_4 ?_
  refine J_bipush X (v := (6 : Int32)) dX4_readPerson_7 (by decide) ?_
  refine J_icmp_lt X (tgt := 17) dX4_readPerson_9 (by decide) ?_ ?_
  · exact t_X4_readPerson_17 X hR v0 kv0 S w
  · refine J_aload_n X dX4_readPerson_12 (i := 0) rfl rfl ?_
    refine J_iconst X (v := (2 : Int32)) dX4_readPerson_13 (by decide) ?_
    refine T_callV (As := [.int (2 : Int32)]) w X (C_X4_refuse (kG K) v0 kv0 (2 : Int32) S) cb4 kv0 ml_X4_78 in_yX4_refuse se_yX4_refuse ii_RX4 co_yX4_refuse hy_X4_refuse (hRd hR (by decide) (by decide)) rfl (Nat.le_of_ble_eq_true rfl) dX4_readPerson_14 (fun _ S1 _ wS1 => ?_)
    exact t_X4_readPerson_17 X hR v0 kv0 S1 wS1
theorem C_X4_readPerson (G : GG) (v0 : Nat) (kv0 : KA (gD G) v0 (0, 4)) (S : St) : CM G yX4_readPerson cX4_readPerson 6 none 3 [.ref v0] S (fun _ : Unit => none) (f_X4_readPerson v0 S) :=
  CM_of (by decide) (Nat.le_of_ble_eq_true rfl) rfl (fun K hG X hR w => by subst hG; exact t_X4_readPerson_0 X hR v0 kv0 S w)
-- ==== X4_readStrand
theorem hy_X4_readStrand : yX4_readStrand.cls ≠ "java/lang/invoke/MethodHandle" ∧ yX4_readStrand.cls ≠ "java/lang/invoke/VarHandle" ∧ (parseMethodDescriptor yX4_readStrand.desc).map (fun d => d.parameters.length) = some 0 := by decide +kernel
set_option maxRecDepth 20000 in
def b_X4_readStrand_95 (v0 : Nat) (v2 : Int32) (v4 : Int32) (S : St) : Option (Unit × St) := bd (f_X4_takeNumber v0 (1 : Int32) (1 : Int32) (9 : Int32) S) fun r2 S1 => bd (f_X4_take v0 (59 : Int32) S1) fun r4 S3 => bd (f_X0_addStrand (S3.2.2 v0 1) v2 v4 r2 S3) fun _ S5 => some ((), S5)
set_option maxRecDepth 20000 in
theorem t_X4_readStrand_95 {K : KK} (X : CX K cX4_readStrand 6 RX4 none) (hR : kR K = rmD 3) (v0 : Nat) (kv0 : KA (kDn K) v0 (0, 4)) (v2 : Int32) (v4 : Int32) (S : St) (w : WT (kDn K) S.2.2) : JX K (Zm K (fun _ : Unit => none)) 95 [some (.ref v0), none, some (.int v2), none, some (.int v4), none] [] (rwN (kN K) S) (kn K) 0 0 (b_X4_readStrand_95 v0 v2 v4 S) := by
  unfold b_X4_readStrand_95
  refine J_aload_n X dX4_readStrand_95 (i := 0) rfl rfl ?_
  refine J_iconst X (v := (1 : Int32)) dX4_readStrand_96 (by decide) ?_
  refine J_iconst X (v := (1 : Int32)) dX4_readStrand_97 (by decide) ?_
  refine J_bipush X (v := (9 : Int32)) dX4_readStrand_98 (by decide) ?_
  refine T_callV (As := [.int (1 : Int32), .int (1 : Int32), .int (9 : Int32)]) w X (C_X4_takeNumber (kG K) v0 kv0 (1 : Int32) (1 : Int32) (9 : Int32) S) cb4 kv0 ml_X4_100 in_yX4_takeNumber se_yX4_takeNumber ii_RX4 co_yX4_takeNumber hy_X4_takeNumber (hRd hR (by decide) (by decide)) rfl (Nat.le_of_ble_eq_true rfl) dX4_readStrand_100 (fun r2 S1 _ wS1 => ?_)
  refine J_istore X (ls' := [some (.ref v0), none, some (.int v2), none, some (.int v4), some (.int r2)]) dX4_readStrand_103 (by decide) rfl ?_
  refine J_aload_n X dX4_readStrand_105 (i := 0) rfl rfl ?_
  refine J_bipush X (v := (59 : Int32)) dX4_readStrand_106 (by decide) ?_
  refine T_callV (As := [.int (59 : Int32)]) wS1 X (C_X4_take (kG K) v0 kv0 (59 : Int32) S1) cb4 kv0 ml_X4_81 in_yX4_take se_yX4_take ii_RX4 co_yX4_take hy_X4_take (hRd hR (by decide) (by decide)) rfl (Nat.le_of_ble_eq_true rfl) dX4_readStrand_108 (fun r4 S3 _ wS3 => ?_)
  refine J_pop X dX4_readStrand_111 rfl ?_
  refine J_aload_n X dX4_readStrand_112 (i := 0) rfl rfl ?_
  refine T_getR X (kf := 1) cb4 kv0 (by decide) fl_X4_20 (fun _ _ _ => rfl) dX4_readStrand_113 ?_
  refine J_iload_n X dX4_readStrand_116 (i := 2) rfl rfl ?_
  refine J_iload X dX4_readStrand_117 rfl ?_
  refine J_iload X dX4_readStrand_119 rfl ?_
  refine T_callV (As := [.int v2, .int v4, .int r2]) wS3 X (C_X0_addStrand (kG K) (S3.2.2 v0 1) (wS3.1 _ _ kv0 1 _ rfl) v2 v4 r2 S3) cb0 (wS3.1 _ _ kv0 1 _ rfl) ml_X4_128 in_yX0_addStrand se_yX0_addStrand ii_RX0 co_yX0_addStrand hy_X0_addStrand (hRd hR (by decide) (by decide)) rfl (Nat.le_of_ble_eq_true rfl) dX4_readStrand_121 (fun _ S5 _ wS5 => ?_)
  exact T_vret wS5 X dX4_readStrand_124
set_option maxRecDepth 20000 in
def b_X4_readStrand_58 (v0 : Nat) (v2 : Int32) (S : St) : Option (Unit × St) := bd (f_X4_take v0 (21 : Int32) S) fun r2 S1 => (ix r2 401).bind fun j3 => bd (f_X0_personNamed (S1.2.2 v0 1) (S1.2.1 (S1.2.2 (S1.2.2 v0 0) 2) j3) S1) fun r5 S4 => if r5 = (-1 : Int32) then (bd (f_X4_mark v0 (4 : Int32) r2 S4) fun _ S6 => b_X4_readStrand_95 v0 v2 r5 S6) else (b_X4_readStrand_95 v0 v2 r5 S4)
set_option maxRecDepth 20000 in
theorem t_X4_readStrand_58 {K : KK} (X : CX K cX4_readStrand 6 RX4 none) (hR : kR K = rmD 3) (v0 : Nat) (kv0 : KA (kDn K) v0 (0, 4)) (v2 : Int32) (S : St) (w : WT (kDn K) S.2.2) : JX K (Zm K (fun _ : Unit => none)) 58 [some (.ref v0), none, some (.int v2), none, none, none] [] (rwN (kN K) S) (kn K) 0 0 (b_X4_readStrand_58 v0 v2 S) := by
  unfold b_X4_readStrand_58
  refine J_aload_n X dX4_readStrand_58 (i := 0) rfl rfl ?_
  refine J_bipush X (v := (21 : Int32)) dX4_readStrand_59 (by decide) ?_
  refine T_callV (As := [.int (21 : Int32)]) w X (C_X4_take (kG K) v0 kv0 (21 : Int32) S) cb4 kv0 ml_X4_81 in_yX4_take se_yX4_take ii_RX4 co_yX4_take hy_X4_take (hRd hR (by decide) (by decide)) rfl (Nat.le_of_ble_eq_true rfl) dX4_readStrand_61 (fun r2 S1 _ wS1 => ?_)
  refine J_istore_n X (i := 3) (ls' := [some (.ref v0), none, some (.int v2), some (.int r2), none, none]) dX4_readStrand_64 rfl (by decide) rfl ?_
  refine J_aload_n X dX4_readStrand_65 (i := 0) rfl rfl ?_
  refine T_getR X (kf := 1) cb4 kv0 (by decide) fl_X4_20 (fun _ _ _ => rfl) dX4_readStrand_66 ?_
  refine J_aload_n X dX4_readStrand_69 (i := 0) rfl rfl ?_
  refine T_getR X (kf := 0) cb4 kv0 (by decide) fl_X4_14 (fun _ _ _ => rfl) dX4_readStrand_70 ?_
  refine T_getR X (kf := 2) cb6 (wS1.1 _ _ kv0 0 _ rfl) (by decide) fl_X4_85 (fun _ _ _ => rfl) dX4_readStrand_73 ?_
  refine J_iload_n X dX4_readStrand_76 (i := 3) rfl rfl ?_
  refine T_lald X (wS1.1 _ _ (wS1.1 _ _ kv0 0 _ rfl) 2 _ rfl) dX4_readStrand_77 (fun j3 => ?_)
  refine T_callV (As := [.long (S1.2.1 (S1.2.2 (S1.2.2 v0 0) 2) j3)]) wS1 X (C_X0_personNamed (kG K) (S1.2.2 v0 1) (wS1.1 _ _ kv0 1 _ rfl) (S1.2.1 (S1.2.2 (S1.2.2 v0 0) 2) j3) S1) cb0 (wS1.1 _ _ kv0 1 _ rfl) ml_X4_93 in_yX0_personNamed se_yX0_personNamed ii_RX0 co_yX0_personNamed hy_X0_personNamed (hRd hR (by decide) (by decide)) rfl (Nat.le_of_ble_eq_true rfl) dX4_readStrand_78 (fun r5 S4 _ wS4 => ?_)
  refine J_istore X (ls' := [some (.ref v0), none, some (.int v2), some (.int r2), some (.int r5), none]) dX4_readStrand_81 (by decide) rfl ?_
  refine J_iload X dX4_readStrand_83 rfl ?_
  refine J_iconst X (v := (-1 : Int32)) dX4_readStrand_85 (by decide) ?_
  refine J_icmp_ne X (tgt := 95) dX4_readStrand_86 (by decide) ?_ ?_
  · refine J_aload_n X dX4_readStrand_89 (i := 0) rfl rfl ?_
    refine J_iconst X (v := (4 : Int32)) dX4_readStrand_90 (by decide) ?_
    refine J_iload_n X dX4_readStrand_91 (i := 3) rfl rfl ?_
    refine T_callV (As := [.int (4 : Int32), .int r2]) wS4 X (C_X4_mark (kG K) v0 kv0 (4 : Int32) r2 S4) cb4 kv0 ml_X4_96 in_yX4_mark se_yX4_mark ii_RX4 co_yX4_mark hy_X4_mark (hRd hR (by decide) (by decide)) rfl (Nat.le_of_ble_eq_true rfl) dX4_readStrand_92 (fun _ S6 _ wS6 => ?_)
    refine J_mask [true, false, true, false, true, false] ?_
    exact t_X4_readStrand_95 X hR v0 kv0 v2 r5 S6 wS6
  · refine J_mask [true, false, true, false, true, false] ?_
    exact t_X4_readStrand_95 X hR v0 kv0 v2 r5 S4 wS4
set_option maxRecDepth 20000 in
def b_X4_readStrand_17 (v0 : Nat) (S : St) : Option (Unit × St) := bd (f_X4_take v0 (2 : Int32) S) fun r2 S1 => bd (f_X4_take v0 (21 : Int32) S1) fun r4 S3 => (ix r4 401).bind fun j5 => bd (f_X0_mermaidNamed (S3.2.2 v0 1) (S3.2.1 (S3.2.2 (S3.2.2 v0 0) 2) j5) S3) fun r7 S6 => if r7 = (-1 : Int32) then (bd (f_X4_mark v0 (4 : Int32) r4 S6) fun _ S8 => b_X4_readStrand_58 v0 r7 S8) else (b_X4_readStrand_58 v0 r7 S6)
set_option maxRecDepth 20000 in
theorem t_X4_readStrand_17 {K : KK} (X : CX K cX4_readStrand 6 RX4 none) (hR : kR K = rmD 3) (v0 : Nat) (kv0 : KA (kDn K) v0 (0, 4)) (S : St) (w : WT (kDn K) S.2.2) : JX K (Zm K (fun _ : Unit => none)) 17 [some (.ref v0), none, none, none, none, none] [] (rwN (kN K) S) (kn K) 0 0 (b_X4_readStrand_17 v0 S) := by
  unfold b_X4_readStrand_17
  refine J_aload_n X dX4_readStrand_17 (i := 0) rfl rfl ?_
  refine J_iconst X (v := (2 : Int32)) dX4_readStrand_18 (by decide) ?_
  refine T_callV (As := [.int (2 : Int32)]) w X (C_X4_take (kG K) v0 kv0 (2 : Int32) S) cb4 kv0 ml_X4_81 in_yX4_take se_yX4_take ii_RX4 co_yX4_take hy_X4_take (hRd hR (by decide) (by decide)) rfl (Nat.le_of_ble_eq_true rfl) dX4_readStrand_19 (fun r2 S1 _ wS1 => ?_)
  refine J_pop X dX4_readStrand_22 rfl ?_
  refine J_aload_n X dX4_readStrand_23 (i := 0) rfl rfl ?_
  refine J_bipush X (v := (21 : Int32)) dX4_readStrand_24 (by decide) ?_
  refine T_callV (As := [.int (21 : Int32)]) wS1 X (C_X4_take (kG K) v0 kv0 (21 : Int32) S1) cb4 kv0 ml_X4_81 in_yX4_take se_yX4_take ii_RX4 co_yX4_take hy_X4_take (hRd hR (by decide) (by decide)) rfl (Nat.le_of_ble_eq_true rfl) dX4_readStrand_26 (fun r4 S3 _ wS3 => ?_)
  refine J_istore_n X (i := 1) (ls' := [some (.ref v0), some (.int r4), none, none, none, none]) dX4_readStrand_29 rfl (by decide) rfl ?_
  refine J_aload_n X dX4_readStrand_30 (i := 0) rfl rfl ?_
  refine T_getR X (kf := 1) cb4 kv0 (by decide) fl_X4_20 (fun _ _ _ => rfl) dX4_readStrand_31 ?_
  refine J_aload_n X dX4_readStrand_34 (i := 0) rfl rfl ?_
  refine T_getR X (kf := 0) cb4 kv0 (by decide) fl_X4_14 (fun _ _ _ => rfl) dX4_readStrand_35 ?_
  refine T_getR X (kf := 2) cb6 (wS3.1 _ _ kv0 0 _ rfl) (by decide) fl_X4_85 (fun _ _ _ => rfl) dX4_readStrand_38 ?_
  refine J_iload_n X dX4_readStrand_41 (i := 1) rfl rfl ?_
  refine T_lald X (wS3.1 _ _ (wS3.1 _ _ kv0 0 _ rfl) 2 _ rfl) dX4_readStrand_42 (fun j5 => ?_)
  refine T_callV (As := [.long (S3.2.1 (S3.2.2 (S3.2.2 v0 0) 2) j5)]) wS3 X (C_X0_mermaidNamed (kG K) (S3.2.2 v0 1) (wS3.1 _ _ kv0 1 _ rfl) (S3.2.1 (S3.2.2 (S3.2.2 v0 0) 2) j5) S3) cb0 (wS3.1 _ _ kv0 1 _ rfl) ml_X4_89 in_yX0_mermaidNamed se_yX0_mermaidNamed ii_RX0 co_yX0_mermaidNamed hy_X0_mermaidNamed (hRd hR (by decide) (by decide)) rfl (Nat.le_of_ble_eq_true rfl) dX4_readStrand_43 (fun r7 S6 _ wS6 => ?_)
  refine J_istore_n X (i := 2) (ls' := [some (.ref v0), some (.int r4), some (.int r7), none, none, none]) dX4_readStrand_46 rfl (by decide) rfl ?_
  refine J_iload_n X dX4_readStrand_47 (i := 2) rfl rfl ?_
  refine J_iconst X (v := (-1 : Int32)) dX4_readStrand_48 (by decide) ?_
  refine J_icmp_ne X (tgt := 58) dX4_readStrand_49 (by decide) ?_ ?_
  · refine J_aload_n X dX4_readStrand_52 (i := 0) rfl rfl ?_
    refine J_iconst X (v := (4 : Int32)) dX4_readStrand_53 (by decide) ?_
    refine J_iload_n X dX4_readStrand_54 (i := 1) rfl rfl ?_
    refine T_callV (As := [.int (4 : Int32), .int r4]) wS6 X (C_X4_mark (kG K) v0 kv0 (4 : Int32) r4 S6) cb4 kv0 ml_X4_96 in_yX4_mark se_yX4_mark ii_RX4 co_yX4_mark hy_X4_mark (hRd hR (by decide) (by decide)) rfl (Nat.le_of_ble_eq_true rfl) dX4_readStrand_55 (fun _ S8 _ wS8 => ?_)
    refine J_mask [true, false, true, false, false, false] ?_
    exact t_X4_readStrand_58 X hR v0 kv0 r7 S8 wS8
  · refine J_mask [true, false, true, false, false, false] ?_
    exact t_X4_readStrand_58 X hR v0 kv0 r7 S6 wS6
set_option maxRecDepth 20000 in
def f_X4_readStrand (v0 : Nat) (S : St) : Option (Unit × St) := if (S.1 (S.2.2 v0 1) 2) < (8 : Int32) then (b_X4_readStrand_17 v0 S) else (bd (f_X4_refuse v0 (2 : Int32) S) fun _ S1 => b_X4_readStrand_17 v0 S1)
set_option maxRecDepth 20000 in
theorem t_X4_readStrand_0 {K : KK} (X : CX K cX4_readStrand 6 RX4 none) (hR : kR K = rmD 3) (v0 : Nat) (kv0 : KA (kDn K) v0 (0, 4)) (S : St) (w : WT (kDn K) S.2.2) : JX K (Zm K (fun _ : Unit => none)) 0 [some (.ref v0), none, none, none, none, none] [] (rwN (kN K) S) (kn K) 0 0 (f_X4_readStrand v0 S) := by
  unfold f_X4_readStrand
  refine J_aload_n X dX4_readStrand_0 (i := 0) rfl rfl ?_
  refine T_getR X (kf := 1) cb4 kv0 (by decide) fl_X4_20 (fun _ _ _ => rfl) dX4_readStrand_1 ?_
  refine T_getI X (kf := 2) cb0 (w.1 _ _ kv0 1 _ rfl) (by decide) fl_X4_125 (fun _ _ _ => rfl) dX4_readStrand_4 ?_
  refine J_bipush X (v := (8 : Int32)) dX4_readStrand_7 (by decide) ?_
  refine J_icmp_lt X (tgt := 17) dX4_readStrand_9 (by decide) ?_ ?_
  · exact t_X4_readStrand_17 X hR v0 kv0 S w
  · refine J_aload_n X dX4_readStrand_12 (i := 0) rfl rfl ?_
    refine J_iconst X (v := (2 : Int32)) dX4_readStrand_13 (by decide) ?_
    refine T_callV (As := [.int (2 : Int32)]) w X (C_X4_refuse (kG K) v0 kv0 (2 : Int32) S) cb4 kv0 ml_X4_78 in_yX4_refuse se_yX4_refuse ii_RX4 co_yX4_refuse hy_X4_refuse (hRd hR (by decide) (by decide)) rfl (Nat.le_of_ble_eq_true rfl) dX4_readStrand_14 (fun _ S1 _ wS1 => ?_)
    exact t_X4_readStrand_17 X hR v0 kv0 S1 wS1
theorem C_X4_readStrand (G : GG) (v0 : Nat) (kv0 : KA (gD G) v0 (0, 4)) (S : St) : CM G yX4_readStrand cX4_readStrand 6 none 3 [.ref v0] S (fun _ : Unit => none) (f_X4_readStrand v0 S) :=
  CM_of (by decide) (Nat.le_of_ble_eq_true rfl) rfl (fun K hG X hR w => by subst hG; exact t_X4_readStrand_0 X hR v0 kv0 S w)
-- ==== X4_readPier
theorem hy_X4_readPier : yX4_readPier.cls ≠ "java/lang/invoke/MethodHandle" ∧ yX4_readPier.cls ≠ "java/lang/invoke/VarHandle" ∧ (parseMethodDescriptor yX4_readPier.desc).map (fun d => d.parameters.length) = some 0 := by decide +kernel
set_option maxRecDepth 20000 in
def f_X4_readPier (v0 : Nat) (S : St) : Option (Unit × St) := bd (f_X4_take v0 (7 : Int32) S) fun r2 S1 => bd (f_X4_takeNumber v0 (1 : Int32) (0 : Int32) (9 : Int32) S1) fun r4 S3 => nm (sI S3 (S1.2.2 v0 1) 3 r4) fun S5 => bd (f_X4_take v0 (59 : Int32) S5) fun r7 S6 => some ((), S6)
set_option maxRecDepth 20000 in
theorem t_X4_readPier_0 {K : KK} (X : CX K cX4_readPier 1 RX4 none) (hR : kR K = rmD 3) (v0 : Nat) (kv0 : KA (kDn K) v0 (0, 4)) (S : St) (w : WT (kDn K) S.2.2) : JX K (Zm K (fun _ : Unit => none)) 0 [some (.ref v0)] [] (rwN (kN K) S) (kn K) 0 0 (f_X4_readPier v0 S) := by
  unfold f_X4_readPier
  refine J_aload_n X dX4_readPier_0 (i := 0) rfl rfl ?_
  refine J_bipush X (v := (7 : Int32)) dX4_readPier_1 (by decide) ?_
  refine T_callV (As := [.int (7 : Int32)]) w X (C_X4_take (kG K) v0 kv0 (7 : Int32) S) cb4 kv0 ml_X4_81 in_yX4_take se_yX4_take ii_RX4 co_yX4_take hy_X4_take (hRd hR (by decide) (by decide)) rfl (Nat.le_of_ble_eq_true rfl) dX4_readPier_3 (fun r2 S1 _ wS1 => ?_)
  refine J_pop X dX4_readPier_6 rfl ?_
  refine J_aload_n X dX4_readPier_7 (i := 0) rfl rfl ?_
  refine T_getR X (kf := 1) cb4 kv0 (by decide) fl_X4_20 (fun _ _ _ => rfl) dX4_readPier_8 ?_
  refine J_aload_n X dX4_readPier_11 (i := 0) rfl rfl ?_
  refine J_iconst X (v := (1 : Int32)) dX4_readPier_12 (by decide) ?_
  refine J_iconst X (v := (0 : Int32)) dX4_readPier_13 (by decide) ?_
  refine J_bipush X (v := (9 : Int32)) dX4_readPier_14 (by decide) ?_
  refine T_callV (As := [.int (1 : Int32), .int (0 : Int32), .int (9 : Int32)]) wS1 X (C_X4_takeNumber (kG K) v0 kv0 (1 : Int32) (0 : Int32) (9 : Int32) S1) cb4 kv0 ml_X4_100 in_yX4_takeNumber se_yX4_takeNumber ii_RX4 co_yX4_takeNumber hy_X4_takeNumber (hRd hR (by decide) (by decide)) rfl (Nat.le_of_ble_eq_true rfl) dX4_readPier_16 (fun r4 S3 _ wS3 => ?_)
  refine T_putI X (kf := 3) cb0 (wS1.1 _ _ kv0 1 _ rfl) (by decide) fl_X4_132 (fun _ _ _ => rfl) rfl rfl rfl dX4_readPier_19 (fun S5 hS5 => ?_)
  have wS5 : WT (kDn K) S5.2.2 := by rw [hS5]; exact wS3
  clear hS5
  refine J_aload_n X dX4_readPier_22 (i := 0) rfl rfl ?_
  refine J_bipush X (v := (59 : Int32)) dX4_readPier_23 (by decide) ?_
  refine T_callV (As := [.int (59 : Int32)]) wS5 X (C_X4_take (kG K) v0 kv0 (59 : Int32) S5) cb4 kv0 ml_X4_81 in_yX4_take se_yX4_take ii_RX4 co_yX4_take hy_X4_take (hRd hR (by decide) (by decide)) rfl (Nat.le_of_ble_eq_true rfl) dX4_readPier_25 (fun r7 S6 _ wS6 => ?_)
  refine J_pop X dX4_readPier_28 rfl ?_
  exact T_vret wS6 X dX4_readPier_29
theorem C_X4_readPier (G : GG) (v0 : Nat) (kv0 : KA (gD G) v0 (0, 4)) (S : St) : CM G yX4_readPier cX4_readPier 1 none 3 [.ref v0] S (fun _ : Unit => none) (f_X4_readPier v0 S) :=
  CM_of (by decide) (Nat.le_of_ble_eq_true rfl) rfl (fun K hG X hR w => by subst hG; exact t_X4_readPier_0 X hR v0 kv0 S w)
-- ==== X4_readSeed
theorem hy_X4_readSeed : yX4_readSeed.cls ≠ "java/lang/invoke/MethodHandle" ∧ yX4_readSeed.cls ≠ "java/lang/invoke/VarHandle" ∧ (parseMethodDescriptor yX4_readSeed.desc).map (fun d => d.parameters.length) = some 0 := by decide +kernel
set_option maxRecDepth 20000 in
def f_X4_readSeed (v0 : Nat) (S : St) : Option (Unit × St) := bd (f_X4_take v0 (8 : Int32) S) fun r2 S1 => bd (f_X4_takeNumber v0 (1 : Int32) (0 : Int32) (9999 : Int32) S1) fun r4 S3 => nm (sI S3 (S1.2.2 v0 1) 4 r4) fun S5 => bd (f_X4_take v0 (59 : Int32) S5) fun r7 S6 => some ((), S6)
set_option maxRecDepth 20000 in
theorem t_X4_readSeed_0 {K : KK} (X : CX K cX4_readSeed 1 RX4 none) (hR : kR K = rmD 3) (v0 : Nat) (kv0 : KA (kDn K) v0 (0, 4)) (S : St) (w : WT (kDn K) S.2.2) : JX K (Zm K (fun _ : Unit => none)) 0 [some (.ref v0)] [] (rwN (kN K) S) (kn K) 0 0 (f_X4_readSeed v0 S) := by
  unfold f_X4_readSeed
  refine J_aload_n X dX4_readSeed_0 (i := 0) rfl rfl ?_
  refine J_bipush X (v := (8 : Int32)) dX4_readSeed_1 (by decide) ?_
  refine T_callV (As := [.int (8 : Int32)]) w X (C_X4_take (kG K) v0 kv0 (8 : Int32) S) cb4 kv0 ml_X4_81 in_yX4_take se_yX4_take ii_RX4 co_yX4_take hy_X4_take (hRd hR (by decide) (by decide)) rfl (Nat.le_of_ble_eq_true rfl) dX4_readSeed_3 (fun r2 S1 _ wS1 => ?_)
  refine J_pop X dX4_readSeed_6 rfl ?_
  refine J_aload_n X dX4_readSeed_7 (i := 0) rfl rfl ?_
  refine T_getR X (kf := 1) cb4 kv0 (by decide) fl_X4_20 (fun _ _ _ => rfl) dX4_readSeed_8 ?_
  refine J_aload_n X dX4_readSeed_11 (i := 0) rfl rfl ?_
  refine J_iconst X (v := (1 : Int32)) dX4_readSeed_12 (by decide) ?_
  refine J_iconst X (v := (0 : Int32)) dX4_readSeed_13 (by decide) ?_
  refine J_sipush X (v := (9999 : Int32)) dX4_readSeed_14 (by decide) ?_
  refine T_callV (As := [.int (1 : Int32), .int (0 : Int32), .int (9999 : Int32)]) wS1 X (C_X4_takeNumber (kG K) v0 kv0 (1 : Int32) (0 : Int32) (9999 : Int32) S1) cb4 kv0 ml_X4_100 in_yX4_takeNumber se_yX4_takeNumber ii_RX4 co_yX4_takeNumber hy_X4_takeNumber (hRd hR (by decide) (by decide)) rfl (Nat.le_of_ble_eq_true rfl) dX4_readSeed_17 (fun r4 S3 _ wS3 => ?_)
  refine T_putI X (kf := 4) cb0 (wS1.1 _ _ kv0 1 _ rfl) (by decide) fl_X4_135 (fun _ _ _ => rfl) rfl rfl rfl dX4_readSeed_20 (fun S5 hS5 => ?_)
  have wS5 : WT (kDn K) S5.2.2 := by rw [hS5]; exact wS3
  clear hS5
  refine J_aload_n X dX4_readSeed_23 (i := 0) rfl rfl ?_
  refine J_bipush X (v := (59 : Int32)) dX4_readSeed_24 (by decide) ?_
  refine T_callV (As := [.int (59 : Int32)]) wS5 X (C_X4_take (kG K) v0 kv0 (59 : Int32) S5) cb4 kv0 ml_X4_81 in_yX4_take se_yX4_take ii_RX4 co_yX4_take hy_X4_take (hRd hR (by decide) (by decide)) rfl (Nat.le_of_ble_eq_true rfl) dX4_readSeed_26 (fun r7 S6 _ wS6 => ?_)
  refine J_pop X dX4_readSeed_29 rfl ?_
  exact T_vret wS6 X dX4_readSeed_30
theorem C_X4_readSeed (G : GG) (v0 : Nat) (kv0 : KA (gD G) v0 (0, 4)) (S : St) : CM G yX4_readSeed cX4_readSeed 1 none 3 [.ref v0] S (fun _ : Unit => none) (f_X4_readSeed v0 S) :=
  CM_of (by decide) (Nat.le_of_ble_eq_true rfl) rfl (fun K hG X hR w => by subst hG; exact t_X4_readSeed_0 X hR v0 kv0 S w)
-- ==== X4_readUnit
theorem hy_X4_readUnit : yX4_readUnit.cls ≠ "java/lang/invoke/MethodHandle" ∧ yX4_readUnit.cls ≠ "java/lang/invoke/VarHandle" ∧ (parseMethodDescriptor yX4_readUnit.desc).map (fun d => d.parameters.length) = some 1 := by decide +kernel
theorem hy_X4_readSum : yX4_readSum.cls ≠ "java/lang/invoke/MethodHandle" ∧ yX4_readSum.cls ≠ "java/lang/invoke/VarHandle" ∧ (parseMethodDescriptor yX4_readSum.desc).map (fun d => d.parameters.length) = some 1 := by decide +kernel
theorem hy_X4_readProduct : yX4_readProduct.cls ≠ "java/lang/invoke/MethodHandle" ∧ yX4_readProduct.cls ≠ "java/lang/invoke/VarHandle" ∧ (parseMethodDescriptor yX4_readProduct.desc).map (fun d => d.parameters.length) = some 1 := by decide +kernel
set_option maxRecDepth 20000 in
def b_X4_readUnit_78 (rs : Nat → Int32 → St → Option (Unit × St)) (v0 : Nat) (v1 : Int32) (v2 : Int32) (S : St) : Option (Unit × St) := if v2 = (40 : Int32) then (if v1 < (6 : Int32) then (bd (f_X4_take v0 (40 : Int32) S) fun r2 S1 => bd (rs v0 (v1 + (1 : Int32)) S1) fun _ S3 => bd (f_X4_take v0 (41 : Int32) S3) fun r6 S5 => some ((), S5)) else (bd (f_X4_refuse v0 (2 : Int32) S) fun _ S7 => some ((), S7))) else (bd (f_X4_refuse v0 (1 : Int32) S) fun _ S9 => some ((), S9))
set_option maxRecDepth 20000 in
theorem t_X4_readUnit_78 {K : KK} (X : CX K cX4_readUnit 3 RX4 none) {rs : Nat → Int32 → St → Option (Unit × St)} {d0 : Nat} (hrs : ∀ (a : Nat) (x : Int32) (S : St), KA (kDn K) a (0, 4) → CM (kG K) yX4_readSum cX4_readSum 4 none d0 [.ref a, .int x] S (fun _ : Unit => none) (rs a x S)) (hR : kR K = rmD (d0 + 4)) (v0 : Nat) (kv0 : KA (kDn K) v0 (0, 4)) (v1 : Int32) (v2 : Int32) (S : St) (w : WT (kDn K) S.2.2) : JX K (Zm K (fun _ : Unit => none)) 78 [some (.ref v0), some (.int v1), some (.int v2)] [] (rwN (kN K) S) (kn K) 0 0 (b_X4_readUnit_78 rs v0 v1 v2 S) := by
  unfold b_X4_readUnit_78
  refine J_iload_n X dX4_readUnit_78 (i := 2) rfl rfl ?_
  refine J_bipush X (v := (40 : Int32)) dX4_readUnit_79 (by decide) ?_
  refine J_icmp_eq X (tgt := 92) dX4_readUnit_81 (by decide) ?_ ?_
  · refine J_iload_n X dX4_readUnit_92 (i := 1) rfl rfl ?_
    refine J_bipush X (v := (6 : Int32)) dX4_readUnit_93 (by decide) ?_
    refine J_icmp_lt X (tgt := 106) dX4_readUnit_95 (by decide) ?_ ?_
    · refine J_aload_n X dX4_readUnit_106 (i := 0) rfl rfl ?_
      refine J_bipush X (v := (40 : Int32)) dX4_readUnit_107 (by decide) ?_
      refine T_callV (As := [.int (40 : Int32)]) w X (C_X4_take (kG K) v0 kv0 (40 : Int32) S) cb4 kv0 ml_X4_81 in_yX4_take se_yX4_take ii_RX4 co_yX4_take hy_X4_take (hRd hR (by omega) (by decide)) rfl (Nat.le_of_ble_eq_true rfl) dX4_readUnit_109 (fun r2 S1 _ wS1 => ?_)
      refine J_pop X dX4_readUnit_112 rfl ?_
      refine J_aload_n X dX4_readUnit_113 (i := 0) rfl rfl ?_
      refine J_iload_n X dX4_readUnit_114 (i := 1) rfl rfl ?_
      refine J_iconst X (v := (1 : Int32)) dX4_readUnit_115 (by decide) ?_
      refine J_iadd X dX4_readUnit_116 ?_
      refine T_callV (As := [.int (v1 + (1 : Int32))]) wS1 X (hrs v0 (v1 + (1 : Int32)) S1 kv0) cb4 kv0 ml_X4_147 in_yX4_readSum se_yX4_readSum ii_RX4 co_yX4_readSum hy_X4_readSum (hRd hR (by omega) (by decide)) rfl (Nat.le_of_ble_eq_true rfl) dX4_readUnit_117 (fun _ S3 _ wS3 => ?_)
      refine J_aload_n X dX4_readUnit_120 (i := 0) rfl rfl ?_
      refine J_bipush X (v := (41 : Int32)) dX4_readUnit_121 (by decide) ?_
      refine T_callV (As := [.int (41 : Int32)]) wS3 X (C_X4_take (kG K) v0 kv0 (41 : Int32) S3) cb4 kv0 ml_X4_81 in_yX4_take se_yX4_take ii_RX4 co_yX4_take hy_X4_take (hRd hR (by omega) (by decide)) rfl (Nat.le_of_ble_eq_true rfl) dX4_readUnit_123 (fun r6 S5 _ wS5 => ?_)
      refine J_pop X dX4_readUnit_126 rfl ?_
      exact T_vret wS5 X dX4_readUnit_127
    · refine J_aload_n X dX4_readUnit_98 (i := 0) rfl rfl ?_
      refine J_iconst X (v := (2 : Int32)) dX4_readUnit_99 (by decide) ?_
      refine T_callV (As := [.int (2 : Int32)]) w X (C_X4_refuse (kG K) v0 kv0 (2 : Int32) S) cb4 kv0 ml_X4_78 in_yX4_refuse se_yX4_refuse ii_RX4 co_yX4_refuse hy_X4_refuse (hRd hR (by omega) (by decide)) rfl (Nat.le_of_ble_eq_true rfl) dX4_readUnit_100 (fun _ S7 _ wS7 => ?_)
      refine J_goto X (tgt := 127) dX4_readUnit_103 (by decide) ?_
      exact T_vret wS7 X dX4_readUnit_127
  · refine J_aload_n X dX4_readUnit_84 (i := 0) rfl rfl ?_
    refine J_iconst X (v := (1 : Int32)) dX4_readUnit_85 (by decide) ?_
    refine T_callV (As := [.int (1 : Int32)]) w X (C_X4_refuse (kG K) v0 kv0 (1 : Int32) S) cb4 kv0 ml_X4_78 in_yX4_refuse se_yX4_refuse ii_RX4 co_yX4_refuse hy_X4_refuse (hRd hR (by omega) (by decide)) rfl (Nat.le_of_ble_eq_true rfl) dX4_readUnit_86 (fun _ S9 _ wS9 => ?_)
    refine J_goto X (tgt := 127) dX4_readUnit_89 (by decide) ?_
    exact T_vret wS9 X dX4_readUnit_127
set_option maxRecDepth 20000 in
def f_X4_readUnit (rs : Nat → Int32 → St → Option (Unit × St)) (v0 : Nat) (v1 : Int32) (S : St) : Option (Unit × St) := bd (f_X4_atHand v0 S) fun r2 S1 => if r2 = (22 : Int32) then (bd (f_X4_take v0 (22 : Int32) S1) fun r4 S3 => (ix r4 401).bind fun j5 => bd (f_X2_put (S1.2.2 (S1.2.2 v0 1) 10) ((S3.2.1 (S1.2.2 (S1.2.2 v0 0) 2) j5).toInt32) S3) fun _ S6 => some ((), S6)) else (if r2 < (12 : Int32) then (b_X4_readUnit_78 rs v0 v1 r2 S1) else (if (20 : Int32) < r2 then (b_X4_readUnit_78 rs v0 v1 r2 S1) else (bd (f_X4_take v0 r2 S1) fun r9 S8 => bd (f_X2_put (S8.2.2 (S8.2.2 v0 1) 10) (((10000 : Int32) + r2) - (12 : Int32)) S8) fun _ S10 => some ((), S10))))
set_option maxRecDepth 20000 in
theorem t_X4_readUnit_0 {K : KK} (X : CX K cX4_readUnit 3 RX4 none) {rs : Nat → Int32 → St → Option (Unit × St)} {d0 : Nat} (hrs : ∀ (a : Nat) (x : Int32) (S : St), KA (kDn K) a (0, 4) → CM (kG K) yX4_readSum cX4_readSum 4 none d0 [.ref a, .int x] S (fun _ : Unit => none) (rs a x S)) (hR : kR K = rmD (d0 + 4)) (v0 : Nat) (kv0 : KA (kDn K) v0 (0, 4)) (v1 : Int32) (S : St) (w : WT (kDn K) S.2.2) : JX K (Zm K (fun _ : Unit => none)) 0 [some (.ref v0), some (.int v1), none] [] (rwN (kN K) S) (kn K) 0 0 (f_X4_readUnit rs v0 v1 S) := by
  unfold f_X4_readUnit
  refine J_aload_n X dX4_readUnit_0 (i := 0) rfl rfl ?_
  refine T_callV (As := []) w X (C_X4_atHand (kG K) v0 kv0 S) cb4 kv0 ml_X4_46 in_yX4_atHand se_yX4_atHand ii_RX4 co_yX4_atHand hy_X4_atHand (hRd hR (by omega) (by decide)) rfl (Nat.le_of_ble_eq_true rfl) dX4_readUnit_1 (fun r2 S1 _ wS1 => ?_)
  refine J_istore_n X (i := 2) (ls' := [some (.ref v0), some (.int v1), some (.int r2)]) dX4_readUnit_4 rfl (by decide) rfl ?_
  refine J_iload_n X dX4_readUnit_5 (i := 2) rfl rfl ?_
  refine J_bipush X (v := (22 : Int32)) dX4_readUnit_6 (by decide) ?_
  refine J_icmp_ne X (tgt := 39) dX4_readUnit_8 (by decide) ?_ ?_
  · refine J_aload_n X dX4_readUnit_11 (i := 0) rfl rfl ?_
    refine T_getR X (kf := 1) cb4 kv0 (by decide) fl_X4_20 (fun _ _ _ => rfl) dX4_readUnit_12 ?_
    refine T_getR X (kf := 10) cb0 (wS1.1 _ _ kv0 1 _ rfl) (by decide) fl_X4_138 (fun _ _ _ => rfl) dX4_readUnit_15 ?_
    refine J_aload_n X dX4_readUnit_18 (i := 0) rfl rfl ?_
    refine T_getR X (kf := 0) cb4 kv0 (by decide) fl_X4_14 (fun _ _ _ => rfl) dX4_readUnit_19 ?_
    refine T_getR X (kf := 2) cb6 (wS1.1 _ _ kv0 0 _ rfl) (by decide) fl_X4_85 (fun _ _ _ => rfl) dX4_readUnit_22 ?_
    refine J_aload_n X dX4_readUnit_25 (i := 0) rfl rfl ?_
    refine J_bipush X (v := (22 : Int32)) dX4_readUnit_26 (by decide) ?_
    refine T_callV (As := [.int (22 : Int32)]) wS1 X (C_X4_take (kG K) v0 kv0 (22 : Int32) S1) cb4 kv0 ml_X4_81 in_yX4_take se_yX4_take ii_RX4 co_yX4_take hy_X4_take (hRd hR (by omega) (by decide)) rfl (Nat.le_of_ble_eq_true rfl) dX4_readUnit_28 (fun r4 S3 _ wS3 => ?_)
    refine T_lald X (wS1.1 _ _ (wS1.1 _ _ kv0 0 _ rfl) 2 _ rfl) dX4_readUnit_31 (fun j5 => ?_)
    refine J_l2i X dX4_readUnit_32 ?_
    refine T_callV (As := [.int ((S3.2.1 (S1.2.2 (S1.2.2 v0 0) 2) j5).toInt32)]) wS3 X (C_X2_put (kG K) (S1.2.2 (S1.2.2 v0 1) 10) (wS1.1 _ _ (wS1.1 _ _ kv0 1 _ rfl) 10 _ rfl) ((S3.2.1 (S1.2.2 (S1.2.2 v0 0) 2) j5).toInt32) S3) cb2 (wS1.1 _ _ (wS1.1 _ _ kv0 1 _ rfl) 10 _ rfl) ml_X4_156 in_yX2_put se_yX2_put ii_RX2 co_yX2_put hy_X2_put (hRd hR (by omega) (by decide)) rfl (Nat.le_of_ble_eq_true rfl) dX4_readUnit_33 (fun _ S6 _ wS6 => ?_)
    refine J_goto X (tgt := 127) dX4_readUnit_36 (by decide) ?_
    exact T_vret wS6 X dX4_readUnit_127
  · refine J_iload_n X dX4_readUnit_39 (i := 2) rfl rfl ?_
    refine J_bipush X (v := (12 : Int32)) dX4_readUnit_40 (by decide) ?_
    refine J_icmp_lt X (tgt := 78) dX4_readUnit_42 (by decide) ?_ ?_
    · exact t_X4_readUnit_78 X hrs hR v0 kv0 v1 r2 S1 wS1
    · refine J_iload_n X dX4_readUnit_45 (i := 2) rfl rfl ?_
      refine J_bipush X (v := (20 : Int32)) dX4_readUnit_46 (by decide) ?_
      refine J_icmp_gt X (tgt := 78) dX4_readUnit_48 (by decide) ?_ ?_
      · exact t_X4_readUnit_78 X hrs hR v0 kv0 v1 r2 S1 wS1
      · refine J_aload_n X dX4_readUnit_51 (i := 0) rfl rfl ?_
        refine J_iload_n X dX4_readUnit_52 (i := 2) rfl rfl ?_
        refine T_callV (As := [.int r2]) wS1 X (C_X4_take (kG K) v0 kv0 r2 S1) cb4 kv0 ml_X4_81 in_yX4_take se_yX4_take ii_RX4 co_yX4_take hy_X4_take (hRd hR (by omega) (by decide)) rfl (Nat.le_of_ble_eq_true rfl) dX4_readUnit_53 (fun r9 S8 _ wS8 => ?_)
        refine J_pop X dX4_readUnit_56 rfl ?_
        refine J_aload_n X dX4_readUnit_57 (i := 0) rfl rfl ?_
        refine T_getR X (kf := 1) cb4 kv0 (by decide) fl_X4_20 (fun _ _ _ => rfl) dX4_readUnit_58 ?_
        refine T_getR X (kf := 10) cb0 (wS8.1 _ _ kv0 1 _ rfl) (by decide) fl_X4_138 (fun _ _ _ => rfl) dX4_readUnit_61 ?_
        refine J_sipush X (v := (10000 : Int32)) dX4_readUnit_64 (by decide) ?_
        refine J_iload_n X dX4_readUnit_67 (i := 2) rfl rfl ?_
        refine J_iadd X dX4_readUnit_68 ?_
        refine J_bipush X (v := (12 : Int32)) dX4_readUnit_69 (by decide) ?_
        refine J_isub X dX4_readUnit_71 ?_
        refine T_callV (As := [.int (((10000 : Int32) + r2) - (12 : Int32))]) wS8 X (C_X2_put (kG K) (S8.2.2 (S8.2.2 v0 1) 10) (wS8.1 _ _ (wS8.1 _ _ kv0 1 _ rfl) 10 _ rfl) (((10000 : Int32) + r2) - (12 : Int32)) S8) cb2 (wS8.1 _ _ (wS8.1 _ _ kv0 1 _ rfl) 10 _ rfl) ml_X4_156 in_yX2_put se_yX2_put ii_RX2 co_yX2_put hy_X2_put (hRd hR (by omega) (by decide)) rfl (Nat.le_of_ble_eq_true rfl) dX4_readUnit_72 (fun _ S10 _ wS10 => ?_)
        refine J_goto X (tgt := 127) dX4_readUnit_75 (by decide) ?_
        exact T_vret wS10 X dX4_readUnit_127
theorem C_X4_readUnit {G : GG} {rs : Nat → Int32 → St → Option (Unit × St)} {d0 : Nat} (hrs : ∀ (a : Nat) (x : Int32) (S : St), KA (gD G) a (0, 4) → CM G yX4_readSum cX4_readSum 4 none d0 [.ref a, .int x] S (fun _ : Unit => none) (rs a x S)) (v0 : Nat) (kv0 : KA (gD G) v0 (0, 4)) (v1 : Int32) (S : St) : CM G yX4_readUnit cX4_readUnit 3 none (d0 + 4) [.ref v0, .int v1] S (fun _ : Unit => none) (f_X4_readUnit rs v0 v1 S) :=
  CM_of (by decide) (Nat.le_of_ble_eq_true rfl) rfl (fun K hG X hR w => by subst hG; exact t_X4_readUnit_0 X hrs hR v0 kv0 v1 S w)
-- ==== X4_readProduct
set_option maxRecDepth 20000 in
def b_X4_readProduct_32 (rs : Nat → Int32 → St → Option (Unit × St)) (q7 : Nat → Int32 → Int32 → St → Option (Unit × St)) (v0 : Nat) (v1 : Int32) (v2 : Int32) (S : St) : Option (Unit × St) := bd (f_X4_atHand v0 S) fun r2 S1 => bd (f_X4_take v0 r2 S1) fun r4 S3 => bd (f_X4_readUnit rs v0 v1 S3) fun _ S5 => bd (f_X2_put (S5.2.2 (S5.2.2 v0 1) 10) ((20000 : Int32) + r2) S5) fun _ S7 => nm (v2 + (1 : Int32)) fun x9 => q7 v0 v1 x9 S7
set_option maxRecDepth 20000 in
theorem t_X4_readProduct_32 {K : KK} (X : CX K cX4_readProduct 4 RX4 none) {rs : Nat → Int32 → St → Option (Unit × St)} {d0 : Nat} (hrs : ∀ (a : Nat) (x : Int32) (S : St), KA (kDn K) a (0, 4) → CM (kG K) yX4_readSum cX4_readSum 4 none d0 [.ref a, .int x] S (fun _ : Unit => none) (rs a x S)) (hR : kR K = rmD (d0 + 5)) {q7 : Nat → Int32 → Int32 → St → Option (Unit × St)} (hq7 : ∀ (v0 : Nat) (kv0 : KA (kDn K) v0 (0, 4)) (v1 : Int32) (v2 : Int32) (S : St), WT (kDn K) S.2.2 → JX K (Zm K (fun _ : Unit => none)) 7 [some (.ref v0), some (.int v1), some (.int v2), none] [] (rwN (kN K) S) (kn K) 0 0 (q7 v0 v1 v2 S)) (v0 : Nat) (kv0 : KA (kDn K) v0 (0, 4)) (v1 : Int32) (v2 : Int32) (S : St) (w : WT (kDn K) S.2.2) : JX K (Zm K (fun _ : Unit => none)) 32 [some (.ref v0), some (.int v1), some (.int v2), none] [] (rwN (kN K) S) (kn K) 0 0 (b_X4_readProduct_32 rs q7 v0 v1 v2 S) := by
  unfold b_X4_readProduct_32
  refine J_aload_n X dX4_readProduct_32 (i := 0) rfl rfl ?_
  refine T_callV (As := []) w X (C_X4_atHand (kG K) v0 kv0 S) cb4 kv0 ml_X4_46 in_yX4_atHand se_yX4_atHand ii_RX4 co_yX4_atHand hy_X4_atHand (hRd hR (by omega) (by decide)) rfl (Nat.le_of_ble_eq_true rfl) dX4_readProduct_33 (fun r2 S1 _ wS1 => ?_)
  refine J_istore_n X (i := 3) (ls' := [some (.ref v0), some (.int v1), some (.int v2), some (.int r2)]) dX4_readProduct_36 rfl (by decide) rfl ?_
  refine J_aload_n X dX4_readProduct_37 (i := 0) rfl rfl ?_
  refine J_iload_n X dX4_readProduct_38 (i := 3) rfl rfl ?_
  refine T_callV (As := [.int r2]) wS1 X (C_X4_take (kG K) v0 kv0 r2 S1) cb4 kv0 ml_X4_81 in_yX4_take se_yX4_take ii_RX4 co_yX4_take hy_X4_take (hRd hR (by omega) (by decide)) rfl (Nat.le_of_ble_eq_true rfl) dX4_readProduct_39 (fun r4 S3 _ wS3 => ?_)
  refine J_pop X dX4_readProduct_42 rfl ?_
  refine J_aload_n X dX4_readProduct_43 (i := 0) rfl rfl ?_
  refine J_iload_n X dX4_readProduct_44 (i := 1) rfl rfl ?_
  refine T_callV (As := [.int v1]) wS3 X (C_X4_readUnit hrs v0 kv0 v1 S3) cb4 kv0 ml_X4_159 in_yX4_readUnit se_yX4_readUnit ii_RX4 co_yX4_readUnit hy_X4_readUnit (hRd hR (by omega) (by decide)) rfl (Nat.le_of_ble_eq_true rfl) dX4_readProduct_45 (fun _ S5 _ wS5 => ?_)
  refine J_aload_n X dX4_readProduct_48 (i := 0) rfl rfl ?_
  refine T_getR X (kf := 1) cb4 kv0 (by decide) fl_X4_20 (fun _ _ _ => rfl) dX4_readProduct_49 ?_
  refine T_getR X (kf := 10) cb0 (wS5.1 _ _ kv0 1 _ rfl) (by decide) fl_X4_138 (fun _ _ _ => rfl) dX4_readProduct_52 ?_
  refine J_sipush X (v := (20000 : Int32)) dX4_readProduct_55 (by decide) ?_
  refine J_iload_n X dX4_readProduct_58 (i := 3) rfl rfl ?_
  refine J_iadd X dX4_readProduct_59 ?_
  refine T_callV (As := [.int ((20000 : Int32) + r2)]) wS5 X (C_X2_put (kG K) (S5.2.2 (S5.2.2 v0 1) 10) (wS5.1 _ _ (wS5.1 _ _ kv0 1 _ rfl) 10 _ rfl) ((20000 : Int32) + r2) S5) cb2 (wS5.1 _ _ (wS5.1 _ _ kv0 1 _ rfl) 10 _ rfl) ml_X4_156 in_yX2_put se_yX2_put ii_RX2 co_yX2_put hy_X2_put (hRd hR (by omega) (by decide)) rfl (Nat.le_of_ble_eq_true rfl) dX4_readProduct_60 (fun _ S7 _ wS7 => ?_)
  refine J_nmv (v2 + (1 : Int32)) (fun x9 ex9 => ?_)
  refine J_iinc X (v := x9) (ls' := [some (.ref v0), some (.int v1), some (.int x9), some (.int r2)]) dX4_readProduct_63 (by decide) rfl (by rw [ex9]; rfl) rfl ?_
  refine J_goto X (tgt := 7) dX4_readProduct_66 (by decide) ?_
  refine J_mask [true, true, true, false] ?_
  exact hq7 v0 kv0 v1 x9 S7 wS7
set_option maxRecDepth 20000 in
def b_X4_readProduct_7 (rs : Nat → Int32 → St → Option (Unit × St)) : Nat → Nat → Int32 → Int32 → St → Option (Unit × St)
  | 0, _, _, _, _ => none
  | fu + 1, v0, v1, v2, S => if (400 : Int32) ≤ v2 then (some ((), S)) else (bd (f_X4_atHand v0 S) fun r2 S1 => if r2 = (42 : Int32) then (b_X4_readProduct_32 rs (b_X4_readProduct_7 rs fu) v0 v1 v2 S1) else (bd (f_X4_atHand v0 S1) fun r4 S3 => if r4 = (47 : Int32) then (b_X4_readProduct_32 rs (b_X4_readProduct_7 rs fu) v0 v1 v2 S3) else (some ((), S3))))
set_option maxRecDepth 20000 in
theorem t_X4_readProduct_7 {K : KK} (X : CX K cX4_readProduct 4 RX4 none) {rs : Nat → Int32 → St → Option (Unit × St)} {d0 : Nat} (hrs : ∀ (a : Nat) (x : Int32) (S : St), KA (kDn K) a (0, 4) → CM (kG K) yX4_readSum cX4_readSum 4 none d0 [.ref a, .int x] S (fun _ : Unit => none) (rs a x S)) (hR : kR K = rmD (d0 + 5)) : ∀ (fu : Nat) (v0 : Nat) (kv0 : KA (kDn K) v0 (0, 4)) (v1 : Int32) (v2 : Int32) (S : St), WT (kDn K) S.2.2 → JX K (Zm K (fun _ : Unit => none)) 7 [some (.ref v0), some (.int v1), some (.int v2), none] [] (rwN (kN K) S) (kn K) 0 0 (b_X4_readProduct_7 rs fu v0 v1 v2 S) := by
  intro fu
  induction fu with
  | zero => intro v0 kv0 v1 v2 S w; exact J_none
  | succ fu ih =>
    intro v0 kv0 v1 v2 S w
    rw [b_X4_readProduct_7]
    refine J_iload_n X dX4_readProduct_7 (i := 2) rfl rfl ?_
    refine J_sipush X (v := (400 : Int32)) dX4_readProduct_8 (by decide) ?_
    refine J_icmp_ge X (tgt := 69) dX4_readProduct_11 (by decide) ?_ ?_
    · exact T_vret w X dX4_readProduct_69
    · refine J_aload_n X dX4_readProduct_14 (i := 0) rfl rfl ?_
      refine T_callV (As := []) w X (C_X4_atHand (kG K) v0 kv0 S) cb4 kv0 ml_X4_46 in_yX4_atHand se_yX4_atHand ii_RX4 co_yX4_atHand hy_X4_atHand (hRd hR (by omega) (by decide)) rfl (Nat.le_of_ble_eq_true rfl) dX4_readProduct_15 (fun r2 S1 _ wS1 => ?_)
      refine J_bipush X (v := (42 : Int32)) dX4_readProduct_18 (by decide) ?_
      refine J_icmp_eq X (tgt := 32) dX4_readProduct_20 (by decide) ?_ ?_
      · exact t_X4_readProduct_32 X hrs hR ih v0 kv0 v1 v2 S1 wS1
      · refine J_aload_n X dX4_readProduct_23 (i := 0) rfl rfl ?_
        refine T_callV (As := []) wS1 X (C_X4_atHand (kG K) v0 kv0 S1) cb4 kv0 ml_X4_46 in_yX4_atHand se_yX4_atHand ii_RX4 co_yX4_atHand hy_X4_atHand (hRd hR (by omega) (by decide)) rfl (Nat.le_of_ble_eq_true rfl) dX4_readProduct_24 (fun r4 S3 _ wS3 => ?_)
        refine J_bipush X (v := (47 : Int32)) dX4_readProduct_27 (by decide) ?_
        refine J_icmp_ne X (tgt := 69) dX4_readProduct_29 (by decide) ?_ ?_
        · exact t_X4_readProduct_32 X hrs hR ih v0 kv0 v1 v2 S3 wS3
        · exact T_vret wS3 X dX4_readProduct_69
set_option maxRecDepth 20000 in
def f_X4_readProduct (rs : Nat → Int32 → St → Option (Unit × St)) (v0 : Nat) (v1 : Int32) (S : St) : Option (Unit × St) := bd (f_X4_readUnit rs v0 v1 S) fun _ S1 => b_X4_readProduct_7 rs FU v0 v1 (0 : Int32) S1
set_option maxRecDepth 20000 in
theorem t_X4_readProduct_0 {K : KK} (X : CX K cX4_readProduct 4 RX4 none) {rs : Nat → Int32 → St → Option (Unit × St)} {d0 : Nat} (hrs : ∀ (a : Nat) (x : Int32) (S : St), KA (kDn K) a (0, 4) → CM (kG K) yX4_readSum cX4_readSum 4 none d0 [.ref a, .int x] S (fun _ : Unit => none) (rs a x S)) (hR : kR K = rmD (d0 + 5)) (v0 : Nat) (kv0 : KA (kDn K) v0 (0, 4)) (v1 : Int32) (S : St) (w : WT (kDn K) S.2.2) : JX K (Zm K (fun _ : Unit => none)) 0 [some (.ref v0), some (.int v1), none, none] [] (rwN (kN K) S) (kn K) 0 0 (f_X4_readProduct rs v0 v1 S) := by
  unfold f_X4_readProduct
  refine J_aload_n X dX4_readProduct_0 (i := 0) rfl rfl ?_
  refine J_iload_n X dX4_readProduct_1 (i := 1) rfl rfl ?_
  refine T_callV (As := [.int v1]) w X (C_X4_readUnit hrs v0 kv0 v1 S) cb4 kv0 ml_X4_159 in_yX4_readUnit se_yX4_readUnit ii_RX4 co_yX4_readUnit hy_X4_readUnit (hRd hR (by omega) (by decide)) rfl (Nat.le_of_ble_eq_true rfl) dX4_readProduct_2 (fun _ S1 _ wS1 => ?_)
  refine J_iconst X (v := (0 : Int32)) dX4_readProduct_5 (by decide) ?_
  refine J_istore_n X (i := 2) (ls' := [some (.ref v0), some (.int v1), some (.int (0 : Int32)), none]) dX4_readProduct_6 rfl (by decide) rfl ?_
  exact t_X4_readProduct_7 X hrs hR FU v0 kv0 v1 (0 : Int32) S1 wS1
theorem C_X4_readProduct {G : GG} {rs : Nat → Int32 → St → Option (Unit × St)} {d0 : Nat} (hrs : ∀ (a : Nat) (x : Int32) (S : St), KA (gD G) a (0, 4) → CM G yX4_readSum cX4_readSum 4 none d0 [.ref a, .int x] S (fun _ : Unit => none) (rs a x S)) (v0 : Nat) (kv0 : KA (gD G) v0 (0, 4)) (v1 : Int32) (S : St) : CM G yX4_readProduct cX4_readProduct 4 none (d0 + 5) [.ref v0, .int v1] S (fun _ : Unit => none) (f_X4_readProduct rs v0 v1 S) :=
  CM_of (by decide) (Nat.le_of_ble_eq_true rfl) rfl (fun K hG X hR w => by subst hG; exact t_X4_readProduct_0 X hrs hR v0 kv0 v1 S w)

-- ==== X9_tell
theorem hy_X9_tell : yX9_tell.cls ≠ "java/lang/invoke/MethodHandle" ∧ yX9_tell.cls ≠ "java/lang/invoke/VarHandle" ∧ (parseMethodDescriptor yX9_tell.desc).map (fun d => d.parameters.length) = some 4 := by decide +kernel
set_option maxRecDepth 20000 in
def f_X9_tell (v0 : Nat) (v1 : Int32) (v2 : Int32) (v3 : Int32) (v4 : Int32) (S : St) : Option (Int32 × St) := bd (f_X9_isWithin v1 (0 : Int32) (9 : Int32) S) fun r2 S1 => if r2 = 0 then (some ((-1 : Int32), S1)) else (bd (f_X9_isWithin v2 (0 : Int32) (9 : Int32) S1) fun r4 S3 => if r4 = 0 then (some ((-1 : Int32), S3)) else (bd (f_X9_isWithin v3 (-1 : Int32) (1 : Int32) S3) fun r6 S5 => if r6 = 0 then (some ((-1 : Int32), S5)) else (bd (f_X9_isWithin v4 (-1 : Int32) (1 : Int32) S5) fun r8 S7 => if r8 = 0 then (some ((-1 : Int32), S7)) else (bd (f_X7_add (S7.2.2 v0 13) v1 v2 v3 v4 S7) fun r10 S9 => some (r10, S9)))))
set_option maxRecDepth 20000 in
theorem t_X9_tell_0 {K : KK} (X : CX K cX9_tell 5 RX9 (some .int)) (hR : kR K = rmD 1) (v0 : Nat) (kv0 : KD v0 = (0, 9)) (v1 : Int32) (v2 : Int32) (v3 : Int32) (v4 : Int32) (S : St) (w : WT S.2.2) : JX K (Zm K (fun v : Int32 => some (.int v))) 0 [some (.ref v0), some (.int v1), some (.int v2), some (.int v3), some (.int v4)] [] (rw_ S) 187 0 0 (f_X9_tell v0 v1 v2 v3 v4 S) := by
  unfold f_X9_tell
  refine J_iload_n X dX9_tell_0 (i := 1) rfl rfl ?_
  refine J_iconst X (v := (0 : Int32)) dX9_tell_1 (by decide) ?_
  refine J_bipush X (v := (9 : Int32)) dX9_tell_2 (by decide) ?_
  refine T_callS (As := [.int v1, .int (0 : Int32), .int (9 : Int32)]) w X (C_X9_isWithin (kG K) v1 (0 : Int32) (9 : Int32) S) ml_X9_224 st_yX9_isWithin ii_RX9 co_yX9_isWithin hy_X9_isWithin (hRd hR (by decide) (by decide)) rfl (Nat.le_of_ble_eq_true rfl) dX9_tell_4 (fun r2 S1 _ wS1 => ?_)
  refine J_if_eq X (tgt := 39) dX9_tell_7 (by decide) ?_ ?_
  · refine J_iconst X (v := (-1 : Int32)) dX9_tell_39 (by decide) ?_
    exact T_iret wS1 X dX9_tell_40
  · refine J_iload_n X dX9_tell_10 (i := 2) rfl rfl ?_
    refine J_iconst X (v := (0 : Int32)) dX9_tell_11 (by decide) ?_
    refine J_bipush X (v := (9 : Int32)) dX9_tell_12 (by decide) ?_
    refine T_callS (As := [.int v2, .int (0 : Int32), .int (9 : Int32)]) wS1 X (C_X9_isWithin (kG K) v2 (0 : Int32) (9 : Int32) S1) ml_X9_224 st_yX9_isWithin ii_RX9 co_yX9_isWithin hy_X9_isWithin (hRd hR (by decide) (by decide)) rfl (Nat.le_of_ble_eq_true rfl) dX9_tell_14 (fun r4 S3 _ wS3 => ?_)
    refine J_if_eq X (tgt := 39) dX9_tell_17 (by decide) ?_ ?_
    · refine J_iconst X (v := (-1 : Int32)) dX9_tell_39 (by decide) ?_
      exact T_iret wS3 X dX9_tell_40
    · refine J_iload_n X dX9_tell_20 (i := 3) rfl rfl ?_
      refine J_iconst X (v := (-1 : Int32)) dX9_tell_21 (by decide) ?_
      refine J_iconst X (v := (1 : Int32)) dX9_tell_22 (by decide) ?_
      refine T_callS (As := [.int v3, .int (-1 : Int32), .int (1 : Int32)]) wS3 X (C_X9_isWithin (kG K) v3 (-1 : Int32) (1 : Int32) S3) ml_X9_224 st_yX9_isWithin ii_RX9 co_yX9_isWithin hy_X9_isWithin (hRd hR (by decide) (by decide)) rfl (Nat.le_of_ble_eq_true rfl) dX9_tell_23 (fun r6 S5 _ wS5 => ?_)
      refine J_if_eq X (tgt := 39) dX9_tell_26 (by decide) ?_ ?_
      · refine J_iconst X (v := (-1 : Int32)) dX9_tell_39 (by decide) ?_
        exact T_iret wS5 X dX9_tell_40
      · refine J_iload X dX9_tell_29 rfl ?_
        refine J_iconst X (v := (-1 : Int32)) dX9_tell_31 (by decide) ?_
        refine J_iconst X (v := (1 : Int32)) dX9_tell_32 (by decide) ?_
        refine T_callS (As := [.int v4, .int (-1 : Int32), .int (1 : Int32)]) wS5 X (C_X9_isWithin (kG K) v4 (-1 : Int32) (1 : Int32) S5) ml_X9_224 st_yX9_isWithin ii_RX9 co_yX9_isWithin hy_X9_isWithin (hRd hR (by decide) (by decide)) rfl (Nat.le_of_ble_eq_true rfl) dX9_tell_33 (fun r8 S7 _ wS7 => ?_)
        refine J_if_ne X (tgt := 41) dX9_tell_36 (by decide) ?_ ?_
        · refine J_iconst X (v := (-1 : Int32)) dX9_tell_39 (by decide) ?_
          exact T_iret wS7 X dX9_tell_40
        · refine J_aload_n X dX9_tell_41 (i := 0) rfl rfl ?_
          refine T_getR X (kf := 13) cb9 kv0 (by decide) fl_X9_75 (fun _ _ _ => rfl) dX9_tell_42 ?_
          refine J_iload_n X dX9_tell_45 (i := 1) rfl rfl ?_
          refine J_iload_n X dX9_tell_46 (i := 2) rfl rfl ?_
          refine J_iload_n X dX9_tell_47 (i := 3) rfl rfl ?_
          refine J_iload X dX9_tell_48 rfl ?_
          refine T_callV (As := [.int v1, .int v2, .int v3, .int v4]) wS7 X (C_X7_add (kG K) (S7.2.2 v0 13) (wS7.1 _ _ kv0 13 _ rfl) v1 v2 v3 v4 S7) cb7 (wS7.1 _ _ kv0 13 _ rfl) ml_X9_277 in_yX7_add se_yX7_add ii_RX7 co_yX7_add hy_X7_add (hRd hR (by decide) (by decide)) rfl (Nat.le_of_ble_eq_true rfl) dX9_tell_50 (fun r10 S9 _ wS9 => ?_)
          exact T_iret wS9 X dX9_tell_53
theorem C_X9_tell (G : GG) (v0 : Nat) (kv0 : KD v0 = (0, 9)) (v1 : Int32) (v2 : Int32) (v3 : Int32) (v4 : Int32) (S : St) : CM G yX9_tell cX9_tell 5 (some .int) 1 [.ref v0, .int v1, .int v2, .int v3, .int v4] S (fun v : Int32 => some (.int v)) (f_X9_tell v0 v1 v2 v3 v4 S) :=
  CM_of (by decide) (Nat.le_of_ble_eq_true rfl) rfl (fun K hG X hR w => t_X9_tell_0 X hR v0 kv0 v1 v2 v3 v4 S w)
-- ==== X9_forget
theorem hy_X9_forget : yX9_forget.cls ≠ "java/lang/invoke/MethodHandle" ∧ yX9_forget.cls ≠ "java/lang/invoke/VarHandle" ∧ (parseMethodDescriptor yX9_forget.desc).map (fun d => d.parameters.length) = some 0 := by decide +kernel
set_option maxRecDepth 20000 in
def f_X9_forget (v0 : Nat) (S : St) : Option (Int32 × St) := nm (S.1 (S.2.2 v0 13) 4) fun x1 => bd (f_X7_clearAll (S.2.2 v0 13) S) fun _ S2 => some (x1, S2)
set_option maxRecDepth 20000 in
theorem t_X9_forget_0 {K : KK} (X : CX K cX9_forget 2 RX9 (some .int)) (hR : kR K = rmD 1) (v0 : Nat) (kv0 : KD v0 = (0, 9)) (S : St) (w : WT S.2.2) : JX K (Zm K (fun v : Int32 => some (.int v))) 0 [some (.ref v0), none] [] (rw_ S) 187 0 0 (f_X9_forget v0 S) := by
  unfold f_X9_forget
  refine J_aload_n X dX9_forget_0 (i := 0) rfl rfl ?_
  refine T_getR X (kf := 13) cb9 kv0 (by decide) fl_X9_75 (fun _ _ _ => rfl) dX9_forget_1 ?_
  refine T_getI X (kf := 4) cb7 (w.1 _ _ kv0 13 _ rfl) (by decide) fl_X9_200 (fun _ _ _ => rfl) dX9_forget_4 ?_
  refine J_nmi (fun x1 => ?_)
  refine J_istore_n X (i := 1) (ls' := [some (.ref v0), some (.int x1)]) dX9_forget_7 rfl (by decide) rfl ?_
  refine J_aload_n X dX9_forget_8 (i := 0) rfl rfl ?_
  refine T_getR X (kf := 13) cb9 kv0 (by decide) fl_X9_75 (fun _ _ _ => rfl) dX9_forget_9 ?_
  refine T_callV (As := []) w X (C_X7_clearAll (kG K) (S.2.2 v0 13) (w.1 _ _ kv0 13 _ rfl) S) cb7 (w.1 _ _ kv0 13 _ rfl) ml_X9_108 in_yX7_clearAll se_yX7_clearAll ii_RX7 co_yX7_clearAll hy_X7_clearAll (hRd hR (by decide) (by decide)) rfl (Nat.le_of_ble_eq_true rfl) dX9_forget_12 (fun _ S2 _ wS2 => ?_)
  refine J_iload_n X dX9_forget_15 (i := 1) rfl rfl ?_
  exact T_iret wS2 X dX9_forget_16
theorem C_X9_forget (G : GG) (v0 : Nat) (kv0 : KD v0 = (0, 9)) (S : St) : CM G yX9_forget cX9_forget 2 (some .int) 1 [.ref v0] S (fun v : Int32 => some (.int v)) (f_X9_forget v0 S) :=
  CM_of (by decide) (Nat.le_of_ble_eq_true rfl) rfl (fun K hG X hR w => t_X9_forget_0 X hR v0 kv0 S w)
-- ==== X9_where
theorem hy_X9_where : yX9_where.cls ≠ "java/lang/invoke/MethodHandle" ∧ yX9_where.cls ≠ "java/lang/invoke/VarHandle" ∧ (parseMethodDescriptor yX9_where.desc).map (fun d => d.parameters.length) = some 1 := by decide +kernel
set_option maxRecDepth 20000 in
def f_X9_where (v0 : Nat) (v1 : Int32) (S : St) : Option (Int32 × St) := bd (f_X9_isWithin v1 (0 : Int32) (S.1 (S.2.2 v0 13) 4) S) fun r2 S1 => if r2 = 0 then (some ((-1 : Int32), S1)) else (bd (f_X7_lookBy (S1.2.2 v0 13) v1 S1) fun _ S3 => some (S3.1 (S3.2.2 v0 13) 7, S3))
set_option maxRecDepth 20000 in
theorem t_X9_where_0 {K : KK} (X : CX K cX9_where 2 RX9 (some .int)) (hR : kR K = rmD 3) (v0 : Nat) (kv0 : KD v0 = (0, 9)) (v1 : Int32) (S : St) (w : WT S.2.2) : JX K (Zm K (fun v : Int32 => some (.int v))) 0 [some (.ref v0), some (.int v1)] [] (rw_ S) 187 0 0 (f_X9_where v0 v1 S) := by
  unfold f_X9_where
  refine J_iload_n X dX9_where_0 (i := 1) rfl rfl ?_
  refine J_iconst X (v := (0 : Int32)) dX9_where_1 (by decide) ?_
  refine J_aload_n X dX9_where_2 (i := 0) rfl rfl ?_
  refine T_getR X (kf := 13) cb9 kv0 (by decide) fl_X9_75 (fun _ _ _ => rfl) dX9_where_3 ?_
  refine T_getI X (kf := 4) cb7 (w.1 _ _ kv0 13 _ rfl) (by decide) fl_X9_200 (fun _ _ _ => rfl) dX9_where_6 ?_
  refine T_callS (As := [.int v1, .int (0 : Int32), .int (S.1 (S.2.2 v0 13) 4)]) w X (C_X9_isWithin (kG K) v1 (0 : Int32) (S.1 (S.2.2 v0 13) 4) S) ml_X9_224 st_yX9_isWithin ii_RX9 co_yX9_isWithin hy_X9_isWithin (hRd hR (by decide) (by decide)) rfl (Nat.le_of_ble_eq_true rfl) dX9_where_9 (fun r2 S1 _ wS1 => ?_)
  refine J_if_ne X (tgt := 17) dX9_where_12 (by decide) ?_ ?_
  · refine J_iconst X (v := (-1 : Int32)) dX9_where_15 (by decide) ?_
    exact T_iret wS1 X dX9_where_16
  · refine J_aload_n X dX9_where_17 (i := 0) rfl rfl ?_
    refine T_getR X (kf := 13) cb9 kv0 (by decide) fl_X9_75 (fun _ _ _ => rfl) dX9_where_18 ?_
    refine J_iload_n X dX9_where_21 (i := 1) rfl rfl ?_
    refine T_callV (As := [.int v1]) wS1 X (C_X7_lookBy (kG K) (S1.2.2 v0 13) (wS1.1 _ _ kv0 13 _ rfl) v1 S1) cb7 (wS1.1 _ _ kv0 13 _ rfl) ml_X9_280 in_yX7_lookBy se_yX7_lookBy ii_RX7 co_yX7_lookBy hy_X7_lookBy (hRd hR (by decide) (by decide)) rfl (Nat.le_of_ble_eq_true rfl) dX9_where_22 (fun _ S3 _ wS3 => ?_)
    refine J_aload_n X dX9_where_25 (i := 0) rfl rfl ?_
    refine T_getR X (kf := 13) cb9 kv0 (by decide) fl_X9_75 (fun _ _ _ => rfl) dX9_where_26 ?_
    refine T_getI X (kf := 7) cb7 (wS3.1 _ _ kv0 13 _ rfl) (by decide) fl_X9_283 (fun _ _ _ => rfl) dX9_where_29 ?_
    exact T_iret wS3 X dX9_where_32
theorem C_X9_where (G : GG) (v0 : Nat) (kv0 : KD v0 = (0, 9)) (v1 : Int32) (S : St) : CM G yX9_where cX9_where 2 (some .int) 3 [.ref v0, .int v1] S (fun v : Int32 => some (.int v)) (f_X9_where v0 v1 S) :=
  CM_of (by decide) (Nat.le_of_ble_eq_true rfl) rfl (fun K hG X hR w => t_X9_where_0 X hR v0 kv0 v1 S w)
-- ==== X9_surest
theorem hy_X9_surest : yX9_surest.cls ≠ "java/lang/invoke/MethodHandle" ∧ yX9_surest.cls ≠ "java/lang/invoke/VarHandle" ∧ (parseMethodDescriptor yX9_surest.desc).map (fun d => d.parameters.length) = some 1 := by decide +kernel
set_option maxRecDepth 20000 in
def f_X9_surest (v0 : Nat) (v1 : Int32) (S : St) : Option (Int32 × St) := bd (f_X9_isWithin v1 (0 : Int32) (S.1 (S.2.2 v0 13) 4) S) fun r2 S1 => if r2 = 0 then (some ((-1 : Int32), S1)) else (bd (f_X7_lookBy (S1.2.2 v0 13) v1 S1) fun _ S3 => bd (f_X7_firstLeft (S3.2.2 v0 13) S3) fun r6 S5 => some (r6, S5))
set_option maxRecDepth 20000 in
theorem t_X9_surest_0 {K : KK} (X : CX K cX9_surest 2 RX9 (some .int)) (hR : kR K = rmD 3) (v0 : Nat) (kv0 : KD v0 = (0, 9)) (v1 : Int32) (S : St) (w : WT S.2.2) : JX K (Zm K (fun v : Int32 => some (.int v))) 0 [some (.ref v0), some (.int v1)] [] (rw_ S) 187 0 0 (f_X9_surest v0 v1 S) := by
  unfold f_X9_surest
  refine J_iload_n X dX9_surest_0 (i := 1) rfl rfl ?_
  refine J_iconst X (v := (0 : Int32)) dX9_surest_1 (by decide) ?_
  refine J_aload_n X dX9_surest_2 (i := 0) rfl rfl ?_
  refine T_getR X (kf := 13) cb9 kv0 (by decide) fl_X9_75 (fun _ _ _ => rfl) dX9_surest_3 ?_
  refine T_getI X (kf := 4) cb7 (w.1 _ _ kv0 13 _ rfl) (by decide) fl_X9_200 (fun _ _ _ => rfl) dX9_surest_6 ?_
  refine T_callS (As := [.int v1, .int (0 : Int32), .int (S.1 (S.2.2 v0 13) 4)]) w X (C_X9_isWithin (kG K) v1 (0 : Int32) (S.1 (S.2.2 v0 13) 4) S) ml_X9_224 st_yX9_isWithin ii_RX9 co_yX9_isWithin hy_X9_isWithin (hRd hR (by decide) (by decide)) rfl (Nat.le_of_ble_eq_true rfl) dX9_surest_9 (fun r2 S1 _ wS1 => ?_)
  refine J_if_ne X (tgt := 17) dX9_surest_12 (by decide) ?_ ?_
  · refine J_iconst X (v := (-1 : Int32)) dX9_surest_15 (by decide) ?_
    exact T_iret wS1 X dX9_surest_16
  · refine J_aload_n X dX9_surest_17 (i := 0) rfl rfl ?_
    refine T_getR X (kf := 13) cb9 kv0 (by decide) fl_X9_75 (fun _ _ _ => rfl) dX9_surest_18 ?_
    refine J_iload_n X dX9_surest_21 (i := 1) rfl rfl ?_
    refine T_callV (As := [.int v1]) wS1 X (C_X7_lookBy (kG K) (S1.2.2 v0 13) (wS1.1 _ _ kv0 13 _ rfl) v1 S1) cb7 (wS1.1 _ _ kv0 13 _ rfl) ml_X9_280 in_yX7_lookBy se_yX7_lookBy ii_RX7 co_yX7_lookBy hy_X7_lookBy (hRd hR (by decide) (by decide)) rfl (Nat.le_of_ble_eq_true rfl) dX9_surest_22 (fun _ S3 _ wS3 => ?_)
    refine J_aload_n X dX9_surest_25 (i := 0) rfl rfl ?_
    refine T_getR X (kf := 13) cb9 kv0 (by decide) fl_X9_75 (fun _ _ _ => rfl) dX9_surest_26 ?_
    refine T_callV (As := []) wS3 X (C_X7_firstLeft (kG K) (S3.2.2 v0 13) (wS3.1 _ _ kv0 13 _ rfl) S3) cb7 (wS3.1 _ _ kv0 13 _ rfl) ml_X9_286 in_yX7_firstLeft se_yX7_firstLeft ii_RX7 co_yX7_firstLeft hy_X7_firstLeft (hRd hR (by decide) (by decide)) rfl (Nat.le_of_ble_eq_true rfl) dX9_surest_29 (fun r6 S5 _ wS5 => ?_)
    exact T_iret wS5 X dX9_surest_32
theorem C_X9_surest (G : GG) (v0 : Nat) (kv0 : KD v0 = (0, 9)) (v1 : Int32) (S : St) : CM G yX9_surest cX9_surest 2 (some .int) 3 [.ref v0, .int v1] S (fun v : Int32 => some (.int v)) (f_X9_surest v0 v1 S) :=
  CM_of (by decide) (Nat.le_of_ble_eq_true rfl) rfl (fun K hG X hR w => t_X9_surest_0 X hR v0 kv0 v1 S w)
-- ==== X9_holdNext
theorem hy_X9_holdNext : yX9_holdNext.cls ≠ "java/lang/invoke/MethodHandle" ∧ yX9_holdNext.cls ≠ "java/lang/invoke/VarHandle" ∧ (parseMethodDescriptor yX9_holdNext.desc).map (fun d => d.parameters.length) = some 1 := by decide +kernel
set_option maxRecDepth 20000 in
def f_X9_holdNext (v0 : Nat) (v1 : Int32) (S : St) : Option (Int32 × St) := bd (f_X9_isWithin v1 (0 : Int32) (S.1 (S.2.2 v0 13) 4) S) fun r2 S1 => if r2 = 0 then (some ((-1 : Int32), S1)) else (bd (f_X7_lookBy (S1.2.2 v0 13) v1 S1) fun _ S3 => if (S3.1 (S3.2.2 v0 13) 7) = 0 then (some ((-2 : Int32), S3)) else (bd (f_X7_bestNext (S3.2.2 v0 13) S3) fun r6 S5 => some (r6, S5)))
set_option maxRecDepth 20000 in
theorem t_X9_holdNext_0 {K : KK} (X : CX K cX9_holdNext 2 RX9 (some .int)) (hR : kR K = rmD 3) (v0 : Nat) (kv0 : KD v0 = (0, 9)) (v1 : Int32) (S : St) (w : WT S.2.2) : JX K (Zm K (fun v : Int32 => some (.int v))) 0 [some (.ref v0), some (.int v1)] [] (rw_ S) 187 0 0 (f_X9_holdNext v0 v1 S) := by
  unfold f_X9_holdNext
  refine J_iload_n X dX9_holdNext_0 (i := 1) rfl rfl ?_
  refine J_iconst X (v := (0 : Int32)) dX9_holdNext_1 (by decide) ?_
  refine J_aload_n X dX9_holdNext_2 (i := 0) rfl rfl ?_
  refine T_getR X (kf := 13) cb9 kv0 (by decide) fl_X9_75 (fun _ _ _ => rfl) dX9_holdNext_3 ?_
  refine T_getI X (kf := 4) cb7 (w.1 _ _ kv0 13 _ rfl) (by decide) fl_X9_200 (fun _ _ _ => rfl) dX9_holdNext_6 ?_
  refine T_callS (As := [.int v1, .int (0 : Int32), .int (S.1 (S.2.2 v0 13) 4)]) w X (C_X9_isWithin (kG K) v1 (0 : Int32) (S.1 (S.2.2 v0 13) 4) S) ml_X9_224 st_yX9_isWithin ii_RX9 co_yX9_isWithin hy_X9_isWithin (hRd hR (by decide) (by decide)) rfl (Nat.le_of_ble_eq_true rfl) dX9_holdNext_9 (fun r2 S1 _ wS1 => ?_)
  refine J_if_ne X (tgt := 17) dX9_holdNext_12 (by decide) ?_ ?_
  · refine J_iconst X (v := (-1 : Int32)) dX9_holdNext_15 (by decide) ?_
    exact T_iret wS1 X dX9_holdNext_16
  · refine J_aload_n X dX9_holdNext_17 (i := 0) rfl rfl ?_
    refine T_getR X (kf := 13) cb9 kv0 (by decide) fl_X9_75 (fun _ _ _ => rfl) dX9_holdNext_18 ?_
    refine J_iload_n X dX9_holdNext_21 (i := 1) rfl rfl ?_
    refine T_callV (As := [.int v1]) wS1 X (C_X7_lookBy (kG K) (S1.2.2 v0 13) (wS1.1 _ _ kv0 13 _ rfl) v1 S1) cb7 (wS1.1 _ _ kv0 13 _ rfl) ml_X9_280 in_yX7_lookBy se_yX7_lookBy ii_RX7 co_yX7_lookBy hy_X7_lookBy (hRd hR (by decide) (by decide)) rfl (Nat.le_of_ble_eq_true rfl) dX9_holdNext_22 (fun _ S3 _ wS3 => ?_)
    refine J_aload_n X dX9_holdNext_25 (i := 0) rfl rfl ?_
    refine T_getR X (kf := 13) cb9 kv0 (by decide) fl_X9_75 (fun _ _ _ => rfl) dX9_holdNext_26 ?_
    refine T_getI X (kf := 7) cb7 (wS3.1 _ _ kv0 13 _ rfl) (by decide) fl_X9_283 (fun _ _ _ => rfl) dX9_holdNext_29 ?_
    refine J_if_ne X (tgt := 40) dX9_holdNext_32 (by decide) ?_ ?_
    · refine J_bipush X (v := (-2 : Int32)) dX9_holdNext_35 (by decide) ?_
      refine J_goto X (tgt := 47) dX9_holdNext_37 (by decide) ?_
      exact T_iret wS3 X dX9_holdNext_47
    · refine J_aload_n X dX9_holdNext_40 (i := 0) rfl rfl ?_
      refine T_getR X (kf := 13) cb9 kv0 (by decide) fl_X9_75 (fun _ _ _ => rfl) dX9_holdNext_41 ?_
      refine T_callV (As := []) wS3 X (C_X7_bestNext (kG K) (S3.2.2 v0 13) (wS3.1 _ _ kv0 13 _ rfl) S3) cb7 (wS3.1 _ _ kv0 13 _ rfl) ml_X9_289 in_yX7_bestNext se_yX7_bestNext ii_RX7 co_yX7_bestNext hy_X7_bestNext (hRd hR (by decide) (by decide)) rfl (Nat.le_of_ble_eq_true rfl) dX9_holdNext_44 (fun r6 S5 _ wS5 => ?_)
      exact T_iret wS5 X dX9_holdNext_47
theorem C_X9_holdNext (G : GG) (v0 : Nat) (kv0 : KD v0 = (0, 9)) (v1 : Int32) (S : St) : CM G yX9_holdNext cX9_holdNext 2 (some .int) 3 [.ref v0, .int v1] S (fun v : Int32 => some (.int v)) (f_X9_holdNext v0 v1 S) :=
  CM_of (by decide) (Nat.le_of_ble_eq_true rfl) rfl (fun K hG X hR w => t_X9_holdNext_0 X hR v0 kv0 v1 S w)

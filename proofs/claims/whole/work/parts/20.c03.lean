-- ==== X4_readSum
set_option maxRecDepth 20000 in
def b_X4_readSum_32 (rs : Nat → Int32 → St → Option (Unit × St)) (q7 : Nat → Int32 → Int32 → St → Option (Unit × St)) (v0 : Nat) (v1 : Int32) (v2 : Int32) (S : St) : Option (Unit × St) := bd (f_X4_atHand v0 S) fun r2 S1 => bd (f_X4_take v0 r2 S1) fun r4 S3 => bd (f_X4_readProduct rs v0 v1 S3) fun _ S5 => bd (f_X2_put (S5.2.2 (S5.2.2 v0 1) 10) ((20000 : Int32) + r2) S5) fun _ S7 => nm (v2 + (1 : Int32)) fun x9 => q7 v0 v1 x9 S7
set_option maxRecDepth 20000 in
theorem t_X4_readSum_32 {K : KK} (X : CX K cX4_readSum 4 RX4 none) {rs : Nat → Int32 → St → Option (Unit × St)} {d0 : Nat} (hrs : ∀ (a : Nat) (x : Int32) (S : St), KA (kDn K) a (0, 4) → CM (kG K) yX4_readSum cX4_readSum 4 none d0 [.ref a, .int x] S (fun _ : Unit => none) (rs a x S)) (hR : kR K = rmD (d0 + 6)) {q7 : Nat → Int32 → Int32 → St → Option (Unit × St)} (hq7 : ∀ (v0 : Nat) (kv0 : KA (kDn K) v0 (0, 4)) (v1 : Int32) (v2 : Int32) (S : St), WT (kDn K) S.2.2 → JX K (Zm K (fun _ : Unit => none)) 7 [some (.ref v0), some (.int v1), some (.int v2), none] [] (rwN (kN K) S) (kn K) 0 0 (q7 v0 v1 v2 S)) (v0 : Nat) (kv0 : KA (kDn K) v0 (0, 4)) (v1 : Int32) (v2 : Int32) (S : St) (w : WT (kDn K) S.2.2) : JX K (Zm K (fun _ : Unit => none)) 32 [some (.ref v0), some (.int v1), some (.int v2), none] [] (rwN (kN K) S) (kn K) 0 0 (b_X4_readSum_32 rs q7 v0 v1 v2 S) := by
  unfold b_X4_readSum_32
  refine J_aload_n X dX4_readSum_32 (i := 0) rfl rfl ?_
  refine T_callV (As := []) w X (C_X4_atHand (kG K) v0 kv0 S) cb4 kv0 ml_X4_46 in_yX4_atHand se_yX4_atHand ii_RX4 co_yX4_atHand hy_X4_atHand (hRd hR (by omega) (by decide)) rfl (Nat.le_of_ble_eq_true rfl) dX4_readSum_33 (fun r2 S1 _ wS1 => ?_)
  refine J_istore_n X (i := 3) (ls' := [some (.ref v0), some (.int v1), some (.int v2), some (.int r2)]) dX4_readSum_36 rfl (by decide) rfl ?_
  refine J_aload_n X dX4_readSum_37 (i := 0) rfl rfl ?_
  refine J_iload_n X dX4_readSum_38 (i := 3) rfl rfl ?_
  refine T_callV (As := [.int r2]) wS1 X (C_X4_take (kG K) v0 kv0 r2 S1) cb4 kv0 ml_X4_81 in_yX4_take se_yX4_take ii_RX4 co_yX4_take hy_X4_take (hRd hR (by omega) (by decide)) rfl (Nat.le_of_ble_eq_true rfl) dX4_readSum_39 (fun r4 S3 _ wS3 => ?_)
  refine J_pop X dX4_readSum_42 rfl ?_
  refine J_aload_n X dX4_readSum_43 (i := 0) rfl rfl ?_
  refine J_iload_n X dX4_readSum_44 (i := 1) rfl rfl ?_
  refine T_callV (As := [.int v1]) wS3 X (C_X4_readProduct hrs v0 kv0 v1 S3) cb4 kv0 ml_X4_153 in_yX4_readProduct se_yX4_readProduct ii_RX4 co_yX4_readProduct hy_X4_readProduct (hRd hR (by omega) (by decide)) rfl (Nat.le_of_ble_eq_true rfl) dX4_readSum_45 (fun _ S5 _ wS5 => ?_)
  refine J_aload_n X dX4_readSum_48 (i := 0) rfl rfl ?_
  refine T_getR X (kf := 1) cb4 kv0 (by decide) fl_X4_20 (fun _ _ _ => rfl) dX4_readSum_49 ?_
  refine T_getR X (kf := 10) cb0 (wS5.1 _ _ kv0 1 _ rfl) (by decide) fl_X4_138 (fun _ _ _ => rfl) dX4_readSum_52 ?_
  refine J_sipush X (v := (20000 : Int32)) dX4_readSum_55 (by decide) ?_
  refine J_iload_n X dX4_readSum_58 (i := 3) rfl rfl ?_
  refine J_iadd X dX4_readSum_59 ?_
  refine T_callV (As := [.int ((20000 : Int32) + r2)]) wS5 X (C_X2_put (kG K) (S5.2.2 (S5.2.2 v0 1) 10) (wS5.1 _ _ (wS5.1 _ _ kv0 1 _ rfl) 10 _ rfl) ((20000 : Int32) + r2) S5) cb2 (wS5.1 _ _ (wS5.1 _ _ kv0 1 _ rfl) 10 _ rfl) ml_X4_156 in_yX2_put se_yX2_put ii_RX2 co_yX2_put hy_X2_put (hRd hR (by omega) (by decide)) rfl (Nat.le_of_ble_eq_true rfl) dX4_readSum_60 (fun _ S7 _ wS7 => ?_)
  refine J_nmv (v2 + (1 : Int32)) (fun x9 ex9 => ?_)
  refine J_iinc X (v := x9) (ls' := [some (.ref v0), some (.int v1), some (.int x9), some (.int r2)]) dX4_readSum_63 (by decide) rfl (by rw [ex9]; rfl) rfl ?_
  refine J_goto X (tgt := 7) dX4_readSum_66 (by decide) ?_
  refine J_mask [true, true, true, false] ?_
  exact hq7 v0 kv0 v1 x9 S7 wS7
set_option maxRecDepth 20000 in
def b_X4_readSum_7 (rs : Nat → Int32 → St → Option (Unit × St)) : Nat → Nat → Int32 → Int32 → St → Option (Unit × St)
  | 0, _, _, _, _ => none
  | fu + 1, v0, v1, v2, S => if (400 : Int32) ≤ v2 then (some ((), S)) else (bd (f_X4_atHand v0 S) fun r2 S1 => if r2 = (43 : Int32) then (b_X4_readSum_32 rs (b_X4_readSum_7 rs fu) v0 v1 v2 S1) else (bd (f_X4_atHand v0 S1) fun r4 S3 => if r4 = (45 : Int32) then (b_X4_readSum_32 rs (b_X4_readSum_7 rs fu) v0 v1 v2 S3) else (some ((), S3))))
set_option maxRecDepth 20000 in
theorem t_X4_readSum_7 {K : KK} (X : CX K cX4_readSum 4 RX4 none) {rs : Nat → Int32 → St → Option (Unit × St)} {d0 : Nat} (hrs : ∀ (a : Nat) (x : Int32) (S : St), KA (kDn K) a (0, 4) → CM (kG K) yX4_readSum cX4_readSum 4 none d0 [.ref a, .int x] S (fun _ : Unit => none) (rs a x S)) (hR : kR K = rmD (d0 + 6)) : ∀ (fu : Nat) (v0 : Nat) (kv0 : KA (kDn K) v0 (0, 4)) (v1 : Int32) (v2 : Int32) (S : St), WT (kDn K) S.2.2 → JX K (Zm K (fun _ : Unit => none)) 7 [some (.ref v0), some (.int v1), some (.int v2), none] [] (rwN (kN K) S) (kn K) 0 0 (b_X4_readSum_7 rs fu v0 v1 v2 S) := by
  intro fu
  induction fu with
  | zero => intro v0 kv0 v1 v2 S w; exact J_none
  | succ fu ih =>
    intro v0 kv0 v1 v2 S w
    rw [b_X4_readSum_7]
    refine J_iload_n X dX4_readSum_7 (i := 2) rfl rfl ?_
    refine J_sipush X (v := (400 : Int32)) dX4_readSum_8 (by decide) ?_
    refine J_icmp_ge X (tgt := 69) dX4_readSum_11 (by decide) ?_ ?_
    · exact T_vret w X dX4_readSum_69
    · refine J_aload_n X dX4_readSum_14 (i := 0) rfl rfl ?_
      refine T_callV (As := []) w X (C_X4_atHand (kG K) v0 kv0 S) cb4 kv0 ml_X4_46 in_yX4_atHand se_yX4_atHand ii_RX4 co_yX4_atHand hy_X4_atHand (hRd hR (by omega) (by decide)) rfl (Nat.le_of_ble_eq_true rfl) dX4_readSum_15 (fun r2 S1 _ wS1 => ?_)
      refine J_bipush X (v := (43 : Int32)) dX4_readSum_18 (by decide) ?_
      refine J_icmp_eq X (tgt := 32) dX4_readSum_20 (by decide) ?_ ?_
      · exact t_X4_readSum_32 X hrs hR ih v0 kv0 v1 v2 S1 wS1
      · refine J_aload_n X dX4_readSum_23 (i := 0) rfl rfl ?_
        refine T_callV (As := []) wS1 X (C_X4_atHand (kG K) v0 kv0 S1) cb4 kv0 ml_X4_46 in_yX4_atHand se_yX4_atHand ii_RX4 co_yX4_atHand hy_X4_atHand (hRd hR (by omega) (by decide)) rfl (Nat.le_of_ble_eq_true rfl) dX4_readSum_24 (fun r4 S3 _ wS3 => ?_)
        refine J_bipush X (v := (45 : Int32)) dX4_readSum_27 (by decide) ?_
        refine J_icmp_ne X (tgt := 69) dX4_readSum_29 (by decide) ?_ ?_
        · exact t_X4_readSum_32 X hrs hR ih v0 kv0 v1 v2 S3 wS3
        · exact T_vret wS3 X dX4_readSum_69
def g_X4_readSum (rs : Nat → Int32 → St → Option (Unit × St)) (v0 : Nat) (v1 : Int32) (S : St) : Option (Unit × St) := bd (f_X4_readProduct rs v0 v1 S) fun _ S1 => b_X4_readSum_7 rs FU v0 v1 (0 : Int32) S1
set_option maxRecDepth 20000 in
theorem t_X4_readSum_0 {K : KK} (X : CX K cX4_readSum 4 RX4 none) {rs : Nat → Int32 → St → Option (Unit × St)} {d0 : Nat} (hrs : ∀ (a : Nat) (x : Int32) (S : St), KA (kDn K) a (0, 4) → CM (kG K) yX4_readSum cX4_readSum 4 none d0 [.ref a, .int x] S (fun _ : Unit => none) (rs a x S)) (hR : kR K = rmD (d0 + 6)) (v0 : Nat) (kv0 : KA (kDn K) v0 (0, 4)) (v1 : Int32) (S : St) (w : WT (kDn K) S.2.2) : JX K (Zm K (fun _ : Unit => none)) 0 [some (.ref v0), some (.int v1), none, none] [] (rwN (kN K) S) (kn K) 0 0 (g_X4_readSum rs v0 v1 S) := by
  unfold g_X4_readSum
  refine J_aload_n X dX4_readSum_0 (i := 0) rfl rfl ?_
  refine J_iload_n X dX4_readSum_1 (i := 1) rfl rfl ?_
  refine T_callV (As := [.int v1]) w X (C_X4_readProduct hrs v0 kv0 v1 S) cb4 kv0 ml_X4_153 in_yX4_readProduct se_yX4_readProduct ii_RX4 co_yX4_readProduct hy_X4_readProduct (hRd hR (by omega) (by decide)) rfl (Nat.le_of_ble_eq_true rfl) dX4_readSum_2 (fun _ S1 _ wS1 => ?_)
  refine J_iconst X (v := (0 : Int32)) dX4_readSum_5 (by decide) ?_
  refine J_istore_n X (i := 2) (ls' := [some (.ref v0), some (.int v1), some (.int (0 : Int32)), none]) dX4_readSum_6 rfl (by decide) rfl ?_
  exact t_X4_readSum_7 X hrs hR FU v0 kv0 v1 (0 : Int32) S1 wS1
theorem C0_X4_readSum {G : GG} {rs : Nat → Int32 → St → Option (Unit × St)} {d0 : Nat} (hrs : ∀ (a : Nat) (x : Int32) (S : St), KA (gD G) a (0, 4) → CM G yX4_readSum cX4_readSum 4 none d0 [.ref a, .int x] S (fun _ : Unit => none) (rs a x S)) (v0 : Nat) (kv0 : KA (gD G) v0 (0, 4)) (v1 : Int32) (S : St) : CM G yX4_readSum cX4_readSum 4 none (d0 + 6) [.ref v0, .int v1] S (fun _ : Unit => none) (g_X4_readSum rs v0 v1 S) :=
  CM_of (by decide) (Nat.le_of_ble_eq_true rfl) rfl (fun K hG X hR w => by subst hG; exact t_X4_readSum_0 X hrs hR v0 kv0 v1 S w)
set_option maxRecDepth 20000 in
def f_X4_readSum : Nat → Nat → Int32 → St → Option (Unit × St)
  | 0, _, _, _ => none
  | n + 1, a, x, S => g_X4_readSum (f_X4_readSum n) a x S
theorem C_X4_readSum {G : GG} : ∀ (n : Nat) (a : Nat) (ka : KA (gD G) a (0, 4)) (x : Int32) (S : St), CM G yX4_readSum cX4_readSum 4 none (6 * n) [.ref a, .int x] S (fun _ : Unit => none) (f_X4_readSum n a x S)
  | 0, a, ka, x, S => fun r hr => by cases hr
  | n + 1, a, ka, x, S => C0_X4_readSum (d0 := 6 * n) (fun a x S ka => C_X4_readSum n a ka x S) a ka x S
-- ==== X4_readLaw
theorem hy_X4_readLaw : yX4_readLaw.cls ≠ "java/lang/invoke/MethodHandle" ∧ yX4_readLaw.cls ≠ "java/lang/invoke/VarHandle" ∧ (parseMethodDescriptor yX4_readLaw.desc).map (fun d => d.parameters.length) = some 1 := by decide +kernel
set_option maxRecDepth 20000 in
def b_X4_readLaw_11 (v0 : Nat) (S : St) : Option (Unit × St) := bd (f_X4_refuse v0 (1 : Int32) S) fun _ S1 => some ((), S1)
set_option maxRecDepth 20000 in
theorem t_X4_readLaw_11 {K : KK} (X : CX K cX4_readLaw 4 RX4 none) (hR : kR K = rmD 60) (v0 : Nat) (kv0 : KA (kDn K) v0 (0, 4)) (S : St) (w : WT (kDn K) S.2.2) : JX K (Zm K (fun _ : Unit => none)) 11 [some (.ref v0), none, none, none] [] (rwN (kN K) S) (kn K) 0 0 (b_X4_readLaw_11 v0 S) := by
  unfold b_X4_readLaw_11
  refine J_aload_n X dX4_readLaw_11 (i := 0) rfl rfl ?_
  refine J_iconst X (v := (1 : Int32)) dX4_readLaw_12 (by decide) ?_
  refine T_callV (As := [.int (1 : Int32)]) w X (C_X4_refuse (kG K) v0 kv0 (1 : Int32) S) cb4 kv0 ml_X4_78 in_yX4_refuse se_yX4_refuse ii_RX4 co_yX4_refuse hy_X4_refuse (hRd hR (by decide) (by decide)) rfl (Nat.le_of_ble_eq_true rfl) dX4_readLaw_13 (fun _ S1 _ wS1 => ?_)
  exact T_vret wS1 X dX4_readLaw_16
set_option maxRecDepth 20000 in
def b_X4_readLaw_153 (v0 : Nat) (v2 : Int32) (S : St) : Option (Unit × St) := bd (f_X4_readSum RF v0 (0 : Int32) S) fun _ S1 => bd (f_X2_endPiece (S1.2.2 (S1.2.2 v0 1) 10) v2 S1) fun _ S3 => bd (f_X4_take v0 (59 : Int32) S3) fun r6 S5 => some ((), S5)
set_option maxRecDepth 20000 in
theorem t_X4_readLaw_153 {K : KK} (X : CX K cX4_readLaw 4 RX4 none) (hR : kR K = rmD 60) (v0 : Nat) (kv0 : KA (kDn K) v0 (0, 4)) (v2 : Int32) (S : St) (w : WT (kDn K) S.2.2) : JX K (Zm K (fun _ : Unit => none)) 153 [some (.ref v0), none, some (.int v2), none] [] (rwN (kN K) S) (kn K) 0 0 (b_X4_readLaw_153 v0 v2 S) := by
  unfold b_X4_readLaw_153
  refine J_aload_n X dX4_readLaw_153 (i := 0) rfl rfl ?_
  refine J_iconst X (v := (0 : Int32)) dX4_readLaw_154 (by decide) ?_
  refine T_callV (As := [.int (0 : Int32)]) w X (C_X4_readSum RF v0 kv0 (0 : Int32) S) cb4 kv0 ml_X4_147 in_yX4_readSum se_yX4_readSum ii_RX4 co_yX4_readSum hy_X4_readSum (hRd hR (by decide) (by decide)) rfl (Nat.le_of_ble_eq_true rfl) dX4_readLaw_155 (fun _ S1 _ wS1 => ?_)
  refine J_aload_n X dX4_readLaw_158 (i := 0) rfl rfl ?_
  refine T_getR X (kf := 1) cb4 kv0 (by decide) fl_X4_20 (fun _ _ _ => rfl) dX4_readLaw_159 ?_
  refine T_getR X (kf := 10) cb0 (wS1.1 _ _ kv0 1 _ rfl) (by decide) fl_X4_138 (fun _ _ _ => rfl) dX4_readLaw_162 ?_
  refine J_iload_n X dX4_readLaw_165 (i := 2) rfl rfl ?_
  refine T_callV (As := [.int v2]) wS1 X (C_X2_endPiece (kG K) (S1.2.2 (S1.2.2 v0 1) 10) (wS1.1 _ _ (wS1.1 _ _ kv0 1 _ rfl) 10 _ rfl) v2 S1) cb2 (wS1.1 _ _ (wS1.1 _ _ kv0 1 _ rfl) 10 _ rfl) ml_X4_150 in_yX2_endPiece se_yX2_endPiece ii_RX2 co_yX2_endPiece hy_X2_endPiece (hRd hR (by decide) (by decide)) rfl (Nat.le_of_ble_eq_true rfl) dX4_readLaw_166 (fun _ S3 _ wS3 => ?_)
  refine J_aload_n X dX4_readLaw_169 (i := 0) rfl rfl ?_
  refine J_bipush X (v := (59 : Int32)) dX4_readLaw_170 (by decide) ?_
  refine T_callV (As := [.int (59 : Int32)]) wS3 X (C_X4_take (kG K) v0 kv0 (59 : Int32) S3) cb4 kv0 ml_X4_81 in_yX4_take se_yX4_take ii_RX4 co_yX4_take hy_X4_take (hRd hR (by decide) (by decide)) rfl (Nat.le_of_ble_eq_true rfl) dX4_readLaw_172 (fun r6 S5 _ wS5 => ?_)
  refine J_pop X dX4_readLaw_175 rfl ?_
  exact T_vret wS5 X dX4_readLaw_176
set_option maxRecDepth 20000 in
def b_X4_readLaw_71 (q47 : Nat → Int32 → Int32 → St → Option (Unit × St)) (v0 : Nat) (v2 : Int32) (v3 : Int32) (S : St) : Option (Unit × St) := bd (f_X4_take v0 (9 : Int32) S) fun r2 S1 => bd (f_X4_readSum RF v0 (0 : Int32) S1) fun _ S3 => bd (f_X2_endPiece (S3.2.2 (S3.2.2 v0 1) 10) v2 S3) fun _ S5 => bd (f_X4_take v0 (60 : Int32) S5) fun r8 S7 => bd (f_X4_readSum RF v0 (0 : Int32) S7) fun _ S9 => bd (f_X2_endPiece (S9.2.2 (S9.2.2 v0 1) 10) v2 S9) fun _ S11 => bd (f_X4_take v0 (10 : Int32) S11) fun r14 S13 => bd (f_X4_readSum RF v0 (0 : Int32) S13) fun _ S15 => bd (f_X2_endPiece (S15.2.2 (S15.2.2 v0 1) 10) v2 S15) fun _ S17 => bd (f_X4_take v0 (11 : Int32) S17) fun r20 S19 => nm (v3 + (1 : Int32)) fun x21 => q47 v0 v2 x21 S19
set_option maxRecDepth 20000 in
theorem t_X4_readLaw_71 {K : KK} (X : CX K cX4_readLaw 4 RX4 none) (hR : kR K = rmD 60) {q47 : Nat → Int32 → Int32 → St → Option (Unit × St)} (hq47 : ∀ (v0 : Nat) (kv0 : KA (kDn K) v0 (0, 4)) (v2 : Int32) (v3 : Int32) (S : St), WT (kDn K) S.2.2 → JX K (Zm K (fun _ : Unit => none)) 47 [some (.ref v0), none, some (.int v2), some (.int v3)] [] (rwN (kN K) S) (kn K) 0 0 (q47 v0 v2 v3 S)) (v0 : Nat) (kv0 : KA (kDn K) v0 (0, 4)) (v2 : Int32) (v3 : Int32) (S : St) (w : WT (kDn K) S.2.2) : JX K (Zm K (fun _ : Unit => none)) 71 [some (.ref v0), none, some (.int v2), some (.int v3)] [] (rwN (kN K) S) (kn K) 0 0 (b_X4_readLaw_71 q47 v0 v2 v3 S) := by
  unfold b_X4_readLaw_71
  refine J_aload_n X dX4_readLaw_71 (i := 0) rfl rfl ?_
  refine J_bipush X (v := (9 : Int32)) dX4_readLaw_72 (by decide) ?_
  refine T_callV (As := [.int (9 : Int32)]) w X (C_X4_take (kG K) v0 kv0 (9 : Int32) S) cb4 kv0 ml_X4_81 in_yX4_take se_yX4_take ii_RX4 co_yX4_take hy_X4_take (hRd hR (by decide) (by decide)) rfl (Nat.le_of_ble_eq_true rfl) dX4_readLaw_74 (fun r2 S1 _ wS1 => ?_)
  refine J_pop X dX4_readLaw_77 rfl ?_
  refine J_aload_n X dX4_readLaw_78 (i := 0) rfl rfl ?_
  refine J_iconst X (v := (0 : Int32)) dX4_readLaw_79 (by decide) ?_
  refine T_callV (As := [.int (0 : Int32)]) wS1 X (C_X4_readSum RF v0 kv0 (0 : Int32) S1) cb4 kv0 ml_X4_147 in_yX4_readSum se_yX4_readSum ii_RX4 co_yX4_readSum hy_X4_readSum (hRd hR (by decide) (by decide)) rfl (Nat.le_of_ble_eq_true rfl) dX4_readLaw_80 (fun _ S3 _ wS3 => ?_)
  refine J_aload_n X dX4_readLaw_83 (i := 0) rfl rfl ?_
  refine T_getR X (kf := 1) cb4 kv0 (by decide) fl_X4_20 (fun _ _ _ => rfl) dX4_readLaw_84 ?_
  refine T_getR X (kf := 10) cb0 (wS3.1 _ _ kv0 1 _ rfl) (by decide) fl_X4_138 (fun _ _ _ => rfl) dX4_readLaw_87 ?_
  refine J_iload_n X dX4_readLaw_90 (i := 2) rfl rfl ?_
  refine T_callV (As := [.int v2]) wS3 X (C_X2_endPiece (kG K) (S3.2.2 (S3.2.2 v0 1) 10) (wS3.1 _ _ (wS3.1 _ _ kv0 1 _ rfl) 10 _ rfl) v2 S3) cb2 (wS3.1 _ _ (wS3.1 _ _ kv0 1 _ rfl) 10 _ rfl) ml_X4_150 in_yX2_endPiece se_yX2_endPiece ii_RX2 co_yX2_endPiece hy_X2_endPiece (hRd hR (by decide) (by decide)) rfl (Nat.le_of_ble_eq_true rfl) dX4_readLaw_91 (fun _ S5 _ wS5 => ?_)
  refine J_aload_n X dX4_readLaw_94 (i := 0) rfl rfl ?_
  refine J_bipush X (v := (60 : Int32)) dX4_readLaw_95 (by decide) ?_
  refine T_callV (As := [.int (60 : Int32)]) wS5 X (C_X4_take (kG K) v0 kv0 (60 : Int32) S5) cb4 kv0 ml_X4_81 in_yX4_take se_yX4_take ii_RX4 co_yX4_take hy_X4_take (hRd hR (by decide) (by decide)) rfl (Nat.le_of_ble_eq_true rfl) dX4_readLaw_97 (fun r8 S7 _ wS7 => ?_)
  refine J_pop X dX4_readLaw_100 rfl ?_
  refine J_aload_n X dX4_readLaw_101 (i := 0) rfl rfl ?_
  refine J_iconst X (v := (0 : Int32)) dX4_readLaw_102 (by decide) ?_
  refine T_callV (As := [.int (0 : Int32)]) wS7 X (C_X4_readSum RF v0 kv0 (0 : Int32) S7) cb4 kv0 ml_X4_147 in_yX4_readSum se_yX4_readSum ii_RX4 co_yX4_readSum hy_X4_readSum (hRd hR (by decide) (by decide)) rfl (Nat.le_of_ble_eq_true rfl) dX4_readLaw_103 (fun _ S9 _ wS9 => ?_)
  refine J_aload_n X dX4_readLaw_106 (i := 0) rfl rfl ?_
  refine T_getR X (kf := 1) cb4 kv0 (by decide) fl_X4_20 (fun _ _ _ => rfl) dX4_readLaw_107 ?_
  refine T_getR X (kf := 10) cb0 (wS9.1 _ _ kv0 1 _ rfl) (by decide) fl_X4_138 (fun _ _ _ => rfl) dX4_readLaw_110 ?_
  refine J_iload_n X dX4_readLaw_113 (i := 2) rfl rfl ?_
  refine T_callV (As := [.int v2]) wS9 X (C_X2_endPiece (kG K) (S9.2.2 (S9.2.2 v0 1) 10) (wS9.1 _ _ (wS9.1 _ _ kv0 1 _ rfl) 10 _ rfl) v2 S9) cb2 (wS9.1 _ _ (wS9.1 _ _ kv0 1 _ rfl) 10 _ rfl) ml_X4_150 in_yX2_endPiece se_yX2_endPiece ii_RX2 co_yX2_endPiece hy_X2_endPiece (hRd hR (by decide) (by decide)) rfl (Nat.le_of_ble_eq_true rfl) dX4_readLaw_114 (fun _ S11 _ wS11 => ?_)
  refine J_aload_n X dX4_readLaw_117 (i := 0) rfl rfl ?_
  refine J_bipush X (v := (10 : Int32)) dX4_readLaw_118 (by decide) ?_
  refine T_callV (As := [.int (10 : Int32)]) wS11 X (C_X4_take (kG K) v0 kv0 (10 : Int32) S11) cb4 kv0 ml_X4_81 in_yX4_take se_yX4_take ii_RX4 co_yX4_take hy_X4_take (hRd hR (by decide) (by decide)) rfl (Nat.le_of_ble_eq_true rfl) dX4_readLaw_120 (fun r14 S13 _ wS13 => ?_)
  refine J_pop X dX4_readLaw_123 rfl ?_
  refine J_aload_n X dX4_readLaw_124 (i := 0) rfl rfl ?_
  refine J_iconst X (v := (0 : Int32)) dX4_readLaw_125 (by decide) ?_
  refine T_callV (As := [.int (0 : Int32)]) wS13 X (C_X4_readSum RF v0 kv0 (0 : Int32) S13) cb4 kv0 ml_X4_147 in_yX4_readSum se_yX4_readSum ii_RX4 co_yX4_readSum hy_X4_readSum (hRd hR (by decide) (by decide)) rfl (Nat.le_of_ble_eq_true rfl) dX4_readLaw_126 (fun _ S15 _ wS15 => ?_)
  refine J_aload_n X dX4_readLaw_129 (i := 0) rfl rfl ?_
  refine T_getR X (kf := 1) cb4 kv0 (by decide) fl_X4_20 (fun _ _ _ => rfl) dX4_readLaw_130 ?_
  refine T_getR X (kf := 10) cb0 (wS15.1 _ _ kv0 1 _ rfl) (by decide) fl_X4_138 (fun _ _ _ => rfl) dX4_readLaw_133 ?_
  refine J_iload_n X dX4_readLaw_136 (i := 2) rfl rfl ?_
  refine T_callV (As := [.int v2]) wS15 X (C_X2_endPiece (kG K) (S15.2.2 (S15.2.2 v0 1) 10) (wS15.1 _ _ (wS15.1 _ _ kv0 1 _ rfl) 10 _ rfl) v2 S15) cb2 (wS15.1 _ _ (wS15.1 _ _ kv0 1 _ rfl) 10 _ rfl) ml_X4_150 in_yX2_endPiece se_yX2_endPiece ii_RX2 co_yX2_endPiece hy_X2_endPiece (hRd hR (by decide) (by decide)) rfl (Nat.le_of_ble_eq_true rfl) dX4_readLaw_137 (fun _ S17 _ wS17 => ?_)
  refine J_aload_n X dX4_readLaw_140 (i := 0) rfl rfl ?_
  refine J_bipush X (v := (11 : Int32)) dX4_readLaw_141 (by decide) ?_
  refine T_callV (As := [.int (11 : Int32)]) wS17 X (C_X4_take (kG K) v0 kv0 (11 : Int32) S17) cb4 kv0 ml_X4_81 in_yX4_take se_yX4_take ii_RX4 co_yX4_take hy_X4_take (hRd hR (by decide) (by decide)) rfl (Nat.le_of_ble_eq_true rfl) dX4_readLaw_143 (fun r20 S19 _ wS19 => ?_)
  refine J_pop X dX4_readLaw_146 rfl ?_
  refine J_nmv (v3 + (1 : Int32)) (fun x21 ex21 => ?_)
  refine J_iinc X (v := x21) (ls' := [some (.ref v0), none, some (.int v2), some (.int x21)]) dX4_readLaw_147 (by decide) rfl (by rw [ex21]; rfl) rfl ?_
  refine J_goto X (tgt := 47) dX4_readLaw_150 (by decide) ?_
  exact hq47 v0 kv0 v2 x21 S19 wS19
set_option maxRecDepth 20000 in
def b_X4_readLaw_47 : Nat → Nat → Int32 → Int32 → St → Option (Unit × St)
  | 0, _, _, _, _ => none
  | fu + 1, v0, v2, v3, S => if (4 : Int32) < v3 then (b_X4_readLaw_153 v0 v2 S) else (bd (f_X4_atHand v0 S) fun r2 S1 => if r2 = (9 : Int32) then (if v3 = (4 : Int32) then (bd (f_X4_refuse v0 (2 : Int32) S1) fun _ S3 => b_X4_readLaw_71 (b_X4_readLaw_47 fu) v0 v2 v3 S3) else (b_X4_readLaw_71 (b_X4_readLaw_47 fu) v0 v2 v3 S1)) else (b_X4_readLaw_153 v0 v2 S1))
set_option maxRecDepth 20000 in
theorem t_X4_readLaw_47 {K : KK} (X : CX K cX4_readLaw 4 RX4 none) (hR : kR K = rmD 60) : ∀ (fu : Nat) (v0 : Nat) (kv0 : KA (kDn K) v0 (0, 4)) (v2 : Int32) (v3 : Int32) (S : St), WT (kDn K) S.2.2 → JX K (Zm K (fun _ : Unit => none)) 47 [some (.ref v0), none, some (.int v2), some (.int v3)] [] (rwN (kN K) S) (kn K) 0 0 (b_X4_readLaw_47 fu v0 v2 v3 S) := by
  intro fu
  induction fu with
  | zero => intro v0 kv0 v2 v3 S w; exact J_none
  | succ fu ih =>
    intro v0 kv0 v2 v3 S w
    rw [b_X4_readLaw_47]
    refine J_iload_n X dX4_readLaw_47 (i := 3) rfl rfl ?_
    refine J_iconst X (v := (4 : Int32)) dX4_readLaw_48 (by decide) ?_
    refine J_icmp_gt X (tgt := 153) dX4_readLaw_49 (by decide) ?_ ?_
    · refine J_mask [true, false, true, false] ?_
      exact t_X4_readLaw_153 X hR v0 kv0 v2 S w
    · refine J_aload_n X dX4_readLaw_52 (i := 0) rfl rfl ?_
      refine T_callV (As := []) w X (C_X4_atHand (kG K) v0 kv0 S) cb4 kv0 ml_X4_46 in_yX4_atHand se_yX4_atHand ii_RX4 co_yX4_atHand hy_X4_atHand (hRd hR (by decide) (by decide)) rfl (Nat.le_of_ble_eq_true rfl) dX4_readLaw_53 (fun r2 S1 _ wS1 => ?_)
      refine J_bipush X (v := (9 : Int32)) dX4_readLaw_56 (by decide) ?_
      refine J_icmp_ne X (tgt := 153) dX4_readLaw_58 (by decide) ?_ ?_
      · refine J_iload_n X dX4_readLaw_61 (i := 3) rfl rfl ?_
        refine J_iconst X (v := (4 : Int32)) dX4_readLaw_62 (by decide) ?_
        refine J_icmp_ne X (tgt := 71) dX4_readLaw_63 (by decide) ?_ ?_
        · refine J_aload_n X dX4_readLaw_66 (i := 0) rfl rfl ?_
          refine J_iconst X (v := (2 : Int32)) dX4_readLaw_67 (by decide) ?_
          refine T_callV (As := [.int (2 : Int32)]) wS1 X (C_X4_refuse (kG K) v0 kv0 (2 : Int32) S1) cb4 kv0 ml_X4_78 in_yX4_refuse se_yX4_refuse ii_RX4 co_yX4_refuse hy_X4_refuse (hRd hR (by decide) (by decide)) rfl (Nat.le_of_ble_eq_true rfl) dX4_readLaw_68 (fun _ S3 _ wS3 => ?_)
          exact t_X4_readLaw_71 X hR ih v0 kv0 v2 v3 S3 wS3
        · exact t_X4_readLaw_71 X hR ih v0 kv0 v2 v3 S1 wS1
      · refine J_mask [true, false, true, false] ?_
        exact t_X4_readLaw_153 X hR v0 kv0 v2 S1 wS1
set_option maxRecDepth 20000 in
def f_X4_readLaw (v0 : Nat) (v1 : Int32) (S : St) : Option (Unit × St) := if v1 < (3 : Int32) then (b_X4_readLaw_11 v0 S) else (if v1 ≤ (6 : Int32) then (nm (v1 - (3 : Int32)) fun x1 => bd (f_X4_take v0 v1 S) fun r3 S2 => bd (f_X4_take v0 (61 : Int32) S2) fun r5 S4 => bd (f_X2_open (S4.2.2 (S4.2.2 v0 1) 10) x1 S4) fun _ S6 => b_X4_readLaw_47 FU v0 x1 (0 : Int32) S6) else (b_X4_readLaw_11 v0 S))
set_option maxRecDepth 20000 in
theorem t_X4_readLaw_0 {K : KK} (X : CX K cX4_readLaw 4 RX4 none) (hR : kR K = rmD 60) (v0 : Nat) (kv0 : KA (kDn K) v0 (0, 4)) (v1 : Int32) (S : St) (w : WT (kDn K) S.2.2) : JX K (Zm K (fun _ : Unit => none)) 0 [some (.ref v0), some (.int v1), none, none] [] (rwN (kN K) S) (kn K) 0 0 (f_X4_readLaw v0 v1 S) := by
  unfold f_X4_readLaw
  refine J_iload_n X dX4_readLaw_0 (i := 1) rfl rfl ?_
  refine J_iconst X (v := (3 : Int32)) dX4_readLaw_1 (by decide) ?_
  refine J_icmp_lt X (tgt := 11) dX4_readLaw_2 (by decide) ?_ ?_
  · refine J_mask [true, false, false, false] ?_
    exact t_X4_readLaw_11 X hR v0 kv0 S w
  · refine J_iload_n X dX4_readLaw_5 (i := 1) rfl rfl ?_
    refine J_bipush X (v := (6 : Int32)) dX4_readLaw_6 (by decide) ?_
    refine J_icmp_le X (tgt := 17) dX4_readLaw_8 (by decide) ?_ ?_
    · refine J_iload_n X dX4_readLaw_17 (i := 1) rfl rfl ?_
      refine J_iconst X (v := (3 : Int32)) dX4_readLaw_18 (by decide) ?_
      refine J_isub X dX4_readLaw_19 ?_
      refine J_nmi (fun x1 => ?_)
      refine J_istore_n X (i := 2) (ls' := [some (.ref v0), some (.int v1), some (.int x1), none]) dX4_readLaw_20 rfl (by decide) rfl ?_
      refine J_aload_n X dX4_readLaw_21 (i := 0) rfl rfl ?_
      refine J_iload_n X dX4_readLaw_22 (i := 1) rfl rfl ?_
      refine T_callV (As := [.int v1]) w X (C_X4_take (kG K) v0 kv0 v1 S) cb4 kv0 ml_X4_81 in_yX4_take se_yX4_take ii_RX4 co_yX4_take hy_X4_take (hRd hR (by decide) (by decide)) rfl (Nat.le_of_ble_eq_true rfl) dX4_readLaw_23 (fun r3 S2 _ wS2 => ?_)
      refine J_pop X dX4_readLaw_26 rfl ?_
      refine J_aload_n X dX4_readLaw_27 (i := 0) rfl rfl ?_
      refine J_bipush X (v := (61 : Int32)) dX4_readLaw_28 (by decide) ?_
      refine T_callV (As := [.int (61 : Int32)]) wS2 X (C_X4_take (kG K) v0 kv0 (61 : Int32) S2) cb4 kv0 ml_X4_81 in_yX4_take se_yX4_take ii_RX4 co_yX4_take hy_X4_take (hRd hR (by decide) (by decide)) rfl (Nat.le_of_ble_eq_true rfl) dX4_readLaw_30 (fun r5 S4 _ wS4 => ?_)
      refine J_pop X dX4_readLaw_33 rfl ?_
      refine J_aload_n X dX4_readLaw_34 (i := 0) rfl rfl ?_
      refine T_getR X (kf := 1) cb4 kv0 (by decide) fl_X4_20 (fun _ _ _ => rfl) dX4_readLaw_35 ?_
      refine T_getR X (kf := 10) cb0 (wS4.1 _ _ kv0 1 _ rfl) (by decide) fl_X4_138 (fun _ _ _ => rfl) dX4_readLaw_38 ?_
      refine J_iload_n X dX4_readLaw_41 (i := 2) rfl rfl ?_
      refine T_callV (As := [.int x1]) wS4 X (C_X2_open (kG K) (S4.2.2 (S4.2.2 v0 1) 10) (wS4.1 _ _ (wS4.1 _ _ kv0 1 _ rfl) 10 _ rfl) x1 S4) cb2 (wS4.1 _ _ (wS4.1 _ _ kv0 1 _ rfl) 10 _ rfl) ml_X4_142 in_yX2_open se_yX2_open ii_RX2 co_yX2_open hy_X2_open (hRd hR (by decide) (by decide)) rfl (Nat.le_of_ble_eq_true rfl) dX4_readLaw_42 (fun _ S6 _ wS6 => ?_)
      refine J_iconst X (v := (0 : Int32)) dX4_readLaw_45 (by decide) ?_
      refine J_istore_n X (i := 3) (ls' := [some (.ref v0), some (.int v1), some (.int x1), some (.int (0 : Int32))]) dX4_readLaw_46 rfl (by decide) rfl ?_
      refine J_mask [true, false, true, true] ?_
      exact t_X4_readLaw_47 X hR FU v0 kv0 x1 (0 : Int32) S6 wS6
    · refine J_mask [true, false, false, false] ?_
      exact t_X4_readLaw_11 X hR v0 kv0 S w
theorem C_X4_readLaw (G : GG) (v0 : Nat) (kv0 : KA (gD G) v0 (0, 4)) (v1 : Int32) (S : St) : CM G yX4_readLaw cX4_readLaw 4 none 60 [.ref v0, .int v1] S (fun _ : Unit => none) (f_X4_readLaw v0 v1 S) :=
  CM_of (by decide) (Nat.le_of_ble_eq_true rfl) rfl (fun K hG X hR w => by subst hG; exact t_X4_readLaw_0 X hR v0 kv0 v1 S w)
-- ==== X4_readText
theorem hy_X4_readText : yX4_readText.cls ≠ "java/lang/invoke/MethodHandle" ∧ yX4_readText.cls ≠ "java/lang/invoke/VarHandle" ∧ (parseMethodDescriptor yX4_readText.desc).map (fun d => d.parameters.length) = some 2 := by decide +kernel
set_option maxRecDepth 20000 in
def b_X4_readText_171 (v0 : Nat) (S : St) : Option (Int32 × St) := if (S.1 v0 3) = 0 then (if (S.1 v0 5) = 0 then (some (S.1 v0 3, S)) else (nm (sI S v0 3 (S.1 v0 5)) fun S1 => nm (sI S1 v0 4 (S1.1 v0 6)) fun S2 => some (S2.1 v0 3, S2))) else (some (S.1 v0 3, S))
set_option maxRecDepth 20000 in
theorem t_X4_readText_171 {K : KK} (X : CX K cX4_readText 5 RX4 (some .int)) (hR : kR K = rmD 61) (v0 : Nat) (kv0 : KA (kDn K) v0 (0, 4)) (S : St) (w : WT (kDn K) S.2.2) : JX K (Zm K (fun v : Int32 => some (.int v))) 171 [some (.ref v0), none, none, none, none] [] (rwN (kN K) S) (kn K) 0 0 (b_X4_readText_171 v0 S) := by
  unfold b_X4_readText_171
  refine J_aload_n X dX4_readText_171 (i := 0) rfl rfl ?_
  refine T_getI X (kf := 3) cb4 kv0 (by decide) fl_X4_40 (fun _ _ _ => rfl) dX4_readText_172 ?_
  refine J_if_ne X (tgt := 201) dX4_readText_175 (by decide) ?_ ?_
  · refine J_aload_n X dX4_readText_178 (i := 0) rfl rfl ?_
    refine T_getI X (kf := 5) cb4 kv0 (by decide) fl_X4_43 (fun _ _ _ => rfl) dX4_readText_179 ?_
    refine J_if_eq X (tgt := 201) dX4_readText_182 (by decide) ?_ ?_
    · refine J_aload_n X dX4_readText_201 (i := 0) rfl rfl ?_
      refine T_getI X (kf := 3) cb4 kv0 (by decide) fl_X4_40 (fun _ _ _ => rfl) dX4_readText_202 ?_
      exact T_iret w X dX4_readText_205
    · refine J_aload_n X dX4_readText_185 (i := 0) rfl rfl ?_
      refine J_aload_n X dX4_readText_186 (i := 0) rfl rfl ?_
      refine T_getI X (kf := 5) cb4 kv0 (by decide) fl_X4_43 (fun _ _ _ => rfl) dX4_readText_187 ?_
      refine T_putI X (kf := 3) cb4 kv0 (by decide) fl_X4_40 (fun _ _ _ => rfl) rfl rfl rfl dX4_readText_190 (fun S1 hS1 => ?_)
      have wS1 : WT (kDn K) S1.2.2 := by rw [hS1]; exact w
      clear hS1
      refine J_aload_n X dX4_readText_193 (i := 0) rfl rfl ?_
      refine J_aload_n X dX4_readText_194 (i := 0) rfl rfl ?_
      refine T_getI X (kf := 6) cb4 kv0 (by decide) fl_X4_68 (fun _ _ _ => rfl) dX4_readText_195 ?_
      refine T_putI X (kf := 4) cb4 kv0 (by decide) fl_X4_24 (fun _ _ _ => rfl) rfl rfl rfl dX4_readText_198 (fun S2 hS2 => ?_)
      have wS2 : WT (kDn K) S2.2.2 := by rw [hS2]; exact wS1
      clear hS2
      refine J_aload_n X dX4_readText_201 (i := 0) rfl rfl ?_
      refine T_getI X (kf := 3) cb4 kv0 (by decide) fl_X4_40 (fun _ _ _ => rfl) dX4_readText_202 ?_
      exact T_iret wS2 X dX4_readText_205
  · refine J_aload_n X dX4_readText_201 (i := 0) rfl rfl ?_
    refine T_getI X (kf := 3) cb4 kv0 (by decide) fl_X4_40 (fun _ _ _ => rfl) dX4_readText_202 ?_
    exact T_iret w X dX4_readText_205
set_option maxRecDepth 20000 in
def b_X4_readText_165 (q42 : Nat → Int32 → St → Option (Int32 × St)) (v0 : Nat) (v3 : Int32) (S : St) : Option (Int32 × St) := nm (v3 + (1 : Int32)) fun x1 => q42 v0 x1 S
set_option maxRecDepth 20000 in
theorem t_X4_readText_165 {K : KK} (X : CX K cX4_readText 5 RX4 (some .int)) (hR : kR K = rmD 61) {q42 : Nat → Int32 → St → Option (Int32 × St)} (hq42 : ∀ (v0 : Nat) (kv0 : KA (kDn K) v0 (0, 4)) (v3 : Int32) (S : St), WT (kDn K) S.2.2 → JX K (Zm K (fun v : Int32 => some (.int v))) 42 [some (.ref v0), none, none, some (.int v3), none] [] (rwN (kN K) S) (kn K) 0 0 (q42 v0 v3 S)) (v0 : Nat) (kv0 : KA (kDn K) v0 (0, 4)) (v3 : Int32) (S : St) (w : WT (kDn K) S.2.2) : JX K (Zm K (fun v : Int32 => some (.int v))) 165 [some (.ref v0), none, none, some (.int v3), none] [] (rwN (kN K) S) (kn K) 0 0 (b_X4_readText_165 q42 v0 v3 S) := by
  unfold b_X4_readText_165
  refine J_nmv (v3 + (1 : Int32)) (fun x1 ex1 => ?_)
  refine J_iinc X (v := x1) (ls' := [some (.ref v0), none, none, some (.int x1), none]) dX4_readText_165 (by decide) rfl (by rw [ex1]; rfl) rfl ?_
  refine J_goto X (tgt := 42) dX4_readText_168 (by decide) ?_
  exact hq42 v0 kv0 x1 S w
set_option maxRecDepth 20000 in
def b_X4_readText_42 : Nat → Nat → Int32 → St → Option (Int32 × St)
  | 0, _, _, _ => none
  | fu + 1, v0, v3, S => if (400 : Int32) < v3 then (b_X4_readText_171 v0 S) else (if (S.1 v0 3) = 0 then (bd (f_X4_atHand v0 S) fun r2 S1 => if r2 = (23 : Int32) then (b_X4_readText_171 v0 S1) else (bd (f_X4_atHand v0 S1) fun r4 S3 => if r4 = (0 : Int32) then (bd (f_X4_readMermaid v0 S3) fun _ S5 => b_X4_readText_165 (b_X4_readText_42 fu) v0 v3 S5) else if r4 = (1 : Int32) then (bd (f_X4_readPerson v0 S3) fun _ S7 => b_X4_readText_165 (b_X4_readText_42 fu) v0 v3 S7) else if r4 = (2 : Int32) then (bd (f_X4_readStrand v0 S3) fun _ S9 => b_X4_readText_165 (b_X4_readText_42 fu) v0 v3 S9) else if r4 = (7 : Int32) then (bd (f_X4_readPier v0 S3) fun _ S11 => b_X4_readText_165 (b_X4_readText_42 fu) v0 v3 S11) else if r4 = (8 : Int32) then (bd (f_X4_readSeed v0 S3) fun _ S13 => b_X4_readText_165 (b_X4_readText_42 fu) v0 v3 S13) else (bd (f_X4_readLaw v0 r4 S3) fun _ S15 => b_X4_readText_165 (b_X4_readText_42 fu) v0 v3 S15))) else (b_X4_readText_171 v0 S))
set_option maxRecDepth 20000 in
theorem t_X4_readText_42 {K : KK} (X : CX K cX4_readText 5 RX4 (some .int)) (hR : kR K = rmD 61) : ∀ (fu : Nat) (v0 : Nat) (kv0 : KA (kDn K) v0 (0, 4)) (v3 : Int32) (S : St), WT (kDn K) S.2.2 → JX K (Zm K (fun v : Int32 => some (.int v))) 42 [some (.ref v0), none, none, some (.int v3), none] [] (rwN (kN K) S) (kn K) 0 0 (b_X4_readText_42 fu v0 v3 S) := by
  intro fu
  induction fu with
  | zero => intro v0 kv0 v3 S w; exact J_none
  | succ fu ih =>
    intro v0 kv0 v3 S w
    rw [b_X4_readText_42]
    refine J_iload_n X dX4_readText_42 (i := 3) rfl rfl ?_
    refine J_sipush X (v := (400 : Int32)) dX4_readText_43 (by decide) ?_
    refine J_icmp_gt X (tgt := 171) dX4_readText_46 (by decide) ?_ ?_
    · refine J_mask [true, false, false, false, false] ?_
      exact t_X4_readText_171 X hR v0 kv0 S w
    · refine J_aload_n X dX4_readText_49 (i := 0) rfl rfl ?_
      refine T_getI X (kf := 3) cb4 kv0 (by decide) fl_X4_40 (fun _ _ _ => rfl) dX4_readText_50 ?_
      refine J_if_ne X (tgt := 171) dX4_readText_53 (by decide) ?_ ?_
      · refine J_aload_n X dX4_readText_56 (i := 0) rfl rfl ?_
        refine T_callV (As := []) w X (C_X4_atHand (kG K) v0 kv0 S) cb4 kv0 ml_X4_46 in_yX4_atHand se_yX4_atHand ii_RX4 co_yX4_atHand hy_X4_atHand (hRd hR (by decide) (by decide)) rfl (Nat.le_of_ble_eq_true rfl) dX4_readText_57 (fun r2 S1 _ wS1 => ?_)
        refine J_bipush X (v := (23 : Int32)) dX4_readText_60 (by decide) ?_
        refine J_icmp_eq X (tgt := 171) dX4_readText_62 (by decide) ?_ ?_
        · refine J_mask [true, false, false, false, false] ?_
          exact t_X4_readText_171 X hR v0 kv0 S1 wS1
        · refine J_aload_n X dX4_readText_65 (i := 0) rfl rfl ?_
          refine T_callV (As := []) wS1 X (C_X4_atHand (kG K) v0 kv0 S1) cb4 kv0 ml_X4_46 in_yX4_atHand se_yX4_atHand ii_RX4 co_yX4_atHand hy_X4_atHand (hRd hR (by decide) (by decide)) rfl (Nat.le_of_ble_eq_true rfl) dX4_readText_66 (fun r4 S3 _ wS3 => ?_)
          refine J_istore X (ls' := [some (.ref v0), none, none, some (.int v3), some (.int r4)]) dX4_readText_69 (by decide) rfl ?_
          refine J_iload X dX4_readText_71 rfl ?_
          refine J_ite (fun hc73_0 => ?_) (fun hc73_0 => ?_)
          · refine J_tabIn X (v := (0 : Int32)) (off := 51) (tgt := 124) hc73_0 dX4_readText_73 (by decide) (by decide) (by decide) (by decide) ?_
            refine J_aload_n X dX4_readText_124 (i := 0) rfl rfl ?_
            refine T_callV (As := []) wS3 X (C_X4_readMermaid (kG K) v0 kv0 S3) cb4 kv0 ml_X4_50 in_yX4_readMermaid se_yX4_readMermaid ii_RX4 co_yX4_readMermaid hy_X4_readMermaid (hRd hR (by decide) (by decide)) rfl (Nat.le_of_ble_eq_true rfl) dX4_readText_125 (fun _ S5 _ wS5 => ?_)
            refine J_goto X (tgt := 165) dX4_readText_128 (by decide) ?_
            refine J_mask [true, false, false, true, false] ?_
            exact t_X4_readText_165 X hR ih v0 kv0 v3 S5 wS5
          refine J_ite (fun hc73_1 => ?_) (fun hc73_1 => ?_)
          · refine J_tabIn X (v := (1 : Int32)) (off := 58) (tgt := 131) hc73_1 dX4_readText_73 (by decide) (by decide) (by decide) (by decide) ?_
            refine J_aload_n X dX4_readText_131 (i := 0) rfl rfl ?_
            refine T_callV (As := []) wS3 X (C_X4_readPerson (kG K) v0 kv0 S3) cb4 kv0 ml_X4_53 in_yX4_readPerson se_yX4_readPerson ii_RX4 co_yX4_readPerson hy_X4_readPerson (hRd hR (by decide) (by decide)) rfl (Nat.le_of_ble_eq_true rfl) dX4_readText_132 (fun _ S7 _ wS7 => ?_)
            refine J_goto X (tgt := 165) dX4_readText_135 (by decide) ?_
            refine J_mask [true, false, false, true, false] ?_
            exact t_X4_readText_165 X hR ih v0 kv0 v3 S7 wS7
          refine J_ite (fun hc73_2 => ?_) (fun hc73_2 => ?_)
          · refine J_tabIn X (v := (2 : Int32)) (off := 65) (tgt := 138) hc73_2 dX4_readText_73 (by decide) (by decide) (by decide) (by decide) ?_
            refine J_aload_n X dX4_readText_138 (i := 0) rfl rfl ?_
            refine T_callV (As := []) wS3 X (C_X4_readStrand (kG K) v0 kv0 S3) cb4 kv0 ml_X4_56 in_yX4_readStrand se_yX4_readStrand ii_RX4 co_yX4_readStrand hy_X4_readStrand (hRd hR (by decide) (by decide)) rfl (Nat.le_of_ble_eq_true rfl) dX4_readText_139 (fun _ S9 _ wS9 => ?_)
            refine J_goto X (tgt := 165) dX4_readText_142 (by decide) ?_
            refine J_mask [true, false, false, true, false] ?_
            exact t_X4_readText_165 X hR ih v0 kv0 v3 S9 wS9
          refine J_ite (fun hc73_7 => ?_) (fun hc73_7 => ?_)
          · refine J_tabIn X (v := (7 : Int32)) (off := 72) (tgt := 145) hc73_7 dX4_readText_73 (by decide) (by decide) (by decide) (by decide) ?_
            refine J_aload_n X dX4_readText_145 (i := 0) rfl rfl ?_
            refine T_callV (As := []) wS3 X (C_X4_readPier (kG K) v0 kv0 S3) cb4 kv0 ml_X4_59 in_yX4_readPier se_yX4_readPier ii_RX4 co_yX4_readPier hy_X4_readPier (hRd hR (by decide) (by decide)) rfl (Nat.le_of_ble_eq_true rfl) dX4_readText_146 (fun _ S11 _ wS11 => ?_)
            refine J_goto X (tgt := 165) dX4_readText_149 (by decide) ?_
            refine J_mask [true, false, false, true, false] ?_
            exact t_X4_readText_165 X hR ih v0 kv0 v3 S11 wS11
          refine J_ite (fun hc73_8 => ?_) (fun hc73_8 => ?_)
          · refine J_tabIn X (v := (8 : Int32)) (off := 79) (tgt := 152) hc73_8 dX4_readText_73 (by decide) (by decide) (by decide) (by decide) ?_
            refine J_aload_n X dX4_readText_152 (i := 0) rfl rfl ?_
            refine T_callV (As := []) wS3 X (C_X4_readSeed (kG K) v0 kv0 S3) cb4 kv0 ml_X4_62 in_yX4_readSeed se_yX4_readSeed ii_RX4 co_yX4_readSeed hy_X4_readSeed (hRd hR (by decide) (by decide)) rfl (Nat.le_of_ble_eq_true rfl) dX4_readText_153 (fun _ S13 _ wS13 => ?_)
            refine J_goto X (tgt := 165) dX4_readText_156 (by decide) ?_
            refine J_mask [true, false, false, true, false] ?_
            exact t_X4_readText_165 X hR ih v0 kv0 v3 S13 wS13
          by_cases hd73_3 : r4 = (3 : Int32)
          · refine J_tabIn X (v := (3 : Int32)) (off := 86) (tgt := 159) hd73_3 dX4_readText_73 (by decide) (by decide) (by decide) (by decide) ?_
            refine J_aload_n X dX4_readText_159 (i := 0) rfl rfl ?_
            refine J_iload X dX4_readText_160 rfl ?_
            refine T_callV (As := [.int r4]) wS3 X (C_X4_readLaw (kG K) v0 kv0 r4 S3) cb4 kv0 ml_X4_65 in_yX4_readLaw se_yX4_readLaw ii_RX4 co_yX4_readLaw hy_X4_readLaw (hRd hR (by decide) (by decide)) rfl (Nat.le_of_ble_eq_true rfl) dX4_readText_162 (fun _ S15 _ wS15 => ?_)
            refine J_mask [true, false, false, true, false] ?_
            exact t_X4_readText_165 X hR ih v0 kv0 v3 S15 wS15
          by_cases hd73_4 : r4 = (4 : Int32)
          · refine J_tabIn X (v := (4 : Int32)) (off := 86) (tgt := 159) hd73_4 dX4_readText_73 (by decide) (by decide) (by decide) (by decide) ?_
            refine J_aload_n X dX4_readText_159 (i := 0) rfl rfl ?_
            refine J_iload X dX4_readText_160 rfl ?_
            refine T_callV (As := [.int r4]) wS3 X (C_X4_readLaw (kG K) v0 kv0 r4 S3) cb4 kv0 ml_X4_65 in_yX4_readLaw se_yX4_readLaw ii_RX4 co_yX4_readLaw hy_X4_readLaw (hRd hR (by decide) (by decide)) rfl (Nat.le_of_ble_eq_true rfl) dX4_readText_162 (fun _ S15 _ wS15 => ?_)
            refine J_mask [true, false, false, true, false] ?_
            exact t_X4_readText_165 X hR ih v0 kv0 v3 S15 wS15
          by_cases hd73_5 : r4 = (5 : Int32)
          · refine J_tabIn X (v := (5 : Int32)) (off := 86) (tgt := 159) hd73_5 dX4_readText_73 (by decide) (by decide) (by decide) (by decide) ?_
            refine J_aload_n X dX4_readText_159 (i := 0) rfl rfl ?_
            refine J_iload X dX4_readText_160 rfl ?_
            refine T_callV (As := [.int r4]) wS3 X (C_X4_readLaw (kG K) v0 kv0 r4 S3) cb4 kv0 ml_X4_65 in_yX4_readLaw se_yX4_readLaw ii_RX4 co_yX4_readLaw hy_X4_readLaw (hRd hR (by decide) (by decide)) rfl (Nat.le_of_ble_eq_true rfl) dX4_readText_162 (fun _ S15 _ wS15 => ?_)
            refine J_mask [true, false, false, true, false] ?_
            exact t_X4_readText_165 X hR ih v0 kv0 v3 S15 wS15
          by_cases hd73_6 : r4 = (6 : Int32)
          · refine J_tabIn X (v := (6 : Int32)) (off := 86) (tgt := 159) hd73_6 dX4_readText_73 (by decide) (by decide) (by decide) (by decide) ?_
            refine J_aload_n X dX4_readText_159 (i := 0) rfl rfl ?_
            refine J_iload X dX4_readText_160 rfl ?_
            refine T_callV (As := [.int r4]) wS3 X (C_X4_readLaw (kG K) v0 kv0 r4 S3) cb4 kv0 ml_X4_65 in_yX4_readLaw se_yX4_readLaw ii_RX4 co_yX4_readLaw hy_X4_readLaw (hRd hR (by decide) (by decide)) rfl (Nat.le_of_ble_eq_true rfl) dX4_readText_162 (fun _ S15 _ wS15 => ?_)
            refine J_mask [true, false, false, true, false] ?_
            exact t_X4_readText_165 X hR ih v0 kv0 v3 S15 wS15
          have nhc73_0 := tabne hc73_0 (k := 0) (by decide)
          have nhc73_1 := tabne hc73_1 (k := 1) (by decide)
          have nhc73_2 := tabne hc73_2 (k := 2) (by decide)
          have nhc73_7 := tabne hc73_7 (k := 7) (by decide)
          have nhc73_8 := tabne hc73_8 (k := 8) (by decide)
          have nhd73_3 := tabne hd73_3 (k := 3) (by decide)
          have nhd73_4 := tabne hd73_4 (k := 4) (by decide)
          have nhd73_5 := tabne hd73_5 (k := 5) (by decide)
          have nhd73_6 := tabne hd73_6 (k := 6) (by decide)
          refine J_tabOut X (tgt := 159) dX4_readText_73 (tabout 0 8 (fun v h1 h2 => by omega)) (by decide) ?_
          refine J_aload_n X dX4_readText_159 (i := 0) rfl rfl ?_
          refine J_iload X dX4_readText_160 rfl ?_
          refine T_callV (As := [.int r4]) wS3 X (C_X4_readLaw (kG K) v0 kv0 r4 S3) cb4 kv0 ml_X4_65 in_yX4_readLaw se_yX4_readLaw ii_RX4 co_yX4_readLaw hy_X4_readLaw (hRd hR (by decide) (by decide)) rfl (Nat.le_of_ble_eq_true rfl) dX4_readText_162 (fun _ S15 _ wS15 => ?_)
          refine J_mask [true, false, false, true, false] ?_
          exact t_X4_readText_165 X hR ih v0 kv0 v3 S15 wS15
      · refine J_mask [true, false, false, false, false] ?_
        exact t_X4_readText_171 X hR v0 kv0 S w
set_option maxRecDepth 20000 in
def f_X4_readText (v0 : Nat) (v1 : Int32) (v2 : Nat) (S : St) : Option (Int32 × St) := bd (f_X6_split (S.2.2 v0 0) v1 S) fun _ S1 => nm (sR S1 v0 1 v2) fun S3 => bd (f_X0_clearAll (S3.2.2 v0 1) S3) fun _ S4 => nm (sI S4 v0 2 (0 : Int32)) fun S6 => nm (sI S6 v0 3 (0 : Int32)) fun S7 => nm (sI S7 v0 4 (-1 : Int32)) fun S8 => nm (sI S8 v0 5 (0 : Int32)) fun S9 => b_X4_readText_42 FU v0 (0 : Int32) S9
set_option maxRecDepth 20000 in
theorem t_X4_readText_0 {K : KK} (X : CX K cX4_readText 5 RX4 (some .int)) (hR : kR K = rmD 61) (v0 : Nat) (kv0 : KA (kDn K) v0 (0, 4)) (v1 : Int32) (v2 : Nat) (kv2 : KA (kDn K) v2 (0, 0)) (S : St) (w : WT (kDn K) S.2.2) : JX K (Zm K (fun v : Int32 => some (.int v))) 0 [some (.ref v0), some (.int v1), some (.ref v2), none, none] [] (rwN (kN K) S) (kn K) 0 0 (f_X4_readText v0 v1 v2 S) := by
  unfold f_X4_readText
  refine J_aload_n X dX4_readText_0 (i := 0) rfl rfl ?_
  refine T_getR X (kf := 0) cb4 kv0 (by decide) fl_X4_14 (fun _ _ _ => rfl) dX4_readText_1 ?_
  refine J_iload_n X dX4_readText_4 (i := 1) rfl rfl ?_
  refine T_callV (As := [.int v1]) w X (C_X6_split (kG K) (S.2.2 v0 0) (w.1 _ _ kv0 0 _ rfl) v1 S) cb6 (w.1 _ _ kv0 0 _ rfl) ml_X4_28 in_yX6_split se_yX6_split ii_RX6 co_yX6_split hy_X6_split (hRd hR (by decide) (by decide)) rfl (Nat.le_of_ble_eq_true rfl) dX4_readText_5 (fun _ S1 _ wS1 => ?_)
  refine J_aload_n X dX4_readText_8 (i := 0) rfl rfl ?_
  refine J_aload_n X dX4_readText_9 (i := 2) rfl rfl ?_
  refine T_putR X (kf := 1) cb4 kv0 (by decide) fl_X4_20 (fun _ _ _ => rfl) rfl (fun _ => rfl) (fun _ => rfl) dX4_readText_10 (fun S3 hS3 => ?_)
  have wS3 : WT (kDn K) S3.2.2 := by rw [hS3]; exact wS1.set kv0 rfl kv2
  clear hS3
  refine J_aload_n X dX4_readText_13 (i := 0) rfl rfl ?_
  refine T_getR X (kf := 1) cb4 kv0 (by decide) fl_X4_20 (fun _ _ _ => rfl) dX4_readText_14 ?_
  refine T_callV (As := []) wS3 X (C_X0_clearAll (kG K) (S3.2.2 v0 1) (wS3.1 _ _ kv0 1 _ rfl) S3) cb0 (wS3.1 _ _ kv0 1 _ rfl) ml_X4_32 in_yX0_clearAll se_yX0_clearAll ii_RX0 co_yX0_clearAll hy_X0_clearAll (hRd hR (by decide) (by decide)) rfl (Nat.le_of_ble_eq_true rfl) dX4_readText_17 (fun _ S4 _ wS4 => ?_)
  refine J_aload_n X dX4_readText_20 (i := 0) rfl rfl ?_
  refine J_iconst X (v := (0 : Int32)) dX4_readText_21 (by decide) ?_
  refine T_putI X (kf := 2) cb4 kv0 (by decide) fl_X4_37 (fun _ _ _ => rfl) rfl rfl rfl dX4_readText_22 (fun S6 hS6 => ?_)
  have wS6 : WT (kDn K) S6.2.2 := by rw [hS6]; exact wS4
  clear hS6
  refine J_aload_n X dX4_readText_25 (i := 0) rfl rfl ?_
  refine J_iconst X (v := (0 : Int32)) dX4_readText_26 (by decide) ?_
  refine T_putI X (kf := 3) cb4 kv0 (by decide) fl_X4_40 (fun _ _ _ => rfl) rfl rfl rfl dX4_readText_27 (fun S7 hS7 => ?_)
  have wS7 : WT (kDn K) S7.2.2 := by rw [hS7]; exact wS6
  clear hS7
  refine J_aload_n X dX4_readText_30 (i := 0) rfl rfl ?_
  refine J_iconst X (v := (-1 : Int32)) dX4_readText_31 (by decide) ?_
  refine T_putI X (kf := 4) cb4 kv0 (by decide) fl_X4_24 (fun _ _ _ => rfl) rfl rfl rfl dX4_readText_32 (fun S8 hS8 => ?_)
  have wS8 : WT (kDn K) S8.2.2 := by rw [hS8]; exact wS7
  clear hS8
  refine J_aload_n X dX4_readText_35 (i := 0) rfl rfl ?_
  refine J_iconst X (v := (0 : Int32)) dX4_readText_36 (by decide) ?_
  refine T_putI X (kf := 5) cb4 kv0 (by decide) fl_X4_43 (fun _ _ _ => rfl) rfl rfl rfl dX4_readText_37 (fun S9 hS9 => ?_)
  have wS9 : WT (kDn K) S9.2.2 := by rw [hS9]; exact wS8
  clear hS9
  refine J_iconst X (v := (0 : Int32)) dX4_readText_40 (by decide) ?_
  refine J_istore_n X (i := 3) (ls' := [some (.ref v0), some (.int v1), some (.ref v2), some (.int (0 : Int32)), none]) dX4_readText_41 rfl (by decide) rfl ?_
  refine J_mask [true, false, false, true, false] ?_
  exact t_X4_readText_42 X hR FU v0 kv0 (0 : Int32) S9 wS9
theorem C_X4_readText (G : GG) (v0 : Nat) (kv0 : KA (gD G) v0 (0, 4)) (v1 : Int32) (v2 : Nat) (kv2 : KA (gD G) v2 (0, 0)) (S : St) : CM G yX4_readText cX4_readText 5 (some .int) 61 [.ref v0, .int v1, .ref v2] S (fun v : Int32 => some (.int v)) (f_X4_readText v0 v1 v2 S) :=
  CM_of (by decide) (Nat.le_of_ble_eq_true rfl) rfl (fun K hG X hR w => by subst hG; exact t_X4_readText_0 X hR v0 kv0 v1 v2 kv2 S w)
-- ==== X5_isWorn
theorem hy_X5_isWorn : yX5_isWorn.cls ≠ "java/lang/invoke/MethodHandle" ∧ yX5_isWorn.cls ≠ "java/lang/invoke/VarHandle" ∧ (parseMethodDescriptor yX5_isWorn.desc).map (fun d => d.parameters.length) = some 2 := by decide +kernel
set_option maxRecDepth 20000 in
def f_X5_isWorn (v0 : Nat) (v1 : Int32) (v2 : Int32) (S : St) : Option (Int32 × St) := (ix ((28 : Int32) + v1) 36).bind fun j1 => if (S.1 (S.2.2 v0 0) j1) = v2 then (if (((S.1 v0 4) >>> (v1 &&& 31)) &&& (1 : Int32)) = 0 then (some ((1 : Int32), S)) else (some ((0 : Int32), S))) else (some ((0 : Int32), S))
set_option maxRecDepth 20000 in
theorem t_X5_isWorn_0 {K : KK} (X : CX K cX5_isWorn 3 RX5 (some .boolean)) (hR : kR K = rmD 0) (v0 : Nat) (kv0 : KA (kDn K) v0 (0, 5)) (v1 : Int32) (v2 : Int32) (S : St) (w : WT (kDn K) S.2.2) : JX K (Zm K (fun v : Int32 => some (.int v))) 0 [some (.ref v0), some (.int v1), some (.int v2)] [] (rwN (kN K) S) (kn K) 0 0 (f_X5_isWorn v0 v1 v2 S) := by
  unfold f_X5_isWorn
  refine J_aload_n X dX5_isWorn_0 (i := 0) rfl rfl ?_
  refine T_getR X (kf := 0) cb5 kv0 (by decide) fl_X5_9 (fun _ _ _ => rfl) dX5_isWorn_1 ?_
  refine J_bipush X (v := (28 : Int32)) dX5_isWorn_4 (by decide) ?_
  refine J_iload_n X dX5_isWorn_6 (i := 1) rfl rfl ?_
  refine J_iadd X dX5_isWorn_7 ?_
  refine T_iald X (w.1 _ _ kv0 0 _ rfl) dX5_isWorn_8 (fun j1 => ?_)
  refine J_iload_n X dX5_isWorn_9 (i := 2) rfl rfl ?_
  refine J_icmp_ne X (tgt := 28) dX5_isWorn_10 (by decide) ?_ ?_
  · refine J_aload_n X dX5_isWorn_13 (i := 0) rfl rfl ?_
    refine T_getI X (kf := 4) cb5 kv0 (by decide) fl_X5_31 (fun _ _ _ => rfl) dX5_isWorn_14 ?_
    refine J_iload_n X dX5_isWorn_17 (i := 1) rfl rfl ?_
    refine J_ishr X dX5_isWorn_18 ?_
    refine J_iconst X (v := (1 : Int32)) dX5_isWorn_19 (by decide) ?_
    refine J_iand X dX5_isWorn_20 ?_
    refine J_if_ne X (tgt := 28) dX5_isWorn_21 (by decide) ?_ ?_
    · refine J_iconst X (v := (1 : Int32)) dX5_isWorn_24 (by decide) ?_
      refine J_goto X (tgt := 29) dX5_isWorn_25 (by decide) ?_
      exact T_zret w X (by decide) dX5_isWorn_29
    · refine J_iconst X (v := (0 : Int32)) dX5_isWorn_28 (by decide) ?_
      exact T_zret w X (by decide) dX5_isWorn_29
  · refine J_iconst X (v := (0 : Int32)) dX5_isWorn_28 (by decide) ?_
    exact T_zret w X (by decide) dX5_isWorn_29
theorem C_X5_isWorn (G : GG) (v0 : Nat) (kv0 : KA (gD G) v0 (0, 5)) (v1 : Int32) (v2 : Int32) (S : St) : CM G yX5_isWorn cX5_isWorn 3 (some .boolean) 0 [.ref v0, .int v1, .int v2] S (fun v : Int32 => some (.int v)) (f_X5_isWorn v0 v1 v2 S) :=
  CM_of (by decide) (Nat.le_of_ble_eq_true rfl) rfl (fun K hG X hR w => by subst hG; exact t_X5_isWorn_0 X hR v0 kv0 v1 v2 S w)
-- ==== X5_mayBeHanded
theorem hy_X5_mayBeHanded : yX5_mayBeHanded.cls ≠ "java/lang/invoke/MethodHandle" ∧ yX5_mayBeHanded.cls ≠ "java/lang/invoke/VarHandle" ∧ (parseMethodDescriptor yX5_mayBeHanded.desc).map (fun d => d.parameters.length) = some 2 := by decide +kernel
set_option maxRecDepth 20000 in
def f_X5_mayBeHanded (v0 : Nat) (v1 : Int32) (v2 : Int32) (S : St) : Option (Int32 × St) := (ix ((28 : Int32) + v1) 36).bind fun j1 => if (S.1 (S.2.2 v0 0) j1) = v2 then (some ((0 : Int32), S)) else (bd (f_X5_isCut v0 v1 S) fun r3 S2 => if r3 = 0 then (bd (f_X5_isOff v0 v2 S2) fun r5 S4 => if r5 = 0 then (some ((1 : Int32), S4)) else (some ((0 : Int32), S4))) else (some ((0 : Int32), S2)))
set_option maxRecDepth 20000 in
theorem t_X5_mayBeHanded_0 {K : KK} (X : CX K cX5_mayBeHanded 3 RX5 (some .boolean)) (hR : kR K = rmD 1) (v0 : Nat) (kv0 : KA (kDn K) v0 (0, 5)) (v1 : Int32) (v2 : Int32) (S : St) (w : WT (kDn K) S.2.2) : JX K (Zm K (fun v : Int32 => some (.int v))) 0 [some (.ref v0), some (.int v1), some (.int v2)] [] (rwN (kN K) S) (kn K) 0 0 (f_X5_mayBeHanded v0 v1 v2 S) := by
  unfold f_X5_mayBeHanded
  refine J_aload_n X dX5_mayBeHanded_0 (i := 0) rfl rfl ?_
  refine T_getR X (kf := 0) cb5 kv0 (by decide) fl_X5_9 (fun _ _ _ => rfl) dX5_mayBeHanded_1 ?_
  refine J_bipush X (v := (28 : Int32)) dX5_mayBeHanded_4 (by decide) ?_
  refine J_iload_n X dX5_mayBeHanded_6 (i := 1) rfl rfl ?_
  refine J_iadd X dX5_mayBeHanded_7 ?_
  refine T_iald X (w.1 _ _ kv0 0 _ rfl) dX5_mayBeHanded_8 (fun j1 => ?_)
  refine J_iload_n X dX5_mayBeHanded_9 (i := 2) rfl rfl ?_
  refine J_icmp_eq X (tgt := 33) dX5_mayBeHanded_10 (by decide) ?_ ?_
  · refine J_iconst X (v := (0 : Int32)) dX5_mayBeHanded_33 (by decide) ?_
    exact T_zret w X (by decide) dX5_mayBeHanded_34
  · refine J_aload_n X dX5_mayBeHanded_13 (i := 0) rfl rfl ?_
    refine J_iload_n X dX5_mayBeHanded_14 (i := 1) rfl rfl ?_
    refine T_callV (As := [.int v1]) w X (C_X5_isCut (kG K) v0 kv0 v1 S) cb5 kv0 ml_X5_40 in_yX5_isCut se_yX5_isCut ii_RX5 co_yX5_isCut hy_X5_isCut (hRd hR (by decide) (by decide)) rfl (Nat.le_of_ble_eq_true rfl) dX5_mayBeHanded_15 (fun r3 S2 _ wS2 => ?_)
    refine J_if_ne X (tgt := 33) dX5_mayBeHanded_18 (by decide) ?_ ?_
    · refine J_aload_n X dX5_mayBeHanded_21 (i := 0) rfl rfl ?_
      refine J_iload_n X dX5_mayBeHanded_22 (i := 2) rfl rfl ?_
      refine T_callV (As := [.int v2]) wS2 X (C_X5_isOff (kG K) v0 kv0 v2 S2) cb5 kv0 ml_X5_44 in_yX5_isOff se_yX5_isOff ii_RX5 co_yX5_isOff hy_X5_isOff (hRd hR (by decide) (by decide)) rfl (Nat.le_of_ble_eq_true rfl) dX5_mayBeHanded_23 (fun r5 S4 _ wS4 => ?_)
      refine J_if_ne X (tgt := 33) dX5_mayBeHanded_26 (by decide) ?_ ?_
      · refine J_iconst X (v := (1 : Int32)) dX5_mayBeHanded_29 (by decide) ?_
        refine J_goto X (tgt := 34) dX5_mayBeHanded_30 (by decide) ?_
        exact T_zret wS4 X (by decide) dX5_mayBeHanded_34
      · refine J_iconst X (v := (0 : Int32)) dX5_mayBeHanded_33 (by decide) ?_
        exact T_zret wS4 X (by decide) dX5_mayBeHanded_34
    · refine J_iconst X (v := (0 : Int32)) dX5_mayBeHanded_33 (by decide) ?_
      exact T_zret wS2 X (by decide) dX5_mayBeHanded_34
theorem C_X5_mayBeHanded (G : GG) (v0 : Nat) (kv0 : KA (gD G) v0 (0, 5)) (v1 : Int32) (v2 : Int32) (S : St) : CM G yX5_mayBeHanded cX5_mayBeHanded 3 (some .boolean) 1 [.ref v0, .int v1, .int v2] S (fun v : Int32 => some (.int v)) (f_X5_mayBeHanded v0 v1 v2 S) :=
  CM_of (by decide) (Nat.le_of_ble_eq_true rfl) rfl (fun K hG X hR w => by subst hG; exact t_X5_mayBeHanded_0 X hR v0 kv0 v1 v2 S w)
-- ==== X5_swimAlong
theorem hy_X5_swimAlong : yX5_swimAlong.cls ≠ "java/lang/invoke/MethodHandle" ∧ yX5_swimAlong.cls ≠ "java/lang/invoke/VarHandle" ∧ (parseMethodDescriptor yX5_swimAlong.desc).map (fun d => d.parameters.length) = some 2 := by decide +kernel
set_option maxRecDepth 20000 in
def b_X5_swimAlong_61 (v0 : Nat) (v1 : Int32) (v3 : Int32) (S : St) : Option (Unit × St) := (ix v1 36).bind fun j1 => nm (sI S (S.2.2 v0 0) j1 v3) fun S2 => some ((), S2)
set_option maxRecDepth 20000 in
theorem t_X5_swimAlong_61 {K : KK} (X : CX K cX5_swimAlong 4 RX5 none) (hR : kR K = rmD 0) (v0 : Nat) (kv0 : KA (kDn K) v0 (0, 5)) (v1 : Int32) (v3 : Int32) (S : St) (w : WT (kDn K) S.2.2) : JX K (Zm K (fun _ : Unit => none)) 61 [some (.ref v0), some (.int v1), none, some (.int v3)] [] (rwN (kN K) S) (kn K) 0 0 (b_X5_swimAlong_61 v0 v1 v3 S) := by
  unfold b_X5_swimAlong_61
  refine J_aload_n X dX5_swimAlong_61 (i := 0) rfl rfl ?_
  refine T_getR X (kf := 0) cb5 kv0 (by decide) fl_X5_9 (fun _ _ _ => rfl) dX5_swimAlong_62 ?_
  refine J_iload_n X dX5_swimAlong_65 (i := 1) rfl rfl ?_
  refine J_iload_n X dX5_swimAlong_66 (i := 3) rfl rfl ?_
  refine T_iast X (w.1 _ _ kv0 0 _ rfl) dX5_swimAlong_67 (fun j1 S2 hS2 => ?_)
  have wS2 : WT (kDn K) S2.2.2 := by rw [hS2]; exact w
  clear hS2
  exact T_vret wS2 X dX5_swimAlong_68
set_option maxRecDepth 20000 in
def f_X5_swimAlong (v0 : Nat) (v1 : Int32) (v2 : Int32) (S : St) : Option (Unit × St) := (ix v1 36).bind fun j1 => (ix v2 36).bind fun j2 => nm ((S.1 (S.2.2 v0 0) j1) + (S.1 (S.2.2 v0 0) j2)) fun x3 => if 0 ≤ x3 then (if x3 ≤ (9 : Int32) then (b_X5_swimAlong_61 v0 v1 x3 S) else (nm ((18 : Int32) - x3) fun x4 => (ix v2 36).bind fun j5 => (ix v2 36).bind fun j6 => nm (sI S (S.2.2 v0 0) j6 (-(S.1 (S.2.2 v0 0) j5))) fun S7 => b_X5_swimAlong_61 v0 v1 x4 S7)) else (nm (-x3) fun x8 => (ix v2 36).bind fun j9 => (ix v2 36).bind fun j10 => nm (sI S (S.2.2 v0 0) j10 (-(S.1 (S.2.2 v0 0) j9))) fun S11 => b_X5_swimAlong_61 v0 v1 x8 S11)
set_option maxRecDepth 20000 in
theorem t_X5_swimAlong_0 {K : KK} (X : CX K cX5_swimAlong 4 RX5 none) (hR : kR K = rmD 0) (v0 : Nat) (kv0 : KA (kDn K) v0 (0, 5)) (v1 : Int32) (v2 : Int32) (S : St) (w : WT (kDn K) S.2.2) : JX K (Zm K (fun _ : Unit => none)) 0 [some (.ref v0), some (.int v1), some (.int v2), none] [] (rwN (kN K) S) (kn K) 0 0 (f_X5_swimAlong v0 v1 v2 S) := by
  unfold f_X5_swimAlong
  refine J_aload_n X dX5_swimAlong_0 (i := 0) rfl rfl ?_
  refine T_getR X (kf := 0) cb5 kv0 (by decide) fl_X5_9 (fun _ _ _ => rfl) dX5_swimAlong_1 ?_
  refine J_iload_n X dX5_swimAlong_4 (i := 1) rfl rfl ?_
  refine T_iald X (w.1 _ _ kv0 0 _ rfl) dX5_swimAlong_5 (fun j1 => ?_)
  refine J_aload_n X dX5_swimAlong_6 (i := 0) rfl rfl ?_
  refine T_getR X (kf := 0) cb5 kv0 (by decide) fl_X5_9 (fun _ _ _ => rfl) dX5_swimAlong_7 ?_
  refine J_iload_n X dX5_swimAlong_10 (i := 2) rfl rfl ?_
  refine T_iald X (w.1 _ _ kv0 0 _ rfl) dX5_swimAlong_11 (fun j2 => ?_)
  refine J_iadd X dX5_swimAlong_12 ?_
  refine J_nmi (fun x3 => ?_)
  refine J_istore_n X (i := 3) (ls' := [some (.ref v0), some (.int v1), some (.int v2), some (.int x3)]) dX5_swimAlong_13 rfl (by decide) rfl ?_
  refine J_iload_n X dX5_swimAlong_14 (i := 3) rfl rfl ?_
  refine J_if_ge X (tgt := 37) dX5_swimAlong_15 (by decide) ?_ ?_
  · refine J_iload_n X dX5_swimAlong_37 (i := 3) rfl rfl ?_
    refine J_bipush X (v := (9 : Int32)) dX5_swimAlong_38 (by decide) ?_
    refine J_icmp_le X (tgt := 61) dX5_swimAlong_40 (by decide) ?_ ?_
    · refine J_mask [true, true, false, true] ?_
      exact t_X5_swimAlong_61 X hR v0 kv0 v1 x3 S w
    · refine J_bipush X (v := (18 : Int32)) dX5_swimAlong_43 (by decide) ?_
      refine J_iload_n X dX5_swimAlong_45 (i := 3) rfl rfl ?_
      refine J_isub X dX5_swimAlong_46 ?_
      refine J_nmi (fun x4 => ?_)
      refine J_istore_n X (i := 3) (ls' := [some (.ref v0), some (.int v1), some (.int v2), some (.int x4)]) dX5_swimAlong_47 rfl (by decide) rfl ?_
      refine J_aload_n X dX5_swimAlong_48 (i := 0) rfl rfl ?_
      refine T_getR X (kf := 0) cb5 kv0 (by decide) fl_X5_9 (fun _ _ _ => rfl) dX5_swimAlong_49 ?_
      refine J_iload_n X dX5_swimAlong_52 (i := 2) rfl rfl ?_
      refine J_aload_n X dX5_swimAlong_53 (i := 0) rfl rfl ?_
      refine T_getR X (kf := 0) cb5 kv0 (by decide) fl_X5_9 (fun _ _ _ => rfl) dX5_swimAlong_54 ?_
      refine J_iload_n X dX5_swimAlong_57 (i := 2) rfl rfl ?_
      refine T_iald X (w.1 _ _ kv0 0 _ rfl) dX5_swimAlong_58 (fun j5 => ?_)
      refine J_ineg X dX5_swimAlong_59 ?_
      refine T_iast X (w.1 _ _ kv0 0 _ rfl) dX5_swimAlong_60 (fun j6 S7 hS7 => ?_)
      have wS7 : WT (kDn K) S7.2.2 := by rw [hS7]; exact w
      clear hS7
      refine J_mask [true, true, false, true] ?_
      exact t_X5_swimAlong_61 X hR v0 kv0 v1 x4 S7 wS7
  · refine J_iload_n X dX5_swimAlong_18 (i := 3) rfl rfl ?_
    refine J_ineg X dX5_swimAlong_19 ?_
    refine J_nmi (fun x8 => ?_)
    refine J_istore_n X (i := 3) (ls' := [some (.ref v0), some (.int v1), some (.int v2), some (.int x8)]) dX5_swimAlong_20 rfl (by decide) rfl ?_
    refine J_aload_n X dX5_swimAlong_21 (i := 0) rfl rfl ?_
    refine T_getR X (kf := 0) cb5 kv0 (by decide) fl_X5_9 (fun _ _ _ => rfl) dX5_swimAlong_22 ?_
    refine J_iload_n X dX5_swimAlong_25 (i := 2) rfl rfl ?_
    refine J_aload_n X dX5_swimAlong_26 (i := 0) rfl rfl ?_
    refine T_getR X (kf := 0) cb5 kv0 (by decide) fl_X5_9 (fun _ _ _ => rfl) dX5_swimAlong_27 ?_
    refine J_iload_n X dX5_swimAlong_30 (i := 2) rfl rfl ?_
    refine T_iald X (w.1 _ _ kv0 0 _ rfl) dX5_swimAlong_31 (fun j9 => ?_)
    refine J_ineg X dX5_swimAlong_32 ?_
    refine T_iast X (w.1 _ _ kv0 0 _ rfl) dX5_swimAlong_33 (fun j10 S11 hS11 => ?_)
    have wS11 : WT (kDn K) S11.2.2 := by rw [hS11]; exact w
    clear hS11
    refine J_goto X (tgt := 61) dX5_swimAlong_34 (by decide) ?_
    refine J_mask [true, true, false, true] ?_
    exact t_X5_swimAlong_61 X hR v0 kv0 v1 x8 S11 wS11
theorem C_X5_swimAlong (G : GG) (v0 : Nat) (kv0 : KA (gD G) v0 (0, 5)) (v1 : Int32) (v2 : Int32) (S : St) : CM G yX5_swimAlong cX5_swimAlong 4 none 0 [.ref v0, .int v1, .int v2] S (fun _ : Unit => none) (f_X5_swimAlong v0 v1 v2 S) :=
  CM_of (by decide) (Nat.le_of_ble_eq_true rfl) rfl (fun K hG X hR w => by subst hG; exact t_X5_swimAlong_0 X hR v0 kv0 v1 v2 S w)
-- ==== X5_swim
theorem hy_X5_swim : yX5_swim.cls ≠ "java/lang/invoke/MethodHandle" ∧ yX5_swim.cls ≠ "java/lang/invoke/VarHandle" ∧ (parseMethodDescriptor yX5_swim.desc).map (fun d => d.parameters.length) = some 1 := by decide +kernel
set_option maxRecDepth 20000 in
def f_X5_swim (v0 : Nat) (v1 : Int32) (S : St) : Option (Unit × St) := bd (f_X5_isDead v0 v1 S) fun r2 S1 => if r2 = 0 then (bd (f_X5_swimAlong v0 ((0 : Int32) + v1) ((8 : Int32) + v1) S1) fun _ S3 => bd (f_X5_swimAlong v0 ((4 : Int32) + v1) ((12 : Int32) + v1) S3) fun _ S5 => some ((), S5)) else (some ((), S1))
set_option maxRecDepth 20000 in
theorem t_X5_swim_0 {K : KK} (X : CX K cX5_swim 2 RX5 none) (hR : kR K = rmD 1) (v0 : Nat) (kv0 : KA (kDn K) v0 (0, 5)) (v1 : Int32) (S : St) (w : WT (kDn K) S.2.2) : JX K (Zm K (fun _ : Unit => none)) 0 [some (.ref v0), some (.int v1)] [] (rwN (kN K) S) (kn K) 0 0 (f_X5_swim v0 v1 S) := by
  unfold f_X5_swim
  refine J_aload_n X dX5_swim_0 (i := 0) rfl rfl ?_
  refine J_iload_n X dX5_swim_1 (i := 1) rfl rfl ?_
  refine T_callV (As := [.int v1]) w X (C_X5_isDead (kG K) v0 kv0 v1 S) cb5 kv0 ml_X5_47 in_yX5_isDead se_yX5_isDead ii_RX5 co_yX5_isDead hy_X5_isDead (hRd hR (by decide) (by decide)) rfl (Nat.le_of_ble_eq_true rfl) dX5_swim_2 (fun r2 S1 _ wS1 => ?_)
  refine J_if_ne X (tgt := 30) dX5_swim_5 (by decide) ?_ ?_
  · refine J_aload_n X dX5_swim_8 (i := 0) rfl rfl ?_
    refine J_iconst X (v := (0 : Int32)) dX5_swim_9 (by decide) ?_
    refine J_iload_n X dX5_swim_10 (i := 1) rfl rfl ?_
    refine J_iadd X dX5_swim_11 ?_
    refine J_bipush X (v := (8 : Int32)) dX5_swim_12 (by decide) ?_
    refine J_iload_n X dX5_swim_14 (i := 1) rfl rfl ?_
    refine J_iadd X dX5_swim_15 ?_
    refine T_callV (As := [.int ((0 : Int32) + v1), .int ((8 : Int32) + v1)]) wS1 X (C_X5_swimAlong (kG K) v0 kv0 ((0 : Int32) + v1) ((8 : Int32) + v1) S1) cb5 kv0 ml_X5_50 in_yX5_swimAlong se_yX5_swimAlong ii_RX5 co_yX5_swimAlong hy_X5_swimAlong (hRd hR (by decide) (by decide)) rfl (Nat.le_of_ble_eq_true rfl) dX5_swim_16 (fun _ S3 _ wS3 => ?_)
    refine J_aload_n X dX5_swim_19 (i := 0) rfl rfl ?_
    refine J_iconst X (v := (4 : Int32)) dX5_swim_20 (by decide) ?_
    refine J_iload_n X dX5_swim_21 (i := 1) rfl rfl ?_
    refine J_iadd X dX5_swim_22 ?_
    refine J_bipush X (v := (12 : Int32)) dX5_swim_23 (by decide) ?_
    refine J_iload_n X dX5_swim_25 (i := 1) rfl rfl ?_
    refine J_iadd X dX5_swim_26 ?_
    refine T_callV (As := [.int ((4 : Int32) + v1), .int ((12 : Int32) + v1)]) wS3 X (C_X5_swimAlong (kG K) v0 kv0 ((4 : Int32) + v1) ((12 : Int32) + v1) S3) cb5 kv0 ml_X5_50 in_yX5_swimAlong se_yX5_swimAlong ii_RX5 co_yX5_swimAlong hy_X5_swimAlong (hRd hR (by decide) (by decide)) rfl (Nat.le_of_ble_eq_true rfl) dX5_swim_27 (fun _ S5 _ wS5 => ?_)
    exact T_vret wS5 X dX5_swim_30
  · exact T_vret wS1 X dX5_swim_30
theorem C_X5_swim (G : GG) (v0 : Nat) (kv0 : KA (gD G) v0 (0, 5)) (v1 : Int32) (S : St) : CM G yX5_swim cX5_swim 2 none 1 [.ref v0, .int v1] S (fun _ : Unit => none) (f_X5_swim v0 v1 S) :=
  CM_of (by decide) (Nat.le_of_ble_eq_true rfl) rfl (fun K hG X hR w => by subst hG; exact t_X5_swim_0 X hR v0 kv0 v1 S w)
-- ==== X5_swimsLike
theorem hy_X5_swimsLike : yX5_swimsLike.cls ≠ "java/lang/invoke/MethodHandle" ∧ yX5_swimsLike.cls ≠ "java/lang/invoke/VarHandle" ∧ (parseMethodDescriptor yX5_swimsLike.desc).map (fun d => d.parameters.length) = some 2 := by decide +kernel
set_option maxRecDepth 20000 in
def f_X5_swimsLike (v0 : Nat) (v1 : Nat) (v2 : Int32) (S : St) : Option (Int32 × St) := (ix ((0 : Int32) + v2) 36).bind fun j1 => (ix ((0 : Int32) + v2) 36).bind fun j2 => if (S.1 (S.2.2 v0 0) j1) = (S.1 (S.2.2 v1 0) j2) then ((ix ((4 : Int32) + v2) 36).bind fun j3 => (ix ((4 : Int32) + v2) 36).bind fun j4 => if (S.1 (S.2.2 v0 0) j3) = (S.1 (S.2.2 v1 0) j4) then ((ix ((8 : Int32) + v2) 36).bind fun j5 => (ix ((8 : Int32) + v2) 36).bind fun j6 => if (S.1 (S.2.2 v0 0) j5) = (S.1 (S.2.2 v1 0) j6) then ((ix ((12 : Int32) + v2) 36).bind fun j7 => (ix ((12 : Int32) + v2) 36).bind fun j8 => if (S.1 (S.2.2 v0 0) j7) = (S.1 (S.2.2 v1 0) j8) then (some ((1 : Int32), S)) else (some ((0 : Int32), S))) else (some ((0 : Int32), S))) else (some ((0 : Int32), S))) else (some ((0 : Int32), S))
set_option maxRecDepth 20000 in
theorem t_X5_swimsLike_0 {K : KK} (X : CX K cX5_swimsLike 3 RX5 (some .boolean)) (hR : kR K = rmD 0) (v0 : Nat) (kv0 : KA (kDn K) v0 (0, 5)) (v1 : Nat) (kv1 : KA (kDn K) v1 (0, 5)) (v2 : Int32) (S : St) (w : WT (kDn K) S.2.2) : JX K (Zm K (fun v : Int32 => some (.int v))) 0 [some (.ref v0), some (.ref v1), some (.int v2)] [] (rwN (kN K) S) (kn K) 0 0 (f_X5_swimsLike v0 v1 v2 S) := by
  unfold f_X5_swimsLike
  refine J_aload_n X dX5_swimsLike_0 (i := 0) rfl rfl ?_
  refine T_getR X (kf := 0) cb5 kv0 (by decide) fl_X5_9 (fun _ _ _ => rfl) dX5_swimsLike_1 ?_
  refine J_iconst X (v := (0 : Int32)) dX5_swimsLike_4 (by decide) ?_
  refine J_iload_n X dX5_swimsLike_5 (i := 2) rfl rfl ?_
  refine J_iadd X dX5_swimsLike_6 ?_
  refine T_iald X (w.1 _ _ kv0 0 _ rfl) dX5_swimsLike_7 (fun j1 => ?_)
  refine J_aload_n X dX5_swimsLike_8 (i := 1) rfl rfl ?_
  refine T_getR X (kf := 0) cb5 kv1 (by decide) fl_X5_9 (fun _ _ _ => rfl) dX5_swimsLike_9 ?_
  refine J_iconst X (v := (0 : Int32)) dX5_swimsLike_12 (by decide) ?_
  refine J_iload_n X dX5_swimsLike_13 (i := 2) rfl rfl ?_
  refine J_iadd X dX5_swimsLike_14 ?_
  refine T_iald X (w.1 _ _ kv1 0 _ rfl) dX5_swimsLike_15 (fun j2 => ?_)
  refine J_icmp_ne X (tgt := 84) dX5_swimsLike_16 (by decide) ?_ ?_
  · refine J_aload_n X dX5_swimsLike_19 (i := 0) rfl rfl ?_
    refine T_getR X (kf := 0) cb5 kv0 (by decide) fl_X5_9 (fun _ _ _ => rfl) dX5_swimsLike_20 ?_
    refine J_iconst X (v := (4 : Int32)) dX5_swimsLike_23 (by decide) ?_
    refine J_iload_n X dX5_swimsLike_24 (i := 2) rfl rfl ?_
    refine J_iadd X dX5_swimsLike_25 ?_
    refine T_iald X (w.1 _ _ kv0 0 _ rfl) dX5_swimsLike_26 (fun j3 => ?_)
    refine J_aload_n X dX5_swimsLike_27 (i := 1) rfl rfl ?_
    refine T_getR X (kf := 0) cb5 kv1 (by decide) fl_X5_9 (fun _ _ _ => rfl) dX5_swimsLike_28 ?_
    refine J_iconst X (v := (4 : Int32)) dX5_swimsLike_31 (by decide) ?_
    refine J_iload_n X dX5_swimsLike_32 (i := 2) rfl rfl ?_
    refine J_iadd X dX5_swimsLike_33 ?_
    refine T_iald X (w.1 _ _ kv1 0 _ rfl) dX5_swimsLike_34 (fun j4 => ?_)
    refine J_icmp_ne X (tgt := 84) dX5_swimsLike_35 (by decide) ?_ ?_
    · refine J_aload_n X dX5_swimsLike_38 (i := 0) rfl rfl ?_
      refine T_getR X (kf := 0) cb5 kv0 (by decide) fl_X5_9 (fun _ _ _ => rfl) dX5_swimsLike_39 ?_
      refine J_bipush X (v := (8 : Int32)) dX5_swimsLike_42 (by decide) ?_
      refine J_iload_n X dX5_swimsLike_44 (i := 2) rfl rfl ?_
      refine J_iadd X dX5_swimsLike_45 ?_
      refine T_iald X (w.1 _ _ kv0 0 _ rfl) dX5_swimsLike_46 (fun j5 => ?_)
      refine J_aload_n X dX5_swimsLike_47 (i := 1) rfl rfl ?_
      refine T_getR X (kf := 0) cb5 kv1 (by decide) fl_X5_9 (fun _ _ _ => rfl) dX5_swimsLike_48 ?_
      refine J_bipush X (v := (8 : Int32)) dX5_swimsLike_51 (by decide) ?_
      refine J_iload_n X dX5_swimsLike_53 (i := 2) rfl rfl ?_
      refine J_iadd X dX5_swimsLike_54 ?_
      refine T_iald X (w.1 _ _ kv1 0 _ rfl) dX5_swimsLike_55 (fun j6 => ?_)
      refine J_icmp_ne X (tgt := 84) dX5_swimsLike_56 (by decide) ?_ ?_
      · refine J_aload_n X dX5_swimsLike_59 (i := 0) rfl rfl ?_
        refine T_getR X (kf := 0) cb5 kv0 (by decide) fl_X5_9 (fun _ _ _ => rfl) dX5_swimsLike_60 ?_
        refine J_bipush X (v := (12 : Int32)) dX5_swimsLike_63 (by decide) ?_
        refine J_iload_n X dX5_swimsLike_65 (i := 2) rfl rfl ?_
        refine J_iadd X dX5_swimsLike_66 ?_
        refine T_iald X (w.1 _ _ kv0 0 _ rfl) dX5_swimsLike_67 (fun j7 => ?_)
        refine J_aload_n X dX5_swimsLike_68 (i := 1) rfl rfl ?_
        refine T_getR X (kf := 0) cb5 kv1 (by decide) fl_X5_9 (fun _ _ _ => rfl) dX5_swimsLike_69 ?_
        refine J_bipush X (v := (12 : Int32)) dX5_swimsLike_72 (by decide) ?_
        refine J_iload_n X dX5_swimsLike_74 (i := 2) rfl rfl ?_
        refine J_iadd X dX5_swimsLike_75 ?_
        refine T_iald X (w.1 _ _ kv1 0 _ rfl) dX5_swimsLike_76 (fun j8 => ?_)
        refine J_icmp_ne X (tgt := 84) dX5_swimsLike_77 (by decide) ?_ ?_
        · refine J_iconst X (v := (1 : Int32)) dX5_swimsLike_80 (by decide) ?_
          refine J_goto X (tgt := 85) dX5_swimsLike_81 (by decide) ?_
          exact T_zret w X (by decide) dX5_swimsLike_85
        · refine J_iconst X (v := (0 : Int32)) dX5_swimsLike_84 (by decide) ?_
          exact T_zret w X (by decide) dX5_swimsLike_85
      · refine J_iconst X (v := (0 : Int32)) dX5_swimsLike_84 (by decide) ?_
        exact T_zret w X (by decide) dX5_swimsLike_85
    · refine J_iconst X (v := (0 : Int32)) dX5_swimsLike_84 (by decide) ?_
      exact T_zret w X (by decide) dX5_swimsLike_85
  · refine J_iconst X (v := (0 : Int32)) dX5_swimsLike_84 (by decide) ?_
    exact T_zret w X (by decide) dX5_swimsLike_85
theorem C_X5_swimsLike (G : GG) (v0 : Nat) (kv0 : KA (gD G) v0 (0, 5)) (v1 : Nat) (kv1 : KA (gD G) v1 (0, 5)) (v2 : Int32) (S : St) : CM G yX5_swimsLike cX5_swimsLike 3 (some .boolean) 0 [.ref v0, .ref v1, .int v2] S (fun v : Int32 => some (.int v)) (f_X5_swimsLike v0 v1 v2 S) :=
  CM_of (by decide) (Nat.le_of_ble_eq_true rfl) rfl (fun K hG X hR w => by subst hG; exact t_X5_swimsLike_0 X hR v0 kv0 v1 kv1 v2 S w)
-- ==== X7_clearAll
theorem hy_X7_clearAll : yX7_clearAll.cls ≠ "java/lang/invoke/MethodHandle" ∧ yX7_clearAll.cls ≠ "java/lang/invoke/VarHandle" ∧ (parseMethodDescriptor yX7_clearAll.desc).map (fun d => d.parameters.length) = some 0 := by decide +kernel
set_option maxRecDepth 20000 in
def f_X7_clearAll (v0 : Nat) (S : St) : Option (Unit × St) := nm (sI S v0 4 (0 : Int32)) fun S1 => some ((), S1)
set_option maxRecDepth 20000 in
theorem t_X7_clearAll_0 {K : KK} (X : CX K cX7_clearAll 1 RX7 none) (hR : kR K = rmD 0) (v0 : Nat) (kv0 : KA (kDn K) v0 (0, 7)) (S : St) (w : WT (kDn K) S.2.2) : JX K (Zm K (fun _ : Unit => none)) 0 [some (.ref v0)] [] (rwN (kN K) S) (kn K) 0 0 (f_X7_clearAll v0 S) := by
  unfold f_X7_clearAll
  refine J_aload_n X dX7_clearAll_0 (i := 0) rfl rfl ?_
  refine J_iconst X (v := (0 : Int32)) dX7_clearAll_1 (by decide) ?_
  refine T_putI X (kf := 4) cb7 kv0 (by decide) fl_X7_31 (fun _ _ _ => rfl) rfl rfl rfl dX7_clearAll_2 (fun S1 hS1 => ?_)
  have wS1 : WT (kDn K) S1.2.2 := by rw [hS1]; exact w
  clear hS1
  exact T_vret wS1 X dX7_clearAll_5
theorem C_X7_clearAll (G : GG) (v0 : Nat) (kv0 : KA (gD G) v0 (0, 7)) (S : St) : CM G yX7_clearAll cX7_clearAll 1 none 0 [.ref v0] S (fun _ : Unit => none) (f_X7_clearAll v0 S) :=
  CM_of (by decide) (Nat.le_of_ble_eq_true rfl) rfl (fun K hG X hR w => by subst hG; exact t_X7_clearAll_0 X hR v0 kv0 S w)
-- ==== X7_add
theorem hy_X7_add : yX7_add.cls ≠ "java/lang/invoke/MethodHandle" ∧ yX7_add.cls ≠ "java/lang/invoke/VarHandle" ∧ (parseMethodDescriptor yX7_add.desc).map (fun d => d.parameters.length) = some 4 := by decide +kernel
set_option maxRecDepth 20000 in
def f_X7_add (v0 : Nat) (v1 : Int32) (v2 : Int32) (v3 : Int32) (v4 : Int32) (S : St) : Option (Int32 × St) := if (S.1 v0 4) < (20 : Int32) then ((ix (S.1 v0 4) 20).bind fun j1 => nm (sI S (S.2.2 v0 0) j1 v1) fun S2 => (ix (S2.1 v0 4) 20).bind fun j3 => nm (sI S2 (S2.2.2 v0 1) j3 v2) fun S4 => (ix (S4.1 v0 4) 20).bind fun j5 => nm (sI S4 (S4.2.2 v0 2) j5 v3) fun S6 => (ix (S6.1 v0 4) 20).bind fun j7 => nm (sI S6 (S6.2.2 v0 3) j7 v4) fun S8 => nm (sI S8 v0 4 ((S8.1 v0 4) + (1 : Int32))) fun S9 => some ((S9.1 v0 4) - (1 : Int32), S9)) else (some ((-1 : Int32), S))
set_option maxRecDepth 20000 in
theorem t_X7_add_0 {K : KK} (X : CX K cX7_add 5 RX7 (some .int)) (hR : kR K = rmD 0) (v0 : Nat) (kv0 : KA (kDn K) v0 (0, 7)) (v1 : Int32) (v2 : Int32) (v3 : Int32) (v4 : Int32) (S : St) (w : WT (kDn K) S.2.2) : JX K (Zm K (fun v : Int32 => some (.int v))) 0 [some (.ref v0), some (.int v1), some (.int v2), some (.int v3), some (.int v4)] [] (rwN (kN K) S) (kn K) 0 0 (f_X7_add v0 v1 v2 v3 v4 S) := by
  unfold f_X7_add
  refine J_aload_n X dX7_add_0 (i := 0) rfl rfl ?_
  refine T_getI X (kf := 4) cb7 kv0 (by decide) fl_X7_31 (fun _ _ _ => rfl) dX7_add_1 ?_
  refine J_bipush X (v := (20 : Int32)) dX7_add_4 (by decide) ?_
  refine J_icmp_lt X (tgt := 11) dX7_add_6 (by decide) ?_ ?_
  · refine J_aload_n X dX7_add_11 (i := 0) rfl rfl ?_
    refine T_getR X (kf := 0) cb7 kv0 (by decide) fl_X7_9 (fun _ _ _ => rfl) dX7_add_12 ?_
    refine J_aload_n X dX7_add_15 (i := 0) rfl rfl ?_
    refine T_getI X (kf := 4) cb7 kv0 (by decide) fl_X7_31 (fun _ _ _ => rfl) dX7_add_16 ?_
    refine J_iload_n X dX7_add_19 (i := 1) rfl rfl ?_
    refine T_iast X (w.1 _ _ kv0 0 _ rfl) dX7_add_20 (fun j1 S2 hS2 => ?_)
    have wS2 : WT (kDn K) S2.2.2 := by rw [hS2]; exact w
    clear hS2
    refine J_aload_n X dX7_add_21 (i := 0) rfl rfl ?_
    refine T_getR X (kf := 1) cb7 kv0 (by decide) fl_X7_15 (fun _ _ _ => rfl) dX7_add_22 ?_
    refine J_aload_n X dX7_add_25 (i := 0) rfl rfl ?_
    refine T_getI X (kf := 4) cb7 kv0 (by decide) fl_X7_31 (fun _ _ _ => rfl) dX7_add_26 ?_
    refine J_iload_n X dX7_add_29 (i := 2) rfl rfl ?_
    refine T_iast X (wS2.1 _ _ kv0 1 _ rfl) dX7_add_30 (fun j3 S4 hS4 => ?_)
    have wS4 : WT (kDn K) S4.2.2 := by rw [hS4]; exact wS2
    clear hS4
    refine J_aload_n X dX7_add_31 (i := 0) rfl rfl ?_
    refine T_getR X (kf := 2) cb7 kv0 (by decide) fl_X7_18 (fun _ _ _ => rfl) dX7_add_32 ?_
    refine J_aload_n X dX7_add_35 (i := 0) rfl rfl ?_
    refine T_getI X (kf := 4) cb7 kv0 (by decide) fl_X7_31 (fun _ _ _ => rfl) dX7_add_36 ?_
    refine J_iload_n X dX7_add_39 (i := 3) rfl rfl ?_
    refine T_iast X (wS4.1 _ _ kv0 2 _ rfl) dX7_add_40 (fun j5 S6 hS6 => ?_)
    have wS6 : WT (kDn K) S6.2.2 := by rw [hS6]; exact wS4
    clear hS6
    refine J_aload_n X dX7_add_41 (i := 0) rfl rfl ?_
    refine T_getR X (kf := 3) cb7 kv0 (by decide) fl_X7_21 (fun _ _ _ => rfl) dX7_add_42 ?_
    refine J_aload_n X dX7_add_45 (i := 0) rfl rfl ?_
    refine T_getI X (kf := 4) cb7 kv0 (by decide) fl_X7_31 (fun _ _ _ => rfl) dX7_add_46 ?_
    refine J_iload X dX7_add_49 rfl ?_
    refine T_iast X (wS6.1 _ _ kv0 3 _ rfl) dX7_add_51 (fun j7 S8 hS8 => ?_)
    have wS8 : WT (kDn K) S8.2.2 := by rw [hS8]; exact wS6
    clear hS8
    refine J_aload_n X dX7_add_52 (i := 0) rfl rfl ?_
    refine J_dup X dX7_add_53 rfl ?_
    refine T_getI X (kf := 4) cb7 kv0 (by decide) fl_X7_31 (fun _ _ _ => rfl) dX7_add_54 ?_
    refine J_iconst X (v := (1 : Int32)) dX7_add_57 (by decide) ?_
    refine J_iadd X dX7_add_58 ?_
    refine T_putI X (kf := 4) cb7 kv0 (by decide) fl_X7_31 (fun _ _ _ => rfl) rfl rfl rfl dX7_add_59 (fun S9 hS9 => ?_)
    have wS9 : WT (kDn K) S9.2.2 := by rw [hS9]; exact wS8
    clear hS9
    refine J_aload_n X dX7_add_62 (i := 0) rfl rfl ?_
    refine T_getI X (kf := 4) cb7 kv0 (by decide) fl_X7_31 (fun _ _ _ => rfl) dX7_add_63 ?_
    refine J_iconst X (v := (1 : Int32)) dX7_add_66 (by decide) ?_
    refine J_isub X dX7_add_67 ?_
    exact T_iret wS9 X dX7_add_68
  · refine J_iconst X (v := (-1 : Int32)) dX7_add_9 (by decide) ?_
    exact T_iret w X dX7_add_10
theorem C_X7_add (G : GG) (v0 : Nat) (kv0 : KA (gD G) v0 (0, 7)) (v1 : Int32) (v2 : Int32) (v3 : Int32) (v4 : Int32) (S : St) : CM G yX7_add cX7_add 5 (some .int) 0 [.ref v0, .int v1, .int v2, .int v3, .int v4] S (fun v : Int32 => some (.int v)) (f_X7_add v0 v1 v2 v3 v4 S) :=
  CM_of (by decide) (Nat.le_of_ble_eq_true rfl) rfl (fun K hG X hR w => by subst hG; exact t_X7_add_0 X hR v0 kv0 v1 v2 v3 v4 S w)
-- ==== X7_fits
theorem hy_X7_fits : yX7_fits.cls ≠ "java/lang/invoke/MethodHandle" ∧ yX7_fits.cls ≠ "java/lang/invoke/VarHandle" ∧ (parseMethodDescriptor yX7_fits.desc).map (fun d => d.parameters.length) = some 2 := by decide +kernel
set_option maxRecDepth 20000 in
def b_X7_fits_2 : Nat → Nat → Int32 → Int32 → Int32 → St → Option (Int32 × St)
  | 0, _, _, _, _, _ => none
  | fu + 1, v0, v1, v2, v3, S => if v2 ≤ v3 then (some ((1 : Int32), S)) else (if (S.1 v0 4) ≤ v3 then (some ((1 : Int32), S)) else ((ix v3 20).bind fun j1 => bd (f_X9_wayTo (v1 - v1 / (10 : Int32) * (10 : Int32)) (S.1 (S.2.2 v0 0) j1) S) fun r3 S2 => (ix v3 20).bind fun j4 => if r3 = (S2.1 (S2.2.2 v0 2) j4) then ((ix v3 20).bind fun j5 => bd (f_X9_wayTo (v1 / (10 : Int32)) (S2.1 (S2.2.2 v0 1) j5) S2) fun r7 S6 => (ix v3 20).bind fun j8 => if r7 = (S6.1 (S6.2.2 v0 3) j8) then (nm (v3 + (1 : Int32)) fun x9 => b_X7_fits_2 fu v0 v1 v2 x9 S6) else (some ((0 : Int32), S6))) else (some ((0 : Int32), S2))))
set_option maxRecDepth 20000 in
theorem t_X7_fits_2 {K : KK} (X : CX K cX7_fits 4 RX7 (some .boolean)) (hR : kR K = rmD 1) : ∀ (fu : Nat) (v0 : Nat) (kv0 : KA (kDn K) v0 (0, 7)) (v1 : Int32) (v2 : Int32) (v3 : Int32) (S : St), WT (kDn K) S.2.2 → JX K (Zm K (fun v : Int32 => some (.int v))) 2 [some (.ref v0), some (.int v1), some (.int v2), some (.int v3)] [] (rwN (kN K) S) (kn K) 0 0 (b_X7_fits_2 fu v0 v1 v2 v3 S) := by
  intro fu
  induction fu with
  | zero => intro v0 kv0 v1 v2 v3 S w; exact J_none
  | succ fu ih =>
    intro v0 kv0 v1 v2 v3 S w
    rw [b_X7_fits_2]
    refine J_iload_n X dX7_fits_2 (i := 3) rfl rfl ?_
    refine J_iload_n X dX7_fits_3 (i := 2) rfl rfl ?_
    refine J_icmp_ge X (tgt := 67) dX7_fits_4 (by decide) ?_ ?_
    · refine J_iconst X (v := (1 : Int32)) dX7_fits_67 (by decide) ?_
      exact T_zret w X (by decide) dX7_fits_68
    · refine J_iload_n X dX7_fits_7 (i := 3) rfl rfl ?_
      refine J_aload_n X dX7_fits_8 (i := 0) rfl rfl ?_
      refine T_getI X (kf := 4) cb7 kv0 (by decide) fl_X7_31 (fun _ _ _ => rfl) dX7_fits_9 ?_
      refine J_icmp_ge X (tgt := 67) dX7_fits_12 (by decide) ?_ ?_
      · refine J_iconst X (v := (1 : Int32)) dX7_fits_67 (by decide) ?_
        exact T_zret w X (by decide) dX7_fits_68
      · refine J_iload_n X dX7_fits_15 (i := 1) rfl rfl ?_
        refine J_bipush X (v := (10 : Int32)) dX7_fits_16 (by decide) ?_
        refine J_iremc X dX7_fits_18 (by decide) ?_
        refine J_aload_n X dX7_fits_19 (i := 0) rfl rfl ?_
        refine T_getR X (kf := 0) cb7 kv0 (by decide) fl_X7_9 (fun _ _ _ => rfl) dX7_fits_20 ?_
        refine J_iload_n X dX7_fits_23 (i := 3) rfl rfl ?_
        refine T_iald X (w.1 _ _ kv0 0 _ rfl) dX7_fits_24 (fun j1 => ?_)
        refine T_callN (As := [.int (v1 - v1 / (10 : Int32) * (10 : Int32)), .int (S.1 (S.2.2 v0 0) j1)]) w X (C_X9_wayTo (kG K) (v1 - v1 / (10 : Int32) * (10 : Int32)) (S.1 (S.2.2 v0 0) j1) S) (List.mem_of_getElem? (i := 4) rfl) st_yX9_wayTo ii_RX9 co_yX9_wayTo hy_X9_wayTo (hRd hR (by decide) (by decide)) rfl (Nat.le_of_ble_eq_true rfl) dX7_fits_25 (fun r3 S2 _ wS2 => ?_)
        refine J_aload_n X dX7_fits_28 (i := 0) rfl rfl ?_
        refine T_getR X (kf := 2) cb7 kv0 (by decide) fl_X7_18 (fun _ _ _ => rfl) dX7_fits_29 ?_
        refine J_iload_n X dX7_fits_32 (i := 3) rfl rfl ?_
        refine T_iald X (wS2.1 _ _ kv0 2 _ rfl) dX7_fits_33 (fun j4 => ?_)
        refine J_icmp_ne X (tgt := 59) dX7_fits_34 (by decide) ?_ ?_
        · refine J_iload_n X dX7_fits_37 (i := 1) rfl rfl ?_
          refine J_bipush X (v := (10 : Int32)) dX7_fits_38 (by decide) ?_
          refine J_idivc X dX7_fits_40 (by decide) ?_
          refine J_aload_n X dX7_fits_41 (i := 0) rfl rfl ?_
          refine T_getR X (kf := 1) cb7 kv0 (by decide) fl_X7_15 (fun _ _ _ => rfl) dX7_fits_42 ?_
          refine J_iload_n X dX7_fits_45 (i := 3) rfl rfl ?_
          refine T_iald X (wS2.1 _ _ kv0 1 _ rfl) dX7_fits_46 (fun j5 => ?_)
          refine T_callN (As := [.int (v1 / (10 : Int32)), .int (S2.1 (S2.2.2 v0 1) j5)]) wS2 X (C_X9_wayTo (kG K) (v1 / (10 : Int32)) (S2.1 (S2.2.2 v0 1) j5) S2) (List.mem_of_getElem? (i := 4) rfl) st_yX9_wayTo ii_RX9 co_yX9_wayTo hy_X9_wayTo (hRd hR (by decide) (by decide)) rfl (Nat.le_of_ble_eq_true rfl) dX7_fits_47 (fun r7 S6 _ wS6 => ?_)
          refine J_aload_n X dX7_fits_50 (i := 0) rfl rfl ?_
          refine T_getR X (kf := 3) cb7 kv0 (by decide) fl_X7_21 (fun _ _ _ => rfl) dX7_fits_51 ?_
          refine J_iload_n X dX7_fits_54 (i := 3) rfl rfl ?_
          refine T_iald X (wS6.1 _ _ kv0 3 _ rfl) dX7_fits_55 (fun j8 => ?_)
          refine J_icmp_eq X (tgt := 61) dX7_fits_56 (by decide) ?_ ?_
          · refine J_nmv (v3 + (1 : Int32)) (fun x9 ex9 => ?_)
            refine J_iinc X (v := x9) (ls' := [some (.ref v0), some (.int v1), some (.int v2), some (.int x9)]) dX7_fits_61 (by decide) rfl (by rw [ex9]; rfl) rfl ?_
            refine J_goto X (tgt := 2) dX7_fits_64 (by decide) ?_
            exact ih v0 kv0 v1 v2 x9 S6 wS6
          · refine J_iconst X (v := (0 : Int32)) dX7_fits_59 (by decide) ?_
            exact T_zret wS6 X (by decide) dX7_fits_60
        · refine J_iconst X (v := (0 : Int32)) dX7_fits_59 (by decide) ?_
          exact T_zret wS2 X (by decide) dX7_fits_60
set_option maxRecDepth 20000 in
def f_X7_fits (v0 : Nat) (v1 : Int32) (v2 : Int32) (S : St) : Option (Int32 × St) := b_X7_fits_2 FU v0 v1 v2 (0 : Int32) S
set_option maxRecDepth 20000 in
theorem t_X7_fits_0 {K : KK} (X : CX K cX7_fits 4 RX7 (some .boolean)) (hR : kR K = rmD 1) (v0 : Nat) (kv0 : KA (kDn K) v0 (0, 7)) (v1 : Int32) (v2 : Int32) (S : St) (w : WT (kDn K) S.2.2) : JX K (Zm K (fun v : Int32 => some (.int v))) 0 [some (.ref v0), some (.int v1), some (.int v2), none] [] (rwN (kN K) S) (kn K) 0 0 (f_X7_fits v0 v1 v2 S) := by
  unfold f_X7_fits
  refine J_iconst X (v := (0 : Int32)) dX7_fits_0 (by decide) ?_
  refine J_istore_n X (i := 3) (ls' := [some (.ref v0), some (.int v1), some (.int v2), some (.int (0 : Int32))]) dX7_fits_1 rfl (by decide) rfl ?_
  exact t_X7_fits_2 X hR FU v0 kv0 v1 v2 (0 : Int32) S w
theorem C_X7_fits (G : GG) (v0 : Nat) (kv0 : KA (gD G) v0 (0, 7)) (v1 : Int32) (v2 : Int32) (S : St) : CM G yX7_fits cX7_fits 4 (some .boolean) 1 [.ref v0, .int v1, .int v2] S (fun v : Int32 => some (.int v)) (f_X7_fits v0 v1 v2 S) :=
  CM_of (by decide) (Nat.le_of_ble_eq_true rfl) rfl (fun K hG X hR w => by subst hG; exact t_X7_fits_0 X hR v0 kv0 v1 v2 S w)
-- ==== X7_lookBy
theorem hy_X7_lookBy : yX7_lookBy.cls ≠ "java/lang/invoke/MethodHandle" ∧ yX7_lookBy.cls ≠ "java/lang/invoke/VarHandle" ∧ (parseMethodDescriptor yX7_lookBy.desc).map (fun d => d.parameters.length) = some 1 := by decide +kernel
set_option maxRecDepth 20000 in
def b_X7_lookBy_44 (q7 : Nat → Int32 → Int32 → St → Option (Unit × St)) (v0 : Nat) (v1 : Int32) (v2 : Int32) (S : St) : Option (Unit × St) := nm (v2 + (1 : Int32)) fun x1 => q7 v0 v1 x1 S
set_option maxRecDepth 20000 in
theorem t_X7_lookBy_44 {K : KK} (X : CX K cX7_lookBy 3 RX7 none) (hR : kR K = rmD 2) {q7 : Nat → Int32 → Int32 → St → Option (Unit × St)} (hq7 : ∀ (v0 : Nat) (kv0 : KA (kDn K) v0 (0, 7)) (v1 : Int32) (v2 : Int32) (S : St), WT (kDn K) S.2.2 → JX K (Zm K (fun _ : Unit => none)) 7 [some (.ref v0), some (.int v1), some (.int v2)] [] (rwN (kN K) S) (kn K) 0 0 (q7 v0 v1 v2 S)) (v0 : Nat) (kv0 : KA (kDn K) v0 (0, 7)) (v1 : Int32) (v2 : Int32) (S : St) (w : WT (kDn K) S.2.2) : JX K (Zm K (fun _ : Unit => none)) 44 [some (.ref v0), some (.int v1), some (.int v2)] [] (rwN (kN K) S) (kn K) 0 0 (b_X7_lookBy_44 q7 v0 v1 v2 S) := by
  unfold b_X7_lookBy_44
  refine J_nmv (v2 + (1 : Int32)) (fun x1 ex1 => ?_)
  refine J_iinc X (v := x1) (ls' := [some (.ref v0), some (.int v1), some (.int x1)]) dX7_lookBy_44 (by decide) rfl (by rw [ex1]; rfl) rfl ?_
  refine J_goto X (tgt := 7) dX7_lookBy_47 (by decide) ?_
  exact hq7 v0 kv0 v1 x1 S w
set_option maxRecDepth 20000 in
def b_X7_lookBy_7 : Nat → Nat → Int32 → Int32 → St → Option (Unit × St)
  | 0, _, _, _, _ => none
  | fu + 1, v0, v1, v2, S => if (100 : Int32) ≤ v2 then (some ((), S)) else (bd (f_X7_fits v0 v2 v1 S) fun r2 S1 => (ix v2 100).bind fun j3 => nm (sI S1 (S.2.2 v0 5) j3 (vp_nar .boolean r2)) fun S4 => (ix v2 100).bind fun j5 => if (S4.1 (S4.2.2 v0 5) j5) = 0 then (b_X7_lookBy_44 (b_X7_lookBy_7 fu) v0 v1 v2 S4) else (nm (sI S4 v0 7 ((S4.1 v0 7) + (1 : Int32))) fun S6 => b_X7_lookBy_44 (b_X7_lookBy_7 fu) v0 v1 v2 S6))
set_option maxRecDepth 20000 in
theorem t_X7_lookBy_7 {K : KK} (X : CX K cX7_lookBy 3 RX7 none) (hR : kR K = rmD 2) : ∀ (fu : Nat) (v0 : Nat) (kv0 : KA (kDn K) v0 (0, 7)) (v1 : Int32) (v2 : Int32) (S : St), WT (kDn K) S.2.2 → JX K (Zm K (fun _ : Unit => none)) 7 [some (.ref v0), some (.int v1), some (.int v2)] [] (rwN (kN K) S) (kn K) 0 0 (b_X7_lookBy_7 fu v0 v1 v2 S) := by
  intro fu
  induction fu with
  | zero => intro v0 kv0 v1 v2 S w; exact J_none
  | succ fu ih =>
    intro v0 kv0 v1 v2 S w
    rw [b_X7_lookBy_7]
    refine J_iload_n X dX7_lookBy_7 (i := 2) rfl rfl ?_
    refine J_bipush X (v := (100 : Int32)) dX7_lookBy_8 (by decide) ?_
    refine J_icmp_ge X (tgt := 50) dX7_lookBy_10 (by decide) ?_ ?_
    · exact T_vret w X dX7_lookBy_50
    · refine J_aload_n X dX7_lookBy_13 (i := 0) rfl rfl ?_
      refine T_getR X (kf := 5) cb7 kv0 (by decide) fl_X7_24 (fun _ _ _ => rfl) dX7_lookBy_14 ?_
      refine J_iload_n X dX7_lookBy_17 (i := 2) rfl rfl ?_
      refine J_aload_n X dX7_lookBy_18 (i := 0) rfl rfl ?_
      refine J_iload_n X dX7_lookBy_19 (i := 2) rfl rfl ?_
      refine J_iload_n X dX7_lookBy_20 (i := 1) rfl rfl ?_
      refine T_callV (As := [.int v2, .int v1]) w X (C_X7_fits (kG K) v0 kv0 v2 v1 S) cb7 kv0 ml_X7_38 in_yX7_fits se_yX7_fits ii_RX7 co_yX7_fits hy_X7_fits (hRd hR (by decide) (by decide)) rfl (Nat.le_of_ble_eq_true rfl) dX7_lookBy_21 (fun r2 S1 _ wS1 => ?_)
      refine T_zast X (w.1 _ _ kv0 5 _ rfl) dX7_lookBy_24 (fun j3 S4 hS4 => ?_)
      have wS4 : WT (kDn K) S4.2.2 := by rw [hS4]; exact wS1
      clear hS4
      refine J_aload_n X dX7_lookBy_25 (i := 0) rfl rfl ?_
      refine T_getR X (kf := 5) cb7 kv0 (by decide) fl_X7_24 (fun _ _ _ => rfl) dX7_lookBy_26 ?_
      refine J_iload_n X dX7_lookBy_29 (i := 2) rfl rfl ?_
      refine T_zald X (wS4.1 _ _ kv0 5 _ rfl) dX7_lookBy_30 (fun j5 => ?_)
      refine J_if_eq X (tgt := 44) dX7_lookBy_31 (by decide) ?_ ?_
      · exact t_X7_lookBy_44 X hR ih v0 kv0 v1 v2 S4 wS4
      · refine J_aload_n X dX7_lookBy_34 (i := 0) rfl rfl ?_
        refine J_dup X dX7_lookBy_35 rfl ?_
        refine T_getI X (kf := 7) cb7 kv0 (by decide) fl_X7_35 (fun _ _ _ => rfl) dX7_lookBy_36 ?_
        refine J_iconst X (v := (1 : Int32)) dX7_lookBy_39 (by decide) ?_
        refine J_iadd X dX7_lookBy_40 ?_
        refine T_putI X (kf := 7) cb7 kv0 (by decide) fl_X7_35 (fun _ _ _ => rfl) rfl rfl rfl dX7_lookBy_41 (fun S6 hS6 => ?_)
        have wS6 : WT (kDn K) S6.2.2 := by rw [hS6]; exact wS4
        clear hS6
        exact t_X7_lookBy_44 X hR ih v0 kv0 v1 v2 S6 wS6
set_option maxRecDepth 20000 in
def f_X7_lookBy (v0 : Nat) (v1 : Int32) (S : St) : Option (Unit × St) := nm (sI S v0 7 (0 : Int32)) fun S1 => b_X7_lookBy_7 FU v0 v1 (0 : Int32) S1
set_option maxRecDepth 20000 in
theorem t_X7_lookBy_0 {K : KK} (X : CX K cX7_lookBy 3 RX7 none) (hR : kR K = rmD 2) (v0 : Nat) (kv0 : KA (kDn K) v0 (0, 7)) (v1 : Int32) (S : St) (w : WT (kDn K) S.2.2) : JX K (Zm K (fun _ : Unit => none)) 0 [some (.ref v0), some (.int v1), none] [] (rwN (kN K) S) (kn K) 0 0 (f_X7_lookBy v0 v1 S) := by
  unfold f_X7_lookBy
  refine J_aload_n X dX7_lookBy_0 (i := 0) rfl rfl ?_
  refine J_iconst X (v := (0 : Int32)) dX7_lookBy_1 (by decide) ?_
  refine T_putI X (kf := 7) cb7 kv0 (by decide) fl_X7_35 (fun _ _ _ => rfl) rfl rfl rfl dX7_lookBy_2 (fun S1 hS1 => ?_)
  have wS1 : WT (kDn K) S1.2.2 := by rw [hS1]; exact w
  clear hS1
  refine J_iconst X (v := (0 : Int32)) dX7_lookBy_5 (by decide) ?_
  refine J_istore_n X (i := 2) (ls' := [some (.ref v0), some (.int v1), some (.int (0 : Int32))]) dX7_lookBy_6 rfl (by decide) rfl ?_
  exact t_X7_lookBy_7 X hR FU v0 kv0 v1 (0 : Int32) S1 wS1
theorem C_X7_lookBy (G : GG) (v0 : Nat) (kv0 : KA (gD G) v0 (0, 7)) (v1 : Int32) (S : St) : CM G yX7_lookBy cX7_lookBy 3 none 2 [.ref v0, .int v1] S (fun _ : Unit => none) (f_X7_lookBy v0 v1 S) :=
  CM_of (by decide) (Nat.le_of_ble_eq_true rfl) rfl (fun K hG X hR w => by subst hG; exact t_X7_lookBy_0 X hR v0 kv0 v1 S w)
-- ==== X7_firstLeft
theorem hy_X7_firstLeft : yX7_firstLeft.cls ≠ "java/lang/invoke/MethodHandle" ∧ yX7_firstLeft.cls ≠ "java/lang/invoke/VarHandle" ∧ (parseMethodDescriptor yX7_firstLeft.desc).map (fun d => d.parameters.length) = some 0 := by decide +kernel
set_option maxRecDepth 20000 in
def b_X7_firstLeft_2 : Nat → Nat → Int32 → St → Option (Int32 × St)
  | 0, _, _, _ => none
  | fu + 1, v0, v1, S => if (100 : Int32) ≤ v1 then (some ((-2 : Int32), S)) else ((ix v1 100).bind fun j1 => if (S.1 (S.2.2 v0 5) j1) = 0 then (nm (v1 + (1 : Int32)) fun x2 => b_X7_firstLeft_2 fu v0 x2 S) else (some (v1, S)))
set_option maxRecDepth 20000 in
theorem t_X7_firstLeft_2 {K : KK} (X : CX K cX7_firstLeft 2 RX7 (some .int)) (hR : kR K = rmD 0) : ∀ (fu : Nat) (v0 : Nat) (kv0 : KA (kDn K) v0 (0, 7)) (v1 : Int32) (S : St), WT (kDn K) S.2.2 → JX K (Zm K (fun v : Int32 => some (.int v))) 2 [some (.ref v0), some (.int v1)] [] (rwN (kN K) S) (kn K) 0 0 (b_X7_firstLeft_2 fu v0 v1 S) := by
  intro fu
  induction fu with
  | zero => intro v0 kv0 v1 S w; exact J_none
  | succ fu ih =>
    intro v0 kv0 v1 S w
    rw [b_X7_firstLeft_2]
    refine J_iload_n X dX7_firstLeft_2 (i := 1) rfl rfl ?_
    refine J_bipush X (v := (100 : Int32)) dX7_firstLeft_3 (by decide) ?_
    refine J_icmp_ge X (tgt := 25) dX7_firstLeft_5 (by decide) ?_ ?_
    · refine J_bipush X (v := (-2 : Int32)) dX7_firstLeft_25 (by decide) ?_
      exact T_iret w X dX7_firstLeft_27
    · refine J_aload_n X dX7_firstLeft_8 (i := 0) rfl rfl ?_
      refine T_getR X (kf := 5) cb7 kv0 (by decide) fl_X7_24 (fun _ _ _ => rfl) dX7_firstLeft_9 ?_
      refine J_iload_n X dX7_firstLeft_12 (i := 1) rfl rfl ?_
      refine T_zald X (w.1 _ _ kv0 5 _ rfl) dX7_firstLeft_13 (fun j1 => ?_)
      refine J_if_eq X (tgt := 19) dX7_firstLeft_14 (by decide) ?_ ?_
      · refine J_nmv (v1 + (1 : Int32)) (fun x2 ex2 => ?_)
        refine J_iinc X (v := x2) (ls' := [some (.ref v0), some (.int x2)]) dX7_firstLeft_19 (by decide) rfl (by rw [ex2]; rfl) rfl ?_
        refine J_goto X (tgt := 2) dX7_firstLeft_22 (by decide) ?_
        exact ih v0 kv0 x2 S w
      · refine J_iload_n X dX7_firstLeft_17 (i := 1) rfl rfl ?_
        exact T_iret w X dX7_firstLeft_18
set_option maxRecDepth 20000 in
def f_X7_firstLeft (v0 : Nat) (S : St) : Option (Int32 × St) := b_X7_firstLeft_2 FU v0 (0 : Int32) S
set_option maxRecDepth 20000 in
theorem t_X7_firstLeft_0 {K : KK} (X : CX K cX7_firstLeft 2 RX7 (some .int)) (hR : kR K = rmD 0) (v0 : Nat) (kv0 : KA (kDn K) v0 (0, 7)) (S : St) (w : WT (kDn K) S.2.2) : JX K (Zm K (fun v : Int32 => some (.int v))) 0 [some (.ref v0), none] [] (rwN (kN K) S) (kn K) 0 0 (f_X7_firstLeft v0 S) := by
  unfold f_X7_firstLeft
  refine J_iconst X (v := (0 : Int32)) dX7_firstLeft_0 (by decide) ?_
  refine J_istore_n X (i := 1) (ls' := [some (.ref v0), some (.int (0 : Int32))]) dX7_firstLeft_1 rfl (by decide) rfl ?_
  exact t_X7_firstLeft_2 X hR FU v0 kv0 (0 : Int32) S w
theorem C_X7_firstLeft (G : GG) (v0 : Nat) (kv0 : KA (gD G) v0 (0, 7)) (S : St) : CM G yX7_firstLeft cX7_firstLeft 2 (some .int) 0 [.ref v0] S (fun v : Int32 => some (.int v)) (f_X7_firstLeft v0 S) :=
  CM_of (by decide) (Nat.le_of_ble_eq_true rfl) rfl (fun K hG X hR w => by subst hG; exact t_X7_firstLeft_0 X hR v0 kv0 S w)
-- ==== X7_worstLeft
theorem hy_X7_worstLeft : yX7_worstLeft.cls ≠ "java/lang/invoke/MethodHandle" ∧ yX7_worstLeft.cls ≠ "java/lang/invoke/VarHandle" ∧ (parseMethodDescriptor yX7_worstLeft.desc).map (fun d => d.parameters.length) = some 1 := by decide +kernel
set_option maxRecDepth 20000 in
def b_X7_worstLeft_79 (q12 : Nat → Int32 → Int32 → Int32 → St → Option (Int32 × St)) (v0 : Nat) (v1 : Int32) (v2 : Int32) (v3 : Int32) (S : St) : Option (Int32 × St) := nm (v3 + (1 : Int32)) fun x1 => q12 v0 v1 v2 x1 S
set_option maxRecDepth 20000 in
theorem t_X7_worstLeft_79 {K : KK} (X : CX K cX7_worstLeft 5 RX7 (some .int)) (hR : kR K = rmD 1) {q12 : Nat → Int32 → Int32 → Int32 → St → Option (Int32 × St)} (hq12 : ∀ (v0 : Nat) (kv0 : KA (kDn K) v0 (0, 7)) (v1 : Int32) (v2 : Int32) (v3 : Int32) (S : St), WT (kDn K) S.2.2 → JX K (Zm K (fun v : Int32 => some (.int v))) 12 [some (.ref v0), some (.int v1), some (.int v2), some (.int v3), none] [] (rwN (kN K) S) (kn K) 0 0 (q12 v0 v1 v2 v3 S)) (v0 : Nat) (kv0 : KA (kDn K) v0 (0, 7)) (v1 : Int32) (v2 : Int32) (v3 : Int32) (S : St) (w : WT (kDn K) S.2.2) : JX K (Zm K (fun v : Int32 => some (.int v))) 79 [some (.ref v0), some (.int v1), some (.int v2), some (.int v3), none] [] (rwN (kN K) S) (kn K) 0 0 (b_X7_worstLeft_79 q12 v0 v1 v2 v3 S) := by
  unfold b_X7_worstLeft_79
  refine J_nmv (v3 + (1 : Int32)) (fun x1 ex1 => ?_)
  refine J_iinc X (v := x1) (ls' := [some (.ref v0), some (.int v1), some (.int v2), some (.int x1), none]) dX7_worstLeft_79 (by decide) rfl (by rw [ex1]; rfl) rfl ?_
  refine J_goto X (tgt := 12) dX7_worstLeft_82 (by decide) ?_
  exact hq12 v0 kv0 v1 v2 x1 S w
set_option maxRecDepth 20000 in
def b_X7_worstLeft_12 : Nat → Nat → Int32 → Int32 → Int32 → St → Option (Int32 × St)
  | 0, _, _, _, _, _ => none
  | fu + 1, v0, v1, v2, v3, S => if (100 : Int32) ≤ v3 then (some (v2, S)) else ((ix v3 100).bind fun j1 => if (S.1 (S.2.2 v0 5) j1) = 0 then (b_X7_worstLeft_79 (b_X7_worstLeft_12 fu) v0 v1 v2 v3 S) else (bd (f_X9_wayTo (v3 - v3 / (10 : Int32) * (10 : Int32)) (v1 - v1 / (10 : Int32) * (10 : Int32)) S) fun r3 S2 => bd (f_X9_wayTo (v3 / (10 : Int32)) (v1 / (10 : Int32)) S2) fun r5 S4 => nm (((4 : Int32) + r3) + ((3 : Int32) * r5)) fun x6 => (ix x6 9).bind fun j7 => (ix x6 9).bind fun j8 => nm (sI S4 (S4.2.2 v0 6) j8 ((S4.1 (S4.2.2 v0 6) j7) + (1 : Int32))) fun S9 => (ix x6 9).bind fun j10 => nm (mxI v2 (S9.1 (S9.2.2 v0 6) j10)) fun x11 => b_X7_worstLeft_79 (b_X7_worstLeft_12 fu) v0 v1 x11 v3 S9))
set_option maxRecDepth 20000 in
theorem t_X7_worstLeft_12 {K : KK} (X : CX K cX7_worstLeft 5 RX7 (some .int)) (hR : kR K = rmD 1) : ∀ (fu : Nat) (v0 : Nat) (kv0 : KA (kDn K) v0 (0, 7)) (v1 : Int32) (v2 : Int32) (v3 : Int32) (S : St), WT (kDn K) S.2.2 → JX K (Zm K (fun v : Int32 => some (.int v))) 12 [some (.ref v0), some (.int v1), some (.int v2), some (.int v3), none] [] (rwN (kN K) S) (kn K) 0 0 (b_X7_worstLeft_12 fu v0 v1 v2 v3 S) := by
  intro fu
  induction fu with
  | zero => intro v0 kv0 v1 v2 v3 S w; exact J_none
  | succ fu ih =>
    intro v0 kv0 v1 v2 v3 S w
    rw [b_X7_worstLeft_12]
    refine J_iload_n X dX7_worstLeft_12 (i := 3) rfl rfl ?_
    refine J_bipush X (v := (100 : Int32)) dX7_worstLeft_13 (by decide) ?_
    refine J_icmp_ge X (tgt := 85) dX7_worstLeft_15 (by decide) ?_ ?_
    · refine J_iload_n X dX7_worstLeft_85 (i := 2) rfl rfl ?_
      exact T_iret w X dX7_worstLeft_86
    · refine J_aload_n X dX7_worstLeft_18 (i := 0) rfl rfl ?_
      refine T_getR X (kf := 5) cb7 kv0 (by decide) fl_X7_24 (fun _ _ _ => rfl) dX7_worstLeft_19 ?_
      refine J_iload_n X dX7_worstLeft_22 (i := 3) rfl rfl ?_
      refine T_zald X (w.1 _ _ kv0 5 _ rfl) dX7_worstLeft_23 (fun j1 => ?_)
      refine J_if_eq X (tgt := 79) dX7_worstLeft_24 (by decide) ?_ ?_
      · exact t_X7_worstLeft_79 X hR ih v0 kv0 v1 v2 v3 S w
      · refine J_iconst X (v := (4 : Int32)) dX7_worstLeft_27 (by decide) ?_
        refine J_iload_n X dX7_worstLeft_28 (i := 3) rfl rfl ?_
        refine J_bipush X (v := (10 : Int32)) dX7_worstLeft_29 (by decide) ?_
        refine J_iremc X dX7_worstLeft_31 (by decide) ?_
        refine J_iload_n X dX7_worstLeft_32 (i := 1) rfl rfl ?_
        refine J_bipush X (v := (10 : Int32)) dX7_worstLeft_33 (by decide) ?_
        refine J_iremc X dX7_worstLeft_35 (by decide) ?_
        refine T_callN (As := [.int (v3 - v3 / (10 : Int32) * (10 : Int32)), .int (v1 - v1 / (10 : Int32) * (10 : Int32))]) w X (C_X9_wayTo (kG K) (v3 - v3 / (10 : Int32) * (10 : Int32)) (v1 - v1 / (10 : Int32) * (10 : Int32)) S) (List.mem_of_getElem? (i := 4) rfl) st_yX9_wayTo ii_RX9 co_yX9_wayTo hy_X9_wayTo (hRd hR (by decide) (by decide)) rfl (Nat.le_of_ble_eq_true rfl) dX7_worstLeft_36 (fun r3 S2 _ wS2 => ?_)
        refine J_iadd X dX7_worstLeft_39 ?_
        refine J_iconst X (v := (3 : Int32)) dX7_worstLeft_40 (by decide) ?_
        refine J_iload_n X dX7_worstLeft_41 (i := 3) rfl rfl ?_
        refine J_bipush X (v := (10 : Int32)) dX7_worstLeft_42 (by decide) ?_
        refine J_idivc X dX7_worstLeft_44 (by decide) ?_
        refine J_iload_n X dX7_worstLeft_45 (i := 1) rfl rfl ?_
        refine J_bipush X (v := (10 : Int32)) dX7_worstLeft_46 (by decide) ?_
        refine J_idivc X dX7_worstLeft_48 (by decide) ?_
        refine T_callN (As := [.int (v3 / (10 : Int32)), .int (v1 / (10 : Int32))]) wS2 X (C_X9_wayTo (kG K) (v3 / (10 : Int32)) (v1 / (10 : Int32)) S2) (List.mem_of_getElem? (i := 4) rfl) st_yX9_wayTo ii_RX9 co_yX9_wayTo hy_X9_wayTo (hRd hR (by decide) (by decide)) rfl (Nat.le_of_ble_eq_true rfl) dX7_worstLeft_49 (fun r5 S4 _ wS4 => ?_)
        refine J_imul X dX7_worstLeft_52 ?_
        refine J_iadd X dX7_worstLeft_53 ?_
        refine J_nmi (fun x6 => ?_)
        refine J_istore X (ls' := [some (.ref v0), some (.int v1), some (.int v2), some (.int v3), some (.int x6)]) dX7_worstLeft_54 (by decide) rfl ?_
        refine J_aload_n X dX7_worstLeft_56 (i := 0) rfl rfl ?_
        refine T_getR X (kf := 6) cb7 kv0 (by decide) fl_X7_28 (fun _ _ _ => rfl) dX7_worstLeft_57 ?_
        refine J_iload X dX7_worstLeft_60 rfl ?_
        refine J_dup2 X dX7_worstLeft_62 rfl rfl ?_
        refine T_iald X (wS4.1 _ _ kv0 6 _ rfl) dX7_worstLeft_63 (fun j7 => ?_)
        refine J_iconst X (v := (1 : Int32)) dX7_worstLeft_64 (by decide) ?_
        refine J_iadd X dX7_worstLeft_65 ?_
        refine T_iast X (wS4.1 _ _ kv0 6 _ rfl) dX7_worstLeft_66 (fun j8 S9 hS9 => ?_)
        have wS9 : WT (kDn K) S9.2.2 := by rw [hS9]; exact wS4
        clear hS9
        refine J_iload_n X dX7_worstLeft_67 (i := 2) rfl rfl ?_
        refine J_aload_n X dX7_worstLeft_68 (i := 0) rfl rfl ?_
        refine T_getR X (kf := 6) cb7 kv0 (by decide) fl_X7_28 (fun _ _ _ => rfl) dX7_worstLeft_69 ?_
        refine J_iload X dX7_worstLeft_72 rfl ?_
        refine T_iald X (wS9.1 _ _ kv0 6 _ rfl) dX7_worstLeft_74 (fun j10 => ?_)
        refine T_mmax X ml_X7_56 st_Lib_Math_max_name ii_java_lang_Math co_Lib_Math_max_name ⟨by rw [hR]; exact Nat.le_of_ble_eq_true rfl, by rw [hR]; exact Nat.le_of_ble_eq_true rfl⟩ (Nat.le_of_ble_eq_true rfl) dX7_worstLeft_75 ?_
        refine J_nmi (fun x11 => ?_)
        refine J_istore_n X (i := 2) (ls' := [some (.ref v0), some (.int v1), some (.int x11), some (.int v3), some (.int x6)]) dX7_worstLeft_78 rfl (by decide) rfl ?_
        refine J_mask [true, true, true, true, false] ?_
        exact t_X7_worstLeft_79 X hR ih v0 kv0 v1 x11 v3 S9 wS9
set_option maxRecDepth 20000 in
def f_X7_worstLeft (v0 : Nat) (v1 : Int32) (S : St) : Option (Int32 × St) := bd (f_J7_fill_53178 9 (S.2.2 v0 6) (0 : Int32) S) fun _ S1 => b_X7_worstLeft_12 FU v0 v1 (0 : Int32) (0 : Int32) S1
set_option maxRecDepth 20000 in
theorem t_X7_worstLeft_0 {K : KK} (X : CX K cX7_worstLeft 5 RX7 (some .int)) (hR : kR K = rmD 1) (v0 : Nat) (kv0 : KA (kDn K) v0 (0, 7)) (v1 : Int32) (S : St) (w : WT (kDn K) S.2.2) : JX K (Zm K (fun v : Int32 => some (.int v))) 0 [some (.ref v0), some (.int v1), none, none, none] [] (rwN (kN K) S) (kn K) 0 0 (f_X7_worstLeft v0 v1 S) := by
  unfold f_X7_worstLeft
  refine J_aload_n X dX7_worstLeft_0 (i := 0) rfl rfl ?_
  refine T_getR X (kf := 6) cb7 kv0 (by decide) fl_X7_28 (fun _ _ _ => rfl) dX7_worstLeft_1 ?_
  refine J_iconst X (v := (0 : Int32)) dX7_worstLeft_4 (by decide) ?_
  refine T_callS (As := [.ref (S.2.2 v0 6), .int (0 : Int32)]) w X (C_J7_fill_53178 (kG K) 9 (S.2.2 v0 6) (w.1 _ _ kv0 6 _ rfl) (0 : Int32) S) ml_X7_50 st_yJ7_fill_53178 ii_RJ7 co_yJ7_fill_53178 hy_J7_fill_53178 (hRd hR (by decide) (by decide)) rfl (Nat.le_of_ble_eq_true rfl) dX7_worstLeft_5 (fun _ S1 _ wS1 => ?_)
  refine J_iconst X (v := (0 : Int32)) dX7_worstLeft_8 (by decide) ?_
  refine J_istore_n X (i := 2) (ls' := [some (.ref v0), some (.int v1), some (.int (0 : Int32)), none, none]) dX7_worstLeft_9 rfl (by decide) rfl ?_
  refine J_iconst X (v := (0 : Int32)) dX7_worstLeft_10 (by decide) ?_
  refine J_istore_n X (i := 3) (ls' := [some (.ref v0), some (.int v1), some (.int (0 : Int32)), some (.int (0 : Int32)), none]) dX7_worstLeft_11 rfl (by decide) rfl ?_
  exact t_X7_worstLeft_12 X hR FU v0 kv0 v1 (0 : Int32) (0 : Int32) S1 wS1
theorem C_X7_worstLeft (G : GG) (v0 : Nat) (kv0 : KA (gD G) v0 (0, 7)) (v1 : Int32) (S : St) : CM G yX7_worstLeft cX7_worstLeft 5 (some .int) 1 [.ref v0, .int v1] S (fun v : Int32 => some (.int v)) (f_X7_worstLeft v0 v1 S) :=
  CM_of (by decide) (Nat.le_of_ble_eq_true rfl) rfl (fun K hG X hR w => by subst hG; exact t_X7_worstLeft_0 X hR v0 kv0 v1 S w)
-- ==== X7_bestNext
theorem hy_X7_bestNext : yX7_bestNext.cls ≠ "java/lang/invoke/MethodHandle" ∧ yX7_bestNext.cls ≠ "java/lang/invoke/VarHandle" ∧ (parseMethodDescriptor yX7_bestNext.desc).map (fun d => d.parameters.length) = some 0 := by decide +kernel
set_option maxRecDepth 20000 in
def b_X7_bestNext_31 (q7 : Nat → Int32 → Int32 → Int32 → St → Option (Int32 × St)) (v0 : Nat) (v1 : Int32) (v2 : Int32) (v3 : Int32) (S : St) : Option (Int32 × St) := nm (v3 + (1 : Int32)) fun x1 => q7 v0 v1 v2 x1 S
set_option maxRecDepth 20000 in
theorem t_X7_bestNext_31 {K : KK} (X : CX K cX7_bestNext 5 RX7 (some .int)) (hR : kR K = rmD 2) {q7 : Nat → Int32 → Int32 → Int32 → St → Option (Int32 × St)} (hq7 : ∀ (v0 : Nat) (kv0 : KA (kDn K) v0 (0, 7)) (v1 : Int32) (v2 : Int32) (v3 : Int32) (S : St), WT (kDn K) S.2.2 → JX K (Zm K (fun v : Int32 => some (.int v))) 7 [some (.ref v0), some (.int v1), some (.int v2), some (.int v3), none] [] (rwN (kN K) S) (kn K) 0 0 (q7 v0 v1 v2 v3 S)) (v0 : Nat) (kv0 : KA (kDn K) v0 (0, 7)) (v1 : Int32) (v2 : Int32) (v3 : Int32) (S : St) (w : WT (kDn K) S.2.2) : JX K (Zm K (fun v : Int32 => some (.int v))) 31 [some (.ref v0), some (.int v1), some (.int v2), some (.int v3), none] [] (rwN (kN K) S) (kn K) 0 0 (b_X7_bestNext_31 q7 v0 v1 v2 v3 S) := by
  unfold b_X7_bestNext_31
  refine J_nmv (v3 + (1 : Int32)) (fun x1 ex1 => ?_)
  refine J_iinc X (v := x1) (ls' := [some (.ref v0), some (.int v1), some (.int v2), some (.int x1), none]) dX7_bestNext_31 (by decide) rfl (by rw [ex1]; rfl) rfl ?_
  refine J_goto X (tgt := 7) dX7_bestNext_34 (by decide) ?_
  exact hq7 v0 kv0 v1 v2 x1 S w
set_option maxRecDepth 20000 in
def b_X7_bestNext_7 : Nat → Nat → Int32 → Int32 → Int32 → St → Option (Int32 × St)
  | 0, _, _, _, _, _ => none
  | fu + 1, v0, v1, v2, v3, S => if (100 : Int32) ≤ v3 then (some (v1, S)) else (bd (f_X7_worstLeft v0 v3 S) fun r2 S1 => if v2 ≤ r2 then (b_X7_bestNext_31 (b_X7_bestNext_7 fu) v0 v1 v2 v3 S1) else (b_X7_bestNext_31 (b_X7_bestNext_7 fu) v0 v3 r2 v3 S1))
set_option maxRecDepth 20000 in
theorem t_X7_bestNext_7 {K : KK} (X : CX K cX7_bestNext 5 RX7 (some .int)) (hR : kR K = rmD 2) : ∀ (fu : Nat) (v0 : Nat) (kv0 : KA (kDn K) v0 (0, 7)) (v1 : Int32) (v2 : Int32) (v3 : Int32) (S : St), WT (kDn K) S.2.2 → JX K (Zm K (fun v : Int32 => some (.int v))) 7 [some (.ref v0), some (.int v1), some (.int v2), some (.int v3), none] [] (rwN (kN K) S) (kn K) 0 0 (b_X7_bestNext_7 fu v0 v1 v2 v3 S) := by
  intro fu
  induction fu with
  | zero => intro v0 kv0 v1 v2 v3 S w; exact J_none
  | succ fu ih =>
    intro v0 kv0 v1 v2 v3 S w
    rw [b_X7_bestNext_7]
    refine J_iload_n X dX7_bestNext_7 (i := 3) rfl rfl ?_
    refine J_bipush X (v := (100 : Int32)) dX7_bestNext_8 (by decide) ?_
    refine J_icmp_ge X (tgt := 37) dX7_bestNext_10 (by decide) ?_ ?_
    · refine J_iload_n X dX7_bestNext_37 (i := 1) rfl rfl ?_
      exact T_iret w X dX7_bestNext_38
    · refine J_aload_n X dX7_bestNext_13 (i := 0) rfl rfl ?_
      refine J_iload_n X dX7_bestNext_14 (i := 3) rfl rfl ?_
      refine T_callV (As := [.int v3]) w X (C_X7_worstLeft (kG K) v0 kv0 v3 S) cb7 kv0 ml_X7_46 in_yX7_worstLeft se_yX7_worstLeft ii_RX7 co_yX7_worstLeft hy_X7_worstLeft (hRd hR (by decide) (by decide)) rfl (Nat.le_of_ble_eq_true rfl) dX7_bestNext_15 (fun r2 S1 _ wS1 => ?_)
      refine J_istore X (ls' := [some (.ref v0), some (.int v1), some (.int v2), some (.int v3), some (.int r2)]) dX7_bestNext_18 (by decide) rfl ?_
      refine J_iload X dX7_bestNext_20 rfl ?_
      refine J_iload_n X dX7_bestNext_22 (i := 2) rfl rfl ?_
      refine J_icmp_ge X (tgt := 31) dX7_bestNext_23 (by decide) ?_ ?_
      · refine J_mask [true, true, true, true, false] ?_
        exact t_X7_bestNext_31 X hR ih v0 kv0 v1 v2 v3 S1 wS1
      · refine J_iload X dX7_bestNext_26 rfl ?_
        refine J_istore_n X (i := 2) (ls' := [some (.ref v0), some (.int v1), some (.int r2), some (.int v3), some (.int r2)]) dX7_bestNext_28 rfl (by decide) rfl ?_
        refine J_iload_n X dX7_bestNext_29 (i := 3) rfl rfl ?_
        refine J_istore_n X (i := 1) (ls' := [some (.ref v0), some (.int v3), some (.int r2), some (.int v3), some (.int r2)]) dX7_bestNext_30 rfl (by decide) rfl ?_
        refine J_mask [true, true, true, true, false] ?_
        exact t_X7_bestNext_31 X hR ih v0 kv0 v3 r2 v3 S1 wS1
set_option maxRecDepth 20000 in
def f_X7_bestNext (v0 : Nat) (S : St) : Option (Int32 × St) := b_X7_bestNext_7 FU v0 (0 : Int32) (101 : Int32) (0 : Int32) S
set_option maxRecDepth 20000 in
theorem t_X7_bestNext_0 {K : KK} (X : CX K cX7_bestNext 5 RX7 (some .int)) (hR : kR K = rmD 2) (v0 : Nat) (kv0 : KA (kDn K) v0 (0, 7)) (S : St) (w : WT (kDn K) S.2.2) : JX K (Zm K (fun v : Int32 => some (.int v))) 0 [some (.ref v0), none, none, none, none] [] (rwN (kN K) S) (kn K) 0 0 (f_X7_bestNext v0 S) := by
  unfold f_X7_bestNext
  refine J_iconst X (v := (0 : Int32)) dX7_bestNext_0 (by decide) ?_
  refine J_istore_n X (i := 1) (ls' := [some (.ref v0), some (.int (0 : Int32)), none, none, none]) dX7_bestNext_1 rfl (by decide) rfl ?_
  refine J_bipush X (v := (101 : Int32)) dX7_bestNext_2 (by decide) ?_
  refine J_istore_n X (i := 2) (ls' := [some (.ref v0), some (.int (0 : Int32)), some (.int (101 : Int32)), none, none]) dX7_bestNext_4 rfl (by decide) rfl ?_
  refine J_iconst X (v := (0 : Int32)) dX7_bestNext_5 (by decide) ?_
  refine J_istore_n X (i := 3) (ls' := [some (.ref v0), some (.int (0 : Int32)), some (.int (101 : Int32)), some (.int (0 : Int32)), none]) dX7_bestNext_6 rfl (by decide) rfl ?_
  exact t_X7_bestNext_7 X hR FU v0 kv0 (0 : Int32) (101 : Int32) (0 : Int32) S w
theorem C_X7_bestNext (G : GG) (v0 : Nat) (kv0 : KA (gD G) v0 (0, 7)) (S : St) : CM G yX7_bestNext cX7_bestNext 5 (some .int) 2 [.ref v0] S (fun v : Int32 => some (.int v)) (f_X7_bestNext v0 S) :=
  CM_of (by decide) (Nat.le_of_ble_eq_true rfl) rfl (fun K hG X hR w => by subst hG; exact t_X7_bestNext_0 X hR v0 kv0 S w)
-- ==== X8_wornBy
theorem hy_X8_wornBy : yX8_wornBy.cls ≠ "java/lang/invoke/MethodHandle" ∧ yX8_wornBy.cls ≠ "java/lang/invoke/VarHandle" ∧ (parseMethodDescriptor yX8_wornBy.desc).map (fun d => d.parameters.length) = some 1 := by decide +kernel
set_option maxRecDepth 20000 in
def b_X8_wornBy_30 (q4 : Nat → Int32 → Int32 → Int32 → St → Option (Int32 × St)) (v0 : Nat) (v1 : Int32) (v2 : Int32) (v3 : Int32) (S : St) : Option (Int32 × St) := nm (v3 + (1 : Int32)) fun x1 => q4 v0 v1 v2 x1 S
set_option maxRecDepth 20000 in
theorem t_X8_wornBy_30 {K : KK} (X : CX K cX8_wornBy 4 RX8 (some .int)) (hR : kR K = rmD 1) {q4 : Nat → Int32 → Int32 → Int32 → St → Option (Int32 × St)} (hq4 : ∀ (v0 : Nat) (kv0 : KA (kDn K) v0 (0, 8)) (v1 : Int32) (v2 : Int32) (v3 : Int32) (S : St), WT (kDn K) S.2.2 → JX K (Zm K (fun v : Int32 => some (.int v))) 4 [some (.ref v0), some (.int v1), some (.int v2), some (.int v3)] [] (rwN (kN K) S) (kn K) 0 0 (q4 v0 v1 v2 v3 S)) (v0 : Nat) (kv0 : KA (kDn K) v0 (0, 8)) (v1 : Int32) (v2 : Int32) (v3 : Int32) (S : St) (w : WT (kDn K) S.2.2) : JX K (Zm K (fun v : Int32 => some (.int v))) 30 [some (.ref v0), some (.int v1), some (.int v2), some (.int v3)] [] (rwN (kN K) S) (kn K) 0 0 (b_X8_wornBy_30 q4 v0 v1 v2 v3 S) := by
  unfold b_X8_wornBy_30
  refine J_nmv (v3 + (1 : Int32)) (fun x1 ex1 => ?_)
  refine J_iinc X (v := x1) (ls' := [some (.ref v0), some (.int v1), some (.int v2), some (.int x1)]) dX8_wornBy_30 (by decide) rfl (by rw [ex1]; rfl) rfl ?_
  refine J_goto X (tgt := 4) dX8_wornBy_33 (by decide) ?_
  exact hq4 v0 kv0 v1 v2 x1 S w
set_option maxRecDepth 20000 in
def b_X8_wornBy_4 : Nat → Nat → Int32 → Int32 → Int32 → St → Option (Int32 × St)
  | 0, _, _, _, _, _ => none
  | fu + 1, v0, v1, v2, v3, S => if (S.1 (S.2.2 v0 0) 2) ≤ v3 then (some (v2, S)) else (bd (f_X5_isWorn (S.2.2 v0 1) v3 v1 S) fun r2 S1 => if r2 = 0 then (b_X8_wornBy_30 (b_X8_wornBy_4 fu) v0 v1 v2 v3 S1) else (nm (v2 + (1 : Int32)) fun x3 => b_X8_wornBy_30 (b_X8_wornBy_4 fu) v0 v1 x3 v3 S1))
set_option maxRecDepth 20000 in
theorem t_X8_wornBy_4 {K : KK} (X : CX K cX8_wornBy 4 RX8 (some .int)) (hR : kR K = rmD 1) : ∀ (fu : Nat) (v0 : Nat) (kv0 : KA (kDn K) v0 (0, 8)) (v1 : Int32) (v2 : Int32) (v3 : Int32) (S : St), WT (kDn K) S.2.2 → JX K (Zm K (fun v : Int32 => some (.int v))) 4 [some (.ref v0), some (.int v1), some (.int v2), some (.int v3)] [] (rwN (kN K) S) (kn K) 0 0 (b_X8_wornBy_4 fu v0 v1 v2 v3 S) := by
  intro fu
  induction fu with
  | zero => intro v0 kv0 v1 v2 v3 S w; exact J_none
  | succ fu ih =>
    intro v0 kv0 v1 v2 v3 S w
    rw [b_X8_wornBy_4]
    refine J_iload_n X dX8_wornBy_4 (i := 3) rfl rfl ?_
    refine J_aload_n X dX8_wornBy_5 (i := 0) rfl rfl ?_
    refine T_getR X (kf := 0) cb8 kv0 (by decide) fl_X8_9 (fun _ _ _ => rfl) dX8_wornBy_6 ?_
    refine T_getI X (kf := 2) cb0 (w.1 _ _ kv0 0 _ rfl) (by decide) fl_X8_19 (fun _ _ _ => rfl) dX8_wornBy_9 ?_
    refine J_icmp_ge X (tgt := 36) dX8_wornBy_12 (by decide) ?_ ?_
    · refine J_iload_n X dX8_wornBy_36 (i := 2) rfl rfl ?_
      exact T_iret w X dX8_wornBy_37
    · refine J_aload_n X dX8_wornBy_15 (i := 0) rfl rfl ?_
      refine T_getR X (kf := 1) cb8 kv0 (by decide) fl_X8_15 (fun _ _ _ => rfl) dX8_wornBy_16 ?_
      refine J_iload_n X dX8_wornBy_19 (i := 3) rfl rfl ?_
      refine J_iload_n X dX8_wornBy_20 (i := 1) rfl rfl ?_
      refine T_callV (As := [.int v3, .int v1]) w X (C_X5_isWorn (kG K) (S.2.2 v0 1) (w.1 _ _ kv0 1 _ rfl) v3 v1 S) cb5 (w.1 _ _ kv0 1 _ rfl) ml_X8_25 in_yX5_isWorn se_yX5_isWorn ii_RX5 co_yX5_isWorn hy_X5_isWorn (hRd hR (by decide) (by decide)) rfl (Nat.le_of_ble_eq_true rfl) dX8_wornBy_21 (fun r2 S1 _ wS1 => ?_)
      refine J_if_eq X (tgt := 30) dX8_wornBy_24 (by decide) ?_ ?_
      · exact t_X8_wornBy_30 X hR ih v0 kv0 v1 v2 v3 S1 wS1
      · refine J_nmv (v2 + (1 : Int32)) (fun x3 ex3 => ?_)
        refine J_iinc X (v := x3) (ls' := [some (.ref v0), some (.int v1), some (.int x3), some (.int v3)]) dX8_wornBy_27 (by decide) rfl (by rw [ex3]; rfl) rfl ?_
        exact t_X8_wornBy_30 X hR ih v0 kv0 v1 x3 v3 S1 wS1
set_option maxRecDepth 20000 in
def f_X8_wornBy (v0 : Nat) (v1 : Int32) (S : St) : Option (Int32 × St) := b_X8_wornBy_4 FU v0 v1 (0 : Int32) (0 : Int32) S
set_option maxRecDepth 20000 in
theorem t_X8_wornBy_0 {K : KK} (X : CX K cX8_wornBy 4 RX8 (some .int)) (hR : kR K = rmD 1) (v0 : Nat) (kv0 : KA (kDn K) v0 (0, 8)) (v1 : Int32) (S : St) (w : WT (kDn K) S.2.2) : JX K (Zm K (fun v : Int32 => some (.int v))) 0 [some (.ref v0), some (.int v1), none, none] [] (rwN (kN K) S) (kn K) 0 0 (f_X8_wornBy v0 v1 S) := by
  unfold f_X8_wornBy
  refine J_iconst X (v := (0 : Int32)) dX8_wornBy_0 (by decide) ?_
  refine J_istore_n X (i := 2) (ls' := [some (.ref v0), some (.int v1), some (.int (0 : Int32)), none]) dX8_wornBy_1 rfl (by decide) rfl ?_
  refine J_iconst X (v := (0 : Int32)) dX8_wornBy_2 (by decide) ?_
  refine J_istore_n X (i := 3) (ls' := [some (.ref v0), some (.int v1), some (.int (0 : Int32)), some (.int (0 : Int32))]) dX8_wornBy_3 rfl (by decide) rfl ?_
  exact t_X8_wornBy_4 X hR FU v0 kv0 v1 (0 : Int32) (0 : Int32) S w
theorem C_X8_wornBy (G : GG) (v0 : Nat) (kv0 : KA (gD G) v0 (0, 8)) (v1 : Int32) (S : St) : CM G yX8_wornBy cX8_wornBy 4 (some .int) 1 [.ref v0, .int v1] S (fun v : Int32 => some (.int v)) (f_X8_wornBy v0 v1 S) :=
  CM_of (by decide) (Nat.le_of_ble_eq_true rfl) rfl (fun K hG X hR w => by subst hG; exact t_X8_wornBy_0 X hR v0 kv0 v1 S w)

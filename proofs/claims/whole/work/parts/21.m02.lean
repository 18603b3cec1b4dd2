-- ==== X10_tellLaw
theorem hy_X10_tellLaw : yX10_tellLaw.cls ≠ "java/lang/invoke/MethodHandle" ∧ yX10_tellLaw.cls ≠ "java/lang/invoke/VarHandle" ∧ (parseMethodDescriptor yX10_tellLaw.desc).map (fun d => d.parameters.length) = some 1 := by decide +kernel
set_option maxRecDepth 20000 in
def b_X10_tellLaw_129 (v0 : Nat) (v1 : Int32) (v2 : Int32) (S : St) : Option (Unit × St) := (ix (S.1 v0 37) 260).bind fun j1 => nm (sI S (S.2.2 v0 38) j1 (vp_nar .boolean (0 : Int32))) fun S2 => bd (f_X10_term v0 S2) fun _ S3 => bd (f_X10_must v0 (4 : Int32) S3) fun _ S5 => if (S5.1 v0 13) ≤ 0 then ((ix (((4 : Int32) * (S5.1 v0 19)) + v1) 8).bind fun j7 => nm (sI S5 (S5.2.2 v0 35) j7 v2) fun S8 => (ix (((4 : Int32) * (S8.1 v0 19)) + v1) 8).bind fun j9 => nm (sI S8 (S8.2.2 v0 36) j9 (S8.1 v0 37)) fun S10 => some ((), S10)) else (some ((), S5))
set_option maxRecDepth 20000 in
theorem t_X10_tellLaw_129 {K : KK} (X : CX K cX10_tellLaw 4 RX10 none) (hR : kR K = rmD 5) (v0 : Nat) (kv0 : KA (kDn K) v0 (0, 10)) (v1 : Int32) (v2 : Int32) (S : St) (w : WT (kDn K) S.2.2) : JX K (Zm K (fun _ : Unit => none)) 129 [some (.ref v0), some (.int v1), some (.int v2), none] [] (rwN (kN K) S) (kn K) 0 0 (b_X10_tellLaw_129 v0 v1 v2 S) := by
  unfold b_X10_tellLaw_129
  refine J_aload_n X dX10_tellLaw_129 (i := 0) rfl rfl ?_
  refine T_getR X (kf := 38) cb10 kv0 (by decide) fl_X10_88 (fun _ _ _ => rfl) dX10_tellLaw_130 ?_
  refine J_aload_n X dX10_tellLaw_133 (i := 0) rfl rfl ?_
  refine T_getI X (kf := 37) cb10 kv0 (by decide) fl_X10_248 (fun _ _ _ => rfl) dX10_tellLaw_134 ?_
  refine J_iconst X (v := (0 : Int32)) dX10_tellLaw_137 (by decide) ?_
  refine T_zast X (w.1 _ _ kv0 38 _ rfl) dX10_tellLaw_138 (fun j1 S2 hS2 => ?_)
  have wS2 : WT (kDn K) S2.2.2 := by rw [hS2]; exact w
  clear hS2
  refine J_aload_n X dX10_tellLaw_139 (i := 0) rfl rfl ?_
  refine T_callV (As := []) wS2 X (C_X10_term (kG K) v0 kv0 S2) cb10 kv0 ml_X10_305 in_yX10_term se_yX10_term ii_RX10 co_yX10_term hy_X10_term (hRd hR (by decide) (by decide)) rfl (Nat.le_of_ble_eq_true rfl) dX10_tellLaw_140 (fun _ S3 _ wS3 => ?_)
  refine J_aload_n X dX10_tellLaw_143 (i := 0) rfl rfl ?_
  refine J_iconst X (v := (4 : Int32)) dX10_tellLaw_144 (by decide) ?_
  refine T_callV (As := [.int (4 : Int32)]) wS3 X (C_X10_must (kG K) v0 kv0 (4 : Int32) S3) cb10 kv0 ml_X10_280 in_yX10_must se_yX10_must ii_RX10 co_yX10_must hy_X10_must (hRd hR (by decide) (by decide)) rfl (Nat.le_of_ble_eq_true rfl) dX10_tellLaw_145 (fun _ S5 _ wS5 => ?_)
  refine J_aload_n X dX10_tellLaw_148 (i := 0) rfl rfl ?_
  refine T_getI X (kf := 13) cb10 kv0 (by decide) fl_X10_209 (fun _ _ _ => rfl) dX10_tellLaw_149 ?_
  refine J_if_le X (tgt := 156) dX10_tellLaw_152 (by decide) ?_ ?_
  · refine J_aload_n X dX10_tellLaw_156 (i := 0) rfl rfl ?_
    refine T_getR X (kf := 35) cb10 kv0 (by decide) fl_X10_82 (fun _ _ _ => rfl) dX10_tellLaw_157 ?_
    refine J_iconst X (v := (4 : Int32)) dX10_tellLaw_160 (by decide) ?_
    refine J_aload_n X dX10_tellLaw_161 (i := 0) rfl rfl ?_
    refine T_getI X (kf := 19) cb10 kv0 (by decide) fl_X10_242 (fun _ _ _ => rfl) dX10_tellLaw_162 ?_
    refine J_imul X dX10_tellLaw_165 ?_
    refine J_iload_n X dX10_tellLaw_166 (i := 1) rfl rfl ?_
    refine J_iadd X dX10_tellLaw_167 ?_
    refine J_iload_n X dX10_tellLaw_168 (i := 2) rfl rfl ?_
    refine T_iast X (wS5.1 _ _ kv0 35 _ rfl) dX10_tellLaw_169 (fun j7 S8 hS8 => ?_)
    have wS8 : WT (kDn K) S8.2.2 := by rw [hS8]; exact wS5
    clear hS8
    refine J_aload_n X dX10_tellLaw_170 (i := 0) rfl rfl ?_
    refine T_getR X (kf := 36) cb10 kv0 (by decide) fl_X10_85 (fun _ _ _ => rfl) dX10_tellLaw_171 ?_
    refine J_iconst X (v := (4 : Int32)) dX10_tellLaw_174 (by decide) ?_
    refine J_aload_n X dX10_tellLaw_175 (i := 0) rfl rfl ?_
    refine T_getI X (kf := 19) cb10 kv0 (by decide) fl_X10_242 (fun _ _ _ => rfl) dX10_tellLaw_176 ?_
    refine J_imul X dX10_tellLaw_179 ?_
    refine J_iload_n X dX10_tellLaw_180 (i := 1) rfl rfl ?_
    refine J_iadd X dX10_tellLaw_181 ?_
    refine J_aload_n X dX10_tellLaw_182 (i := 0) rfl rfl ?_
    refine T_getI X (kf := 37) cb10 kv0 (by decide) fl_X10_248 (fun _ _ _ => rfl) dX10_tellLaw_183 ?_
    refine T_iast X (wS8.1 _ _ kv0 36 _ rfl) dX10_tellLaw_186 (fun j9 S10 hS10 => ?_)
    have wS10 : WT (kDn K) S10.2.2 := by rw [hS10]; exact wS8
    clear hS10
    exact T_vret wS10 X dX10_tellLaw_187
  · exact T_vret wS5 X dX10_tellLaw_155
set_option maxRecDepth 20000 in
def b_X10_tellLaw_110 (q12 : Nat → Int32 → Int32 → Int32 → St → Option (Unit × St)) (v0 : Nat) (v1 : Int32) (v2 : Int32) (v3 : Int32) (S : St) : Option (Unit × St) := bd (f_X10_must v0 (30 : Int32) S) fun _ S1 => bd (f_X10_term v0 S1) fun _ S3 => bd (f_X10_must v0 (31 : Int32) S3) fun _ S5 => q12 v0 v1 v2 v3 S5
set_option maxRecDepth 20000 in
theorem t_X10_tellLaw_110 {K : KK} (X : CX K cX10_tellLaw 4 RX10 none) (hR : kR K = rmD 5) {q12 : Nat → Int32 → Int32 → Int32 → St → Option (Unit × St)} (hq12 : ∀ (v0 : Nat) (kv0 : KA (kDn K) v0 (0, 10)) (v1 : Int32) (v2 : Int32) (v3 : Int32) (S : St), WT (kDn K) S.2.2 → JX K (Zm K (fun _ : Unit => none)) 12 [some (.ref v0), some (.int v1), some (.int v2), some (.int v3)] [] (rwN (kN K) S) (kn K) 0 0 (q12 v0 v1 v2 v3 S)) (v0 : Nat) (kv0 : KA (kDn K) v0 (0, 10)) (v1 : Int32) (v2 : Int32) (v3 : Int32) (S : St) (w : WT (kDn K) S.2.2) : JX K (Zm K (fun _ : Unit => none)) 110 [some (.ref v0), some (.int v1), some (.int v2), some (.int v3)] [] (rwN (kN K) S) (kn K) 0 0 (b_X10_tellLaw_110 q12 v0 v1 v2 v3 S) := by
  unfold b_X10_tellLaw_110
  refine J_aload_n X dX10_tellLaw_110 (i := 0) rfl rfl ?_
  refine J_bipush X (v := (30 : Int32)) dX10_tellLaw_111 (by decide) ?_
  refine T_callV (As := [.int (30 : Int32)]) w X (C_X10_must (kG K) v0 kv0 (30 : Int32) S) cb10 kv0 ml_X10_280 in_yX10_must se_yX10_must ii_RX10 co_yX10_must hy_X10_must (hRd hR (by decide) (by decide)) rfl (Nat.le_of_ble_eq_true rfl) dX10_tellLaw_113 (fun _ S1 _ wS1 => ?_)
  refine J_aload_n X dX10_tellLaw_116 (i := 0) rfl rfl ?_
  refine T_callV (As := []) wS1 X (C_X10_term (kG K) v0 kv0 S1) cb10 kv0 ml_X10_305 in_yX10_term se_yX10_term ii_RX10 co_yX10_term hy_X10_term (hRd hR (by decide) (by decide)) rfl (Nat.le_of_ble_eq_true rfl) dX10_tellLaw_117 (fun _ S3 _ wS3 => ?_)
  refine J_aload_n X dX10_tellLaw_120 (i := 0) rfl rfl ?_
  refine J_bipush X (v := (31 : Int32)) dX10_tellLaw_121 (by decide) ?_
  refine T_callV (As := [.int (31 : Int32)]) wS3 X (C_X10_must (kG K) v0 kv0 (31 : Int32) S3) cb10 kv0 ml_X10_280 in_yX10_must se_yX10_must ii_RX10 co_yX10_must hy_X10_must (hRd hR (by decide) (by decide)) rfl (Nat.le_of_ble_eq_true rfl) dX10_tellLaw_123 (fun _ S5 _ wS5 => ?_)
  refine J_goto X (tgt := 12) dX10_tellLaw_126 (by decide) ?_
  exact hq12 v0 kv0 v1 v2 v3 S5 wS5
set_option maxRecDepth 20000 in
def b_X10_tellLaw_38 (q12 : Nat → Int32 → Int32 → Int32 → St → Option (Unit × St)) (v0 : Nat) (v1 : Int32) (v2 : Int32) (v3 : Int32) (S : St) : Option (Unit × St) := if (S.1 v0 13) ≤ 0 then (nm (v3 + (1 : Int32)) fun x1 => bd (f_X10_goesOn v0 S) fun _ S2 => (ix (S2.1 v0 37) 260).bind fun j4 => nm (sI S2 (S2.2.2 v0 38) j4 (vp_nar .boolean (1 : Int32))) fun S5 => (ix (S5.1 v0 37) 260).bind fun j6 => nm (sI S5 (S5.2.2 v0 39) j6 (S5.1 v0 43)) fun S7 => bd (f_X10_expression v0 S7) fun _ S8 => bd (f_X10_must v0 (13 : Int32) S8) fun _ S10 => (ix (S10.1 v0 37) 260).bind fun j12 => nm (sI S10 (S10.2.2 v0 40) j12 (S10.1 v0 43)) fun S13 => if (S13.1 v0 13) = 0 then (bd (f_X10_expression v0 S13) fun _ S14 => b_X10_tellLaw_110 q12 v0 v1 v2 x1 S14) else (b_X10_tellLaw_110 q12 v0 v1 v2 x1 S13)) else (some ((), S))
set_option maxRecDepth 20000 in
theorem t_X10_tellLaw_38 {K : KK} (X : CX K cX10_tellLaw 4 RX10 none) (hR : kR K = rmD 5) {q12 : Nat → Int32 → Int32 → Int32 → St → Option (Unit × St)} (hq12 : ∀ (v0 : Nat) (kv0 : KA (kDn K) v0 (0, 10)) (v1 : Int32) (v2 : Int32) (v3 : Int32) (S : St), WT (kDn K) S.2.2 → JX K (Zm K (fun _ : Unit => none)) 12 [some (.ref v0), some (.int v1), some (.int v2), some (.int v3)] [] (rwN (kN K) S) (kn K) 0 0 (q12 v0 v1 v2 v3 S)) (v0 : Nat) (kv0 : KA (kDn K) v0 (0, 10)) (v1 : Int32) (v2 : Int32) (v3 : Int32) (S : St) (w : WT (kDn K) S.2.2) : JX K (Zm K (fun _ : Unit => none)) 38 [some (.ref v0), some (.int v1), some (.int v2), some (.int v3)] [] (rwN (kN K) S) (kn K) 0 0 (b_X10_tellLaw_38 q12 v0 v1 v2 v3 S) := by
  unfold b_X10_tellLaw_38
  refine J_aload_n X dX10_tellLaw_38 (i := 0) rfl rfl ?_
  refine T_getI X (kf := 13) cb10 kv0 (by decide) fl_X10_209 (fun _ _ _ => rfl) dX10_tellLaw_39 ?_
  refine J_if_le X (tgt := 46) dX10_tellLaw_42 (by decide) ?_ ?_
  · refine J_nmv (v3 + (1 : Int32)) (fun x1 ex1 => ?_)
    refine J_iinc X (v := x1) (ls' := [some (.ref v0), some (.int v1), some (.int v2), some (.int x1)]) dX10_tellLaw_46 (by decide) rfl (by rw [ex1]; rfl) rfl ?_
    refine J_aload_n X dX10_tellLaw_49 (i := 0) rfl rfl ?_
    refine T_callV (As := []) w X (C_X10_goesOn (kG K) v0 kv0 S) cb10 kv0 ml_X10_230 in_yX10_goesOn se_yX10_goesOn ii_RX10 co_yX10_goesOn hy_X10_goesOn (hRd hR (by decide) (by decide)) rfl (Nat.le_of_ble_eq_true rfl) dX10_tellLaw_50 (fun _ S2 _ wS2 => ?_)
    refine J_aload_n X dX10_tellLaw_53 (i := 0) rfl rfl ?_
    refine T_getR X (kf := 38) cb10 kv0 (by decide) fl_X10_88 (fun _ _ _ => rfl) dX10_tellLaw_54 ?_
    refine J_aload_n X dX10_tellLaw_57 (i := 0) rfl rfl ?_
    refine T_getI X (kf := 37) cb10 kv0 (by decide) fl_X10_248 (fun _ _ _ => rfl) dX10_tellLaw_58 ?_
    refine J_iconst X (v := (1 : Int32)) dX10_tellLaw_61 (by decide) ?_
    refine T_zast X (wS2.1 _ _ kv0 38 _ rfl) dX10_tellLaw_62 (fun j4 S5 hS5 => ?_)
    have wS5 : WT (kDn K) S5.2.2 := by rw [hS5]; exact wS2
    clear hS5
    refine J_aload_n X dX10_tellLaw_63 (i := 0) rfl rfl ?_
    refine T_getR X (kf := 39) cb10 kv0 (by decide) fl_X10_92 (fun _ _ _ => rfl) dX10_tellLaw_64 ?_
    refine J_aload_n X dX10_tellLaw_67 (i := 0) rfl rfl ?_
    refine T_getI X (kf := 37) cb10 kv0 (by decide) fl_X10_248 (fun _ _ _ => rfl) dX10_tellLaw_68 ?_
    refine J_aload_n X dX10_tellLaw_71 (i := 0) rfl rfl ?_
    refine T_getI X (kf := 43) cb10 kv0 (by decide) fl_X10_251 (fun _ _ _ => rfl) dX10_tellLaw_72 ?_
    refine T_iast X (wS5.1 _ _ kv0 39 _ rfl) dX10_tellLaw_75 (fun j6 S7 hS7 => ?_)
    have wS7 : WT (kDn K) S7.2.2 := by rw [hS7]; exact wS5
    clear hS7
    refine J_aload_n X dX10_tellLaw_76 (i := 0) rfl rfl ?_
    refine T_callV (As := []) wS7 X (C_X10_expression (kG K) v0 kv0 S7) cb10 kv0 ml_X10_302 in_yX10_expression se_yX10_expression ii_RX10 co_yX10_expression hy_X10_expression (hRd hR (by decide) (by decide)) rfl (Nat.le_of_ble_eq_true rfl) dX10_tellLaw_77 (fun _ S8 _ wS8 => ?_)
    refine J_aload_n X dX10_tellLaw_80 (i := 0) rfl rfl ?_
    refine J_bipush X (v := (13 : Int32)) dX10_tellLaw_81 (by decide) ?_
    refine T_callV (As := [.int (13 : Int32)]) wS8 X (C_X10_must (kG K) v0 kv0 (13 : Int32) S8) cb10 kv0 ml_X10_280 in_yX10_must se_yX10_must ii_RX10 co_yX10_must hy_X10_must (hRd hR (by decide) (by decide)) rfl (Nat.le_of_ble_eq_true rfl) dX10_tellLaw_83 (fun _ S10 _ wS10 => ?_)
    refine J_aload_n X dX10_tellLaw_86 (i := 0) rfl rfl ?_
    refine T_getR X (kf := 40) cb10 kv0 (by decide) fl_X10_95 (fun _ _ _ => rfl) dX10_tellLaw_87 ?_
    refine J_aload_n X dX10_tellLaw_90 (i := 0) rfl rfl ?_
    refine T_getI X (kf := 37) cb10 kv0 (by decide) fl_X10_248 (fun _ _ _ => rfl) dX10_tellLaw_91 ?_
    refine J_aload_n X dX10_tellLaw_94 (i := 0) rfl rfl ?_
    refine T_getI X (kf := 43) cb10 kv0 (by decide) fl_X10_251 (fun _ _ _ => rfl) dX10_tellLaw_95 ?_
    refine T_iast X (wS10.1 _ _ kv0 40 _ rfl) dX10_tellLaw_98 (fun j12 S13 hS13 => ?_)
    have wS13 : WT (kDn K) S13.2.2 := by rw [hS13]; exact wS10
    clear hS13
    refine J_aload_n X dX10_tellLaw_99 (i := 0) rfl rfl ?_
    refine T_getI X (kf := 13) cb10 kv0 (by decide) fl_X10_209 (fun _ _ _ => rfl) dX10_tellLaw_100 ?_
    refine J_if_ne X (tgt := 110) dX10_tellLaw_103 (by decide) ?_ ?_
    · refine J_aload_n X dX10_tellLaw_106 (i := 0) rfl rfl ?_
      refine T_callV (As := []) wS13 X (C_X10_expression (kG K) v0 kv0 S13) cb10 kv0 ml_X10_302 in_yX10_expression se_yX10_expression ii_RX10 co_yX10_expression hy_X10_expression (hRd hR (by decide) (by decide)) rfl (Nat.le_of_ble_eq_true rfl) dX10_tellLaw_107 (fun _ S14 _ wS14 => ?_)
      exact t_X10_tellLaw_110 X hR hq12 v0 kv0 v1 v2 x1 S14 wS14
    · exact t_X10_tellLaw_110 X hR hq12 v0 kv0 v1 v2 x1 S13 wS13
  · exact T_vret w X dX10_tellLaw_45
set_option maxRecDepth 20000 in
def b_X10_tellLaw_12 : Nat → Nat → Int32 → Int32 → Int32 → St → Option (Unit × St)
  | 0, _, _, _, _, _ => none
  | fu + 1, v0, v1, v2, v3, S => if (S.1 v0 13) = 0 then (bd (f_X10_is v0 (29 : Int32) S) fun r2 S1 => if r2 = 0 then (b_X10_tellLaw_129 v0 v1 v2 S1) else (if v3 = (4 : Int32) then (bd (f_X10_fail v0 (2 : Int32) S1) fun _ S3 => b_X10_tellLaw_38 (b_X10_tellLaw_12 fu) v0 v1 v2 v3 S3) else (b_X10_tellLaw_38 (b_X10_tellLaw_12 fu) v0 v1 v2 v3 S1))) else (b_X10_tellLaw_129 v0 v1 v2 S)
set_option maxRecDepth 20000 in
theorem t_X10_tellLaw_12 {K : KK} (X : CX K cX10_tellLaw 4 RX10 none) (hR : kR K = rmD 5) : ∀ (fu : Nat) (v0 : Nat) (kv0 : KA (kDn K) v0 (0, 10)) (v1 : Int32) (v2 : Int32) (v3 : Int32) (S : St), WT (kDn K) S.2.2 → JX K (Zm K (fun _ : Unit => none)) 12 [some (.ref v0), some (.int v1), some (.int v2), some (.int v3)] [] (rwN (kN K) S) (kn K) 0 0 (b_X10_tellLaw_12 fu v0 v1 v2 v3 S) := by
  intro fu
  induction fu with
  | zero => intro v0 kv0 v1 v2 v3 S w; exact J_none
  | succ fu ih =>
    intro v0 kv0 v1 v2 v3 S w
    rw [b_X10_tellLaw_12]
    refine J_aload_n X dX10_tellLaw_12 (i := 0) rfl rfl ?_
    refine T_getI X (kf := 13) cb10 kv0 (by decide) fl_X10_209 (fun _ _ _ => rfl) dX10_tellLaw_13 ?_
    refine J_if_ne X (tgt := 129) dX10_tellLaw_16 (by decide) ?_ ?_
    · refine J_aload_n X dX10_tellLaw_19 (i := 0) rfl rfl ?_
      refine J_bipush X (v := (29 : Int32)) dX10_tellLaw_20 (by decide) ?_
      refine T_callV (As := [.int (29 : Int32)]) w X (C_X10_is (kG K) v0 kv0 (29 : Int32) S) cb10 kv0 ml_X10_227 in_yX10_is se_yX10_is ii_RX10 co_yX10_is hy_X10_is (hRd hR (by decide) (by decide)) rfl (Nat.le_of_ble_eq_true rfl) dX10_tellLaw_22 (fun r2 S1 _ wS1 => ?_)
      refine J_if_eq X (tgt := 129) dX10_tellLaw_25 (by decide) ?_ ?_
      · refine J_mask [true, true, true, false] ?_
        exact t_X10_tellLaw_129 X hR v0 kv0 v1 v2 S1 wS1
      · refine J_iload_n X dX10_tellLaw_28 (i := 3) rfl rfl ?_
        refine J_iconst X (v := (4 : Int32)) dX10_tellLaw_29 (by decide) ?_
        refine J_icmp_ne X (tgt := 38) dX10_tellLaw_30 (by decide) ?_ ?_
        · refine J_aload_n X dX10_tellLaw_33 (i := 0) rfl rfl ?_
          refine J_iconst X (v := (2 : Int32)) dX10_tellLaw_34 (by decide) ?_
          refine T_callV (As := [.int (2 : Int32)]) wS1 X (C_X10_fail (kG K) v0 kv0 (2 : Int32) S1) cb10 kv0 ml_X10_224 in_yX10_fail se_yX10_fail ii_RX10 co_yX10_fail hy_X10_fail (hRd hR (by decide) (by decide)) rfl (Nat.le_of_ble_eq_true rfl) dX10_tellLaw_35 (fun _ S3 _ wS3 => ?_)
          exact t_X10_tellLaw_38 X hR ih v0 kv0 v1 v2 v3 S3 wS3
        · exact t_X10_tellLaw_38 X hR ih v0 kv0 v1 v2 v3 S1 wS1
    · refine J_mask [true, true, true, false] ?_
      exact t_X10_tellLaw_129 X hR v0 kv0 v1 v2 S w
set_option maxRecDepth 20000 in
def f_X10_tellLaw (v0 : Nat) (v1 : Int32) (S : St) : Option (Unit × St) := bd (f_X10_must v0 (5 : Int32) S) fun _ S1 => nm (S1.1 v0 37) fun x3 => b_X10_tellLaw_12 FU v0 v1 x3 (0 : Int32) S1
set_option maxRecDepth 20000 in
theorem t_X10_tellLaw_0 {K : KK} (X : CX K cX10_tellLaw 4 RX10 none) (hR : kR K = rmD 5) (v0 : Nat) (kv0 : KA (kDn K) v0 (0, 10)) (v1 : Int32) (S : St) (w : WT (kDn K) S.2.2) : JX K (Zm K (fun _ : Unit => none)) 0 [some (.ref v0), some (.int v1), none, none] [] (rwN (kN K) S) (kn K) 0 0 (f_X10_tellLaw v0 v1 S) := by
  unfold f_X10_tellLaw
  refine J_aload_n X dX10_tellLaw_0 (i := 0) rfl rfl ?_
  refine J_iconst X (v := (5 : Int32)) dX10_tellLaw_1 (by decide) ?_
  refine T_callV (As := [.int (5 : Int32)]) w X (C_X10_must (kG K) v0 kv0 (5 : Int32) S) cb10 kv0 ml_X10_280 in_yX10_must se_yX10_must ii_RX10 co_yX10_must hy_X10_must (hRd hR (by decide) (by decide)) rfl (Nat.le_of_ble_eq_true rfl) dX10_tellLaw_2 (fun _ S1 _ wS1 => ?_)
  refine J_aload_n X dX10_tellLaw_5 (i := 0) rfl rfl ?_
  refine T_getI X (kf := 37) cb10 kv0 (by decide) fl_X10_248 (fun _ _ _ => rfl) dX10_tellLaw_6 ?_
  refine J_nmi (fun x3 => ?_)
  refine J_istore_n X (i := 2) (ls' := [some (.ref v0), some (.int v1), some (.int x3), none]) dX10_tellLaw_9 rfl (by decide) rfl ?_
  refine J_iconst X (v := (0 : Int32)) dX10_tellLaw_10 (by decide) ?_
  refine J_istore_n X (i := 3) (ls' := [some (.ref v0), some (.int v1), some (.int x3), some (.int (0 : Int32))]) dX10_tellLaw_11 rfl (by decide) rfl ?_
  exact t_X10_tellLaw_12 X hR FU v0 kv0 v1 x3 (0 : Int32) S1 wS1
theorem C_X10_tellLaw (G : GG) (v0 : Nat) (kv0 : KA (gD G) v0 (0, 10)) (v1 : Int32) (S : St) : CM G yX10_tellLaw cX10_tellLaw 4 none 5 [.ref v0, .int v1] S (fun _ : Unit => none) (f_X10_tellLaw v0 v1 S) :=
  CM_of (by decide) (Nat.le_of_ble_eq_true rfl) rfl (fun K hG X hR w => by subst hG; exact t_X10_tellLaw_0 X hR v0 kv0 v1 S w)
-- ==== X10_tellOne
theorem hy_X10_tellOne : yX10_tellOne.cls ≠ "java/lang/invoke/MethodHandle" ∧ yX10_tellOne.cls ≠ "java/lang/invoke/VarHandle" ∧ (parseMethodDescriptor yX10_tellOne.desc).map (fun d => d.parameters.length) = some 0 := by decide +kernel
set_option maxRecDepth 20000 in
def b_X10_tellOne_239 (v0 : Nat) (v1 : Int32) (S : St) : Option (Unit × St) := if (S.1 v0 13) ≤ 0 then (bd (f_X10_goesOn v0 S) fun _ S1 => bd (f_X10_tellLaw v0 v1 S1) fun _ S3 => some ((), S3)) else (some ((), S))
set_option maxRecDepth 20000 in
theorem t_X10_tellOne_239 {K : KK} (X : CX K cX10_tellOne 2 RX10 none) (hR : kR K = rmD 6) (v0 : Nat) (kv0 : KA (kDn K) v0 (0, 10)) (v1 : Int32) (S : St) (w : WT (kDn K) S.2.2) : JX K (Zm K (fun _ : Unit => none)) 239 [some (.ref v0), some (.int v1)] [] (rwN (kN K) S) (kn K) 0 0 (b_X10_tellOne_239 v0 v1 S) := by
  unfold b_X10_tellOne_239
  refine J_aload_n X dX10_tellOne_239 (i := 0) rfl rfl ?_
  refine T_getI X (kf := 13) cb10 kv0 (by decide) fl_X10_209 (fun _ _ _ => rfl) dX10_tellOne_240 ?_
  refine J_if_le X (tgt := 247) dX10_tellOne_243 (by decide) ?_ ?_
  · refine J_aload_n X dX10_tellOne_247 (i := 0) rfl rfl ?_
    refine T_callV (As := []) w X (C_X10_goesOn (kG K) v0 kv0 S) cb10 kv0 ml_X10_230 in_yX10_goesOn se_yX10_goesOn ii_RX10 co_yX10_goesOn hy_X10_goesOn (hRd hR (by decide) (by decide)) rfl (Nat.le_of_ble_eq_true rfl) dX10_tellOne_248 (fun _ S1 _ wS1 => ?_)
    refine J_aload_n X dX10_tellOne_251 (i := 0) rfl rfl ?_
    refine J_iload_n X dX10_tellOne_252 (i := 1) rfl rfl ?_
    refine T_callV (As := [.int v1]) wS1 X (C_X10_tellLaw (kG K) v0 kv0 v1 S1) cb10 kv0 ml_X10_283 in_yX10_tellLaw se_yX10_tellLaw ii_RX10 co_yX10_tellLaw hy_X10_tellLaw (hRd hR (by decide) (by decide)) rfl (Nat.le_of_ble_eq_true rfl) dX10_tellOne_253 (fun _ S3 _ wS3 => ?_)
    exact T_vret wS3 X dX10_tellOne_256
  · exact T_vret w X dX10_tellOne_246
set_option maxRecDepth 20000 in
def b_X10_tellOne_234 (v0 : Nat) (v1 : Int32) (S : St) : Option (Unit × St) := bd (f_X10_fail v0 (1 : Int32) S) fun _ S1 => b_X10_tellOne_239 v0 v1 S1
set_option maxRecDepth 20000 in
theorem t_X10_tellOne_234 {K : KK} (X : CX K cX10_tellOne 2 RX10 none) (hR : kR K = rmD 6) (v0 : Nat) (kv0 : KA (kDn K) v0 (0, 10)) (v1 : Int32) (S : St) (w : WT (kDn K) S.2.2) : JX K (Zm K (fun _ : Unit => none)) 234 [some (.ref v0), some (.int v1)] [] (rwN (kN K) S) (kn K) 0 0 (b_X10_tellOne_234 v0 v1 S) := by
  unfold b_X10_tellOne_234
  refine J_aload_n X dX10_tellOne_234 (i := 0) rfl rfl ?_
  refine J_iconst X (v := (1 : Int32)) dX10_tellOne_235 (by decide) ?_
  refine T_callV (As := [.int (1 : Int32)]) w X (C_X10_fail (kG K) v0 kv0 (1 : Int32) S) cb10 kv0 ml_X10_224 in_yX10_fail se_yX10_fail ii_RX10 co_yX10_fail hy_X10_fail (hRd hR (by decide) (by decide)) rfl (Nat.le_of_ble_eq_true rfl) dX10_tellOne_236 (fun _ S1 _ wS1 => ?_)
  exact t_X10_tellOne_239 X hR v0 kv0 v1 S1 wS1
set_option maxRecDepth 20000 in
def f_X10_tellOne (v0 : Nat) (S : St) : Option (Unit × St) := (ix (S.1 v0 11) 403).bind fun j1 => nm (S.1 (S.2.2 v0 5) j1) fun x2 => if x2 = (20 : Int32) then ((ix (S.1 v0 19) 2).bind fun j3 => bd (f_X10_roomFor v0 (S.1 (S.2.2 v0 23) j3) (4 : Int32) S) fun _ S4 => if (S4.1 v0 13) = 0 then (bd (f_X10_tellMermaid v0 S4) fun _ S6 => some ((), S6)) else (some ((), S4))) else if x2 = (21 : Int32) then ((ix (S.1 v0 19) 2).bind fun j8 => bd (f_X10_roomFor v0 (S.1 (S.2.2 v0 25) j8) (6 : Int32) S) fun _ S9 => if (S9.1 v0 13) = 0 then (bd (f_X10_tellPerson v0 S9) fun _ S11 => some ((), S11)) else (some ((), S9))) else if x2 = (22 : Int32) then ((ix (S.1 v0 19) 2).bind fun j13 => bd (f_X10_roomFor v0 (S.1 (S.2.2 v0 29) j13) (8 : Int32) S) fun _ S14 => if (S14.1 v0 13) = 0 then (bd (f_X10_tellStrand v0 S14) fun _ S16 => some ((), S16)) else (some ((), S14))) else if x2 = (27 : Int32) then (bd (f_X10_goesOn v0 S) fun _ S18 => bd (f_X10_bounded v0 (0 : Int32) (9 : Int32) S18) fun r21 S20 => (ix (S18.1 v0 19) 2).bind fun j22 => nm (sI S20 (S18.2.2 v0 33) j22 r21) fun S23 => bd (f_X10_must v0 (4 : Int32) S23) fun _ S24 => some ((), S24)) else if x2 = (28 : Int32) then (bd (f_X10_goesOn v0 S) fun _ S26 => bd (f_X10_bounded v0 (0 : Int32) (9999 : Int32) S26) fun r29 S28 => (ix (S26.1 v0 19) 2).bind fun j30 => nm (sI S28 (S26.2.2 v0 34) j30 r29) fun S31 => bd (f_X10_must v0 (4 : Int32) S31) fun _ S32 => some ((), S32)) else ((ix (S.1 v0 11) 403).bind fun j34 => nm ((S.1 (S.2.2 v0 5) j34) - (23 : Int32)) fun x35 => if x35 < 0 then (b_X10_tellOne_234 v0 x35 S) else ((ix (S.1 v0 11) 403).bind fun j36 => if (S.1 (S.2.2 v0 5) j36) ≤ (26 : Int32) then (b_X10_tellOne_239 v0 x35 S) else (b_X10_tellOne_234 v0 x35 S)))
set_option maxRecDepth 20000 in
theorem t_X10_tellOne_0 {K : KK} (X : CX K cX10_tellOne 2 RX10 none) (hR : kR K = rmD 6) (v0 : Nat) (kv0 : KA (kDn K) v0 (0, 10)) (S : St) (w : WT (kDn K) S.2.2) : JX K (Zm K (fun _ : Unit => none)) 0 [some (.ref v0), none] [] (rwN (kN K) S) (kn K) 0 0 (f_X10_tellOne v0 S) := by
  unfold f_X10_tellOne
  refine J_aload_n X dX10_tellOne_0 (i := 0) rfl rfl ?_
  refine T_getR X (kf := 5) cb10 kv0 (by decide) fl_X10_20 (fun _ _ _ => rfl) dX10_tellOne_1 ?_
  refine J_aload_n X dX10_tellOne_4 (i := 0) rfl rfl ?_
  refine T_getI X (kf := 11) cb10 kv0 (by decide) fl_X10_212 (fun _ _ _ => rfl) dX10_tellOne_5 ?_
  refine T_iald X (w.1 _ _ kv0 5 _ rfl) dX10_tellOne_8 (fun j1 => ?_)
  refine J_nmi (fun x2 => ?_)
  refine J_ite (fun hc9_20 => ?_) (fun hc9_20 => ?_)
  · refine J_tabIn X (v := (20 : Int32)) (off := 51) (tgt := 60) hc9_20 dX10_tellOne_9 (by decide) (by decide) (by decide) (by decide) ?_
    refine J_aload_n X dX10_tellOne_60 (i := 0) rfl rfl ?_
    refine J_aload_n X dX10_tellOne_61 (i := 0) rfl rfl ?_
    refine T_getR X (kf := 23) cb10 kv0 (by decide) fl_X10_46 (fun _ _ _ => rfl) dX10_tellOne_62 ?_
    refine J_aload_n X dX10_tellOne_65 (i := 0) rfl rfl ?_
    refine T_getI X (kf := 19) cb10 kv0 (by decide) fl_X10_242 (fun _ _ _ => rfl) dX10_tellOne_66 ?_
    refine T_iald X (w.1 _ _ kv0 23 _ rfl) dX10_tellOne_69 (fun j3 => ?_)
    refine J_iconst X (v := (4 : Int32)) dX10_tellOne_70 (by decide) ?_
    refine T_callV (As := [.int (S.1 (S.2.2 v0 23) j3), .int (4 : Int32)]) w X (C_X10_roomFor (kG K) v0 kv0 (S.1 (S.2.2 v0 23) j3) (4 : Int32) S) cb10 kv0 ml_X10_263 in_yX10_roomFor se_yX10_roomFor ii_RX10 co_yX10_roomFor hy_X10_roomFor (hRd hR (by decide) (by decide)) rfl (Nat.le_of_ble_eq_true rfl) dX10_tellOne_71 (fun _ S4 _ wS4 => ?_)
    refine J_aload_n X dX10_tellOne_74 (i := 0) rfl rfl ?_
    refine T_getI X (kf := 13) cb10 kv0 (by decide) fl_X10_209 (fun _ _ _ => rfl) dX10_tellOne_75 ?_
    refine J_if_ne X (tgt := 256) dX10_tellOne_78 (by decide) ?_ ?_
    · refine J_aload_n X dX10_tellOne_81 (i := 0) rfl rfl ?_
      refine T_callV (As := []) wS4 X (C_X10_tellMermaid (kG K) v0 kv0 S4) cb10 kv0 ml_X10_267 in_yX10_tellMermaid se_yX10_tellMermaid ii_RX10 co_yX10_tellMermaid hy_X10_tellMermaid (hRd hR (by decide) (by decide)) rfl (Nat.le_of_ble_eq_true rfl) dX10_tellOne_82 (fun _ S6 _ wS6 => ?_)
      refine J_goto X (tgt := 256) dX10_tellOne_85 (by decide) ?_
      exact T_vret wS6 X dX10_tellOne_256
    · exact T_vret wS4 X dX10_tellOne_256
  refine J_ite (fun hc9_21 => ?_) (fun hc9_21 => ?_)
  · refine J_tabIn X (v := (21 : Int32)) (off := 79) (tgt := 88) hc9_21 dX10_tellOne_9 (by decide) (by decide) (by decide) (by decide) ?_
    refine J_aload_n X dX10_tellOne_88 (i := 0) rfl rfl ?_
    refine J_aload_n X dX10_tellOne_89 (i := 0) rfl rfl ?_
    refine T_getR X (kf := 25) cb10 kv0 (by decide) fl_X10_52 (fun _ _ _ => rfl) dX10_tellOne_90 ?_
    refine J_aload_n X dX10_tellOne_93 (i := 0) rfl rfl ?_
    refine T_getI X (kf := 19) cb10 kv0 (by decide) fl_X10_242 (fun _ _ _ => rfl) dX10_tellOne_94 ?_
    refine T_iald X (w.1 _ _ kv0 25 _ rfl) dX10_tellOne_97 (fun j8 => ?_)
    refine J_bipush X (v := (6 : Int32)) dX10_tellOne_98 (by decide) ?_
    refine T_callV (As := [.int (S.1 (S.2.2 v0 25) j8), .int (6 : Int32)]) w X (C_X10_roomFor (kG K) v0 kv0 (S.1 (S.2.2 v0 25) j8) (6 : Int32) S) cb10 kv0 ml_X10_263 in_yX10_roomFor se_yX10_roomFor ii_RX10 co_yX10_roomFor hy_X10_roomFor (hRd hR (by decide) (by decide)) rfl (Nat.le_of_ble_eq_true rfl) dX10_tellOne_100 (fun _ S9 _ wS9 => ?_)
    refine J_aload_n X dX10_tellOne_103 (i := 0) rfl rfl ?_
    refine T_getI X (kf := 13) cb10 kv0 (by decide) fl_X10_209 (fun _ _ _ => rfl) dX10_tellOne_104 ?_
    refine J_if_ne X (tgt := 256) dX10_tellOne_107 (by decide) ?_ ?_
    · refine J_aload_n X dX10_tellOne_110 (i := 0) rfl rfl ?_
      refine T_callV (As := []) wS9 X (C_X10_tellPerson (kG K) v0 kv0 S9) cb10 kv0 ml_X10_270 in_yX10_tellPerson se_yX10_tellPerson ii_RX10 co_yX10_tellPerson hy_X10_tellPerson (hRd hR (by decide) (by decide)) rfl (Nat.le_of_ble_eq_true rfl) dX10_tellOne_111 (fun _ S11 _ wS11 => ?_)
      refine J_goto X (tgt := 256) dX10_tellOne_114 (by decide) ?_
      exact T_vret wS11 X dX10_tellOne_256
    · exact T_vret wS9 X dX10_tellOne_256
  refine J_ite (fun hc9_22 => ?_) (fun hc9_22 => ?_)
  · refine J_tabIn X (v := (22 : Int32)) (off := 108) (tgt := 117) hc9_22 dX10_tellOne_9 (by decide) (by decide) (by decide) (by decide) ?_
    refine J_aload_n X dX10_tellOne_117 (i := 0) rfl rfl ?_
    refine J_aload_n X dX10_tellOne_118 (i := 0) rfl rfl ?_
    refine T_getR X (kf := 29) cb10 kv0 (by decide) fl_X10_64 (fun _ _ _ => rfl) dX10_tellOne_119 ?_
    refine J_aload_n X dX10_tellOne_122 (i := 0) rfl rfl ?_
    refine T_getI X (kf := 19) cb10 kv0 (by decide) fl_X10_242 (fun _ _ _ => rfl) dX10_tellOne_123 ?_
    refine T_iald X (w.1 _ _ kv0 29 _ rfl) dX10_tellOne_126 (fun j13 => ?_)
    refine J_bipush X (v := (8 : Int32)) dX10_tellOne_127 (by decide) ?_
    refine T_callV (As := [.int (S.1 (S.2.2 v0 29) j13), .int (8 : Int32)]) w X (C_X10_roomFor (kG K) v0 kv0 (S.1 (S.2.2 v0 29) j13) (8 : Int32) S) cb10 kv0 ml_X10_263 in_yX10_roomFor se_yX10_roomFor ii_RX10 co_yX10_roomFor hy_X10_roomFor (hRd hR (by decide) (by decide)) rfl (Nat.le_of_ble_eq_true rfl) dX10_tellOne_129 (fun _ S14 _ wS14 => ?_)
    refine J_aload_n X dX10_tellOne_132 (i := 0) rfl rfl ?_
    refine T_getI X (kf := 13) cb10 kv0 (by decide) fl_X10_209 (fun _ _ _ => rfl) dX10_tellOne_133 ?_
    refine J_if_ne X (tgt := 256) dX10_tellOne_136 (by decide) ?_ ?_
    · refine J_aload_n X dX10_tellOne_139 (i := 0) rfl rfl ?_
      refine T_callV (As := []) wS14 X (C_X10_tellStrand (kG K) v0 kv0 S14) cb10 kv0 ml_X10_273 in_yX10_tellStrand se_yX10_tellStrand ii_RX10 co_yX10_tellStrand hy_X10_tellStrand (hRd hR (by decide) (by decide)) rfl (Nat.le_of_ble_eq_true rfl) dX10_tellOne_140 (fun _ S16 _ wS16 => ?_)
      refine J_goto X (tgt := 256) dX10_tellOne_143 (by decide) ?_
      exact T_vret wS16 X dX10_tellOne_256
    · exact T_vret wS14 X dX10_tellOne_256
  refine J_ite (fun hc9_27 => ?_) (fun hc9_27 => ?_)
  · refine J_tabIn X (v := (27 : Int32)) (off := 137) (tgt := 146) hc9_27 dX10_tellOne_9 (by decide) (by decide) (by decide) (by decide) ?_
    refine J_aload_n X dX10_tellOne_146 (i := 0) rfl rfl ?_
    refine T_callV (As := []) w X (C_X10_goesOn (kG K) v0 kv0 S) cb10 kv0 ml_X10_230 in_yX10_goesOn se_yX10_goesOn ii_RX10 co_yX10_goesOn hy_X10_goesOn (hRd hR (by decide) (by decide)) rfl (Nat.le_of_ble_eq_true rfl) dX10_tellOne_147 (fun _ S18 _ wS18 => ?_)
    refine J_aload_n X dX10_tellOne_150 (i := 0) rfl rfl ?_
    refine T_getR X (kf := 33) cb10 kv0 (by decide) fl_X10_76 (fun _ _ _ => rfl) dX10_tellOne_151 ?_
    refine J_aload_n X dX10_tellOne_154 (i := 0) rfl rfl ?_
    refine T_getI X (kf := 19) cb10 kv0 (by decide) fl_X10_242 (fun _ _ _ => rfl) dX10_tellOne_155 ?_
    refine J_aload_n X dX10_tellOne_158 (i := 0) rfl rfl ?_
    refine J_iconst X (v := (0 : Int32)) dX10_tellOne_159 (by decide) ?_
    refine J_bipush X (v := (9 : Int32)) dX10_tellOne_160 (by decide) ?_
    refine T_callV (As := [.int (0 : Int32), .int (9 : Int32)]) wS18 X (C_X10_bounded (kG K) v0 kv0 (0 : Int32) (9 : Int32) S18) cb10 kv0 ml_X10_276 in_yX10_bounded se_yX10_bounded ii_RX10 co_yX10_bounded hy_X10_bounded (hRd hR (by decide) (by decide)) rfl (Nat.le_of_ble_eq_true rfl) dX10_tellOne_162 (fun r21 S20 _ wS20 => ?_)
    refine T_iast X (wS18.1 _ _ kv0 33 _ rfl) dX10_tellOne_165 (fun j22 S23 hS23 => ?_)
    have wS23 : WT (kDn K) S23.2.2 := by rw [hS23]; exact wS20
    clear hS23
    refine J_aload_n X dX10_tellOne_166 (i := 0) rfl rfl ?_
    refine J_iconst X (v := (4 : Int32)) dX10_tellOne_167 (by decide) ?_
    refine T_callV (As := [.int (4 : Int32)]) wS23 X (C_X10_must (kG K) v0 kv0 (4 : Int32) S23) cb10 kv0 ml_X10_280 in_yX10_must se_yX10_must ii_RX10 co_yX10_must hy_X10_must (hRd hR (by decide) (by decide)) rfl (Nat.le_of_ble_eq_true rfl) dX10_tellOne_168 (fun _ S24 _ wS24 => ?_)
    refine J_goto X (tgt := 256) dX10_tellOne_171 (by decide) ?_
    exact T_vret wS24 X dX10_tellOne_256
  refine J_ite (fun hc9_28 => ?_) (fun hc9_28 => ?_)
  · refine J_tabIn X (v := (28 : Int32)) (off := 165) (tgt := 174) hc9_28 dX10_tellOne_9 (by decide) (by decide) (by decide) (by decide) ?_
    refine J_aload_n X dX10_tellOne_174 (i := 0) rfl rfl ?_
    refine T_callV (As := []) w X (C_X10_goesOn (kG K) v0 kv0 S) cb10 kv0 ml_X10_230 in_yX10_goesOn se_yX10_goesOn ii_RX10 co_yX10_goesOn hy_X10_goesOn (hRd hR (by decide) (by decide)) rfl (Nat.le_of_ble_eq_true rfl) dX10_tellOne_175 (fun _ S26 _ wS26 => ?_)
    refine J_aload_n X dX10_tellOne_178 (i := 0) rfl rfl ?_
    refine T_getR X (kf := 34) cb10 kv0 (by decide) fl_X10_79 (fun _ _ _ => rfl) dX10_tellOne_179 ?_
    refine J_aload_n X dX10_tellOne_182 (i := 0) rfl rfl ?_
    refine T_getI X (kf := 19) cb10 kv0 (by decide) fl_X10_242 (fun _ _ _ => rfl) dX10_tellOne_183 ?_
    refine J_aload_n X dX10_tellOne_186 (i := 0) rfl rfl ?_
    refine J_iconst X (v := (0 : Int32)) dX10_tellOne_187 (by decide) ?_
    refine J_sipush X (v := (9999 : Int32)) dX10_tellOne_188 (by decide) ?_
    refine T_callV (As := [.int (0 : Int32), .int (9999 : Int32)]) wS26 X (C_X10_bounded (kG K) v0 kv0 (0 : Int32) (9999 : Int32) S26) cb10 kv0 ml_X10_276 in_yX10_bounded se_yX10_bounded ii_RX10 co_yX10_bounded hy_X10_bounded (hRd hR (by decide) (by decide)) rfl (Nat.le_of_ble_eq_true rfl) dX10_tellOne_191 (fun r29 S28 _ wS28 => ?_)
    refine T_iast X (wS26.1 _ _ kv0 34 _ rfl) dX10_tellOne_194 (fun j30 S31 hS31 => ?_)
    have wS31 : WT (kDn K) S31.2.2 := by rw [hS31]; exact wS28
    clear hS31
    refine J_aload_n X dX10_tellOne_195 (i := 0) rfl rfl ?_
    refine J_iconst X (v := (4 : Int32)) dX10_tellOne_196 (by decide) ?_
    refine T_callV (As := [.int (4 : Int32)]) wS31 X (C_X10_must (kG K) v0 kv0 (4 : Int32) S31) cb10 kv0 ml_X10_280 in_yX10_must se_yX10_must ii_RX10 co_yX10_must hy_X10_must (hRd hR (by decide) (by decide)) rfl (Nat.le_of_ble_eq_true rfl) dX10_tellOne_197 (fun _ S32 _ wS32 => ?_)
    refine J_goto X (tgt := 256) dX10_tellOne_200 (by decide) ?_
    exact T_vret wS32 X dX10_tellOne_256
  by_cases hd9_23 : x2 = (23 : Int32)
  · refine J_tabIn X (v := (23 : Int32)) (off := 194) (tgt := 203) hd9_23 dX10_tellOne_9 (by decide) (by decide) (by decide) (by decide) ?_
    refine J_aload_n X dX10_tellOne_203 (i := 0) rfl rfl ?_
    refine T_getR X (kf := 5) cb10 kv0 (by decide) fl_X10_20 (fun _ _ _ => rfl) dX10_tellOne_204 ?_
    refine J_aload_n X dX10_tellOne_207 (i := 0) rfl rfl ?_
    refine T_getI X (kf := 11) cb10 kv0 (by decide) fl_X10_212 (fun _ _ _ => rfl) dX10_tellOne_208 ?_
    refine T_iald X (w.1 _ _ kv0 5 _ rfl) dX10_tellOne_211 (fun j34 => ?_)
    refine J_bipush X (v := (23 : Int32)) dX10_tellOne_212 (by decide) ?_
    refine J_isub X dX10_tellOne_214 ?_
    refine J_nmi (fun x35 => ?_)
    refine J_istore_n X (i := 1) (ls' := [some (.ref v0), some (.int x35)]) dX10_tellOne_215 rfl (by decide) rfl ?_
    refine J_iload_n X dX10_tellOne_216 (i := 1) rfl rfl ?_
    refine J_if_lt X (tgt := 234) dX10_tellOne_217 (by decide) ?_ ?_
    · exact t_X10_tellOne_234 X hR v0 kv0 x35 S w
    · refine J_aload_n X dX10_tellOne_220 (i := 0) rfl rfl ?_
      refine T_getR X (kf := 5) cb10 kv0 (by decide) fl_X10_20 (fun _ _ _ => rfl) dX10_tellOne_221 ?_
      refine J_aload_n X dX10_tellOne_224 (i := 0) rfl rfl ?_
      refine T_getI X (kf := 11) cb10 kv0 (by decide) fl_X10_212 (fun _ _ _ => rfl) dX10_tellOne_225 ?_
      refine T_iald X (w.1 _ _ kv0 5 _ rfl) dX10_tellOne_228 (fun j36 => ?_)
      refine J_bipush X (v := (26 : Int32)) dX10_tellOne_229 (by decide) ?_
      refine J_icmp_le X (tgt := 239) dX10_tellOne_231 (by decide) ?_ ?_
      · exact t_X10_tellOne_239 X hR v0 kv0 x35 S w
      · exact t_X10_tellOne_234 X hR v0 kv0 x35 S w
  by_cases hd9_24 : x2 = (24 : Int32)
  · refine J_tabIn X (v := (24 : Int32)) (off := 194) (tgt := 203) hd9_24 dX10_tellOne_9 (by decide) (by decide) (by decide) (by decide) ?_
    refine J_aload_n X dX10_tellOne_203 (i := 0) rfl rfl ?_
    refine T_getR X (kf := 5) cb10 kv0 (by decide) fl_X10_20 (fun _ _ _ => rfl) dX10_tellOne_204 ?_
    refine J_aload_n X dX10_tellOne_207 (i := 0) rfl rfl ?_
    refine T_getI X (kf := 11) cb10 kv0 (by decide) fl_X10_212 (fun _ _ _ => rfl) dX10_tellOne_208 ?_
    refine T_iald X (w.1 _ _ kv0 5 _ rfl) dX10_tellOne_211 (fun j34 => ?_)
    refine J_bipush X (v := (23 : Int32)) dX10_tellOne_212 (by decide) ?_
    refine J_isub X dX10_tellOne_214 ?_
    refine J_nmi (fun x35 => ?_)
    refine J_istore_n X (i := 1) (ls' := [some (.ref v0), some (.int x35)]) dX10_tellOne_215 rfl (by decide) rfl ?_
    refine J_iload_n X dX10_tellOne_216 (i := 1) rfl rfl ?_
    refine J_if_lt X (tgt := 234) dX10_tellOne_217 (by decide) ?_ ?_
    · exact t_X10_tellOne_234 X hR v0 kv0 x35 S w
    · refine J_aload_n X dX10_tellOne_220 (i := 0) rfl rfl ?_
      refine T_getR X (kf := 5) cb10 kv0 (by decide) fl_X10_20 (fun _ _ _ => rfl) dX10_tellOne_221 ?_
      refine J_aload_n X dX10_tellOne_224 (i := 0) rfl rfl ?_
      refine T_getI X (kf := 11) cb10 kv0 (by decide) fl_X10_212 (fun _ _ _ => rfl) dX10_tellOne_225 ?_
      refine T_iald X (w.1 _ _ kv0 5 _ rfl) dX10_tellOne_228 (fun j36 => ?_)
      refine J_bipush X (v := (26 : Int32)) dX10_tellOne_229 (by decide) ?_
      refine J_icmp_le X (tgt := 239) dX10_tellOne_231 (by decide) ?_ ?_
      · exact t_X10_tellOne_239 X hR v0 kv0 x35 S w
      · exact t_X10_tellOne_234 X hR v0 kv0 x35 S w
  by_cases hd9_25 : x2 = (25 : Int32)
  · refine J_tabIn X (v := (25 : Int32)) (off := 194) (tgt := 203) hd9_25 dX10_tellOne_9 (by decide) (by decide) (by decide) (by decide) ?_
    refine J_aload_n X dX10_tellOne_203 (i := 0) rfl rfl ?_
    refine T_getR X (kf := 5) cb10 kv0 (by decide) fl_X10_20 (fun _ _ _ => rfl) dX10_tellOne_204 ?_
    refine J_aload_n X dX10_tellOne_207 (i := 0) rfl rfl ?_
    refine T_getI X (kf := 11) cb10 kv0 (by decide) fl_X10_212 (fun _ _ _ => rfl) dX10_tellOne_208 ?_
    refine T_iald X (w.1 _ _ kv0 5 _ rfl) dX10_tellOne_211 (fun j34 => ?_)
    refine J_bipush X (v := (23 : Int32)) dX10_tellOne_212 (by decide) ?_
    refine J_isub X dX10_tellOne_214 ?_
    refine J_nmi (fun x35 => ?_)
    refine J_istore_n X (i := 1) (ls' := [some (.ref v0), some (.int x35)]) dX10_tellOne_215 rfl (by decide) rfl ?_
    refine J_iload_n X dX10_tellOne_216 (i := 1) rfl rfl ?_
    refine J_if_lt X (tgt := 234) dX10_tellOne_217 (by decide) ?_ ?_
    · exact t_X10_tellOne_234 X hR v0 kv0 x35 S w
    · refine J_aload_n X dX10_tellOne_220 (i := 0) rfl rfl ?_
      refine T_getR X (kf := 5) cb10 kv0 (by decide) fl_X10_20 (fun _ _ _ => rfl) dX10_tellOne_221 ?_
      refine J_aload_n X dX10_tellOne_224 (i := 0) rfl rfl ?_
      refine T_getI X (kf := 11) cb10 kv0 (by decide) fl_X10_212 (fun _ _ _ => rfl) dX10_tellOne_225 ?_
      refine T_iald X (w.1 _ _ kv0 5 _ rfl) dX10_tellOne_228 (fun j36 => ?_)
      refine J_bipush X (v := (26 : Int32)) dX10_tellOne_229 (by decide) ?_
      refine J_icmp_le X (tgt := 239) dX10_tellOne_231 (by decide) ?_ ?_
      · exact t_X10_tellOne_239 X hR v0 kv0 x35 S w
      · exact t_X10_tellOne_234 X hR v0 kv0 x35 S w
  by_cases hd9_26 : x2 = (26 : Int32)
  · refine J_tabIn X (v := (26 : Int32)) (off := 194) (tgt := 203) hd9_26 dX10_tellOne_9 (by decide) (by decide) (by decide) (by decide) ?_
    refine J_aload_n X dX10_tellOne_203 (i := 0) rfl rfl ?_
    refine T_getR X (kf := 5) cb10 kv0 (by decide) fl_X10_20 (fun _ _ _ => rfl) dX10_tellOne_204 ?_
    refine J_aload_n X dX10_tellOne_207 (i := 0) rfl rfl ?_
    refine T_getI X (kf := 11) cb10 kv0 (by decide) fl_X10_212 (fun _ _ _ => rfl) dX10_tellOne_208 ?_
    refine T_iald X (w.1 _ _ kv0 5 _ rfl) dX10_tellOne_211 (fun j34 => ?_)
    refine J_bipush X (v := (23 : Int32)) dX10_tellOne_212 (by decide) ?_
    refine J_isub X dX10_tellOne_214 ?_
    refine J_nmi (fun x35 => ?_)
    refine J_istore_n X (i := 1) (ls' := [some (.ref v0), some (.int x35)]) dX10_tellOne_215 rfl (by decide) rfl ?_
    refine J_iload_n X dX10_tellOne_216 (i := 1) rfl rfl ?_
    refine J_if_lt X (tgt := 234) dX10_tellOne_217 (by decide) ?_ ?_
    · exact t_X10_tellOne_234 X hR v0 kv0 x35 S w
    · refine J_aload_n X dX10_tellOne_220 (i := 0) rfl rfl ?_
      refine T_getR X (kf := 5) cb10 kv0 (by decide) fl_X10_20 (fun _ _ _ => rfl) dX10_tellOne_221 ?_
      refine J_aload_n X dX10_tellOne_224 (i := 0) rfl rfl ?_
      refine T_getI X (kf := 11) cb10 kv0 (by decide) fl_X10_212 (fun _ _ _ => rfl) dX10_tellOne_225 ?_
      refine T_iald X (w.1 _ _ kv0 5 _ rfl) dX10_tellOne_228 (fun j36 => ?_)
      refine J_bipush X (v := (26 : Int32)) dX10_tellOne_229 (by decide) ?_
      refine J_icmp_le X (tgt := 239) dX10_tellOne_231 (by decide) ?_ ?_
      · exact t_X10_tellOne_239 X hR v0 kv0 x35 S w
      · exact t_X10_tellOne_234 X hR v0 kv0 x35 S w
  have nhc9_20 := tabne hc9_20 (k := 20) (by decide)
  have nhc9_21 := tabne hc9_21 (k := 21) (by decide)
  have nhc9_22 := tabne hc9_22 (k := 22) (by decide)
  have nhc9_27 := tabne hc9_27 (k := 27) (by decide)
  have nhc9_28 := tabne hc9_28 (k := 28) (by decide)
  have nhd9_23 := tabne hd9_23 (k := 23) (by decide)
  have nhd9_24 := tabne hd9_24 (k := 24) (by decide)
  have nhd9_25 := tabne hd9_25 (k := 25) (by decide)
  have nhd9_26 := tabne hd9_26 (k := 26) (by decide)
  refine J_tabOut X (tgt := 203) dX10_tellOne_9 (tabout 20 28 (fun v h1 h2 => by omega)) (by decide) ?_
  refine J_aload_n X dX10_tellOne_203 (i := 0) rfl rfl ?_
  refine T_getR X (kf := 5) cb10 kv0 (by decide) fl_X10_20 (fun _ _ _ => rfl) dX10_tellOne_204 ?_
  refine J_aload_n X dX10_tellOne_207 (i := 0) rfl rfl ?_
  refine T_getI X (kf := 11) cb10 kv0 (by decide) fl_X10_212 (fun _ _ _ => rfl) dX10_tellOne_208 ?_
  refine T_iald X (w.1 _ _ kv0 5 _ rfl) dX10_tellOne_211 (fun j34 => ?_)
  refine J_bipush X (v := (23 : Int32)) dX10_tellOne_212 (by decide) ?_
  refine J_isub X dX10_tellOne_214 ?_
  refine J_nmi (fun x35 => ?_)
  refine J_istore_n X (i := 1) (ls' := [some (.ref v0), some (.int x35)]) dX10_tellOne_215 rfl (by decide) rfl ?_
  refine J_iload_n X dX10_tellOne_216 (i := 1) rfl rfl ?_
  refine J_if_lt X (tgt := 234) dX10_tellOne_217 (by decide) ?_ ?_
  · exact t_X10_tellOne_234 X hR v0 kv0 x35 S w
  · refine J_aload_n X dX10_tellOne_220 (i := 0) rfl rfl ?_
    refine T_getR X (kf := 5) cb10 kv0 (by decide) fl_X10_20 (fun _ _ _ => rfl) dX10_tellOne_221 ?_
    refine J_aload_n X dX10_tellOne_224 (i := 0) rfl rfl ?_
    refine T_getI X (kf := 11) cb10 kv0 (by decide) fl_X10_212 (fun _ _ _ => rfl) dX10_tellOne_225 ?_
    refine T_iald X (w.1 _ _ kv0 5 _ rfl) dX10_tellOne_228 (fun j36 => ?_)
    refine J_bipush X (v := (26 : Int32)) dX10_tellOne_229 (by decide) ?_
    refine J_icmp_le X (tgt := 239) dX10_tellOne_231 (by decide) ?_ ?_
    · exact t_X10_tellOne_239 X hR v0 kv0 x35 S w
    · exact t_X10_tellOne_234 X hR v0 kv0 x35 S w
theorem C_X10_tellOne (G : GG) (v0 : Nat) (kv0 : KA (gD G) v0 (0, 10)) (S : St) : CM G yX10_tellOne cX10_tellOne 2 none 6 [.ref v0] S (fun _ : Unit => none) (f_X10_tellOne v0 S) :=
  CM_of (by decide) (Nat.le_of_ble_eq_true rfl) rfl (fun K hG X hR w => by subst hG; exact t_X10_tellOne_0 X hR v0 kv0 S w)
-- ==== X10_begins
theorem hy_X10_begins : yX10_begins.cls ≠ "java/lang/invoke/MethodHandle" ∧ yX10_begins.cls ≠ "java/lang/invoke/VarHandle" ∧ (parseMethodDescriptor yX10_begins.desc).map (fun d => d.parameters.length) = some 0 := by decide +kernel
set_option maxRecDepth 20000 in
def b_X10_begins_149 : Nat → Nat → Int32 → St → Option (Unit × St)
  | 0, _, _, _ => none
  | fu + 1, v0, v1, S => (ix (S.1 v0 18) 2).bind fun j1 => if (S.1 (S.2.2 v0 29) j1) ≤ v1 then ((ix (S.1 v0 18) 2).bind fun j2 => nm (sI S v0 53 (S.1 (S.2.2 v0 34) j2)) fun S3 => nm (sI S3 v0 54 (0 : Int32)) fun S4 => some ((), S4)) else ((ix (((8 : Int32) * (S.1 v0 18)) + v1) 16).bind fun j5 => (ix ((38 : Int32) + v1) 55).bind fun j6 => nm (sI S (S.2.2 v0 52) j6 (S.1 (S.2.2 v0 31) j5)) fun S7 => nm (v1 + (1 : Int32)) fun x8 => b_X10_begins_149 fu v0 x8 S7)
set_option maxRecDepth 20000 in
theorem t_X10_begins_149 {K : KK} (X : CX K cX10_begins 3 RX10 none) (hR : kR K = rmD 0) : ∀ (fu : Nat) (v0 : Nat) (kv0 : KA (kDn K) v0 (0, 10)) (v1 : Int32) (S : St), WT (kDn K) S.2.2 → JX K (Zm K (fun _ : Unit => none)) 149 [some (.ref v0), some (.int v1), none] [] (rwN (kN K) S) (kn K) 0 0 (b_X10_begins_149 fu v0 v1 S) := by
  intro fu
  induction fu with
  | zero => intro v0 kv0 v1 S w; exact J_none
  | succ fu ih =>
    intro v0 kv0 v1 S w
    rw [b_X10_begins_149]
    refine J_iload_n X dX10_begins_149 (i := 1) rfl rfl ?_
    refine J_aload_n X dX10_begins_150 (i := 0) rfl rfl ?_
    refine T_getR X (kf := 29) cb10 kv0 (by decide) fl_X10_64 (fun _ _ _ => rfl) dX10_begins_151 ?_
    refine J_aload_n X dX10_begins_154 (i := 0) rfl rfl ?_
    refine T_getI X (kf := 18) cb10 kv0 (by decide) fl_X10_239 (fun _ _ _ => rfl) dX10_begins_155 ?_
    refine T_iald X (w.1 _ _ kv0 29 _ rfl) dX10_begins_158 (fun j1 => ?_)
    refine J_icmp_ge X (tgt := 191) dX10_begins_159 (by decide) ?_ ?_
    · refine J_aload_n X dX10_begins_191 (i := 0) rfl rfl ?_
      refine J_aload_n X dX10_begins_192 (i := 0) rfl rfl ?_
      refine T_getR X (kf := 34) cb10 kv0 (by decide) fl_X10_79 (fun _ _ _ => rfl) dX10_begins_193 ?_
      refine J_aload_n X dX10_begins_196 (i := 0) rfl rfl ?_
      refine T_getI X (kf := 18) cb10 kv0 (by decide) fl_X10_239 (fun _ _ _ => rfl) dX10_begins_197 ?_
      refine T_iald X (w.1 _ _ kv0 34 _ rfl) dX10_begins_200 (fun j2 => ?_)
      refine T_putI X (kf := 53) cb10 kv0 (by decide) fl_X10_329 (fun _ _ _ => rfl) rfl rfl rfl dX10_begins_201 (fun S3 hS3 => ?_)
      have wS3 : WT (kDn K) S3.2.2 := by rw [hS3]; exact w
      clear hS3
      refine J_aload_n X dX10_begins_204 (i := 0) rfl rfl ?_
      refine J_iconst X (v := (0 : Int32)) dX10_begins_205 (by decide) ?_
      refine T_putI X (kf := 54) cb10 kv0 (by decide) fl_X10_332 (fun _ _ _ => rfl) rfl (by first | rfl | decide) (by first | rfl | decide) dX10_begins_206 (fun S4 hS4 => ?_)
      have wS4 : WT (kDn K) S4.2.2 := by rw [hS4]; exact wS3
      clear hS4
      exact T_vret wS4 X dX10_begins_209
    · refine J_aload_n X dX10_begins_162 (i := 0) rfl rfl ?_
      refine T_getR X (kf := 52) cb10 kv0 (by decide) fl_X10_122 (fun _ _ _ => rfl) dX10_begins_163 ?_
      refine J_bipush X (v := (38 : Int32)) dX10_begins_166 (by decide) ?_
      refine J_iload_n X dX10_begins_168 (i := 1) rfl rfl ?_
      refine J_iadd X dX10_begins_169 ?_
      refine J_aload_n X dX10_begins_170 (i := 0) rfl rfl ?_
      refine T_getR X (kf := 31) cb10 kv0 (by decide) fl_X10_70 (fun _ _ _ => rfl) dX10_begins_171 ?_
      refine J_bipush X (v := (8 : Int32)) dX10_begins_174 (by decide) ?_
      refine J_aload_n X dX10_begins_176 (i := 0) rfl rfl ?_
      refine T_getI X (kf := 18) cb10 kv0 (by decide) fl_X10_239 (fun _ _ _ => rfl) dX10_begins_177 ?_
      refine J_imul X dX10_begins_180 ?_
      refine J_iload_n X dX10_begins_181 (i := 1) rfl rfl ?_
      refine J_iadd X dX10_begins_182 ?_
      refine T_iald X (w.1 _ _ kv0 31 _ rfl) dX10_begins_183 (fun j5 => ?_)
      refine T_iast X (w.1 _ _ kv0 52 _ rfl) dX10_begins_184 (fun j6 S7 hS7 => ?_)
      have wS7 : WT (kDn K) S7.2.2 := by rw [hS7]; exact w
      clear hS7
      refine J_nmv (v1 + (1 : Int32)) (fun x8 ex8 => ?_)
      refine J_iinc X (v := x8) (ls' := [some (.ref v0), some (.int x8), none]) dX10_begins_185 (by decide) rfl (by rw [ex8]; rfl) rfl ?_
      refine J_goto X (tgt := 149) dX10_begins_188 (by decide) ?_
      exact ih v0 kv0 x8 S7 wS7
set_option maxRecDepth 20000 in
def b_X10_begins_82 : Nat → Nat → Int32 → St → Option (Unit × St)
  | 0, _, _, _ => none
  | fu + 1, v0, v1, S => (ix (S.1 v0 18) 2).bind fun j1 => if (S.1 (S.2.2 v0 25) j1) ≤ v1 then (b_X10_begins_149 FU v0 (0 : Int32) S) else ((ix (((6 : Int32) * (S.1 v0 18)) + v1) 12).bind fun j2 => (ix ((20 : Int32) + v1) 55).bind fun j3 => nm (sI S (S.2.2 v0 52) j3 (S.1 (S.2.2 v0 26) j2)) fun S4 => (ix (((6 : Int32) * (S4.1 v0 18)) + v1) 12).bind fun j5 => (ix ((26 : Int32) + v1) 55).bind fun j6 => nm (sI S4 (S4.2.2 v0 52) j6 (S4.1 (S4.2.2 v0 27) j5)) fun S7 => nm (v1 + (1 : Int32)) fun x8 => b_X10_begins_82 fu v0 x8 S7)
set_option maxRecDepth 20000 in
theorem t_X10_begins_82 {K : KK} (X : CX K cX10_begins 3 RX10 none) (hR : kR K = rmD 0) : ∀ (fu : Nat) (v0 : Nat) (kv0 : KA (kDn K) v0 (0, 10)) (v1 : Int32) (S : St), WT (kDn K) S.2.2 → JX K (Zm K (fun _ : Unit => none)) 82 [some (.ref v0), some (.int v1), none] [] (rwN (kN K) S) (kn K) 0 0 (b_X10_begins_82 fu v0 v1 S) := by
  intro fu
  induction fu with
  | zero => intro v0 kv0 v1 S w; exact J_none
  | succ fu ih =>
    intro v0 kv0 v1 S w
    rw [b_X10_begins_82]
    refine J_iload_n X dX10_begins_82 (i := 1) rfl rfl ?_
    refine J_aload_n X dX10_begins_83 (i := 0) rfl rfl ?_
    refine T_getR X (kf := 25) cb10 kv0 (by decide) fl_X10_52 (fun _ _ _ => rfl) dX10_begins_84 ?_
    refine J_aload_n X dX10_begins_87 (i := 0) rfl rfl ?_
    refine T_getI X (kf := 18) cb10 kv0 (by decide) fl_X10_239 (fun _ _ _ => rfl) dX10_begins_88 ?_
    refine T_iald X (w.1 _ _ kv0 25 _ rfl) dX10_begins_91 (fun j1 => ?_)
    refine J_icmp_ge X (tgt := 147) dX10_begins_92 (by decide) ?_ ?_
    · refine J_iconst X (v := (0 : Int32)) dX10_begins_147 (by decide) ?_
      refine J_istore_n X (i := 1) (ls' := [some (.ref v0), some (.int (0 : Int32)), none]) dX10_begins_148 rfl (by decide) rfl ?_
      exact t_X10_begins_149 X hR FU v0 kv0 (0 : Int32) S w
    · refine J_aload_n X dX10_begins_95 (i := 0) rfl rfl ?_
      refine T_getR X (kf := 52) cb10 kv0 (by decide) fl_X10_122 (fun _ _ _ => rfl) dX10_begins_96 ?_
      refine J_bipush X (v := (20 : Int32)) dX10_begins_99 (by decide) ?_
      refine J_iload_n X dX10_begins_101 (i := 1) rfl rfl ?_
      refine J_iadd X dX10_begins_102 ?_
      refine J_aload_n X dX10_begins_103 (i := 0) rfl rfl ?_
      refine T_getR X (kf := 26) cb10 kv0 (by decide) fl_X10_55 (fun _ _ _ => rfl) dX10_begins_104 ?_
      refine J_bipush X (v := (6 : Int32)) dX10_begins_107 (by decide) ?_
      refine J_aload_n X dX10_begins_109 (i := 0) rfl rfl ?_
      refine T_getI X (kf := 18) cb10 kv0 (by decide) fl_X10_239 (fun _ _ _ => rfl) dX10_begins_110 ?_
      refine J_imul X dX10_begins_113 ?_
      refine J_iload_n X dX10_begins_114 (i := 1) rfl rfl ?_
      refine J_iadd X dX10_begins_115 ?_
      refine T_iald X (w.1 _ _ kv0 26 _ rfl) dX10_begins_116 (fun j2 => ?_)
      refine T_iast X (w.1 _ _ kv0 52 _ rfl) dX10_begins_117 (fun j3 S4 hS4 => ?_)
      have wS4 : WT (kDn K) S4.2.2 := by rw [hS4]; exact w
      clear hS4
      refine J_aload_n X dX10_begins_118 (i := 0) rfl rfl ?_
      refine T_getR X (kf := 52) cb10 kv0 (by decide) fl_X10_122 (fun _ _ _ => rfl) dX10_begins_119 ?_
      refine J_bipush X (v := (26 : Int32)) dX10_begins_122 (by decide) ?_
      refine J_iload_n X dX10_begins_124 (i := 1) rfl rfl ?_
      refine J_iadd X dX10_begins_125 ?_
      refine J_aload_n X dX10_begins_126 (i := 0) rfl rfl ?_
      refine T_getR X (kf := 27) cb10 kv0 (by decide) fl_X10_58 (fun _ _ _ => rfl) dX10_begins_127 ?_
      refine J_bipush X (v := (6 : Int32)) dX10_begins_130 (by decide) ?_
      refine J_aload_n X dX10_begins_132 (i := 0) rfl rfl ?_
      refine T_getI X (kf := 18) cb10 kv0 (by decide) fl_X10_239 (fun _ _ _ => rfl) dX10_begins_133 ?_
      refine J_imul X dX10_begins_136 ?_
      refine J_iload_n X dX10_begins_137 (i := 1) rfl rfl ?_
      refine J_iadd X dX10_begins_138 ?_
      refine T_iald X (wS4.1 _ _ kv0 27 _ rfl) dX10_begins_139 (fun j5 => ?_)
      refine T_iast X (wS4.1 _ _ kv0 52 _ rfl) dX10_begins_140 (fun j6 S7 hS7 => ?_)
      have wS7 : WT (kDn K) S7.2.2 := by rw [hS7]; exact wS4
      clear hS7
      refine J_nmv (v1 + (1 : Int32)) (fun x8 ex8 => ?_)
      refine J_iinc X (v := x8) (ls' := [some (.ref v0), some (.int x8), none]) dX10_begins_141 (by decide) rfl (by rw [ex8]; rfl) rfl ?_
      refine J_goto X (tgt := 82) dX10_begins_144 (by decide) ?_
      exact ih v0 kv0 x8 S7 wS7
set_option maxRecDepth 20000 in
def b_X10_begins_38 (q23 : Nat → Int32 → St → Option (Unit × St)) : Nat → Nat → Int32 → Int32 → St → Option (Unit × St)
  | 0, _, _, _, _ => none
  | fu + 1, v0, v1, v2, S => if (16 : Int32) ≤ v2 then (nm (v1 + (1 : Int32)) fun x1 => q23 v0 x1 S) else ((ix ((((16 : Int32) * (S.1 v0 18)) + v2) + v1) 32).bind fun j2 => (ix (v2 + v1) 55).bind fun j3 => nm (sI S (S.2.2 v0 52) j3 (S.1 (S.2.2 v0 24) j2)) fun S4 => nm (v2 + (4 : Int32)) fun x5 => b_X10_begins_38 q23 fu v0 v1 x5 S4)
set_option maxRecDepth 20000 in
theorem t_X10_begins_38 {K : KK} (X : CX K cX10_begins 3 RX10 none) (hR : kR K = rmD 0) {q23 : Nat → Int32 → St → Option (Unit × St)} (hq23 : ∀ (v0 : Nat) (kv0 : KA (kDn K) v0 (0, 10)) (v1 : Int32) (S : St), WT (kDn K) S.2.2 → JX K (Zm K (fun _ : Unit => none)) 23 [some (.ref v0), some (.int v1), none] [] (rwN (kN K) S) (kn K) 0 0 (q23 v0 v1 S)) : ∀ (fu : Nat) (v0 : Nat) (kv0 : KA (kDn K) v0 (0, 10)) (v1 : Int32) (v2 : Int32) (S : St), WT (kDn K) S.2.2 → JX K (Zm K (fun _ : Unit => none)) 38 [some (.ref v0), some (.int v1), some (.int v2)] [] (rwN (kN K) S) (kn K) 0 0 (b_X10_begins_38 q23 fu v0 v1 v2 S) := by
  intro fu
  induction fu with
  | zero => intro v0 kv0 v1 v2 S w; exact J_none
  | succ fu ih =>
    intro v0 kv0 v1 v2 S w
    rw [b_X10_begins_38]
    refine J_iload_n X dX10_begins_38 (i := 2) rfl rfl ?_
    refine J_bipush X (v := (16 : Int32)) dX10_begins_39 (by decide) ?_
    refine J_icmp_ge X (tgt := 74) dX10_begins_41 (by decide) ?_ ?_
    · refine J_nmv (v1 + (1 : Int32)) (fun x1 ex1 => ?_)
      refine J_iinc X (v := x1) (ls' := [some (.ref v0), some (.int x1), some (.int v2)]) dX10_begins_74 (by decide) rfl (by rw [ex1]; rfl) rfl ?_
      refine J_goto X (tgt := 23) dX10_begins_77 (by decide) ?_
      refine J_mask [true, true, false] ?_
      exact hq23 v0 kv0 x1 S w
    · refine J_aload_n X dX10_begins_44 (i := 0) rfl rfl ?_
      refine T_getR X (kf := 52) cb10 kv0 (by decide) fl_X10_122 (fun _ _ _ => rfl) dX10_begins_45 ?_
      refine J_iload_n X dX10_begins_48 (i := 2) rfl rfl ?_
      refine J_iload_n X dX10_begins_49 (i := 1) rfl rfl ?_
      refine J_iadd X dX10_begins_50 ?_
      refine J_aload_n X dX10_begins_51 (i := 0) rfl rfl ?_
      refine T_getR X (kf := 24) cb10 kv0 (by decide) fl_X10_49 (fun _ _ _ => rfl) dX10_begins_52 ?_
      refine J_bipush X (v := (16 : Int32)) dX10_begins_55 (by decide) ?_
      refine J_aload_n X dX10_begins_57 (i := 0) rfl rfl ?_
      refine T_getI X (kf := 18) cb10 kv0 (by decide) fl_X10_239 (fun _ _ _ => rfl) dX10_begins_58 ?_
      refine J_imul X dX10_begins_61 ?_
      refine J_iload_n X dX10_begins_62 (i := 2) rfl rfl ?_
      refine J_iadd X dX10_begins_63 ?_
      refine J_iload_n X dX10_begins_64 (i := 1) rfl rfl ?_
      refine J_iadd X dX10_begins_65 ?_
      refine T_iald X (w.1 _ _ kv0 24 _ rfl) dX10_begins_66 (fun j2 => ?_)
      refine T_iast X (w.1 _ _ kv0 52 _ rfl) dX10_begins_67 (fun j3 S4 hS4 => ?_)
      have wS4 : WT (kDn K) S4.2.2 := by rw [hS4]; exact w
      clear hS4
      refine J_nmv (v2 + (4 : Int32)) (fun x5 ex5 => ?_)
      refine J_iinc X (v := x5) (ls' := [some (.ref v0), some (.int v1), some (.int x5)]) dX10_begins_68 (by decide) rfl (by rw [ex5]; rfl) rfl ?_
      refine J_goto X (tgt := 38) dX10_begins_71 (by decide) ?_
      exact ih v0 kv0 v1 x5 S4 wS4
set_option maxRecDepth 20000 in
def b_X10_begins_23 : Nat → Nat → Int32 → St → Option (Unit × St)
  | 0, _, _, _ => none
  | fu + 1, v0, v1, S => (ix (S.1 v0 18) 2).bind fun j1 => if (S.1 (S.2.2 v0 23) j1) ≤ v1 then (b_X10_begins_82 FU v0 (0 : Int32) S) else (b_X10_begins_38 (b_X10_begins_23 fu) FU v0 v1 (0 : Int32) S)
set_option maxRecDepth 20000 in
theorem t_X10_begins_23 {K : KK} (X : CX K cX10_begins 3 RX10 none) (hR : kR K = rmD 0) : ∀ (fu : Nat) (v0 : Nat) (kv0 : KA (kDn K) v0 (0, 10)) (v1 : Int32) (S : St), WT (kDn K) S.2.2 → JX K (Zm K (fun _ : Unit => none)) 23 [some (.ref v0), some (.int v1), none] [] (rwN (kN K) S) (kn K) 0 0 (b_X10_begins_23 fu v0 v1 S) := by
  intro fu
  induction fu with
  | zero => intro v0 kv0 v1 S w; exact J_none
  | succ fu ih =>
    intro v0 kv0 v1 S w
    rw [b_X10_begins_23]
    refine J_iload_n X dX10_begins_23 (i := 1) rfl rfl ?_
    refine J_aload_n X dX10_begins_24 (i := 0) rfl rfl ?_
    refine T_getR X (kf := 23) cb10 kv0 (by decide) fl_X10_46 (fun _ _ _ => rfl) dX10_begins_25 ?_
    refine J_aload_n X dX10_begins_28 (i := 0) rfl rfl ?_
    refine T_getI X (kf := 18) cb10 kv0 (by decide) fl_X10_239 (fun _ _ _ => rfl) dX10_begins_29 ?_
    refine T_iald X (w.1 _ _ kv0 23 _ rfl) dX10_begins_32 (fun j1 => ?_)
    refine J_icmp_ge X (tgt := 80) dX10_begins_33 (by decide) ?_ ?_
    · refine J_iconst X (v := (0 : Int32)) dX10_begins_80 (by decide) ?_
      refine J_istore_n X (i := 1) (ls' := [some (.ref v0), some (.int (0 : Int32)), none]) dX10_begins_81 rfl (by decide) rfl ?_
      exact t_X10_begins_82 X hR FU v0 kv0 (0 : Int32) S w
    · refine J_iconst X (v := (0 : Int32)) dX10_begins_36 (by decide) ?_
      refine J_istore_n X (i := 2) (ls' := [some (.ref v0), some (.int v1), some (.int (0 : Int32))]) dX10_begins_37 rfl (by decide) rfl ?_
      exact t_X10_begins_38 X hR ih FU v0 kv0 v1 (0 : Int32) S w
set_option maxRecDepth 20000 in
def b_X10_begins_2 : Nat → Nat → Int32 → St → Option (Unit × St)
  | 0, _, _, _ => none
  | fu + 1, v0, v1, S => if (55 : Int32) ≤ v1 then (b_X10_begins_23 FU v0 (0 : Int32) S) else ((ix v1 55).bind fun j1 => nm (sI S (S.2.2 v0 52) j1 (0 : Int32)) fun S2 => nm (v1 + (1 : Int32)) fun x3 => b_X10_begins_2 fu v0 x3 S2)
set_option maxRecDepth 20000 in
theorem t_X10_begins_2 {K : KK} (X : CX K cX10_begins 3 RX10 none) (hR : kR K = rmD 0) : ∀ (fu : Nat) (v0 : Nat) (kv0 : KA (kDn K) v0 (0, 10)) (v1 : Int32) (S : St), WT (kDn K) S.2.2 → JX K (Zm K (fun _ : Unit => none)) 2 [some (.ref v0), some (.int v1), none] [] (rwN (kN K) S) (kn K) 0 0 (b_X10_begins_2 fu v0 v1 S) := by
  intro fu
  induction fu with
  | zero => intro v0 kv0 v1 S w; exact J_none
  | succ fu ih =>
    intro v0 kv0 v1 S w
    rw [b_X10_begins_2]
    refine J_iload_n X dX10_begins_2 (i := 1) rfl rfl ?_
    refine J_bipush X (v := (55 : Int32)) dX10_begins_3 (by decide) ?_
    refine J_icmp_ge X (tgt := 21) dX10_begins_5 (by decide) ?_ ?_
    · refine J_iconst X (v := (0 : Int32)) dX10_begins_21 (by decide) ?_
      refine J_istore_n X (i := 1) (ls' := [some (.ref v0), some (.int (0 : Int32)), none]) dX10_begins_22 rfl (by decide) rfl ?_
      exact t_X10_begins_23 X hR FU v0 kv0 (0 : Int32) S w
    · refine J_aload_n X dX10_begins_8 (i := 0) rfl rfl ?_
      refine T_getR X (kf := 52) cb10 kv0 (by decide) fl_X10_122 (fun _ _ _ => rfl) dX10_begins_9 ?_
      refine J_iload_n X dX10_begins_12 (i := 1) rfl rfl ?_
      refine J_iconst X (v := (0 : Int32)) dX10_begins_13 (by decide) ?_
      refine T_iast X (w.1 _ _ kv0 52 _ rfl) dX10_begins_14 (fun j1 S2 hS2 => ?_)
      have wS2 : WT (kDn K) S2.2.2 := by rw [hS2]; exact w
      clear hS2
      refine J_nmv (v1 + (1 : Int32)) (fun x3 ex3 => ?_)
      refine J_iinc X (v := x3) (ls' := [some (.ref v0), some (.int x3), none]) dX10_begins_15 (by decide) rfl (by rw [ex3]; rfl) rfl ?_
      refine J_goto X (tgt := 2) dX10_begins_18 (by decide) ?_
      exact ih v0 kv0 x3 S2 wS2
set_option maxRecDepth 20000 in
def f_X10_begins (v0 : Nat) (S : St) : Option (Unit × St) := b_X10_begins_2 FU v0 (0 : Int32) S
set_option maxRecDepth 20000 in
theorem t_X10_begins_0 {K : KK} (X : CX K cX10_begins 3 RX10 none) (hR : kR K = rmD 0) (v0 : Nat) (kv0 : KA (kDn K) v0 (0, 10)) (S : St) (w : WT (kDn K) S.2.2) : JX K (Zm K (fun _ : Unit => none)) 0 [some (.ref v0), none, none] [] (rwN (kN K) S) (kn K) 0 0 (f_X10_begins v0 S) := by
  unfold f_X10_begins
  refine J_iconst X (v := (0 : Int32)) dX10_begins_0 (by decide) ?_
  refine J_istore_n X (i := 1) (ls' := [some (.ref v0), some (.int (0 : Int32)), none]) dX10_begins_1 rfl (by decide) rfl ?_
  exact t_X10_begins_2 X hR FU v0 kv0 (0 : Int32) S w
theorem C_X10_begins (G : GG) (v0 : Nat) (kv0 : KA (gD G) v0 (0, 10)) (S : St) : CM G yX10_begins cX10_begins 3 none 0 [.ref v0] S (fun _ : Unit => none) (f_X10_begins v0 S) :=
  CM_of (by decide) (Nat.le_of_ble_eq_true rfl) rfl (fun K hG X hR w => by subst hG; exact t_X10_begins_0 X hR v0 kv0 S w)
-- ==== X10_keepsRow
theorem hy_X10_keepsRow : yX10_keepsRow.cls ≠ "java/lang/invoke/MethodHandle" ∧ yX10_keepsRow.cls ≠ "java/lang/invoke/VarHandle" ∧ (parseMethodDescriptor yX10_keepsRow.desc).map (fun d => d.parameters.length) = some 0 := by decide +kernel
set_option maxRecDepth 20000 in
def b_X10_keepsRow_2 : Nat → Nat → Int32 → St → Option (Unit × St)
  | 0, _, _, _ => none
  | fu + 1, v0, v1, S => if (55 : Int32) ≤ v1 then (some ((), S)) else ((ix v1 55).bind fun j1 => (ix v1 55).bind fun j2 => nm (sI S (S.2.2 v0 51) j2 (S.1 (S.2.2 v0 52) j1)) fun S3 => nm (v1 + (1 : Int32)) fun x4 => b_X10_keepsRow_2 fu v0 x4 S3)
set_option maxRecDepth 20000 in
theorem t_X10_keepsRow_2 {K : KK} (X : CX K cX10_keepsRow 2 RX10 none) (hR : kR K = rmD 0) : ∀ (fu : Nat) (v0 : Nat) (kv0 : KA (kDn K) v0 (0, 10)) (v1 : Int32) (S : St), WT (kDn K) S.2.2 → JX K (Zm K (fun _ : Unit => none)) 2 [some (.ref v0), some (.int v1)] [] (rwN (kN K) S) (kn K) 0 0 (b_X10_keepsRow_2 fu v0 v1 S) := by
  intro fu
  induction fu with
  | zero => intro v0 kv0 v1 S w; exact J_none
  | succ fu ih =>
    intro v0 kv0 v1 S w
    rw [b_X10_keepsRow_2]
    refine J_iload_n X dX10_keepsRow_2 (i := 1) rfl rfl ?_
    refine J_bipush X (v := (55 : Int32)) dX10_keepsRow_3 (by decide) ?_
    refine J_icmp_ge X (tgt := 26) dX10_keepsRow_5 (by decide) ?_ ?_
    · exact T_vret w X dX10_keepsRow_26
    · refine J_aload_n X dX10_keepsRow_8 (i := 0) rfl rfl ?_
      refine T_getR X (kf := 51) cb10 kv0 (by decide) fl_X10_119 (fun _ _ _ => rfl) dX10_keepsRow_9 ?_
      refine J_iload_n X dX10_keepsRow_12 (i := 1) rfl rfl ?_
      refine J_aload_n X dX10_keepsRow_13 (i := 0) rfl rfl ?_
      refine T_getR X (kf := 52) cb10 kv0 (by decide) fl_X10_122 (fun _ _ _ => rfl) dX10_keepsRow_14 ?_
      refine J_iload_n X dX10_keepsRow_17 (i := 1) rfl rfl ?_
      refine T_iald X (w.1 _ _ kv0 52 _ rfl) dX10_keepsRow_18 (fun j1 => ?_)
      refine T_iast X (w.1 _ _ kv0 51 _ rfl) dX10_keepsRow_19 (fun j2 S3 hS3 => ?_)
      have wS3 : WT (kDn K) S3.2.2 := by rw [hS3]; exact w
      clear hS3
      refine J_nmv (v1 + (1 : Int32)) (fun x4 ex4 => ?_)
      refine J_iinc X (v := x4) (ls' := [some (.ref v0), some (.int x4)]) dX10_keepsRow_20 (by decide) rfl (by rw [ex4]; rfl) rfl ?_
      refine J_goto X (tgt := 2) dX10_keepsRow_23 (by decide) ?_
      exact ih v0 kv0 x4 S3 wS3
set_option maxRecDepth 20000 in
def f_X10_keepsRow (v0 : Nat) (S : St) : Option (Unit × St) := b_X10_keepsRow_2 FU v0 (0 : Int32) S
set_option maxRecDepth 20000 in
theorem t_X10_keepsRow_0 {K : KK} (X : CX K cX10_keepsRow 2 RX10 none) (hR : kR K = rmD 0) (v0 : Nat) (kv0 : KA (kDn K) v0 (0, 10)) (S : St) (w : WT (kDn K) S.2.2) : JX K (Zm K (fun _ : Unit => none)) 0 [some (.ref v0), none] [] (rwN (kN K) S) (kn K) 0 0 (f_X10_keepsRow v0 S) := by
  unfold f_X10_keepsRow
  refine J_iconst X (v := (0 : Int32)) dX10_keepsRow_0 (by decide) ?_
  refine J_istore_n X (i := 1) (ls' := [some (.ref v0), some (.int (0 : Int32))]) dX10_keepsRow_1 rfl (by decide) rfl ?_
  exact t_X10_keepsRow_2 X hR FU v0 kv0 (0 : Int32) S w
theorem C_X10_keepsRow (G : GG) (v0 : Nat) (kv0 : KA (gD G) v0 (0, 10)) (S : St) : CM G yX10_keepsRow cX10_keepsRow 2 none 0 [.ref v0] S (fun _ : Unit => none) (f_X10_keepsRow v0 S) :=
  CM_of (by decide) (Nat.le_of_ble_eq_true rfl) rfl (fun K hG X hR w => by subst hG; exact t_X10_keepsRow_0 X hR v0 kv0 S w)
-- ==== X10_read
theorem hy_X10_read : yX10_read.cls ≠ "java/lang/invoke/MethodHandle" ∧ yX10_read.cls ≠ "java/lang/invoke/VarHandle" ∧ (parseMethodDescriptor yX10_read.desc).map (fun d => d.parameters.length) = some 0 := by decide +kernel
set_option maxRecDepth 20000 in
def b_X10_read_219 : Nat → Nat → Int32 → St → Option (Int32 × St)
  | 0, _, _, _ => none
  | fu + 1, v0, v1, S => if (3 : Int32) ≤ v1 then (some ((0 : Int32), S)) else ((ix v1 3).bind fun j1 => nm (sI S (S.2.2 v0 69) j1 (vp_nar .boolean (0 : Int32))) fun S2 => nm (v1 + (1 : Int32)) fun x3 => b_X10_read_219 fu v0 x3 S2)
set_option maxRecDepth 20000 in
theorem t_X10_read_219 {K : KK} (X : CX K cX10_read 2 RX10 (some .int)) (hR : kR K = rmD 7) : ∀ (fu : Nat) (v0 : Nat) (kv0 : KA (kDn K) v0 (0, 10)) (v1 : Int32) (S : St), WT (kDn K) S.2.2 → JX K (Zm K (fun v : Int32 => some (.int v))) 219 [some (.ref v0), some (.int v1)] [] (rwN (kN K) S) (kn K) 0 0 (b_X10_read_219 fu v0 v1 S) := by
  intro fu
  induction fu with
  | zero => intro v0 kv0 v1 S w; exact J_none
  | succ fu ih =>
    intro v0 kv0 v1 S w
    rw [b_X10_read_219]
    refine J_iload_n X dX10_read_219 (i := 1) rfl rfl ?_
    refine J_iconst X (v := (3 : Int32)) dX10_read_220 (by decide) ?_
    refine J_icmp_ge X (tgt := 237) dX10_read_221 (by decide) ?_ ?_
    · refine J_iconst X (v := (0 : Int32)) dX10_read_237 (by decide) ?_
      exact T_iret w X dX10_read_238
    · refine J_aload_n X dX10_read_224 (i := 0) rfl rfl ?_
      refine T_getR X (kf := 69) cb10 kv0 (by decide) fl_X10_152 (fun _ _ _ => rfl) dX10_read_225 ?_
      refine J_iload_n X dX10_read_228 (i := 1) rfl rfl ?_
      refine J_iconst X (v := (0 : Int32)) dX10_read_229 (by decide) ?_
      refine T_zast X (w.1 _ _ kv0 69 _ rfl) dX10_read_230 (fun j1 S2 hS2 => ?_)
      have wS2 : WT (kDn K) S2.2.2 := by rw [hS2]; exact w
      clear hS2
      refine J_nmv (v1 + (1 : Int32)) (fun x3 ex3 => ?_)
      refine J_iinc X (v := x3) (ls' := [some (.ref v0), some (.int x3)]) dX10_read_231 (by decide) rfl (by rw [ex3]; rfl) rfl ?_
      refine J_goto X (tgt := 219) dX10_read_234 (by decide) ?_
      exact ih v0 kv0 x3 S2 wS2
set_option maxRecDepth 20000 in
def b_X10_read_164 (v0 : Nat) (s0 : Nat) (s1 : Int32) (S : St) : Option (Int32 × St) := nm (sI S s0 17 s1) fun S1 => if (S1.1 v0 13) ≤ 0 then (if (S1.1 v0 15) ≤ 0 then (nm (sI S1 v0 18 (S1.1 v0 19)) fun S2 => bd (f_X10_begins v0 S2) fun _ S3 => bd (f_X10_keepsRow v0 S3) fun _ S5 => nm (sI S5 v0 61 (0 : Int32)) fun S7 => nm (sI S7 v0 64 (0 : Int32)) fun S8 => b_X10_read_219 FU v0 (0 : Int32) S8) else (some (S1.1 v0 15, S1))) else (some (S1.1 v0 13, S1))
set_option maxRecDepth 20000 in
theorem t_X10_read_164 {K : KK} (X : CX K cX10_read 2 RX10 (some .int)) (hR : kR K = rmD 7) (v0 : Nat) (kv0 : KA (kDn K) v0 (0, 10)) (s0 : Nat) (ks0 : KA (kDn K) s0 (0, 10)) (s1 : Int32) (S : St) (w : WT (kDn K) S.2.2) : JX K (Zm K (fun v : Int32 => some (.int v))) 164 [some (.ref v0), none] [.int s1, .ref s0] (rwN (kN K) S) (kn K) 0 0 (b_X10_read_164 v0 s0 s1 S) := by
  unfold b_X10_read_164
  refine T_putI X (kf := 17) cb10 ks0 (by decide) fl_X10_37 (fun _ _ _ => rfl) rfl rfl rfl dX10_read_164 (fun S1 hS1 => ?_)
  have wS1 : WT (kDn K) S1.2.2 := by rw [hS1]; exact w
  clear hS1
  refine J_aload_n X dX10_read_167 (i := 0) rfl rfl ?_
  refine T_getI X (kf := 13) cb10 kv0 (by decide) fl_X10_209 (fun _ _ _ => rfl) dX10_read_168 ?_
  refine J_if_le X (tgt := 179) dX10_read_171 (by decide) ?_ ?_
  · refine J_aload_n X dX10_read_179 (i := 0) rfl rfl ?_
    refine T_getI X (kf := 15) cb10 kv0 (by decide) fl_X10_218 (fun _ _ _ => rfl) dX10_read_180 ?_
    refine J_if_le X (tgt := 191) dX10_read_183 (by decide) ?_ ?_
    · refine J_aload_n X dX10_read_191 (i := 0) rfl rfl ?_
      refine J_aload_n X dX10_read_192 (i := 0) rfl rfl ?_
      refine T_getI X (kf := 19) cb10 kv0 (by decide) fl_X10_242 (fun _ _ _ => rfl) dX10_read_193 ?_
      refine T_putI X (kf := 18) cb10 kv0 (by decide) fl_X10_239 (fun _ _ _ => rfl) rfl rfl rfl dX10_read_196 (fun S2 hS2 => ?_)
      have wS2 : WT (kDn K) S2.2.2 := by rw [hS2]; exact wS1
      clear hS2
      refine J_aload_n X dX10_read_199 (i := 0) rfl rfl ?_
      refine T_callV (As := []) wS2 X (C_X10_begins (kG K) v0 kv0 S2) cb10 kv0 ml_X10_166 in_yX10_begins se_yX10_begins ii_RX10 co_yX10_begins hy_X10_begins (hRd hR (by decide) (by decide)) rfl (Nat.le_of_ble_eq_true rfl) dX10_read_200 (fun _ S3 _ wS3 => ?_)
      refine J_aload_n X dX10_read_203 (i := 0) rfl rfl ?_
      refine T_callV (As := []) wS3 X (C_X10_keepsRow (kG K) v0 kv0 S3) cb10 kv0 ml_X10_169 in_yX10_keepsRow se_yX10_keepsRow ii_RX10 co_yX10_keepsRow hy_X10_keepsRow (hRd hR (by decide) (by decide)) rfl (Nat.le_of_ble_eq_true rfl) dX10_read_204 (fun _ S5 _ wS5 => ?_)
      refine J_aload_n X dX10_read_207 (i := 0) rfl rfl ?_
      refine J_iconst X (v := (0 : Int32)) dX10_read_208 (by decide) ?_
      refine T_putI X (kf := 61) cb10 kv0 (by decide) fl_X10_257 (fun _ _ _ => rfl) rfl rfl rfl dX10_read_209 (fun S7 hS7 => ?_)
      have wS7 : WT (kDn K) S7.2.2 := by rw [hS7]; exact wS5
      clear hS7
      refine J_aload_n X dX10_read_212 (i := 0) rfl rfl ?_
      refine J_iconst X (v := (0 : Int32)) dX10_read_213 (by decide) ?_
      refine T_putI X (kf := 64) cb10 kv0 (by decide) fl_X10_260 (fun _ _ _ => rfl) rfl rfl rfl dX10_read_214 (fun S8 hS8 => ?_)
      have wS8 : WT (kDn K) S8.2.2 := by rw [hS8]; exact wS7
      clear hS8
      refine J_iconst X (v := (0 : Int32)) dX10_read_217 (by decide) ?_
      refine J_istore_n X (i := 1) (ls' := [some (.ref v0), some (.int (0 : Int32))]) dX10_read_218 rfl (by decide) rfl ?_
      exact t_X10_read_219 X hR FU v0 kv0 (0 : Int32) S8 wS8
    · refine J_aload_n X dX10_read_186 (i := 0) rfl rfl ?_
      refine T_getI X (kf := 15) cb10 kv0 (by decide) fl_X10_218 (fun _ _ _ => rfl) dX10_read_187 ?_
      exact T_iret wS1 X dX10_read_190
  · refine J_aload_n X dX10_read_174 (i := 0) rfl rfl ?_
    refine T_getI X (kf := 13) cb10 kv0 (by decide) fl_X10_209 (fun _ _ _ => rfl) dX10_read_175 ?_
    exact T_iret wS1 X dX10_read_178
set_option maxRecDepth 20000 in
def b_X10_read_134 (v0 : Nat) (S : St) : Option (Int32 × St) := if (S.1 v0 13) ≤ 0 then (if (S.1 v0 15) ≤ 0 then (b_X10_read_164 v0 v0 (-1 : Int32) S) else (b_X10_read_164 v0 v0 (S.1 v0 16) S)) else (b_X10_read_164 v0 v0 (S.1 v0 14) S)
set_option maxRecDepth 20000 in
theorem t_X10_read_134 {K : KK} (X : CX K cX10_read 2 RX10 (some .int)) (hR : kR K = rmD 7) (v0 : Nat) (kv0 : KA (kDn K) v0 (0, 10)) (S : St) (w : WT (kDn K) S.2.2) : JX K (Zm K (fun v : Int32 => some (.int v))) 134 [some (.ref v0), none] [] (rwN (kN K) S) (kn K) 0 0 (b_X10_read_134 v0 S) := by
  unfold b_X10_read_134
  refine J_aload_n X dX10_read_134 (i := 0) rfl rfl ?_
  refine J_aload_n X dX10_read_135 (i := 0) rfl rfl ?_
  refine T_getI X (kf := 13) cb10 kv0 (by decide) fl_X10_209 (fun _ _ _ => rfl) dX10_read_136 ?_
  refine J_if_le X (tgt := 149) dX10_read_139 (by decide) ?_ ?_
  · refine J_aload_n X dX10_read_149 (i := 0) rfl rfl ?_
    refine T_getI X (kf := 15) cb10 kv0 (by decide) fl_X10_218 (fun _ _ _ => rfl) dX10_read_150 ?_
    refine J_if_le X (tgt := 163) dX10_read_153 (by decide) ?_ ?_
    · refine J_iconst X (v := (-1 : Int32)) dX10_read_163 (by decide) ?_
      exact t_X10_read_164 X hR v0 kv0 v0 kv0 (-1 : Int32) S w
    · refine J_aload_n X dX10_read_156 (i := 0) rfl rfl ?_
      refine T_getI X (kf := 16) cb10 kv0 (by decide) fl_X10_221 (fun _ _ _ => rfl) dX10_read_157 ?_
      refine J_goto X (tgt := 164) dX10_read_160 (by decide) ?_
      exact t_X10_read_164 X hR v0 kv0 v0 kv0 (S.1 v0 16) S w
  · refine J_aload_n X dX10_read_142 (i := 0) rfl rfl ?_
    refine T_getI X (kf := 14) cb10 kv0 (by decide) fl_X10_215 (fun _ _ _ => rfl) dX10_read_143 ?_
    refine J_goto X (tgt := 164) dX10_read_146 (by decide) ?_
    exact t_X10_read_164 X hR v0 kv0 v0 kv0 (S.1 v0 14) S w
set_option maxRecDepth 20000 in
def b_X10_read_112 : Nat → Nat → St → Option (Int32 × St)
  | 0, _, _ => none
  | fu + 1, v0, S => if (S.1 v0 13) = 0 then (bd (f_X10_is v0 (0 : Int32) S) fun r2 S1 => if r2 = 0 then (bd (f_X10_tellOne v0 S1) fun _ S3 => b_X10_read_112 fu v0 S3) else (b_X10_read_134 v0 S1)) else (b_X10_read_134 v0 S)
set_option maxRecDepth 20000 in
theorem t_X10_read_112 {K : KK} (X : CX K cX10_read 2 RX10 (some .int)) (hR : kR K = rmD 7) : ∀ (fu : Nat) (v0 : Nat) (kv0 : KA (kDn K) v0 (0, 10)) (S : St), WT (kDn K) S.2.2 → JX K (Zm K (fun v : Int32 => some (.int v))) 112 [some (.ref v0), none] [] (rwN (kN K) S) (kn K) 0 0 (b_X10_read_112 fu v0 S) := by
  intro fu
  induction fu with
  | zero => intro v0 kv0 S w; exact J_none
  | succ fu ih =>
    intro v0 kv0 S w
    rw [b_X10_read_112]
    refine J_aload_n X dX10_read_112 (i := 0) rfl rfl ?_
    refine T_getI X (kf := 13) cb10 kv0 (by decide) fl_X10_209 (fun _ _ _ => rfl) dX10_read_113 ?_
    refine J_if_ne X (tgt := 134) dX10_read_116 (by decide) ?_ ?_
    · refine J_aload_n X dX10_read_119 (i := 0) rfl rfl ?_
      refine J_iconst X (v := (0 : Int32)) dX10_read_120 (by decide) ?_
      refine T_callV (As := [.int (0 : Int32)]) w X (C_X10_is (kG K) v0 kv0 (0 : Int32) S) cb10 kv0 ml_X10_227 in_yX10_is se_yX10_is ii_RX10 co_yX10_is hy_X10_is (hRd hR (by decide) (by decide)) rfl (Nat.le_of_ble_eq_true rfl) dX10_read_121 (fun r2 S1 _ wS1 => ?_)
      refine J_if_ne X (tgt := 134) dX10_read_124 (by decide) ?_ ?_
      · refine J_aload_n X dX10_read_127 (i := 0) rfl rfl ?_
        refine T_callV (As := []) wS1 X (C_X10_tellOne (kG K) v0 kv0 S1) cb10 kv0 ml_X10_254 in_yX10_tellOne se_yX10_tellOne ii_RX10 co_yX10_tellOne hy_X10_tellOne (hRd hR (by decide) (by decide)) rfl (Nat.le_of_ble_eq_true rfl) dX10_read_128 (fun _ S3 _ wS3 => ?_)
        refine J_goto X (tgt := 112) dX10_read_131 (by decide) ?_
        exact ih v0 kv0 S3 wS3
      · exact t_X10_read_134 X hR v0 kv0 S1 wS1
    · exact t_X10_read_134 X hR v0 kv0 S w
set_option maxRecDepth 20000 in
def b_X10_read_10 : Nat → Nat → Int32 → St → Option (Int32 × St)
  | 0, _, _, _ => none
  | fu + 1, v0, v1, S => if (S.1 v0 4) ≤ v1 then (nm (sI S v0 2 (0 : Int32)) fun S1 => bd (f_X10_cutsUp v0 S1) fun _ S2 => nm (sI S2 v0 11 (0 : Int32)) fun S4 => nm (sI S4 v0 12 (0 : Int32)) fun S5 => nm (sI S5 v0 13 (0 : Int32)) fun S6 => nm (sI S6 v0 15 (0 : Int32)) fun S7 => nm (sI S7 v0 19 ((1 : Int32) - (S7.1 v0 18))) fun S8 => nm (sI S8 v0 20 (0 : Int32)) fun S9 => bd (f_X10_plain v0 (S9.1 v0 19) S9) fun _ S10 => nm (sI S10 v0 37 ((130 : Int32) * (S10.1 v0 19))) fun S12 => nm (sI S12 v0 43 ((420 : Int32) * (S12.1 v0 19))) fun S13 => b_X10_read_112 FU v0 S13) else ((ix v1 2000).bind fun j14 => (ix v1 2000).bind fun j15 => nm (sI S (S.2.2 v0 3) j15 (vp_nar .byte (S.1 (S.2.2 v0 1) j14))) fun S16 => nm (v1 + (1 : Int32)) fun x17 => b_X10_read_10 fu v0 x17 S16)
set_option maxRecDepth 20000 in
theorem t_X10_read_10 {K : KK} (X : CX K cX10_read 2 RX10 (some .int)) (hR : kR K = rmD 7) : ∀ (fu : Nat) (v0 : Nat) (kv0 : KA (kDn K) v0 (0, 10)) (v1 : Int32) (S : St), WT (kDn K) S.2.2 → JX K (Zm K (fun v : Int32 => some (.int v))) 10 [some (.ref v0), some (.int v1)] [] (rwN (kN K) S) (kn K) 0 0 (b_X10_read_10 fu v0 v1 S) := by
  intro fu
  induction fu with
  | zero => intro v0 kv0 v1 S w; exact J_none
  | succ fu ih =>
    intro v0 kv0 v1 S w
    rw [b_X10_read_10]
    refine J_iload_n X dX10_read_10 (i := 1) rfl rfl ?_
    refine J_aload_n X dX10_read_11 (i := 0) rfl rfl ?_
    refine T_getI X (kf := 4) cb10 kv0 (by decide) fl_X10_178 (fun _ _ _ => rfl) dX10_read_12 ?_
    refine J_icmp_ge X (tgt := 36) dX10_read_15 (by decide) ?_ ?_
    · refine J_aload_n X dX10_read_36 (i := 0) rfl rfl ?_
      refine J_iconst X (v := (0 : Int32)) dX10_read_37 (by decide) ?_
      refine T_putI X (kf := 2) cb10 kv0 (by decide) fl_X10_172 (fun _ _ _ => rfl) rfl rfl rfl dX10_read_38 (fun S1 hS1 => ?_)
      have wS1 : WT (kDn K) S1.2.2 := by rw [hS1]; exact w
      clear hS1
      refine J_aload_n X dX10_read_41 (i := 0) rfl rfl ?_
      refine T_callV (As := []) wS1 X (C_X10_cutsUp (kG K) v0 kv0 S1) cb10 kv0 ml_X10_233 in_yX10_cutsUp se_yX10_cutsUp ii_RX10 co_yX10_cutsUp hy_X10_cutsUp (hRd hR (by decide) (by decide)) rfl (Nat.le_of_ble_eq_true rfl) dX10_read_42 (fun _ S2 _ wS2 => ?_)
      refine J_aload_n X dX10_read_45 (i := 0) rfl rfl ?_
      refine J_iconst X (v := (0 : Int32)) dX10_read_46 (by decide) ?_
      refine T_putI X (kf := 11) cb10 kv0 (by decide) fl_X10_212 (fun _ _ _ => rfl) rfl rfl rfl dX10_read_47 (fun S4 hS4 => ?_)
      have wS4 : WT (kDn K) S4.2.2 := by rw [hS4]; exact wS2
      clear hS4
      refine J_aload_n X dX10_read_50 (i := 0) rfl rfl ?_
      refine J_iconst X (v := (0 : Int32)) dX10_read_51 (by decide) ?_
      refine T_putI X (kf := 12) cb10 kv0 (by decide) fl_X10_236 (fun _ _ _ => rfl) rfl rfl rfl dX10_read_52 (fun S5 hS5 => ?_)
      have wS5 : WT (kDn K) S5.2.2 := by rw [hS5]; exact wS4
      clear hS5
      refine J_aload_n X dX10_read_55 (i := 0) rfl rfl ?_
      refine J_iconst X (v := (0 : Int32)) dX10_read_56 (by decide) ?_
      refine T_putI X (kf := 13) cb10 kv0 (by decide) fl_X10_209 (fun _ _ _ => rfl) rfl rfl rfl dX10_read_57 (fun S6 hS6 => ?_)
      have wS6 : WT (kDn K) S6.2.2 := by rw [hS6]; exact wS5
      clear hS6
      refine J_aload_n X dX10_read_60 (i := 0) rfl rfl ?_
      refine J_iconst X (v := (0 : Int32)) dX10_read_61 (by decide) ?_
      refine T_putI X (kf := 15) cb10 kv0 (by decide) fl_X10_218 (fun _ _ _ => rfl) rfl rfl rfl dX10_read_62 (fun S7 hS7 => ?_)
      have wS7 : WT (kDn K) S7.2.2 := by rw [hS7]; exact wS6
      clear hS7
      refine J_aload_n X dX10_read_65 (i := 0) rfl rfl ?_
      refine J_iconst X (v := (1 : Int32)) dX10_read_66 (by decide) ?_
      refine J_aload_n X dX10_read_67 (i := 0) rfl rfl ?_
      refine T_getI X (kf := 18) cb10 kv0 (by decide) fl_X10_239 (fun _ _ _ => rfl) dX10_read_68 ?_
      refine J_isub X dX10_read_71 ?_
      refine T_putI X (kf := 19) cb10 kv0 (by decide) fl_X10_242 (fun _ _ _ => rfl) rfl rfl rfl dX10_read_72 (fun S8 hS8 => ?_)
      have wS8 : WT (kDn K) S8.2.2 := by rw [hS8]; exact wS7
      clear hS8
      refine J_aload_n X dX10_read_75 (i := 0) rfl rfl ?_
      refine J_iconst X (v := (0 : Int32)) dX10_read_76 (by decide) ?_
      refine T_putI X (kf := 20) cb10 kv0 (by decide) fl_X10_245 (fun _ _ _ => rfl) rfl rfl rfl dX10_read_77 (fun S9 hS9 => ?_)
      have wS9 : WT (kDn K) S9.2.2 := by rw [hS9]; exact wS8
      clear hS9
      refine J_aload_n X dX10_read_80 (i := 0) rfl rfl ?_
      refine J_aload_n X dX10_read_81 (i := 0) rfl rfl ?_
      refine T_getI X (kf := 19) cb10 kv0 (by decide) fl_X10_242 (fun _ _ _ => rfl) dX10_read_82 ?_
      refine T_callV (As := [.int (S9.1 v0 19)]) wS9 X (C_X10_plain (kG K) v0 kv0 (S9.1 v0 19) S9) cb10 kv0 ml_X10_158 in_yX10_plain se_yX10_plain ii_RX10 co_yX10_plain hy_X10_plain (hRd hR (by decide) (by decide)) rfl (Nat.le_of_ble_eq_true rfl) dX10_read_85 (fun _ S10 _ wS10 => ?_)
      refine J_aload_n X dX10_read_88 (i := 0) rfl rfl ?_
      refine J_sipush X (v := (130 : Int32)) dX10_read_89 (by decide) ?_
      refine J_aload_n X dX10_read_92 (i := 0) rfl rfl ?_
      refine T_getI X (kf := 19) cb10 kv0 (by decide) fl_X10_242 (fun _ _ _ => rfl) dX10_read_93 ?_
      refine J_imul X dX10_read_96 ?_
      refine T_putI X (kf := 37) cb10 kv0 (by decide) fl_X10_248 (fun _ _ _ => rfl) rfl rfl rfl dX10_read_97 (fun S12 hS12 => ?_)
      have wS12 : WT (kDn K) S12.2.2 := by rw [hS12]; exact wS10
      clear hS12
      refine J_aload_n X dX10_read_100 (i := 0) rfl rfl ?_
      refine J_sipush X (v := (420 : Int32)) dX10_read_101 (by decide) ?_
      refine J_aload_n X dX10_read_104 (i := 0) rfl rfl ?_
      refine T_getI X (kf := 19) cb10 kv0 (by decide) fl_X10_242 (fun _ _ _ => rfl) dX10_read_105 ?_
      refine J_imul X dX10_read_108 ?_
      refine T_putI X (kf := 43) cb10 kv0 (by decide) fl_X10_251 (fun _ _ _ => rfl) rfl rfl rfl dX10_read_109 (fun S13 hS13 => ?_)
      have wS13 : WT (kDn K) S13.2.2 := by rw [hS13]; exact wS12
      clear hS13
      refine J_mask [true, false] ?_
      exact t_X10_read_112 X hR FU v0 kv0 S13 wS13
    · refine J_aload_n X dX10_read_18 (i := 0) rfl rfl ?_
      refine T_getR X (kf := 3) cb10 kv0 (by decide) fl_X10_17 (fun _ _ _ => rfl) dX10_read_19 ?_
      refine J_iload_n X dX10_read_22 (i := 1) rfl rfl ?_
      refine J_aload_n X dX10_read_23 (i := 0) rfl rfl ?_
      refine T_getR X (kf := 1) cb10 kv0 (by decide) fl_X10_13 (fun _ _ _ => rfl) dX10_read_24 ?_
      refine J_iload_n X dX10_read_27 (i := 1) rfl rfl ?_
      refine T_bald X (w.1 _ _ kv0 1 _ rfl) dX10_read_28 (fun j14 => ?_)
      refine T_bast X (w.1 _ _ kv0 3 _ rfl) dX10_read_29 (fun j15 S16 hS16 => ?_)
      have wS16 : WT (kDn K) S16.2.2 := by rw [hS16]; exact w
      clear hS16
      refine J_nmv (v1 + (1 : Int32)) (fun x17 ex17 => ?_)
      refine J_iinc X (v := x17) (ls' := [some (.ref v0), some (.int x17)]) dX10_read_30 (by decide) rfl (by rw [ex17]; rfl) rfl ?_
      refine J_goto X (tgt := 10) dX10_read_33 (by decide) ?_
      exact ih v0 kv0 x17 S16 wS16
set_option maxRecDepth 20000 in
def f_X10_read (v0 : Nat) (S : St) : Option (Int32 × St) := nm (sI S v0 4 (S.1 v0 2)) fun S1 => b_X10_read_10 FU v0 (0 : Int32) S1
set_option maxRecDepth 20000 in
theorem t_X10_read_0 {K : KK} (X : CX K cX10_read 2 RX10 (some .int)) (hR : kR K = rmD 7) (v0 : Nat) (kv0 : KA (kDn K) v0 (0, 10)) (S : St) (w : WT (kDn K) S.2.2) : JX K (Zm K (fun v : Int32 => some (.int v))) 0 [some (.ref v0), none] [] (rwN (kN K) S) (kn K) 0 0 (f_X10_read v0 S) := by
  unfold f_X10_read
  refine J_aload_n X dX10_read_0 (i := 0) rfl rfl ?_
  refine J_aload_n X dX10_read_1 (i := 0) rfl rfl ?_
  refine T_getI X (kf := 2) cb10 kv0 (by decide) fl_X10_172 (fun _ _ _ => rfl) dX10_read_2 ?_
  refine T_putI X (kf := 4) cb10 kv0 (by decide) fl_X10_178 (fun _ _ _ => rfl) rfl rfl rfl dX10_read_5 (fun S1 hS1 => ?_)
  have wS1 : WT (kDn K) S1.2.2 := by rw [hS1]; exact w
  clear hS1
  refine J_iconst X (v := (0 : Int32)) dX10_read_8 (by decide) ?_
  refine J_istore_n X (i := 1) (ls' := [some (.ref v0), some (.int (0 : Int32))]) dX10_read_9 rfl (by decide) rfl ?_
  exact t_X10_read_10 X hR FU v0 kv0 (0 : Int32) S1 wS1
theorem C_X10_read (G : GG) (v0 : Nat) (kv0 : KA (gD G) v0 (0, 10)) (S : St) : CM G yX10_read cX10_read 2 (some .int) 7 [.ref v0] S (fun v : Int32 => some (.int v)) (f_X10_read v0 S) :=
  CM_of (by decide) (Nat.le_of_ble_eq_true rfl) rfl (fun K hG X hR w => by subst hG; exact t_X10_read_0 X hR v0 kv0 S w)
-- ==== X10_place
theorem hy_X10_place : yX10_place.cls ≠ "java/lang/invoke/MethodHandle" ∧ yX10_place.cls ≠ "java/lang/invoke/VarHandle" ∧ (parseMethodDescriptor yX10_place.desc).map (fun d => d.parameters.length) = some 0 := by decide +kernel
set_option maxRecDepth 20000 in
def f_X10_place (v0 : Nat) (S : St) : Option (Int32 × St) := some (S.1 v0 17, S)
set_option maxRecDepth 20000 in
theorem t_X10_place_0 {K : KK} (X : CX K cX10_place 1 RX10 (some .int)) (hR : kR K = rmD 0) (v0 : Nat) (kv0 : KA (kDn K) v0 (0, 10)) (S : St) (w : WT (kDn K) S.2.2) : JX K (Zm K (fun v : Int32 => some (.int v))) 0 [some (.ref v0)] [] (rwN (kN K) S) (kn K) 0 0 (f_X10_place v0 S) := by
  unfold f_X10_place
  refine J_aload_n X dX10_place_0 (i := 0) rfl rfl ?_
  refine T_getI X (kf := 17) cb10 kv0 (by decide) fl_X10_37 (fun _ _ _ => rfl) dX10_place_1 ?_
  exact T_iret w X dX10_place_4
theorem C_X10_place (G : GG) (v0 : Nat) (kv0 : KA (gD G) v0 (0, 10)) (S : St) : CM G yX10_place cX10_place 1 (some .int) 0 [.ref v0] S (fun v : Int32 => some (.int v)) (f_X10_place v0 S) :=
  CM_of (by decide) (Nat.le_of_ble_eq_true rfl) rfl (fun K hG X hR w => by subst hG; exact t_X10_place_0 X hR v0 kv0 S w)
-- ==== X10_termOf
theorem hy_X10_termOf : yX10_termOf.cls ≠ "java/lang/invoke/MethodHandle" ∧ yX10_termOf.cls ≠ "java/lang/invoke/VarHandle" ∧ (parseMethodDescriptor yX10_termOf.desc).map (fun d => d.parameters.length) = some 2 := by decide +kernel
set_option maxRecDepth 20000 in
def b_X10_termOf_159 (q5 : Nat → Int32 → Int32 → Int32 → St → Option (Int32 × St)) (v0 : Nat) (v2 : Int32) (v3 : Int32) (v4 : Int32) (S : St) : Option (Int32 × St) := nm (v4 + (1 : Int32)) fun x1 => q5 v0 v2 v3 x1 S
set_option maxRecDepth 20000 in
theorem t_X10_termOf_159 {K : KK} (X : CX K cX10_termOf 8 RX10 (some .int)) (hR : kR K = rmD 0) {q5 : Nat → Int32 → Int32 → Int32 → St → Option (Int32 × St)} (hq5 : ∀ (v0 : Nat) (kv0 : KA (kDn K) v0 (0, 10)) (v2 : Int32) (v3 : Int32) (v4 : Int32) (S : St), WT (kDn K) S.2.2 → JX K (Zm K (fun v : Int32 => some (.int v))) 5 [some (.ref v0), none, some (.int v2), some (.int v3), some (.int v4), none, none, none] [] (rwN (kN K) S) (kn K) 0 0 (q5 v0 v2 v3 v4 S)) (v0 : Nat) (kv0 : KA (kDn K) v0 (0, 10)) (v2 : Int32) (v3 : Int32) (v4 : Int32) (S : St) (w : WT (kDn K) S.2.2) : JX K (Zm K (fun v : Int32 => some (.int v))) 159 [some (.ref v0), none, some (.int v2), some (.int v3), some (.int v4), none, none, none] [] (rwN (kN K) S) (kn K) 0 0 (b_X10_termOf_159 q5 v0 v2 v3 v4 S) := by
  unfold b_X10_termOf_159
  refine J_nmv (v4 + (1 : Int32)) (fun x1 ex1 => ?_)
  refine J_iinc X (v := x1) (ls' := [some (.ref v0), none, some (.int v2), some (.int v3), some (.int x1), none, none, none]) dX10_termOf_159 (by decide) rfl (by rw [ex1]; rfl) rfl ?_
  refine J_goto X (tgt := 5) dX10_termOf_162 (by decide) ?_
  exact hq5 v0 kv0 v2 v3 x1 S w
set_option maxRecDepth 20000 in
def b_X10_termOf_158 (q5 : Nat → Int32 → Int32 → Int32 → St → Option (Int32 × St)) (v0 : Nat) (v2 : Int32) (v3 : Int32) (v4 : Int32) (s0 : Nat) (s1 : Int32) (s2 : Int32) (S : St) : Option (Int32 × St) := (ix s1 400).bind fun j1 => nm (sI S s0 j1 s2) fun S2 => b_X10_termOf_159 q5 v0 v2 v3 v4 S2
set_option maxRecDepth 20000 in
theorem t_X10_termOf_158 {K : KK} (X : CX K cX10_termOf 8 RX10 (some .int)) (hR : kR K = rmD 0) {q5 : Nat → Int32 → Int32 → Int32 → St → Option (Int32 × St)} (hq5 : ∀ (v0 : Nat) (kv0 : KA (kDn K) v0 (0, 10)) (v2 : Int32) (v3 : Int32) (v4 : Int32) (S : St), WT (kDn K) S.2.2 → JX K (Zm K (fun v : Int32 => some (.int v))) 5 [some (.ref v0), none, some (.int v2), some (.int v3), some (.int v4), none, none, none] [] (rwN (kN K) S) (kn K) 0 0 (q5 v0 v2 v3 v4 S)) (v0 : Nat) (kv0 : KA (kDn K) v0 (0, 10)) (v2 : Int32) (v3 : Int32) (v4 : Int32) (s0 : Nat) (ks0 : KA (kDn K) s0 (1, 400)) (s1 : Int32) (s2 : Int32) (S : St) (w : WT (kDn K) S.2.2) : JX K (Zm K (fun v : Int32 => some (.int v))) 158 [some (.ref v0), none, some (.int v2), some (.int v3), some (.int v4), none, none, none] [.int s2, .int s1, .ref s0] (rwN (kN K) S) (kn K) 0 0 (b_X10_termOf_158 q5 v0 v2 v3 v4 s0 s1 s2 S) := by
  unfold b_X10_termOf_158
  refine T_iast X ks0 dX10_termOf_158 (fun j1 S2 hS2 => ?_)
  have wS2 : WT (kDn K) S2.2.2 := by rw [hS2]; exact w
  clear hS2
  exact t_X10_termOf_159 X hR hq5 v0 kv0 v2 v3 v4 S2 wS2
set_option maxRecDepth 20000 in
def b_X10_termOf_104 (q5 : Nat → Int32 → Int32 → Int32 → St → Option (Int32 × St)) (v0 : Nat) (v2 : Int32) (v3 : Int32) (v4 : Int32) (v5 : Int32) (v6 : Int32) (v7 : Int32) (S : St) : Option (Int32 × St) := if v5 = (2 : Int32) then (b_X10_termOf_158 q5 v0 v2 v3 v4 (S.2.2 v0 49) (v3 - (1 : Int32)) (v6 + v7) S) else (if v5 = (3 : Int32) then (b_X10_termOf_158 q5 v0 v2 v3 v4 (S.2.2 v0 49) (v3 - (1 : Int32)) (v6 - v7) S) else (if v5 = (4 : Int32) then (b_X10_termOf_158 q5 v0 v2 v3 v4 (S.2.2 v0 49) (v3 - (1 : Int32)) (v6 * v7) S) else (if v7 = 0 then none else b_X10_termOf_158 q5 v0 v2 v3 v4 (S.2.2 v0 49) (v3 - (1 : Int32)) (v6 / v7) S)))
set_option maxRecDepth 20000 in
theorem t_X10_termOf_104 {K : KK} (X : CX K cX10_termOf 8 RX10 (some .int)) (hR : kR K = rmD 0) {q5 : Nat → Int32 → Int32 → Int32 → St → Option (Int32 × St)} (hq5 : ∀ (v0 : Nat) (kv0 : KA (kDn K) v0 (0, 10)) (v2 : Int32) (v3 : Int32) (v4 : Int32) (S : St), WT (kDn K) S.2.2 → JX K (Zm K (fun v : Int32 => some (.int v))) 5 [some (.ref v0), none, some (.int v2), some (.int v3), some (.int v4), none, none, none] [] (rwN (kN K) S) (kn K) 0 0 (q5 v0 v2 v3 v4 S)) (v0 : Nat) (kv0 : KA (kDn K) v0 (0, 10)) (v2 : Int32) (v3 : Int32) (v4 : Int32) (v5 : Int32) (v6 : Int32) (v7 : Int32) (S : St) (w : WT (kDn K) S.2.2) : JX K (Zm K (fun v : Int32 => some (.int v))) 104 [some (.ref v0), none, some (.int v2), some (.int v3), some (.int v4), some (.int v5), some (.int v6), some (.int v7)] [] (rwN (kN K) S) (kn K) 0 0 (b_X10_termOf_104 q5 v0 v2 v3 v4 v5 v6 v7 S) := by
  unfold b_X10_termOf_104
  refine J_aload_n X dX10_termOf_104 (i := 0) rfl rfl ?_
  refine T_getR X (kf := 49) cb10 kv0 (by decide) fl_X10_116 (fun _ _ _ => rfl) dX10_termOf_105 ?_
  refine J_iload_n X dX10_termOf_108 (i := 3) rfl rfl ?_
  refine J_iconst X (v := (1 : Int32)) dX10_termOf_109 (by decide) ?_
  refine J_isub X dX10_termOf_110 ?_
  refine J_iload X dX10_termOf_111 rfl ?_
  refine J_iconst X (v := (2 : Int32)) dX10_termOf_113 (by decide) ?_
  refine J_icmp_ne X (tgt := 125) dX10_termOf_114 (by decide) ?_ ?_
  · refine J_iload X dX10_termOf_117 rfl ?_
    refine J_iload X dX10_termOf_119 rfl ?_
    refine J_iadd X dX10_termOf_121 ?_
    refine J_goto X (tgt := 158) dX10_termOf_122 (by decide) ?_
    refine J_mask [true, false, true, true, true, false, false, false] ?_
    exact t_X10_termOf_158 X hR hq5 v0 kv0 v2 v3 v4 (S.2.2 v0 49) (w.1 _ _ kv0 49 _ rfl) (v3 - (1 : Int32)) (v6 + v7) S w
  · refine J_iload X dX10_termOf_125 rfl ?_
    refine J_iconst X (v := (3 : Int32)) dX10_termOf_127 (by decide) ?_
    refine J_icmp_ne X (tgt := 139) dX10_termOf_128 (by decide) ?_ ?_
    · refine J_iload X dX10_termOf_131 rfl ?_
      refine J_iload X dX10_termOf_133 rfl ?_
      refine J_isub X dX10_termOf_135 ?_
      refine J_goto X (tgt := 158) dX10_termOf_136 (by decide) ?_
      refine J_mask [true, false, true, true, true, false, false, false] ?_
      exact t_X10_termOf_158 X hR hq5 v0 kv0 v2 v3 v4 (S.2.2 v0 49) (w.1 _ _ kv0 49 _ rfl) (v3 - (1 : Int32)) (v6 - v7) S w
    · refine J_iload X dX10_termOf_139 rfl ?_
      refine J_iconst X (v := (4 : Int32)) dX10_termOf_141 (by decide) ?_
      refine J_icmp_ne X (tgt := 153) dX10_termOf_142 (by decide) ?_ ?_
      · refine J_iload X dX10_termOf_145 rfl ?_
        refine J_iload X dX10_termOf_147 rfl ?_
        refine J_imul X dX10_termOf_149 ?_
        refine J_goto X (tgt := 158) dX10_termOf_150 (by decide) ?_
        refine J_mask [true, false, true, true, true, false, false, false] ?_
        exact t_X10_termOf_158 X hR hq5 v0 kv0 v2 v3 v4 (S.2.2 v0 49) (w.1 _ _ kv0 49 _ rfl) (v3 - (1 : Int32)) (v6 * v7) S w
      · refine J_iload X dX10_termOf_153 rfl ?_
        refine J_iload X dX10_termOf_155 rfl ?_
        refine J_idiv X dX10_termOf_157 ?_
        refine J_mask [true, false, true, true, true, false, false, false] ?_
        exact t_X10_termOf_158 X hR hq5 v0 kv0 v2 v3 v4 (S.2.2 v0 49) (w.1 _ _ kv0 49 _ rfl) (v3 - (1 : Int32)) (v6 / v7) S w
set_option maxRecDepth 20000 in
def b_X10_termOf_58 (q5 : Nat → Int32 → Int32 → Int32 → St → Option (Int32 × St)) (v0 : Nat) (v2 : Int32) (v3 : Int32) (v4 : Int32) (s0 : Nat) (s1 : Int32) (s2 : Int32) (S : St) : Option (Int32 × St) := (ix s1 400).bind fun j1 => nm (sI S s0 j1 s2) fun S2 => nm (v3 + (1 : Int32)) fun x3 => b_X10_termOf_159 q5 v0 v2 x3 v4 S2
set_option maxRecDepth 20000 in
theorem t_X10_termOf_58 {K : KK} (X : CX K cX10_termOf 8 RX10 (some .int)) (hR : kR K = rmD 0) {q5 : Nat → Int32 → Int32 → Int32 → St → Option (Int32 × St)} (hq5 : ∀ (v0 : Nat) (kv0 : KA (kDn K) v0 (0, 10)) (v2 : Int32) (v3 : Int32) (v4 : Int32) (S : St), WT (kDn K) S.2.2 → JX K (Zm K (fun v : Int32 => some (.int v))) 5 [some (.ref v0), none, some (.int v2), some (.int v3), some (.int v4), none, none, none] [] (rwN (kN K) S) (kn K) 0 0 (q5 v0 v2 v3 v4 S)) (v0 : Nat) (kv0 : KA (kDn K) v0 (0, 10)) (v2 : Int32) (v3 : Int32) (v4 : Int32) (s0 : Nat) (ks0 : KA (kDn K) s0 (1, 400)) (s1 : Int32) (s2 : Int32) (S : St) (w : WT (kDn K) S.2.2) : JX K (Zm K (fun v : Int32 => some (.int v))) 58 [some (.ref v0), none, some (.int v2), some (.int v3), some (.int v4), none, none, none] [.int s2, .int s1, .ref s0] (rwN (kN K) S) (kn K) 0 0 (b_X10_termOf_58 q5 v0 v2 v3 v4 s0 s1 s2 S) := by
  unfold b_X10_termOf_58
  refine T_iast X ks0 dX10_termOf_58 (fun j1 S2 hS2 => ?_)
  have wS2 : WT (kDn K) S2.2.2 := by rw [hS2]; exact w
  clear hS2
  refine J_nmv (v3 + (1 : Int32)) (fun x3 ex3 => ?_)
  refine J_iinc X (v := x3) (ls' := [some (.ref v0), none, some (.int v2), some (.int x3), some (.int v4), none, none, none]) dX10_termOf_59 (by decide) rfl (by rw [ex3]; rfl) rfl ?_
  refine J_goto X (tgt := 159) dX10_termOf_62 (by decide) ?_
  exact t_X10_termOf_159 X hR hq5 v0 kv0 v2 x3 v4 S2 wS2
set_option maxRecDepth 20000 in
def b_X10_termOf_5 : Nat → Nat → Int32 → Int32 → Int32 → St → Option (Int32 × St)
  | 0, _, _, _, _, _ => none
  | fu + 1, v0, v2, v3, v4, S => if v2 ≤ v4 then ((ix (0 : Int32) 400).bind fun j1 => some (S.1 (S.2.2 v0 49) j1, S)) else ((ix v4 840).bind fun j2 => nm (S.1 (S.2.2 v0 44) j2) fun x3 => if (2 : Int32) ≤ x3 then (nm (v3 + (-1 : Int32)) fun x4 => (ix (x4 - (1 : Int32)) 400).bind fun j5 => nm (S.1 (S.2.2 v0 49) j5) fun x6 => (ix x4 400).bind fun j7 => nm (S.1 (S.2.2 v0 49) j7) fun x8 => if x3 = (5 : Int32) then (if x8 = 0 then (nm (sI S v0 50 (1 : Int32)) fun S9 => some ((0 : Int32), S9)) else (b_X10_termOf_104 (b_X10_termOf_5 fu) v0 v2 x4 v4 x3 x6 x8 S)) else (b_X10_termOf_104 (b_X10_termOf_5 fu) v0 v2 x4 v4 x3 x6 x8 S)) else (if x3 = 0 then ((ix v4 840).bind fun j10 => b_X10_termOf_58 (b_X10_termOf_5 fu) v0 v2 v3 v4 (S.2.2 v0 49) v3 (S.1 (S.2.2 v0 45) j10) S) else ((ix v4 840).bind fun j11 => (ix (S.1 (S.2.2 v0 45) j11) 9).bind fun j12 => b_X10_termOf_58 (b_X10_termOf_5 fu) v0 v2 v3 v4 (S.2.2 v0 49) v3 (S.1 (S.2.2 v0 48) j12) S)))
set_option maxRecDepth 20000 in
theorem t_X10_termOf_5 {K : KK} (X : CX K cX10_termOf 8 RX10 (some .int)) (hR : kR K = rmD 0) : ∀ (fu : Nat) (v0 : Nat) (kv0 : KA (kDn K) v0 (0, 10)) (v2 : Int32) (v3 : Int32) (v4 : Int32) (S : St), WT (kDn K) S.2.2 → JX K (Zm K (fun v : Int32 => some (.int v))) 5 [some (.ref v0), none, some (.int v2), some (.int v3), some (.int v4), none, none, none] [] (rwN (kN K) S) (kn K) 0 0 (b_X10_termOf_5 fu v0 v2 v3 v4 S) := by
  intro fu
  induction fu with
  | zero => intro v0 kv0 v2 v3 v4 S w; exact J_none
  | succ fu ih =>
    intro v0 kv0 v2 v3 v4 S w
    rw [b_X10_termOf_5]
    refine J_iload X dX10_termOf_5 rfl ?_
    refine J_iload_n X dX10_termOf_7 (i := 2) rfl rfl ?_
    refine J_icmp_ge X (tgt := 165) dX10_termOf_8 (by decide) ?_ ?_
    · refine J_aload_n X dX10_termOf_165 (i := 0) rfl rfl ?_
      refine T_getR X (kf := 49) cb10 kv0 (by decide) fl_X10_116 (fun _ _ _ => rfl) dX10_termOf_166 ?_
      refine J_iconst X (v := (0 : Int32)) dX10_termOf_169 (by decide) ?_
      refine T_iald X (w.1 _ _ kv0 49 _ rfl) dX10_termOf_170 (fun j1 => ?_)
      exact T_iret w X dX10_termOf_171
    · refine J_aload_n X dX10_termOf_11 (i := 0) rfl rfl ?_
      refine T_getR X (kf := 44) cb10 kv0 (by decide) fl_X10_104 (fun _ _ _ => rfl) dX10_termOf_12 ?_
      refine J_iload X dX10_termOf_15 rfl ?_
      refine T_iald X (w.1 _ _ kv0 44 _ rfl) dX10_termOf_17 (fun j2 => ?_)
      refine J_nmi (fun x3 => ?_)
      refine J_istore X (ls' := [some (.ref v0), none, some (.int v2), some (.int v3), some (.int v4), some (.int x3), none, none]) dX10_termOf_18 (by decide) rfl ?_
      refine J_iload X dX10_termOf_20 rfl ?_
      refine J_iconst X (v := (2 : Int32)) dX10_termOf_22 (by decide) ?_
      refine J_icmp_ge X (tgt := 65) dX10_termOf_23 (by decide) ?_ ?_
      · refine J_nmv (v3 + (-1 : Int32)) (fun x4 ex4 => ?_)
        refine J_iinc X (v := x4) (ls' := [some (.ref v0), none, some (.int v2), some (.int x4), some (.int v4), some (.int x3), none, none]) dX10_termOf_65 (by decide) rfl (by rw [ex4]; rfl) rfl ?_
        refine J_aload_n X dX10_termOf_68 (i := 0) rfl rfl ?_
        refine T_getR X (kf := 49) cb10 kv0 (by decide) fl_X10_116 (fun _ _ _ => rfl) dX10_termOf_69 ?_
        refine J_iload_n X dX10_termOf_72 (i := 3) rfl rfl ?_
        refine J_iconst X (v := (1 : Int32)) dX10_termOf_73 (by decide) ?_
        refine J_isub X dX10_termOf_74 ?_
        refine T_iald X (w.1 _ _ kv0 49 _ rfl) dX10_termOf_75 (fun j5 => ?_)
        refine J_nmi (fun x6 => ?_)
        refine J_istore X (ls' := [some (.ref v0), none, some (.int v2), some (.int x4), some (.int v4), some (.int x3), some (.int x6), none]) dX10_termOf_76 (by decide) rfl ?_
        refine J_aload_n X dX10_termOf_78 (i := 0) rfl rfl ?_
        refine T_getR X (kf := 49) cb10 kv0 (by decide) fl_X10_116 (fun _ _ _ => rfl) dX10_termOf_79 ?_
        refine J_iload_n X dX10_termOf_82 (i := 3) rfl rfl ?_
        refine T_iald X (w.1 _ _ kv0 49 _ rfl) dX10_termOf_83 (fun j7 => ?_)
        refine J_nmi (fun x8 => ?_)
        refine J_istore X (ls' := [some (.ref v0), none, some (.int v2), some (.int x4), some (.int v4), some (.int x3), some (.int x6), some (.int x8)]) dX10_termOf_84 (by decide) rfl ?_
        refine J_iload X dX10_termOf_86 rfl ?_
        refine J_iconst X (v := (5 : Int32)) dX10_termOf_88 (by decide) ?_
        refine J_icmp_ne X (tgt := 104) dX10_termOf_89 (by decide) ?_ ?_
        · refine J_iload X dX10_termOf_92 rfl ?_
          refine J_if_ne X (tgt := 104) dX10_termOf_94 (by decide) ?_ ?_
          · refine J_aload_n X dX10_termOf_97 (i := 0) rfl rfl ?_
            refine J_iconst X (v := (1 : Int32)) dX10_termOf_98 (by decide) ?_
            refine T_putI X (kf := 50) cb10 kv0 (by decide) fl_X10_321 (fun _ _ _ => rfl) rfl (by first | rfl | decide) (by first | rfl | decide) dX10_termOf_99 (fun S9 hS9 => ?_)
            have wS9 : WT (kDn K) S9.2.2 := by rw [hS9]; exact w
            clear hS9
            refine J_iconst X (v := (0 : Int32)) dX10_termOf_102 (by decide) ?_
            exact T_iret wS9 X dX10_termOf_103
          · exact t_X10_termOf_104 X hR ih v0 kv0 v2 x4 v4 x3 x6 x8 S w
        · exact t_X10_termOf_104 X hR ih v0 kv0 v2 x4 v4 x3 x6 x8 S w
      · refine J_aload_n X dX10_termOf_26 (i := 0) rfl rfl ?_
        refine T_getR X (kf := 49) cb10 kv0 (by decide) fl_X10_116 (fun _ _ _ => rfl) dX10_termOf_27 ?_
        refine J_iload_n X dX10_termOf_30 (i := 3) rfl rfl ?_
        refine J_iload X dX10_termOf_31 rfl ?_
        refine J_if_ne X (tgt := 46) dX10_termOf_33 (by decide) ?_ ?_
        · refine J_aload_n X dX10_termOf_36 (i := 0) rfl rfl ?_
          refine T_getR X (kf := 45) cb10 kv0 (by decide) fl_X10_107 (fun _ _ _ => rfl) dX10_termOf_37 ?_
          refine J_iload X dX10_termOf_40 rfl ?_
          refine T_iald X (w.1 _ _ kv0 45 _ rfl) dX10_termOf_42 (fun j10 => ?_)
          refine J_goto X (tgt := 58) dX10_termOf_43 (by decide) ?_
          refine J_mask [true, false, true, true, true, false, false, false] ?_
          exact t_X10_termOf_58 X hR ih v0 kv0 v2 v3 v4 (S.2.2 v0 49) (w.1 _ _ kv0 49 _ rfl) v3 (S.1 (S.2.2 v0 45) j10) S w
        · refine J_aload_n X dX10_termOf_46 (i := 0) rfl rfl ?_
          refine T_getR X (kf := 48) cb10 kv0 (by decide) fl_X10_113 (fun _ _ _ => rfl) dX10_termOf_47 ?_
          refine J_aload_n X dX10_termOf_50 (i := 0) rfl rfl ?_
          refine T_getR X (kf := 45) cb10 kv0 (by decide) fl_X10_107 (fun _ _ _ => rfl) dX10_termOf_51 ?_
          refine J_iload X dX10_termOf_54 rfl ?_
          refine T_iald X (w.1 _ _ kv0 45 _ rfl) dX10_termOf_56 (fun j11 => ?_)
          refine T_iald X (w.1 _ _ kv0 48 _ rfl) dX10_termOf_57 (fun j12 => ?_)
          refine J_mask [true, false, true, true, true, false, false, false] ?_
          exact t_X10_termOf_58 X hR ih v0 kv0 v2 v3 v4 (S.2.2 v0 49) (w.1 _ _ kv0 49 _ rfl) v3 (S.1 (S.2.2 v0 48) j12) S w
set_option maxRecDepth 20000 in
def f_X10_termOf (v0 : Nat) (v1 : Int32) (v2 : Int32) (S : St) : Option (Int32 × St) := b_X10_termOf_5 FU v0 v2 (0 : Int32) v1 S
set_option maxRecDepth 20000 in
theorem t_X10_termOf_0 {K : KK} (X : CX K cX10_termOf 8 RX10 (some .int)) (hR : kR K = rmD 0) (v0 : Nat) (kv0 : KA (kDn K) v0 (0, 10)) (v1 : Int32) (v2 : Int32) (S : St) (w : WT (kDn K) S.2.2) : JX K (Zm K (fun v : Int32 => some (.int v))) 0 [some (.ref v0), some (.int v1), some (.int v2), none, none, none, none, none] [] (rwN (kN K) S) (kn K) 0 0 (f_X10_termOf v0 v1 v2 S) := by
  unfold f_X10_termOf
  refine J_iconst X (v := (0 : Int32)) dX10_termOf_0 (by decide) ?_
  refine J_istore_n X (i := 3) (ls' := [some (.ref v0), some (.int v1), some (.int v2), some (.int (0 : Int32)), none, none, none, none]) dX10_termOf_1 rfl (by decide) rfl ?_
  refine J_iload_n X dX10_termOf_2 (i := 1) rfl rfl ?_
  refine J_istore X (ls' := [some (.ref v0), some (.int v1), some (.int v2), some (.int (0 : Int32)), some (.int v1), none, none, none]) dX10_termOf_3 (by decide) rfl ?_
  refine J_mask [true, false, true, true, true, false, false, false] ?_
  exact t_X10_termOf_5 X hR FU v0 kv0 v2 (0 : Int32) v1 S w
theorem C_X10_termOf (G : GG) (v0 : Nat) (kv0 : KA (gD G) v0 (0, 10)) (v1 : Int32) (v2 : Int32) (S : St) : CM G yX10_termOf cX10_termOf 8 (some .int) 0 [.ref v0, .int v1, .int v2] S (fun v : Int32 => some (.int v)) (f_X10_termOf v0 v1 v2 S) :=
  CM_of (by decide) (Nat.le_of_ble_eq_true rfl) rfl (fun K hG X hR w => by subst hG; exact t_X10_termOf_0 X hR v0 kv0 v1 v2 S w)
-- ==== X10_in
theorem hy_X10_in : yX10_in.cls ≠ "java/lang/invoke/MethodHandle" ∧ yX10_in.cls ≠ "java/lang/invoke/VarHandle" ∧ (parseMethodDescriptor yX10_in.desc).map (fun d => d.parameters.length) = some 3 := by decide +kernel
set_option maxRecDepth 20000 in
def f_X10_in (v0 : Int32) (v1 : Int32) (v2 : Int32) (S : St) : Option (Int32 × St) := if v0 < v1 then (some ((0 : Int32), S)) else (if v2 < v0 then (some ((0 : Int32), S)) else (some ((1 : Int32), S)))
set_option maxRecDepth 20000 in
theorem t_X10_in_0 {K : KK} (X : CX K cX10_in 3 RX10 (some .boolean)) (hR : kR K = rmD 0) (v0 : Int32) (v1 : Int32) (v2 : Int32) (S : St) (w : WT (kDn K) S.2.2) : JX K (Zm K (fun v : Int32 => some (.int v))) 0 [some (.int v0), some (.int v1), some (.int v2)] [] (rwN (kN K) S) (kn K) 0 0 (f_X10_in v0 v1 v2 S) := by
  unfold f_X10_in
  refine J_iload_n X dX10_in_0 (i := 0) rfl rfl ?_
  refine J_iload_n X dX10_in_1 (i := 1) rfl rfl ?_
  refine J_icmp_lt X (tgt := 14) dX10_in_2 (by decide) ?_ ?_
  · refine J_iconst X (v := (0 : Int32)) dX10_in_14 (by decide) ?_
    exact T_zret w X (by decide) dX10_in_15
  · refine J_iload_n X dX10_in_5 (i := 0) rfl rfl ?_
    refine J_iload_n X dX10_in_6 (i := 2) rfl rfl ?_
    refine J_icmp_gt X (tgt := 14) dX10_in_7 (by decide) ?_ ?_
    · refine J_iconst X (v := (0 : Int32)) dX10_in_14 (by decide) ?_
      exact T_zret w X (by decide) dX10_in_15
    · refine J_iconst X (v := (1 : Int32)) dX10_in_10 (by decide) ?_
      refine J_goto X (tgt := 15) dX10_in_11 (by decide) ?_
      exact T_zret w X (by decide) dX10_in_15
theorem C_X10_in (G : GG) (v0 : Int32) (v1 : Int32) (v2 : Int32) (S : St) : CM G yX10_in cX10_in 3 (some .boolean) 0 [.int v0, .int v1, .int v2] S (fun v : Int32 => some (.int v)) (f_X10_in v0 v1 v2 S) :=
  CM_of (by decide) (Nat.le_of_ble_eq_true rfl) rfl (fun K hG X hR w => by subst hG; exact t_X10_in_0 X hR v0 v1 v2 S w)
-- ==== X10_within
theorem hy_X10_within : yX10_within.cls ≠ "java/lang/invoke/MethodHandle" ∧ yX10_within.cls ≠ "java/lang/invoke/VarHandle" ∧ (parseMethodDescriptor yX10_within.desc).map (fun d => d.parameters.length) = some 3 := by decide +kernel
set_option maxRecDepth 20000 in
def f_X10_within (v0 : Int32) (v1 : Int32) (v2 : Int32) (S : St) : Option (Int32 × St) := if v1 ≤ v0 then (if v0 ≤ v2 then (some (v0, S)) else (some (v2, S))) else (some (v1, S))
set_option maxRecDepth 20000 in
theorem t_X10_within_0 {K : KK} (X : CX K cX10_within 3 RX10 (some .int)) (hR : kR K = rmD 0) (v0 : Int32) (v1 : Int32) (v2 : Int32) (S : St) (w : WT (kDn K) S.2.2) : JX K (Zm K (fun v : Int32 => some (.int v))) 0 [some (.int v0), some (.int v1), some (.int v2)] [] (rwN (kN K) S) (kn K) 0 0 (f_X10_within v0 v1 v2 S) := by
  unfold f_X10_within
  refine J_iload_n X dX10_within_0 (i := 0) rfl rfl ?_
  refine J_iload_n X dX10_within_1 (i := 1) rfl rfl ?_
  refine J_icmp_ge X (tgt := 9) dX10_within_2 (by decide) ?_ ?_
  · refine J_iload_n X dX10_within_9 (i := 0) rfl rfl ?_
    refine J_iload_n X dX10_within_10 (i := 2) rfl rfl ?_
    refine J_icmp_le X (tgt := 18) dX10_within_11 (by decide) ?_ ?_
    · refine J_iload_n X dX10_within_18 (i := 0) rfl rfl ?_
      exact T_iret w X dX10_within_19
    · refine J_iload_n X dX10_within_14 (i := 2) rfl rfl ?_
      refine J_goto X (tgt := 19) dX10_within_15 (by decide) ?_
      exact T_iret w X dX10_within_19
  · refine J_iload_n X dX10_within_5 (i := 1) rfl rfl ?_
    refine J_goto X (tgt := 19) dX10_within_6 (by decide) ?_
    exact T_iret w X dX10_within_19
theorem C_X10_within (G : GG) (v0 : Int32) (v1 : Int32) (v2 : Int32) (S : St) : CM G yX10_within cX10_within 3 (some .int) 0 [.int v0, .int v1, .int v2] S (fun v : Int32 => some (.int v)) (f_X10_within v0 v1 v2 S) :=
  CM_of (by decide) (Nat.le_of_ble_eq_true rfl) rfl (fun K hG X hR w => by subst hG; exact t_X10_within_0 X hR v0 v1 v2 S w)
-- ==== X10_bits
theorem hy_X10_bits : yX10_bits.cls ≠ "java/lang/invoke/MethodHandle" ∧ yX10_bits.cls ≠ "java/lang/invoke/VarHandle" ∧ (parseMethodDescriptor yX10_bits.desc).map (fun d => d.parameters.length) = some 1 := by decide +kernel
set_option maxRecDepth 20000 in
def b_X10_bits_4 : Nat → Int32 → Int32 → Int32 → St → Option (Int32 × St)
  | 0, _, _, _, _ => none
  | fu + 1, v0, v1, v2, S => if (8 : Int32) ≤ v2 then (some (v1, S)) else (nm (v1 + ((v0 >>> (v2 &&& 31)) &&& (1 : Int32))) fun x1 => nm (v2 + (1 : Int32)) fun x2 => b_X10_bits_4 fu v0 x1 x2 S)
set_option maxRecDepth 20000 in
theorem t_X10_bits_4 {K : KK} (X : CX K cX10_bits 3 RX10 (some .int)) (hR : kR K = rmD 0) : ∀ (fu : Nat) (v0 : Int32) (v1 : Int32) (v2 : Int32) (S : St), WT (kDn K) S.2.2 → JX K (Zm K (fun v : Int32 => some (.int v))) 4 [some (.int v0), some (.int v1), some (.int v2)] [] (rwN (kN K) S) (kn K) 0 0 (b_X10_bits_4 fu v0 v1 v2 S) := by
  intro fu
  induction fu with
  | zero => intro v0 v1 v2 S w; exact J_none
  | succ fu ih =>
    intro v0 v1 v2 S w
    rw [b_X10_bits_4]
    refine J_iload_n X dX10_bits_4 (i := 2) rfl rfl ?_
    refine J_bipush X (v := (8 : Int32)) dX10_bits_5 (by decide) ?_
    refine J_icmp_ge X (tgt := 24) dX10_bits_7 (by decide) ?_ ?_
    · refine J_iload_n X dX10_bits_24 (i := 1) rfl rfl ?_
      exact T_iret w X dX10_bits_25
    · refine J_iload_n X dX10_bits_10 (i := 1) rfl rfl ?_
      refine J_iload_n X dX10_bits_11 (i := 0) rfl rfl ?_
      refine J_iload_n X dX10_bits_12 (i := 2) rfl rfl ?_
      refine J_ishr X dX10_bits_13 ?_
      refine J_iconst X (v := (1 : Int32)) dX10_bits_14 (by decide) ?_
      refine J_iand X dX10_bits_15 ?_
      refine J_iadd X dX10_bits_16 ?_
      refine J_nmi (fun x1 => ?_)
      refine J_istore_n X (i := 1) (ls' := [some (.int v0), some (.int x1), some (.int v2)]) dX10_bits_17 rfl (by decide) rfl ?_
      refine J_nmv (v2 + (1 : Int32)) (fun x2 ex2 => ?_)
      refine J_iinc X (v := x2) (ls' := [some (.int v0), some (.int x1), some (.int x2)]) dX10_bits_18 (by decide) rfl (by rw [ex2]; rfl) rfl ?_
      refine J_goto X (tgt := 4) dX10_bits_21 (by decide) ?_
      exact ih v0 x1 x2 S w
set_option maxRecDepth 20000 in
def f_X10_bits (v0 : Int32) (S : St) : Option (Int32 × St) := b_X10_bits_4 FU v0 (0 : Int32) (0 : Int32) S
set_option maxRecDepth 20000 in
theorem t_X10_bits_0 {K : KK} (X : CX K cX10_bits 3 RX10 (some .int)) (hR : kR K = rmD 0) (v0 : Int32) (S : St) (w : WT (kDn K) S.2.2) : JX K (Zm K (fun v : Int32 => some (.int v))) 0 [some (.int v0), none, none] [] (rwN (kN K) S) (kn K) 0 0 (f_X10_bits v0 S) := by
  unfold f_X10_bits
  refine J_iconst X (v := (0 : Int32)) dX10_bits_0 (by decide) ?_
  refine J_istore_n X (i := 1) (ls' := [some (.int v0), some (.int (0 : Int32)), none]) dX10_bits_1 rfl (by decide) rfl ?_
  refine J_iconst X (v := (0 : Int32)) dX10_bits_2 (by decide) ?_
  refine J_istore_n X (i := 2) (ls' := [some (.int v0), some (.int (0 : Int32)), some (.int (0 : Int32))]) dX10_bits_3 rfl (by decide) rfl ?_
  exact t_X10_bits_4 X hR FU v0 (0 : Int32) (0 : Int32) S w
theorem C_X10_bits (G : GG) (v0 : Int32) (S : St) : CM G yX10_bits cX10_bits 3 (some .int) 0 [.int v0] S (fun v : Int32 => some (.int v)) (f_X10_bits v0 S) :=
  CM_of (by decide) (Nat.le_of_ble_eq_true rfl) rfl (fun K hG X hR w => by subst hG; exact t_X10_bits_0 X hR v0 S w)
-- ==== X10_off
theorem hy_X10_off : yX10_off.cls ≠ "java/lang/invoke/MethodHandle" ∧ yX10_off.cls ≠ "java/lang/invoke/VarHandle" ∧ (parseMethodDescriptor yX10_off.desc).map (fun d => d.parameters.length) = some 2 := by decide +kernel
set_option maxRecDepth 20000 in
def f_X10_off (v0 : Int32) (v1 : Int32) (S : St) : Option (Int32 × St) := if v1 ≤ v0 then (some (v0 - v1, S)) else (some (v1 - v0, S))
set_option maxRecDepth 20000 in
theorem t_X10_off_0 {K : KK} (X : CX K cX10_off 2 RX10 (some .int)) (hR : kR K = rmD 0) (v0 : Int32) (v1 : Int32) (S : St) (w : WT (kDn K) S.2.2) : JX K (Zm K (fun v : Int32 => some (.int v))) 0 [some (.int v0), some (.int v1)] [] (rwN (kN K) S) (kn K) 0 0 (f_X10_off v0 v1 S) := by
  unfold f_X10_off
  refine J_iload_n X dX10_off_0 (i := 0) rfl rfl ?_
  refine J_iload_n X dX10_off_1 (i := 1) rfl rfl ?_
  refine J_icmp_ge X (tgt := 11) dX10_off_2 (by decide) ?_ ?_
  · refine J_iload_n X dX10_off_11 (i := 0) rfl rfl ?_
    refine J_iload_n X dX10_off_12 (i := 1) rfl rfl ?_
    refine J_isub X dX10_off_13 ?_
    exact T_iret w X dX10_off_14
  · refine J_iload_n X dX10_off_5 (i := 1) rfl rfl ?_
    refine J_iload_n X dX10_off_6 (i := 0) rfl rfl ?_
    refine J_isub X dX10_off_7 ?_
    refine J_goto X (tgt := 14) dX10_off_8 (by decide) ?_
    exact T_iret w X dX10_off_14
theorem C_X10_off (G : GG) (v0 : Int32) (v1 : Int32) (S : St) : CM G yX10_off cX10_off 2 (some .int) 0 [.int v0, .int v1] S (fun v : Int32 => some (.int v)) (f_X10_off v0 v1 S) :=
  CM_of (by decide) (Nat.le_of_ble_eq_true rfl) rfl (fun K hG X hR w => by subst hG; exact t_X10_off_0 X hR v0 v1 S w)
-- ==== X10_signOf
theorem hy_X10_signOf : yX10_signOf.cls ≠ "java/lang/invoke/MethodHandle" ∧ yX10_signOf.cls ≠ "java/lang/invoke/VarHandle" ∧ (parseMethodDescriptor yX10_signOf.desc).map (fun d => d.parameters.length) = some 1 := by decide +kernel
set_option maxRecDepth 20000 in
def f_X10_signOf (v0 : Int32) (S : St) : Option (Int32 × St) := if 0 ≤ v0 then (if v0 ≤ 0 then (some ((0 : Int32), S)) else (some ((1 : Int32), S))) else (some ((-1 : Int32), S))
set_option maxRecDepth 20000 in
theorem t_X10_signOf_0 {K : KK} (X : CX K cX10_signOf 1 RX10 (some .int)) (hR : kR K = rmD 0) (v0 : Int32) (S : St) (w : WT (kDn K) S.2.2) : JX K (Zm K (fun v : Int32 => some (.int v))) 0 [some (.int v0)] [] (rwN (kN K) S) (kn K) 0 0 (f_X10_signOf v0 S) := by
  unfold f_X10_signOf
  refine J_iload_n X dX10_signOf_0 (i := 0) rfl rfl ?_
  refine J_if_ge X (tgt := 8) dX10_signOf_1 (by decide) ?_ ?_
  · refine J_iload_n X dX10_signOf_8 (i := 0) rfl rfl ?_
    refine J_if_le X (tgt := 16) dX10_signOf_9 (by decide) ?_ ?_
    · refine J_iconst X (v := (0 : Int32)) dX10_signOf_16 (by decide) ?_
      exact T_iret w X dX10_signOf_17
    · refine J_iconst X (v := (1 : Int32)) dX10_signOf_12 (by decide) ?_
      refine J_goto X (tgt := 17) dX10_signOf_13 (by decide) ?_
      exact T_iret w X dX10_signOf_17
  · refine J_iconst X (v := (-1 : Int32)) dX10_signOf_4 (by decide) ?_
    refine J_goto X (tgt := 17) dX10_signOf_5 (by decide) ?_
    exact T_iret w X dX10_signOf_17
theorem C_X10_signOf (G : GG) (v0 : Int32) (S : St) : CM G yX10_signOf cX10_signOf 1 (some .int) 0 [.int v0] S (fun v : Int32 => some (.int v)) (f_X10_signOf v0 S) :=
  CM_of (by decide) (Nat.le_of_ble_eq_true rfl) rfl (fun K hG X hR w => by subst hG; exact t_X10_signOf_0 X hR v0 S w)

-- ==== X9_even
theorem hy_X9_even : yX9_even.cls ≠ "java/lang/invoke/MethodHandle" ∧ yX9_even.cls ≠ "java/lang/invoke/VarHandle" ∧ (parseMethodDescriptor yX9_even.desc).map (fun d => d.parameters.length) = some 1 := by decide +kernel
set_option maxRecDepth 20000 in
def b_X9_even_95 (q26 : Nat → Int32 → Int32 → Int32 → St → Option (Int32 × St)) (q42 : Nat → Int32 → Int32 → Int32 → Int32 → St → Option (Int32 × St)) (v0 : Nat) (v1 : Int32) (v2 : Int32) (v3 : Int32) (v4 : Int32) (S : St) : Option (Int32 × St) := nm (v4 + (1 : Int32)) fun x1 => q42 v0 v1 v2 v3 x1 S
set_option maxRecDepth 20000 in
theorem t_X9_even_95 {K : KK} (X : CX K cX9_even 5 RX9 (some .int)) (hR : kR K = rmD 5) {q26 : Nat → Int32 → Int32 → Int32 → St → Option (Int32 × St)} (hq26 : ∀ (v0 : Nat) (kv0 : KA (kDn K) v0 (0, 9)) (v1 : Int32) (v2 : Int32) (v3 : Int32) (S : St), WT (kDn K) S.2.2 → JX K (Zm K (fun v : Int32 => some (.int v))) 26 [some (.ref v0), some (.int v1), some (.int v2), some (.int v3), none] [] (rwN (kN K) S) (kn K) 0 0 (q26 v0 v1 v2 v3 S)) {q42 : Nat → Int32 → Int32 → Int32 → Int32 → St → Option (Int32 × St)} (hq42 : ∀ (v0 : Nat) (kv0 : KA (kDn K) v0 (0, 9)) (v1 : Int32) (v2 : Int32) (v3 : Int32) (v4 : Int32) (S : St), WT (kDn K) S.2.2 → JX K (Zm K (fun v : Int32 => some (.int v))) 42 [some (.ref v0), some (.int v1), some (.int v2), some (.int v3), some (.int v4)] [] (rwN (kN K) S) (kn K) 0 0 (q42 v0 v1 v2 v3 v4 S)) (v0 : Nat) (kv0 : KA (kDn K) v0 (0, 9)) (v1 : Int32) (v2 : Int32) (v3 : Int32) (v4 : Int32) (S : St) (w : WT (kDn K) S.2.2) : JX K (Zm K (fun v : Int32 => some (.int v))) 95 [some (.ref v0), some (.int v1), some (.int v2), some (.int v3), some (.int v4)] [] (rwN (kN K) S) (kn K) 0 0 (b_X9_even_95 q26 q42 v0 v1 v2 v3 v4 S) := by
  unfold b_X9_even_95
  refine J_nmv (v4 + (1 : Int32)) (fun x1 ex1 => ?_)
  refine J_iinc X (v := x1) (ls' := [some (.ref v0), some (.int v1), some (.int v2), some (.int v3), some (.int x1)]) dX9_even_95 (by decide) rfl (by rw [ex1]; rfl) rfl ?_
  refine J_goto X (tgt := 42) dX9_even_98 (by decide) ?_
  exact hq42 v0 kv0 v1 v2 v3 x1 S w
set_option maxRecDepth 20000 in
def b_X9_even_42 (q26 : Nat → Int32 → Int32 → Int32 → St → Option (Int32 × St)) : Nat → Nat → Int32 → Int32 → Int32 → Int32 → St → Option (Int32 × St)
  | 0, _, _, _, _, _, _ => none
  | fu + 1, v0, v1, v2, v3, v4, S => if (S.1 (S.2.2 v0 3) 2) ≤ v4 then (nm (v3 + (1 : Int32)) fun x1 => q26 v0 v1 v2 x1 S) else (bd (f_X5_isWorn (S.2.2 v0 5) v3 v1 S) fun r3 S2 => if r3 = 0 then (b_X9_even_95 q26 (b_X9_even_42 q26 fu) v0 v1 v2 v3 v4 S2) else (bd (f_X5_isWorn (S2.2.2 v0 5) v4 v1 S2) fun r5 S4 => if r5 = 0 then (b_X9_even_95 q26 (b_X9_even_42 q26 fu) v0 v1 v2 v3 v4 S4) else (bd (f_X3_areEven (S4.2.2 v0 12) v3 v4 S4) fun r7 S6 => if r7 = 0 then (b_X9_even_95 q26 (b_X9_even_42 q26 fu) v0 v1 v2 v3 v4 S6) else (nm (v2 + (1 : Int32)) fun x8 => b_X9_even_95 q26 (b_X9_even_42 q26 fu) v0 v1 x8 v3 v4 S6))))
set_option maxRecDepth 20000 in
theorem t_X9_even_42 {K : KK} (X : CX K cX9_even 5 RX9 (some .int)) (hR : kR K = rmD 5) {q26 : Nat → Int32 → Int32 → Int32 → St → Option (Int32 × St)} (hq26 : ∀ (v0 : Nat) (kv0 : KA (kDn K) v0 (0, 9)) (v1 : Int32) (v2 : Int32) (v3 : Int32) (S : St), WT (kDn K) S.2.2 → JX K (Zm K (fun v : Int32 => some (.int v))) 26 [some (.ref v0), some (.int v1), some (.int v2), some (.int v3), none] [] (rwN (kN K) S) (kn K) 0 0 (q26 v0 v1 v2 v3 S)) : ∀ (fu : Nat) (v0 : Nat) (kv0 : KA (kDn K) v0 (0, 9)) (v1 : Int32) (v2 : Int32) (v3 : Int32) (v4 : Int32) (S : St), WT (kDn K) S.2.2 → JX K (Zm K (fun v : Int32 => some (.int v))) 42 [some (.ref v0), some (.int v1), some (.int v2), some (.int v3), some (.int v4)] [] (rwN (kN K) S) (kn K) 0 0 (b_X9_even_42 q26 fu v0 v1 v2 v3 v4 S) := by
  intro fu
  induction fu with
  | zero => intro v0 kv0 v1 v2 v3 v4 S w; exact J_none
  | succ fu ih =>
    intro v0 kv0 v1 v2 v3 v4 S w
    rw [b_X9_even_42]
    refine J_iload X dX9_even_42 rfl ?_
    refine J_aload_n X dX9_even_44 (i := 0) rfl rfl ?_
    refine T_getR X (kf := 3) cb9 kv0 (by decide) fl_X9_16 (fun _ _ _ => rfl) dX9_even_45 ?_
    refine T_getI X (kf := 2) cb0 (w.1 _ _ kv0 3 _ rfl) (by decide) fl_X9_118 (fun _ _ _ => rfl) dX9_even_48 ?_
    refine J_icmp_ge X (tgt := 101) dX9_even_51 (by decide) ?_ ?_
    · refine J_nmv (v3 + (1 : Int32)) (fun x1 ex1 => ?_)
      refine J_iinc X (v := x1) (ls' := [some (.ref v0), some (.int v1), some (.int v2), some (.int x1), some (.int v4)]) dX9_even_101 (by decide) rfl (by rw [ex1]; rfl) rfl ?_
      refine J_goto X (tgt := 26) dX9_even_104 (by decide) ?_
      refine J_mask [true, true, true, true, false] ?_
      exact hq26 v0 kv0 v1 v2 x1 S w
    · refine J_aload_n X dX9_even_54 (i := 0) rfl rfl ?_
      refine T_getR X (kf := 5) cb9 kv0 (by decide) fl_X9_35 (fun _ _ _ => rfl) dX9_even_55 ?_
      refine J_iload_n X dX9_even_58 (i := 3) rfl rfl ?_
      refine J_iload_n X dX9_even_59 (i := 1) rfl rfl ?_
      refine T_callV (As := [.int v3, .int v1]) w X (C_X5_isWorn (kG K) (S.2.2 v0 5) (w.1 _ _ kv0 5 _ rfl) v3 v1 S) cb5 (w.1 _ _ kv0 5 _ rfl) ml_X9_265 in_yX5_isWorn se_yX5_isWorn ii_RX5 co_yX5_isWorn hy_X5_isWorn (hRd hR (by decide) (by decide)) rfl (Nat.le_of_ble_eq_true rfl) dX9_even_60 (fun r3 S2 _ wS2 => ?_)
      refine J_if_eq X (tgt := 95) dX9_even_63 (by decide) ?_ ?_
      · exact t_X9_even_95 X hR hq26 ih v0 kv0 v1 v2 v3 v4 S2 wS2
      · refine J_aload_n X dX9_even_66 (i := 0) rfl rfl ?_
        refine T_getR X (kf := 5) cb9 kv0 (by decide) fl_X9_35 (fun _ _ _ => rfl) dX9_even_67 ?_
        refine J_iload X dX9_even_70 rfl ?_
        refine J_iload_n X dX9_even_72 (i := 1) rfl rfl ?_
        refine T_callV (As := [.int v4, .int v1]) wS2 X (C_X5_isWorn (kG K) (S2.2.2 v0 5) (wS2.1 _ _ kv0 5 _ rfl) v4 v1 S2) cb5 (wS2.1 _ _ kv0 5 _ rfl) ml_X9_265 in_yX5_isWorn se_yX5_isWorn ii_RX5 co_yX5_isWorn hy_X5_isWorn (hRd hR (by decide) (by decide)) rfl (Nat.le_of_ble_eq_true rfl) dX9_even_73 (fun r5 S4 _ wS4 => ?_)
        refine J_if_eq X (tgt := 95) dX9_even_76 (by decide) ?_ ?_
        · exact t_X9_even_95 X hR hq26 ih v0 kv0 v1 v2 v3 v4 S4 wS4
        · refine J_aload_n X dX9_even_79 (i := 0) rfl rfl ?_
          refine T_getR X (kf := 12) cb9 kv0 (by decide) fl_X9_68 (fun _ _ _ => rfl) dX9_even_80 ?_
          refine J_iload_n X dX9_even_83 (i := 3) rfl rfl ?_
          refine J_iload X dX9_even_84 rfl ?_
          refine T_callV (As := [.int v3, .int v4]) wS4 X (C_X3_areEven (kG K) (S4.2.2 v0 12) (wS4.1 _ _ kv0 12 _ rfl) v3 v4 S4) cb3 (wS4.1 _ _ kv0 12 _ rfl) ml_X9_268 in_yX3_areEven se_yX3_areEven ii_RX3 co_yX3_areEven hy_X3_areEven (hRd hR (by decide) (by decide)) rfl (Nat.le_of_ble_eq_true rfl) dX9_even_86 (fun r7 S6 _ wS6 => ?_)
          refine J_if_eq X (tgt := 95) dX9_even_89 (by decide) ?_ ?_
          · exact t_X9_even_95 X hR hq26 ih v0 kv0 v1 v2 v3 v4 S6 wS6
          · refine J_nmv (v2 + (1 : Int32)) (fun x8 ex8 => ?_)
            refine J_iinc X (v := x8) (ls' := [some (.ref v0), some (.int v1), some (.int x8), some (.int v3), some (.int v4)]) dX9_even_92 (by decide) rfl (by rw [ex8]; rfl) rfl ?_
            exact t_X9_even_95 X hR hq26 ih v0 kv0 v1 x8 v3 v4 S6 wS6
set_option maxRecDepth 20000 in
def b_X9_even_26 : Nat → Nat → Int32 → Int32 → Int32 → St → Option (Int32 × St)
  | 0, _, _, _, _, _ => none
  | fu + 1, v0, v1, v2, v3, S => if (S.1 (S.2.2 v0 3) 2) ≤ v3 then (some (v2, S)) else (nm (v3 + (1 : Int32)) fun x1 => b_X9_even_42 (b_X9_even_26 fu) FU v0 v1 v2 v3 x1 S)
set_option maxRecDepth 20000 in
theorem t_X9_even_26 {K : KK} (X : CX K cX9_even 5 RX9 (some .int)) (hR : kR K = rmD 5) : ∀ (fu : Nat) (v0 : Nat) (kv0 : KA (kDn K) v0 (0, 9)) (v1 : Int32) (v2 : Int32) (v3 : Int32) (S : St), WT (kDn K) S.2.2 → JX K (Zm K (fun v : Int32 => some (.int v))) 26 [some (.ref v0), some (.int v1), some (.int v2), some (.int v3), none] [] (rwN (kN K) S) (kn K) 0 0 (b_X9_even_26 fu v0 v1 v2 v3 S) := by
  intro fu
  induction fu with
  | zero => intro v0 kv0 v1 v2 v3 S w; exact J_none
  | succ fu ih =>
    intro v0 kv0 v1 v2 v3 S w
    rw [b_X9_even_26]
    refine J_iload_n X dX9_even_26 (i := 3) rfl rfl ?_
    refine J_aload_n X dX9_even_27 (i := 0) rfl rfl ?_
    refine T_getR X (kf := 3) cb9 kv0 (by decide) fl_X9_16 (fun _ _ _ => rfl) dX9_even_28 ?_
    refine T_getI X (kf := 2) cb0 (w.1 _ _ kv0 3 _ rfl) (by decide) fl_X9_118 (fun _ _ _ => rfl) dX9_even_31 ?_
    refine J_icmp_ge X (tgt := 107) dX9_even_34 (by decide) ?_ ?_
    · refine J_iload_n X dX9_even_107 (i := 2) rfl rfl ?_
      exact T_iret w X dX9_even_108
    · refine J_iload_n X dX9_even_37 (i := 3) rfl rfl ?_
      refine J_iconst X (v := (1 : Int32)) dX9_even_38 (by decide) ?_
      refine J_iadd X dX9_even_39 ?_
      refine J_nmi (fun x1 => ?_)
      refine J_istore X (ls' := [some (.ref v0), some (.int v1), some (.int v2), some (.int v3), some (.int x1)]) dX9_even_40 (by decide) rfl ?_
      exact t_X9_even_42 X hR ih FU v0 kv0 v1 v2 v3 x1 S w
set_option maxRecDepth 20000 in
def f_X9_even (v0 : Nat) (v1 : Int32) (S : St) : Option (Int32 × St) := bd (f_X9_isPerson v0 v1 S) fun r2 S1 => if r2 = 0 then (some ((-1 : Int32), S1)) else (bd (f_X3_layOn (S1.2.2 v0 12) (S1.2.2 v0 7) v1 S1) fun _ S3 => b_X9_even_26 FU v0 v1 (0 : Int32) (0 : Int32) S3)
set_option maxRecDepth 20000 in
theorem t_X9_even_0 {K : KK} (X : CX K cX9_even 5 RX9 (some .int)) (hR : kR K = rmD 5) (v0 : Nat) (kv0 : KA (kDn K) v0 (0, 9)) (v1 : Int32) (S : St) (w : WT (kDn K) S.2.2) : JX K (Zm K (fun v : Int32 => some (.int v))) 0 [some (.ref v0), some (.int v1), none, none, none] [] (rwN (kN K) S) (kn K) 0 0 (f_X9_even v0 v1 S) := by
  unfold f_X9_even
  refine J_aload_n X dX9_even_0 (i := 0) rfl rfl ?_
  refine J_iload_n X dX9_even_1 (i := 1) rfl rfl ?_
  refine T_callV (As := [.int v1]) w X (C_X9_isPerson (kG K) v0 kv0 v1 S) cb9 kv0 ml_X9_132 in_yX9_isPerson se_yX9_isPerson ii_RX9 co_yX9_isPerson hy_X9_isPerson (hRd hR (by decide) (by decide)) rfl (Nat.le_of_ble_eq_true rfl) dX9_even_2 (fun r2 S1 _ wS1 => ?_)
  refine J_if_ne X (tgt := 10) dX9_even_5 (by decide) ?_ ?_
  · refine J_iconst X (v := (-1 : Int32)) dX9_even_8 (by decide) ?_
    exact T_iret wS1 X dX9_even_9
  · refine J_aload_n X dX9_even_10 (i := 0) rfl rfl ?_
    refine T_getR X (kf := 12) cb9 kv0 (by decide) fl_X9_68 (fun _ _ _ => rfl) dX9_even_11 ?_
    refine J_aload_n X dX9_even_14 (i := 0) rfl rfl ?_
    refine T_getR X (kf := 7) cb9 kv0 (by decide) fl_X9_47 (fun _ _ _ => rfl) dX9_even_15 ?_
    refine J_iload_n X dX9_even_18 (i := 1) rfl rfl ?_
    refine T_callV (As := [.ref (S1.2.2 v0 7), .int v1]) wS1 X (C_X3_layOn (kG K) (S1.2.2 v0 12) (wS1.1 _ _ kv0 12 _ rfl) (S1.2.2 v0 7) (wS1.1 _ _ kv0 7 _ rfl) v1 S1) cb3 (wS1.1 _ _ kv0 12 _ rfl) ml_X9_252 in_yX3_layOn se_yX3_layOn ii_RX3 co_yX3_layOn hy_X3_layOn (hRd hR (by decide) (by decide)) rfl (Nat.le_of_ble_eq_true rfl) dX9_even_19 (fun _ S3 _ wS3 => ?_)
    refine J_iconst X (v := (0 : Int32)) dX9_even_22 (by decide) ?_
    refine J_istore_n X (i := 2) (ls' := [some (.ref v0), some (.int v1), some (.int (0 : Int32)), none, none]) dX9_even_23 rfl (by decide) rfl ?_
    refine J_iconst X (v := (0 : Int32)) dX9_even_24 (by decide) ?_
    refine J_istore_n X (i := 3) (ls' := [some (.ref v0), some (.int v1), some (.int (0 : Int32)), some (.int (0 : Int32)), none]) dX9_even_25 rfl (by decide) rfl ?_
    exact t_X9_even_26 X hR FU v0 kv0 v1 (0 : Int32) (0 : Int32) S3 wS3
theorem C_X9_even (G : GG) (v0 : Nat) (kv0 : KA (gD G) v0 (0, 9)) (v1 : Int32) (S : St) : CM G yX9_even cX9_even 5 (some .int) 5 [.ref v0, .int v1] S (fun v : Int32 => some (.int v)) (f_X9_even v0 v1 S) :=
  CM_of (by decide) (Nat.le_of_ble_eq_true rfl) rfl (fun K hG X hR w => by subst hG; exact t_X9_even_0 X hR v0 kv0 v1 S w)
-- ==== X9_safe
theorem hy_X9_safe : yX9_safe.cls ≠ "java/lang/invoke/MethodHandle" ∧ yX9_safe.cls ≠ "java/lang/invoke/VarHandle" ∧ (parseMethodDescriptor yX9_safe.desc).map (fun d => d.parameters.length) = some 2 := by decide +kernel
set_option maxRecDepth 20000 in
def b_X9_safe_143 (q46 : Nat → Int32 → Int32 → Int32 → Int32 → Int32 → Int32 → St → Option (Int32 × St)) (v0 : Nat) (v1 : Int32) (v2 : Int32) (v3 : Int32) (v4 : Int32) (v5 : Int32) (v6 : Int32) (S : St) : Option (Int32 × St) := nm (v6 + (1 : Int32)) fun x1 => q46 v0 v1 v2 v3 v4 v5 x1 S
set_option maxRecDepth 20000 in
theorem t_X9_safe_143 {K : KK} (X : CX K cX9_safe 10 RX9 (some .int)) (hR : kR K = rmD 6) {q46 : Nat → Int32 → Int32 → Int32 → Int32 → Int32 → Int32 → St → Option (Int32 × St)} (hq46 : ∀ (v0 : Nat) (kv0 : KA (kDn K) v0 (0, 9)) (v1 : Int32) (v2 : Int32) (v3 : Int32) (v4 : Int32) (v5 : Int32) (v6 : Int32) (S : St), WT (kDn K) S.2.2 → JX K (Zm K (fun v : Int32 => some (.int v))) 46 [some (.ref v0), some (.int v1), some (.int v2), some (.int v3), some (.int v4), some (.int v5), some (.int v6), none, none, none] [] (rwN (kN K) S) (kn K) 0 0 (q46 v0 v1 v2 v3 v4 v5 v6 S)) (v0 : Nat) (kv0 : KA (kDn K) v0 (0, 9)) (v1 : Int32) (v2 : Int32) (v3 : Int32) (v4 : Int32) (v5 : Int32) (v6 : Int32) (S : St) (w : WT (kDn K) S.2.2) : JX K (Zm K (fun v : Int32 => some (.int v))) 143 [some (.ref v0), some (.int v1), some (.int v2), some (.int v3), some (.int v4), some (.int v5), some (.int v6), none, none, none] [] (rwN (kN K) S) (kn K) 0 0 (b_X9_safe_143 q46 v0 v1 v2 v3 v4 v5 v6 S) := by
  unfold b_X9_safe_143
  refine J_nmv (v6 + (1 : Int32)) (fun x1 ex1 => ?_)
  refine J_iinc X (v := x1) (ls' := [some (.ref v0), some (.int v1), some (.int v2), some (.int v3), some (.int v4), some (.int v5), some (.int x1), none, none, none]) dX9_safe_143 (by decide) rfl (by rw [ex1]; rfl) rfl ?_
  refine J_goto X (tgt := 46) dX9_safe_146 (by decide) ?_
  exact hq46 v0 kv0 v1 v2 v3 v4 v5 x1 S w
set_option maxRecDepth 20000 in
def b_X9_safe_46 : Nat → Nat → Int32 → Int32 → Int32 → Int32 → Int32 → Int32 → St → Option (Int32 × St)
  | 0, _, _, _, _, _, _, _, _ => none
  | fu + 1, v0, v1, v2, v3, v4, v5, v6, S => if ((10 : Int32) * ((S.1 (S.2.2 v0 3) 3) + (1 : Int32))) ≤ v6 then (if v2 = 0 then (some (v3, S)) else (some (v4, S))) else (nm (v6 - v6 / (10 : Int32) * (10 : Int32)) fun x1 => nm (v6 / (10 : Int32)) fun x2 => bd (f_X8_isMovedAt (S.2.2 v0 7) v1 x1 x2 S) fun r4 S3 => if r4 = 0 then (nm (v3 + (1 : Int32)) fun x5 => (ix ((16 : Int32) + v1) 36).bind fun j6 => (ix ((22 : Int32) + v1) 36).bind fun j7 => bd (f_X9_farApart x1 x2 (S3.1 (S3.2.2 (S3.2.2 v0 5) 0) j6) (S3.1 (S3.2.2 (S3.2.2 v0 5) 0) j7) S3) fun r9 S8 => if v5 ≤ r9 then (b_X9_safe_143 (b_X9_safe_46 fu) v0 v1 v2 x5 v4 v5 v6 S8) else (b_X9_safe_143 (b_X9_safe_46 fu) v0 v1 v2 x5 v6 r9 v6 S8)) else (b_X9_safe_143 (b_X9_safe_46 fu) v0 v1 v2 v3 v4 v5 v6 S3))
set_option maxRecDepth 20000 in
theorem t_X9_safe_46 {K : KK} (X : CX K cX9_safe 10 RX9 (some .int)) (hR : kR K = rmD 6) : ∀ (fu : Nat) (v0 : Nat) (kv0 : KA (kDn K) v0 (0, 9)) (v1 : Int32) (v2 : Int32) (v3 : Int32) (v4 : Int32) (v5 : Int32) (v6 : Int32) (S : St), WT (kDn K) S.2.2 → JX K (Zm K (fun v : Int32 => some (.int v))) 46 [some (.ref v0), some (.int v1), some (.int v2), some (.int v3), some (.int v4), some (.int v5), some (.int v6), none, none, none] [] (rwN (kN K) S) (kn K) 0 0 (b_X9_safe_46 fu v0 v1 v2 v3 v4 v5 v6 S) := by
  intro fu
  induction fu with
  | zero => intro v0 kv0 v1 v2 v3 v4 v5 v6 S w; exact J_none
  | succ fu ih =>
    intro v0 kv0 v1 v2 v3 v4 v5 v6 S w
    rw [b_X9_safe_46]
    refine J_iload X dX9_safe_46 rfl ?_
    refine J_bipush X (v := (10 : Int32)) dX9_safe_48 (by decide) ?_
    refine J_aload_n X dX9_safe_50 (i := 0) rfl rfl ?_
    refine T_getR X (kf := 3) cb9 kv0 (by decide) fl_X9_16 (fun _ _ _ => rfl) dX9_safe_51 ?_
    refine T_getI X (kf := 3) cb0 (w.1 _ _ kv0 3 _ rfl) (by decide) fl_X9_271 (fun _ _ _ => rfl) dX9_safe_54 ?_
    refine J_iconst X (v := (1 : Int32)) dX9_safe_57 (by decide) ?_
    refine J_iadd X dX9_safe_58 ?_
    refine J_imul X dX9_safe_59 ?_
    refine J_icmp_ge X (tgt := 149) dX9_safe_60 (by decide) ?_ ?_
    · refine J_iload_n X dX9_safe_149 (i := 2) rfl rfl ?_
      refine J_if_ne X (tgt := 157) dX9_safe_150 (by decide) ?_ ?_
      · refine J_iload_n X dX9_safe_153 (i := 3) rfl rfl ?_
        refine J_goto X (tgt := 159) dX9_safe_154 (by decide) ?_
        exact T_iret w X dX9_safe_159
      · refine J_iload X dX9_safe_157 rfl ?_
        exact T_iret w X dX9_safe_159
    · refine J_iload X dX9_safe_63 rfl ?_
      refine J_bipush X (v := (10 : Int32)) dX9_safe_65 (by decide) ?_
      refine J_iremc X dX9_safe_67 (by decide) ?_
      refine J_nmi (fun x1 => ?_)
      refine J_istore X (ls' := [some (.ref v0), some (.int v1), some (.int v2), some (.int v3), some (.int v4), some (.int v5), some (.int v6), some (.int x1), none, none]) dX9_safe_68 (by decide) rfl ?_
      refine J_iload X dX9_safe_70 rfl ?_
      refine J_bipush X (v := (10 : Int32)) dX9_safe_72 (by decide) ?_
      refine J_idivc X dX9_safe_74 (by decide) ?_
      refine J_nmi (fun x2 => ?_)
      refine J_istore X (ls' := [some (.ref v0), some (.int v1), some (.int v2), some (.int v3), some (.int v4), some (.int v5), some (.int v6), some (.int x1), some (.int x2), none]) dX9_safe_75 (by decide) rfl ?_
      refine J_aload_n X dX9_safe_77 (i := 0) rfl rfl ?_
      refine T_getR X (kf := 7) cb9 kv0 (by decide) fl_X9_47 (fun _ _ _ => rfl) dX9_safe_78 ?_
      refine J_iload_n X dX9_safe_81 (i := 1) rfl rfl ?_
      refine J_iload X dX9_safe_82 rfl ?_
      refine J_iload X dX9_safe_84 rfl ?_
      refine T_callV (As := [.int v1, .int x1, .int x2]) w X (C_X8_isMovedAt (kG K) (S.2.2 v0 7) (w.1 _ _ kv0 7 _ rfl) v1 x1 x2 S) cb8 (w.1 _ _ kv0 7 _ rfl) ml_X9_213 in_yX8_isMovedAt se_yX8_isMovedAt ii_RX8 co_yX8_isMovedAt hy_X8_isMovedAt (hRd hR (by decide) (by decide)) rfl (Nat.le_of_ble_eq_true rfl) dX9_safe_86 (fun r4 S3 _ wS3 => ?_)
      refine J_if_ne X (tgt := 143) dX9_safe_89 (by decide) ?_ ?_
      · refine J_nmv (v3 + (1 : Int32)) (fun x5 ex5 => ?_)
        refine J_iinc X (v := x5) (ls' := [some (.ref v0), some (.int v1), some (.int v2), some (.int x5), some (.int v4), some (.int v5), some (.int v6), some (.int x1), some (.int x2), none]) dX9_safe_92 (by decide) rfl (by rw [ex5]; rfl) rfl ?_
        refine J_iload X dX9_safe_95 rfl ?_
        refine J_iload X dX9_safe_97 rfl ?_
        refine J_aload_n X dX9_safe_99 (i := 0) rfl rfl ?_
        refine T_getR X (kf := 5) cb9 kv0 (by decide) fl_X9_35 (fun _ _ _ => rfl) dX9_safe_100 ?_
        refine T_getR X (kf := 0) cb5 (wS3.1 _ _ kv0 5 _ rfl) (by decide) fl_X9_125 (fun _ _ _ => rfl) dX9_safe_103 ?_
        refine J_bipush X (v := (16 : Int32)) dX9_safe_106 (by decide) ?_
        refine J_iload_n X dX9_safe_108 (i := 1) rfl rfl ?_
        refine J_iadd X dX9_safe_109 ?_
        refine T_iald X (wS3.1 _ _ (wS3.1 _ _ kv0 5 _ rfl) 0 _ rfl) dX9_safe_110 (fun j6 => ?_)
        refine J_aload_n X dX9_safe_111 (i := 0) rfl rfl ?_
        refine T_getR X (kf := 5) cb9 kv0 (by decide) fl_X9_35 (fun _ _ _ => rfl) dX9_safe_112 ?_
        refine T_getR X (kf := 0) cb5 (wS3.1 _ _ kv0 5 _ rfl) (by decide) fl_X9_125 (fun _ _ _ => rfl) dX9_safe_115 ?_
        refine J_bipush X (v := (22 : Int32)) dX9_safe_118 (by decide) ?_
        refine J_iload_n X dX9_safe_120 (i := 1) rfl rfl ?_
        refine J_iadd X dX9_safe_121 ?_
        refine T_iald X (wS3.1 _ _ (wS3.1 _ _ kv0 5 _ rfl) 0 _ rfl) dX9_safe_122 (fun j7 => ?_)
        refine T_callS (As := [.int x1, .int x2, .int (S3.1 (S3.2.2 (S3.2.2 v0 5) 0) j6), .int (S3.1 (S3.2.2 (S3.2.2 v0 5) 0) j7)]) wS3 X (C_X9_farApart (kG K) x1 x2 (S3.1 (S3.2.2 (S3.2.2 v0 5) 0) j6) (S3.1 (S3.2.2 (S3.2.2 v0 5) 0) j7) S3) ml_X9_274 st_yX9_farApart ii_RX9 co_yX9_farApart hy_X9_farApart (hRd hR (by decide) (by decide)) rfl (Nat.le_of_ble_eq_true rfl) dX9_safe_123 (fun r9 S8 _ wS8 => ?_)
        refine J_istore X (ls' := [some (.ref v0), some (.int v1), some (.int v2), some (.int x5), some (.int v4), some (.int v5), some (.int v6), some (.int x1), some (.int x2), some (.int r9)]) dX9_safe_126 (by decide) rfl ?_
        refine J_iload X dX9_safe_128 rfl ?_
        refine J_iload X dX9_safe_130 rfl ?_
        refine J_icmp_ge X (tgt := 143) dX9_safe_132 (by decide) ?_ ?_
        · refine J_mask [true, true, true, true, true, true, true, false, false, false] ?_
          exact t_X9_safe_143 X hR ih v0 kv0 v1 v2 x5 v4 v5 v6 S8 wS8
        · refine J_iload X dX9_safe_135 rfl ?_
          refine J_istore X (ls' := [some (.ref v0), some (.int v1), some (.int v2), some (.int x5), some (.int v4), some (.int r9), some (.int v6), some (.int x1), some (.int x2), some (.int r9)]) dX9_safe_137 (by decide) rfl ?_
          refine J_iload X dX9_safe_139 rfl ?_
          refine J_istore X (ls' := [some (.ref v0), some (.int v1), some (.int v2), some (.int x5), some (.int v6), some (.int r9), some (.int v6), some (.int x1), some (.int x2), some (.int r9)]) dX9_safe_141 (by decide) rfl ?_
          refine J_mask [true, true, true, true, true, true, true, false, false, false] ?_
          exact t_X9_safe_143 X hR ih v0 kv0 v1 v2 x5 v6 r9 v6 S8 wS8
      · refine J_mask [true, true, true, true, true, true, true, false, false, false] ?_
        exact t_X9_safe_143 X hR ih v0 kv0 v1 v2 v3 v4 v5 v6 S3 wS3
set_option maxRecDepth 20000 in
def f_X9_safe (v0 : Nat) (v1 : Int32) (v2 : Int32) (S : St) : Option (Int32 × St) := bd (f_X9_isPerson v0 v1 S) fun r2 S1 => if r2 = 0 then (some ((-1 : Int32), S1)) else (bd (f_X9_isWithin v2 (0 : Int32) (1 : Int32) S1) fun r4 S3 => if r4 = 0 then (some ((-1 : Int32), S3)) else (bd (f_X5_isOff (S3.2.2 v0 5) v1 S3) fun r6 S5 => if r6 = 0 then (b_X9_safe_46 FU v0 v1 v2 (0 : Int32) (-2 : Int32) (10 : Int32) (0 : Int32) S5) else (some ((-3 : Int32), S5))))
set_option maxRecDepth 20000 in
theorem t_X9_safe_0 {K : KK} (X : CX K cX9_safe 10 RX9 (some .int)) (hR : kR K = rmD 6) (v0 : Nat) (kv0 : KA (kDn K) v0 (0, 9)) (v1 : Int32) (v2 : Int32) (S : St) (w : WT (kDn K) S.2.2) : JX K (Zm K (fun v : Int32 => some (.int v))) 0 [some (.ref v0), some (.int v1), some (.int v2), none, none, none, none, none, none, none] [] (rwN (kN K) S) (kn K) 0 0 (f_X9_safe v0 v1 v2 S) := by
  unfold f_X9_safe
  refine J_aload_n X dX9_safe_0 (i := 0) rfl rfl ?_
  refine J_iload_n X dX9_safe_1 (i := 1) rfl rfl ?_
  refine T_callV (As := [.int v1]) w X (C_X9_isPerson (kG K) v0 kv0 v1 S) cb9 kv0 ml_X9_132 in_yX9_isPerson se_yX9_isPerson ii_RX9 co_yX9_isPerson hy_X9_isPerson (hRd hR (by decide) (by decide)) rfl (Nat.le_of_ble_eq_true rfl) dX9_safe_2 (fun r2 S1 _ wS1 => ?_)
  refine J_if_eq X (tgt := 17) dX9_safe_5 (by decide) ?_ ?_
  · refine J_iconst X (v := (-1 : Int32)) dX9_safe_17 (by decide) ?_
    exact T_iret wS1 X dX9_safe_18
  · refine J_iload_n X dX9_safe_8 (i := 2) rfl rfl ?_
    refine J_iconst X (v := (0 : Int32)) dX9_safe_9 (by decide) ?_
    refine J_iconst X (v := (1 : Int32)) dX9_safe_10 (by decide) ?_
    refine T_callS (As := [.int v2, .int (0 : Int32), .int (1 : Int32)]) wS1 X (C_X9_isWithin (kG K) v2 (0 : Int32) (1 : Int32) S1) ml_X9_224 st_yX9_isWithin ii_RX9 co_yX9_isWithin hy_X9_isWithin (hRd hR (by decide) (by decide)) rfl (Nat.le_of_ble_eq_true rfl) dX9_safe_11 (fun r4 S3 _ wS3 => ?_)
    refine J_if_ne X (tgt := 19) dX9_safe_14 (by decide) ?_ ?_
    · refine J_iconst X (v := (-1 : Int32)) dX9_safe_17 (by decide) ?_
      exact T_iret wS3 X dX9_safe_18
    · refine J_aload_n X dX9_safe_19 (i := 0) rfl rfl ?_
      refine T_getR X (kf := 5) cb9 kv0 (by decide) fl_X9_35 (fun _ _ _ => rfl) dX9_safe_20 ?_
      refine J_iload_n X dX9_safe_23 (i := 1) rfl rfl ?_
      refine T_callV (As := [.int v1]) wS3 X (C_X5_isOff (kG K) (S3.2.2 v0 5) (wS3.1 _ _ kv0 5 _ rfl) v1 S3) cb5 (wS3.1 _ _ kv0 5 _ rfl) ml_X9_139 in_yX5_isOff se_yX5_isOff ii_RX5 co_yX5_isOff hy_X5_isOff (hRd hR (by decide) (by decide)) rfl (Nat.le_of_ble_eq_true rfl) dX9_safe_24 (fun r6 S5 _ wS5 => ?_)
      refine J_if_eq X (tgt := 33) dX9_safe_27 (by decide) ?_ ?_
      · refine J_iconst X (v := (0 : Int32)) dX9_safe_33 (by decide) ?_
        refine J_istore_n X (i := 3) (ls' := [some (.ref v0), some (.int v1), some (.int v2), some (.int (0 : Int32)), none, none, none, none, none, none]) dX9_safe_34 rfl (by decide) rfl ?_
        refine J_bipush X (v := (-2 : Int32)) dX9_safe_35 (by decide) ?_
        refine J_istore X (ls' := [some (.ref v0), some (.int v1), some (.int v2), some (.int (0 : Int32)), some (.int (-2 : Int32)), none, none, none, none, none]) dX9_safe_37 (by decide) rfl ?_
        refine J_bipush X (v := (10 : Int32)) dX9_safe_39 (by decide) ?_
        refine J_istore X (ls' := [some (.ref v0), some (.int v1), some (.int v2), some (.int (0 : Int32)), some (.int (-2 : Int32)), some (.int (10 : Int32)), none, none, none, none]) dX9_safe_41 (by decide) rfl ?_
        refine J_iconst X (v := (0 : Int32)) dX9_safe_43 (by decide) ?_
        refine J_istore X (ls' := [some (.ref v0), some (.int v1), some (.int v2), some (.int (0 : Int32)), some (.int (-2 : Int32)), some (.int (10 : Int32)), some (.int (0 : Int32)), none, none, none]) dX9_safe_44 (by decide) rfl ?_
        exact t_X9_safe_46 X hR FU v0 kv0 v1 v2 (0 : Int32) (-2 : Int32) (10 : Int32) (0 : Int32) S5 wS5
      · refine J_bipush X (v := (-3 : Int32)) dX9_safe_30 (by decide) ?_
        exact T_iret wS5 X dX9_safe_32
theorem C_X9_safe (G : GG) (v0 : Nat) (kv0 : KA (gD G) v0 (0, 9)) (v1 : Int32) (v2 : Int32) (S : St) : CM G yX9_safe cX9_safe 10 (some .int) 6 [.ref v0, .int v1, .int v2] S (fun v : Int32 => some (.int v)) (f_X9_safe v0 v1 v2 S) :=
  CM_of (by decide) (Nat.le_of_ble_eq_true rfl) rfl (fun K hG X hR w => by subst hG; exact t_X9_safe_0 X hR v0 kv0 v1 v2 S w)
-- ==== X9_worth
theorem hy_X9_worth : yX9_worth.cls ≠ "java/lang/invoke/MethodHandle" ∧ yX9_worth.cls ≠ "java/lang/invoke/VarHandle" ∧ (parseMethodDescriptor yX9_worth.desc).map (fun d => d.parameters.length) = some 1 := by decide +kernel
set_option maxRecDepth 20000 in
def b_X9_worth_48 (q14 : Nat → Int32 → Int32 → Int32 → St → Option (Int32 × St)) (v0 : Nat) (v1 : Int32) (v2 : Int32) (v3 : Int32) (S : St) : Option (Int32 × St) := nm (v3 + (1 : Int32)) fun x1 => q14 v0 v1 v2 x1 S
set_option maxRecDepth 20000 in
theorem t_X9_worth_48 {K : KK} (X : CX K cX9_worth 4 RX9 (some .int)) (hR : kR K = rmD 4) {q14 : Nat → Int32 → Int32 → Int32 → St → Option (Int32 × St)} (hq14 : ∀ (v0 : Nat) (kv0 : KA (kDn K) v0 (0, 9)) (v1 : Int32) (v2 : Int32) (v3 : Int32) (S : St), WT (kDn K) S.2.2 → JX K (Zm K (fun v : Int32 => some (.int v))) 14 [some (.ref v0), some (.int v1), some (.int v2), some (.int v3)] [] (rwN (kN K) S) (kn K) 0 0 (q14 v0 v1 v2 v3 S)) (v0 : Nat) (kv0 : KA (kDn K) v0 (0, 9)) (v1 : Int32) (v2 : Int32) (v3 : Int32) (S : St) (w : WT (kDn K) S.2.2) : JX K (Zm K (fun v : Int32 => some (.int v))) 48 [some (.ref v0), some (.int v1), some (.int v2), some (.int v3)] [] (rwN (kN K) S) (kn K) 0 0 (b_X9_worth_48 q14 v0 v1 v2 v3 S) := by
  unfold b_X9_worth_48
  refine J_nmv (v3 + (1 : Int32)) (fun x1 ex1 => ?_)
  refine J_iinc X (v := x1) (ls' := [some (.ref v0), some (.int v1), some (.int v2), some (.int x1)]) dX9_worth_48 (by decide) rfl (by rw [ex1]; rfl) rfl ?_
  refine J_goto X (tgt := 14) dX9_worth_51 (by decide) ?_
  exact hq14 v0 kv0 v1 v2 x1 S w
set_option maxRecDepth 20000 in
def b_X9_worth_14 : Nat → Nat → Int32 → Int32 → Int32 → St → Option (Int32 × St)
  | 0, _, _, _, _, _ => none
  | fu + 1, v0, v1, v2, v3, S => if (S.1 (S.2.2 v0 3) 2) ≤ v3 then (some (v2, S)) else (bd (f_X5_isWorn (S.2.2 v0 5) v3 v1 S) fun r2 S1 => if r2 = 0 then (b_X9_worth_48 (b_X9_worth_14 fu) v0 v1 v2 v3 S1) else (bd (f_X8_priceOf (S1.2.2 v0 7) v3 S1) fun r4 S3 => nm (v2 + r4) fun x5 => b_X9_worth_48 (b_X9_worth_14 fu) v0 v1 x5 v3 S3))
set_option maxRecDepth 20000 in
theorem t_X9_worth_14 {K : KK} (X : CX K cX9_worth 4 RX9 (some .int)) (hR : kR K = rmD 4) : ∀ (fu : Nat) (v0 : Nat) (kv0 : KA (kDn K) v0 (0, 9)) (v1 : Int32) (v2 : Int32) (v3 : Int32) (S : St), WT (kDn K) S.2.2 → JX K (Zm K (fun v : Int32 => some (.int v))) 14 [some (.ref v0), some (.int v1), some (.int v2), some (.int v3)] [] (rwN (kN K) S) (kn K) 0 0 (b_X9_worth_14 fu v0 v1 v2 v3 S) := by
  intro fu
  induction fu with
  | zero => intro v0 kv0 v1 v2 v3 S w; exact J_none
  | succ fu ih =>
    intro v0 kv0 v1 v2 v3 S w
    rw [b_X9_worth_14]
    refine J_iload_n X dX9_worth_14 (i := 3) rfl rfl ?_
    refine J_aload_n X dX9_worth_15 (i := 0) rfl rfl ?_
    refine T_getR X (kf := 3) cb9 kv0 (by decide) fl_X9_16 (fun _ _ _ => rfl) dX9_worth_16 ?_
    refine T_getI X (kf := 2) cb0 (w.1 _ _ kv0 3 _ rfl) (by decide) fl_X9_118 (fun _ _ _ => rfl) dX9_worth_19 ?_
    refine J_icmp_ge X (tgt := 54) dX9_worth_22 (by decide) ?_ ?_
    · refine J_iload_n X dX9_worth_54 (i := 2) rfl rfl ?_
      exact T_iret w X dX9_worth_55
    · refine J_aload_n X dX9_worth_25 (i := 0) rfl rfl ?_
      refine T_getR X (kf := 5) cb9 kv0 (by decide) fl_X9_35 (fun _ _ _ => rfl) dX9_worth_26 ?_
      refine J_iload_n X dX9_worth_29 (i := 3) rfl rfl ?_
      refine J_iload_n X dX9_worth_30 (i := 1) rfl rfl ?_
      refine T_callV (As := [.int v3, .int v1]) w X (C_X5_isWorn (kG K) (S.2.2 v0 5) (w.1 _ _ kv0 5 _ rfl) v3 v1 S) cb5 (w.1 _ _ kv0 5 _ rfl) ml_X9_265 in_yX5_isWorn se_yX5_isWorn ii_RX5 co_yX5_isWorn hy_X5_isWorn (hRd hR (by decide) (by decide)) rfl (Nat.le_of_ble_eq_true rfl) dX9_worth_31 (fun r2 S1 _ wS1 => ?_)
      refine J_if_eq X (tgt := 48) dX9_worth_34 (by decide) ?_ ?_
      · exact t_X9_worth_48 X hR ih v0 kv0 v1 v2 v3 S1 wS1
      · refine J_iload_n X dX9_worth_37 (i := 2) rfl rfl ?_
        refine J_aload_n X dX9_worth_38 (i := 0) rfl rfl ?_
        refine T_getR X (kf := 7) cb9 kv0 (by decide) fl_X9_47 (fun _ _ _ => rfl) dX9_worth_39 ?_
        refine J_iload_n X dX9_worth_42 (i := 3) rfl rfl ?_
        refine T_callV (As := [.int v3]) wS1 X (C_X8_priceOf (kG K) (S1.2.2 v0 7) (wS1.1 _ _ kv0 7 _ rfl) v3 S1) cb8 (wS1.1 _ _ kv0 7 _ rfl) ml_X9_179 in_yX8_priceOf se_yX8_priceOf ii_RX8 co_yX8_priceOf hy_X8_priceOf (hRd hR (by decide) (by decide)) rfl (Nat.le_of_ble_eq_true rfl) dX9_worth_43 (fun r4 S3 _ wS3 => ?_)
        refine J_iadd X dX9_worth_46 ?_
        refine J_nmi (fun x5 => ?_)
        refine J_istore_n X (i := 2) (ls' := [some (.ref v0), some (.int v1), some (.int x5), some (.int v3)]) dX9_worth_47 rfl (by decide) rfl ?_
        exact t_X9_worth_48 X hR ih v0 kv0 v1 x5 v3 S3 wS3
set_option maxRecDepth 20000 in
def f_X9_worth (v0 : Nat) (v1 : Int32) (S : St) : Option (Int32 × St) := bd (f_X9_isPerson v0 v1 S) fun r2 S1 => if r2 = 0 then (some ((-1 : Int32), S1)) else (b_X9_worth_14 FU v0 v1 (0 : Int32) (0 : Int32) S1)
set_option maxRecDepth 20000 in
theorem t_X9_worth_0 {K : KK} (X : CX K cX9_worth 4 RX9 (some .int)) (hR : kR K = rmD 4) (v0 : Nat) (kv0 : KA (kDn K) v0 (0, 9)) (v1 : Int32) (S : St) (w : WT (kDn K) S.2.2) : JX K (Zm K (fun v : Int32 => some (.int v))) 0 [some (.ref v0), some (.int v1), none, none] [] (rwN (kN K) S) (kn K) 0 0 (f_X9_worth v0 v1 S) := by
  unfold f_X9_worth
  refine J_aload_n X dX9_worth_0 (i := 0) rfl rfl ?_
  refine J_iload_n X dX9_worth_1 (i := 1) rfl rfl ?_
  refine T_callV (As := [.int v1]) w X (C_X9_isPerson (kG K) v0 kv0 v1 S) cb9 kv0 ml_X9_132 in_yX9_isPerson se_yX9_isPerson ii_RX9 co_yX9_isPerson hy_X9_isPerson (hRd hR (by decide) (by decide)) rfl (Nat.le_of_ble_eq_true rfl) dX9_worth_2 (fun r2 S1 _ wS1 => ?_)
  refine J_if_ne X (tgt := 10) dX9_worth_5 (by decide) ?_ ?_
  · refine J_iconst X (v := (-1 : Int32)) dX9_worth_8 (by decide) ?_
    exact T_iret wS1 X dX9_worth_9
  · refine J_iconst X (v := (0 : Int32)) dX9_worth_10 (by decide) ?_
    refine J_istore_n X (i := 2) (ls' := [some (.ref v0), some (.int v1), some (.int (0 : Int32)), none]) dX9_worth_11 rfl (by decide) rfl ?_
    refine J_iconst X (v := (0 : Int32)) dX9_worth_12 (by decide) ?_
    refine J_istore_n X (i := 3) (ls' := [some (.ref v0), some (.int v1), some (.int (0 : Int32)), some (.int (0 : Int32))]) dX9_worth_13 rfl (by decide) rfl ?_
    exact t_X9_worth_14 X hR FU v0 kv0 v1 (0 : Int32) (0 : Int32) S1 wS1
theorem C_X9_worth (G : GG) (v0 : Nat) (kv0 : KA (gD G) v0 (0, 9)) (v1 : Int32) (S : St) : CM G yX9_worth cX9_worth 4 (some .int) 4 [.ref v0, .int v1] S (fun v : Int32 => some (.int v)) (f_X9_worth v0 v1 S) :=
  CM_of (by decide) (Nat.le_of_ble_eq_true rfl) rfl (fun K hG X hR w => by subst hG; exact t_X9_worth_0 X hR v0 kv0 v1 S w)
-- ==== X9_tell
theorem hy_X9_tell : yX9_tell.cls ≠ "java/lang/invoke/MethodHandle" ∧ yX9_tell.cls ≠ "java/lang/invoke/VarHandle" ∧ (parseMethodDescriptor yX9_tell.desc).map (fun d => d.parameters.length) = some 4 := by decide +kernel
set_option maxRecDepth 20000 in
def f_X9_tell (v0 : Nat) (v1 : Int32) (v2 : Int32) (v3 : Int32) (v4 : Int32) (S : St) : Option (Int32 × St) := bd (f_X9_isWithin v1 (0 : Int32) (9 : Int32) S) fun r2 S1 => if r2 = 0 then (some ((-1 : Int32), S1)) else (bd (f_X9_isWithin v2 (0 : Int32) (9 : Int32) S1) fun r4 S3 => if r4 = 0 then (some ((-1 : Int32), S3)) else (bd (f_X9_isWithin v3 (-1 : Int32) (1 : Int32) S3) fun r6 S5 => if r6 = 0 then (some ((-1 : Int32), S5)) else (bd (f_X9_isWithin v4 (-1 : Int32) (1 : Int32) S5) fun r8 S7 => if r8 = 0 then (some ((-1 : Int32), S7)) else (bd (f_X7_add (S7.2.2 v0 13) v1 v2 v3 v4 S7) fun r10 S9 => some (r10, S9)))))
set_option maxRecDepth 20000 in
theorem t_X9_tell_0 {K : KK} (X : CX K cX9_tell 5 RX9 (some .int)) (hR : kR K = rmD 1) (v0 : Nat) (kv0 : KA (kDn K) v0 (0, 9)) (v1 : Int32) (v2 : Int32) (v3 : Int32) (v4 : Int32) (S : St) (w : WT (kDn K) S.2.2) : JX K (Zm K (fun v : Int32 => some (.int v))) 0 [some (.ref v0), some (.int v1), some (.int v2), some (.int v3), some (.int v4)] [] (rwN (kN K) S) (kn K) 0 0 (f_X9_tell v0 v1 v2 v3 v4 S) := by
  unfold f_X9_tell
  refine J_iload_n X dX9_tell_0 (i := 1) rfl rfl ?_
  refine J_iconst X (v := (0 : Int32)) dX9_tell_1 (by decide) ?_
  refine J_bipush X (v := (9 : Int32)) dX9_tell_2 (by decide) ?_
  refine T_callS (As := [.int v1, .int (0 : Int32), .int (9 : Int32)]) w X (C_X9_isWithin (kG K) v1 (0 : Int32) (9 : Int32) S) ml_X9_224 st_yX9_isWithin ii_RX9 co_yX9_isWithin hy_X9_isWithin (hRd hR (by decide) (by decide)) rfl (Nat.le_of_ble_eq_true rfl) dX9_tell_4 (fun r2 S1 _ wS1 => ?_)
  refine J_if_eq X (tgt := 39) dX9_tell_7 (by decide) ?_ ?_
  · refine J_iconst X (v := (-1 : Int32)) dX9_tell_39 (by decide) ?_
    exact T_iret wS1 X dX9_tell_40
  · refine J_iload_n X dX9_tell_10 (i := 2) rfl rfl ?_
    refine J_iconst X (v := (0 : Int32)) dX9_tell_11 (by decide) ?_
    refine J_bipush X (v := (9 : Int32)) dX9_tell_12 (by decide) ?_
    refine T_callS (As := [.int v2, .int (0 : Int32), .int (9 : Int32)]) wS1 X (C_X9_isWithin (kG K) v2 (0 : Int32) (9 : Int32) S1) ml_X9_224 st_yX9_isWithin ii_RX9 co_yX9_isWithin hy_X9_isWithin (hRd hR (by decide) (by decide)) rfl (Nat.le_of_ble_eq_true rfl) dX9_tell_14 (fun r4 S3 _ wS3 => ?_)
    refine J_if_eq X (tgt := 39) dX9_tell_17 (by decide) ?_ ?_
    · refine J_iconst X (v := (-1 : Int32)) dX9_tell_39 (by decide) ?_
      exact T_iret wS3 X dX9_tell_40
    · refine J_iload_n X dX9_tell_20 (i := 3) rfl rfl ?_
      refine J_iconst X (v := (-1 : Int32)) dX9_tell_21 (by decide) ?_
      refine J_iconst X (v := (1 : Int32)) dX9_tell_22 (by decide) ?_
      refine T_callS (As := [.int v3, .int (-1 : Int32), .int (1 : Int32)]) wS3 X (C_X9_isWithin (kG K) v3 (-1 : Int32) (1 : Int32) S3) ml_X9_224 st_yX9_isWithin ii_RX9 co_yX9_isWithin hy_X9_isWithin (hRd hR (by decide) (by decide)) rfl (Nat.le_of_ble_eq_true rfl) dX9_tell_23 (fun r6 S5 _ wS5 => ?_)
      refine J_if_eq X (tgt := 39) dX9_tell_26 (by decide) ?_ ?_
      · refine J_iconst X (v := (-1 : Int32)) dX9_tell_39 (by decide) ?_
        exact T_iret wS5 X dX9_tell_40
      · refine J_iload X dX9_tell_29 rfl ?_
        refine J_iconst X (v := (-1 : Int32)) dX9_tell_31 (by decide) ?_
        refine J_iconst X (v := (1 : Int32)) dX9_tell_32 (by decide) ?_
        refine T_callS (As := [.int v4, .int (-1 : Int32), .int (1 : Int32)]) wS5 X (C_X9_isWithin (kG K) v4 (-1 : Int32) (1 : Int32) S5) ml_X9_224 st_yX9_isWithin ii_RX9 co_yX9_isWithin hy_X9_isWithin (hRd hR (by decide) (by decide)) rfl (Nat.le_of_ble_eq_true rfl) dX9_tell_33 (fun r8 S7 _ wS7 => ?_)
        refine J_if_ne X (tgt := 41) dX9_tell_36 (by decide) ?_ ?_
        · refine J_iconst X (v := (-1 : Int32)) dX9_tell_39 (by decide) ?_
          exact T_iret wS7 X dX9_tell_40
        · refine J_aload_n X dX9_tell_41 (i := 0) rfl rfl ?_
          refine T_getR X (kf := 13) cb9 kv0 (by decide) fl_X9_75 (fun _ _ _ => rfl) dX9_tell_42 ?_
          refine J_iload_n X dX9_tell_45 (i := 1) rfl rfl ?_
          refine J_iload_n X dX9_tell_46 (i := 2) rfl rfl ?_
          refine J_iload_n X dX9_tell_47 (i := 3) rfl rfl ?_
          refine J_iload X dX9_tell_48 rfl ?_
          refine T_callV (As := [.int v1, .int v2, .int v3, .int v4]) wS7 X (C_X7_add (kG K) (S7.2.2 v0 13) (wS7.1 _ _ kv0 13 _ rfl) v1 v2 v3 v4 S7) cb7 (wS7.1 _ _ kv0 13 _ rfl) ml_X9_277 in_yX7_add se_yX7_add ii_RX7 co_yX7_add hy_X7_add (hRd hR (by decide) (by decide)) rfl (Nat.le_of_ble_eq_true rfl) dX9_tell_50 (fun r10 S9 _ wS9 => ?_)
          exact T_iret wS9 X dX9_tell_53
theorem C_X9_tell (G : GG) (v0 : Nat) (kv0 : KA (gD G) v0 (0, 9)) (v1 : Int32) (v2 : Int32) (v3 : Int32) (v4 : Int32) (S : St) : CM G yX9_tell cX9_tell 5 (some .int) 1 [.ref v0, .int v1, .int v2, .int v3, .int v4] S (fun v : Int32 => some (.int v)) (f_X9_tell v0 v1 v2 v3 v4 S) :=
  CM_of (by decide) (Nat.le_of_ble_eq_true rfl) rfl (fun K hG X hR w => by subst hG; exact t_X9_tell_0 X hR v0 kv0 v1 v2 v3 v4 S w)
-- ==== X9_forget
theorem hy_X9_forget : yX9_forget.cls ≠ "java/lang/invoke/MethodHandle" ∧ yX9_forget.cls ≠ "java/lang/invoke/VarHandle" ∧ (parseMethodDescriptor yX9_forget.desc).map (fun d => d.parameters.length) = some 0 := by decide +kernel
set_option maxRecDepth 20000 in
def f_X9_forget (v0 : Nat) (S : St) : Option (Int32 × St) := nm (S.1 (S.2.2 v0 13) 4) fun x1 => bd (f_X7_clearAll (S.2.2 v0 13) S) fun _ S2 => some (x1, S2)
set_option maxRecDepth 20000 in
theorem t_X9_forget_0 {K : KK} (X : CX K cX9_forget 2 RX9 (some .int)) (hR : kR K = rmD 1) (v0 : Nat) (kv0 : KA (kDn K) v0 (0, 9)) (S : St) (w : WT (kDn K) S.2.2) : JX K (Zm K (fun v : Int32 => some (.int v))) 0 [some (.ref v0), none] [] (rwN (kN K) S) (kn K) 0 0 (f_X9_forget v0 S) := by
  unfold f_X9_forget
  refine J_aload_n X dX9_forget_0 (i := 0) rfl rfl ?_
  refine T_getR X (kf := 13) cb9 kv0 (by decide) fl_X9_75 (fun _ _ _ => rfl) dX9_forget_1 ?_
  refine T_getI X (kf := 4) cb7 (w.1 _ _ kv0 13 _ rfl) (by decide) fl_X9_200 (fun _ _ _ => rfl) dX9_forget_4 ?_
  refine J_nmi (fun x1 => ?_)
  refine J_istore_n X (i := 1) (ls' := [some (.ref v0), some (.int x1)]) dX9_forget_7 rfl (by decide) rfl ?_
  refine J_aload_n X dX9_forget_8 (i := 0) rfl rfl ?_
  refine T_getR X (kf := 13) cb9 kv0 (by decide) fl_X9_75 (fun _ _ _ => rfl) dX9_forget_9 ?_
  refine T_callV (As := []) w X (C_X7_clearAll (kG K) (S.2.2 v0 13) (w.1 _ _ kv0 13 _ rfl) S) cb7 (w.1 _ _ kv0 13 _ rfl) ml_X9_108 in_yX7_clearAll se_yX7_clearAll ii_RX7 co_yX7_clearAll hy_X7_clearAll (hRd hR (by decide) (by decide)) rfl (Nat.le_of_ble_eq_true rfl) dX9_forget_12 (fun _ S2 _ wS2 => ?_)
  refine J_iload_n X dX9_forget_15 (i := 1) rfl rfl ?_
  exact T_iret wS2 X dX9_forget_16
theorem C_X9_forget (G : GG) (v0 : Nat) (kv0 : KA (gD G) v0 (0, 9)) (S : St) : CM G yX9_forget cX9_forget 2 (some .int) 1 [.ref v0] S (fun v : Int32 => some (.int v)) (f_X9_forget v0 S) :=
  CM_of (by decide) (Nat.le_of_ble_eq_true rfl) rfl (fun K hG X hR w => by subst hG; exact t_X9_forget_0 X hR v0 kv0 S w)
-- ==== X9_where
theorem hy_X9_where : yX9_where.cls ≠ "java/lang/invoke/MethodHandle" ∧ yX9_where.cls ≠ "java/lang/invoke/VarHandle" ∧ (parseMethodDescriptor yX9_where.desc).map (fun d => d.parameters.length) = some 1 := by decide +kernel
set_option maxRecDepth 20000 in
def f_X9_where (v0 : Nat) (v1 : Int32) (S : St) : Option (Int32 × St) := bd (f_X9_isWithin v1 (0 : Int32) (S.1 (S.2.2 v0 13) 4) S) fun r2 S1 => if r2 = 0 then (some ((-1 : Int32), S1)) else (bd (f_X7_lookBy (S1.2.2 v0 13) v1 S1) fun _ S3 => some (S3.1 (S3.2.2 v0 13) 7, S3))
set_option maxRecDepth 20000 in
theorem t_X9_where_0 {K : KK} (X : CX K cX9_where 2 RX9 (some .int)) (hR : kR K = rmD 3) (v0 : Nat) (kv0 : KA (kDn K) v0 (0, 9)) (v1 : Int32) (S : St) (w : WT (kDn K) S.2.2) : JX K (Zm K (fun v : Int32 => some (.int v))) 0 [some (.ref v0), some (.int v1)] [] (rwN (kN K) S) (kn K) 0 0 (f_X9_where v0 v1 S) := by
  unfold f_X9_where
  refine J_iload_n X dX9_where_0 (i := 1) rfl rfl ?_
  refine J_iconst X (v := (0 : Int32)) dX9_where_1 (by decide) ?_
  refine J_aload_n X dX9_where_2 (i := 0) rfl rfl ?_
  refine T_getR X (kf := 13) cb9 kv0 (by decide) fl_X9_75 (fun _ _ _ => rfl) dX9_where_3 ?_
  refine T_getI X (kf := 4) cb7 (w.1 _ _ kv0 13 _ rfl) (by decide) fl_X9_200 (fun _ _ _ => rfl) dX9_where_6 ?_
  refine T_callS (As := [.int v1, .int (0 : Int32), .int (S.1 (S.2.2 v0 13) 4)]) w X (C_X9_isWithin (kG K) v1 (0 : Int32) (S.1 (S.2.2 v0 13) 4) S) ml_X9_224 st_yX9_isWithin ii_RX9 co_yX9_isWithin hy_X9_isWithin (hRd hR (by decide) (by decide)) rfl (Nat.le_of_ble_eq_true rfl) dX9_where_9 (fun r2 S1 _ wS1 => ?_)
  refine J_if_ne X (tgt := 17) dX9_where_12 (by decide) ?_ ?_
  · refine J_iconst X (v := (-1 : Int32)) dX9_where_15 (by decide) ?_
    exact T_iret wS1 X dX9_where_16
  · refine J_aload_n X dX9_where_17 (i := 0) rfl rfl ?_
    refine T_getR X (kf := 13) cb9 kv0 (by decide) fl_X9_75 (fun _ _ _ => rfl) dX9_where_18 ?_
    refine J_iload_n X dX9_where_21 (i := 1) rfl rfl ?_
    refine T_callV (As := [.int v1]) wS1 X (C_X7_lookBy (kG K) (S1.2.2 v0 13) (wS1.1 _ _ kv0 13 _ rfl) v1 S1) cb7 (wS1.1 _ _ kv0 13 _ rfl) ml_X9_280 in_yX7_lookBy se_yX7_lookBy ii_RX7 co_yX7_lookBy hy_X7_lookBy (hRd hR (by decide) (by decide)) rfl (Nat.le_of_ble_eq_true rfl) dX9_where_22 (fun _ S3 _ wS3 => ?_)
    refine J_aload_n X dX9_where_25 (i := 0) rfl rfl ?_
    refine T_getR X (kf := 13) cb9 kv0 (by decide) fl_X9_75 (fun _ _ _ => rfl) dX9_where_26 ?_
    refine T_getI X (kf := 7) cb7 (wS3.1 _ _ kv0 13 _ rfl) (by decide) fl_X9_283 (fun _ _ _ => rfl) dX9_where_29 ?_
    exact T_iret wS3 X dX9_where_32
theorem C_X9_where (G : GG) (v0 : Nat) (kv0 : KA (gD G) v0 (0, 9)) (v1 : Int32) (S : St) : CM G yX9_where cX9_where 2 (some .int) 3 [.ref v0, .int v1] S (fun v : Int32 => some (.int v)) (f_X9_where v0 v1 S) :=
  CM_of (by decide) (Nat.le_of_ble_eq_true rfl) rfl (fun K hG X hR w => by subst hG; exact t_X9_where_0 X hR v0 kv0 v1 S w)
-- ==== X9_surest
theorem hy_X9_surest : yX9_surest.cls ≠ "java/lang/invoke/MethodHandle" ∧ yX9_surest.cls ≠ "java/lang/invoke/VarHandle" ∧ (parseMethodDescriptor yX9_surest.desc).map (fun d => d.parameters.length) = some 1 := by decide +kernel
set_option maxRecDepth 20000 in
def f_X9_surest (v0 : Nat) (v1 : Int32) (S : St) : Option (Int32 × St) := bd (f_X9_isWithin v1 (0 : Int32) (S.1 (S.2.2 v0 13) 4) S) fun r2 S1 => if r2 = 0 then (some ((-1 : Int32), S1)) else (bd (f_X7_lookBy (S1.2.2 v0 13) v1 S1) fun _ S3 => bd (f_X7_firstLeft (S3.2.2 v0 13) S3) fun r6 S5 => some (r6, S5))
set_option maxRecDepth 20000 in
theorem t_X9_surest_0 {K : KK} (X : CX K cX9_surest 2 RX9 (some .int)) (hR : kR K = rmD 3) (v0 : Nat) (kv0 : KA (kDn K) v0 (0, 9)) (v1 : Int32) (S : St) (w : WT (kDn K) S.2.2) : JX K (Zm K (fun v : Int32 => some (.int v))) 0 [some (.ref v0), some (.int v1)] [] (rwN (kN K) S) (kn K) 0 0 (f_X9_surest v0 v1 S) := by
  unfold f_X9_surest
  refine J_iload_n X dX9_surest_0 (i := 1) rfl rfl ?_
  refine J_iconst X (v := (0 : Int32)) dX9_surest_1 (by decide) ?_
  refine J_aload_n X dX9_surest_2 (i := 0) rfl rfl ?_
  refine T_getR X (kf := 13) cb9 kv0 (by decide) fl_X9_75 (fun _ _ _ => rfl) dX9_surest_3 ?_
  refine T_getI X (kf := 4) cb7 (w.1 _ _ kv0 13 _ rfl) (by decide) fl_X9_200 (fun _ _ _ => rfl) dX9_surest_6 ?_
  refine T_callS (As := [.int v1, .int (0 : Int32), .int (S.1 (S.2.2 v0 13) 4)]) w X (C_X9_isWithin (kG K) v1 (0 : Int32) (S.1 (S.2.2 v0 13) 4) S) ml_X9_224 st_yX9_isWithin ii_RX9 co_yX9_isWithin hy_X9_isWithin (hRd hR (by decide) (by decide)) rfl (Nat.le_of_ble_eq_true rfl) dX9_surest_9 (fun r2 S1 _ wS1 => ?_)
  refine J_if_ne X (tgt := 17) dX9_surest_12 (by decide) ?_ ?_
  · refine J_iconst X (v := (-1 : Int32)) dX9_surest_15 (by decide) ?_
    exact T_iret wS1 X dX9_surest_16
  · refine J_aload_n X dX9_surest_17 (i := 0) rfl rfl ?_
    refine T_getR X (kf := 13) cb9 kv0 (by decide) fl_X9_75 (fun _ _ _ => rfl) dX9_surest_18 ?_
    refine J_iload_n X dX9_surest_21 (i := 1) rfl rfl ?_
    refine T_callV (As := [.int v1]) wS1 X (C_X7_lookBy (kG K) (S1.2.2 v0 13) (wS1.1 _ _ kv0 13 _ rfl) v1 S1) cb7 (wS1.1 _ _ kv0 13 _ rfl) ml_X9_280 in_yX7_lookBy se_yX7_lookBy ii_RX7 co_yX7_lookBy hy_X7_lookBy (hRd hR (by decide) (by decide)) rfl (Nat.le_of_ble_eq_true rfl) dX9_surest_22 (fun _ S3 _ wS3 => ?_)
    refine J_aload_n X dX9_surest_25 (i := 0) rfl rfl ?_
    refine T_getR X (kf := 13) cb9 kv0 (by decide) fl_X9_75 (fun _ _ _ => rfl) dX9_surest_26 ?_
    refine T_callV (As := []) wS3 X (C_X7_firstLeft (kG K) (S3.2.2 v0 13) (wS3.1 _ _ kv0 13 _ rfl) S3) cb7 (wS3.1 _ _ kv0 13 _ rfl) ml_X9_286 in_yX7_firstLeft se_yX7_firstLeft ii_RX7 co_yX7_firstLeft hy_X7_firstLeft (hRd hR (by decide) (by decide)) rfl (Nat.le_of_ble_eq_true rfl) dX9_surest_29 (fun r6 S5 _ wS5 => ?_)
    exact T_iret wS5 X dX9_surest_32
theorem C_X9_surest (G : GG) (v0 : Nat) (kv0 : KA (gD G) v0 (0, 9)) (v1 : Int32) (S : St) : CM G yX9_surest cX9_surest 2 (some .int) 3 [.ref v0, .int v1] S (fun v : Int32 => some (.int v)) (f_X9_surest v0 v1 S) :=
  CM_of (by decide) (Nat.le_of_ble_eq_true rfl) rfl (fun K hG X hR w => by subst hG; exact t_X9_surest_0 X hR v0 kv0 v1 S w)
-- ==== X9_holdNext
theorem hy_X9_holdNext : yX9_holdNext.cls ≠ "java/lang/invoke/MethodHandle" ∧ yX9_holdNext.cls ≠ "java/lang/invoke/VarHandle" ∧ (parseMethodDescriptor yX9_holdNext.desc).map (fun d => d.parameters.length) = some 1 := by decide +kernel
set_option maxRecDepth 20000 in
def f_X9_holdNext (v0 : Nat) (v1 : Int32) (S : St) : Option (Int32 × St) := bd (f_X9_isWithin v1 (0 : Int32) (S.1 (S.2.2 v0 13) 4) S) fun r2 S1 => if r2 = 0 then (some ((-1 : Int32), S1)) else (bd (f_X7_lookBy (S1.2.2 v0 13) v1 S1) fun _ S3 => if (S3.1 (S3.2.2 v0 13) 7) = 0 then (some ((-2 : Int32), S3)) else (bd (f_X7_bestNext (S3.2.2 v0 13) S3) fun r6 S5 => some (r6, S5)))
set_option maxRecDepth 20000 in
theorem t_X9_holdNext_0 {K : KK} (X : CX K cX9_holdNext 2 RX9 (some .int)) (hR : kR K = rmD 3) (v0 : Nat) (kv0 : KA (kDn K) v0 (0, 9)) (v1 : Int32) (S : St) (w : WT (kDn K) S.2.2) : JX K (Zm K (fun v : Int32 => some (.int v))) 0 [some (.ref v0), some (.int v1)] [] (rwN (kN K) S) (kn K) 0 0 (f_X9_holdNext v0 v1 S) := by
  unfold f_X9_holdNext
  refine J_iload_n X dX9_holdNext_0 (i := 1) rfl rfl ?_
  refine J_iconst X (v := (0 : Int32)) dX9_holdNext_1 (by decide) ?_
  refine J_aload_n X dX9_holdNext_2 (i := 0) rfl rfl ?_
  refine T_getR X (kf := 13) cb9 kv0 (by decide) fl_X9_75 (fun _ _ _ => rfl) dX9_holdNext_3 ?_
  refine T_getI X (kf := 4) cb7 (w.1 _ _ kv0 13 _ rfl) (by decide) fl_X9_200 (fun _ _ _ => rfl) dX9_holdNext_6 ?_
  refine T_callS (As := [.int v1, .int (0 : Int32), .int (S.1 (S.2.2 v0 13) 4)]) w X (C_X9_isWithin (kG K) v1 (0 : Int32) (S.1 (S.2.2 v0 13) 4) S) ml_X9_224 st_yX9_isWithin ii_RX9 co_yX9_isWithin hy_X9_isWithin (hRd hR (by decide) (by decide)) rfl (Nat.le_of_ble_eq_true rfl) dX9_holdNext_9 (fun r2 S1 _ wS1 => ?_)
  refine J_if_ne X (tgt := 17) dX9_holdNext_12 (by decide) ?_ ?_
  · refine J_iconst X (v := (-1 : Int32)) dX9_holdNext_15 (by decide) ?_
    exact T_iret wS1 X dX9_holdNext_16
  · refine J_aload_n X dX9_holdNext_17 (i := 0) rfl rfl ?_
    refine T_getR X (kf := 13) cb9 kv0 (by decide) fl_X9_75 (fun _ _ _ => rfl) dX9_holdNext_18 ?_
    refine J_iload_n X dX9_holdNext_21 (i := 1) rfl rfl ?_
    refine T_callV (As := [.int v1]) wS1 X (C_X7_lookBy (kG K) (S1.2.2 v0 13) (wS1.1 _ _ kv0 13 _ rfl) v1 S1) cb7 (wS1.1 _ _ kv0 13 _ rfl) ml_X9_280 in_yX7_lookBy se_yX7_lookBy ii_RX7 co_yX7_lookBy hy_X7_lookBy (hRd hR (by decide) (by decide)) rfl (Nat.le_of_ble_eq_true rfl) dX9_holdNext_22 (fun _ S3 _ wS3 => ?_)
    refine J_aload_n X dX9_holdNext_25 (i := 0) rfl rfl ?_
    refine T_getR X (kf := 13) cb9 kv0 (by decide) fl_X9_75 (fun _ _ _ => rfl) dX9_holdNext_26 ?_
    refine T_getI X (kf := 7) cb7 (wS3.1 _ _ kv0 13 _ rfl) (by decide) fl_X9_283 (fun _ _ _ => rfl) dX9_holdNext_29 ?_
    refine J_if_ne X (tgt := 40) dX9_holdNext_32 (by decide) ?_ ?_
    · refine J_bipush X (v := (-2 : Int32)) dX9_holdNext_35 (by decide) ?_
      refine J_goto X (tgt := 47) dX9_holdNext_37 (by decide) ?_
      exact T_iret wS3 X dX9_holdNext_47
    · refine J_aload_n X dX9_holdNext_40 (i := 0) rfl rfl ?_
      refine T_getR X (kf := 13) cb9 kv0 (by decide) fl_X9_75 (fun _ _ _ => rfl) dX9_holdNext_41 ?_
      refine T_callV (As := []) wS3 X (C_X7_bestNext (kG K) (S3.2.2 v0 13) (wS3.1 _ _ kv0 13 _ rfl) S3) cb7 (wS3.1 _ _ kv0 13 _ rfl) ml_X9_289 in_yX7_bestNext se_yX7_bestNext ii_RX7 co_yX7_bestNext hy_X7_bestNext (hRd hR (by decide) (by decide)) rfl (Nat.le_of_ble_eq_true rfl) dX9_holdNext_44 (fun r6 S5 _ wS5 => ?_)
      exact T_iret wS5 X dX9_holdNext_47
theorem C_X9_holdNext (G : GG) (v0 : Nat) (kv0 : KA (gD G) v0 (0, 9)) (v1 : Int32) (S : St) : CM G yX9_holdNext cX9_holdNext 2 (some .int) 3 [.ref v0, .int v1] S (fun v : Int32 => some (.int v)) (f_X9_holdNext v0 v1 S) :=
  CM_of (by decide) (Nat.le_of_ble_eq_true rfl) rfl (fun K hG X hR w => by subst hG; exact t_X9_holdNext_0 X hR v0 kv0 v1 S w)

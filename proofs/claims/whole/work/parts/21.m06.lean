-- ==== X10_even
theorem hy_X10_even : yX10_even.cls ≠ "java/lang/invoke/MethodHandle" ∧ yX10_even.cls ≠ "java/lang/invoke/VarHandle" ∧ (parseMethodDescriptor yX10_even.desc).map (fun d => d.parameters.length) = some 1 := by decide +kernel
set_option maxRecDepth 20000 in
def b_X10_even_142 (q25 : Nat → Int32 → Int32 → Int32 → Int32 → St → Option (Int32 × St)) (q45 : Nat → Int32 → Int32 → Int32 → Int32 → Int32 → St → Option (Int32 × St)) (v0 : Nat) (v1 : Int32) (v2 : Int32) (v3 : Int32) (v4 : Int32) (v5 : Int32) (S : St) : Option (Int32 × St) := nm (v5 + (1 : Int32)) fun x1 => q45 v0 v1 v2 v3 v4 x1 S
set_option maxRecDepth 20000 in
theorem t_X10_even_142 {K : KK} (X : CX K cX10_even 7 RX10 (some .int)) (hR : kR K = rmD 4) {q25 : Nat → Int32 → Int32 → Int32 → Int32 → St → Option (Int32 × St)} (hq25 : ∀ (v0 : Nat) (kv0 : KA (kDn K) v0 (0, 10)) (v1 : Int32) (v2 : Int32) (v3 : Int32) (v4 : Int32) (S : St), WT (kDn K) S.2.2 → JX K (Zm K (fun v : Int32 => some (.int v))) 25 [some (.ref v0), some (.int v1), some (.int v2), some (.int v3), some (.int v4), none, none] [] (rwN (kN K) S) (kn K) 0 0 (q25 v0 v1 v2 v3 v4 S)) {q45 : Nat → Int32 → Int32 → Int32 → Int32 → Int32 → St → Option (Int32 × St)} (hq45 : ∀ (v0 : Nat) (kv0 : KA (kDn K) v0 (0, 10)) (v1 : Int32) (v2 : Int32) (v3 : Int32) (v4 : Int32) (v5 : Int32) (S : St), WT (kDn K) S.2.2 → JX K (Zm K (fun v : Int32 => some (.int v))) 45 [some (.ref v0), some (.int v1), some (.int v2), some (.int v3), some (.int v4), some (.int v5), none] [] (rwN (kN K) S) (kn K) 0 0 (q45 v0 v1 v2 v3 v4 v5 S)) (v0 : Nat) (kv0 : KA (kDn K) v0 (0, 10)) (v1 : Int32) (v2 : Int32) (v3 : Int32) (v4 : Int32) (v5 : Int32) (S : St) (w : WT (kDn K) S.2.2) : JX K (Zm K (fun v : Int32 => some (.int v))) 142 [some (.ref v0), some (.int v1), some (.int v2), some (.int v3), some (.int v4), some (.int v5), none] [] (rwN (kN K) S) (kn K) 0 0 (b_X10_even_142 q25 q45 v0 v1 v2 v3 v4 v5 S) := by
  unfold b_X10_even_142
  refine J_nmv (v5 + (1 : Int32)) (fun x1 ex1 => ?_)
  refine J_iinc X (v := x1) (ls' := [some (.ref v0), some (.int v1), some (.int v2), some (.int v3), some (.int v4), some (.int x1), none]) dX10_even_142 (by decide) rfl (by rw [ex1]; rfl) rfl ?_
  refine J_goto X (tgt := 45) dX10_even_145 (by decide) ?_
  exact hq45 v0 kv0 v1 v2 v3 v4 x1 S w
set_option maxRecDepth 20000 in
def b_X10_even_45 (q25 : Nat → Int32 → Int32 → Int32 → Int32 → St → Option (Int32 × St)) : Nat → Nat → Int32 → Int32 → Int32 → Int32 → Int32 → St → Option (Int32 × St)
  | 0, _, _, _, _, _, _, _ => none
  | fu + 1, v0, v1, v2, v3, v4, v5, S => (ix (S.1 v0 18) 2).bind fun j1 => if (S.1 (S.2.2 v0 29) j1) ≤ v5 then (nm (v4 + (1 : Int32)) fun x2 => q25 v0 v1 v2 v3 x2 S) else (nm (((1 : Int32) <<< (v4 &&& 31)) ||| ((1 : Int32) <<< (v5 &&& 31))) fun x3 => if (v2 &&& x3) = x3 then (bd (f_X10_pullNow v0 v4 S) fun r5 S4 => if r5 = 0 then (b_X10_even_142 q25 (b_X10_even_45 q25 fu) v0 v1 v2 v3 v4 v5 S4) else (bd (f_X10_pullNow v0 v5 S4) fun r7 S6 => if r7 = 0 then (b_X10_even_142 q25 (b_X10_even_45 q25 fu) v0 v1 v2 v3 v4 v5 S6) else ((ix ((20 : Int32) + v1) 55).bind fun j8 => (ix ((26 : Int32) + v1) 55).bind fun j9 => bd (f_X10_pullsBy v0 x3 v1 (S6.1 (S6.2.2 v0 52) j8) (S6.1 (S6.2.2 v0 52) j9) S6) fun _ S10 => if (S10.1 v0 55) = 0 then (if (S10.1 v0 56) = 0 then (nm (v3 + (1 : Int32)) fun x12 => b_X10_even_142 q25 (b_X10_even_45 q25 fu) v0 v1 v2 x12 v4 v5 S10) else (b_X10_even_142 q25 (b_X10_even_45 q25 fu) v0 v1 v2 v3 v4 v5 S10)) else (b_X10_even_142 q25 (b_X10_even_45 q25 fu) v0 v1 v2 v3 v4 v5 S10)))) else (b_X10_even_142 q25 (b_X10_even_45 q25 fu) v0 v1 v2 v3 v4 v5 S))
set_option maxRecDepth 20000 in
theorem t_X10_even_45 {K : KK} (X : CX K cX10_even 7 RX10 (some .int)) (hR : kR K = rmD 4) {q25 : Nat → Int32 → Int32 → Int32 → Int32 → St → Option (Int32 × St)} (hq25 : ∀ (v0 : Nat) (kv0 : KA (kDn K) v0 (0, 10)) (v1 : Int32) (v2 : Int32) (v3 : Int32) (v4 : Int32) (S : St), WT (kDn K) S.2.2 → JX K (Zm K (fun v : Int32 => some (.int v))) 25 [some (.ref v0), some (.int v1), some (.int v2), some (.int v3), some (.int v4), none, none] [] (rwN (kN K) S) (kn K) 0 0 (q25 v0 v1 v2 v3 v4 S)) : ∀ (fu : Nat) (v0 : Nat) (kv0 : KA (kDn K) v0 (0, 10)) (v1 : Int32) (v2 : Int32) (v3 : Int32) (v4 : Int32) (v5 : Int32) (S : St), WT (kDn K) S.2.2 → JX K (Zm K (fun v : Int32 => some (.int v))) 45 [some (.ref v0), some (.int v1), some (.int v2), some (.int v3), some (.int v4), some (.int v5), none] [] (rwN (kN K) S) (kn K) 0 0 (b_X10_even_45 q25 fu v0 v1 v2 v3 v4 v5 S) := by
  intro fu
  induction fu with
  | zero => intro v0 kv0 v1 v2 v3 v4 v5 S w; exact J_none
  | succ fu ih =>
    intro v0 kv0 v1 v2 v3 v4 v5 S w
    rw [b_X10_even_45]
    refine J_iload X dX10_even_45 rfl ?_
    refine J_aload_n X dX10_even_47 (i := 0) rfl rfl ?_
    refine T_getR X (kf := 29) cb10 kv0 (by decide) fl_X10_64 (fun _ _ _ => rfl) dX10_even_48 ?_
    refine J_aload_n X dX10_even_51 (i := 0) rfl rfl ?_
    refine T_getI X (kf := 18) cb10 kv0 (by decide) fl_X10_239 (fun _ _ _ => rfl) dX10_even_52 ?_
    refine T_iald X (w.1 _ _ kv0 29 _ rfl) dX10_even_55 (fun j1 => ?_)
    refine J_icmp_ge X (tgt := 148) dX10_even_56 (by decide) ?_ ?_
    · refine J_nmv (v4 + (1 : Int32)) (fun x2 ex2 => ?_)
      refine J_iinc X (v := x2) (ls' := [some (.ref v0), some (.int v1), some (.int v2), some (.int v3), some (.int x2), some (.int v5), none]) dX10_even_148 (by decide) rfl (by rw [ex2]; rfl) rfl ?_
      refine J_goto X (tgt := 25) dX10_even_151 (by decide) ?_
      refine J_mask [true, true, true, true, true, false, false] ?_
      exact hq25 v0 kv0 v1 v2 v3 x2 S w
    · refine J_iconst X (v := (1 : Int32)) dX10_even_59 (by decide) ?_
      refine J_iload X dX10_even_60 rfl ?_
      refine J_ishl X dX10_even_62 ?_
      refine J_iconst X (v := (1 : Int32)) dX10_even_63 (by decide) ?_
      refine J_iload X dX10_even_64 rfl ?_
      refine J_ishl X dX10_even_66 ?_
      refine J_ior X dX10_even_67 ?_
      refine J_nmi (fun x3 => ?_)
      refine J_istore X (ls' := [some (.ref v0), some (.int v1), some (.int v2), some (.int v3), some (.int v4), some (.int v5), some (.int x3)]) dX10_even_68 (by decide) rfl ?_
      refine J_iload_n X dX10_even_70 (i := 2) rfl rfl ?_
      refine J_iload X dX10_even_71 rfl ?_
      refine J_iand X dX10_even_73 ?_
      refine J_iload X dX10_even_74 rfl ?_
      refine J_icmp_ne X (tgt := 142) dX10_even_76 (by decide) ?_ ?_
      · refine J_aload_n X dX10_even_79 (i := 0) rfl rfl ?_
        refine J_iload X dX10_even_80 rfl ?_
        refine T_callV (As := [.int v4]) w X (C_X10_pullNow (kG K) v0 kv0 v4 S) cb10 kv0 ml_X10_468 in_yX10_pullNow se_yX10_pullNow ii_RX10 co_yX10_pullNow hy_X10_pullNow (hRd hR (by decide) (by decide)) rfl (Nat.le_of_ble_eq_true rfl) dX10_even_82 (fun r5 S4 _ wS4 => ?_)
        refine J_if_eq X (tgt := 142) dX10_even_85 (by decide) ?_ ?_
        · refine J_mask [true, true, true, true, true, true, false] ?_
          exact t_X10_even_142 X hR hq25 ih v0 kv0 v1 v2 v3 v4 v5 S4 wS4
        · refine J_aload_n X dX10_even_88 (i := 0) rfl rfl ?_
          refine J_iload X dX10_even_89 rfl ?_
          refine T_callV (As := [.int v5]) wS4 X (C_X10_pullNow (kG K) v0 kv0 v5 S4) cb10 kv0 ml_X10_468 in_yX10_pullNow se_yX10_pullNow ii_RX10 co_yX10_pullNow hy_X10_pullNow (hRd hR (by decide) (by decide)) rfl (Nat.le_of_ble_eq_true rfl) dX10_even_91 (fun r7 S6 _ wS6 => ?_)
          refine J_if_ne X (tgt := 100) dX10_even_94 (by decide) ?_ ?_
          · refine J_goto X (tgt := 142) dX10_even_97 (by decide) ?_
            refine J_mask [true, true, true, true, true, true, false] ?_
            exact t_X10_even_142 X hR hq25 ih v0 kv0 v1 v2 v3 v4 v5 S6 wS6
          · refine J_aload_n X dX10_even_100 (i := 0) rfl rfl ?_
            refine J_iload X dX10_even_101 rfl ?_
            refine J_iload_n X dX10_even_103 (i := 1) rfl rfl ?_
            refine J_aload_n X dX10_even_104 (i := 0) rfl rfl ?_
            refine T_getR X (kf := 52) cb10 kv0 (by decide) fl_X10_122 (fun _ _ _ => rfl) dX10_even_105 ?_
            refine J_bipush X (v := (20 : Int32)) dX10_even_108 (by decide) ?_
            refine J_iload_n X dX10_even_110 (i := 1) rfl rfl ?_
            refine J_iadd X dX10_even_111 ?_
            refine T_iald X (wS6.1 _ _ kv0 52 _ rfl) dX10_even_112 (fun j8 => ?_)
            refine J_aload_n X dX10_even_113 (i := 0) rfl rfl ?_
            refine T_getR X (kf := 52) cb10 kv0 (by decide) fl_X10_122 (fun _ _ _ => rfl) dX10_even_114 ?_
            refine J_bipush X (v := (26 : Int32)) dX10_even_117 (by decide) ?_
            refine J_iload_n X dX10_even_119 (i := 1) rfl rfl ?_
            refine J_iadd X dX10_even_120 ?_
            refine T_iald X (wS6.1 _ _ kv0 52 _ rfl) dX10_even_121 (fun j9 => ?_)
            refine T_callV (As := [.int x3, .int v1, .int (S6.1 (S6.2.2 v0 52) j8), .int (S6.1 (S6.2.2 v0 52) j9)]) wS6 X (C_X10_pullsBy (kG K) v0 kv0 x3 v1 (S6.1 (S6.2.2 v0 52) j8) (S6.1 (S6.2.2 v0 52) j9) S6) cb10 kv0 ml_X10_391 in_yX10_pullsBy se_yX10_pullsBy ii_RX10 co_yX10_pullsBy hy_X10_pullsBy (hRd hR (by decide) (by decide)) rfl (Nat.le_of_ble_eq_true rfl) dX10_even_122 (fun _ S10 _ wS10 => ?_)
            refine J_aload_n X dX10_even_125 (i := 0) rfl rfl ?_
            refine T_getI X (kf := 55) cb10 kv0 (by decide) fl_X10_372 (fun _ _ _ => rfl) dX10_even_126 ?_
            refine J_if_ne X (tgt := 142) dX10_even_129 (by decide) ?_ ?_
            · refine J_aload_n X dX10_even_132 (i := 0) rfl rfl ?_
              refine T_getI X (kf := 56) cb10 kv0 (by decide) fl_X10_375 (fun _ _ _ => rfl) dX10_even_133 ?_
              refine J_if_ne X (tgt := 142) dX10_even_136 (by decide) ?_ ?_
              · refine J_nmv (v3 + (1 : Int32)) (fun x12 ex12 => ?_)
                refine J_iinc X (v := x12) (ls' := [some (.ref v0), some (.int v1), some (.int v2), some (.int x12), some (.int v4), some (.int v5), some (.int x3)]) dX10_even_139 (by decide) rfl (by rw [ex12]; rfl) rfl ?_
                refine J_mask [true, true, true, true, true, true, false] ?_
                exact t_X10_even_142 X hR hq25 ih v0 kv0 v1 v2 x12 v4 v5 S10 wS10
              · refine J_mask [true, true, true, true, true, true, false] ?_
                exact t_X10_even_142 X hR hq25 ih v0 kv0 v1 v2 v3 v4 v5 S10 wS10
            · refine J_mask [true, true, true, true, true, true, false] ?_
              exact t_X10_even_142 X hR hq25 ih v0 kv0 v1 v2 v3 v4 v5 S10 wS10
      · refine J_mask [true, true, true, true, true, true, false] ?_
        exact t_X10_even_142 X hR hq25 ih v0 kv0 v1 v2 v3 v4 v5 S w
set_option maxRecDepth 20000 in
def b_X10_even_25 : Nat → Nat → Int32 → Int32 → Int32 → Int32 → St → Option (Int32 × St)
  | 0, _, _, _, _, _, _ => none
  | fu + 1, v0, v1, v2, v3, v4, S => (ix (S.1 v0 18) 2).bind fun j1 => if (S.1 (S.2.2 v0 29) j1) ≤ v4 then (some (v3, S)) else (nm (v4 + (1 : Int32)) fun x2 => b_X10_even_45 (b_X10_even_25 fu) FU v0 v1 v2 v3 v4 x2 S)
set_option maxRecDepth 20000 in
theorem t_X10_even_25 {K : KK} (X : CX K cX10_even 7 RX10 (some .int)) (hR : kR K = rmD 4) : ∀ (fu : Nat) (v0 : Nat) (kv0 : KA (kDn K) v0 (0, 10)) (v1 : Int32) (v2 : Int32) (v3 : Int32) (v4 : Int32) (S : St), WT (kDn K) S.2.2 → JX K (Zm K (fun v : Int32 => some (.int v))) 25 [some (.ref v0), some (.int v1), some (.int v2), some (.int v3), some (.int v4), none, none] [] (rwN (kN K) S) (kn K) 0 0 (b_X10_even_25 fu v0 v1 v2 v3 v4 S) := by
  intro fu
  induction fu with
  | zero => intro v0 kv0 v1 v2 v3 v4 S w; exact J_none
  | succ fu ih =>
    intro v0 kv0 v1 v2 v3 v4 S w
    rw [b_X10_even_25]
    refine J_iload X dX10_even_25 rfl ?_
    refine J_aload_n X dX10_even_27 (i := 0) rfl rfl ?_
    refine T_getR X (kf := 29) cb10 kv0 (by decide) fl_X10_64 (fun _ _ _ => rfl) dX10_even_28 ?_
    refine J_aload_n X dX10_even_31 (i := 0) rfl rfl ?_
    refine T_getI X (kf := 18) cb10 kv0 (by decide) fl_X10_239 (fun _ _ _ => rfl) dX10_even_32 ?_
    refine T_iald X (w.1 _ _ kv0 29 _ rfl) dX10_even_35 (fun j1 => ?_)
    refine J_icmp_ge X (tgt := 154) dX10_even_36 (by decide) ?_ ?_
    · refine J_iload_n X dX10_even_154 (i := 3) rfl rfl ?_
      exact T_iret w X dX10_even_155
    · refine J_iload X dX10_even_39 rfl ?_
      refine J_iconst X (v := (1 : Int32)) dX10_even_41 (by decide) ?_
      refine J_iadd X dX10_even_42 ?_
      refine J_nmi (fun x2 => ?_)
      refine J_istore X (ls' := [some (.ref v0), some (.int v1), some (.int v2), some (.int v3), some (.int v4), some (.int x2), none]) dX10_even_43 (by decide) rfl ?_
      exact t_X10_even_45 X hR ih FU v0 kv0 v1 v2 v3 v4 x2 S w
set_option maxRecDepth 20000 in
def f_X10_even (v0 : Nat) (v1 : Int32) (S : St) : Option (Int32 × St) := bd (f_X10_isPerson v0 v1 S) fun r2 S1 => if r2 = 0 then (some ((-1 : Int32), S1)) else (bd (f_X10_copies v0 S1) fun _ S3 => bd (f_X10_wornBits v0 v1 S3) fun r6 S5 => b_X10_even_25 FU v0 v1 r6 (0 : Int32) (0 : Int32) S5)
set_option maxRecDepth 20000 in
theorem t_X10_even_0 {K : KK} (X : CX K cX10_even 7 RX10 (some .int)) (hR : kR K = rmD 4) (v0 : Nat) (kv0 : KA (kDn K) v0 (0, 10)) (v1 : Int32) (S : St) (w : WT (kDn K) S.2.2) : JX K (Zm K (fun v : Int32 => some (.int v))) 0 [some (.ref v0), some (.int v1), none, none, none, none, none] [] (rwN (kN K) S) (kn K) 0 0 (f_X10_even v0 v1 S) := by
  unfold f_X10_even
  refine J_aload_n X dX10_even_0 (i := 0) rfl rfl ?_
  refine J_iload_n X dX10_even_1 (i := 1) rfl rfl ?_
  refine T_callV (As := [.int v1]) w X (C_X10_isPerson (kG K) v0 kv0 v1 S) cb10 kv0 ml_X10_422 in_yX10_isPerson se_yX10_isPerson ii_RX10 co_yX10_isPerson hy_X10_isPerson (hRd hR (by decide) (by decide)) rfl (Nat.le_of_ble_eq_true rfl) dX10_even_2 (fun r2 S1 _ wS1 => ?_)
  refine J_if_ne X (tgt := 10) dX10_even_5 (by decide) ?_ ?_
  · refine J_iconst X (v := (-1 : Int32)) dX10_even_8 (by decide) ?_
    exact T_iret wS1 X dX10_even_9
  · refine J_aload_n X dX10_even_10 (i := 0) rfl rfl ?_
    refine T_callV (As := []) wS1 X (C_X10_copies (kG K) v0 kv0 S1) cb10 kv0 ml_X10_335 in_yX10_copies se_yX10_copies ii_RX10 co_yX10_copies hy_X10_copies (hRd hR (by decide) (by decide)) rfl (Nat.le_of_ble_eq_true rfl) dX10_even_11 (fun _ S3 _ wS3 => ?_)
    refine J_aload_n X dX10_even_14 (i := 0) rfl rfl ?_
    refine J_iload_n X dX10_even_15 (i := 1) rfl rfl ?_
    refine T_callV (As := [.int v1]) wS3 X (C_X10_wornBits (kG K) v0 kv0 v1 S3) cb10 kv0 ml_X10_388 in_yX10_wornBits se_yX10_wornBits ii_RX10 co_yX10_wornBits hy_X10_wornBits (hRd hR (by decide) (by decide)) rfl (Nat.le_of_ble_eq_true rfl) dX10_even_16 (fun r6 S5 _ wS5 => ?_)
    refine J_istore_n X (i := 2) (ls' := [some (.ref v0), some (.int v1), some (.int r6), none, none, none, none]) dX10_even_19 rfl (by decide) rfl ?_
    refine J_iconst X (v := (0 : Int32)) dX10_even_20 (by decide) ?_
    refine J_istore_n X (i := 3) (ls' := [some (.ref v0), some (.int v1), some (.int r6), some (.int (0 : Int32)), none, none, none]) dX10_even_21 rfl (by decide) rfl ?_
    refine J_iconst X (v := (0 : Int32)) dX10_even_22 (by decide) ?_
    refine J_istore X (ls' := [some (.ref v0), some (.int v1), some (.int r6), some (.int (0 : Int32)), some (.int (0 : Int32)), none, none]) dX10_even_23 (by decide) rfl ?_
    exact t_X10_even_25 X hR FU v0 kv0 v1 r6 (0 : Int32) (0 : Int32) S5 wS5
theorem C_X10_even (G : GG) (v0 : Nat) (kv0 : KA (gD G) v0 (0, 10)) (v1 : Int32) (S : St) : CM G yX10_even cX10_even 7 (some .int) 4 [.ref v0, .int v1] S (fun v : Int32 => some (.int v)) (f_X10_even v0 v1 S) :=
  CM_of (by decide) (Nat.le_of_ble_eq_true rfl) rfl (fun K hG X hR w => by subst hG; exact t_X10_even_0 X hR v0 kv0 v1 S w)
-- ==== X10_pricesOf
theorem hy_X10_pricesOf : yX10_pricesOf.cls ≠ "java/lang/invoke/MethodHandle" ∧ yX10_pricesOf.cls ≠ "java/lang/invoke/VarHandle" ∧ (parseMethodDescriptor yX10_pricesOf.desc).map (fun d => d.parameters.length) = some 1 := by decide +kernel
set_option maxRecDepth 20000 in
def b_X10_pricesOf_34 (q4 : Nat → Int32 → Int32 → Int32 → St → Option (Int32 × St)) (v0 : Nat) (v1 : Int32) (v2 : Int32) (v3 : Int32) (S : St) : Option (Int32 × St) := nm (v3 + (1 : Int32)) fun x1 => q4 v0 v1 v2 x1 S
set_option maxRecDepth 20000 in
theorem t_X10_pricesOf_34 {K : KK} (X : CX K cX10_pricesOf 4 RX10 (some .int)) (hR : kR K = rmD 3) {q4 : Nat → Int32 → Int32 → Int32 → St → Option (Int32 × St)} (hq4 : ∀ (v0 : Nat) (kv0 : KA (kDn K) v0 (0, 10)) (v1 : Int32) (v2 : Int32) (v3 : Int32) (S : St), WT (kDn K) S.2.2 → JX K (Zm K (fun v : Int32 => some (.int v))) 4 [some (.ref v0), some (.int v1), some (.int v2), some (.int v3)] [] (rwN (kN K) S) (kn K) 0 0 (q4 v0 v1 v2 v3 S)) (v0 : Nat) (kv0 : KA (kDn K) v0 (0, 10)) (v1 : Int32) (v2 : Int32) (v3 : Int32) (S : St) (w : WT (kDn K) S.2.2) : JX K (Zm K (fun v : Int32 => some (.int v))) 34 [some (.ref v0), some (.int v1), some (.int v2), some (.int v3)] [] (rwN (kN K) S) (kn K) 0 0 (b_X10_pricesOf_34 q4 v0 v1 v2 v3 S) := by
  unfold b_X10_pricesOf_34
  refine J_nmv (v3 + (1 : Int32)) (fun x1 ex1 => ?_)
  refine J_iinc X (v := x1) (ls' := [some (.ref v0), some (.int v1), some (.int v2), some (.int x1)]) dX10_pricesOf_34 (by decide) rfl (by rw [ex1]; rfl) rfl ?_
  refine J_goto X (tgt := 4) dX10_pricesOf_37 (by decide) ?_
  exact hq4 v0 kv0 v1 v2 x1 S w
set_option maxRecDepth 20000 in
def b_X10_pricesOf_4 : Nat → Nat → Int32 → Int32 → Int32 → St → Option (Int32 × St)
  | 0, _, _, _, _, _ => none
  | fu + 1, v0, v1, v2, v3, S => (ix (S.1 v0 18) 2).bind fun j1 => if (S.1 (S.2.2 v0 29) j1) ≤ v3 then (some (v2, S)) else (if ((v1 >>> (v3 &&& 31)) &&& (1 : Int32)) = (1 : Int32) then (bd (f_X10_priceOf v0 v3 S) fun r3 S2 => nm (v2 + r3) fun x4 => b_X10_pricesOf_34 (b_X10_pricesOf_4 fu) v0 v1 x4 v3 S2) else (b_X10_pricesOf_34 (b_X10_pricesOf_4 fu) v0 v1 v2 v3 S))
set_option maxRecDepth 20000 in
theorem t_X10_pricesOf_4 {K : KK} (X : CX K cX10_pricesOf 4 RX10 (some .int)) (hR : kR K = rmD 3) : ∀ (fu : Nat) (v0 : Nat) (kv0 : KA (kDn K) v0 (0, 10)) (v1 : Int32) (v2 : Int32) (v3 : Int32) (S : St), WT (kDn K) S.2.2 → JX K (Zm K (fun v : Int32 => some (.int v))) 4 [some (.ref v0), some (.int v1), some (.int v2), some (.int v3)] [] (rwN (kN K) S) (kn K) 0 0 (b_X10_pricesOf_4 fu v0 v1 v2 v3 S) := by
  intro fu
  induction fu with
  | zero => intro v0 kv0 v1 v2 v3 S w; exact J_none
  | succ fu ih =>
    intro v0 kv0 v1 v2 v3 S w
    rw [b_X10_pricesOf_4]
    refine J_iload_n X dX10_pricesOf_4 (i := 3) rfl rfl ?_
    refine J_aload_n X dX10_pricesOf_5 (i := 0) rfl rfl ?_
    refine T_getR X (kf := 29) cb10 kv0 (by decide) fl_X10_64 (fun _ _ _ => rfl) dX10_pricesOf_6 ?_
    refine J_aload_n X dX10_pricesOf_9 (i := 0) rfl rfl ?_
    refine T_getI X (kf := 18) cb10 kv0 (by decide) fl_X10_239 (fun _ _ _ => rfl) dX10_pricesOf_10 ?_
    refine T_iald X (w.1 _ _ kv0 29 _ rfl) dX10_pricesOf_13 (fun j1 => ?_)
    refine J_icmp_ge X (tgt := 40) dX10_pricesOf_14 (by decide) ?_ ?_
    · refine J_iload_n X dX10_pricesOf_40 (i := 2) rfl rfl ?_
      exact T_iret w X dX10_pricesOf_41
    · refine J_iload_n X dX10_pricesOf_17 (i := 1) rfl rfl ?_
      refine J_iload_n X dX10_pricesOf_18 (i := 3) rfl rfl ?_
      refine J_ishr X dX10_pricesOf_19 ?_
      refine J_iconst X (v := (1 : Int32)) dX10_pricesOf_20 (by decide) ?_
      refine J_iand X dX10_pricesOf_21 ?_
      refine J_iconst X (v := (1 : Int32)) dX10_pricesOf_22 (by decide) ?_
      refine J_icmp_ne X (tgt := 34) dX10_pricesOf_23 (by decide) ?_ ?_
      · refine J_iload_n X dX10_pricesOf_26 (i := 2) rfl rfl ?_
        refine J_aload_n X dX10_pricesOf_27 (i := 0) rfl rfl ?_
        refine J_iload_n X dX10_pricesOf_28 (i := 3) rfl rfl ?_
        refine T_callV (As := [.int v3]) w X (C_X10_priceOf (kG K) v0 kv0 v3 S) cb10 kv0 ml_X10_429 in_yX10_priceOf se_yX10_priceOf ii_RX10 co_yX10_priceOf hy_X10_priceOf (hRd hR (by decide) (by decide)) rfl (Nat.le_of_ble_eq_true rfl) dX10_pricesOf_29 (fun r3 S2 _ wS2 => ?_)
        refine J_iadd X dX10_pricesOf_32 ?_
        refine J_nmi (fun x4 => ?_)
        refine J_istore_n X (i := 2) (ls' := [some (.ref v0), some (.int v1), some (.int x4), some (.int v3)]) dX10_pricesOf_33 rfl (by decide) rfl ?_
        exact t_X10_pricesOf_34 X hR ih v0 kv0 v1 x4 v3 S2 wS2
      · exact t_X10_pricesOf_34 X hR ih v0 kv0 v1 v2 v3 S w
set_option maxRecDepth 20000 in
def f_X10_pricesOf (v0 : Nat) (v1 : Int32) (S : St) : Option (Int32 × St) := b_X10_pricesOf_4 FU v0 v1 (0 : Int32) (0 : Int32) S
set_option maxRecDepth 20000 in
theorem t_X10_pricesOf_0 {K : KK} (X : CX K cX10_pricesOf 4 RX10 (some .int)) (hR : kR K = rmD 3) (v0 : Nat) (kv0 : KA (kDn K) v0 (0, 10)) (v1 : Int32) (S : St) (w : WT (kDn K) S.2.2) : JX K (Zm K (fun v : Int32 => some (.int v))) 0 [some (.ref v0), some (.int v1), none, none] [] (rwN (kN K) S) (kn K) 0 0 (f_X10_pricesOf v0 v1 S) := by
  unfold f_X10_pricesOf
  refine J_iconst X (v := (0 : Int32)) dX10_pricesOf_0 (by decide) ?_
  refine J_istore_n X (i := 2) (ls' := [some (.ref v0), some (.int v1), some (.int (0 : Int32)), none]) dX10_pricesOf_1 rfl (by decide) rfl ?_
  refine J_iconst X (v := (0 : Int32)) dX10_pricesOf_2 (by decide) ?_
  refine J_istore_n X (i := 3) (ls' := [some (.ref v0), some (.int v1), some (.int (0 : Int32)), some (.int (0 : Int32))]) dX10_pricesOf_3 rfl (by decide) rfl ?_
  exact t_X10_pricesOf_4 X hR FU v0 kv0 v1 (0 : Int32) (0 : Int32) S w
theorem C_X10_pricesOf (G : GG) (v0 : Nat) (kv0 : KA (gD G) v0 (0, 10)) (v1 : Int32) (S : St) : CM G yX10_pricesOf cX10_pricesOf 4 (some .int) 3 [.ref v0, .int v1] S (fun v : Int32 => some (.int v)) (f_X10_pricesOf v0 v1 S) :=
  CM_of (by decide) (Nat.le_of_ble_eq_true rfl) rfl (fun K hG X hR w => by subst hG; exact t_X10_pricesOf_0 X hR v0 kv0 v1 S w)
-- ==== X10_market
theorem hy_X10_market : yX10_market.cls ≠ "java/lang/invoke/MethodHandle" ∧ yX10_market.cls ≠ "java/lang/invoke/VarHandle" ∧ (parseMethodDescriptor yX10_market.desc).map (fun d => d.parameters.length) = some 1 := by decide +kernel
set_option maxRecDepth 20000 in
def f_X10_market (v0 : Nat) (v1 : Int32) (S : St) : Option (Int32 × St) := bd (f_X10_isLong v1 S) fun r2 S1 => if r2 = 0 then (some ((-1 : Int32), S1)) else (bd (f_X10_copiesStill v0 S1) fun _ S3 => bd (f_X10_goes v0 v1 S3) fun _ S5 => bd (f_X10_wholeBits v0 S5) fun r8 S7 => bd (f_X10_pricesOf v0 r8 S7) fun r10 S9 => some (r10, S9))
set_option maxRecDepth 20000 in
theorem t_X10_market_0 {K : KK} (X : CX K cX10_market 2 RX10 (some .int)) (hR : kR K = rmD 9) (v0 : Nat) (kv0 : KA (kDn K) v0 (0, 10)) (v1 : Int32) (S : St) (w : WT (kDn K) S.2.2) : JX K (Zm K (fun v : Int32 => some (.int v))) 0 [some (.ref v0), some (.int v1)] [] (rwN (kN K) S) (kn K) 0 0 (f_X10_market v0 v1 S) := by
  unfold f_X10_market
  refine J_iload_n X dX10_market_0 (i := 1) rfl rfl ?_
  refine T_callS (As := [.int v1]) w X (C_X10_isLong (kG K) v1 S) ml_X10_435 st_yX10_isLong ii_RX10 co_yX10_isLong hy_X10_isLong (hRd hR (by decide) (by decide)) rfl (Nat.le_of_ble_eq_true rfl) dX10_market_1 (fun r2 S1 _ wS1 => ?_)
  refine J_if_ne X (tgt := 9) dX10_market_4 (by decide) ?_ ?_
  · refine J_iconst X (v := (-1 : Int32)) dX10_market_7 (by decide) ?_
    exact T_iret wS1 X dX10_market_8
  · refine J_aload_n X dX10_market_9 (i := 0) rfl rfl ?_
    refine T_callV (As := []) wS1 X (C_X10_copiesStill (kG K) v0 kv0 S1) cb10 kv0 ml_X10_465 in_yX10_copiesStill se_yX10_copiesStill ii_RX10 co_yX10_copiesStill hy_X10_copiesStill (hRd hR (by decide) (by decide)) rfl (Nat.le_of_ble_eq_true rfl) dX10_market_10 (fun _ S3 _ wS3 => ?_)
    refine J_aload_n X dX10_market_13 (i := 0) rfl rfl ?_
    refine J_iload_n X dX10_market_14 (i := 1) rfl rfl ?_
    refine T_callV (As := [.int v1]) wS3 X (C_X10_goes (kG K) v0 kv0 v1 S3) cb10 kv0 ml_X10_438 in_yX10_goes se_yX10_goes ii_RX10 co_yX10_goes hy_X10_goes (hRd hR (by decide) (by decide)) rfl (Nat.le_of_ble_eq_true rfl) dX10_market_15 (fun _ S5 _ wS5 => ?_)
    refine J_aload_n X dX10_market_18 (i := 0) rfl rfl ?_
    refine J_aload_n X dX10_market_19 (i := 0) rfl rfl ?_
    refine T_callV (As := []) wS5 X (C_X10_wholeBits (kG K) v0 kv0 S5) cb10 kv0 ml_X10_456 in_yX10_wholeBits se_yX10_wholeBits ii_RX10 co_yX10_wholeBits hy_X10_wholeBits (hRd hR (by decide) (by decide)) rfl (Nat.le_of_ble_eq_true rfl) dX10_market_20 (fun r8 S7 _ wS7 => ?_)
    refine T_callV (As := [.int r8]) wS7 X (C_X10_pricesOf (kG K) v0 kv0 r8 S7) cb10 kv0 ml_X10_471 in_yX10_pricesOf se_yX10_pricesOf ii_RX10 co_yX10_pricesOf hy_X10_pricesOf (hRd hR (by decide) (by decide)) rfl (Nat.le_of_ble_eq_true rfl) dX10_market_23 (fun r10 S9 _ wS9 => ?_)
    exact T_iret wS9 X dX10_market_26
theorem C_X10_market (G : GG) (v0 : Nat) (kv0 : KA (gD G) v0 (0, 10)) (v1 : Int32) (S : St) : CM G yX10_market cX10_market 2 (some .int) 9 [.ref v0, .int v1] S (fun v : Int32 => some (.int v)) (f_X10_market v0 v1 S) :=
  CM_of (by decide) (Nat.le_of_ble_eq_true rfl) rfl (fun K hG X hR w => by subst hG; exact t_X10_market_0 X hR v0 kv0 v1 S w)
-- ==== X10_nothing
theorem hy_X10_nothing : yX10_nothing.cls ≠ "java/lang/invoke/MethodHandle" ∧ yX10_nothing.cls ≠ "java/lang/invoke/VarHandle" ∧ (parseMethodDescriptor yX10_nothing.desc).map (fun d => d.parameters.length) = some 2 := by decide +kernel
set_option maxRecDepth 20000 in
def b_X10_nothing_137 (q67 : Nat → Int32 → Int32 → Int32 → Int32 → St → Option (Int32 × St)) (v0 : Nat) (v1 : Int32) (v3 : Int32) (v4 : Int32) (v5 : Int32) (S : St) : Option (Int32 × St) := nm (v5 + (1 : Int32)) fun x1 => q67 v0 v1 v3 v4 x1 S
set_option maxRecDepth 20000 in
theorem t_X10_nothing_137 {K : KK} (X : CX K cX10_nothing 6 RX10 (some .int)) (hR : kR K = rmD 5) {q67 : Nat → Int32 → Int32 → Int32 → Int32 → St → Option (Int32 × St)} (hq67 : ∀ (v0 : Nat) (kv0 : KA (kDn K) v0 (0, 10)) (v1 : Int32) (v3 : Int32) (v4 : Int32) (v5 : Int32) (S : St), WT (kDn K) S.2.2 → JX K (Zm K (fun v : Int32 => some (.int v))) 67 [some (.ref v0), some (.int v1), none, some (.int v3), some (.int v4), some (.int v5)] [] (rwN (kN K) S) (kn K) 0 0 (q67 v0 v1 v3 v4 v5 S)) (v0 : Nat) (kv0 : KA (kDn K) v0 (0, 10)) (v1 : Int32) (v3 : Int32) (v4 : Int32) (v5 : Int32) (S : St) (w : WT (kDn K) S.2.2) : JX K (Zm K (fun v : Int32 => some (.int v))) 137 [some (.ref v0), some (.int v1), none, some (.int v3), some (.int v4), some (.int v5)] [] (rwN (kN K) S) (kn K) 0 0 (b_X10_nothing_137 q67 v0 v1 v3 v4 v5 S) := by
  unfold b_X10_nothing_137
  refine J_nmv (v5 + (1 : Int32)) (fun x1 ex1 => ?_)
  refine J_iinc X (v := x1) (ls' := [some (.ref v0), some (.int v1), none, some (.int v3), some (.int v4), some (.int x1)]) dX10_nothing_137 (by decide) rfl (by rw [ex1]; rfl) rfl ?_
  refine J_goto X (tgt := 67) dX10_nothing_140 (by decide) ?_
  exact hq67 v0 kv0 v1 v3 v4 x1 S w
set_option maxRecDepth 20000 in
def b_X10_nothing_67 : Nat → Nat → Int32 → Int32 → Int32 → Int32 → St → Option (Int32 × St)
  | 0, _, _, _, _, _, _ => none
  | fu + 1, v0, v1, v3, v4, v5, S => (ix (S.1 v0 18) 2).bind fun j1 => if ((1 : Int32) <<< ((S.1 (S.2.2 v0 29) j1) &&& 31)) ≤ v5 then (some (v4, S)) else (if (v5 &&& (v3 ^^^ (-1 : Int32))) = 0 then ((ix ((20 : Int32) + v1) 55).bind fun j2 => (ix ((26 : Int32) + v1) 55).bind fun j3 => bd (f_X10_pullsBy v0 v5 v1 (S.1 (S.2.2 v0 52) j2) (S.1 (S.2.2 v0 52) j3) S) fun _ S4 => if (S4.1 v0 55) = 0 then (if (S4.1 v0 56) = 0 then (nm (v4 + (1 : Int32)) fun x6 => b_X10_nothing_137 (b_X10_nothing_67 fu) v0 v1 v3 x6 v5 S4) else (b_X10_nothing_137 (b_X10_nothing_67 fu) v0 v1 v3 v4 v5 S4)) else (b_X10_nothing_137 (b_X10_nothing_67 fu) v0 v1 v3 v4 v5 S4)) else (b_X10_nothing_137 (b_X10_nothing_67 fu) v0 v1 v3 v4 v5 S))
set_option maxRecDepth 20000 in
theorem t_X10_nothing_67 {K : KK} (X : CX K cX10_nothing 6 RX10 (some .int)) (hR : kR K = rmD 5) : ∀ (fu : Nat) (v0 : Nat) (kv0 : KA (kDn K) v0 (0, 10)) (v1 : Int32) (v3 : Int32) (v4 : Int32) (v5 : Int32) (S : St), WT (kDn K) S.2.2 → JX K (Zm K (fun v : Int32 => some (.int v))) 67 [some (.ref v0), some (.int v1), none, some (.int v3), some (.int v4), some (.int v5)] [] (rwN (kN K) S) (kn K) 0 0 (b_X10_nothing_67 fu v0 v1 v3 v4 v5 S) := by
  intro fu
  induction fu with
  | zero => intro v0 kv0 v1 v3 v4 v5 S w; exact J_none
  | succ fu ih =>
    intro v0 kv0 v1 v3 v4 v5 S w
    rw [b_X10_nothing_67]
    refine J_iload X dX10_nothing_67 rfl ?_
    refine J_iconst X (v := (1 : Int32)) dX10_nothing_69 (by decide) ?_
    refine J_aload_n X dX10_nothing_70 (i := 0) rfl rfl ?_
    refine T_getR X (kf := 29) cb10 kv0 (by decide) fl_X10_64 (fun _ _ _ => rfl) dX10_nothing_71 ?_
    refine J_aload_n X dX10_nothing_74 (i := 0) rfl rfl ?_
    refine T_getI X (kf := 18) cb10 kv0 (by decide) fl_X10_239 (fun _ _ _ => rfl) dX10_nothing_75 ?_
    refine T_iald X (w.1 _ _ kv0 29 _ rfl) dX10_nothing_78 (fun j1 => ?_)
    refine J_ishl X dX10_nothing_79 ?_
    refine J_icmp_ge X (tgt := 143) dX10_nothing_80 (by decide) ?_ ?_
    · refine J_iload X dX10_nothing_143 rfl ?_
      exact T_iret w X dX10_nothing_145
    · refine J_iload X dX10_nothing_83 rfl ?_
      refine J_iload_n X dX10_nothing_85 (i := 3) rfl rfl ?_
      refine J_iconst X (v := (-1 : Int32)) dX10_nothing_86 (by decide) ?_
      refine J_ixor X dX10_nothing_87 ?_
      refine J_iand X dX10_nothing_88 ?_
      refine J_if_eq X (tgt := 95) dX10_nothing_89 (by decide) ?_ ?_
      · refine J_aload_n X dX10_nothing_95 (i := 0) rfl rfl ?_
        refine J_iload X dX10_nothing_96 rfl ?_
        refine J_iload_n X dX10_nothing_98 (i := 1) rfl rfl ?_
        refine J_aload_n X dX10_nothing_99 (i := 0) rfl rfl ?_
        refine T_getR X (kf := 52) cb10 kv0 (by decide) fl_X10_122 (fun _ _ _ => rfl) dX10_nothing_100 ?_
        refine J_bipush X (v := (20 : Int32)) dX10_nothing_103 (by decide) ?_
        refine J_iload_n X dX10_nothing_105 (i := 1) rfl rfl ?_
        refine J_iadd X dX10_nothing_106 ?_
        refine T_iald X (w.1 _ _ kv0 52 _ rfl) dX10_nothing_107 (fun j2 => ?_)
        refine J_aload_n X dX10_nothing_108 (i := 0) rfl rfl ?_
        refine T_getR X (kf := 52) cb10 kv0 (by decide) fl_X10_122 (fun _ _ _ => rfl) dX10_nothing_109 ?_
        refine J_bipush X (v := (26 : Int32)) dX10_nothing_112 (by decide) ?_
        refine J_iload_n X dX10_nothing_114 (i := 1) rfl rfl ?_
        refine J_iadd X dX10_nothing_115 ?_
        refine T_iald X (w.1 _ _ kv0 52 _ rfl) dX10_nothing_116 (fun j3 => ?_)
        refine T_callV (As := [.int v5, .int v1, .int (S.1 (S.2.2 v0 52) j2), .int (S.1 (S.2.2 v0 52) j3)]) w X (C_X10_pullsBy (kG K) v0 kv0 v5 v1 (S.1 (S.2.2 v0 52) j2) (S.1 (S.2.2 v0 52) j3) S) cb10 kv0 ml_X10_391 in_yX10_pullsBy se_yX10_pullsBy ii_RX10 co_yX10_pullsBy hy_X10_pullsBy (hRd hR (by decide) (by decide)) rfl (Nat.le_of_ble_eq_true rfl) dX10_nothing_117 (fun _ S4 _ wS4 => ?_)
        refine J_aload_n X dX10_nothing_120 (i := 0) rfl rfl ?_
        refine T_getI X (kf := 55) cb10 kv0 (by decide) fl_X10_372 (fun _ _ _ => rfl) dX10_nothing_121 ?_
        refine J_if_ne X (tgt := 137) dX10_nothing_124 (by decide) ?_ ?_
        · refine J_aload_n X dX10_nothing_127 (i := 0) rfl rfl ?_
          refine T_getI X (kf := 56) cb10 kv0 (by decide) fl_X10_375 (fun _ _ _ => rfl) dX10_nothing_128 ?_
          refine J_if_ne X (tgt := 137) dX10_nothing_131 (by decide) ?_ ?_
          · refine J_nmv (v4 + (1 : Int32)) (fun x6 ex6 => ?_)
            refine J_iinc X (v := x6) (ls' := [some (.ref v0), some (.int v1), none, some (.int v3), some (.int x6), some (.int v5)]) dX10_nothing_134 (by decide) rfl (by rw [ex6]; rfl) rfl ?_
            exact t_X10_nothing_137 X hR ih v0 kv0 v1 v3 x6 v5 S4 wS4
          · exact t_X10_nothing_137 X hR ih v0 kv0 v1 v3 v4 v5 S4 wS4
        · exact t_X10_nothing_137 X hR ih v0 kv0 v1 v3 v4 v5 S4 wS4
      · refine J_goto X (tgt := 137) dX10_nothing_92 (by decide) ?_
        exact t_X10_nothing_137 X hR ih v0 kv0 v1 v3 v4 v5 S w
set_option maxRecDepth 20000 in
def f_X10_nothing (v0 : Nat) (v1 : Int32) (v2 : Int32) (S : St) : Option (Int32 × St) := bd (f_X10_isPerson v0 v1 S) fun r2 S1 => if r2 = 0 then (some ((-1 : Int32), S1)) else (bd (f_X10_in v2 (0 : Int32) (1 : Int32) S1) fun r4 S3 => if r4 = 0 then (some ((-1 : Int32), S3)) else (bd (f_X10_copies v0 S3) fun _ S5 => bd (f_X10_isOff v0 v1 S5) fun r8 S7 => if r8 = 0 then (if v2 = (1 : Int32) then (bd (f_X10_plaitFrom v0 v1 (1 : Int32) (0 : Int32) (0 : Int32) S7) fun r10 S9 => some (r10, S9)) else (bd (f_X10_wholeBits v0 S7) fun r12 S11 => b_X10_nothing_67 FU v0 v1 r12 (0 : Int32) (1 : Int32) S11)) else (if v2 = 0 then (some ((0 : Int32), S7)) else (some ((-2 : Int32), S7)))))
set_option maxRecDepth 20000 in
theorem t_X10_nothing_0 {K : KK} (X : CX K cX10_nothing 6 RX10 (some .int)) (hR : kR K = rmD 5) (v0 : Nat) (kv0 : KA (kDn K) v0 (0, 10)) (v1 : Int32) (v2 : Int32) (S : St) (w : WT (kDn K) S.2.2) : JX K (Zm K (fun v : Int32 => some (.int v))) 0 [some (.ref v0), some (.int v1), some (.int v2), none, none, none] [] (rwN (kN K) S) (kn K) 0 0 (f_X10_nothing v0 v1 v2 S) := by
  unfold f_X10_nothing
  refine J_aload_n X dX10_nothing_0 (i := 0) rfl rfl ?_
  refine J_iload_n X dX10_nothing_1 (i := 1) rfl rfl ?_
  refine T_callV (As := [.int v1]) w X (C_X10_isPerson (kG K) v0 kv0 v1 S) cb10 kv0 ml_X10_422 in_yX10_isPerson se_yX10_isPerson ii_RX10 co_yX10_isPerson hy_X10_isPerson (hRd hR (by decide) (by decide)) rfl (Nat.le_of_ble_eq_true rfl) dX10_nothing_2 (fun r2 S1 _ wS1 => ?_)
  refine J_if_eq X (tgt := 17) dX10_nothing_5 (by decide) ?_ ?_
  · refine J_iconst X (v := (-1 : Int32)) dX10_nothing_17 (by decide) ?_
    exact T_iret wS1 X dX10_nothing_18
  · refine J_iload_n X dX10_nothing_8 (i := 2) rfl rfl ?_
    refine J_iconst X (v := (0 : Int32)) dX10_nothing_9 (by decide) ?_
    refine J_iconst X (v := (1 : Int32)) dX10_nothing_10 (by decide) ?_
    refine T_callS (As := [.int v2, .int (0 : Int32), .int (1 : Int32)]) wS1 X (C_X10_in (kG K) v2 (0 : Int32) (1 : Int32) S1) ml_X10_325 st_yX10_in ii_RX10 co_yX10_in hy_X10_in (hRd hR (by decide) (by decide)) rfl (Nat.le_of_ble_eq_true rfl) dX10_nothing_11 (fun r4 S3 _ wS3 => ?_)
    refine J_if_ne X (tgt := 19) dX10_nothing_14 (by decide) ?_ ?_
    · refine J_iconst X (v := (-1 : Int32)) dX10_nothing_17 (by decide) ?_
      exact T_iret wS3 X dX10_nothing_18
    · refine J_aload_n X dX10_nothing_19 (i := 0) rfl rfl ?_
      refine T_callV (As := []) wS3 X (C_X10_copies (kG K) v0 kv0 S3) cb10 kv0 ml_X10_335 in_yX10_copies se_yX10_copies ii_RX10 co_yX10_copies hy_X10_copies (hRd hR (by decide) (by decide)) rfl (Nat.le_of_ble_eq_true rfl) dX10_nothing_20 (fun _ S5 _ wS5 => ?_)
      refine J_aload_n X dX10_nothing_23 (i := 0) rfl rfl ?_
      refine J_iload_n X dX10_nothing_24 (i := 1) rfl rfl ?_
      refine T_callV (As := [.int v1]) wS5 X (C_X10_isOff (kG K) v0 kv0 v1 S5) cb10 kv0 ml_X10_360 in_yX10_isOff se_yX10_isOff ii_RX10 co_yX10_isOff hy_X10_isOff (hRd hR (by decide) (by decide)) rfl (Nat.le_of_ble_eq_true rfl) dX10_nothing_25 (fun r8 S7 _ wS7 => ?_)
      refine J_if_eq X (tgt := 42) dX10_nothing_28 (by decide) ?_ ?_
      · refine J_iload_n X dX10_nothing_42 (i := 2) rfl rfl ?_
        refine J_iconst X (v := (1 : Int32)) dX10_nothing_43 (by decide) ?_
        refine J_icmp_ne X (tgt := 56) dX10_nothing_44 (by decide) ?_ ?_
        · refine J_aload_n X dX10_nothing_47 (i := 0) rfl rfl ?_
          refine J_iload_n X dX10_nothing_48 (i := 1) rfl rfl ?_
          refine J_iconst X (v := (1 : Int32)) dX10_nothing_49 (by decide) ?_
          refine J_iconst X (v := (0 : Int32)) dX10_nothing_50 (by decide) ?_
          refine J_iconst X (v := (0 : Int32)) dX10_nothing_51 (by decide) ?_
          refine T_callV (As := [.int v1, .int (1 : Int32), .int (0 : Int32), .int (0 : Int32)]) wS7 X (C_X10_plaitFrom (kG K) v0 kv0 v1 (1 : Int32) (0 : Int32) (0 : Int32) S7) cb10 kv0 ml_X10_462 in_yX10_plaitFrom se_yX10_plaitFrom ii_RX10 co_yX10_plaitFrom hy_X10_plaitFrom (hRd hR (by decide) (by decide)) rfl (Nat.le_of_ble_eq_true rfl) dX10_nothing_52 (fun r10 S9 _ wS9 => ?_)
          exact T_iret wS9 X dX10_nothing_55
        · refine J_aload_n X dX10_nothing_56 (i := 0) rfl rfl ?_
          refine T_callV (As := []) wS7 X (C_X10_wholeBits (kG K) v0 kv0 S7) cb10 kv0 ml_X10_456 in_yX10_wholeBits se_yX10_wholeBits ii_RX10 co_yX10_wholeBits hy_X10_wholeBits (hRd hR (by decide) (by decide)) rfl (Nat.le_of_ble_eq_true rfl) dX10_nothing_57 (fun r12 S11 _ wS11 => ?_)
          refine J_istore_n X (i := 3) (ls' := [some (.ref v0), some (.int v1), some (.int v2), some (.int r12), none, none]) dX10_nothing_60 rfl (by decide) rfl ?_
          refine J_iconst X (v := (0 : Int32)) dX10_nothing_61 (by decide) ?_
          refine J_istore X (ls' := [some (.ref v0), some (.int v1), some (.int v2), some (.int r12), some (.int (0 : Int32)), none]) dX10_nothing_62 (by decide) rfl ?_
          refine J_iconst X (v := (1 : Int32)) dX10_nothing_64 (by decide) ?_
          refine J_istore X (ls' := [some (.ref v0), some (.int v1), some (.int v2), some (.int r12), some (.int (0 : Int32)), some (.int (1 : Int32))]) dX10_nothing_65 (by decide) rfl ?_
          refine J_mask [true, true, false, true, true, true] ?_
          exact t_X10_nothing_67 X hR FU v0 kv0 v1 r12 (0 : Int32) (1 : Int32) S11 wS11
      · refine J_iload_n X dX10_nothing_31 (i := 2) rfl rfl ?_
        refine J_if_ne X (tgt := 39) dX10_nothing_32 (by decide) ?_ ?_
        · refine J_iconst X (v := (0 : Int32)) dX10_nothing_35 (by decide) ?_
          refine J_goto X (tgt := 41) dX10_nothing_36 (by decide) ?_
          exact T_iret wS7 X dX10_nothing_41
        · refine J_bipush X (v := (-2 : Int32)) dX10_nothing_39 (by decide) ?_
          exact T_iret wS7 X dX10_nothing_41
theorem C_X10_nothing (G : GG) (v0 : Nat) (kv0 : KA (gD G) v0 (0, 10)) (v1 : Int32) (v2 : Int32) (S : St) : CM G yX10_nothing cX10_nothing 6 (some .int) 5 [.ref v0, .int v1, .int v2] S (fun v : Int32 => some (.int v)) (f_X10_nothing v0 v1 v2 S) :=
  CM_of (by decide) (Nat.le_of_ble_eq_true rfl) rfl (fun K hG X hR w => by subst hG; exact t_X10_nothing_0 X hR v0 kv0 v1 v2 S w)
-- ==== X10_safe
theorem hy_X10_safe : yX10_safe.cls ≠ "java/lang/invoke/MethodHandle" ∧ yX10_safe.cls ≠ "java/lang/invoke/VarHandle" ∧ (parseMethodDescriptor yX10_safe.desc).map (fun d => d.parameters.length) = some 2 := by decide +kernel
set_option maxRecDepth 20000 in
def b_X10_safe_152 (q46 : Nat → Int32 → Int32 → Int32 → Int32 → Int32 → Int32 → St → Option (Int32 × St)) (v0 : Nat) (v1 : Int32) (v2 : Int32) (v3 : Int32) (v4 : Int32) (v5 : Int32) (v6 : Int32) (S : St) : Option (Int32 × St) := nm (v6 + (1 : Int32)) fun x1 => q46 v0 v1 v2 v3 v4 v5 x1 S
set_option maxRecDepth 20000 in
theorem t_X10_safe_152 {K : KK} (X : CX K cX10_safe 8 RX10 (some .int)) (hR : kR K = rmD 5) {q46 : Nat → Int32 → Int32 → Int32 → Int32 → Int32 → Int32 → St → Option (Int32 × St)} (hq46 : ∀ (v0 : Nat) (kv0 : KA (kDn K) v0 (0, 10)) (v1 : Int32) (v2 : Int32) (v3 : Int32) (v4 : Int32) (v5 : Int32) (v6 : Int32) (S : St), WT (kDn K) S.2.2 → JX K (Zm K (fun v : Int32 => some (.int v))) 46 [some (.ref v0), some (.int v1), some (.int v2), some (.int v3), some (.int v4), some (.int v5), some (.int v6), none] [] (rwN (kN K) S) (kn K) 0 0 (q46 v0 v1 v2 v3 v4 v5 v6 S)) (v0 : Nat) (kv0 : KA (kDn K) v0 (0, 10)) (v1 : Int32) (v2 : Int32) (v3 : Int32) (v4 : Int32) (v5 : Int32) (v6 : Int32) (S : St) (w : WT (kDn K) S.2.2) : JX K (Zm K (fun v : Int32 => some (.int v))) 152 [some (.ref v0), some (.int v1), some (.int v2), some (.int v3), some (.int v4), some (.int v5), some (.int v6), none] [] (rwN (kN K) S) (kn K) 0 0 (b_X10_safe_152 q46 v0 v1 v2 v3 v4 v5 v6 S) := by
  unfold b_X10_safe_152
  refine J_nmv (v6 + (1 : Int32)) (fun x1 ex1 => ?_)
  refine J_iinc X (v := x1) (ls' := [some (.ref v0), some (.int v1), some (.int v2), some (.int v3), some (.int v4), some (.int v5), some (.int x1), none]) dX10_safe_152 (by decide) rfl (by rw [ex1]; rfl) rfl ?_
  refine J_goto X (tgt := 46) dX10_safe_155 (by decide) ?_
  exact hq46 v0 kv0 v1 v2 v3 v4 v5 x1 S w
set_option maxRecDepth 20000 in
def b_X10_safe_144 (q46 : Nat → Int32 → Int32 → Int32 → Int32 → Int32 → Int32 → St → Option (Int32 × St)) (v0 : Nat) (v1 : Int32) (v2 : Int32) (v3 : Int32) (v6 : Int32) (v7 : Int32) (S : St) : Option (Int32 × St) := b_X10_safe_152 q46 v0 v1 v2 v3 v6 v7 v6 S
set_option maxRecDepth 20000 in
theorem t_X10_safe_144 {K : KK} (X : CX K cX10_safe 8 RX10 (some .int)) (hR : kR K = rmD 5) {q46 : Nat → Int32 → Int32 → Int32 → Int32 → Int32 → Int32 → St → Option (Int32 × St)} (hq46 : ∀ (v0 : Nat) (kv0 : KA (kDn K) v0 (0, 10)) (v1 : Int32) (v2 : Int32) (v3 : Int32) (v4 : Int32) (v5 : Int32) (v6 : Int32) (S : St), WT (kDn K) S.2.2 → JX K (Zm K (fun v : Int32 => some (.int v))) 46 [some (.ref v0), some (.int v1), some (.int v2), some (.int v3), some (.int v4), some (.int v5), some (.int v6), none] [] (rwN (kN K) S) (kn K) 0 0 (q46 v0 v1 v2 v3 v4 v5 v6 S)) (v0 : Nat) (kv0 : KA (kDn K) v0 (0, 10)) (v1 : Int32) (v2 : Int32) (v3 : Int32) (v6 : Int32) (v7 : Int32) (S : St) (w : WT (kDn K) S.2.2) : JX K (Zm K (fun v : Int32 => some (.int v))) 144 [some (.ref v0), some (.int v1), some (.int v2), some (.int v3), none, none, some (.int v6), some (.int v7)] [] (rwN (kN K) S) (kn K) 0 0 (b_X10_safe_144 q46 v0 v1 v2 v3 v6 v7 S) := by
  unfold b_X10_safe_144
  refine J_iload X dX10_safe_144 rfl ?_
  refine J_istore X (ls' := [some (.ref v0), some (.int v1), some (.int v2), some (.int v3), some (.int v6), none, some (.int v6), some (.int v7)]) dX10_safe_146 (by decide) rfl ?_
  refine J_iload X dX10_safe_148 rfl ?_
  refine J_istore X (ls' := [some (.ref v0), some (.int v1), some (.int v2), some (.int v3), some (.int v6), some (.int v7), some (.int v6), some (.int v7)]) dX10_safe_150 (by decide) rfl ?_
  refine J_mask [true, true, true, true, true, true, true, false] ?_
  exact t_X10_safe_152 X hR hq46 v0 kv0 v1 v2 v3 v6 v7 v6 S w
set_option maxRecDepth 20000 in
def b_X10_safe_46 : Nat → Nat → Int32 → Int32 → Int32 → Int32 → Int32 → Int32 → St → Option (Int32 × St)
  | 0, _, _, _, _, _, _, _, _ => none
  | fu + 1, v0, v1, v2, v3, v4, v5, v6, S => (ix (S.1 v0 18) 2).bind fun j1 => if (((10 : Int32) * (S.1 (S.2.2 v0 33) j1)) + (10 : Int32)) ≤ v6 then (if v2 = 0 then (some (v3, S)) else (some (v4, S))) else (bd (f_X10_movesAt v0 v1 (v6 - v6 / (10 : Int32) * (10 : Int32)) (v6 / (10 : Int32)) S) fun r3 S2 => if r3 ≤ 0 then (nm (v3 + (1 : Int32)) fun x4 => (ix ((20 : Int32) + v1) 55).bind fun j5 => bd (f_X10_off (S2.1 (S2.2.2 v0 52) j5) (v6 - v6 / (10 : Int32) * (10 : Int32)) S2) fun r7 S6 => (ix ((26 : Int32) + v1) 55).bind fun j8 => bd (f_X10_off (S6.1 (S6.2.2 v0 52) j8) (v6 / (10 : Int32)) S6) fun r10 S9 => bd (f_X10_more r7 r10 S9) fun r12 S11 => if v4 < 0 then (b_X10_safe_144 (b_X10_safe_46 fu) v0 v1 v2 x4 v6 r12 S11) else (if r12 < v5 then (b_X10_safe_144 (b_X10_safe_46 fu) v0 v1 v2 x4 v6 r12 S11) else (b_X10_safe_152 (b_X10_safe_46 fu) v0 v1 v2 x4 v4 v5 v6 S11))) else (b_X10_safe_152 (b_X10_safe_46 fu) v0 v1 v2 v3 v4 v5 v6 S2))
set_option maxRecDepth 20000 in
theorem t_X10_safe_46 {K : KK} (X : CX K cX10_safe 8 RX10 (some .int)) (hR : kR K = rmD 5) : ∀ (fu : Nat) (v0 : Nat) (kv0 : KA (kDn K) v0 (0, 10)) (v1 : Int32) (v2 : Int32) (v3 : Int32) (v4 : Int32) (v5 : Int32) (v6 : Int32) (S : St), WT (kDn K) S.2.2 → JX K (Zm K (fun v : Int32 => some (.int v))) 46 [some (.ref v0), some (.int v1), some (.int v2), some (.int v3), some (.int v4), some (.int v5), some (.int v6), none] [] (rwN (kN K) S) (kn K) 0 0 (b_X10_safe_46 fu v0 v1 v2 v3 v4 v5 v6 S) := by
  intro fu
  induction fu with
  | zero => intro v0 kv0 v1 v2 v3 v4 v5 v6 S w; exact J_none
  | succ fu ih =>
    intro v0 kv0 v1 v2 v3 v4 v5 v6 S w
    rw [b_X10_safe_46]
    refine J_iload X dX10_safe_46 rfl ?_
    refine J_bipush X (v := (10 : Int32)) dX10_safe_48 (by decide) ?_
    refine J_aload_n X dX10_safe_50 (i := 0) rfl rfl ?_
    refine T_getR X (kf := 33) cb10 kv0 (by decide) fl_X10_76 (fun _ _ _ => rfl) dX10_safe_51 ?_
    refine J_aload_n X dX10_safe_54 (i := 0) rfl rfl ?_
    refine T_getI X (kf := 18) cb10 kv0 (by decide) fl_X10_239 (fun _ _ _ => rfl) dX10_safe_55 ?_
    refine T_iald X (w.1 _ _ kv0 33 _ rfl) dX10_safe_58 (fun j1 => ?_)
    refine J_imul X dX10_safe_59 ?_
    refine J_bipush X (v := (10 : Int32)) dX10_safe_60 (by decide) ?_
    refine J_iadd X dX10_safe_62 ?_
    refine J_icmp_ge X (tgt := 158) dX10_safe_63 (by decide) ?_ ?_
    · refine J_iload_n X dX10_safe_158 (i := 2) rfl rfl ?_
      refine J_if_ne X (tgt := 166) dX10_safe_159 (by decide) ?_ ?_
      · refine J_iload_n X dX10_safe_162 (i := 3) rfl rfl ?_
        refine J_goto X (tgt := 168) dX10_safe_163 (by decide) ?_
        exact T_iret w X dX10_safe_168
      · refine J_iload X dX10_safe_166 rfl ?_
        exact T_iret w X dX10_safe_168
    · refine J_aload_n X dX10_safe_66 (i := 0) rfl rfl ?_
      refine J_iload_n X dX10_safe_67 (i := 1) rfl rfl ?_
      refine J_iload X dX10_safe_68 rfl ?_
      refine J_bipush X (v := (10 : Int32)) dX10_safe_70 (by decide) ?_
      refine J_iremc X dX10_safe_72 (by decide) ?_
      refine J_iload X dX10_safe_73 rfl ?_
      refine J_bipush X (v := (10 : Int32)) dX10_safe_75 (by decide) ?_
      refine J_idivc X dX10_safe_77 (by decide) ?_
      refine T_callV (As := [.int v1, .int (v6 - v6 / (10 : Int32) * (10 : Int32)), .int (v6 / (10 : Int32))]) w X (C_X10_movesAt (kG K) v0 kv0 v1 (v6 - v6 / (10 : Int32) * (10 : Int32)) (v6 / (10 : Int32)) S) cb10 kv0 ml_X10_398 in_yX10_movesAt se_yX10_movesAt ii_RX10 co_yX10_movesAt hy_X10_movesAt (hRd hR (by decide) (by decide)) rfl (Nat.le_of_ble_eq_true rfl) dX10_safe_78 (fun r3 S2 _ wS2 => ?_)
      refine J_if_le X (tgt := 87) dX10_safe_81 (by decide) ?_ ?_
      · refine J_nmv (v3 + (1 : Int32)) (fun x4 ex4 => ?_)
        refine J_iinc X (v := x4) (ls' := [some (.ref v0), some (.int v1), some (.int v2), some (.int x4), some (.int v4), some (.int v5), some (.int v6), none]) dX10_safe_87 (by decide) rfl (by rw [ex4]; rfl) rfl ?_
        refine J_aload_n X dX10_safe_90 (i := 0) rfl rfl ?_
        refine T_getR X (kf := 52) cb10 kv0 (by decide) fl_X10_122 (fun _ _ _ => rfl) dX10_safe_91 ?_
        refine J_bipush X (v := (20 : Int32)) dX10_safe_94 (by decide) ?_
        refine J_iload_n X dX10_safe_96 (i := 1) rfl rfl ?_
        refine J_iadd X dX10_safe_97 ?_
        refine T_iald X (wS2.1 _ _ kv0 52 _ rfl) dX10_safe_98 (fun j5 => ?_)
        refine J_iload X dX10_safe_99 rfl ?_
        refine J_bipush X (v := (10 : Int32)) dX10_safe_101 (by decide) ?_
        refine J_iremc X dX10_safe_103 (by decide) ?_
        refine T_callS (As := [.int (S2.1 (S2.2.2 v0 52) j5), .int (v6 - v6 / (10 : Int32) * (10 : Int32))]) wS2 X (C_X10_off (kG K) (S2.1 (S2.2.2 v0 52) j5) (v6 - v6 / (10 : Int32) * (10 : Int32)) S2) ml_X10_348 st_yX10_off ii_RX10 co_yX10_off hy_X10_off (hRd hR (by decide) (by decide)) rfl (Nat.le_of_ble_eq_true rfl) dX10_safe_104 (fun r7 S6 _ wS6 => ?_)
        refine J_aload_n X dX10_safe_107 (i := 0) rfl rfl ?_
        refine T_getR X (kf := 52) cb10 kv0 (by decide) fl_X10_122 (fun _ _ _ => rfl) dX10_safe_108 ?_
        refine J_bipush X (v := (26 : Int32)) dX10_safe_111 (by decide) ?_
        refine J_iload_n X dX10_safe_113 (i := 1) rfl rfl ?_
        refine J_iadd X dX10_safe_114 ?_
        refine T_iald X (wS6.1 _ _ kv0 52 _ rfl) dX10_safe_115 (fun j8 => ?_)
        refine J_iload X dX10_safe_116 rfl ?_
        refine J_bipush X (v := (10 : Int32)) dX10_safe_118 (by decide) ?_
        refine J_idivc X dX10_safe_120 (by decide) ?_
        refine T_callS (As := [.int (S6.1 (S6.2.2 v0 52) j8), .int (v6 / (10 : Int32))]) wS6 X (C_X10_off (kG K) (S6.1 (S6.2.2 v0 52) j8) (v6 / (10 : Int32)) S6) ml_X10_348 st_yX10_off ii_RX10 co_yX10_off hy_X10_off (hRd hR (by decide) (by decide)) rfl (Nat.le_of_ble_eq_true rfl) dX10_safe_121 (fun r10 S9 _ wS9 => ?_)
        refine T_callS (As := [.int r7, .int r10]) wS9 X (C_X10_more (kG K) r7 r10 S9) ml_X10_351 st_yX10_more ii_RX10 co_yX10_more hy_X10_more (hRd hR (by decide) (by decide)) rfl (Nat.le_of_ble_eq_true rfl) dX10_safe_124 (fun r12 S11 _ wS11 => ?_)
        refine J_istore X (ls' := [some (.ref v0), some (.int v1), some (.int v2), some (.int x4), some (.int v4), some (.int v5), some (.int v6), some (.int r12)]) dX10_safe_127 (by decide) rfl ?_
        refine J_iload X dX10_safe_129 rfl ?_
        refine J_if_lt X (tgt := 144) dX10_safe_131 (by decide) ?_ ?_
        · refine J_mask [true, true, true, true, false, false, true, true] ?_
          exact t_X10_safe_144 X hR ih v0 kv0 v1 v2 x4 v6 r12 S11 wS11
        · refine J_iload X dX10_safe_134 rfl ?_
          refine J_iload X dX10_safe_136 rfl ?_
          refine J_icmp_lt X (tgt := 144) dX10_safe_138 (by decide) ?_ ?_
          · refine J_mask [true, true, true, true, false, false, true, true] ?_
            exact t_X10_safe_144 X hR ih v0 kv0 v1 v2 x4 v6 r12 S11 wS11
          · refine J_goto X (tgt := 152) dX10_safe_141 (by decide) ?_
            refine J_mask [true, true, true, true, true, true, true, false] ?_
            exact t_X10_safe_152 X hR ih v0 kv0 v1 v2 x4 v4 v5 v6 S11 wS11
      · refine J_goto X (tgt := 152) dX10_safe_84 (by decide) ?_
        exact t_X10_safe_152 X hR ih v0 kv0 v1 v2 v3 v4 v5 v6 S2 wS2
set_option maxRecDepth 20000 in
def f_X10_safe (v0 : Nat) (v1 : Int32) (v2 : Int32) (S : St) : Option (Int32 × St) := bd (f_X10_isPerson v0 v1 S) fun r2 S1 => if r2 = 0 then (some ((-1 : Int32), S1)) else (bd (f_X10_in v2 (0 : Int32) (1 : Int32) S1) fun r4 S3 => if r4 = 0 then (some ((-1 : Int32), S3)) else (bd (f_X10_copies v0 S3) fun _ S5 => bd (f_X10_isOff v0 v1 S5) fun r8 S7 => if r8 = 0 then (b_X10_safe_46 FU v0 v1 v2 (0 : Int32) (-2 : Int32) (0 : Int32) (0 : Int32) S7) else (some ((-3 : Int32), S7))))
set_option maxRecDepth 20000 in
theorem t_X10_safe_0 {K : KK} (X : CX K cX10_safe 8 RX10 (some .int)) (hR : kR K = rmD 5) (v0 : Nat) (kv0 : KA (kDn K) v0 (0, 10)) (v1 : Int32) (v2 : Int32) (S : St) (w : WT (kDn K) S.2.2) : JX K (Zm K (fun v : Int32 => some (.int v))) 0 [some (.ref v0), some (.int v1), some (.int v2), none, none, none, none, none] [] (rwN (kN K) S) (kn K) 0 0 (f_X10_safe v0 v1 v2 S) := by
  unfold f_X10_safe
  refine J_aload_n X dX10_safe_0 (i := 0) rfl rfl ?_
  refine J_iload_n X dX10_safe_1 (i := 1) rfl rfl ?_
  refine T_callV (As := [.int v1]) w X (C_X10_isPerson (kG K) v0 kv0 v1 S) cb10 kv0 ml_X10_422 in_yX10_isPerson se_yX10_isPerson ii_RX10 co_yX10_isPerson hy_X10_isPerson (hRd hR (by decide) (by decide)) rfl (Nat.le_of_ble_eq_true rfl) dX10_safe_2 (fun r2 S1 _ wS1 => ?_)
  refine J_if_eq X (tgt := 17) dX10_safe_5 (by decide) ?_ ?_
  · refine J_iconst X (v := (-1 : Int32)) dX10_safe_17 (by decide) ?_
    exact T_iret wS1 X dX10_safe_18
  · refine J_iload_n X dX10_safe_8 (i := 2) rfl rfl ?_
    refine J_iconst X (v := (0 : Int32)) dX10_safe_9 (by decide) ?_
    refine J_iconst X (v := (1 : Int32)) dX10_safe_10 (by decide) ?_
    refine T_callS (As := [.int v2, .int (0 : Int32), .int (1 : Int32)]) wS1 X (C_X10_in (kG K) v2 (0 : Int32) (1 : Int32) S1) ml_X10_325 st_yX10_in ii_RX10 co_yX10_in hy_X10_in (hRd hR (by decide) (by decide)) rfl (Nat.le_of_ble_eq_true rfl) dX10_safe_11 (fun r4 S3 _ wS3 => ?_)
    refine J_if_ne X (tgt := 19) dX10_safe_14 (by decide) ?_ ?_
    · refine J_iconst X (v := (-1 : Int32)) dX10_safe_17 (by decide) ?_
      exact T_iret wS3 X dX10_safe_18
    · refine J_aload_n X dX10_safe_19 (i := 0) rfl rfl ?_
      refine T_callV (As := []) wS3 X (C_X10_copies (kG K) v0 kv0 S3) cb10 kv0 ml_X10_335 in_yX10_copies se_yX10_copies ii_RX10 co_yX10_copies hy_X10_copies (hRd hR (by decide) (by decide)) rfl (Nat.le_of_ble_eq_true rfl) dX10_safe_20 (fun _ S5 _ wS5 => ?_)
      refine J_aload_n X dX10_safe_23 (i := 0) rfl rfl ?_
      refine J_iload_n X dX10_safe_24 (i := 1) rfl rfl ?_
      refine T_callV (As := [.int v1]) wS5 X (C_X10_isOff (kG K) v0 kv0 v1 S5) cb10 kv0 ml_X10_360 in_yX10_isOff se_yX10_isOff ii_RX10 co_yX10_isOff hy_X10_isOff (hRd hR (by decide) (by decide)) rfl (Nat.le_of_ble_eq_true rfl) dX10_safe_25 (fun r8 S7 _ wS7 => ?_)
      refine J_if_eq X (tgt := 34) dX10_safe_28 (by decide) ?_ ?_
      · refine J_iconst X (v := (0 : Int32)) dX10_safe_34 (by decide) ?_
        refine J_istore_n X (i := 3) (ls' := [some (.ref v0), some (.int v1), some (.int v2), some (.int (0 : Int32)), none, none, none, none]) dX10_safe_35 rfl (by decide) rfl ?_
        refine J_bipush X (v := (-2 : Int32)) dX10_safe_36 (by decide) ?_
        refine J_istore X (ls' := [some (.ref v0), some (.int v1), some (.int v2), some (.int (0 : Int32)), some (.int (-2 : Int32)), none, none, none]) dX10_safe_38 (by decide) rfl ?_
        refine J_iconst X (v := (0 : Int32)) dX10_safe_40 (by decide) ?_
        refine J_istore X (ls' := [some (.ref v0), some (.int v1), some (.int v2), some (.int (0 : Int32)), some (.int (-2 : Int32)), some (.int (0 : Int32)), none, none]) dX10_safe_41 (by decide) rfl ?_
        refine J_iconst X (v := (0 : Int32)) dX10_safe_43 (by decide) ?_
        refine J_istore X (ls' := [some (.ref v0), some (.int v1), some (.int v2), some (.int (0 : Int32)), some (.int (-2 : Int32)), some (.int (0 : Int32)), some (.int (0 : Int32)), none]) dX10_safe_44 (by decide) rfl ?_
        exact t_X10_safe_46 X hR FU v0 kv0 v1 v2 (0 : Int32) (-2 : Int32) (0 : Int32) (0 : Int32) S7 wS7
      · refine J_bipush X (v := (-3 : Int32)) dX10_safe_31 (by decide) ?_
        exact T_iret wS7 X dX10_safe_33
theorem C_X10_safe (G : GG) (v0 : Nat) (kv0 : KA (gD G) v0 (0, 10)) (v1 : Int32) (v2 : Int32) (S : St) : CM G yX10_safe cX10_safe 8 (some .int) 5 [.ref v0, .int v1, .int v2] S (fun v : Int32 => some (.int v)) (f_X10_safe v0 v1 v2 S) :=
  CM_of (by decide) (Nat.le_of_ble_eq_true rfl) rfl (fun K hG X hR w => by subst hG; exact t_X10_safe_0 X hR v0 kv0 v1 v2 S w)
-- ==== X10_cutBest
theorem hy_X10_cutBest : yX10_cutBest.cls ≠ "java/lang/invoke/MethodHandle" ∧ yX10_cutBest.cls ≠ "java/lang/invoke/VarHandle" ∧ (parseMethodDescriptor yX10_cutBest.desc).map (fun d => d.parameters.length) = some 0 := by decide +kernel
set_option maxRecDepth 20000 in
def b_X10_cutBest_77 (q14 : Nat → Int32 → Int32 → Int32 → St → Option (Int32 × St)) (v0 : Nat) (v1 : Int32) (v2 : Int32) (v3 : Int32) (S : St) : Option (Int32 × St) := nm (v3 + (1 : Int32)) fun x1 => q14 v0 v1 v2 x1 S
set_option maxRecDepth 20000 in
theorem t_X10_cutBest_77 {K : KK} (X : CX K cX10_cutBest 5 RX10 (some .int)) (hR : kR K = rmD 9) {q14 : Nat → Int32 → Int32 → Int32 → St → Option (Int32 × St)} (hq14 : ∀ (v0 : Nat) (kv0 : KA (kDn K) v0 (0, 10)) (v1 : Int32) (v2 : Int32) (v3 : Int32) (S : St), WT (kDn K) S.2.2 → JX K (Zm K (fun v : Int32 => some (.int v))) 14 [some (.ref v0), some (.int v1), some (.int v2), some (.int v3), none] [] (rwN (kN K) S) (kn K) 0 0 (q14 v0 v1 v2 v3 S)) (v0 : Nat) (kv0 : KA (kDn K) v0 (0, 10)) (v1 : Int32) (v2 : Int32) (v3 : Int32) (S : St) (w : WT (kDn K) S.2.2) : JX K (Zm K (fun v : Int32 => some (.int v))) 77 [some (.ref v0), some (.int v1), some (.int v2), some (.int v3), none] [] (rwN (kN K) S) (kn K) 0 0 (b_X10_cutBest_77 q14 v0 v1 v2 v3 S) := by
  unfold b_X10_cutBest_77
  refine J_nmv (v3 + (1 : Int32)) (fun x1 ex1 => ?_)
  refine J_iinc X (v := x1) (ls' := [some (.ref v0), some (.int v1), some (.int v2), some (.int x1), none]) dX10_cutBest_77 (by decide) rfl (by rw [ex1]; rfl) rfl ?_
  refine J_goto X (tgt := 14) dX10_cutBest_80 (by decide) ?_
  exact hq14 v0 kv0 v1 v2 x1 S w
set_option maxRecDepth 20000 in
def b_X10_cutBest_14 : Nat → Nat → Int32 → Int32 → Int32 → St → Option (Int32 × St)
  | 0, _, _, _, _, _ => none
  | fu + 1, v0, v1, v2, v3, S => (ix (S.1 v0 18) 2).bind fun j1 => if (S.1 (S.2.2 v0 29) j1) ≤ v3 then (some (v2, S)) else ((ix ((46 : Int32) + v3) 55).bind fun j2 => if (S.1 (S.2.2 v0 51) j2) = (1 : Int32) then (b_X10_cutBest_77 (b_X10_cutBest_14 fu) v0 v1 v2 v3 S) else (bd (f_X10_copies v0 S) fun _ S3 => (ix ((46 : Int32) + v3) 55).bind fun j5 => nm (sI S3 (S3.2.2 v0 52) j5 (1 : Int32)) fun S6 => bd (f_X10_firstFrom v0 S6) fun r8 S7 => if v1 < r8 then (b_X10_cutBest_77 (b_X10_cutBest_14 fu) v0 r8 v3 v3 S7) else (b_X10_cutBest_77 (b_X10_cutBest_14 fu) v0 v1 v2 v3 S7)))
set_option maxRecDepth 20000 in
theorem t_X10_cutBest_14 {K : KK} (X : CX K cX10_cutBest 5 RX10 (some .int)) (hR : kR K = rmD 9) : ∀ (fu : Nat) (v0 : Nat) (kv0 : KA (kDn K) v0 (0, 10)) (v1 : Int32) (v2 : Int32) (v3 : Int32) (S : St), WT (kDn K) S.2.2 → JX K (Zm K (fun v : Int32 => some (.int v))) 14 [some (.ref v0), some (.int v1), some (.int v2), some (.int v3), none] [] (rwN (kN K) S) (kn K) 0 0 (b_X10_cutBest_14 fu v0 v1 v2 v3 S) := by
  intro fu
  induction fu with
  | zero => intro v0 kv0 v1 v2 v3 S w; exact J_none
  | succ fu ih =>
    intro v0 kv0 v1 v2 v3 S w
    rw [b_X10_cutBest_14]
    refine J_iload_n X dX10_cutBest_14 (i := 3) rfl rfl ?_
    refine J_aload_n X dX10_cutBest_15 (i := 0) rfl rfl ?_
    refine T_getR X (kf := 29) cb10 kv0 (by decide) fl_X10_64 (fun _ _ _ => rfl) dX10_cutBest_16 ?_
    refine J_aload_n X dX10_cutBest_19 (i := 0) rfl rfl ?_
    refine T_getI X (kf := 18) cb10 kv0 (by decide) fl_X10_239 (fun _ _ _ => rfl) dX10_cutBest_20 ?_
    refine T_iald X (w.1 _ _ kv0 29 _ rfl) dX10_cutBest_23 (fun j1 => ?_)
    refine J_icmp_ge X (tgt := 83) dX10_cutBest_24 (by decide) ?_ ?_
    · refine J_iload_n X dX10_cutBest_83 (i := 2) rfl rfl ?_
      exact T_iret w X dX10_cutBest_84
    · refine J_aload_n X dX10_cutBest_27 (i := 0) rfl rfl ?_
      refine T_getR X (kf := 51) cb10 kv0 (by decide) fl_X10_119 (fun _ _ _ => rfl) dX10_cutBest_28 ?_
      refine J_bipush X (v := (46 : Int32)) dX10_cutBest_31 (by decide) ?_
      refine J_iload_n X dX10_cutBest_33 (i := 3) rfl rfl ?_
      refine J_iadd X dX10_cutBest_34 ?_
      refine T_iald X (w.1 _ _ kv0 51 _ rfl) dX10_cutBest_35 (fun j2 => ?_)
      refine J_iconst X (v := (1 : Int32)) dX10_cutBest_36 (by decide) ?_
      refine J_icmp_ne X (tgt := 43) dX10_cutBest_37 (by decide) ?_ ?_
      · refine J_goto X (tgt := 77) dX10_cutBest_40 (by decide) ?_
        exact t_X10_cutBest_77 X hR ih v0 kv0 v1 v2 v3 S w
      · refine J_aload_n X dX10_cutBest_43 (i := 0) rfl rfl ?_
        refine T_callV (As := []) w X (C_X10_copies (kG K) v0 kv0 S) cb10 kv0 ml_X10_335 in_yX10_copies se_yX10_copies ii_RX10 co_yX10_copies hy_X10_copies (hRd hR (by decide) (by decide)) rfl (Nat.le_of_ble_eq_true rfl) dX10_cutBest_44 (fun _ S3 _ wS3 => ?_)
        refine J_aload_n X dX10_cutBest_47 (i := 0) rfl rfl ?_
        refine T_getR X (kf := 52) cb10 kv0 (by decide) fl_X10_122 (fun _ _ _ => rfl) dX10_cutBest_48 ?_
        refine J_bipush X (v := (46 : Int32)) dX10_cutBest_51 (by decide) ?_
        refine J_iload_n X dX10_cutBest_53 (i := 3) rfl rfl ?_
        refine J_iadd X dX10_cutBest_54 ?_
        refine J_iconst X (v := (1 : Int32)) dX10_cutBest_55 (by decide) ?_
        refine T_iast X (wS3.1 _ _ kv0 52 _ rfl) dX10_cutBest_56 (fun j5 S6 hS6 => ?_)
        have wS6 : WT (kDn K) S6.2.2 := by rw [hS6]; exact wS3
        clear hS6
        refine J_aload_n X dX10_cutBest_57 (i := 0) rfl rfl ?_
        refine T_callV (As := []) wS6 X (C_X10_firstFrom (kG K) v0 kv0 S6) cb10 kv0 ml_X10_450 in_yX10_firstFrom se_yX10_firstFrom ii_RX10 co_yX10_firstFrom hy_X10_firstFrom (hRd hR (by decide) (by decide)) rfl (Nat.le_of_ble_eq_true rfl) dX10_cutBest_58 (fun r8 S7 _ wS7 => ?_)
        refine J_istore X (ls' := [some (.ref v0), some (.int v1), some (.int v2), some (.int v3), some (.int r8)]) dX10_cutBest_61 (by decide) rfl ?_
        refine J_iload X dX10_cutBest_63 rfl ?_
        refine J_iload_n X dX10_cutBest_65 (i := 1) rfl rfl ?_
        refine J_icmp_gt X (tgt := 72) dX10_cutBest_66 (by decide) ?_ ?_
        · refine J_iload_n X dX10_cutBest_72 (i := 3) rfl rfl ?_
          refine J_istore_n X (i := 2) (ls' := [some (.ref v0), some (.int v1), some (.int v3), some (.int v3), some (.int r8)]) dX10_cutBest_73 rfl (by decide) rfl ?_
          refine J_iload X dX10_cutBest_74 rfl ?_
          refine J_istore_n X (i := 1) (ls' := [some (.ref v0), some (.int r8), some (.int v3), some (.int v3), some (.int r8)]) dX10_cutBest_76 rfl (by decide) rfl ?_
          refine J_mask [true, true, true, true, false] ?_
          exact t_X10_cutBest_77 X hR ih v0 kv0 r8 v3 v3 S7 wS7
        · refine J_goto X (tgt := 77) dX10_cutBest_69 (by decide) ?_
          refine J_mask [true, true, true, true, false] ?_
          exact t_X10_cutBest_77 X hR ih v0 kv0 v1 v2 v3 S7 wS7
set_option maxRecDepth 20000 in
def f_X10_cutBest (v0 : Nat) (S : St) : Option (Int32 × St) := bd (f_X10_copies v0 S) fun _ S1 => bd (f_X10_firstFrom v0 S1) fun r4 S3 => b_X10_cutBest_14 FU v0 r4 (-2 : Int32) (0 : Int32) S3
set_option maxRecDepth 20000 in
theorem t_X10_cutBest_0 {K : KK} (X : CX K cX10_cutBest 5 RX10 (some .int)) (hR : kR K = rmD 9) (v0 : Nat) (kv0 : KA (kDn K) v0 (0, 10)) (S : St) (w : WT (kDn K) S.2.2) : JX K (Zm K (fun v : Int32 => some (.int v))) 0 [some (.ref v0), none, none, none, none] [] (rwN (kN K) S) (kn K) 0 0 (f_X10_cutBest v0 S) := by
  unfold f_X10_cutBest
  refine J_aload_n X dX10_cutBest_0 (i := 0) rfl rfl ?_
  refine T_callV (As := []) w X (C_X10_copies (kG K) v0 kv0 S) cb10 kv0 ml_X10_335 in_yX10_copies se_yX10_copies ii_RX10 co_yX10_copies hy_X10_copies (hRd hR (by decide) (by decide)) rfl (Nat.le_of_ble_eq_true rfl) dX10_cutBest_1 (fun _ S1 _ wS1 => ?_)
  refine J_aload_n X dX10_cutBest_4 (i := 0) rfl rfl ?_
  refine T_callV (As := []) wS1 X (C_X10_firstFrom (kG K) v0 kv0 S1) cb10 kv0 ml_X10_450 in_yX10_firstFrom se_yX10_firstFrom ii_RX10 co_yX10_firstFrom hy_X10_firstFrom (hRd hR (by decide) (by decide)) rfl (Nat.le_of_ble_eq_true rfl) dX10_cutBest_5 (fun r4 S3 _ wS3 => ?_)
  refine J_istore_n X (i := 1) (ls' := [some (.ref v0), some (.int r4), none, none, none]) dX10_cutBest_8 rfl (by decide) rfl ?_
  refine J_bipush X (v := (-2 : Int32)) dX10_cutBest_9 (by decide) ?_
  refine J_istore_n X (i := 2) (ls' := [some (.ref v0), some (.int r4), some (.int (-2 : Int32)), none, none]) dX10_cutBest_11 rfl (by decide) rfl ?_
  refine J_iconst X (v := (0 : Int32)) dX10_cutBest_12 (by decide) ?_
  refine J_istore_n X (i := 3) (ls' := [some (.ref v0), some (.int r4), some (.int (-2 : Int32)), some (.int (0 : Int32)), none]) dX10_cutBest_13 rfl (by decide) rfl ?_
  exact t_X10_cutBest_14 X hR FU v0 kv0 r4 (-2 : Int32) (0 : Int32) S3 wS3
theorem C_X10_cutBest (G : GG) (v0 : Nat) (kv0 : KA (gD G) v0 (0, 10)) (S : St) : CM G yX10_cutBest cX10_cutBest 5 (some .int) 9 [.ref v0] S (fun v : Int32 => some (.int v)) (f_X10_cutBest v0 S) :=
  CM_of (by decide) (Nat.le_of_ble_eq_true rfl) rfl (fun K hG X hR w => by subst hG; exact t_X10_cutBest_0 X hR v0 kv0 S w)
-- ==== X10_worth
theorem hy_X10_worth : yX10_worth.cls ≠ "java/lang/invoke/MethodHandle" ∧ yX10_worth.cls ≠ "java/lang/invoke/VarHandle" ∧ (parseMethodDescriptor yX10_worth.desc).map (fun d => d.parameters.length) = some 1 := by decide +kernel
set_option maxRecDepth 20000 in
def f_X10_worth (v0 : Nat) (v1 : Int32) (S : St) : Option (Int32 × St) := bd (f_X10_isPerson v0 v1 S) fun r2 S1 => if r2 = 0 then (some ((-1 : Int32), S1)) else (bd (f_X10_copies v0 S1) fun _ S3 => bd (f_X10_wornBits v0 v1 S3) fun r6 S5 => bd (f_X10_pricesOf v0 r6 S5) fun r8 S7 => some (r8, S7))
set_option maxRecDepth 20000 in
theorem t_X10_worth_0 {K : KK} (X : CX K cX10_worth 2 RX10 (some .int)) (hR : kR K = rmD 4) (v0 : Nat) (kv0 : KA (kDn K) v0 (0, 10)) (v1 : Int32) (S : St) (w : WT (kDn K) S.2.2) : JX K (Zm K (fun v : Int32 => some (.int v))) 0 [some (.ref v0), some (.int v1)] [] (rwN (kN K) S) (kn K) 0 0 (f_X10_worth v0 v1 S) := by
  unfold f_X10_worth
  refine J_aload_n X dX10_worth_0 (i := 0) rfl rfl ?_
  refine J_iload_n X dX10_worth_1 (i := 1) rfl rfl ?_
  refine T_callV (As := [.int v1]) w X (C_X10_isPerson (kG K) v0 kv0 v1 S) cb10 kv0 ml_X10_422 in_yX10_isPerson se_yX10_isPerson ii_RX10 co_yX10_isPerson hy_X10_isPerson (hRd hR (by decide) (by decide)) rfl (Nat.le_of_ble_eq_true rfl) dX10_worth_2 (fun r2 S1 _ wS1 => ?_)
  refine J_if_ne X (tgt := 10) dX10_worth_5 (by decide) ?_ ?_
  · refine J_iconst X (v := (-1 : Int32)) dX10_worth_8 (by decide) ?_
    exact T_iret wS1 X dX10_worth_9
  · refine J_aload_n X dX10_worth_10 (i := 0) rfl rfl ?_
    refine T_callV (As := []) wS1 X (C_X10_copies (kG K) v0 kv0 S1) cb10 kv0 ml_X10_335 in_yX10_copies se_yX10_copies ii_RX10 co_yX10_copies hy_X10_copies (hRd hR (by decide) (by decide)) rfl (Nat.le_of_ble_eq_true rfl) dX10_worth_11 (fun _ S3 _ wS3 => ?_)
    refine J_aload_n X dX10_worth_14 (i := 0) rfl rfl ?_
    refine J_aload_n X dX10_worth_15 (i := 0) rfl rfl ?_
    refine J_iload_n X dX10_worth_16 (i := 1) rfl rfl ?_
    refine T_callV (As := [.int v1]) wS3 X (C_X10_wornBits (kG K) v0 kv0 v1 S3) cb10 kv0 ml_X10_388 in_yX10_wornBits se_yX10_wornBits ii_RX10 co_yX10_wornBits hy_X10_wornBits (hRd hR (by decide) (by decide)) rfl (Nat.le_of_ble_eq_true rfl) dX10_worth_17 (fun r6 S5 _ wS5 => ?_)
    refine T_callV (As := [.int r6]) wS5 X (C_X10_pricesOf (kG K) v0 kv0 r6 S5) cb10 kv0 ml_X10_471 in_yX10_pricesOf se_yX10_pricesOf ii_RX10 co_yX10_pricesOf hy_X10_pricesOf (hRd hR (by decide) (by decide)) rfl (Nat.le_of_ble_eq_true rfl) dX10_worth_20 (fun r8 S7 _ wS7 => ?_)
    exact T_iret wS7 X dX10_worth_23
theorem C_X10_worth (G : GG) (v0 : Nat) (kv0 : KA (gD G) v0 (0, 10)) (v1 : Int32) (S : St) : CM G yX10_worth cX10_worth 2 (some .int) 4 [.ref v0, .int v1] S (fun v : Int32 => some (.int v)) (f_X10_worth v0 v1 S) :=
  CM_of (by decide) (Nat.le_of_ble_eq_true rfl) rfl (fun K hG X hR w => by subst hG; exact t_X10_worth_0 X hR v0 kv0 v1 S w)
-- ==== X10_give
theorem hy_X10_give : yX10_give.cls ≠ "java/lang/invoke/MethodHandle" ∧ yX10_give.cls ≠ "java/lang/invoke/VarHandle" ∧ (parseMethodDescriptor yX10_give.desc).map (fun d => d.parameters.length) = some 1 := by decide +kernel
set_option maxRecDepth 20000 in
def b_X10_give_122 (q41 : Nat → Int32 → Int32 → Int32 → Int32 → St → Option (Int32 × St)) (v0 : Nat) (v1 : Int32) (v2 : Int32) (v3 : Int32) (v4 : Int32) (S : St) : Option (Int32 × St) := nm (v4 + (1 : Int32)) fun x1 => q41 v0 v1 v2 v3 x1 S
set_option maxRecDepth 20000 in
theorem t_X10_give_122 {K : KK} (X : CX K cX10_give 6 RX10 (some .int)) (hR : kR K = rmD 9) {q41 : Nat → Int32 → Int32 → Int32 → Int32 → St → Option (Int32 × St)} (hq41 : ∀ (v0 : Nat) (kv0 : KA (kDn K) v0 (0, 10)) (v1 : Int32) (v2 : Int32) (v3 : Int32) (v4 : Int32) (S : St), WT (kDn K) S.2.2 → JX K (Zm K (fun v : Int32 => some (.int v))) 41 [some (.ref v0), some (.int v1), some (.int v2), some (.int v3), some (.int v4), none] [] (rwN (kN K) S) (kn K) 0 0 (q41 v0 v1 v2 v3 v4 S)) (v0 : Nat) (kv0 : KA (kDn K) v0 (0, 10)) (v1 : Int32) (v2 : Int32) (v3 : Int32) (v4 : Int32) (S : St) (w : WT (kDn K) S.2.2) : JX K (Zm K (fun v : Int32 => some (.int v))) 122 [some (.ref v0), some (.int v1), some (.int v2), some (.int v3), some (.int v4), none] [] (rwN (kN K) S) (kn K) 0 0 (b_X10_give_122 q41 v0 v1 v2 v3 v4 S) := by
  unfold b_X10_give_122
  refine J_nmv (v4 + (1 : Int32)) (fun x1 ex1 => ?_)
  refine J_iinc X (v := x1) (ls' := [some (.ref v0), some (.int v1), some (.int v2), some (.int v3), some (.int x1), none]) dX10_give_122 (by decide) rfl (by rw [ex1]; rfl) rfl ?_
  refine J_goto X (tgt := 41) dX10_give_125 (by decide) ?_
  exact hq41 v0 kv0 v1 v2 v3 x1 S w
set_option maxRecDepth 20000 in
def b_X10_give_41 : Nat → Nat → Int32 → Int32 → Int32 → Int32 → St → Option (Int32 × St)
  | 0, _, _, _, _, _, _ => none
  | fu + 1, v0, v1, v2, v3, v4, S => (ix (S.1 v0 18) 2).bind fun j1 => if (S.1 (S.2.2 v0 25) j1) ≤ v4 then (some (v3, S)) else ((ix ((38 : Int32) + v1) 55).bind fun j2 => if (S.1 (S.2.2 v0 51) j2) = v4 then (b_X10_give_122 (b_X10_give_41 fu) v0 v1 v2 v3 v4 S) else ((ix ((32 : Int32) + v4) 55).bind fun j3 => if (S.1 (S.2.2 v0 51) j3) = (1 : Int32) then (b_X10_give_122 (b_X10_give_41 fu) v0 v1 v2 v3 v4 S) else (bd (f_X10_copies v0 S) fun _ S4 => (ix ((38 : Int32) + v1) 55).bind fun j6 => nm (sI S4 (S4.2.2 v0 52) j6 v4) fun S7 => bd (f_X10_firstFrom v0 S7) fun r9 S8 => if v2 < r9 then (b_X10_give_122 (b_X10_give_41 fu) v0 v1 r9 v4 v4 S8) else (b_X10_give_122 (b_X10_give_41 fu) v0 v1 v2 v3 v4 S8))))
set_option maxRecDepth 20000 in
theorem t_X10_give_41 {K : KK} (X : CX K cX10_give 6 RX10 (some .int)) (hR : kR K = rmD 9) : ∀ (fu : Nat) (v0 : Nat) (kv0 : KA (kDn K) v0 (0, 10)) (v1 : Int32) (v2 : Int32) (v3 : Int32) (v4 : Int32) (S : St), WT (kDn K) S.2.2 → JX K (Zm K (fun v : Int32 => some (.int v))) 41 [some (.ref v0), some (.int v1), some (.int v2), some (.int v3), some (.int v4), none] [] (rwN (kN K) S) (kn K) 0 0 (b_X10_give_41 fu v0 v1 v2 v3 v4 S) := by
  intro fu
  induction fu with
  | zero => intro v0 kv0 v1 v2 v3 v4 S w; exact J_none
  | succ fu ih =>
    intro v0 kv0 v1 v2 v3 v4 S w
    rw [b_X10_give_41]
    refine J_iload X dX10_give_41 rfl ?_
    refine J_aload_n X dX10_give_43 (i := 0) rfl rfl ?_
    refine T_getR X (kf := 25) cb10 kv0 (by decide) fl_X10_52 (fun _ _ _ => rfl) dX10_give_44 ?_
    refine J_aload_n X dX10_give_47 (i := 0) rfl rfl ?_
    refine T_getI X (kf := 18) cb10 kv0 (by decide) fl_X10_239 (fun _ _ _ => rfl) dX10_give_48 ?_
    refine T_iald X (w.1 _ _ kv0 25 _ rfl) dX10_give_51 (fun j1 => ?_)
    refine J_icmp_ge X (tgt := 128) dX10_give_52 (by decide) ?_ ?_
    · refine J_iload_n X dX10_give_128 (i := 3) rfl rfl ?_
      exact T_iret w X dX10_give_129
    · refine J_aload_n X dX10_give_55 (i := 0) rfl rfl ?_
      refine T_getR X (kf := 51) cb10 kv0 (by decide) fl_X10_119 (fun _ _ _ => rfl) dX10_give_56 ?_
      refine J_bipush X (v := (38 : Int32)) dX10_give_59 (by decide) ?_
      refine J_iload_n X dX10_give_61 (i := 1) rfl rfl ?_
      refine J_iadd X dX10_give_62 ?_
      refine T_iald X (w.1 _ _ kv0 51 _ rfl) dX10_give_63 (fun j2 => ?_)
      refine J_iload X dX10_give_64 rfl ?_
      refine J_icmp_eq X (tgt := 122) dX10_give_66 (by decide) ?_ ?_
      · exact t_X10_give_122 X hR ih v0 kv0 v1 v2 v3 v4 S w
      · refine J_aload_n X dX10_give_69 (i := 0) rfl rfl ?_
        refine T_getR X (kf := 51) cb10 kv0 (by decide) fl_X10_119 (fun _ _ _ => rfl) dX10_give_70 ?_
        refine J_bipush X (v := (32 : Int32)) dX10_give_73 (by decide) ?_
        refine J_iload X dX10_give_75 rfl ?_
        refine J_iadd X dX10_give_77 ?_
        refine T_iald X (w.1 _ _ kv0 51 _ rfl) dX10_give_78 (fun j3 => ?_)
        refine J_iconst X (v := (1 : Int32)) dX10_give_79 (by decide) ?_
        refine J_icmp_ne X (tgt := 86) dX10_give_80 (by decide) ?_ ?_
        · refine J_goto X (tgt := 122) dX10_give_83 (by decide) ?_
          exact t_X10_give_122 X hR ih v0 kv0 v1 v2 v3 v4 S w
        · refine J_aload_n X dX10_give_86 (i := 0) rfl rfl ?_
          refine T_callV (As := []) w X (C_X10_copies (kG K) v0 kv0 S) cb10 kv0 ml_X10_335 in_yX10_copies se_yX10_copies ii_RX10 co_yX10_copies hy_X10_copies (hRd hR (by decide) (by decide)) rfl (Nat.le_of_ble_eq_true rfl) dX10_give_87 (fun _ S4 _ wS4 => ?_)
          refine J_aload_n X dX10_give_90 (i := 0) rfl rfl ?_
          refine T_getR X (kf := 52) cb10 kv0 (by decide) fl_X10_122 (fun _ _ _ => rfl) dX10_give_91 ?_
          refine J_bipush X (v := (38 : Int32)) dX10_give_94 (by decide) ?_
          refine J_iload_n X dX10_give_96 (i := 1) rfl rfl ?_
          refine J_iadd X dX10_give_97 ?_
          refine J_iload X dX10_give_98 rfl ?_
          refine T_iast X (wS4.1 _ _ kv0 52 _ rfl) dX10_give_100 (fun j6 S7 hS7 => ?_)
          have wS7 : WT (kDn K) S7.2.2 := by rw [hS7]; exact wS4
          clear hS7
          refine J_aload_n X dX10_give_101 (i := 0) rfl rfl ?_
          refine T_callV (As := []) wS7 X (C_X10_firstFrom (kG K) v0 kv0 S7) cb10 kv0 ml_X10_450 in_yX10_firstFrom se_yX10_firstFrom ii_RX10 co_yX10_firstFrom hy_X10_firstFrom (hRd hR (by decide) (by decide)) rfl (Nat.le_of_ble_eq_true rfl) dX10_give_102 (fun r9 S8 _ wS8 => ?_)
          refine J_istore X (ls' := [some (.ref v0), some (.int v1), some (.int v2), some (.int v3), some (.int v4), some (.int r9)]) dX10_give_105 (by decide) rfl ?_
          refine J_iload X dX10_give_107 rfl ?_
          refine J_iload_n X dX10_give_109 (i := 2) rfl rfl ?_
          refine J_icmp_gt X (tgt := 116) dX10_give_110 (by decide) ?_ ?_
          · refine J_iload X dX10_give_116 rfl ?_
            refine J_istore_n X (i := 3) (ls' := [some (.ref v0), some (.int v1), some (.int v2), some (.int v4), some (.int v4), some (.int r9)]) dX10_give_118 rfl (by decide) rfl ?_
            refine J_iload X dX10_give_119 rfl ?_
            refine J_istore_n X (i := 2) (ls' := [some (.ref v0), some (.int v1), some (.int r9), some (.int v4), some (.int v4), some (.int r9)]) dX10_give_121 rfl (by decide) rfl ?_
            refine J_mask [true, true, true, true, true, false] ?_
            exact t_X10_give_122 X hR ih v0 kv0 v1 r9 v4 v4 S8 wS8
          · refine J_goto X (tgt := 122) dX10_give_113 (by decide) ?_
            refine J_mask [true, true, true, true, true, false] ?_
            exact t_X10_give_122 X hR ih v0 kv0 v1 v2 v3 v4 S8 wS8
set_option maxRecDepth 20000 in
def f_X10_give (v0 : Nat) (v1 : Int32) (S : St) : Option (Int32 × St) := bd (f_X10_isStrand v0 v1 S) fun r2 S1 => if r2 = 0 then (some ((-1 : Int32), S1)) else ((ix ((46 : Int32) + v1) 55).bind fun j3 => if (S1.1 (S1.2.2 v0 51) j3) = (1 : Int32) then (some ((-2 : Int32), S1)) else (bd (f_X10_copies v0 S1) fun _ S4 => bd (f_X10_firstFrom v0 S4) fun r7 S6 => b_X10_give_41 FU v0 v1 r7 (-2 : Int32) (0 : Int32) S6))
set_option maxRecDepth 20000 in
theorem t_X10_give_0 {K : KK} (X : CX K cX10_give 6 RX10 (some .int)) (hR : kR K = rmD 9) (v0 : Nat) (kv0 : KA (kDn K) v0 (0, 10)) (v1 : Int32) (S : St) (w : WT (kDn K) S.2.2) : JX K (Zm K (fun v : Int32 => some (.int v))) 0 [some (.ref v0), some (.int v1), none, none, none, none] [] (rwN (kN K) S) (kn K) 0 0 (f_X10_give v0 v1 S) := by
  unfold f_X10_give
  refine J_aload_n X dX10_give_0 (i := 0) rfl rfl ?_
  refine J_iload_n X dX10_give_1 (i := 1) rfl rfl ?_
  refine T_callV (As := [.int v1]) w X (C_X10_isStrand (kG K) v0 kv0 v1 S) cb10 kv0 ml_X10_426 in_yX10_isStrand se_yX10_isStrand ii_RX10 co_yX10_isStrand hy_X10_isStrand (hRd hR (by decide) (by decide)) rfl (Nat.le_of_ble_eq_true rfl) dX10_give_2 (fun r2 S1 _ wS1 => ?_)
  refine J_if_ne X (tgt := 10) dX10_give_5 (by decide) ?_ ?_
  · refine J_iconst X (v := (-1 : Int32)) dX10_give_8 (by decide) ?_
    exact T_iret wS1 X dX10_give_9
  · refine J_aload_n X dX10_give_10 (i := 0) rfl rfl ?_
    refine T_getR X (kf := 51) cb10 kv0 (by decide) fl_X10_119 (fun _ _ _ => rfl) dX10_give_11 ?_
    refine J_bipush X (v := (46 : Int32)) dX10_give_14 (by decide) ?_
    refine J_iload_n X dX10_give_16 (i := 1) rfl rfl ?_
    refine J_iadd X dX10_give_17 ?_
    refine T_iald X (wS1.1 _ _ kv0 51 _ rfl) dX10_give_18 (fun j3 => ?_)
    refine J_iconst X (v := (1 : Int32)) dX10_give_19 (by decide) ?_
    refine J_icmp_ne X (tgt := 26) dX10_give_20 (by decide) ?_ ?_
    · refine J_bipush X (v := (-2 : Int32)) dX10_give_23 (by decide) ?_
      exact T_iret wS1 X dX10_give_25
    · refine J_aload_n X dX10_give_26 (i := 0) rfl rfl ?_
      refine T_callV (As := []) wS1 X (C_X10_copies (kG K) v0 kv0 S1) cb10 kv0 ml_X10_335 in_yX10_copies se_yX10_copies ii_RX10 co_yX10_copies hy_X10_copies (hRd hR (by decide) (by decide)) rfl (Nat.le_of_ble_eq_true rfl) dX10_give_27 (fun _ S4 _ wS4 => ?_)
      refine J_aload_n X dX10_give_30 (i := 0) rfl rfl ?_
      refine T_callV (As := []) wS4 X (C_X10_firstFrom (kG K) v0 kv0 S4) cb10 kv0 ml_X10_450 in_yX10_firstFrom se_yX10_firstFrom ii_RX10 co_yX10_firstFrom hy_X10_firstFrom (hRd hR (by decide) (by decide)) rfl (Nat.le_of_ble_eq_true rfl) dX10_give_31 (fun r7 S6 _ wS6 => ?_)
      refine J_istore_n X (i := 2) (ls' := [some (.ref v0), some (.int v1), some (.int r7), none, none, none]) dX10_give_34 rfl (by decide) rfl ?_
      refine J_bipush X (v := (-2 : Int32)) dX10_give_35 (by decide) ?_
      refine J_istore_n X (i := 3) (ls' := [some (.ref v0), some (.int v1), some (.int r7), some (.int (-2 : Int32)), none, none]) dX10_give_37 rfl (by decide) rfl ?_
      refine J_iconst X (v := (0 : Int32)) dX10_give_38 (by decide) ?_
      refine J_istore X (ls' := [some (.ref v0), some (.int v1), some (.int r7), some (.int (-2 : Int32)), some (.int (0 : Int32)), none]) dX10_give_39 (by decide) rfl ?_
      exact t_X10_give_41 X hR FU v0 kv0 v1 r7 (-2 : Int32) (0 : Int32) S6 wS6
theorem C_X10_give (G : GG) (v0 : Nat) (kv0 : KA (gD G) v0 (0, 10)) (v1 : Int32) (S : St) : CM G yX10_give cX10_give 6 (some .int) 9 [.ref v0, .int v1] S (fun v : Int32 => some (.int v)) (f_X10_give v0 v1 S) :=
  CM_of (by decide) (Nat.le_of_ble_eq_true rfl) rfl (fun K hG X hR w => by subst hG; exact t_X10_give_0 X hR v0 kv0 v1 S w)
-- ==== X10_year
theorem hy_X10_year : yX10_year.cls ≠ "java/lang/invoke/MethodHandle" ∧ yX10_year.cls ≠ "java/lang/invoke/VarHandle" ∧ (parseMethodDescriptor yX10_year.desc).map (fun d => d.parameters.length) = some 3 := by decide +kernel
set_option maxRecDepth 20000 in
def b_X10_year_70 (q33 : Nat → Int32 → Int32 → Int32 → Int32 → Int32 → St → Option (Int32 × St)) (v0 : Nat) (v1 : Int32) (v2 : Int32) (v3 : Int32) (v4 : Int32) (v5 : Int32) (S : St) : Option (Int32 × St) := nm (v5 + (1 : Int32)) fun x1 => q33 v0 v1 v2 v3 v4 x1 S
set_option maxRecDepth 20000 in
theorem t_X10_year_70 {K : KK} (X : CX K cX10_year 6 RX10 (some .int)) (hR : kR K = rmD 9) {q33 : Nat → Int32 → Int32 → Int32 → Int32 → Int32 → St → Option (Int32 × St)} (hq33 : ∀ (v0 : Nat) (kv0 : KA (kDn K) v0 (0, 10)) (v1 : Int32) (v2 : Int32) (v3 : Int32) (v4 : Int32) (v5 : Int32) (S : St), WT (kDn K) S.2.2 → JX K (Zm K (fun v : Int32 => some (.int v))) 33 [some (.ref v0), some (.int v1), some (.int v2), some (.int v3), some (.int v4), some (.int v5)] [] (rwN (kN K) S) (kn K) 0 0 (q33 v0 v1 v2 v3 v4 v5 S)) (v0 : Nat) (kv0 : KA (kDn K) v0 (0, 10)) (v1 : Int32) (v2 : Int32) (v3 : Int32) (v4 : Int32) (v5 : Int32) (S : St) (w : WT (kDn K) S.2.2) : JX K (Zm K (fun v : Int32 => some (.int v))) 70 [some (.ref v0), some (.int v1), some (.int v2), some (.int v3), some (.int v4), some (.int v5)] [] (rwN (kN K) S) (kn K) 0 0 (b_X10_year_70 q33 v0 v1 v2 v3 v4 v5 S) := by
  unfold b_X10_year_70
  refine J_nmv (v5 + (1 : Int32)) (fun x1 ex1 => ?_)
  refine J_iinc X (v := x1) (ls' := [some (.ref v0), some (.int v1), some (.int v2), some (.int v3), some (.int v4), some (.int x1)]) dX10_year_70 (by decide) rfl (by rw [ex1]; rfl) rfl ?_
  refine J_goto X (tgt := 33) dX10_year_73 (by decide) ?_
  exact hq33 v0 kv0 v1 v2 v3 v4 x1 S w
set_option maxRecDepth 20000 in
def b_X10_year_33 : Nat → Nat → Int32 → Int32 → Int32 → Int32 → Int32 → St → Option (Int32 × St)
  | 0, _, _, _, _, _, _, _ => none
  | fu + 1, v0, v1, v2, v3, v4, v5, S => if v3 ≤ v5 then (some (v4, S)) else (bd (f_X10_copies v0 S) fun _ S1 => nm (sI S1 v0 53 ((S1.1 v0 53) + v5)) fun S3 => bd (f_X10_goes v0 v2 S3) fun _ S4 => bd (f_X10_isOff v0 v1 S4) fun r7 S6 => if r7 = 0 then (nm (v4 + (1 : Int32)) fun x8 => b_X10_year_70 (b_X10_year_33 fu) v0 v1 v2 v3 x8 v5 S6) else (b_X10_year_70 (b_X10_year_33 fu) v0 v1 v2 v3 v4 v5 S6))
set_option maxRecDepth 20000 in
theorem t_X10_year_33 {K : KK} (X : CX K cX10_year 6 RX10 (some .int)) (hR : kR K = rmD 9) : ∀ (fu : Nat) (v0 : Nat) (kv0 : KA (kDn K) v0 (0, 10)) (v1 : Int32) (v2 : Int32) (v3 : Int32) (v4 : Int32) (v5 : Int32) (S : St), WT (kDn K) S.2.2 → JX K (Zm K (fun v : Int32 => some (.int v))) 33 [some (.ref v0), some (.int v1), some (.int v2), some (.int v3), some (.int v4), some (.int v5)] [] (rwN (kN K) S) (kn K) 0 0 (b_X10_year_33 fu v0 v1 v2 v3 v4 v5 S) := by
  intro fu
  induction fu with
  | zero => intro v0 kv0 v1 v2 v3 v4 v5 S w; exact J_none
  | succ fu ih =>
    intro v0 kv0 v1 v2 v3 v4 v5 S w
    rw [b_X10_year_33]
    refine J_iload X dX10_year_33 rfl ?_
    refine J_iload_n X dX10_year_35 (i := 3) rfl rfl ?_
    refine J_icmp_ge X (tgt := 76) dX10_year_36 (by decide) ?_ ?_
    · refine J_iload X dX10_year_76 rfl ?_
      exact T_iret w X dX10_year_78
    · refine J_aload_n X dX10_year_39 (i := 0) rfl rfl ?_
      refine T_callV (As := []) w X (C_X10_copies (kG K) v0 kv0 S) cb10 kv0 ml_X10_335 in_yX10_copies se_yX10_copies ii_RX10 co_yX10_copies hy_X10_copies (hRd hR (by decide) (by decide)) rfl (Nat.le_of_ble_eq_true rfl) dX10_year_40 (fun _ S1 _ wS1 => ?_)
      refine J_aload_n X dX10_year_43 (i := 0) rfl rfl ?_
      refine J_dup X dX10_year_44 rfl ?_
      refine T_getI X (kf := 53) cb10 kv0 (by decide) fl_X10_329 (fun _ _ _ => rfl) dX10_year_45 ?_
      refine J_iload X dX10_year_48 rfl ?_
      refine J_iadd X dX10_year_50 ?_
      refine T_putI X (kf := 53) cb10 kv0 (by decide) fl_X10_329 (fun _ _ _ => rfl) rfl rfl rfl dX10_year_51 (fun S3 hS3 => ?_)
      have wS3 : WT (kDn K) S3.2.2 := by rw [hS3]; exact wS1
      clear hS3
      refine J_aload_n X dX10_year_54 (i := 0) rfl rfl ?_
      refine J_iload_n X dX10_year_55 (i := 2) rfl rfl ?_
      refine T_callV (As := [.int v2]) wS3 X (C_X10_goes (kG K) v0 kv0 v2 S3) cb10 kv0 ml_X10_438 in_yX10_goes se_yX10_goes ii_RX10 co_yX10_goes hy_X10_goes (hRd hR (by decide) (by decide)) rfl (Nat.le_of_ble_eq_true rfl) dX10_year_56 (fun _ S4 _ wS4 => ?_)
      refine J_aload_n X dX10_year_59 (i := 0) rfl rfl ?_
      refine J_iload_n X dX10_year_60 (i := 1) rfl rfl ?_
      refine T_callV (As := [.int v1]) wS4 X (C_X10_isOff (kG K) v0 kv0 v1 S4) cb10 kv0 ml_X10_360 in_yX10_isOff se_yX10_isOff ii_RX10 co_yX10_isOff hy_X10_isOff (hRd hR (by decide) (by decide)) rfl (Nat.le_of_ble_eq_true rfl) dX10_year_61 (fun r7 S6 _ wS6 => ?_)
      refine J_if_ne X (tgt := 70) dX10_year_64 (by decide) ?_ ?_
      · refine J_nmv (v4 + (1 : Int32)) (fun x8 ex8 => ?_)
        refine J_iinc X (v := x8) (ls' := [some (.ref v0), some (.int v1), some (.int v2), some (.int v3), some (.int x8), some (.int v5)]) dX10_year_67 (by decide) rfl (by rw [ex8]; rfl) rfl ?_
        exact t_X10_year_70 X hR ih v0 kv0 v1 v2 v3 x8 v5 S6 wS6
      · exact t_X10_year_70 X hR ih v0 kv0 v1 v2 v3 v4 v5 S6 wS6
set_option maxRecDepth 20000 in
def f_X10_year (v0 : Nat) (v1 : Int32) (v2 : Int32) (v3 : Int32) (S : St) : Option (Int32 × St) := bd (f_X10_isPerson v0 v1 S) fun r2 S1 => if r2 = 0 then (some ((-1 : Int32), S1)) else (bd (f_X10_isLong v2 S1) fun r4 S3 => if r4 = 0 then (some ((-1 : Int32), S3)) else (bd (f_X10_in v3 (1 : Int32) (20 : Int32) S3) fun r6 S5 => if r6 = 0 then (some ((-1 : Int32), S5)) else (b_X10_year_33 FU v0 v1 v2 v3 (0 : Int32) (0 : Int32) S5)))
set_option maxRecDepth 20000 in
theorem t_X10_year_0 {K : KK} (X : CX K cX10_year 6 RX10 (some .int)) (hR : kR K = rmD 9) (v0 : Nat) (kv0 : KA (kDn K) v0 (0, 10)) (v1 : Int32) (v2 : Int32) (v3 : Int32) (S : St) (w : WT (kDn K) S.2.2) : JX K (Zm K (fun v : Int32 => some (.int v))) 0 [some (.ref v0), some (.int v1), some (.int v2), some (.int v3), none, none] [] (rwN (kN K) S) (kn K) 0 0 (f_X10_year v0 v1 v2 v3 S) := by
  unfold f_X10_year
  refine J_aload_n X dX10_year_0 (i := 0) rfl rfl ?_
  refine J_iload_n X dX10_year_1 (i := 1) rfl rfl ?_
  refine T_callV (As := [.int v1]) w X (C_X10_isPerson (kG K) v0 kv0 v1 S) cb10 kv0 ml_X10_422 in_yX10_isPerson se_yX10_isPerson ii_RX10 co_yX10_isPerson hy_X10_isPerson (hRd hR (by decide) (by decide)) rfl (Nat.le_of_ble_eq_true rfl) dX10_year_2 (fun r2 S1 _ wS1 => ?_)
  refine J_if_eq X (tgt := 25) dX10_year_5 (by decide) ?_ ?_
  · refine J_iconst X (v := (-1 : Int32)) dX10_year_25 (by decide) ?_
    exact T_iret wS1 X dX10_year_26
  · refine J_iload_n X dX10_year_8 (i := 2) rfl rfl ?_
    refine T_callS (As := [.int v2]) wS1 X (C_X10_isLong (kG K) v2 S1) ml_X10_435 st_yX10_isLong ii_RX10 co_yX10_isLong hy_X10_isLong (hRd hR (by decide) (by decide)) rfl (Nat.le_of_ble_eq_true rfl) dX10_year_9 (fun r4 S3 _ wS3 => ?_)
    refine J_if_eq X (tgt := 25) dX10_year_12 (by decide) ?_ ?_
    · refine J_iconst X (v := (-1 : Int32)) dX10_year_25 (by decide) ?_
      exact T_iret wS3 X dX10_year_26
    · refine J_iload_n X dX10_year_15 (i := 3) rfl rfl ?_
      refine J_iconst X (v := (1 : Int32)) dX10_year_16 (by decide) ?_
      refine J_bipush X (v := (20 : Int32)) dX10_year_17 (by decide) ?_
      refine T_callS (As := [.int v3, .int (1 : Int32), .int (20 : Int32)]) wS3 X (C_X10_in (kG K) v3 (1 : Int32) (20 : Int32) S3) ml_X10_325 st_yX10_in ii_RX10 co_yX10_in hy_X10_in (hRd hR (by decide) (by decide)) rfl (Nat.le_of_ble_eq_true rfl) dX10_year_19 (fun r6 S5 _ wS5 => ?_)
      refine J_if_ne X (tgt := 27) dX10_year_22 (by decide) ?_ ?_
      · refine J_iconst X (v := (-1 : Int32)) dX10_year_25 (by decide) ?_
        exact T_iret wS5 X dX10_year_26
      · refine J_iconst X (v := (0 : Int32)) dX10_year_27 (by decide) ?_
        refine J_istore X (ls' := [some (.ref v0), some (.int v1), some (.int v2), some (.int v3), some (.int (0 : Int32)), none]) dX10_year_28 (by decide) rfl ?_
        refine J_iconst X (v := (0 : Int32)) dX10_year_30 (by decide) ?_
        refine J_istore X (ls' := [some (.ref v0), some (.int v1), some (.int v2), some (.int v3), some (.int (0 : Int32)), some (.int (0 : Int32))]) dX10_year_31 (by decide) rfl ?_
        exact t_X10_year_33 X hR FU v0 kv0 v1 v2 v3 (0 : Int32) (0 : Int32) S5 wS5
theorem C_X10_year (G : GG) (v0 : Nat) (kv0 : KA (gD G) v0 (0, 10)) (v1 : Int32) (v2 : Int32) (v3 : Int32) (S : St) : CM G yX10_year cX10_year 6 (some .int) 9 [.ref v0, .int v1, .int v2, .int v3] S (fun v : Int32 => some (.int v)) (f_X10_year v0 v1 v2 v3 S) :=
  CM_of (by decide) (Nat.le_of_ble_eq_true rfl) rfl (fun K hG X hR w => by subst hG; exact t_X10_year_0 X hR v0 kv0 v1 v2 v3 S w)
-- ==== X10_tell
theorem hy_X10_tell : yX10_tell.cls ≠ "java/lang/invoke/MethodHandle" ∧ yX10_tell.cls ≠ "java/lang/invoke/VarHandle" ∧ (parseMethodDescriptor yX10_tell.desc).map (fun d => d.parameters.length) = some 4 := by decide +kernel
set_option maxRecDepth 20000 in
def f_X10_tell (v0 : Nat) (v1 : Int32) (v2 : Int32) (v3 : Int32) (v4 : Int32) (S : St) : Option (Int32 × St) := if (S.1 v0 64) = (20 : Int32) then (some ((-1 : Int32), S)) else (bd (f_X10_isNear v1 S) fun r2 S1 => if r2 = 0 then (some ((-1 : Int32), S1)) else (bd (f_X10_isNear v2 S1) fun r4 S3 => if r4 = 0 then (some ((-1 : Int32), S3)) else (bd (f_X10_in v3 (-1 : Int32) (1 : Int32) S3) fun r6 S5 => if r6 = 0 then (some ((-1 : Int32), S5)) else (bd (f_X10_in v4 (-1 : Int32) (1 : Int32) S5) fun r8 S7 => if r8 = 0 then (some ((-1 : Int32), S7)) else ((ix (S7.1 v0 64) 20).bind fun j9 => nm (sI S7 (S7.2.2 v0 65) j9 (((10 : Int32) * v2) + v1)) fun S10 => (ix (S10.1 v0 64) 20).bind fun j11 => nm (sI S10 (S10.2.2 v0 66) j11 v3) fun S12 => (ix (S12.1 v0 64) 20).bind fun j13 => nm (sI S12 (S12.2.2 v0 67) j13 v4) fun S14 => nm (sI S14 v0 64 ((S14.1 v0 64) + (1 : Int32))) fun S15 => some ((S15.1 v0 64) - (1 : Int32), S15))))))
set_option maxRecDepth 20000 in
theorem t_X10_tell_0 {K : KK} (X : CX K cX10_tell 5 RX10 (some .int)) (hR : kR K = rmD 2) (v0 : Nat) (kv0 : KA (kDn K) v0 (0, 10)) (v1 : Int32) (v2 : Int32) (v3 : Int32) (v4 : Int32) (S : St) (w : WT (kDn K) S.2.2) : JX K (Zm K (fun v : Int32 => some (.int v))) 0 [some (.ref v0), some (.int v1), some (.int v2), some (.int v3), some (.int v4)] [] (rwN (kN K) S) (kn K) 0 0 (f_X10_tell v0 v1 v2 v3 v4 S) := by
  unfold f_X10_tell
  refine J_aload_n X dX10_tell_0 (i := 0) rfl rfl ?_
  refine T_getI X (kf := 64) cb10 kv0 (by decide) fl_X10_260 (fun _ _ _ => rfl) dX10_tell_1 ?_
  refine J_bipush X (v := (20 : Int32)) dX10_tell_4 (by decide) ?_
  refine J_icmp_eq X (tgt := 42) dX10_tell_6 (by decide) ?_ ?_
  · refine J_iconst X (v := (-1 : Int32)) dX10_tell_42 (by decide) ?_
    exact T_iret w X dX10_tell_43
  · refine J_iload_n X dX10_tell_9 (i := 1) rfl rfl ?_
    refine T_callS (As := [.int v1]) w X (C_X10_isNear (kG K) v1 S) ml_X10_453 st_yX10_isNear ii_RX10 co_yX10_isNear hy_X10_isNear (hRd hR (by decide) (by decide)) rfl (Nat.le_of_ble_eq_true rfl) dX10_tell_10 (fun r2 S1 _ wS1 => ?_)
    refine J_if_eq X (tgt := 42) dX10_tell_13 (by decide) ?_ ?_
    · refine J_iconst X (v := (-1 : Int32)) dX10_tell_42 (by decide) ?_
      exact T_iret wS1 X dX10_tell_43
    · refine J_iload_n X dX10_tell_16 (i := 2) rfl rfl ?_
      refine T_callS (As := [.int v2]) wS1 X (C_X10_isNear (kG K) v2 S1) ml_X10_453 st_yX10_isNear ii_RX10 co_yX10_isNear hy_X10_isNear (hRd hR (by decide) (by decide)) rfl (Nat.le_of_ble_eq_true rfl) dX10_tell_17 (fun r4 S3 _ wS3 => ?_)
      refine J_if_eq X (tgt := 42) dX10_tell_20 (by decide) ?_ ?_
      · refine J_iconst X (v := (-1 : Int32)) dX10_tell_42 (by decide) ?_
        exact T_iret wS3 X dX10_tell_43
      · refine J_iload_n X dX10_tell_23 (i := 3) rfl rfl ?_
        refine J_iconst X (v := (-1 : Int32)) dX10_tell_24 (by decide) ?_
        refine J_iconst X (v := (1 : Int32)) dX10_tell_25 (by decide) ?_
        refine T_callS (As := [.int v3, .int (-1 : Int32), .int (1 : Int32)]) wS3 X (C_X10_in (kG K) v3 (-1 : Int32) (1 : Int32) S3) ml_X10_325 st_yX10_in ii_RX10 co_yX10_in hy_X10_in (hRd hR (by decide) (by decide)) rfl (Nat.le_of_ble_eq_true rfl) dX10_tell_26 (fun r6 S5 _ wS5 => ?_)
        refine J_if_eq X (tgt := 42) dX10_tell_29 (by decide) ?_ ?_
        · refine J_iconst X (v := (-1 : Int32)) dX10_tell_42 (by decide) ?_
          exact T_iret wS5 X dX10_tell_43
        · refine J_iload X dX10_tell_32 rfl ?_
          refine J_iconst X (v := (-1 : Int32)) dX10_tell_34 (by decide) ?_
          refine J_iconst X (v := (1 : Int32)) dX10_tell_35 (by decide) ?_
          refine T_callS (As := [.int v4, .int (-1 : Int32), .int (1 : Int32)]) wS5 X (C_X10_in (kG K) v4 (-1 : Int32) (1 : Int32) S5) ml_X10_325 st_yX10_in ii_RX10 co_yX10_in hy_X10_in (hRd hR (by decide) (by decide)) rfl (Nat.le_of_ble_eq_true rfl) dX10_tell_36 (fun r8 S7 _ wS7 => ?_)
          refine J_if_ne X (tgt := 44) dX10_tell_39 (by decide) ?_ ?_
          · refine J_iconst X (v := (-1 : Int32)) dX10_tell_42 (by decide) ?_
            exact T_iret wS7 X dX10_tell_43
          · refine J_aload_n X dX10_tell_44 (i := 0) rfl rfl ?_
            refine T_getR X (kf := 65) cb10 kv0 (by decide) fl_X10_140 (fun _ _ _ => rfl) dX10_tell_45 ?_
            refine J_aload_n X dX10_tell_48 (i := 0) rfl rfl ?_
            refine T_getI X (kf := 64) cb10 kv0 (by decide) fl_X10_260 (fun _ _ _ => rfl) dX10_tell_49 ?_
            refine J_bipush X (v := (10 : Int32)) dX10_tell_52 (by decide) ?_
            refine J_iload_n X dX10_tell_54 (i := 2) rfl rfl ?_
            refine J_imul X dX10_tell_55 ?_
            refine J_iload_n X dX10_tell_56 (i := 1) rfl rfl ?_
            refine J_iadd X dX10_tell_57 ?_
            refine T_iast X (wS7.1 _ _ kv0 65 _ rfl) dX10_tell_58 (fun j9 S10 hS10 => ?_)
            have wS10 : WT (kDn K) S10.2.2 := by rw [hS10]; exact wS7
            clear hS10
            refine J_aload_n X dX10_tell_59 (i := 0) rfl rfl ?_
            refine T_getR X (kf := 66) cb10 kv0 (by decide) fl_X10_143 (fun _ _ _ => rfl) dX10_tell_60 ?_
            refine J_aload_n X dX10_tell_63 (i := 0) rfl rfl ?_
            refine T_getI X (kf := 64) cb10 kv0 (by decide) fl_X10_260 (fun _ _ _ => rfl) dX10_tell_64 ?_
            refine J_iload_n X dX10_tell_67 (i := 3) rfl rfl ?_
            refine T_iast X (wS10.1 _ _ kv0 66 _ rfl) dX10_tell_68 (fun j11 S12 hS12 => ?_)
            have wS12 : WT (kDn K) S12.2.2 := by rw [hS12]; exact wS10
            clear hS12
            refine J_aload_n X dX10_tell_69 (i := 0) rfl rfl ?_
            refine T_getR X (kf := 67) cb10 kv0 (by decide) fl_X10_146 (fun _ _ _ => rfl) dX10_tell_70 ?_
            refine J_aload_n X dX10_tell_73 (i := 0) rfl rfl ?_
            refine T_getI X (kf := 64) cb10 kv0 (by decide) fl_X10_260 (fun _ _ _ => rfl) dX10_tell_74 ?_
            refine J_iload X dX10_tell_77 rfl ?_
            refine T_iast X (wS12.1 _ _ kv0 67 _ rfl) dX10_tell_79 (fun j13 S14 hS14 => ?_)
            have wS14 : WT (kDn K) S14.2.2 := by rw [hS14]; exact wS12
            clear hS14
            refine J_aload_n X dX10_tell_80 (i := 0) rfl rfl ?_
            refine J_dup X dX10_tell_81 rfl ?_
            refine T_getI X (kf := 64) cb10 kv0 (by decide) fl_X10_260 (fun _ _ _ => rfl) dX10_tell_82 ?_
            refine J_iconst X (v := (1 : Int32)) dX10_tell_85 (by decide) ?_
            refine J_iadd X dX10_tell_86 ?_
            refine T_putI X (kf := 64) cb10 kv0 (by decide) fl_X10_260 (fun _ _ _ => rfl) rfl rfl rfl dX10_tell_87 (fun S15 hS15 => ?_)
            have wS15 : WT (kDn K) S15.2.2 := by rw [hS15]; exact wS14
            clear hS15
            refine J_aload_n X dX10_tell_90 (i := 0) rfl rfl ?_
            refine T_getI X (kf := 64) cb10 kv0 (by decide) fl_X10_260 (fun _ _ _ => rfl) dX10_tell_91 ?_
            refine J_iconst X (v := (1 : Int32)) dX10_tell_94 (by decide) ?_
            refine J_isub X dX10_tell_95 ?_
            exact T_iret wS15 X dX10_tell_96
theorem C_X10_tell (G : GG) (v0 : Nat) (kv0 : KA (gD G) v0 (0, 10)) (v1 : Int32) (v2 : Int32) (v3 : Int32) (v4 : Int32) (S : St) : CM G yX10_tell cX10_tell 5 (some .int) 2 [.ref v0, .int v1, .int v2, .int v3, .int v4] S (fun v : Int32 => some (.int v)) (f_X10_tell v0 v1 v2 v3 v4 S) :=
  CM_of (by decide) (Nat.le_of_ble_eq_true rfl) rfl (fun K hG X hR w => by subst hG; exact t_X10_tell_0 X hR v0 kv0 v1 v2 v3 v4 S w)
-- ==== X10_forget
theorem hy_X10_forget : yX10_forget.cls ≠ "java/lang/invoke/MethodHandle" ∧ yX10_forget.cls ≠ "java/lang/invoke/VarHandle" ∧ (parseMethodDescriptor yX10_forget.desc).map (fun d => d.parameters.length) = some 0 := by decide +kernel
set_option maxRecDepth 20000 in
def f_X10_forget (v0 : Nat) (S : St) : Option (Int32 × St) := nm (S.1 v0 64) fun x1 => nm (sI S v0 64 (0 : Int32)) fun S2 => some (x1, S2)
set_option maxRecDepth 20000 in
theorem t_X10_forget_0 {K : KK} (X : CX K cX10_forget 2 RX10 (some .int)) (hR : kR K = rmD 0) (v0 : Nat) (kv0 : KA (kDn K) v0 (0, 10)) (S : St) (w : WT (kDn K) S.2.2) : JX K (Zm K (fun v : Int32 => some (.int v))) 0 [some (.ref v0), none] [] (rwN (kN K) S) (kn K) 0 0 (f_X10_forget v0 S) := by
  unfold f_X10_forget
  refine J_aload_n X dX10_forget_0 (i := 0) rfl rfl ?_
  refine T_getI X (kf := 64) cb10 kv0 (by decide) fl_X10_260 (fun _ _ _ => rfl) dX10_forget_1 ?_
  refine J_nmi (fun x1 => ?_)
  refine J_istore_n X (i := 1) (ls' := [some (.ref v0), some (.int x1)]) dX10_forget_4 rfl (by decide) rfl ?_
  refine J_aload_n X dX10_forget_5 (i := 0) rfl rfl ?_
  refine J_iconst X (v := (0 : Int32)) dX10_forget_6 (by decide) ?_
  refine T_putI X (kf := 64) cb10 kv0 (by decide) fl_X10_260 (fun _ _ _ => rfl) rfl rfl rfl dX10_forget_7 (fun S2 hS2 => ?_)
  have wS2 : WT (kDn K) S2.2.2 := by rw [hS2]; exact w
  clear hS2
  refine J_iload_n X dX10_forget_10 (i := 1) rfl rfl ?_
  exact T_iret wS2 X dX10_forget_11
theorem C_X10_forget (G : GG) (v0 : Nat) (kv0 : KA (gD G) v0 (0, 10)) (S : St) : CM G yX10_forget cX10_forget 2 (some .int) 0 [.ref v0] S (fun v : Int32 => some (.int v)) (f_X10_forget v0 S) :=
  CM_of (by decide) (Nat.le_of_ble_eq_true rfl) rfl (fun K hG X hR w => by subst hG; exact t_X10_forget_0 X hR v0 kv0 S w)
-- ==== X10_isSo
theorem hy_X10_isSo : yX10_isSo.cls ≠ "java/lang/invoke/MethodHandle" ∧ yX10_isSo.cls ≠ "java/lang/invoke/VarHandle" ∧ (parseMethodDescriptor yX10_isSo.desc).map (fun d => d.parameters.length) = some 2 := by decide +kernel
set_option maxRecDepth 20000 in
def b_X10_isSo_2 : Nat → Nat → Int32 → Int32 → Int32 → St → Option (Int32 × St)
  | 0, _, _, _, _, _ => none
  | fu + 1, v0, v1, v2, v3, S => if v2 ≤ v3 then (some ((1 : Int32), S)) else ((ix v3 20).bind fun j1 => bd (f_X10_signOf ((v1 - v1 / (10 : Int32) * (10 : Int32)) - ((S.1 (S.2.2 v0 65) j1) - (S.1 (S.2.2 v0 65) j1) / (10 : Int32) * (10 : Int32))) S) fun r3 S2 => (ix v3 20).bind fun j4 => if r3 = (S2.1 (S2.2.2 v0 66) j4) then ((ix v3 20).bind fun j5 => bd (f_X10_signOf ((v1 / (10 : Int32)) - ((S2.1 (S2.2.2 v0 65) j5) / (10 : Int32))) S2) fun r7 S6 => (ix v3 20).bind fun j8 => if r7 = (S6.1 (S6.2.2 v0 67) j8) then (nm (v3 + (1 : Int32)) fun x9 => b_X10_isSo_2 fu v0 v1 v2 x9 S6) else (some ((0 : Int32), S6))) else (some ((0 : Int32), S2)))
set_option maxRecDepth 20000 in
theorem t_X10_isSo_2 {K : KK} (X : CX K cX10_isSo 4 RX10 (some .boolean)) (hR : kR K = rmD 1) : ∀ (fu : Nat) (v0 : Nat) (kv0 : KA (kDn K) v0 (0, 10)) (v1 : Int32) (v2 : Int32) (v3 : Int32) (S : St), WT (kDn K) S.2.2 → JX K (Zm K (fun v : Int32 => some (.int v))) 2 [some (.ref v0), some (.int v1), some (.int v2), some (.int v3)] [] (rwN (kN K) S) (kn K) 0 0 (b_X10_isSo_2 fu v0 v1 v2 v3 S) := by
  intro fu
  induction fu with
  | zero => intro v0 kv0 v1 v2 v3 S w; exact J_none
  | succ fu ih =>
    intro v0 kv0 v1 v2 v3 S w
    rw [b_X10_isSo_2]
    refine J_iload_n X dX10_isSo_2 (i := 3) rfl rfl ?_
    refine J_iload_n X dX10_isSo_3 (i := 2) rfl rfl ?_
    refine J_icmp_ge X (tgt := 67) dX10_isSo_4 (by decide) ?_ ?_
    · refine J_iconst X (v := (1 : Int32)) dX10_isSo_67 (by decide) ?_
      exact T_zret w X (by decide) dX10_isSo_68
    · refine J_iload_n X dX10_isSo_7 (i := 1) rfl rfl ?_
      refine J_bipush X (v := (10 : Int32)) dX10_isSo_8 (by decide) ?_
      refine J_iremc X dX10_isSo_10 (by decide) ?_
      refine J_aload_n X dX10_isSo_11 (i := 0) rfl rfl ?_
      refine T_getR X (kf := 65) cb10 kv0 (by decide) fl_X10_140 (fun _ _ _ => rfl) dX10_isSo_12 ?_
      refine J_iload_n X dX10_isSo_15 (i := 3) rfl rfl ?_
      refine T_iald X (w.1 _ _ kv0 65 _ rfl) dX10_isSo_16 (fun j1 => ?_)
      refine J_bipush X (v := (10 : Int32)) dX10_isSo_17 (by decide) ?_
      refine J_iremc X dX10_isSo_19 (by decide) ?_
      refine J_isub X dX10_isSo_20 ?_
      refine T_callS (As := [.int ((v1 - v1 / (10 : Int32) * (10 : Int32)) - ((S.1 (S.2.2 v0 65) j1) - (S.1 (S.2.2 v0 65) j1) / (10 : Int32) * (10 : Int32)))]) w X (C_X10_signOf (kG K) ((v1 - v1 / (10 : Int32) * (10 : Int32)) - ((S.1 (S.2.2 v0 65) j1) - (S.1 (S.2.2 v0 65) j1) / (10 : Int32) * (10 : Int32))) S) ml_X10_382 st_yX10_signOf ii_RX10 co_yX10_signOf hy_X10_signOf (hRd hR (by decide) (by decide)) rfl (Nat.le_of_ble_eq_true rfl) dX10_isSo_21 (fun r3 S2 _ wS2 => ?_)
      refine J_aload_n X dX10_isSo_24 (i := 0) rfl rfl ?_
      refine T_getR X (kf := 66) cb10 kv0 (by decide) fl_X10_143 (fun _ _ _ => rfl) dX10_isSo_25 ?_
      refine J_iload_n X dX10_isSo_28 (i := 3) rfl rfl ?_
      refine T_iald X (wS2.1 _ _ kv0 66 _ rfl) dX10_isSo_29 (fun j4 => ?_)
      refine J_icmp_ne X (tgt := 59) dX10_isSo_30 (by decide) ?_ ?_
      · refine J_iload_n X dX10_isSo_33 (i := 1) rfl rfl ?_
        refine J_bipush X (v := (10 : Int32)) dX10_isSo_34 (by decide) ?_
        refine J_idivc X dX10_isSo_36 (by decide) ?_
        refine J_aload_n X dX10_isSo_37 (i := 0) rfl rfl ?_
        refine T_getR X (kf := 65) cb10 kv0 (by decide) fl_X10_140 (fun _ _ _ => rfl) dX10_isSo_38 ?_
        refine J_iload_n X dX10_isSo_41 (i := 3) rfl rfl ?_
        refine T_iald X (wS2.1 _ _ kv0 65 _ rfl) dX10_isSo_42 (fun j5 => ?_)
        refine J_bipush X (v := (10 : Int32)) dX10_isSo_43 (by decide) ?_
        refine J_idivc X dX10_isSo_45 (by decide) ?_
        refine J_isub X dX10_isSo_46 ?_
        refine T_callS (As := [.int ((v1 / (10 : Int32)) - ((S2.1 (S2.2.2 v0 65) j5) / (10 : Int32)))]) wS2 X (C_X10_signOf (kG K) ((v1 / (10 : Int32)) - ((S2.1 (S2.2.2 v0 65) j5) / (10 : Int32))) S2) ml_X10_382 st_yX10_signOf ii_RX10 co_yX10_signOf hy_X10_signOf (hRd hR (by decide) (by decide)) rfl (Nat.le_of_ble_eq_true rfl) dX10_isSo_47 (fun r7 S6 _ wS6 => ?_)
        refine J_aload_n X dX10_isSo_50 (i := 0) rfl rfl ?_
        refine T_getR X (kf := 67) cb10 kv0 (by decide) fl_X10_146 (fun _ _ _ => rfl) dX10_isSo_51 ?_
        refine J_iload_n X dX10_isSo_54 (i := 3) rfl rfl ?_
        refine T_iald X (wS6.1 _ _ kv0 67 _ rfl) dX10_isSo_55 (fun j8 => ?_)
        refine J_icmp_eq X (tgt := 61) dX10_isSo_56 (by decide) ?_ ?_
        · refine J_nmv (v3 + (1 : Int32)) (fun x9 ex9 => ?_)
          refine J_iinc X (v := x9) (ls' := [some (.ref v0), some (.int v1), some (.int v2), some (.int x9)]) dX10_isSo_61 (by decide) rfl (by rw [ex9]; rfl) rfl ?_
          refine J_goto X (tgt := 2) dX10_isSo_64 (by decide) ?_
          exact ih v0 kv0 v1 v2 x9 S6 wS6
        · refine J_iconst X (v := (0 : Int32)) dX10_isSo_59 (by decide) ?_
          exact T_zret wS6 X (by decide) dX10_isSo_60
      · refine J_iconst X (v := (0 : Int32)) dX10_isSo_59 (by decide) ?_
        exact T_zret wS2 X (by decide) dX10_isSo_60
set_option maxRecDepth 20000 in
def f_X10_isSo (v0 : Nat) (v1 : Int32) (v2 : Int32) (S : St) : Option (Int32 × St) := b_X10_isSo_2 FU v0 v1 v2 (0 : Int32) S
set_option maxRecDepth 20000 in
theorem t_X10_isSo_0 {K : KK} (X : CX K cX10_isSo 4 RX10 (some .boolean)) (hR : kR K = rmD 1) (v0 : Nat) (kv0 : KA (kDn K) v0 (0, 10)) (v1 : Int32) (v2 : Int32) (S : St) (w : WT (kDn K) S.2.2) : JX K (Zm K (fun v : Int32 => some (.int v))) 0 [some (.ref v0), some (.int v1), some (.int v2), none] [] (rwN (kN K) S) (kn K) 0 0 (f_X10_isSo v0 v1 v2 S) := by
  unfold f_X10_isSo
  refine J_iconst X (v := (0 : Int32)) dX10_isSo_0 (by decide) ?_
  refine J_istore_n X (i := 3) (ls' := [some (.ref v0), some (.int v1), some (.int v2), some (.int (0 : Int32))]) dX10_isSo_1 rfl (by decide) rfl ?_
  exact t_X10_isSo_2 X hR FU v0 kv0 v1 v2 (0 : Int32) S w
theorem C_X10_isSo (G : GG) (v0 : Nat) (kv0 : KA (gD G) v0 (0, 10)) (v1 : Int32) (v2 : Int32) (S : St) : CM G yX10_isSo cX10_isSo 4 (some .boolean) 1 [.ref v0, .int v1, .int v2] S (fun v : Int32 => some (.int v)) (f_X10_isSo v0 v1 v2 S) :=
  CM_of (by decide) (Nat.le_of_ble_eq_true rfl) rfl (fun K hG X hR w => by subst hG; exact t_X10_isSo_0 X hR v0 kv0 v1 v2 S w)
-- ==== X10_where
theorem hy_X10_where : yX10_where.cls ≠ "java/lang/invoke/MethodHandle" ∧ yX10_where.cls ≠ "java/lang/invoke/VarHandle" ∧ (parseMethodDescriptor yX10_where.desc).map (fun d => d.parameters.length) = some 1 := by decide +kernel
set_option maxRecDepth 20000 in
def b_X10_where_36 (q18 : Nat → Int32 → Int32 → Int32 → St → Option (Int32 × St)) (v0 : Nat) (v1 : Int32) (v2 : Int32) (v3 : Int32) (S : St) : Option (Int32 × St) := nm (v3 + (1 : Int32)) fun x1 => q18 v0 v1 v2 x1 S
set_option maxRecDepth 20000 in
theorem t_X10_where_36 {K : KK} (X : CX K cX10_where 4 RX10 (some .int)) (hR : kR K = rmD 2) {q18 : Nat → Int32 → Int32 → Int32 → St → Option (Int32 × St)} (hq18 : ∀ (v0 : Nat) (kv0 : KA (kDn K) v0 (0, 10)) (v1 : Int32) (v2 : Int32) (v3 : Int32) (S : St), WT (kDn K) S.2.2 → JX K (Zm K (fun v : Int32 => some (.int v))) 18 [some (.ref v0), some (.int v1), some (.int v2), some (.int v3)] [] (rwN (kN K) S) (kn K) 0 0 (q18 v0 v1 v2 v3 S)) (v0 : Nat) (kv0 : KA (kDn K) v0 (0, 10)) (v1 : Int32) (v2 : Int32) (v3 : Int32) (S : St) (w : WT (kDn K) S.2.2) : JX K (Zm K (fun v : Int32 => some (.int v))) 36 [some (.ref v0), some (.int v1), some (.int v2), some (.int v3)] [] (rwN (kN K) S) (kn K) 0 0 (b_X10_where_36 q18 v0 v1 v2 v3 S) := by
  unfold b_X10_where_36
  refine J_nmv (v3 + (1 : Int32)) (fun x1 ex1 => ?_)
  refine J_iinc X (v := x1) (ls' := [some (.ref v0), some (.int v1), some (.int v2), some (.int x1)]) dX10_where_36 (by decide) rfl (by rw [ex1]; rfl) rfl ?_
  refine J_goto X (tgt := 18) dX10_where_39 (by decide) ?_
  exact hq18 v0 kv0 v1 v2 x1 S w
set_option maxRecDepth 20000 in
def b_X10_where_18 : Nat → Nat → Int32 → Int32 → Int32 → St → Option (Int32 × St)
  | 0, _, _, _, _, _ => none
  | fu + 1, v0, v1, v2, v3, S => if (100 : Int32) ≤ v3 then (some (v2, S)) else (bd (f_X10_isSo v0 v3 v1 S) fun r2 S1 => if r2 = 0 then (b_X10_where_36 (b_X10_where_18 fu) v0 v1 v2 v3 S1) else (nm (v2 + (1 : Int32)) fun x3 => b_X10_where_36 (b_X10_where_18 fu) v0 v1 x3 v3 S1))
set_option maxRecDepth 20000 in
theorem t_X10_where_18 {K : KK} (X : CX K cX10_where 4 RX10 (some .int)) (hR : kR K = rmD 2) : ∀ (fu : Nat) (v0 : Nat) (kv0 : KA (kDn K) v0 (0, 10)) (v1 : Int32) (v2 : Int32) (v3 : Int32) (S : St), WT (kDn K) S.2.2 → JX K (Zm K (fun v : Int32 => some (.int v))) 18 [some (.ref v0), some (.int v1), some (.int v2), some (.int v3)] [] (rwN (kN K) S) (kn K) 0 0 (b_X10_where_18 fu v0 v1 v2 v3 S) := by
  intro fu
  induction fu with
  | zero => intro v0 kv0 v1 v2 v3 S w; exact J_none
  | succ fu ih =>
    intro v0 kv0 v1 v2 v3 S w
    rw [b_X10_where_18]
    refine J_iload_n X dX10_where_18 (i := 3) rfl rfl ?_
    refine J_bipush X (v := (100 : Int32)) dX10_where_19 (by decide) ?_
    refine J_icmp_ge X (tgt := 42) dX10_where_21 (by decide) ?_ ?_
    · refine J_iload_n X dX10_where_42 (i := 2) rfl rfl ?_
      exact T_iret w X dX10_where_43
    · refine J_aload_n X dX10_where_24 (i := 0) rfl rfl ?_
      refine J_iload_n X dX10_where_25 (i := 3) rfl rfl ?_
      refine J_iload_n X dX10_where_26 (i := 1) rfl rfl ?_
      refine T_callV (As := [.int v3, .int v1]) w X (C_X10_isSo (kG K) v0 kv0 v3 v1 S) cb10 kv0 ml_X10_474 in_yX10_isSo se_yX10_isSo ii_RX10 co_yX10_isSo hy_X10_isSo (hRd hR (by decide) (by decide)) rfl (Nat.le_of_ble_eq_true rfl) dX10_where_27 (fun r2 S1 _ wS1 => ?_)
      refine J_if_eq X (tgt := 36) dX10_where_30 (by decide) ?_ ?_
      · exact t_X10_where_36 X hR ih v0 kv0 v1 v2 v3 S1 wS1
      · refine J_nmv (v2 + (1 : Int32)) (fun x3 ex3 => ?_)
        refine J_iinc X (v := x3) (ls' := [some (.ref v0), some (.int v1), some (.int x3), some (.int v3)]) dX10_where_33 (by decide) rfl (by rw [ex3]; rfl) rfl ?_
        exact t_X10_where_36 X hR ih v0 kv0 v1 x3 v3 S1 wS1
set_option maxRecDepth 20000 in
def f_X10_where (v0 : Nat) (v1 : Int32) (S : St) : Option (Int32 × St) := bd (f_X10_in v1 (0 : Int32) (S.1 v0 64) S) fun r2 S1 => if r2 = 0 then (some ((-1 : Int32), S1)) else (b_X10_where_18 FU v0 v1 (0 : Int32) (0 : Int32) S1)
set_option maxRecDepth 20000 in
theorem t_X10_where_0 {K : KK} (X : CX K cX10_where 4 RX10 (some .int)) (hR : kR K = rmD 2) (v0 : Nat) (kv0 : KA (kDn K) v0 (0, 10)) (v1 : Int32) (S : St) (w : WT (kDn K) S.2.2) : JX K (Zm K (fun v : Int32 => some (.int v))) 0 [some (.ref v0), some (.int v1), none, none] [] (rwN (kN K) S) (kn K) 0 0 (f_X10_where v0 v1 S) := by
  unfold f_X10_where
  refine J_iload_n X dX10_where_0 (i := 1) rfl rfl ?_
  refine J_iconst X (v := (0 : Int32)) dX10_where_1 (by decide) ?_
  refine J_aload_n X dX10_where_2 (i := 0) rfl rfl ?_
  refine T_getI X (kf := 64) cb10 kv0 (by decide) fl_X10_260 (fun _ _ _ => rfl) dX10_where_3 ?_
  refine T_callS (As := [.int v1, .int (0 : Int32), .int (S.1 v0 64)]) w X (C_X10_in (kG K) v1 (0 : Int32) (S.1 v0 64) S) ml_X10_325 st_yX10_in ii_RX10 co_yX10_in hy_X10_in (hRd hR (by decide) (by decide)) rfl (Nat.le_of_ble_eq_true rfl) dX10_where_6 (fun r2 S1 _ wS1 => ?_)
  refine J_if_ne X (tgt := 14) dX10_where_9 (by decide) ?_ ?_
  · refine J_iconst X (v := (-1 : Int32)) dX10_where_12 (by decide) ?_
    exact T_iret wS1 X dX10_where_13
  · refine J_iconst X (v := (0 : Int32)) dX10_where_14 (by decide) ?_
    refine J_istore_n X (i := 2) (ls' := [some (.ref v0), some (.int v1), some (.int (0 : Int32)), none]) dX10_where_15 rfl (by decide) rfl ?_
    refine J_iconst X (v := (0 : Int32)) dX10_where_16 (by decide) ?_
    refine J_istore_n X (i := 3) (ls' := [some (.ref v0), some (.int v1), some (.int (0 : Int32)), some (.int (0 : Int32))]) dX10_where_17 rfl (by decide) rfl ?_
    exact t_X10_where_18 X hR FU v0 kv0 v1 (0 : Int32) (0 : Int32) S1 wS1
theorem C_X10_where (G : GG) (v0 : Nat) (kv0 : KA (gD G) v0 (0, 10)) (v1 : Int32) (S : St) : CM G yX10_where cX10_where 4 (some .int) 2 [.ref v0, .int v1] S (fun v : Int32 => some (.int v)) (f_X10_where v0 v1 S) :=
  CM_of (by decide) (Nat.le_of_ble_eq_true rfl) rfl (fun K hG X hR w => by subst hG; exact t_X10_where_0 X hR v0 kv0 v1 S w)

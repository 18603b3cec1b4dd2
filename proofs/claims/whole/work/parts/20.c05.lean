-- ==== X9_isWithin
theorem hy_X9_isWithin : yX9_isWithin.cls ≠ "java/lang/invoke/MethodHandle" ∧ yX9_isWithin.cls ≠ "java/lang/invoke/VarHandle" ∧ (parseMethodDescriptor yX9_isWithin.desc).map (fun d => d.parameters.length) = some 3 := by decide +kernel
set_option maxRecDepth 20000 in
def f_X9_isWithin (v0 : Int32) (v1 : Int32) (v2 : Int32) (S : St) : Option (Int32 × St) := if v0 < v1 then (some ((0 : Int32), S)) else (if v2 < v0 then (some ((0 : Int32), S)) else (some ((1 : Int32), S)))
set_option maxRecDepth 20000 in
theorem t_X9_isWithin_0 {K : KK} (X : CX K cX9_isWithin 3 RX9 (some .boolean)) (hR : kR K = rmD 0) (v0 : Int32) (v1 : Int32) (v2 : Int32) (S : St) (w : WT (kDn K) S.2.2) : JX K (Zm K (fun v : Int32 => some (.int v))) 0 [some (.int v0), some (.int v1), some (.int v2)] [] (rwN (kN K) S) (kn K) 0 0 (f_X9_isWithin v0 v1 v2 S) := by
  unfold f_X9_isWithin
  refine J_iload_n X dX9_isWithin_0 (i := 0) rfl rfl ?_
  refine J_iload_n X dX9_isWithin_1 (i := 1) rfl rfl ?_
  refine J_icmp_lt X (tgt := 14) dX9_isWithin_2 (by decide) ?_ ?_
  · refine J_iconst X (v := (0 : Int32)) dX9_isWithin_14 (by decide) ?_
    exact T_zret w X (by decide) dX9_isWithin_15
  · refine J_iload_n X dX9_isWithin_5 (i := 0) rfl rfl ?_
    refine J_iload_n X dX9_isWithin_6 (i := 2) rfl rfl ?_
    refine J_icmp_gt X (tgt := 14) dX9_isWithin_7 (by decide) ?_ ?_
    · refine J_iconst X (v := (0 : Int32)) dX9_isWithin_14 (by decide) ?_
      exact T_zret w X (by decide) dX9_isWithin_15
    · refine J_iconst X (v := (1 : Int32)) dX9_isWithin_10 (by decide) ?_
      refine J_goto X (tgt := 15) dX9_isWithin_11 (by decide) ?_
      exact T_zret w X (by decide) dX9_isWithin_15
theorem C_X9_isWithin (G : GG) (v0 : Int32) (v1 : Int32) (v2 : Int32) (S : St) : CM G yX9_isWithin cX9_isWithin 3 (some .boolean) 0 [.int v0, .int v1, .int v2] S (fun v : Int32 => some (.int v)) (f_X9_isWithin v0 v1 v2 S) :=
  CM_of (by decide) (Nat.le_of_ble_eq_true rfl) rfl (fun K hG X hR w => by subst hG; exact t_X9_isWithin_0 X hR v0 v1 v2 S w)
-- ==== X9_mermaid
theorem hy_X9_mermaid : yX9_mermaid.cls ≠ "java/lang/invoke/MethodHandle" ∧ yX9_mermaid.cls ≠ "java/lang/invoke/VarHandle" ∧ (parseMethodDescriptor yX9_mermaid.desc).map (fun d => d.parameters.length) = some 2 := by decide +kernel
set_option maxRecDepth 20000 in
def f_X9_mermaid (v0 : Nat) (v1 : Int32) (v2 : Int32) (S : St) : Option (Int32 × St) := bd (f_X9_isMermaid v0 v1 S) fun r2 S1 => if r2 = 0 then (some ((-100 : Int32), S1)) else (if v2 = (0 : Int32) then ((ix ((0 : Int32) + v1) 36).bind fun j3 => some (S1.1 (S1.2.2 (S1.2.2 v0 5) 0) j3, S1)) else if v2 = (1 : Int32) then ((ix ((4 : Int32) + v1) 36).bind fun j4 => some (S1.1 (S1.2.2 (S1.2.2 v0 5) 0) j4, S1)) else if v2 = (2 : Int32) then ((ix ((8 : Int32) + v1) 36).bind fun j5 => some (S1.1 (S1.2.2 (S1.2.2 v0 5) 0) j5, S1)) else if v2 = (3 : Int32) then ((ix ((12 : Int32) + v1) 36).bind fun j6 => some (S1.1 (S1.2.2 (S1.2.2 v0 5) 0) j6, S1)) else if v2 = (4 : Int32) then (bd (f_X5_isDead (S1.2.2 v0 5) v1 S1) fun r8 S7 => if r8 = 0 then (some ((1 : Int32), S7)) else (some ((0 : Int32), S7))) else (some ((-100 : Int32), S1)))
set_option maxRecDepth 20000 in
theorem t_X9_mermaid_0 {K : KK} (X : CX K cX9_mermaid 3 RX9 (some .int)) (hR : kR K = rmD 1) (v0 : Nat) (kv0 : KA (kDn K) v0 (0, 9)) (v1 : Int32) (v2 : Int32) (S : St) (w : WT (kDn K) S.2.2) : JX K (Zm K (fun v : Int32 => some (.int v))) 0 [some (.ref v0), some (.int v1), some (.int v2)] [] (rwN (kN K) S) (kn K) 0 0 (f_X9_mermaid v0 v1 v2 S) := by
  unfold f_X9_mermaid
  refine J_aload_n X dX9_mermaid_0 (i := 0) rfl rfl ?_
  refine J_iload_n X dX9_mermaid_1 (i := 1) rfl rfl ?_
  refine T_callV (As := [.int v1]) w X (C_X9_isMermaid (kG K) v0 kv0 v1 S) cb9 kv0 ml_X9_121 in_yX9_isMermaid se_yX9_isMermaid ii_RX9 co_yX9_isMermaid hy_X9_isMermaid (hRd hR (by decide) (by decide)) rfl (Nat.le_of_ble_eq_true rfl) dX9_mermaid_2 (fun r2 S1 _ wS1 => ?_)
  refine J_if_ne X (tgt := 11) dX9_mermaid_5 (by decide) ?_ ?_
  · refine J_bipush X (v := (-100 : Int32)) dX9_mermaid_8 (by decide) ?_
    exact T_iret wS1 X dX9_mermaid_10
  · refine J_iload_n X dX9_mermaid_11 (i := 2) rfl rfl ?_
    refine J_ite (fun hc12_0 => ?_) (fun hc12_0 => ?_)
    · refine J_tabIn X (v := (0 : Int32)) (off := 36) (tgt := 48) hc12_0 dX9_mermaid_12 (by decide) (by decide) (by decide) (by decide) ?_
      refine J_aload_n X dX9_mermaid_48 (i := 0) rfl rfl ?_
      refine T_getR X (kf := 5) cb9 kv0 (by decide) fl_X9_35 (fun _ _ _ => rfl) dX9_mermaid_49 ?_
      refine T_getR X (kf := 0) cb5 (wS1.1 _ _ kv0 5 _ rfl) (by decide) fl_X9_125 (fun _ _ _ => rfl) dX9_mermaid_52 ?_
      refine J_iconst X (v := (0 : Int32)) dX9_mermaid_55 (by decide) ?_
      refine J_iload_n X dX9_mermaid_56 (i := 1) rfl rfl ?_
      refine J_iadd X dX9_mermaid_57 ?_
      refine T_iald X (wS1.1 _ _ (wS1.1 _ _ kv0 5 _ rfl) 0 _ rfl) dX9_mermaid_58 (fun j3 => ?_)
      exact T_iret wS1 X dX9_mermaid_59
    refine J_ite (fun hc12_1 => ?_) (fun hc12_1 => ?_)
    · refine J_tabIn X (v := (1 : Int32)) (off := 48) (tgt := 60) hc12_1 dX9_mermaid_12 (by decide) (by decide) (by decide) (by decide) ?_
      refine J_aload_n X dX9_mermaid_60 (i := 0) rfl rfl ?_
      refine T_getR X (kf := 5) cb9 kv0 (by decide) fl_X9_35 (fun _ _ _ => rfl) dX9_mermaid_61 ?_
      refine T_getR X (kf := 0) cb5 (wS1.1 _ _ kv0 5 _ rfl) (by decide) fl_X9_125 (fun _ _ _ => rfl) dX9_mermaid_64 ?_
      refine J_iconst X (v := (4 : Int32)) dX9_mermaid_67 (by decide) ?_
      refine J_iload_n X dX9_mermaid_68 (i := 1) rfl rfl ?_
      refine J_iadd X dX9_mermaid_69 ?_
      refine T_iald X (wS1.1 _ _ (wS1.1 _ _ kv0 5 _ rfl) 0 _ rfl) dX9_mermaid_70 (fun j4 => ?_)
      exact T_iret wS1 X dX9_mermaid_71
    refine J_ite (fun hc12_2 => ?_) (fun hc12_2 => ?_)
    · refine J_tabIn X (v := (2 : Int32)) (off := 60) (tgt := 72) hc12_2 dX9_mermaid_12 (by decide) (by decide) (by decide) (by decide) ?_
      refine J_aload_n X dX9_mermaid_72 (i := 0) rfl rfl ?_
      refine T_getR X (kf := 5) cb9 kv0 (by decide) fl_X9_35 (fun _ _ _ => rfl) dX9_mermaid_73 ?_
      refine T_getR X (kf := 0) cb5 (wS1.1 _ _ kv0 5 _ rfl) (by decide) fl_X9_125 (fun _ _ _ => rfl) dX9_mermaid_76 ?_
      refine J_bipush X (v := (8 : Int32)) dX9_mermaid_79 (by decide) ?_
      refine J_iload_n X dX9_mermaid_81 (i := 1) rfl rfl ?_
      refine J_iadd X dX9_mermaid_82 ?_
      refine T_iald X (wS1.1 _ _ (wS1.1 _ _ kv0 5 _ rfl) 0 _ rfl) dX9_mermaid_83 (fun j5 => ?_)
      exact T_iret wS1 X dX9_mermaid_84
    refine J_ite (fun hc12_3 => ?_) (fun hc12_3 => ?_)
    · refine J_tabIn X (v := (3 : Int32)) (off := 73) (tgt := 85) hc12_3 dX9_mermaid_12 (by decide) (by decide) (by decide) (by decide) ?_
      refine J_aload_n X dX9_mermaid_85 (i := 0) rfl rfl ?_
      refine T_getR X (kf := 5) cb9 kv0 (by decide) fl_X9_35 (fun _ _ _ => rfl) dX9_mermaid_86 ?_
      refine T_getR X (kf := 0) cb5 (wS1.1 _ _ kv0 5 _ rfl) (by decide) fl_X9_125 (fun _ _ _ => rfl) dX9_mermaid_89 ?_
      refine J_bipush X (v := (12 : Int32)) dX9_mermaid_92 (by decide) ?_
      refine J_iload_n X dX9_mermaid_94 (i := 1) rfl rfl ?_
      refine J_iadd X dX9_mermaid_95 ?_
      refine T_iald X (wS1.1 _ _ (wS1.1 _ _ kv0 5 _ rfl) 0 _ rfl) dX9_mermaid_96 (fun j6 => ?_)
      exact T_iret wS1 X dX9_mermaid_97
    refine J_ite (fun hc12_4 => ?_) (fun hc12_4 => ?_)
    · refine J_tabIn X (v := (4 : Int32)) (off := 86) (tgt := 98) hc12_4 dX9_mermaid_12 (by decide) (by decide) (by decide) (by decide) ?_
      refine J_aload_n X dX9_mermaid_98 (i := 0) rfl rfl ?_
      refine T_getR X (kf := 5) cb9 kv0 (by decide) fl_X9_35 (fun _ _ _ => rfl) dX9_mermaid_99 ?_
      refine J_iload_n X dX9_mermaid_102 (i := 1) rfl rfl ?_
      refine T_callV (As := [.int v1]) wS1 X (C_X5_isDead (kG K) (S1.2.2 v0 5) (wS1.1 _ _ kv0 5 _ rfl) v1 S1) cb5 (wS1.1 _ _ kv0 5 _ rfl) ml_X9_129 in_yX5_isDead se_yX5_isDead ii_RX5 co_yX5_isDead hy_X5_isDead (hRd hR (by decide) (by decide)) rfl (Nat.le_of_ble_eq_true rfl) dX9_mermaid_103 (fun r8 S7 _ wS7 => ?_)
      refine J_if_eq X (tgt := 113) dX9_mermaid_106 (by decide) ?_ ?_
      · refine J_iconst X (v := (1 : Int32)) dX9_mermaid_113 (by decide) ?_
        exact T_iret wS7 X dX9_mermaid_114
      · refine J_iconst X (v := (0 : Int32)) dX9_mermaid_109 (by decide) ?_
        refine J_goto X (tgt := 114) dX9_mermaid_110 (by decide) ?_
        exact T_iret wS7 X dX9_mermaid_114
    have nhc12_0 := tabne hc12_0 (k := 0) (by decide)
    have nhc12_1 := tabne hc12_1 (k := 1) (by decide)
    have nhc12_2 := tabne hc12_2 (k := 2) (by decide)
    have nhc12_3 := tabne hc12_3 (k := 3) (by decide)
    have nhc12_4 := tabne hc12_4 (k := 4) (by decide)
    refine J_tabOut X (tgt := 115) dX9_mermaid_12 (tabout 0 4 (fun v h1 h2 => by omega)) (by decide) ?_
    refine J_bipush X (v := (-100 : Int32)) dX9_mermaid_115 (by decide) ?_
    exact T_iret wS1 X dX9_mermaid_117
theorem C_X9_mermaid (G : GG) (v0 : Nat) (kv0 : KA (gD G) v0 (0, 9)) (v1 : Int32) (v2 : Int32) (S : St) : CM G yX9_mermaid cX9_mermaid 3 (some .int) 1 [.ref v0, .int v1, .int v2] S (fun v : Int32 => some (.int v)) (f_X9_mermaid v0 v1 v2 S) :=
  CM_of (by decide) (Nat.le_of_ble_eq_true rfl) rfl (fun K hG X hR w => by subst hG; exact t_X9_mermaid_0 X hR v0 kv0 v1 v2 S w)
-- ==== X9_person
theorem hy_X9_person : yX9_person.cls ≠ "java/lang/invoke/MethodHandle" ∧ yX9_person.cls ≠ "java/lang/invoke/VarHandle" ∧ (parseMethodDescriptor yX9_person.desc).map (fun d => d.parameters.length) = some 2 := by decide +kernel
set_option maxRecDepth 20000 in
def f_X9_person (v0 : Nat) (v1 : Int32) (v2 : Int32) (S : St) : Option (Int32 × St) := bd (f_X9_isPerson v0 v1 S) fun r2 S1 => if r2 = 0 then (some ((-100000 : Int32), S1)) else ((ix ((16 : Int32) + v1) 36).bind fun j3 => nm (S1.1 (S1.2.2 (S1.2.2 v0 5) 0) j3) fun x4 => (ix ((22 : Int32) + v1) 36).bind fun j5 => nm (S1.1 (S1.2.2 (S1.2.2 v0 5) 0) j5) fun x6 => if v2 = (0 : Int32) then (some (x4, S1)) else if v2 = (1 : Int32) then (some (x6, S1)) else if v2 = (2 : Int32) then ((ix v1 6).bind fun j7 => some (S1.1 (S1.2.2 (S1.2.2 v0 3) 7) j7, S1)) else if v2 = (3 : Int32) then (bd (f_X5_isOff (S1.2.2 v0 5) v1 S1) fun r9 S8 => if r9 = 0 then (some ((0 : Int32), S8)) else (some ((1 : Int32), S8))) else if v2 = (4 : Int32) then (bd (f_X8_feel (S1.2.2 v0 7) v1 x4 x6 S1) fun _ S10 => some (S10.1 (S10.2.2 v0 7) 2, S10)) else if v2 = (5 : Int32) then (bd (f_X8_feel (S1.2.2 v0 7) v1 x4 x6 S1) fun _ S12 => some (S12.1 (S12.2.2 v0 7) 3, S12)) else if v2 = (6 : Int32) then (bd (f_X8_standsAt (S1.2.2 v0 7) v1 x4 x6 S1) fun r15 S14 => some (r15, S14)) else if v2 = (7 : Int32) then (bd (f_X8_stormOf (S1.2.2 v0 7) v1 S1) fun r17 S16 => some (r17, S16)) else if v2 = (8 : Int32) then (bd (f_X8_wornBy (S1.2.2 v0 7) v1 S1) fun r19 S18 => some (r19, S18)) else (some ((-100000 : Int32), S1)))
set_option maxRecDepth 20000 in
theorem t_X9_person_0 {K : KK} (X : CX K cX9_person 5 RX9 (some .int)) (hR : kR K = rmD 5) (v0 : Nat) (kv0 : KA (kDn K) v0 (0, 9)) (v1 : Int32) (v2 : Int32) (S : St) (w : WT (kDn K) S.2.2) : JX K (Zm K (fun v : Int32 => some (.int v))) 0 [some (.ref v0), some (.int v1), some (.int v2), none, none] [] (rwN (kN K) S) (kn K) 0 0 (f_X9_person v0 v1 v2 S) := by
  unfold f_X9_person
  refine J_aload_n X dX9_person_0 (i := 0) rfl rfl ?_
  refine J_iload_n X dX9_person_1 (i := 1) rfl rfl ?_
  refine T_callV (As := [.int v1]) w X (C_X9_isPerson (kG K) v0 kv0 v1 S) cb9 kv0 ml_X9_132 in_yX9_isPerson se_yX9_isPerson ii_RX9 co_yX9_isPerson hy_X9_isPerson (hRd hR (by decide) (by decide)) rfl (Nat.le_of_ble_eq_true rfl) dX9_person_2 (fun r2 S1 _ wS1 => ?_)
  refine J_if_ne X (tgt := 11) dX9_person_5 (by decide) ?_ ?_
  · refine J_ldc X kc_X9_135 dX9_person_8 ?_
    exact T_iret wS1 X dX9_person_10
  · refine J_aload_n X dX9_person_11 (i := 0) rfl rfl ?_
    refine T_getR X (kf := 5) cb9 kv0 (by decide) fl_X9_35 (fun _ _ _ => rfl) dX9_person_12 ?_
    refine T_getR X (kf := 0) cb5 (wS1.1 _ _ kv0 5 _ rfl) (by decide) fl_X9_125 (fun _ _ _ => rfl) dX9_person_15 ?_
    refine J_bipush X (v := (16 : Int32)) dX9_person_18 (by decide) ?_
    refine J_iload_n X dX9_person_20 (i := 1) rfl rfl ?_
    refine J_iadd X dX9_person_21 ?_
    refine T_iald X (wS1.1 _ _ (wS1.1 _ _ kv0 5 _ rfl) 0 _ rfl) dX9_person_22 (fun j3 => ?_)
    refine J_nmi (fun x4 => ?_)
    refine J_istore_n X (i := 3) (ls' := [some (.ref v0), some (.int v1), some (.int v2), some (.int x4), none]) dX9_person_23 rfl (by decide) rfl ?_
    refine J_aload_n X dX9_person_24 (i := 0) rfl rfl ?_
    refine T_getR X (kf := 5) cb9 kv0 (by decide) fl_X9_35 (fun _ _ _ => rfl) dX9_person_25 ?_
    refine T_getR X (kf := 0) cb5 (wS1.1 _ _ kv0 5 _ rfl) (by decide) fl_X9_125 (fun _ _ _ => rfl) dX9_person_28 ?_
    refine J_bipush X (v := (22 : Int32)) dX9_person_31 (by decide) ?_
    refine J_iload_n X dX9_person_33 (i := 1) rfl rfl ?_
    refine J_iadd X dX9_person_34 ?_
    refine T_iald X (wS1.1 _ _ (wS1.1 _ _ kv0 5 _ rfl) 0 _ rfl) dX9_person_35 (fun j5 => ?_)
    refine J_nmi (fun x6 => ?_)
    refine J_istore X (ls' := [some (.ref v0), some (.int v1), some (.int v2), some (.int x4), some (.int x6)]) dX9_person_36 (by decide) rfl ?_
    refine J_iload_n X dX9_person_38 (i := 2) rfl rfl ?_
    refine J_ite (fun hc39_0 => ?_) (fun hc39_0 => ?_)
    · refine J_tabIn X (v := (0 : Int32)) (off := 49) (tgt := 88) hc39_0 dX9_person_39 (by decide) (by decide) (by decide) (by decide) ?_
      refine J_iload_n X dX9_person_88 (i := 3) rfl rfl ?_
      exact T_iret wS1 X dX9_person_89
    refine J_ite (fun hc39_1 => ?_) (fun hc39_1 => ?_)
    · refine J_tabIn X (v := (1 : Int32)) (off := 51) (tgt := 90) hc39_1 dX9_person_39 (by decide) (by decide) (by decide) (by decide) ?_
      refine J_iload X dX9_person_90 rfl ?_
      exact T_iret wS1 X dX9_person_92
    refine J_ite (fun hc39_2 => ?_) (fun hc39_2 => ?_)
    · refine J_tabIn X (v := (2 : Int32)) (off := 54) (tgt := 93) hc39_2 dX9_person_39 (by decide) (by decide) (by decide) (by decide) ?_
      refine J_aload_n X dX9_person_93 (i := 0) rfl rfl ?_
      refine T_getR X (kf := 3) cb9 kv0 (by decide) fl_X9_16 (fun _ _ _ => rfl) dX9_person_94 ?_
      refine T_getR X (kf := 7) cb0 (wS1.1 _ _ kv0 3 _ rfl) (by decide) fl_X9_136 (fun _ _ _ => rfl) dX9_person_97 ?_
      refine J_iload_n X dX9_person_100 (i := 1) rfl rfl ?_
      refine T_iald X (wS1.1 _ _ (wS1.1 _ _ kv0 3 _ rfl) 7 _ rfl) dX9_person_101 (fun j7 => ?_)
      exact T_iret wS1 X dX9_person_102
    refine J_ite (fun hc39_3 => ?_) (fun hc39_3 => ?_)
    · refine J_tabIn X (v := (3 : Int32)) (off := 64) (tgt := 103) hc39_3 dX9_person_39 (by decide) (by decide) (by decide) (by decide) ?_
      refine J_aload_n X dX9_person_103 (i := 0) rfl rfl ?_
      refine T_getR X (kf := 5) cb9 kv0 (by decide) fl_X9_35 (fun _ _ _ => rfl) dX9_person_104 ?_
      refine J_iload_n X dX9_person_107 (i := 1) rfl rfl ?_
      refine T_callV (As := [.int v1]) wS1 X (C_X5_isOff (kG K) (S1.2.2 v0 5) (wS1.1 _ _ kv0 5 _ rfl) v1 S1) cb5 (wS1.1 _ _ kv0 5 _ rfl) ml_X9_139 in_yX5_isOff se_yX5_isOff ii_RX5 co_yX5_isOff hy_X5_isOff (hRd hR (by decide) (by decide)) rfl (Nat.le_of_ble_eq_true rfl) dX9_person_108 (fun r9 S8 _ wS8 => ?_)
      refine J_if_eq X (tgt := 118) dX9_person_111 (by decide) ?_ ?_
      · refine J_iconst X (v := (0 : Int32)) dX9_person_118 (by decide) ?_
        exact T_iret wS8 X dX9_person_119
      · refine J_iconst X (v := (1 : Int32)) dX9_person_114 (by decide) ?_
        refine J_goto X (tgt := 119) dX9_person_115 (by decide) ?_
        exact T_iret wS8 X dX9_person_119
    refine J_ite (fun hc39_4 => ?_) (fun hc39_4 => ?_)
    · refine J_tabIn X (v := (4 : Int32)) (off := 81) (tgt := 120) hc39_4 dX9_person_39 (by decide) (by decide) (by decide) (by decide) ?_
      refine J_aload_n X dX9_person_120 (i := 0) rfl rfl ?_
      refine T_getR X (kf := 7) cb9 kv0 (by decide) fl_X9_47 (fun _ _ _ => rfl) dX9_person_121 ?_
      refine J_iload_n X dX9_person_124 (i := 1) rfl rfl ?_
      refine J_iload_n X dX9_person_125 (i := 3) rfl rfl ?_
      refine J_iload X dX9_person_126 rfl ?_
      refine T_callV (As := [.int v1, .int x4, .int x6]) wS1 X (C_X8_feel (kG K) (S1.2.2 v0 7) (wS1.1 _ _ kv0 7 _ rfl) v1 x4 x6 S1) cb8 (wS1.1 _ _ kv0 7 _ rfl) ml_X9_142 in_yX8_feel se_yX8_feel ii_RX8 co_yX8_feel hy_X8_feel (hRd hR (by decide) (by decide)) rfl (Nat.le_of_ble_eq_true rfl) dX9_person_128 (fun _ S10 _ wS10 => ?_)
      refine J_aload_n X dX9_person_131 (i := 0) rfl rfl ?_
      refine T_getR X (kf := 7) cb9 kv0 (by decide) fl_X9_47 (fun _ _ _ => rfl) dX9_person_132 ?_
      refine T_getI X (kf := 2) cb8 (wS10.1 _ _ kv0 7 _ rfl) (by decide) fl_X9_146 (fun _ _ _ => rfl) dX9_person_135 ?_
      exact T_iret wS10 X dX9_person_138
    refine J_ite (fun hc39_5 => ?_) (fun hc39_5 => ?_)
    · refine J_tabIn X (v := (5 : Int32)) (off := 100) (tgt := 139) hc39_5 dX9_person_39 (by decide) (by decide) (by decide) (by decide) ?_
      refine J_aload_n X dX9_person_139 (i := 0) rfl rfl ?_
      refine T_getR X (kf := 7) cb9 kv0 (by decide) fl_X9_47 (fun _ _ _ => rfl) dX9_person_140 ?_
      refine J_iload_n X dX9_person_143 (i := 1) rfl rfl ?_
      refine J_iload_n X dX9_person_144 (i := 3) rfl rfl ?_
      refine J_iload X dX9_person_145 rfl ?_
      refine T_callV (As := [.int v1, .int x4, .int x6]) wS1 X (C_X8_feel (kG K) (S1.2.2 v0 7) (wS1.1 _ _ kv0 7 _ rfl) v1 x4 x6 S1) cb8 (wS1.1 _ _ kv0 7 _ rfl) ml_X9_142 in_yX8_feel se_yX8_feel ii_RX8 co_yX8_feel hy_X8_feel (hRd hR (by decide) (by decide)) rfl (Nat.le_of_ble_eq_true rfl) dX9_person_147 (fun _ S12 _ wS12 => ?_)
      refine J_aload_n X dX9_person_150 (i := 0) rfl rfl ?_
      refine T_getR X (kf := 7) cb9 kv0 (by decide) fl_X9_47 (fun _ _ _ => rfl) dX9_person_151 ?_
      refine T_getI X (kf := 3) cb8 (wS12.1 _ _ kv0 7 _ rfl) (by decide) fl_X9_149 (fun _ _ _ => rfl) dX9_person_154 ?_
      exact T_iret wS12 X dX9_person_157
    refine J_ite (fun hc39_6 => ?_) (fun hc39_6 => ?_)
    · refine J_tabIn X (v := (6 : Int32)) (off := 119) (tgt := 158) hc39_6 dX9_person_39 (by decide) (by decide) (by decide) (by decide) ?_
      refine J_aload_n X dX9_person_158 (i := 0) rfl rfl ?_
      refine T_getR X (kf := 7) cb9 kv0 (by decide) fl_X9_47 (fun _ _ _ => rfl) dX9_person_159 ?_
      refine J_iload_n X dX9_person_162 (i := 1) rfl rfl ?_
      refine J_iload_n X dX9_person_163 (i := 3) rfl rfl ?_
      refine J_iload X dX9_person_164 rfl ?_
      refine T_callV (As := [.int v1, .int x4, .int x6]) wS1 X (C_X8_standsAt (kG K) (S1.2.2 v0 7) (wS1.1 _ _ kv0 7 _ rfl) v1 x4 x6 S1) cb8 (wS1.1 _ _ kv0 7 _ rfl) ml_X9_152 in_yX8_standsAt se_yX8_standsAt ii_RX8 co_yX8_standsAt hy_X8_standsAt (hRd hR (by decide) (by decide)) rfl (Nat.le_of_ble_eq_true rfl) dX9_person_166 (fun r15 S14 _ wS14 => ?_)
      exact T_iret wS14 X dX9_person_169
    refine J_ite (fun hc39_7 => ?_) (fun hc39_7 => ?_)
    · refine J_tabIn X (v := (7 : Int32)) (off := 131) (tgt := 170) hc39_7 dX9_person_39 (by decide) (by decide) (by decide) (by decide) ?_
      refine J_aload_n X dX9_person_170 (i := 0) rfl rfl ?_
      refine T_getR X (kf := 7) cb9 kv0 (by decide) fl_X9_47 (fun _ _ _ => rfl) dX9_person_171 ?_
      refine J_iload_n X dX9_person_174 (i := 1) rfl rfl ?_
      refine T_callV (As := [.int v1]) wS1 X (C_X8_stormOf (kG K) (S1.2.2 v0 7) (wS1.1 _ _ kv0 7 _ rfl) v1 S1) cb8 (wS1.1 _ _ kv0 7 _ rfl) ml_X9_156 in_yX8_stormOf se_yX8_stormOf ii_RX8 co_yX8_stormOf hy_X8_stormOf (hRd hR (by decide) (by decide)) rfl (Nat.le_of_ble_eq_true rfl) dX9_person_175 (fun r17 S16 _ wS16 => ?_)
      exact T_iret wS16 X dX9_person_178
    refine J_ite (fun hc39_8 => ?_) (fun hc39_8 => ?_)
    · refine J_tabIn X (v := (8 : Int32)) (off := 140) (tgt := 179) hc39_8 dX9_person_39 (by decide) (by decide) (by decide) (by decide) ?_
      refine J_aload_n X dX9_person_179 (i := 0) rfl rfl ?_
      refine T_getR X (kf := 7) cb9 kv0 (by decide) fl_X9_47 (fun _ _ _ => rfl) dX9_person_180 ?_
      refine J_iload_n X dX9_person_183 (i := 1) rfl rfl ?_
      refine T_callV (As := [.int v1]) wS1 X (C_X8_wornBy (kG K) (S1.2.2 v0 7) (wS1.1 _ _ kv0 7 _ rfl) v1 S1) cb8 (wS1.1 _ _ kv0 7 _ rfl) ml_X9_160 in_yX8_wornBy se_yX8_wornBy ii_RX8 co_yX8_wornBy hy_X8_wornBy (hRd hR (by decide) (by decide)) rfl (Nat.le_of_ble_eq_true rfl) dX9_person_184 (fun r19 S18 _ wS18 => ?_)
      exact T_iret wS18 X dX9_person_187
    have nhc39_0 := tabne hc39_0 (k := 0) (by decide)
    have nhc39_1 := tabne hc39_1 (k := 1) (by decide)
    have nhc39_2 := tabne hc39_2 (k := 2) (by decide)
    have nhc39_3 := tabne hc39_3 (k := 3) (by decide)
    have nhc39_4 := tabne hc39_4 (k := 4) (by decide)
    have nhc39_5 := tabne hc39_5 (k := 5) (by decide)
    have nhc39_6 := tabne hc39_6 (k := 6) (by decide)
    have nhc39_7 := tabne hc39_7 (k := 7) (by decide)
    have nhc39_8 := tabne hc39_8 (k := 8) (by decide)
    refine J_tabOut X (tgt := 188) dX9_person_39 (tabout 0 8 (fun v h1 h2 => by omega)) (by decide) ?_
    refine J_ldc X kc_X9_135 dX9_person_188 ?_
    exact T_iret wS1 X dX9_person_190
theorem C_X9_person (G : GG) (v0 : Nat) (kv0 : KA (gD G) v0 (0, 9)) (v1 : Int32) (v2 : Int32) (S : St) : CM G yX9_person cX9_person 5 (some .int) 5 [.ref v0, .int v1, .int v2] S (fun v : Int32 => some (.int v)) (f_X9_person v0 v1 v2 S) :=
  CM_of (by decide) (Nat.le_of_ble_eq_true rfl) rfl (fun K hG X hR w => by subst hG; exact t_X9_person_0 X hR v0 kv0 v1 v2 S w)
-- ==== X9_strand
theorem hy_X9_strand : yX9_strand.cls ≠ "java/lang/invoke/MethodHandle" ∧ yX9_strand.cls ≠ "java/lang/invoke/VarHandle" ∧ (parseMethodDescriptor yX9_strand.desc).map (fun d => d.parameters.length) = some 2 := by decide +kernel
set_option maxRecDepth 20000 in
def f_X9_strand (v0 : Nat) (v1 : Int32) (v2 : Int32) (S : St) : Option (Int32 × St) := bd (f_X9_isStrand v0 v1 S) fun r2 S1 => if r2 = 0 then (some ((-1 : Int32), S1)) else ((ix ((28 : Int32) + v1) 36).bind fun j3 => nm (S1.1 (S1.2.2 (S1.2.2 v0 5) 0) j3) fun x4 => (ix ((16 : Int32) + x4) 36).bind fun j5 => nm (S1.1 (S1.2.2 (S1.2.2 v0 5) 0) j5) fun x6 => (ix ((22 : Int32) + x4) 36).bind fun j7 => nm (S1.1 (S1.2.2 (S1.2.2 v0 5) 0) j7) fun x8 => if v2 = (0 : Int32) then ((ix v1 8).bind fun j9 => some (S1.1 (S1.2.2 (S1.2.2 v0 3) 8) j9, S1)) else if v2 = (1 : Int32) then (some (x4, S1)) else if v2 = (2 : Int32) then ((ix v1 8).bind fun j10 => some (S1.1 (S1.2.2 (S1.2.2 v0 3) 9) j10, S1)) else if v2 = (3 : Int32) then (bd (f_X5_isCut (S1.2.2 v0 5) v1 S1) fun r12 S11 => if r12 = 0 then (some ((0 : Int32), S11)) else (some ((1 : Int32), S11))) else if v2 = (4 : Int32) then (bd (f_X8_pullAt (S1.2.2 v0 7) v1 x4 x6 x8 S1) fun r14 S13 => some (r14, S13)) else if v2 = (5 : Int32) then (bd (f_X8_priceOf (S1.2.2 v0 7) v1 S1) fun r16 S15 => some (r16, S15)) else if v2 = (6 : Int32) then ((ix v1 8).bind fun j17 => bd (f_X5_farOf (S1.2.2 v0 5) (S1.1 (S1.2.2 (S1.2.2 v0 3) 8) j17) x6 x8 S1) fun r19 S18 => some (r19, S18)) else (some ((-1 : Int32), S1)))
set_option maxRecDepth 20000 in
theorem t_X9_strand_0 {K : KK} (X : CX K cX9_strand 6 RX9 (some .int)) (hR : kR K = rmD 4) (v0 : Nat) (kv0 : KA (kDn K) v0 (0, 9)) (v1 : Int32) (v2 : Int32) (S : St) (w : WT (kDn K) S.2.2) : JX K (Zm K (fun v : Int32 => some (.int v))) 0 [some (.ref v0), some (.int v1), some (.int v2), none, none, none] [] (rwN (kN K) S) (kn K) 0 0 (f_X9_strand v0 v1 v2 S) := by
  unfold f_X9_strand
  refine J_aload_n X dX9_strand_0 (i := 0) rfl rfl ?_
  refine J_iload_n X dX9_strand_1 (i := 1) rfl rfl ?_
  refine T_callV (As := [.int v1]) w X (C_X9_isStrand (kG K) v0 kv0 v1 S) cb9 kv0 ml_X9_163 in_yX9_isStrand se_yX9_isStrand ii_RX9 co_yX9_isStrand hy_X9_isStrand (hRd hR (by decide) (by decide)) rfl (Nat.le_of_ble_eq_true rfl) dX9_strand_2 (fun r2 S1 _ wS1 => ?_)
  refine J_if_ne X (tgt := 10) dX9_strand_5 (by decide) ?_ ?_
  · refine J_iconst X (v := (-1 : Int32)) dX9_strand_8 (by decide) ?_
    exact T_iret wS1 X dX9_strand_9
  · refine J_aload_n X dX9_strand_10 (i := 0) rfl rfl ?_
    refine T_getR X (kf := 5) cb9 kv0 (by decide) fl_X9_35 (fun _ _ _ => rfl) dX9_strand_11 ?_
    refine T_getR X (kf := 0) cb5 (wS1.1 _ _ kv0 5 _ rfl) (by decide) fl_X9_125 (fun _ _ _ => rfl) dX9_strand_14 ?_
    refine J_bipush X (v := (28 : Int32)) dX9_strand_17 (by decide) ?_
    refine J_iload_n X dX9_strand_19 (i := 1) rfl rfl ?_
    refine J_iadd X dX9_strand_20 ?_
    refine T_iald X (wS1.1 _ _ (wS1.1 _ _ kv0 5 _ rfl) 0 _ rfl) dX9_strand_21 (fun j3 => ?_)
    refine J_nmi (fun x4 => ?_)
    refine J_istore_n X (i := 3) (ls' := [some (.ref v0), some (.int v1), some (.int v2), some (.int x4), none, none]) dX9_strand_22 rfl (by decide) rfl ?_
    refine J_aload_n X dX9_strand_23 (i := 0) rfl rfl ?_
    refine T_getR X (kf := 5) cb9 kv0 (by decide) fl_X9_35 (fun _ _ _ => rfl) dX9_strand_24 ?_
    refine T_getR X (kf := 0) cb5 (wS1.1 _ _ kv0 5 _ rfl) (by decide) fl_X9_125 (fun _ _ _ => rfl) dX9_strand_27 ?_
    refine J_bipush X (v := (16 : Int32)) dX9_strand_30 (by decide) ?_
    refine J_iload_n X dX9_strand_32 (i := 3) rfl rfl ?_
    refine J_iadd X dX9_strand_33 ?_
    refine T_iald X (wS1.1 _ _ (wS1.1 _ _ kv0 5 _ rfl) 0 _ rfl) dX9_strand_34 (fun j5 => ?_)
    refine J_nmi (fun x6 => ?_)
    refine J_istore X (ls' := [some (.ref v0), some (.int v1), some (.int v2), some (.int x4), some (.int x6), none]) dX9_strand_35 (by decide) rfl ?_
    refine J_aload_n X dX9_strand_37 (i := 0) rfl rfl ?_
    refine T_getR X (kf := 5) cb9 kv0 (by decide) fl_X9_35 (fun _ _ _ => rfl) dX9_strand_38 ?_
    refine T_getR X (kf := 0) cb5 (wS1.1 _ _ kv0 5 _ rfl) (by decide) fl_X9_125 (fun _ _ _ => rfl) dX9_strand_41 ?_
    refine J_bipush X (v := (22 : Int32)) dX9_strand_44 (by decide) ?_
    refine J_iload_n X dX9_strand_46 (i := 3) rfl rfl ?_
    refine J_iadd X dX9_strand_47 ?_
    refine T_iald X (wS1.1 _ _ (wS1.1 _ _ kv0 5 _ rfl) 0 _ rfl) dX9_strand_48 (fun j7 => ?_)
    refine J_nmi (fun x8 => ?_)
    refine J_istore X (ls' := [some (.ref v0), some (.int v1), some (.int v2), some (.int x4), some (.int x6), some (.int x8)]) dX9_strand_49 (by decide) rfl ?_
    refine J_iload_n X dX9_strand_51 (i := 2) rfl rfl ?_
    refine J_ite (fun hc52_0 => ?_) (fun hc52_0 => ?_)
    · refine J_tabIn X (v := (0 : Int32)) (off := 44) (tgt := 96) hc52_0 dX9_strand_52 (by decide) (by decide) (by decide) (by decide) ?_
      refine J_aload_n X dX9_strand_96 (i := 0) rfl rfl ?_
      refine T_getR X (kf := 3) cb9 kv0 (by decide) fl_X9_16 (fun _ _ _ => rfl) dX9_strand_97 ?_
      refine T_getR X (kf := 8) cb0 (wS1.1 _ _ kv0 3 _ rfl) (by decide) fl_X9_166 (fun _ _ _ => rfl) dX9_strand_100 ?_
      refine J_iload_n X dX9_strand_103 (i := 1) rfl rfl ?_
      refine T_iald X (wS1.1 _ _ (wS1.1 _ _ kv0 3 _ rfl) 8 _ rfl) dX9_strand_104 (fun j9 => ?_)
      exact T_iret wS1 X dX9_strand_105
    refine J_ite (fun hc52_1 => ?_) (fun hc52_1 => ?_)
    · refine J_tabIn X (v := (1 : Int32)) (off := 54) (tgt := 106) hc52_1 dX9_strand_52 (by decide) (by decide) (by decide) (by decide) ?_
      refine J_iload_n X dX9_strand_106 (i := 3) rfl rfl ?_
      exact T_iret wS1 X dX9_strand_107
    refine J_ite (fun hc52_2 => ?_) (fun hc52_2 => ?_)
    · refine J_tabIn X (v := (2 : Int32)) (off := 56) (tgt := 108) hc52_2 dX9_strand_52 (by decide) (by decide) (by decide) (by decide) ?_
      refine J_aload_n X dX9_strand_108 (i := 0) rfl rfl ?_
      refine T_getR X (kf := 3) cb9 kv0 (by decide) fl_X9_16 (fun _ _ _ => rfl) dX9_strand_109 ?_
      refine T_getR X (kf := 9) cb0 (wS1.1 _ _ kv0 3 _ rfl) (by decide) fl_X9_169 (fun _ _ _ => rfl) dX9_strand_112 ?_
      refine J_iload_n X dX9_strand_115 (i := 1) rfl rfl ?_
      refine T_iald X (wS1.1 _ _ (wS1.1 _ _ kv0 3 _ rfl) 9 _ rfl) dX9_strand_116 (fun j10 => ?_)
      exact T_iret wS1 X dX9_strand_117
    refine J_ite (fun hc52_3 => ?_) (fun hc52_3 => ?_)
    · refine J_tabIn X (v := (3 : Int32)) (off := 66) (tgt := 118) hc52_3 dX9_strand_52 (by decide) (by decide) (by decide) (by decide) ?_
      refine J_aload_n X dX9_strand_118 (i := 0) rfl rfl ?_
      refine T_getR X (kf := 5) cb9 kv0 (by decide) fl_X9_35 (fun _ _ _ => rfl) dX9_strand_119 ?_
      refine J_iload_n X dX9_strand_122 (i := 1) rfl rfl ?_
      refine T_callV (As := [.int v1]) wS1 X (C_X5_isCut (kG K) (S1.2.2 v0 5) (wS1.1 _ _ kv0 5 _ rfl) v1 S1) cb5 (wS1.1 _ _ kv0 5 _ rfl) ml_X9_172 in_yX5_isCut se_yX5_isCut ii_RX5 co_yX5_isCut hy_X5_isCut (hRd hR (by decide) (by decide)) rfl (Nat.le_of_ble_eq_true rfl) dX9_strand_123 (fun r12 S11 _ wS11 => ?_)
      refine J_if_eq X (tgt := 133) dX9_strand_126 (by decide) ?_ ?_
      · refine J_iconst X (v := (0 : Int32)) dX9_strand_133 (by decide) ?_
        exact T_iret wS11 X dX9_strand_134
      · refine J_iconst X (v := (1 : Int32)) dX9_strand_129 (by decide) ?_
        refine J_goto X (tgt := 134) dX9_strand_130 (by decide) ?_
        exact T_iret wS11 X dX9_strand_134
    refine J_ite (fun hc52_4 => ?_) (fun hc52_4 => ?_)
    · refine J_tabIn X (v := (4 : Int32)) (off := 83) (tgt := 135) hc52_4 dX9_strand_52 (by decide) (by decide) (by decide) (by decide) ?_
      refine J_aload_n X dX9_strand_135 (i := 0) rfl rfl ?_
      refine T_getR X (kf := 7) cb9 kv0 (by decide) fl_X9_47 (fun _ _ _ => rfl) dX9_strand_136 ?_
      refine J_iload_n X dX9_strand_139 (i := 1) rfl rfl ?_
      refine J_iload_n X dX9_strand_140 (i := 3) rfl rfl ?_
      refine J_iload X dX9_strand_141 rfl ?_
      refine J_iload X dX9_strand_143 rfl ?_
      refine T_callV (As := [.int v1, .int x4, .int x6, .int x8]) wS1 X (C_X8_pullAt (kG K) (S1.2.2 v0 7) (wS1.1 _ _ kv0 7 _ rfl) v1 x4 x6 x8 S1) cb8 (wS1.1 _ _ kv0 7 _ rfl) ml_X9_175 in_yX8_pullAt se_yX8_pullAt ii_RX8 co_yX8_pullAt hy_X8_pullAt (hRd hR (by decide) (by decide)) rfl (Nat.le_of_ble_eq_true rfl) dX9_strand_145 (fun r14 S13 _ wS13 => ?_)
      exact T_iret wS13 X dX9_strand_148
    refine J_ite (fun hc52_5 => ?_) (fun hc52_5 => ?_)
    · refine J_tabIn X (v := (5 : Int32)) (off := 97) (tgt := 149) hc52_5 dX9_strand_52 (by decide) (by decide) (by decide) (by decide) ?_
      refine J_aload_n X dX9_strand_149 (i := 0) rfl rfl ?_
      refine T_getR X (kf := 7) cb9 kv0 (by decide) fl_X9_47 (fun _ _ _ => rfl) dX9_strand_150 ?_
      refine J_iload_n X dX9_strand_153 (i := 1) rfl rfl ?_
      refine T_callV (As := [.int v1]) wS1 X (C_X8_priceOf (kG K) (S1.2.2 v0 7) (wS1.1 _ _ kv0 7 _ rfl) v1 S1) cb8 (wS1.1 _ _ kv0 7 _ rfl) ml_X9_179 in_yX8_priceOf se_yX8_priceOf ii_RX8 co_yX8_priceOf hy_X8_priceOf (hRd hR (by decide) (by decide)) rfl (Nat.le_of_ble_eq_true rfl) dX9_strand_154 (fun r16 S15 _ wS15 => ?_)
      exact T_iret wS15 X dX9_strand_157
    refine J_ite (fun hc52_6 => ?_) (fun hc52_6 => ?_)
    · refine J_tabIn X (v := (6 : Int32)) (off := 106) (tgt := 158) hc52_6 dX9_strand_52 (by decide) (by decide) (by decide) (by decide) ?_
      refine J_aload_n X dX9_strand_158 (i := 0) rfl rfl ?_
      refine T_getR X (kf := 5) cb9 kv0 (by decide) fl_X9_35 (fun _ _ _ => rfl) dX9_strand_159 ?_
      refine J_aload_n X dX9_strand_162 (i := 0) rfl rfl ?_
      refine T_getR X (kf := 3) cb9 kv0 (by decide) fl_X9_16 (fun _ _ _ => rfl) dX9_strand_163 ?_
      refine T_getR X (kf := 8) cb0 (wS1.1 _ _ kv0 3 _ rfl) (by decide) fl_X9_166 (fun _ _ _ => rfl) dX9_strand_166 ?_
      refine J_iload_n X dX9_strand_169 (i := 1) rfl rfl ?_
      refine T_iald X (wS1.1 _ _ (wS1.1 _ _ kv0 3 _ rfl) 8 _ rfl) dX9_strand_170 (fun j17 => ?_)
      refine J_iload X dX9_strand_171 rfl ?_
      refine J_iload X dX9_strand_173 rfl ?_
      refine T_callV (As := [.int (S1.1 (S1.2.2 (S1.2.2 v0 3) 8) j17), .int x6, .int x8]) wS1 X (C_X5_farOf (kG K) (S1.2.2 v0 5) (wS1.1 _ _ kv0 5 _ rfl) (S1.1 (S1.2.2 (S1.2.2 v0 3) 8) j17) x6 x8 S1) cb5 (wS1.1 _ _ kv0 5 _ rfl) ml_X9_182 in_yX5_farOf se_yX5_farOf ii_RX5 co_yX5_farOf hy_X5_farOf (hRd hR (by decide) (by decide)) rfl (Nat.le_of_ble_eq_true rfl) dX9_strand_175 (fun r19 S18 _ wS18 => ?_)
      exact T_iret wS18 X dX9_strand_178
    have nhc52_0 := tabne hc52_0 (k := 0) (by decide)
    have nhc52_1 := tabne hc52_1 (k := 1) (by decide)
    have nhc52_2 := tabne hc52_2 (k := 2) (by decide)
    have nhc52_3 := tabne hc52_3 (k := 3) (by decide)
    have nhc52_4 := tabne hc52_4 (k := 4) (by decide)
    have nhc52_5 := tabne hc52_5 (k := 5) (by decide)
    have nhc52_6 := tabne hc52_6 (k := 6) (by decide)
    refine J_tabOut X (tgt := 179) dX9_strand_52 (tabout 0 6 (fun v h1 h2 => by omega)) (by decide) ?_
    refine J_iconst X (v := (-1 : Int32)) dX9_strand_179 (by decide) ?_
    exact T_iret wS1 X dX9_strand_180
theorem C_X9_strand (G : GG) (v0 : Nat) (kv0 : KA (gD G) v0 (0, 9)) (v1 : Int32) (v2 : Int32) (S : St) : CM G yX9_strand cX9_strand 6 (some .int) 4 [.ref v0, .int v1, .int v2] S (fun v : Int32 => some (.int v)) (f_X9_strand v0 v1 v2 S) :=
  CM_of (by decide) (Nat.le_of_ble_eq_true rfl) rfl (fun K hG X hR w => by subst hG; exact t_X9_strand_0 X hR v0 kv0 v1 v2 S w)
-- ==== X9_movedNow
theorem hy_X9_movedNow : yX9_movedNow.cls ≠ "java/lang/invoke/MethodHandle" ∧ yX9_movedNow.cls ≠ "java/lang/invoke/VarHandle" ∧ (parseMethodDescriptor yX9_movedNow.desc).map (fun d => d.parameters.length) = some 0 := by decide +kernel
set_option maxRecDepth 20000 in
def b_X9_movedNow_56 (q4 : Nat → Int32 → Int32 → St → Option (Int32 × St)) (v0 : Nat) (v1 : Int32) (v2 : Int32) (S : St) : Option (Int32 × St) := nm (v2 + (1 : Int32)) fun x1 => q4 v0 v1 x1 S
set_option maxRecDepth 20000 in
theorem t_X9_movedNow_56 {K : KK} (X : CX K cX9_movedNow 3 RX9 (some .int)) (hR : kR K = rmD 6) {q4 : Nat → Int32 → Int32 → St → Option (Int32 × St)} (hq4 : ∀ (v0 : Nat) (kv0 : KA (kDn K) v0 (0, 9)) (v1 : Int32) (v2 : Int32) (S : St), WT (kDn K) S.2.2 → JX K (Zm K (fun v : Int32 => some (.int v))) 4 [some (.ref v0), some (.int v1), some (.int v2)] [] (rwN (kN K) S) (kn K) 0 0 (q4 v0 v1 v2 S)) (v0 : Nat) (kv0 : KA (kDn K) v0 (0, 9)) (v1 : Int32) (v2 : Int32) (S : St) (w : WT (kDn K) S.2.2) : JX K (Zm K (fun v : Int32 => some (.int v))) 56 [some (.ref v0), some (.int v1), some (.int v2)] [] (rwN (kN K) S) (kn K) 0 0 (b_X9_movedNow_56 q4 v0 v1 v2 S) := by
  unfold b_X9_movedNow_56
  refine J_nmv (v2 + (1 : Int32)) (fun x1 ex1 => ?_)
  refine J_iinc X (v := x1) (ls' := [some (.ref v0), some (.int v1), some (.int x1)]) dX9_movedNow_56 (by decide) rfl (by rw [ex1]; rfl) rfl ?_
  refine J_goto X (tgt := 4) dX9_movedNow_59 (by decide) ?_
  exact hq4 v0 kv0 v1 x1 S w
set_option maxRecDepth 20000 in
def b_X9_movedNow_4 : Nat → Nat → Int32 → Int32 → St → Option (Int32 × St)
  | 0, _, _, _, _ => none
  | fu + 1, v0, v1, v2, S => if (S.1 (S.2.2 v0 3) 1) ≤ v2 then (some (v1, S)) else ((ix ((16 : Int32) + v2) 36).bind fun j1 => (ix ((22 : Int32) + v2) 36).bind fun j2 => bd (f_X8_isMovedAt (S.2.2 v0 7) v2 (S.1 (S.2.2 (S.2.2 v0 5) 0) j1) (S.1 (S.2.2 (S.2.2 v0 5) 0) j2) S) fun r4 S3 => if r4 = 0 then (b_X9_movedNow_56 (b_X9_movedNow_4 fu) v0 v1 v2 S3) else (nm (v1 ||| ((1 : Int32) <<< (v2 &&& 31))) fun x5 => b_X9_movedNow_56 (b_X9_movedNow_4 fu) v0 x5 v2 S3))
set_option maxRecDepth 20000 in
theorem t_X9_movedNow_4 {K : KK} (X : CX K cX9_movedNow 3 RX9 (some .int)) (hR : kR K = rmD 6) : ∀ (fu : Nat) (v0 : Nat) (kv0 : KA (kDn K) v0 (0, 9)) (v1 : Int32) (v2 : Int32) (S : St), WT (kDn K) S.2.2 → JX K (Zm K (fun v : Int32 => some (.int v))) 4 [some (.ref v0), some (.int v1), some (.int v2)] [] (rwN (kN K) S) (kn K) 0 0 (b_X9_movedNow_4 fu v0 v1 v2 S) := by
  intro fu
  induction fu with
  | zero => intro v0 kv0 v1 v2 S w; exact J_none
  | succ fu ih =>
    intro v0 kv0 v1 v2 S w
    rw [b_X9_movedNow_4]
    refine J_iload_n X dX9_movedNow_4 (i := 2) rfl rfl ?_
    refine J_aload_n X dX9_movedNow_5 (i := 0) rfl rfl ?_
    refine T_getR X (kf := 3) cb9 kv0 (by decide) fl_X9_16 (fun _ _ _ => rfl) dX9_movedNow_6 ?_
    refine T_getI X (kf := 1) cb0 (w.1 _ _ kv0 3 _ rfl) (by decide) fl_X9_115 (fun _ _ _ => rfl) dX9_movedNow_9 ?_
    refine J_icmp_ge X (tgt := 62) dX9_movedNow_12 (by decide) ?_ ?_
    · refine J_iload_n X dX9_movedNow_62 (i := 1) rfl rfl ?_
      exact T_iret w X dX9_movedNow_63
    · refine J_aload_n X dX9_movedNow_15 (i := 0) rfl rfl ?_
      refine T_getR X (kf := 7) cb9 kv0 (by decide) fl_X9_47 (fun _ _ _ => rfl) dX9_movedNow_16 ?_
      refine J_iload_n X dX9_movedNow_19 (i := 2) rfl rfl ?_
      refine J_aload_n X dX9_movedNow_20 (i := 0) rfl rfl ?_
      refine T_getR X (kf := 5) cb9 kv0 (by decide) fl_X9_35 (fun _ _ _ => rfl) dX9_movedNow_21 ?_
      refine T_getR X (kf := 0) cb5 (w.1 _ _ kv0 5 _ rfl) (by decide) fl_X9_125 (fun _ _ _ => rfl) dX9_movedNow_24 ?_
      refine J_bipush X (v := (16 : Int32)) dX9_movedNow_27 (by decide) ?_
      refine J_iload_n X dX9_movedNow_29 (i := 2) rfl rfl ?_
      refine J_iadd X dX9_movedNow_30 ?_
      refine T_iald X (w.1 _ _ (w.1 _ _ kv0 5 _ rfl) 0 _ rfl) dX9_movedNow_31 (fun j1 => ?_)
      refine J_aload_n X dX9_movedNow_32 (i := 0) rfl rfl ?_
      refine T_getR X (kf := 5) cb9 kv0 (by decide) fl_X9_35 (fun _ _ _ => rfl) dX9_movedNow_33 ?_
      refine T_getR X (kf := 0) cb5 (w.1 _ _ kv0 5 _ rfl) (by decide) fl_X9_125 (fun _ _ _ => rfl) dX9_movedNow_36 ?_
      refine J_bipush X (v := (22 : Int32)) dX9_movedNow_39 (by decide) ?_
      refine J_iload_n X dX9_movedNow_41 (i := 2) rfl rfl ?_
      refine J_iadd X dX9_movedNow_42 ?_
      refine T_iald X (w.1 _ _ (w.1 _ _ kv0 5 _ rfl) 0 _ rfl) dX9_movedNow_43 (fun j2 => ?_)
      refine T_callV (As := [.int v2, .int (S.1 (S.2.2 (S.2.2 v0 5) 0) j1), .int (S.1 (S.2.2 (S.2.2 v0 5) 0) j2)]) w X (C_X8_isMovedAt (kG K) (S.2.2 v0 7) (w.1 _ _ kv0 7 _ rfl) v2 (S.1 (S.2.2 (S.2.2 v0 5) 0) j1) (S.1 (S.2.2 (S.2.2 v0 5) 0) j2) S) cb8 (w.1 _ _ kv0 7 _ rfl) ml_X9_213 in_yX8_isMovedAt se_yX8_isMovedAt ii_RX8 co_yX8_isMovedAt hy_X8_isMovedAt (hRd hR (by decide) (by decide)) rfl (Nat.le_of_ble_eq_true rfl) dX9_movedNow_44 (fun r4 S3 _ wS3 => ?_)
      refine J_if_eq X (tgt := 56) dX9_movedNow_47 (by decide) ?_ ?_
      · exact t_X9_movedNow_56 X hR ih v0 kv0 v1 v2 S3 wS3
      · refine J_iload_n X dX9_movedNow_50 (i := 1) rfl rfl ?_
        refine J_iconst X (v := (1 : Int32)) dX9_movedNow_51 (by decide) ?_
        refine J_iload_n X dX9_movedNow_52 (i := 2) rfl rfl ?_
        refine J_ishl X dX9_movedNow_53 ?_
        refine J_ior X dX9_movedNow_54 ?_
        refine J_nmi (fun x5 => ?_)
        refine J_istore_n X (i := 1) (ls' := [some (.ref v0), some (.int x5), some (.int v2)]) dX9_movedNow_55 rfl (by decide) rfl ?_
        exact t_X9_movedNow_56 X hR ih v0 kv0 x5 v2 S3 wS3
set_option maxRecDepth 20000 in
def f_X9_movedNow (v0 : Nat) (S : St) : Option (Int32 × St) := b_X9_movedNow_4 FU v0 (0 : Int32) (0 : Int32) S
set_option maxRecDepth 20000 in
theorem t_X9_movedNow_0 {K : KK} (X : CX K cX9_movedNow 3 RX9 (some .int)) (hR : kR K = rmD 6) (v0 : Nat) (kv0 : KA (kDn K) v0 (0, 9)) (S : St) (w : WT (kDn K) S.2.2) : JX K (Zm K (fun v : Int32 => some (.int v))) 0 [some (.ref v0), none, none] [] (rwN (kN K) S) (kn K) 0 0 (f_X9_movedNow v0 S) := by
  unfold f_X9_movedNow
  refine J_iconst X (v := (0 : Int32)) dX9_movedNow_0 (by decide) ?_
  refine J_istore_n X (i := 1) (ls' := [some (.ref v0), some (.int (0 : Int32)), none]) dX9_movedNow_1 rfl (by decide) rfl ?_
  refine J_iconst X (v := (0 : Int32)) dX9_movedNow_2 (by decide) ?_
  refine J_istore_n X (i := 2) (ls' := [some (.ref v0), some (.int (0 : Int32)), some (.int (0 : Int32))]) dX9_movedNow_3 rfl (by decide) rfl ?_
  exact t_X9_movedNow_4 X hR FU v0 kv0 (0 : Int32) (0 : Int32) S w
theorem C_X9_movedNow (G : GG) (v0 : Nat) (kv0 : KA (gD G) v0 (0, 9)) (S : St) : CM G yX9_movedNow cX9_movedNow 3 (some .int) 6 [.ref v0] S (fun v : Int32 => some (.int v)) (f_X9_movedNow v0 S) :=
  CM_of (by decide) (Nat.le_of_ble_eq_true rfl) rfl (fun K hG X hR w => by subst hG; exact t_X9_movedNow_0 X hR v0 kv0 S w)
-- ==== X9_count
theorem hy_X9_count : yX9_count.cls ≠ "java/lang/invoke/MethodHandle" ∧ yX9_count.cls ≠ "java/lang/invoke/VarHandle" ∧ (parseMethodDescriptor yX9_count.desc).map (fun d => d.parameters.length) = some 1 := by decide +kernel
set_option maxRecDepth 20000 in
def f_X9_count (v0 : Nat) (v1 : Int32) (S : St) : Option (Int32 × St) := if v1 = (0 : Int32) then (some (S.1 (S.2.2 v0 3) 0, S)) else if v1 = (1 : Int32) then (some (S.1 (S.2.2 v0 3) 1, S)) else if v1 = (2 : Int32) then (some (S.1 (S.2.2 v0 3) 2, S)) else if v1 = (3 : Int32) then (some (S.1 (S.2.2 v0 5) 1, S)) else if v1 = (4 : Int32) then (some ((S.1 (S.2.2 v0 5) 1) - (S.1 (S.2.2 v0 5) 1) / (4 : Int32) * (4 : Int32), S)) else if v1 = (5 : Int32) then (some (S.1 (S.2.2 v0 5) 2, S)) else if v1 = (6 : Int32) then (some (S.1 (S.2.2 v0 5) 3, S)) else if v1 = (7 : Int32) then (some (S.1 (S.2.2 v0 5) 4, S)) else if v1 = (8 : Int32) then (some (S.1 v0 1, S)) else if v1 = (9 : Int32) then (some (S.1 (S.2.2 v0 9) 2, S)) else if v1 = (10 : Int32) then (some (S.1 (S.2.2 v0 13) 4, S)) else if v1 = (11 : Int32) then (bd (f_J6_bitCount_0f7a4 (S.1 v0 11) S) fun r2 S1 => some (r2, S1)) else if v1 = (12 : Int32) then (bd (f_X8_pricesOfAll (S.2.2 v0 7) S) fun r4 S3 => some (r4, S3)) else if v1 = (13 : Int32) then (bd (f_X9_movedNow v0 S) fun r6 S5 => some (r6, S5)) else (some ((-1 : Int32), S))
set_option maxRecDepth 20000 in
theorem t_X9_count_0 {K : KK} (X : CX K cX9_count 2 RX9 (some .int)) (hR : kR K = rmD 7) (v0 : Nat) (kv0 : KA (kDn K) v0 (0, 9)) (v1 : Int32) (S : St) (w : WT (kDn K) S.2.2) : JX K (Zm K (fun v : Int32 => some (.int v))) 0 [some (.ref v0), some (.int v1)] [] (rwN (kN K) S) (kn K) 0 0 (f_X9_count v0 v1 S) := by
  unfold f_X9_count
  refine J_iload_n X dX9_count_0 (i := 1) rfl rfl ?_
  refine J_ite (fun hc1_0 => ?_) (fun hc1_0 => ?_)
  · refine J_tabIn X (v := (0 : Int32)) (off := 71) (tgt := 72) hc1_0 dX9_count_1 (by decide) (by decide) (by decide) (by decide) ?_
    refine J_aload_n X dX9_count_72 (i := 0) rfl rfl ?_
    refine T_getR X (kf := 3) cb9 kv0 (by decide) fl_X9_16 (fun _ _ _ => rfl) dX9_count_73 ?_
    refine T_getI X (kf := 0) cb0 (w.1 _ _ kv0 3 _ rfl) (by decide) fl_X9_112 (fun _ _ _ => rfl) dX9_count_76 ?_
    exact T_iret w X dX9_count_79
  refine J_ite (fun hc1_1 => ?_) (fun hc1_1 => ?_)
  · refine J_tabIn X (v := (1 : Int32)) (off := 79) (tgt := 80) hc1_1 dX9_count_1 (by decide) (by decide) (by decide) (by decide) ?_
    refine J_aload_n X dX9_count_80 (i := 0) rfl rfl ?_
    refine T_getR X (kf := 3) cb9 kv0 (by decide) fl_X9_16 (fun _ _ _ => rfl) dX9_count_81 ?_
    refine T_getI X (kf := 1) cb0 (w.1 _ _ kv0 3 _ rfl) (by decide) fl_X9_115 (fun _ _ _ => rfl) dX9_count_84 ?_
    exact T_iret w X dX9_count_87
  refine J_ite (fun hc1_2 => ?_) (fun hc1_2 => ?_)
  · refine J_tabIn X (v := (2 : Int32)) (off := 87) (tgt := 88) hc1_2 dX9_count_1 (by decide) (by decide) (by decide) (by decide) ?_
    refine J_aload_n X dX9_count_88 (i := 0) rfl rfl ?_
    refine T_getR X (kf := 3) cb9 kv0 (by decide) fl_X9_16 (fun _ _ _ => rfl) dX9_count_89 ?_
    refine T_getI X (kf := 2) cb0 (w.1 _ _ kv0 3 _ rfl) (by decide) fl_X9_118 (fun _ _ _ => rfl) dX9_count_92 ?_
    exact T_iret w X dX9_count_95
  refine J_ite (fun hc1_3 => ?_) (fun hc1_3 => ?_)
  · refine J_tabIn X (v := (3 : Int32)) (off := 95) (tgt := 96) hc1_3 dX9_count_1 (by decide) (by decide) (by decide) (by decide) ?_
    refine J_aload_n X dX9_count_96 (i := 0) rfl rfl ?_
    refine T_getR X (kf := 5) cb9 kv0 (by decide) fl_X9_35 (fun _ _ _ => rfl) dX9_count_97 ?_
    refine T_getI X (kf := 1) cb5 (w.1 _ _ kv0 5 _ rfl) (by decide) fl_X9_185 (fun _ _ _ => rfl) dX9_count_100 ?_
    exact T_iret w X dX9_count_103
  refine J_ite (fun hc1_4 => ?_) (fun hc1_4 => ?_)
  · refine J_tabIn X (v := (4 : Int32)) (off := 103) (tgt := 104) hc1_4 dX9_count_1 (by decide) (by decide) (by decide) (by decide) ?_
    refine J_aload_n X dX9_count_104 (i := 0) rfl rfl ?_
    refine T_getR X (kf := 5) cb9 kv0 (by decide) fl_X9_35 (fun _ _ _ => rfl) dX9_count_105 ?_
    refine T_getI X (kf := 1) cb5 (w.1 _ _ kv0 5 _ rfl) (by decide) fl_X9_185 (fun _ _ _ => rfl) dX9_count_108 ?_
    refine J_iconst X (v := (4 : Int32)) dX9_count_111 (by decide) ?_
    refine J_iremc X dX9_count_112 (by decide) ?_
    exact T_iret w X dX9_count_113
  refine J_ite (fun hc1_5 => ?_) (fun hc1_5 => ?_)
  · refine J_tabIn X (v := (5 : Int32)) (off := 113) (tgt := 114) hc1_5 dX9_count_1 (by decide) (by decide) (by decide) (by decide) ?_
    refine J_aload_n X dX9_count_114 (i := 0) rfl rfl ?_
    refine T_getR X (kf := 5) cb9 kv0 (by decide) fl_X9_35 (fun _ _ _ => rfl) dX9_count_115 ?_
    refine T_getI X (kf := 2) cb5 (w.1 _ _ kv0 5 _ rfl) (by decide) fl_X9_188 (fun _ _ _ => rfl) dX9_count_118 ?_
    exact T_iret w X dX9_count_121
  refine J_ite (fun hc1_6 => ?_) (fun hc1_6 => ?_)
  · refine J_tabIn X (v := (6 : Int32)) (off := 121) (tgt := 122) hc1_6 dX9_count_1 (by decide) (by decide) (by decide) (by decide) ?_
    refine J_aload_n X dX9_count_122 (i := 0) rfl rfl ?_
    refine T_getR X (kf := 5) cb9 kv0 (by decide) fl_X9_35 (fun _ _ _ => rfl) dX9_count_123 ?_
    refine T_getI X (kf := 3) cb5 (w.1 _ _ kv0 5 _ rfl) (by decide) fl_X9_191 (fun _ _ _ => rfl) dX9_count_126 ?_
    exact T_iret w X dX9_count_129
  refine J_ite (fun hc1_7 => ?_) (fun hc1_7 => ?_)
  · refine J_tabIn X (v := (7 : Int32)) (off := 129) (tgt := 130) hc1_7 dX9_count_1 (by decide) (by decide) (by decide) (by decide) ?_
    refine J_aload_n X dX9_count_130 (i := 0) rfl rfl ?_
    refine T_getR X (kf := 5) cb9 kv0 (by decide) fl_X9_35 (fun _ _ _ => rfl) dX9_count_131 ?_
    refine T_getI X (kf := 4) cb5 (w.1 _ _ kv0 5 _ rfl) (by decide) fl_X9_194 (fun _ _ _ => rfl) dX9_count_134 ?_
    exact T_iret w X dX9_count_137
  refine J_ite (fun hc1_8 => ?_) (fun hc1_8 => ?_)
  · refine J_tabIn X (v := (8 : Int32)) (off := 137) (tgt := 138) hc1_8 dX9_count_1 (by decide) (by decide) (by decide) (by decide) ?_
    refine J_aload_n X dX9_count_138 (i := 0) rfl rfl ?_
    refine T_getI X (kf := 1) cb9 kv0 (by decide) fl_X9_79 (fun _ _ _ => rfl) dX9_count_139 ?_
    exact T_iret w X dX9_count_142
  refine J_ite (fun hc1_9 => ?_) (fun hc1_9 => ?_)
  · refine J_tabIn X (v := (9 : Int32)) (off := 142) (tgt := 143) hc1_9 dX9_count_1 (by decide) (by decide) (by decide) (by decide) ?_
    refine J_aload_n X dX9_count_143 (i := 0) rfl rfl ?_
    refine T_getR X (kf := 9) cb9 kv0 (by decide) fl_X9_57 (fun _ _ _ => rfl) dX9_count_144 ?_
    refine T_getI X (kf := 2) cb1 (w.1 _ _ kv0 9 _ rfl) (by decide) fl_X9_197 (fun _ _ _ => rfl) dX9_count_147 ?_
    exact T_iret w X dX9_count_150
  refine J_ite (fun hc1_10 => ?_) (fun hc1_10 => ?_)
  · refine J_tabIn X (v := (10 : Int32)) (off := 150) (tgt := 151) hc1_10 dX9_count_1 (by decide) (by decide) (by decide) (by decide) ?_
    refine J_aload_n X dX9_count_151 (i := 0) rfl rfl ?_
    refine T_getR X (kf := 13) cb9 kv0 (by decide) fl_X9_75 (fun _ _ _ => rfl) dX9_count_152 ?_
    refine T_getI X (kf := 4) cb7 (w.1 _ _ kv0 13 _ rfl) (by decide) fl_X9_200 (fun _ _ _ => rfl) dX9_count_155 ?_
    exact T_iret w X dX9_count_158
  refine J_ite (fun hc1_11 => ?_) (fun hc1_11 => ?_)
  · refine J_tabIn X (v := (11 : Int32)) (off := 158) (tgt := 159) hc1_11 dX9_count_1 (by decide) (by decide) (by decide) (by decide) ?_
    refine J_aload_n X dX9_count_159 (i := 0) rfl rfl ?_
    refine T_getI X (kf := 11) cb9 kv0 (by decide) fl_X9_105 (fun _ _ _ => rfl) dX9_count_160 ?_
    refine T_callS (As := [.int (S.1 v0 11)]) w X (C_J6_bitCount_0f7a4 (kG K) (S.1 v0 11) S) ml_X9_201 st_yJ6_bitCount_0f7a4 ii_RJ6 co_yJ6_bitCount_0f7a4 hy_J6_bitCount_0f7a4 (hRd hR (by decide) (by decide)) rfl (Nat.le_of_ble_eq_true rfl) dX9_count_163 (fun r2 S1 _ wS1 => ?_)
    exact T_iret wS1 X dX9_count_166
  refine J_ite (fun hc1_12 => ?_) (fun hc1_12 => ?_)
  · refine J_tabIn X (v := (12 : Int32)) (off := 166) (tgt := 167) hc1_12 dX9_count_1 (by decide) (by decide) (by decide) (by decide) ?_
    refine J_aload_n X dX9_count_167 (i := 0) rfl rfl ?_
    refine T_getR X (kf := 7) cb9 kv0 (by decide) fl_X9_47 (fun _ _ _ => rfl) dX9_count_168 ?_
    refine T_callV (As := []) w X (C_X8_pricesOfAll (kG K) (S.2.2 v0 7) (w.1 _ _ kv0 7 _ rfl) S) cb8 (w.1 _ _ kv0 7 _ rfl) ml_X9_206 in_yX8_pricesOfAll se_yX8_pricesOfAll ii_RX8 co_yX8_pricesOfAll hy_X8_pricesOfAll (hRd hR (by decide) (by decide)) rfl (Nat.le_of_ble_eq_true rfl) dX9_count_171 (fun r4 S3 _ wS3 => ?_)
    exact T_iret wS3 X dX9_count_174
  refine J_ite (fun hc1_13 => ?_) (fun hc1_13 => ?_)
  · refine J_tabIn X (v := (13 : Int32)) (off := 174) (tgt := 175) hc1_13 dX9_count_1 (by decide) (by decide) (by decide) (by decide) ?_
    refine J_aload_n X dX9_count_175 (i := 0) rfl rfl ?_
    refine T_callV (As := []) w X (C_X9_movedNow (kG K) v0 kv0 S) cb9 kv0 ml_X9_210 in_yX9_movedNow se_yX9_movedNow ii_RX9 co_yX9_movedNow hy_X9_movedNow (hRd hR (by decide) (by decide)) rfl (Nat.le_of_ble_eq_true rfl) dX9_count_176 (fun r6 S5 _ wS5 => ?_)
    exact T_iret wS5 X dX9_count_179
  have nhc1_0 := tabne hc1_0 (k := 0) (by decide)
  have nhc1_1 := tabne hc1_1 (k := 1) (by decide)
  have nhc1_2 := tabne hc1_2 (k := 2) (by decide)
  have nhc1_3 := tabne hc1_3 (k := 3) (by decide)
  have nhc1_4 := tabne hc1_4 (k := 4) (by decide)
  have nhc1_5 := tabne hc1_5 (k := 5) (by decide)
  have nhc1_6 := tabne hc1_6 (k := 6) (by decide)
  have nhc1_7 := tabne hc1_7 (k := 7) (by decide)
  have nhc1_8 := tabne hc1_8 (k := 8) (by decide)
  have nhc1_9 := tabne hc1_9 (k := 9) (by decide)
  have nhc1_10 := tabne hc1_10 (k := 10) (by decide)
  have nhc1_11 := tabne hc1_11 (k := 11) (by decide)
  have nhc1_12 := tabne hc1_12 (k := 12) (by decide)
  have nhc1_13 := tabne hc1_13 (k := 13) (by decide)
  refine J_tabOut X (tgt := 180) dX9_count_1 (tabout 0 13 (fun v h1 h2 => by omega)) (by decide) ?_
  refine J_iconst X (v := (-1 : Int32)) dX9_count_180 (by decide) ?_
  exact T_iret w X dX9_count_181
theorem C_X9_count (G : GG) (v0 : Nat) (kv0 : KA (gD G) v0 (0, 9)) (v1 : Int32) (S : St) : CM G yX9_count cX9_count 2 (some .int) 7 [.ref v0, .int v1] S (fun v : Int32 => some (.int v)) (f_X9_count v0 v1 S) :=
  CM_of (by decide) (Nat.le_of_ble_eq_true rfl) rfl (fun K hG X hR w => by subst hG; exact t_X9_count_0 X hR v0 kv0 v1 S w)
-- ==== X9_hand
theorem hy_X9_hand : yX9_hand.cls ≠ "java/lang/invoke/MethodHandle" ∧ yX9_hand.cls ≠ "java/lang/invoke/VarHandle" ∧ (parseMethodDescriptor yX9_hand.desc).map (fun d => d.parameters.length) = some 2 := by decide +kernel
set_option maxRecDepth 20000 in
def f_X9_hand (v0 : Nat) (v1 : Int32) (v2 : Int32) (S : St) : Option (Int32 × St) := bd (f_X9_isStrand v0 v1 S) fun r2 S1 => if r2 = 0 then (some ((0 : Int32), S1)) else (bd (f_X9_isPerson v0 v2 S1) fun r4 S3 => if r4 = 0 then (some ((0 : Int32), S3)) else (bd (f_X5_mayBeHanded (S3.2.2 v0 5) v1 v2 S3) fun r6 S5 => if r6 = 0 then (some ((0 : Int32), S5)) else (bd (f_X1_keep (S5.2.2 v0 9) (S5.2.2 v0 5) S5) fun _ S7 => (ix ((28 : Int32) + v1) 36).bind fun j9 => nm (sI S7 (S7.2.2 (S7.2.2 v0 5) 0) j9 v2) fun S10 => some ((1 : Int32), S10))))
set_option maxRecDepth 20000 in
theorem t_X9_hand_0 {K : KK} (X : CX K cX9_hand 3 RX9 (some .boolean)) (hR : kR K = rmD 3) (v0 : Nat) (kv0 : KA (kDn K) v0 (0, 9)) (v1 : Int32) (v2 : Int32) (S : St) (w : WT (kDn K) S.2.2) : JX K (Zm K (fun v : Int32 => some (.int v))) 0 [some (.ref v0), some (.int v1), some (.int v2)] [] (rwN (kN K) S) (kn K) 0 0 (f_X9_hand v0 v1 v2 S) := by
  unfold f_X9_hand
  refine J_aload_n X dX9_hand_0 (i := 0) rfl rfl ?_
  refine J_iload_n X dX9_hand_1 (i := 1) rfl rfl ?_
  refine T_callV (As := [.int v1]) w X (C_X9_isStrand (kG K) v0 kv0 v1 S) cb9 kv0 ml_X9_163 in_yX9_isStrand se_yX9_isStrand ii_RX9 co_yX9_isStrand hy_X9_isStrand (hRd hR (by decide) (by decide)) rfl (Nat.le_of_ble_eq_true rfl) dX9_hand_2 (fun r2 S1 _ wS1 => ?_)
  refine J_if_eq X (tgt := 28) dX9_hand_5 (by decide) ?_ ?_
  · refine J_iconst X (v := (0 : Int32)) dX9_hand_28 (by decide) ?_
    exact T_zret wS1 X (by decide) dX9_hand_29
  · refine J_aload_n X dX9_hand_8 (i := 0) rfl rfl ?_
    refine J_iload_n X dX9_hand_9 (i := 2) rfl rfl ?_
    refine T_callV (As := [.int v2]) wS1 X (C_X9_isPerson (kG K) v0 kv0 v2 S1) cb9 kv0 ml_X9_132 in_yX9_isPerson se_yX9_isPerson ii_RX9 co_yX9_isPerson hy_X9_isPerson (hRd hR (by decide) (by decide)) rfl (Nat.le_of_ble_eq_true rfl) dX9_hand_10 (fun r4 S3 _ wS3 => ?_)
    refine J_if_eq X (tgt := 28) dX9_hand_13 (by decide) ?_ ?_
    · refine J_iconst X (v := (0 : Int32)) dX9_hand_28 (by decide) ?_
      exact T_zret wS3 X (by decide) dX9_hand_29
    · refine J_aload_n X dX9_hand_16 (i := 0) rfl rfl ?_
      refine T_getR X (kf := 5) cb9 kv0 (by decide) fl_X9_35 (fun _ _ _ => rfl) dX9_hand_17 ?_
      refine J_iload_n X dX9_hand_20 (i := 1) rfl rfl ?_
      refine J_iload_n X dX9_hand_21 (i := 2) rfl rfl ?_
      refine T_callV (As := [.int v1, .int v2]) wS3 X (C_X5_mayBeHanded (kG K) (S3.2.2 v0 5) (wS3.1 _ _ kv0 5 _ rfl) v1 v2 S3) cb5 (wS3.1 _ _ kv0 5 _ rfl) ml_X9_217 in_yX5_mayBeHanded se_yX5_mayBeHanded ii_RX5 co_yX5_mayBeHanded hy_X5_mayBeHanded (hRd hR (by decide) (by decide)) rfl (Nat.le_of_ble_eq_true rfl) dX9_hand_22 (fun r6 S5 _ wS5 => ?_)
      refine J_if_ne X (tgt := 30) dX9_hand_25 (by decide) ?_ ?_
      · refine J_iconst X (v := (0 : Int32)) dX9_hand_28 (by decide) ?_
        exact T_zret wS5 X (by decide) dX9_hand_29
      · refine J_aload_n X dX9_hand_30 (i := 0) rfl rfl ?_
        refine T_getR X (kf := 9) cb9 kv0 (by decide) fl_X9_57 (fun _ _ _ => rfl) dX9_hand_31 ?_
        refine J_aload_n X dX9_hand_34 (i := 0) rfl rfl ?_
        refine T_getR X (kf := 5) cb9 kv0 (by decide) fl_X9_35 (fun _ _ _ => rfl) dX9_hand_35 ?_
        refine T_callV (As := [.ref (S5.2.2 v0 5)]) wS5 X (C_X1_keep (kG K) (S5.2.2 v0 9) (wS5.1 _ _ kv0 9 _ rfl) (S5.2.2 v0 5) (wS5.1 _ _ kv0 5 _ rfl) S5) cb1 (wS5.1 _ _ kv0 9 _ rfl) ml_X9_221 in_yX1_keep se_yX1_keep ii_RX1 co_yX1_keep hy_X1_keep (hRd hR (by decide) (by decide)) rfl (Nat.le_of_ble_eq_true rfl) dX9_hand_38 (fun _ S7 _ wS7 => ?_)
        refine J_aload_n X dX9_hand_41 (i := 0) rfl rfl ?_
        refine T_getR X (kf := 5) cb9 kv0 (by decide) fl_X9_35 (fun _ _ _ => rfl) dX9_hand_42 ?_
        refine T_getR X (kf := 0) cb5 (wS7.1 _ _ kv0 5 _ rfl) (by decide) fl_X9_125 (fun _ _ _ => rfl) dX9_hand_45 ?_
        refine J_bipush X (v := (28 : Int32)) dX9_hand_48 (by decide) ?_
        refine J_iload_n X dX9_hand_50 (i := 1) rfl rfl ?_
        refine J_iadd X dX9_hand_51 ?_
        refine J_iload_n X dX9_hand_52 (i := 2) rfl rfl ?_
        refine T_iast X (wS7.1 _ _ (wS7.1 _ _ kv0 5 _ rfl) 0 _ rfl) dX9_hand_53 (fun j9 S10 hS10 => ?_)
        have wS10 : WT (kDn K) S10.2.2 := by rw [hS10]; exact wS7
        clear hS10
        refine J_iconst X (v := (1 : Int32)) dX9_hand_54 (by decide) ?_
        exact T_zret wS10 X (by decide) dX9_hand_55
theorem C_X9_hand (G : GG) (v0 : Nat) (kv0 : KA (gD G) v0 (0, 9)) (v1 : Int32) (v2 : Int32) (S : St) : CM G yX9_hand cX9_hand 3 (some .boolean) 3 [.ref v0, .int v1, .int v2] S (fun v : Int32 => some (.int v)) (f_X9_hand v0 v1 v2 S) :=
  CM_of (by decide) (Nat.le_of_ble_eq_true rfl) rfl (fun K hG X hR w => by subst hG; exact t_X9_hand_0 X hR v0 kv0 v1 v2 S w)
-- ==== X9_cut
theorem hy_X9_cut : yX9_cut.cls ≠ "java/lang/invoke/MethodHandle" ∧ yX9_cut.cls ≠ "java/lang/invoke/VarHandle" ∧ (parseMethodDescriptor yX9_cut.desc).map (fun d => d.parameters.length) = some 1 := by decide +kernel
set_option maxRecDepth 20000 in
def f_X9_cut (v0 : Nat) (v1 : Int32) (S : St) : Option (Int32 × St) := bd (f_X9_isStrand v0 v1 S) fun r2 S1 => if r2 = 0 then (some ((0 : Int32), S1)) else (bd (f_X5_isCut (S1.2.2 v0 5) v1 S1) fun r4 S3 => if r4 = 0 then (bd (f_X1_keep (S3.2.2 v0 9) (S3.2.2 v0 5) S3) fun _ S5 => nm (sI S5 (S5.2.2 v0 5) 4 ((S5.1 (S5.2.2 v0 5) 4) ||| ((1 : Int32) <<< (v1 &&& 31)))) fun S7 => some ((1 : Int32), S7)) else (some ((0 : Int32), S3)))
set_option maxRecDepth 20000 in
theorem t_X9_cut_0 {K : KK} (X : CX K cX9_cut 2 RX9 (some .boolean)) (hR : kR K = rmD 3) (v0 : Nat) (kv0 : KA (kDn K) v0 (0, 9)) (v1 : Int32) (S : St) (w : WT (kDn K) S.2.2) : JX K (Zm K (fun v : Int32 => some (.int v))) 0 [some (.ref v0), some (.int v1)] [] (rwN (kN K) S) (kn K) 0 0 (f_X9_cut v0 v1 S) := by
  unfold f_X9_cut
  refine J_aload_n X dX9_cut_0 (i := 0) rfl rfl ?_
  refine J_iload_n X dX9_cut_1 (i := 1) rfl rfl ?_
  refine T_callV (As := [.int v1]) w X (C_X9_isStrand (kG K) v0 kv0 v1 S) cb9 kv0 ml_X9_163 in_yX9_isStrand se_yX9_isStrand ii_RX9 co_yX9_isStrand hy_X9_isStrand (hRd hR (by decide) (by decide)) rfl (Nat.le_of_ble_eq_true rfl) dX9_cut_2 (fun r2 S1 _ wS1 => ?_)
  refine J_if_eq X (tgt := 19) dX9_cut_5 (by decide) ?_ ?_
  · refine J_iconst X (v := (0 : Int32)) dX9_cut_19 (by decide) ?_
    exact T_zret wS1 X (by decide) dX9_cut_20
  · refine J_aload_n X dX9_cut_8 (i := 0) rfl rfl ?_
    refine T_getR X (kf := 5) cb9 kv0 (by decide) fl_X9_35 (fun _ _ _ => rfl) dX9_cut_9 ?_
    refine J_iload_n X dX9_cut_12 (i := 1) rfl rfl ?_
    refine T_callV (As := [.int v1]) wS1 X (C_X5_isCut (kG K) (S1.2.2 v0 5) (wS1.1 _ _ kv0 5 _ rfl) v1 S1) cb5 (wS1.1 _ _ kv0 5 _ rfl) ml_X9_172 in_yX5_isCut se_yX5_isCut ii_RX5 co_yX5_isCut hy_X5_isCut (hRd hR (by decide) (by decide)) rfl (Nat.le_of_ble_eq_true rfl) dX9_cut_13 (fun r4 S3 _ wS3 => ?_)
    refine J_if_eq X (tgt := 21) dX9_cut_16 (by decide) ?_ ?_
    · refine J_aload_n X dX9_cut_21 (i := 0) rfl rfl ?_
      refine T_getR X (kf := 9) cb9 kv0 (by decide) fl_X9_57 (fun _ _ _ => rfl) dX9_cut_22 ?_
      refine J_aload_n X dX9_cut_25 (i := 0) rfl rfl ?_
      refine T_getR X (kf := 5) cb9 kv0 (by decide) fl_X9_35 (fun _ _ _ => rfl) dX9_cut_26 ?_
      refine T_callV (As := [.ref (S3.2.2 v0 5)]) wS3 X (C_X1_keep (kG K) (S3.2.2 v0 9) (wS3.1 _ _ kv0 9 _ rfl) (S3.2.2 v0 5) (wS3.1 _ _ kv0 5 _ rfl) S3) cb1 (wS3.1 _ _ kv0 9 _ rfl) ml_X9_221 in_yX1_keep se_yX1_keep ii_RX1 co_yX1_keep hy_X1_keep (hRd hR (by decide) (by decide)) rfl (Nat.le_of_ble_eq_true rfl) dX9_cut_29 (fun _ S5 _ wS5 => ?_)
      refine J_aload_n X dX9_cut_32 (i := 0) rfl rfl ?_
      refine T_getR X (kf := 5) cb9 kv0 (by decide) fl_X9_35 (fun _ _ _ => rfl) dX9_cut_33 ?_
      refine J_dup X dX9_cut_36 rfl ?_
      refine T_getI X (kf := 4) cb5 (wS5.1 _ _ kv0 5 _ rfl) (by decide) fl_X9_194 (fun _ _ _ => rfl) dX9_cut_37 ?_
      refine J_iconst X (v := (1 : Int32)) dX9_cut_40 (by decide) ?_
      refine J_iload_n X dX9_cut_41 (i := 1) rfl rfl ?_
      refine J_ishl X dX9_cut_42 ?_
      refine J_ior X dX9_cut_43 ?_
      refine T_putI X (kf := 4) cb5 (wS5.1 _ _ kv0 5 _ rfl) (by decide) fl_X9_194 (fun _ _ _ => rfl) rfl rfl rfl dX9_cut_44 (fun S7 hS7 => ?_)
      have wS7 : WT (kDn K) S7.2.2 := by rw [hS7]; exact wS5
      clear hS7
      refine J_iconst X (v := (1 : Int32)) dX9_cut_47 (by decide) ?_
      exact T_zret wS7 X (by decide) dX9_cut_48
    · refine J_iconst X (v := (0 : Int32)) dX9_cut_19 (by decide) ?_
      exact T_zret wS3 X (by decide) dX9_cut_20
theorem C_X9_cut (G : GG) (v0 : Nat) (kv0 : KA (gD G) v0 (0, 9)) (v1 : Int32) (S : St) : CM G yX9_cut cX9_cut 2 (some .boolean) 3 [.ref v0, .int v1] S (fun v : Int32 => some (.int v)) (f_X9_cut v0 v1 S) :=
  CM_of (by decide) (Nat.le_of_ble_eq_true rfl) rfl (fun K hG X hR w => by subst hG; exact t_X9_cut_0 X hR v0 kv0 v1 S w)
-- ==== X9_die
theorem hy_X9_die : yX9_die.cls ≠ "java/lang/invoke/MethodHandle" ∧ yX9_die.cls ≠ "java/lang/invoke/VarHandle" ∧ (parseMethodDescriptor yX9_die.desc).map (fun d => d.parameters.length) = some 1 := by decide +kernel
set_option maxRecDepth 20000 in
def f_X9_die (v0 : Nat) (v1 : Int32) (S : St) : Option (Int32 × St) := bd (f_X9_isMermaid v0 v1 S) fun r2 S1 => if r2 = 0 then (some ((0 : Int32), S1)) else (bd (f_X5_isDead (S1.2.2 v0 5) v1 S1) fun r4 S3 => if r4 = 0 then (bd (f_X1_keep (S3.2.2 v0 9) (S3.2.2 v0 5) S3) fun _ S5 => nm (sI S5 (S5.2.2 v0 5) 3 ((S5.1 (S5.2.2 v0 5) 3) ||| ((1 : Int32) <<< (v1 &&& 31)))) fun S7 => some ((1 : Int32), S7)) else (some ((0 : Int32), S3)))
set_option maxRecDepth 20000 in
theorem t_X9_die_0 {K : KK} (X : CX K cX9_die 2 RX9 (some .boolean)) (hR : kR K = rmD 3) (v0 : Nat) (kv0 : KA (kDn K) v0 (0, 9)) (v1 : Int32) (S : St) (w : WT (kDn K) S.2.2) : JX K (Zm K (fun v : Int32 => some (.int v))) 0 [some (.ref v0), some (.int v1)] [] (rwN (kN K) S) (kn K) 0 0 (f_X9_die v0 v1 S) := by
  unfold f_X9_die
  refine J_aload_n X dX9_die_0 (i := 0) rfl rfl ?_
  refine J_iload_n X dX9_die_1 (i := 1) rfl rfl ?_
  refine T_callV (As := [.int v1]) w X (C_X9_isMermaid (kG K) v0 kv0 v1 S) cb9 kv0 ml_X9_121 in_yX9_isMermaid se_yX9_isMermaid ii_RX9 co_yX9_isMermaid hy_X9_isMermaid (hRd hR (by decide) (by decide)) rfl (Nat.le_of_ble_eq_true rfl) dX9_die_2 (fun r2 S1 _ wS1 => ?_)
  refine J_if_eq X (tgt := 19) dX9_die_5 (by decide) ?_ ?_
  · refine J_iconst X (v := (0 : Int32)) dX9_die_19 (by decide) ?_
    exact T_zret wS1 X (by decide) dX9_die_20
  · refine J_aload_n X dX9_die_8 (i := 0) rfl rfl ?_
    refine T_getR X (kf := 5) cb9 kv0 (by decide) fl_X9_35 (fun _ _ _ => rfl) dX9_die_9 ?_
    refine J_iload_n X dX9_die_12 (i := 1) rfl rfl ?_
    refine T_callV (As := [.int v1]) wS1 X (C_X5_isDead (kG K) (S1.2.2 v0 5) (wS1.1 _ _ kv0 5 _ rfl) v1 S1) cb5 (wS1.1 _ _ kv0 5 _ rfl) ml_X9_129 in_yX5_isDead se_yX5_isDead ii_RX5 co_yX5_isDead hy_X5_isDead (hRd hR (by decide) (by decide)) rfl (Nat.le_of_ble_eq_true rfl) dX9_die_13 (fun r4 S3 _ wS3 => ?_)
    refine J_if_eq X (tgt := 21) dX9_die_16 (by decide) ?_ ?_
    · refine J_aload_n X dX9_die_21 (i := 0) rfl rfl ?_
      refine T_getR X (kf := 9) cb9 kv0 (by decide) fl_X9_57 (fun _ _ _ => rfl) dX9_die_22 ?_
      refine J_aload_n X dX9_die_25 (i := 0) rfl rfl ?_
      refine T_getR X (kf := 5) cb9 kv0 (by decide) fl_X9_35 (fun _ _ _ => rfl) dX9_die_26 ?_
      refine T_callV (As := [.ref (S3.2.2 v0 5)]) wS3 X (C_X1_keep (kG K) (S3.2.2 v0 9) (wS3.1 _ _ kv0 9 _ rfl) (S3.2.2 v0 5) (wS3.1 _ _ kv0 5 _ rfl) S3) cb1 (wS3.1 _ _ kv0 9 _ rfl) ml_X9_221 in_yX1_keep se_yX1_keep ii_RX1 co_yX1_keep hy_X1_keep (hRd hR (by decide) (by decide)) rfl (Nat.le_of_ble_eq_true rfl) dX9_die_29 (fun _ S5 _ wS5 => ?_)
      refine J_aload_n X dX9_die_32 (i := 0) rfl rfl ?_
      refine T_getR X (kf := 5) cb9 kv0 (by decide) fl_X9_35 (fun _ _ _ => rfl) dX9_die_33 ?_
      refine J_dup X dX9_die_36 rfl ?_
      refine T_getI X (kf := 3) cb5 (wS5.1 _ _ kv0 5 _ rfl) (by decide) fl_X9_191 (fun _ _ _ => rfl) dX9_die_37 ?_
      refine J_iconst X (v := (1 : Int32)) dX9_die_40 (by decide) ?_
      refine J_iload_n X dX9_die_41 (i := 1) rfl rfl ?_
      refine J_ishl X dX9_die_42 ?_
      refine J_ior X dX9_die_43 ?_
      refine T_putI X (kf := 3) cb5 (wS5.1 _ _ kv0 5 _ rfl) (by decide) fl_X9_191 (fun _ _ _ => rfl) rfl rfl rfl dX9_die_44 (fun S7 hS7 => ?_)
      have wS7 : WT (kDn K) S7.2.2 := by rw [hS7]; exact wS5
      clear hS7
      refine J_iconst X (v := (1 : Int32)) dX9_die_47 (by decide) ?_
      exact T_zret wS7 X (by decide) dX9_die_48
    · refine J_iconst X (v := (0 : Int32)) dX9_die_19 (by decide) ?_
      exact T_zret wS3 X (by decide) dX9_die_20
theorem C_X9_die (G : GG) (v0 : Nat) (kv0 : KA (gD G) v0 (0, 9)) (v1 : Int32) (S : St) : CM G yX9_die cX9_die 2 (some .boolean) 3 [.ref v0, .int v1] S (fun v : Int32 => some (.int v)) (f_X9_die v0 v1 S) :=
  CM_of (by decide) (Nat.le_of_ble_eq_true rfl) rfl (fun K hG X hR w => by subst hG; exact t_X9_die_0 X hR v0 kv0 v1 S w)
-- ==== X9_months
theorem hy_X9_months : yX9_months.cls ≠ "java/lang/invoke/MethodHandle" ∧ yX9_months.cls ≠ "java/lang/invoke/VarHandle" ∧ (parseMethodDescriptor yX9_months.desc).map (fun d => d.parameters.length) = some 1 := by decide +kernel
set_option maxRecDepth 20000 in
def b_X9_months_29 : Nat → Nat → Int32 → Int32 → St → Option (Int32 × St)
  | 0, _, _, _, _ => none
  | fu + 1, v0, v1, v2, S => if v1 ≤ v2 then (some (S.1 (S.2.2 v0 5) 1, S)) else (bd (f_X8_goMonth (S.2.2 v0 7) (0 : Int32) (S.1 (S.2.2 v0 3) 1) (1 : Int32) S) fun _ S1 => nm (v2 + (1 : Int32)) fun x3 => b_X9_months_29 fu v0 v1 x3 S1)
set_option maxRecDepth 20000 in
theorem t_X9_months_29 {K : KK} (X : CX K cX9_months 3 RX9 (some .int)) (hR : kR K = rmD 6) : ∀ (fu : Nat) (v0 : Nat) (kv0 : KA (kDn K) v0 (0, 9)) (v1 : Int32) (v2 : Int32) (S : St), WT (kDn K) S.2.2 → JX K (Zm K (fun v : Int32 => some (.int v))) 29 [some (.ref v0), some (.int v1), some (.int v2)] [] (rwN (kN K) S) (kn K) 0 0 (b_X9_months_29 fu v0 v1 v2 S) := by
  intro fu
  induction fu with
  | zero => intro v0 kv0 v1 v2 S w; exact J_none
  | succ fu ih =>
    intro v0 kv0 v1 v2 S w
    rw [b_X9_months_29]
    refine J_iload_n X dX9_months_29 (i := 2) rfl rfl ?_
    refine J_iload_n X dX9_months_30 (i := 1) rfl rfl ?_
    refine J_icmp_ge X (tgt := 56) dX9_months_31 (by decide) ?_ ?_
    · refine J_aload_n X dX9_months_56 (i := 0) rfl rfl ?_
      refine T_getR X (kf := 5) cb9 kv0 (by decide) fl_X9_35 (fun _ _ _ => rfl) dX9_months_57 ?_
      refine T_getI X (kf := 1) cb5 (w.1 _ _ kv0 5 _ rfl) (by decide) fl_X9_185 (fun _ _ _ => rfl) dX9_months_60 ?_
      exact T_iret w X dX9_months_63
    · refine J_aload_n X dX9_months_34 (i := 0) rfl rfl ?_
      refine T_getR X (kf := 7) cb9 kv0 (by decide) fl_X9_47 (fun _ _ _ => rfl) dX9_months_35 ?_
      refine J_iconst X (v := (0 : Int32)) dX9_months_38 (by decide) ?_
      refine J_aload_n X dX9_months_39 (i := 0) rfl rfl ?_
      refine T_getR X (kf := 3) cb9 kv0 (by decide) fl_X9_16 (fun _ _ _ => rfl) dX9_months_40 ?_
      refine T_getI X (kf := 1) cb0 (w.1 _ _ kv0 3 _ rfl) (by decide) fl_X9_115 (fun _ _ _ => rfl) dX9_months_43 ?_
      refine J_iconst X (v := (1 : Int32)) dX9_months_46 (by decide) ?_
      refine T_callV (As := [.int (0 : Int32), .int (S.1 (S.2.2 v0 3) 1), .int (1 : Int32)]) w X (C_X8_goMonth (kG K) (S.2.2 v0 7) (w.1 _ _ kv0 7 _ rfl) (0 : Int32) (S.1 (S.2.2 v0 3) 1) (1 : Int32) S) cb8 (w.1 _ _ kv0 7 _ rfl) ml_X9_227 in_yX8_goMonth se_yX8_goMonth ii_RX8 co_yX8_goMonth hy_X8_goMonth (hRd hR (by decide) (by decide)) rfl (Nat.le_of_ble_eq_true rfl) dX9_months_47 (fun _ S1 _ wS1 => ?_)
      refine J_nmv (v2 + (1 : Int32)) (fun x3 ex3 => ?_)
      refine J_iinc X (v := x3) (ls' := [some (.ref v0), some (.int v1), some (.int x3)]) dX9_months_50 (by decide) rfl (by rw [ex3]; rfl) rfl ?_
      refine J_goto X (tgt := 29) dX9_months_53 (by decide) ?_
      exact ih v0 kv0 v1 x3 S1 wS1
set_option maxRecDepth 20000 in
def b_X9_months_27 (v0 : Nat) (v1 : Int32) (S : St) : Option (Int32 × St) := b_X9_months_29 FU v0 v1 (0 : Int32) S
set_option maxRecDepth 20000 in
theorem t_X9_months_27 {K : KK} (X : CX K cX9_months 3 RX9 (some .int)) (hR : kR K = rmD 6) (v0 : Nat) (kv0 : KA (kDn K) v0 (0, 9)) (v1 : Int32) (S : St) (w : WT (kDn K) S.2.2) : JX K (Zm K (fun v : Int32 => some (.int v))) 27 [some (.ref v0), some (.int v1), none] [] (rwN (kN K) S) (kn K) 0 0 (b_X9_months_27 v0 v1 S) := by
  unfold b_X9_months_27
  refine J_iconst X (v := (0 : Int32)) dX9_months_27 (by decide) ?_
  refine J_istore_n X (i := 2) (ls' := [some (.ref v0), some (.int v1), some (.int (0 : Int32))]) dX9_months_28 rfl (by decide) rfl ?_
  exact t_X9_months_29 X hR FU v0 kv0 v1 (0 : Int32) S w
set_option maxRecDepth 20000 in
def f_X9_months (v0 : Nat) (v1 : Int32) (S : St) : Option (Int32 × St) := bd (f_X9_isWithin v1 (0 : Int32) (60 : Int32) S) fun r2 S1 => if r2 = 0 then (some ((-1 : Int32), S1)) else (if v1 ≤ 0 then (b_X9_months_27 v0 v1 S1) else (bd (f_X1_keep (S1.2.2 v0 9) (S1.2.2 v0 5) S1) fun _ S3 => b_X9_months_27 v0 v1 S3))
set_option maxRecDepth 20000 in
theorem t_X9_months_0 {K : KK} (X : CX K cX9_months 3 RX9 (some .int)) (hR : kR K = rmD 6) (v0 : Nat) (kv0 : KA (kDn K) v0 (0, 9)) (v1 : Int32) (S : St) (w : WT (kDn K) S.2.2) : JX K (Zm K (fun v : Int32 => some (.int v))) 0 [some (.ref v0), some (.int v1), none] [] (rwN (kN K) S) (kn K) 0 0 (f_X9_months v0 v1 S) := by
  unfold f_X9_months
  refine J_iload_n X dX9_months_0 (i := 1) rfl rfl ?_
  refine J_iconst X (v := (0 : Int32)) dX9_months_1 (by decide) ?_
  refine J_bipush X (v := (60 : Int32)) dX9_months_2 (by decide) ?_
  refine T_callS (As := [.int v1, .int (0 : Int32), .int (60 : Int32)]) w X (C_X9_isWithin (kG K) v1 (0 : Int32) (60 : Int32) S) ml_X9_224 st_yX9_isWithin ii_RX9 co_yX9_isWithin hy_X9_isWithin (hRd hR (by decide) (by decide)) rfl (Nat.le_of_ble_eq_true rfl) dX9_months_4 (fun r2 S1 _ wS1 => ?_)
  refine J_if_ne X (tgt := 12) dX9_months_7 (by decide) ?_ ?_
  · refine J_iconst X (v := (-1 : Int32)) dX9_months_10 (by decide) ?_
    exact T_iret wS1 X dX9_months_11
  · refine J_iload_n X dX9_months_12 (i := 1) rfl rfl ?_
    refine J_if_le X (tgt := 27) dX9_months_13 (by decide) ?_ ?_
    · exact t_X9_months_27 X hR v0 kv0 v1 S1 wS1
    · refine J_aload_n X dX9_months_16 (i := 0) rfl rfl ?_
      refine T_getR X (kf := 9) cb9 kv0 (by decide) fl_X9_57 (fun _ _ _ => rfl) dX9_months_17 ?_
      refine J_aload_n X dX9_months_20 (i := 0) rfl rfl ?_
      refine T_getR X (kf := 5) cb9 kv0 (by decide) fl_X9_35 (fun _ _ _ => rfl) dX9_months_21 ?_
      refine T_callV (As := [.ref (S1.2.2 v0 5)]) wS1 X (C_X1_keep (kG K) (S1.2.2 v0 9) (wS1.1 _ _ kv0 9 _ rfl) (S1.2.2 v0 5) (wS1.1 _ _ kv0 5 _ rfl) S1) cb1 (wS1.1 _ _ kv0 9 _ rfl) ml_X9_221 in_yX1_keep se_yX1_keep ii_RX1 co_yX1_keep hy_X1_keep (hRd hR (by decide) (by decide)) rfl (Nat.le_of_ble_eq_true rfl) dX9_months_24 (fun _ S3 _ wS3 => ?_)
      exact t_X9_months_27 X hR v0 kv0 v1 S3 wS3
theorem C_X9_months (G : GG) (v0 : Nat) (kv0 : KA (gD G) v0 (0, 9)) (v1 : Int32) (S : St) : CM G yX9_months cX9_months 3 (some .int) 6 [.ref v0, .int v1] S (fun v : Int32 => some (.int v)) (f_X9_months v0 v1 S) :=
  CM_of (by decide) (Nat.le_of_ble_eq_true rfl) rfl (fun K hG X hR w => by subst hG; exact t_X9_months_0 X hR v0 kv0 v1 S w)
-- ==== X9_undo
theorem hy_X9_undo : yX9_undo.cls ≠ "java/lang/invoke/MethodHandle" ∧ yX9_undo.cls ≠ "java/lang/invoke/VarHandle" ∧ (parseMethodDescriptor yX9_undo.desc).map (fun d => d.parameters.length) = some 0 := by decide +kernel
set_option maxRecDepth 20000 in
def f_X9_undo (v0 : Nat) (S : St) : Option (Int32 × St) := bd (f_X1_takeBackInto (S.2.2 v0 9) (S.2.2 v0 5) S) fun r2 S1 => (gb r2).bind fun v => some (v, S1)
set_option maxRecDepth 20000 in
theorem t_X9_undo_0 {K : KK} (X : CX K cX9_undo 1 RX9 (some .boolean)) (hR : kR K = rmD 3) (v0 : Nat) (kv0 : KA (kDn K) v0 (0, 9)) (S : St) (w : WT (kDn K) S.2.2) : JX K (Zm K (fun v : Int32 => some (.int v))) 0 [some (.ref v0)] [] (rwN (kN K) S) (kn K) 0 0 (f_X9_undo v0 S) := by
  unfold f_X9_undo
  refine J_aload_n X dX9_undo_0 (i := 0) rfl rfl ?_
  refine T_getR X (kf := 9) cb9 kv0 (by decide) fl_X9_57 (fun _ _ _ => rfl) dX9_undo_1 ?_
  refine J_aload_n X dX9_undo_4 (i := 0) rfl rfl ?_
  refine T_getR X (kf := 5) cb9 kv0 (by decide) fl_X9_35 (fun _ _ _ => rfl) dX9_undo_5 ?_
  refine T_callV (As := [.ref (S.2.2 v0 5)]) w X (C_X1_takeBackInto (kG K) (S.2.2 v0 9) (w.1 _ _ kv0 9 _ rfl) (S.2.2 v0 5) (w.1 _ _ kv0 5 _ rfl) S) cb1 (w.1 _ _ kv0 9 _ rfl) ml_X9_231 in_yX1_takeBackInto se_yX1_takeBackInto ii_RX1 co_yX1_takeBackInto hy_X1_takeBackInto (hRd hR (by decide) (by decide)) rfl (Nat.le_of_ble_eq_true rfl) dX9_undo_8 (fun r2 S1 _ wS1 => ?_)
  exact T_gret wS1 X dX9_undo_11
theorem C_X9_undo (G : GG) (v0 : Nat) (kv0 : KA (gD G) v0 (0, 9)) (S : St) : CM G yX9_undo cX9_undo 1 (some .boolean) 3 [.ref v0] S (fun v : Int32 => some (.int v)) (f_X9_undo v0 S) :=
  CM_of (by decide) (Nat.le_of_ble_eq_true rfl) rfl (fun K hG X hR w => by subst hG; exact t_X9_undo_0 X hR v0 kv0 S w)
-- ==== X9_hold
theorem hy_X9_hold : yX9_hold.cls ≠ "java/lang/invoke/MethodHandle" ∧ yX9_hold.cls ≠ "java/lang/invoke/VarHandle" ∧ (parseMethodDescriptor yX9_hold.desc).map (fun d => d.parameters.length) = some 1 := by decide +kernel
set_option maxRecDepth 20000 in
def f_X9_hold (v0 : Nat) (v1 : Int32) (S : St) : Option (Int32 × St) := bd (f_X9_isWithin v1 (0 : Int32) (2 : Int32) S) fun r2 S1 => if r2 = 0 then (some ((0 : Int32), S1)) else ((ix v1 3).bind fun j3 => bd (f_X5_copyFrom (S1.2.2 (S1.2.2 v0 10) j3) (S1.2.2 v0 5) S1) fun _ S4 => nm (sI S4 v0 11 ((S4.1 v0 11) ||| ((1 : Int32) <<< (v1 &&& 31)))) fun S6 => some ((1 : Int32), S6))
set_option maxRecDepth 20000 in
theorem t_X9_hold_0 {K : KK} (X : CX K cX9_hold 2 RX9 (some .boolean)) (hR : kR K = rmD 2) (v0 : Nat) (kv0 : KA (kDn K) v0 (0, 9)) (v1 : Int32) (S : St) (w : WT (kDn K) S.2.2) : JX K (Zm K (fun v : Int32 => some (.int v))) 0 [some (.ref v0), some (.int v1)] [] (rwN (kN K) S) (kn K) 0 0 (f_X9_hold v0 v1 S) := by
  unfold f_X9_hold
  refine J_iload_n X dX9_hold_0 (i := 1) rfl rfl ?_
  refine J_iconst X (v := (0 : Int32)) dX9_hold_1 (by decide) ?_
  refine J_iconst X (v := (2 : Int32)) dX9_hold_2 (by decide) ?_
  refine T_callS (As := [.int v1, .int (0 : Int32), .int (2 : Int32)]) w X (C_X9_isWithin (kG K) v1 (0 : Int32) (2 : Int32) S) ml_X9_224 st_yX9_isWithin ii_RX9 co_yX9_isWithin hy_X9_isWithin (hRd hR (by decide) (by decide)) rfl (Nat.le_of_ble_eq_true rfl) dX9_hold_3 (fun r2 S1 _ wS1 => ?_)
  refine J_if_ne X (tgt := 11) dX9_hold_6 (by decide) ?_ ?_
  · refine J_iconst X (v := (0 : Int32)) dX9_hold_9 (by decide) ?_
    exact T_zret wS1 X (by decide) dX9_hold_10
  · refine J_aload_n X dX9_hold_11 (i := 0) rfl rfl ?_
    refine T_getR X (kf := 10) cb9 kv0 (by decide) fl_X9_61 (fun _ _ _ => rfl) dX9_hold_12 ?_
    refine J_iload_n X dX9_hold_15 (i := 1) rfl rfl ?_
    refine T_aald wS1 X (wS1.1 _ _ kv0 10 _ rfl) dX9_hold_16 (fun j3 kj3 => ?_)
    refine J_aload_n X dX9_hold_17 (i := 0) rfl rfl ?_
    refine T_getR X (kf := 5) cb9 kv0 (by decide) fl_X9_35 (fun _ _ _ => rfl) dX9_hold_18 ?_
    refine T_callV (As := [.ref (S1.2.2 v0 5)]) wS1 X (C_X5_copyFrom (kG K) (S1.2.2 (S1.2.2 v0 10) j3) kj3 (S1.2.2 v0 5) (wS1.1 _ _ kv0 5 _ rfl) S1) cb5 kj3 ml_X9_98 in_yX5_copyFrom se_yX5_copyFrom ii_RX5 co_yX5_copyFrom hy_X5_copyFrom (hRd hR (by decide) (by decide)) rfl (Nat.le_of_ble_eq_true rfl) dX9_hold_21 (fun _ S4 _ wS4 => ?_)
    refine J_aload_n X dX9_hold_24 (i := 0) rfl rfl ?_
    refine J_dup X dX9_hold_25 rfl ?_
    refine T_getI X (kf := 11) cb9 kv0 (by decide) fl_X9_105 (fun _ _ _ => rfl) dX9_hold_26 ?_
    refine J_iconst X (v := (1 : Int32)) dX9_hold_29 (by decide) ?_
    refine J_iload_n X dX9_hold_30 (i := 1) rfl rfl ?_
    refine J_ishl X dX9_hold_31 ?_
    refine J_ior X dX9_hold_32 ?_
    refine T_putI X (kf := 11) cb9 kv0 (by decide) fl_X9_105 (fun _ _ _ => rfl) rfl rfl rfl dX9_hold_33 (fun S6 hS6 => ?_)
    have wS6 : WT (kDn K) S6.2.2 := by rw [hS6]; exact wS4
    clear hS6
    refine J_iconst X (v := (1 : Int32)) dX9_hold_36 (by decide) ?_
    exact T_zret wS6 X (by decide) dX9_hold_37
theorem C_X9_hold (G : GG) (v0 : Nat) (kv0 : KA (gD G) v0 (0, 9)) (v1 : Int32) (S : St) : CM G yX9_hold cX9_hold 2 (some .boolean) 2 [.ref v0, .int v1] S (fun v : Int32 => some (.int v)) (f_X9_hold v0 v1 S) :=
  CM_of (by decide) (Nat.le_of_ble_eq_true rfl) rfl (fun K hG X hR w => by subst hG; exact t_X9_hold_0 X hR v0 kv0 v1 S w)
-- ==== X9_restore
theorem hy_X9_restore : yX9_restore.cls ≠ "java/lang/invoke/MethodHandle" ∧ yX9_restore.cls ≠ "java/lang/invoke/VarHandle" ∧ (parseMethodDescriptor yX9_restore.desc).map (fun d => d.parameters.length) = some 1 := by decide +kernel
set_option maxRecDepth 20000 in
def f_X9_restore (v0 : Nat) (v1 : Int32) (S : St) : Option (Int32 × St) := bd (f_X9_isWithin v1 (0 : Int32) (2 : Int32) S) fun r2 S1 => if r2 = 0 then (some ((0 : Int32), S1)) else (if (((S1.1 v0 11) >>> (v1 &&& 31)) &&& (1 : Int32)) = 0 then (some ((0 : Int32), S1)) else ((ix v1 3).bind fun j3 => bd (f_X5_copyFrom (S1.2.2 v0 5) (S1.2.2 (S1.2.2 v0 10) j3) S1) fun _ S4 => bd (f_X1_clearAll (S4.2.2 v0 9) S4) fun _ S6 => some ((1 : Int32), S6)))
set_option maxRecDepth 20000 in
theorem t_X9_restore_0 {K : KK} (X : CX K cX9_restore 2 RX9 (some .boolean)) (hR : kR K = rmD 2) (v0 : Nat) (kv0 : KA (kDn K) v0 (0, 9)) (v1 : Int32) (S : St) (w : WT (kDn K) S.2.2) : JX K (Zm K (fun v : Int32 => some (.int v))) 0 [some (.ref v0), some (.int v1)] [] (rwN (kN K) S) (kn K) 0 0 (f_X9_restore v0 v1 S) := by
  unfold f_X9_restore
  refine J_iload_n X dX9_restore_0 (i := 1) rfl rfl ?_
  refine J_iconst X (v := (0 : Int32)) dX9_restore_1 (by decide) ?_
  refine J_iconst X (v := (2 : Int32)) dX9_restore_2 (by decide) ?_
  refine T_callS (As := [.int v1, .int (0 : Int32), .int (2 : Int32)]) w X (C_X9_isWithin (kG K) v1 (0 : Int32) (2 : Int32) S) ml_X9_224 st_yX9_isWithin ii_RX9 co_yX9_isWithin hy_X9_isWithin (hRd hR (by decide) (by decide)) rfl (Nat.le_of_ble_eq_true rfl) dX9_restore_3 (fun r2 S1 _ wS1 => ?_)
  refine J_if_eq X (tgt := 20) dX9_restore_6 (by decide) ?_ ?_
  · refine J_iconst X (v := (0 : Int32)) dX9_restore_20 (by decide) ?_
    exact T_zret wS1 X (by decide) dX9_restore_21
  · refine J_aload_n X dX9_restore_9 (i := 0) rfl rfl ?_
    refine T_getI X (kf := 11) cb9 kv0 (by decide) fl_X9_105 (fun _ _ _ => rfl) dX9_restore_10 ?_
    refine J_iload_n X dX9_restore_13 (i := 1) rfl rfl ?_
    refine J_ishr X dX9_restore_14 ?_
    refine J_iconst X (v := (1 : Int32)) dX9_restore_15 (by decide) ?_
    refine J_iand X dX9_restore_16 ?_
    refine J_if_ne X (tgt := 22) dX9_restore_17 (by decide) ?_ ?_
    · refine J_iconst X (v := (0 : Int32)) dX9_restore_20 (by decide) ?_
      exact T_zret wS1 X (by decide) dX9_restore_21
    · refine J_aload_n X dX9_restore_22 (i := 0) rfl rfl ?_
      refine T_getR X (kf := 5) cb9 kv0 (by decide) fl_X9_35 (fun _ _ _ => rfl) dX9_restore_23 ?_
      refine J_aload_n X dX9_restore_26 (i := 0) rfl rfl ?_
      refine T_getR X (kf := 10) cb9 kv0 (by decide) fl_X9_61 (fun _ _ _ => rfl) dX9_restore_27 ?_
      refine J_iload_n X dX9_restore_30 (i := 1) rfl rfl ?_
      refine T_aald wS1 X (wS1.1 _ _ kv0 10 _ rfl) dX9_restore_31 (fun j3 kj3 => ?_)
      refine T_callV (As := [.ref (S1.2.2 (S1.2.2 v0 10) j3)]) wS1 X (C_X5_copyFrom (kG K) (S1.2.2 v0 5) (wS1.1 _ _ kv0 5 _ rfl) (S1.2.2 (S1.2.2 v0 10) j3) kj3 S1) cb5 (wS1.1 _ _ kv0 5 _ rfl) ml_X9_98 in_yX5_copyFrom se_yX5_copyFrom ii_RX5 co_yX5_copyFrom hy_X5_copyFrom (hRd hR (by decide) (by decide)) rfl (Nat.le_of_ble_eq_true rfl) dX9_restore_32 (fun _ S4 _ wS4 => ?_)
      refine J_aload_n X dX9_restore_35 (i := 0) rfl rfl ?_
      refine T_getR X (kf := 9) cb9 kv0 (by decide) fl_X9_57 (fun _ _ _ => rfl) dX9_restore_36 ?_
      refine T_callV (As := []) wS4 X (C_X1_clearAll (kG K) (S4.2.2 v0 9) (wS4.1 _ _ kv0 9 _ rfl) S4) cb1 (wS4.1 _ _ kv0 9 _ rfl) ml_X9_102 in_yX1_clearAll se_yX1_clearAll ii_RX1 co_yX1_clearAll hy_X1_clearAll (hRd hR (by decide) (by decide)) rfl (Nat.le_of_ble_eq_true rfl) dX9_restore_39 (fun _ S6 _ wS6 => ?_)
      refine J_iconst X (v := (1 : Int32)) dX9_restore_42 (by decide) ?_
      exact T_zret wS6 X (by decide) dX9_restore_43
theorem C_X9_restore (G : GG) (v0 : Nat) (kv0 : KA (gD G) v0 (0, 9)) (v1 : Int32) (S : St) : CM G yX9_restore cX9_restore 2 (some .boolean) 2 [.ref v0, .int v1] S (fun v : Int32 => some (.int v)) (f_X9_restore v0 v1 S) :=
  CM_of (by decide) (Nat.le_of_ble_eq_true rfl) rfl (fun K hG X hR w => by subst hG; exact t_X9_restore_0 X hR v0 kv0 v1 S w)
-- ==== X9_then
theorem hy_X9_then : yX9_then.cls ≠ "java/lang/invoke/MethodHandle" ∧ yX9_then.cls ≠ "java/lang/invoke/VarHandle" ∧ (parseMethodDescriptor yX9_then.desc).map (fun d => d.parameters.length) = some 3 := by decide +kernel
set_option maxRecDepth 20000 in
def b_X9_then_43 : Nat → Nat → Int32 → Int32 → Int32 → Int32 → St → Option (Int32 × St)
  | 0, _, _, _, _, _, _ => none
  | fu + 1, v0, v1, v2, v3, v4, S => if v2 ≤ v4 then (if v3 = 0 then ((ix ((16 : Int32) + v1) 36).bind fun j1 => some (S.1 (S.2.2 (S.2.2 v0 6) 0) j1, S)) else (if v3 = (1 : Int32) then ((ix ((22 : Int32) + v1) 36).bind fun j2 => some (S.1 (S.2.2 (S.2.2 v0 6) 0) j2, S)) else (bd (f_X5_isOff (S.2.2 v0 6) v1 S) fun r4 S3 => if r4 = 0 then (some ((0 : Int32), S3)) else (some ((1 : Int32), S3))))) else (bd (f_X8_goMonth (S.2.2 v0 8) v1 (v1 + (1 : Int32)) (1 : Int32) S) fun _ S5 => nm (v4 + (1 : Int32)) fun x7 => b_X9_then_43 fu v0 v1 v2 v3 x7 S5)
set_option maxRecDepth 20000 in
theorem t_X9_then_43 {K : KK} (X : CX K cX9_then 5 RX9 (some .int)) (hR : kR K = rmD 6) : ∀ (fu : Nat) (v0 : Nat) (kv0 : KA (kDn K) v0 (0, 9)) (v1 : Int32) (v2 : Int32) (v3 : Int32) (v4 : Int32) (S : St), WT (kDn K) S.2.2 → JX K (Zm K (fun v : Int32 => some (.int v))) 43 [some (.ref v0), some (.int v1), some (.int v2), some (.int v3), some (.int v4)] [] (rwN (kN K) S) (kn K) 0 0 (b_X9_then_43 fu v0 v1 v2 v3 v4 S) := by
  intro fu
  induction fu with
  | zero => intro v0 kv0 v1 v2 v3 v4 S w; exact J_none
  | succ fu ih =>
    intro v0 kv0 v1 v2 v3 v4 S w
    rw [b_X9_then_43]
    refine J_iload X dX9_then_43 rfl ?_
    refine J_iload_n X dX9_then_45 (i := 2) rfl rfl ?_
    refine J_icmp_ge X (tgt := 67) dX9_then_46 (by decide) ?_ ?_
    · refine J_iload_n X dX9_then_67 (i := 3) rfl rfl ?_
      refine J_if_ne X (tgt := 84) dX9_then_68 (by decide) ?_ ?_
      · refine J_aload_n X dX9_then_71 (i := 0) rfl rfl ?_
        refine T_getR X (kf := 6) cb9 kv0 (by decide) fl_X9_39 (fun _ _ _ => rfl) dX9_then_72 ?_
        refine T_getR X (kf := 0) cb5 (w.1 _ _ kv0 6 _ rfl) (by decide) fl_X9_125 (fun _ _ _ => rfl) dX9_then_75 ?_
        refine J_bipush X (v := (16 : Int32)) dX9_then_78 (by decide) ?_
        refine J_iload_n X dX9_then_80 (i := 1) rfl rfl ?_
        refine J_iadd X dX9_then_81 ?_
        refine T_iald X (w.1 _ _ (w.1 _ _ kv0 6 _ rfl) 0 _ rfl) dX9_then_82 (fun j1 => ?_)
        exact T_iret w X dX9_then_83
      · refine J_iload_n X dX9_then_84 (i := 3) rfl rfl ?_
        refine J_iconst X (v := (1 : Int32)) dX9_then_85 (by decide) ?_
        refine J_icmp_ne X (tgt := 102) dX9_then_86 (by decide) ?_ ?_
        · refine J_aload_n X dX9_then_89 (i := 0) rfl rfl ?_
          refine T_getR X (kf := 6) cb9 kv0 (by decide) fl_X9_39 (fun _ _ _ => rfl) dX9_then_90 ?_
          refine T_getR X (kf := 0) cb5 (w.1 _ _ kv0 6 _ rfl) (by decide) fl_X9_125 (fun _ _ _ => rfl) dX9_then_93 ?_
          refine J_bipush X (v := (22 : Int32)) dX9_then_96 (by decide) ?_
          refine J_iload_n X dX9_then_98 (i := 1) rfl rfl ?_
          refine J_iadd X dX9_then_99 ?_
          refine T_iald X (w.1 _ _ (w.1 _ _ kv0 6 _ rfl) 0 _ rfl) dX9_then_100 (fun j2 => ?_)
          exact T_iret w X dX9_then_101
        · refine J_aload_n X dX9_then_102 (i := 0) rfl rfl ?_
          refine T_getR X (kf := 6) cb9 kv0 (by decide) fl_X9_39 (fun _ _ _ => rfl) dX9_then_103 ?_
          refine J_iload_n X dX9_then_106 (i := 1) rfl rfl ?_
          refine T_callV (As := [.int v1]) w X (C_X5_isOff (kG K) (S.2.2 v0 6) (w.1 _ _ kv0 6 _ rfl) v1 S) cb5 (w.1 _ _ kv0 6 _ rfl) ml_X9_139 in_yX5_isOff se_yX5_isOff ii_RX5 co_yX5_isOff hy_X5_isOff (hRd hR (by decide) (by decide)) rfl (Nat.le_of_ble_eq_true rfl) dX9_then_107 (fun r4 S3 _ wS3 => ?_)
          refine J_if_eq X (tgt := 117) dX9_then_110 (by decide) ?_ ?_
          · refine J_iconst X (v := (0 : Int32)) dX9_then_117 (by decide) ?_
            exact T_iret wS3 X dX9_then_118
          · refine J_iconst X (v := (1 : Int32)) dX9_then_113 (by decide) ?_
            refine J_goto X (tgt := 118) dX9_then_114 (by decide) ?_
            exact T_iret wS3 X dX9_then_118
    · refine J_aload_n X dX9_then_49 (i := 0) rfl rfl ?_
      refine T_getR X (kf := 8) cb9 kv0 (by decide) fl_X9_51 (fun _ _ _ => rfl) dX9_then_50 ?_
      refine J_iload_n X dX9_then_53 (i := 1) rfl rfl ?_
      refine J_iload_n X dX9_then_54 (i := 1) rfl rfl ?_
      refine J_iconst X (v := (1 : Int32)) dX9_then_55 (by decide) ?_
      refine J_iadd X dX9_then_56 ?_
      refine J_iconst X (v := (1 : Int32)) dX9_then_57 (by decide) ?_
      refine T_callV (As := [.int v1, .int (v1 + (1 : Int32)), .int (1 : Int32)]) w X (C_X8_goMonth (kG K) (S.2.2 v0 8) (w.1 _ _ kv0 8 _ rfl) v1 (v1 + (1 : Int32)) (1 : Int32) S) cb8 (w.1 _ _ kv0 8 _ rfl) ml_X9_227 in_yX8_goMonth se_yX8_goMonth ii_RX8 co_yX8_goMonth hy_X8_goMonth (hRd hR (by decide) (by decide)) rfl (Nat.le_of_ble_eq_true rfl) dX9_then_58 (fun _ S5 _ wS5 => ?_)
      refine J_nmv (v4 + (1 : Int32)) (fun x7 ex7 => ?_)
      refine J_iinc X (v := x7) (ls' := [some (.ref v0), some (.int v1), some (.int v2), some (.int v3), some (.int x7)]) dX9_then_61 (by decide) rfl (by rw [ex7]; rfl) rfl ?_
      refine J_goto X (tgt := 43) dX9_then_64 (by decide) ?_
      exact ih v0 kv0 v1 v2 v3 x7 S5 wS5
set_option maxRecDepth 20000 in
def f_X9_then (v0 : Nat) (v1 : Int32) (v2 : Int32) (v3 : Int32) (S : St) : Option (Int32 × St) := bd (f_X9_isPerson v0 v1 S) fun r2 S1 => if r2 = 0 then (some ((-1 : Int32), S1)) else (bd (f_X9_isWithin v2 (0 : Int32) (60 : Int32) S1) fun r4 S3 => if r4 = 0 then (some ((-1 : Int32), S3)) else (bd (f_X9_isWithin v3 (0 : Int32) (2 : Int32) S3) fun r6 S5 => if r6 = 0 then (some ((-1 : Int32), S5)) else (bd (f_X5_copyFrom (S5.2.2 v0 6) (S5.2.2 v0 5) S5) fun _ S7 => b_X9_then_43 FU v0 v1 v2 v3 (0 : Int32) S7)))
set_option maxRecDepth 20000 in
theorem t_X9_then_0 {K : KK} (X : CX K cX9_then 5 RX9 (some .int)) (hR : kR K = rmD 6) (v0 : Nat) (kv0 : KA (kDn K) v0 (0, 9)) (v1 : Int32) (v2 : Int32) (v3 : Int32) (S : St) (w : WT (kDn K) S.2.2) : JX K (Zm K (fun v : Int32 => some (.int v))) 0 [some (.ref v0), some (.int v1), some (.int v2), some (.int v3), none] [] (rwN (kN K) S) (kn K) 0 0 (f_X9_then v0 v1 v2 v3 S) := by
  unfold f_X9_then
  refine J_aload_n X dX9_then_0 (i := 0) rfl rfl ?_
  refine J_iload_n X dX9_then_1 (i := 1) rfl rfl ?_
  refine T_callV (As := [.int v1]) w X (C_X9_isPerson (kG K) v0 kv0 v1 S) cb9 kv0 ml_X9_132 in_yX9_isPerson se_yX9_isPerson ii_RX9 co_yX9_isPerson hy_X9_isPerson (hRd hR (by decide) (by decide)) rfl (Nat.le_of_ble_eq_true rfl) dX9_then_2 (fun r2 S1 _ wS1 => ?_)
  refine J_if_eq X (tgt := 27) dX9_then_5 (by decide) ?_ ?_
  · refine J_iconst X (v := (-1 : Int32)) dX9_then_27 (by decide) ?_
    exact T_iret wS1 X dX9_then_28
  · refine J_iload_n X dX9_then_8 (i := 2) rfl rfl ?_
    refine J_iconst X (v := (0 : Int32)) dX9_then_9 (by decide) ?_
    refine J_bipush X (v := (60 : Int32)) dX9_then_10 (by decide) ?_
    refine T_callS (As := [.int v2, .int (0 : Int32), .int (60 : Int32)]) wS1 X (C_X9_isWithin (kG K) v2 (0 : Int32) (60 : Int32) S1) ml_X9_224 st_yX9_isWithin ii_RX9 co_yX9_isWithin hy_X9_isWithin (hRd hR (by decide) (by decide)) rfl (Nat.le_of_ble_eq_true rfl) dX9_then_12 (fun r4 S3 _ wS3 => ?_)
    refine J_if_eq X (tgt := 27) dX9_then_15 (by decide) ?_ ?_
    · refine J_iconst X (v := (-1 : Int32)) dX9_then_27 (by decide) ?_
      exact T_iret wS3 X dX9_then_28
    · refine J_iload_n X dX9_then_18 (i := 3) rfl rfl ?_
      refine J_iconst X (v := (0 : Int32)) dX9_then_19 (by decide) ?_
      refine J_iconst X (v := (2 : Int32)) dX9_then_20 (by decide) ?_
      refine T_callS (As := [.int v3, .int (0 : Int32), .int (2 : Int32)]) wS3 X (C_X9_isWithin (kG K) v3 (0 : Int32) (2 : Int32) S3) ml_X9_224 st_yX9_isWithin ii_RX9 co_yX9_isWithin hy_X9_isWithin (hRd hR (by decide) (by decide)) rfl (Nat.le_of_ble_eq_true rfl) dX9_then_21 (fun r6 S5 _ wS5 => ?_)
      refine J_if_ne X (tgt := 29) dX9_then_24 (by decide) ?_ ?_
      · refine J_iconst X (v := (-1 : Int32)) dX9_then_27 (by decide) ?_
        exact T_iret wS5 X dX9_then_28
      · refine J_aload_n X dX9_then_29 (i := 0) rfl rfl ?_
        refine T_getR X (kf := 6) cb9 kv0 (by decide) fl_X9_39 (fun _ _ _ => rfl) dX9_then_30 ?_
        refine J_aload_n X dX9_then_33 (i := 0) rfl rfl ?_
        refine T_getR X (kf := 5) cb9 kv0 (by decide) fl_X9_35 (fun _ _ _ => rfl) dX9_then_34 ?_
        refine T_callV (As := [.ref (S5.2.2 v0 5)]) wS5 X (C_X5_copyFrom (kG K) (S5.2.2 v0 6) (wS5.1 _ _ kv0 6 _ rfl) (S5.2.2 v0 5) (wS5.1 _ _ kv0 5 _ rfl) S5) cb5 (wS5.1 _ _ kv0 6 _ rfl) ml_X9_98 in_yX5_copyFrom se_yX5_copyFrom ii_RX5 co_yX5_copyFrom hy_X5_copyFrom (hRd hR (by decide) (by decide)) rfl (Nat.le_of_ble_eq_true rfl) dX9_then_37 (fun _ S7 _ wS7 => ?_)
        refine J_iconst X (v := (0 : Int32)) dX9_then_40 (by decide) ?_
        refine J_istore X (ls' := [some (.ref v0), some (.int v1), some (.int v2), some (.int v3), some (.int (0 : Int32))]) dX9_then_41 (by decide) rfl ?_
        exact t_X9_then_43 X hR FU v0 kv0 v1 v2 v3 (0 : Int32) S7 wS7
theorem C_X9_then (G : GG) (v0 : Nat) (kv0 : KA (gD G) v0 (0, 9)) (v1 : Int32) (v2 : Int32) (v3 : Int32) (S : St) : CM G yX9_then cX9_then 5 (some .int) 6 [.ref v0, .int v1, .int v2, .int v3] S (fun v : Int32 => some (.int v)) (f_X9_then v0 v1 v2 v3 S) :=
  CM_of (by decide) (Nat.le_of_ble_eq_true rfl) rfl (fun K hG X hR w => by subst hG; exact t_X9_then_0 X hR v0 kv0 v1 v2 v3 S w)
-- ==== X9_swims
theorem hy_X9_swims : yX9_swims.cls ≠ "java/lang/invoke/MethodHandle" ∧ yX9_swims.cls ≠ "java/lang/invoke/VarHandle" ∧ (parseMethodDescriptor yX9_swims.desc).map (fun d => d.parameters.length) = some 3 := by decide +kernel
set_option maxRecDepth 20000 in
def b_X9_swims_79 (v1 : Int32) (s0 : Nat) (s1 : Int32) (S : St) : Option (Int32 × St) := (ix (s1 + v1) 36).bind fun j1 => some (S.1 s0 j1, S)
set_option maxRecDepth 20000 in
theorem t_X9_swims_79 {K : KK} (X : CX K cX9_swims 5 RX9 (some .int)) (hR : kR K = rmD 2) (v1 : Int32) (s0 : Nat) (ks0 : KA (kDn K) s0 (1, 36)) (s1 : Int32) (S : St) (w : WT (kDn K) S.2.2) : JX K (Zm K (fun v : Int32 => some (.int v))) 79 [none, some (.int v1), none, none, none] [.int s1, .ref s0] (rwN (kN K) S) (kn K) 0 0 (b_X9_swims_79 v1 s0 s1 S) := by
  unfold b_X9_swims_79
  refine J_iload_n X dX9_swims_79 (i := 1) rfl rfl ?_
  refine J_iadd X dX9_swims_80 ?_
  refine T_iald X ks0 dX9_swims_81 (fun j1 => ?_)
  exact T_iret w X dX9_swims_82
set_option maxRecDepth 20000 in
def b_X9_swims_43 : Nat → Nat → Int32 → Int32 → Int32 → Int32 → St → Option (Int32 × St)
  | 0, _, _, _, _, _, _ => none
  | fu + 1, v0, v1, v2, v3, v4, S => if v2 ≤ v4 then (if v3 = 0 then (b_X9_swims_79 v1 (S.2.2 (S.2.2 v0 6) 0) (0 : Int32) S) else (b_X9_swims_79 v1 (S.2.2 (S.2.2 v0 6) 0) (4 : Int32) S)) else (bd (f_X5_swim (S.2.2 v0 6) v1 S) fun _ S1 => nm (v4 + (1 : Int32)) fun x3 => b_X9_swims_43 fu v0 v1 v2 v3 x3 S1)
set_option maxRecDepth 20000 in
theorem t_X9_swims_43 {K : KK} (X : CX K cX9_swims 5 RX9 (some .int)) (hR : kR K = rmD 2) : ∀ (fu : Nat) (v0 : Nat) (kv0 : KA (kDn K) v0 (0, 9)) (v1 : Int32) (v2 : Int32) (v3 : Int32) (v4 : Int32) (S : St), WT (kDn K) S.2.2 → JX K (Zm K (fun v : Int32 => some (.int v))) 43 [some (.ref v0), some (.int v1), some (.int v2), some (.int v3), some (.int v4)] [] (rwN (kN K) S) (kn K) 0 0 (b_X9_swims_43 fu v0 v1 v2 v3 v4 S) := by
  intro fu
  induction fu with
  | zero => intro v0 kv0 v1 v2 v3 v4 S w; exact J_none
  | succ fu ih =>
    intro v0 kv0 v1 v2 v3 v4 S w
    rw [b_X9_swims_43]
    refine J_iload X dX9_swims_43 rfl ?_
    refine J_iload_n X dX9_swims_45 (i := 2) rfl rfl ?_
    refine J_icmp_ge X (tgt := 63) dX9_swims_46 (by decide) ?_ ?_
    · refine J_aload_n X dX9_swims_63 (i := 0) rfl rfl ?_
      refine T_getR X (kf := 6) cb9 kv0 (by decide) fl_X9_39 (fun _ _ _ => rfl) dX9_swims_64 ?_
      refine T_getR X (kf := 0) cb5 (w.1 _ _ kv0 6 _ rfl) (by decide) fl_X9_125 (fun _ _ _ => rfl) dX9_swims_67 ?_
      refine J_iload_n X dX9_swims_70 (i := 3) rfl rfl ?_
      refine J_if_ne X (tgt := 78) dX9_swims_71 (by decide) ?_ ?_
      · refine J_iconst X (v := (0 : Int32)) dX9_swims_74 (by decide) ?_
        refine J_goto X (tgt := 79) dX9_swims_75 (by decide) ?_
        refine J_mask [false, true, false, false, false] ?_
        exact t_X9_swims_79 X hR v1 (S.2.2 (S.2.2 v0 6) 0) (w.1 _ _ (w.1 _ _ kv0 6 _ rfl) 0 _ rfl) (0 : Int32) S w
      · refine J_iconst X (v := (4 : Int32)) dX9_swims_78 (by decide) ?_
        refine J_mask [false, true, false, false, false] ?_
        exact t_X9_swims_79 X hR v1 (S.2.2 (S.2.2 v0 6) 0) (w.1 _ _ (w.1 _ _ kv0 6 _ rfl) 0 _ rfl) (4 : Int32) S w
    · refine J_aload_n X dX9_swims_49 (i := 0) rfl rfl ?_
      refine T_getR X (kf := 6) cb9 kv0 (by decide) fl_X9_39 (fun _ _ _ => rfl) dX9_swims_50 ?_
      refine J_iload_n X dX9_swims_53 (i := 1) rfl rfl ?_
      refine T_callV (As := [.int v1]) w X (C_X5_swim (kG K) (S.2.2 v0 6) (w.1 _ _ kv0 6 _ rfl) v1 S) cb5 (w.1 _ _ kv0 6 _ rfl) ml_X9_235 in_yX5_swim se_yX5_swim ii_RX5 co_yX5_swim hy_X5_swim (hRd hR (by decide) (by decide)) rfl (Nat.le_of_ble_eq_true rfl) dX9_swims_54 (fun _ S1 _ wS1 => ?_)
      refine J_nmv (v4 + (1 : Int32)) (fun x3 ex3 => ?_)
      refine J_iinc X (v := x3) (ls' := [some (.ref v0), some (.int v1), some (.int v2), some (.int v3), some (.int x3)]) dX9_swims_57 (by decide) rfl (by rw [ex3]; rfl) rfl ?_
      refine J_goto X (tgt := 43) dX9_swims_60 (by decide) ?_
      exact ih v0 kv0 v1 v2 v3 x3 S1 wS1
set_option maxRecDepth 20000 in
def f_X9_swims (v0 : Nat) (v1 : Int32) (v2 : Int32) (v3 : Int32) (S : St) : Option (Int32 × St) := bd (f_X9_isMermaid v0 v1 S) fun r2 S1 => if r2 = 0 then (some ((-1 : Int32), S1)) else (bd (f_X9_isWithin v2 (0 : Int32) (60 : Int32) S1) fun r4 S3 => if r4 = 0 then (some ((-1 : Int32), S3)) else (bd (f_X9_isWithin v3 (0 : Int32) (1 : Int32) S3) fun r6 S5 => if r6 = 0 then (some ((-1 : Int32), S5)) else (bd (f_X5_copyFrom (S5.2.2 v0 6) (S5.2.2 v0 5) S5) fun _ S7 => b_X9_swims_43 FU v0 v1 v2 v3 (0 : Int32) S7)))
set_option maxRecDepth 20000 in
theorem t_X9_swims_0 {K : KK} (X : CX K cX9_swims 5 RX9 (some .int)) (hR : kR K = rmD 2) (v0 : Nat) (kv0 : KA (kDn K) v0 (0, 9)) (v1 : Int32) (v2 : Int32) (v3 : Int32) (S : St) (w : WT (kDn K) S.2.2) : JX K (Zm K (fun v : Int32 => some (.int v))) 0 [some (.ref v0), some (.int v1), some (.int v2), some (.int v3), none] [] (rwN (kN K) S) (kn K) 0 0 (f_X9_swims v0 v1 v2 v3 S) := by
  unfold f_X9_swims
  refine J_aload_n X dX9_swims_0 (i := 0) rfl rfl ?_
  refine J_iload_n X dX9_swims_1 (i := 1) rfl rfl ?_
  refine T_callV (As := [.int v1]) w X (C_X9_isMermaid (kG K) v0 kv0 v1 S) cb9 kv0 ml_X9_121 in_yX9_isMermaid se_yX9_isMermaid ii_RX9 co_yX9_isMermaid hy_X9_isMermaid (hRd hR (by decide) (by decide)) rfl (Nat.le_of_ble_eq_true rfl) dX9_swims_2 (fun r2 S1 _ wS1 => ?_)
  refine J_if_eq X (tgt := 27) dX9_swims_5 (by decide) ?_ ?_
  · refine J_iconst X (v := (-1 : Int32)) dX9_swims_27 (by decide) ?_
    exact T_iret wS1 X dX9_swims_28
  · refine J_iload_n X dX9_swims_8 (i := 2) rfl rfl ?_
    refine J_iconst X (v := (0 : Int32)) dX9_swims_9 (by decide) ?_
    refine J_bipush X (v := (60 : Int32)) dX9_swims_10 (by decide) ?_
    refine T_callS (As := [.int v2, .int (0 : Int32), .int (60 : Int32)]) wS1 X (C_X9_isWithin (kG K) v2 (0 : Int32) (60 : Int32) S1) ml_X9_224 st_yX9_isWithin ii_RX9 co_yX9_isWithin hy_X9_isWithin (hRd hR (by decide) (by decide)) rfl (Nat.le_of_ble_eq_true rfl) dX9_swims_12 (fun r4 S3 _ wS3 => ?_)
    refine J_if_eq X (tgt := 27) dX9_swims_15 (by decide) ?_ ?_
    · refine J_iconst X (v := (-1 : Int32)) dX9_swims_27 (by decide) ?_
      exact T_iret wS3 X dX9_swims_28
    · refine J_iload_n X dX9_swims_18 (i := 3) rfl rfl ?_
      refine J_iconst X (v := (0 : Int32)) dX9_swims_19 (by decide) ?_
      refine J_iconst X (v := (1 : Int32)) dX9_swims_20 (by decide) ?_
      refine T_callS (As := [.int v3, .int (0 : Int32), .int (1 : Int32)]) wS3 X (C_X9_isWithin (kG K) v3 (0 : Int32) (1 : Int32) S3) ml_X9_224 st_yX9_isWithin ii_RX9 co_yX9_isWithin hy_X9_isWithin (hRd hR (by decide) (by decide)) rfl (Nat.le_of_ble_eq_true rfl) dX9_swims_21 (fun r6 S5 _ wS5 => ?_)
      refine J_if_ne X (tgt := 29) dX9_swims_24 (by decide) ?_ ?_
      · refine J_iconst X (v := (-1 : Int32)) dX9_swims_27 (by decide) ?_
        exact T_iret wS5 X dX9_swims_28
      · refine J_aload_n X dX9_swims_29 (i := 0) rfl rfl ?_
        refine T_getR X (kf := 6) cb9 kv0 (by decide) fl_X9_39 (fun _ _ _ => rfl) dX9_swims_30 ?_
        refine J_aload_n X dX9_swims_33 (i := 0) rfl rfl ?_
        refine T_getR X (kf := 5) cb9 kv0 (by decide) fl_X9_35 (fun _ _ _ => rfl) dX9_swims_34 ?_
        refine T_callV (As := [.ref (S5.2.2 v0 5)]) wS5 X (C_X5_copyFrom (kG K) (S5.2.2 v0 6) (wS5.1 _ _ kv0 6 _ rfl) (S5.2.2 v0 5) (wS5.1 _ _ kv0 5 _ rfl) S5) cb5 (wS5.1 _ _ kv0 6 _ rfl) ml_X9_98 in_yX5_copyFrom se_yX5_copyFrom ii_RX5 co_yX5_copyFrom hy_X5_copyFrom (hRd hR (by decide) (by decide)) rfl (Nat.le_of_ble_eq_true rfl) dX9_swims_37 (fun _ S7 _ wS7 => ?_)
        refine J_iconst X (v := (0 : Int32)) dX9_swims_40 (by decide) ?_
        refine J_istore X (ls' := [some (.ref v0), some (.int v1), some (.int v2), some (.int v3), some (.int (0 : Int32))]) dX9_swims_41 (by decide) rfl ?_
        exact t_X9_swims_43 X hR FU v0 kv0 v1 v2 v3 (0 : Int32) S7 wS7
theorem C_X9_swims (G : GG) (v0 : Nat) (kv0 : KA (gD G) v0 (0, 9)) (v1 : Int32) (v2 : Int32) (v3 : Int32) (S : St) : CM G yX9_swims cX9_swims 5 (some .int) 2 [.ref v0, .int v1, .int v2, .int v3] S (fun v : Int32 => some (.int v)) (f_X9_swims v0 v1 v2 v3 S) :=
  CM_of (by decide) (Nat.le_of_ble_eq_true rfl) rfl (fun K hG X hR w => by subst hG; exact t_X9_swims_0 X hR v0 kv0 v1 v2 v3 S w)
-- ==== X9_lowestOf
theorem hy_X9_lowestOf : yX9_lowestOf.cls ≠ "java/lang/invoke/MethodHandle" ∧ yX9_lowestOf.cls ≠ "java/lang/invoke/VarHandle" ∧ (parseMethodDescriptor yX9_lowestOf.desc).map (fun d => d.parameters.length) = some 1 := by decide +kernel
set_option maxRecDepth 20000 in
def b_X9_lowestOf_2 : Nat → Int32 → Int32 → St → Option (Int32 × St)
  | 0, _, _, _ => none
  | fu + 1, v0, v1, S => if (6 : Int32) ≤ v1 then (some ((-1 : Int32), S)) else (if ((v0 >>> (v1 &&& 31)) &&& (1 : Int32)) = 0 then (nm (v1 + (1 : Int32)) fun x1 => b_X9_lowestOf_2 fu v0 x1 S) else (some (v1, S)))
set_option maxRecDepth 20000 in
theorem t_X9_lowestOf_2 {K : KK} (X : CX K cX9_lowestOf 2 RX9 (some .int)) (hR : kR K = rmD 0) : ∀ (fu : Nat) (v0 : Int32) (v1 : Int32) (S : St), WT (kDn K) S.2.2 → JX K (Zm K (fun v : Int32 => some (.int v))) 2 [some (.int v0), some (.int v1)] [] (rwN (kN K) S) (kn K) 0 0 (b_X9_lowestOf_2 fu v0 v1 S) := by
  intro fu
  induction fu with
  | zero => intro v0 v1 S w; exact J_none
  | succ fu ih =>
    intro v0 v1 S w
    rw [b_X9_lowestOf_2]
    refine J_iload_n X dX9_lowestOf_2 (i := 1) rfl rfl ?_
    refine J_bipush X (v := (6 : Int32)) dX9_lowestOf_3 (by decide) ?_
    refine J_icmp_ge X (tgt := 24) dX9_lowestOf_5 (by decide) ?_ ?_
    · refine J_iconst X (v := (-1 : Int32)) dX9_lowestOf_24 (by decide) ?_
      exact T_iret w X dX9_lowestOf_25
    · refine J_iload_n X dX9_lowestOf_8 (i := 0) rfl rfl ?_
      refine J_iload_n X dX9_lowestOf_9 (i := 1) rfl rfl ?_
      refine J_ishr X dX9_lowestOf_10 ?_
      refine J_iconst X (v := (1 : Int32)) dX9_lowestOf_11 (by decide) ?_
      refine J_iand X dX9_lowestOf_12 ?_
      refine J_if_eq X (tgt := 18) dX9_lowestOf_13 (by decide) ?_ ?_
      · refine J_nmv (v1 + (1 : Int32)) (fun x1 ex1 => ?_)
        refine J_iinc X (v := x1) (ls' := [some (.int v0), some (.int x1)]) dX9_lowestOf_18 (by decide) rfl (by rw [ex1]; rfl) rfl ?_
        refine J_goto X (tgt := 2) dX9_lowestOf_21 (by decide) ?_
        exact ih v0 x1 S w
      · refine J_iload_n X dX9_lowestOf_16 (i := 1) rfl rfl ?_
        exact T_iret w X dX9_lowestOf_17
set_option maxRecDepth 20000 in
def f_X9_lowestOf (v0 : Int32) (S : St) : Option (Int32 × St) := b_X9_lowestOf_2 FU v0 (0 : Int32) S
set_option maxRecDepth 20000 in
theorem t_X9_lowestOf_0 {K : KK} (X : CX K cX9_lowestOf 2 RX9 (some .int)) (hR : kR K = rmD 0) (v0 : Int32) (S : St) (w : WT (kDn K) S.2.2) : JX K (Zm K (fun v : Int32 => some (.int v))) 0 [some (.int v0), none] [] (rwN (kN K) S) (kn K) 0 0 (f_X9_lowestOf v0 S) := by
  unfold f_X9_lowestOf
  refine J_iconst X (v := (0 : Int32)) dX9_lowestOf_0 (by decide) ?_
  refine J_istore_n X (i := 1) (ls' := [some (.int v0), some (.int (0 : Int32))]) dX9_lowestOf_1 rfl (by decide) rfl ?_
  exact t_X9_lowestOf_2 X hR FU v0 (0 : Int32) S w
theorem C_X9_lowestOf (G : GG) (v0 : Int32) (S : St) : CM G yX9_lowestOf cX9_lowestOf 2 (some .int) 0 [.int v0] S (fun v : Int32 => some (.int v)) (f_X9_lowestOf v0 S) :=
  CM_of (by decide) (Nat.le_of_ble_eq_true rfl) rfl (fun K hG X hR w => by subst hG; exact t_X9_lowestOf_0 X hR v0 S w)
-- ==== X9_first
theorem hy_X9_first : yX9_first.cls ≠ "java/lang/invoke/MethodHandle" ∧ yX9_first.cls ≠ "java/lang/invoke/VarHandle" ∧ (parseMethodDescriptor yX9_first.desc).map (fun d => d.parameters.length) = some 1 := by decide +kernel
set_option maxRecDepth 20000 in
def f_X9_first (v0 : Nat) (v1 : Int32) (S : St) : Option (Int32 × St) := bd (f_X9_isWithin v1 (0 : Int32) (1 : Int32) S) fun r2 S1 => if r2 = 0 then (some ((-1 : Int32), S1)) else (bd (f_X5_copyFrom (S1.2.2 v0 6) (S1.2.2 v0 5) S1) fun _ S3 => bd (f_X8_goUntilFirst (S3.2.2 v0 8) S3) fun r6 S5 => if r6 = (101 : Int32) then (some ((-2 : Int32), S5)) else (if v1 = 0 then (some (r6, S5)) else (bd (f_X9_lowestOf ((S5.1 (S5.2.2 v0 6) 2) &&& ((S5.1 (S5.2.2 v0 5) 2) ^^^ (-1 : Int32))) S5) fun r8 S7 => some (r8, S7))))
set_option maxRecDepth 20000 in
theorem t_X9_first_0 {K : KK} (X : CX K cX9_first 3 RX9 (some .int)) (hR : kR K = rmD 7) (v0 : Nat) (kv0 : KA (kDn K) v0 (0, 9)) (v1 : Int32) (S : St) (w : WT (kDn K) S.2.2) : JX K (Zm K (fun v : Int32 => some (.int v))) 0 [some (.ref v0), some (.int v1), none] [] (rwN (kN K) S) (kn K) 0 0 (f_X9_first v0 v1 S) := by
  unfold f_X9_first
  refine J_iload_n X dX9_first_0 (i := 1) rfl rfl ?_
  refine J_iconst X (v := (0 : Int32)) dX9_first_1 (by decide) ?_
  refine J_iconst X (v := (1 : Int32)) dX9_first_2 (by decide) ?_
  refine T_callS (As := [.int v1, .int (0 : Int32), .int (1 : Int32)]) w X (C_X9_isWithin (kG K) v1 (0 : Int32) (1 : Int32) S) ml_X9_224 st_yX9_isWithin ii_RX9 co_yX9_isWithin hy_X9_isWithin (hRd hR (by decide) (by decide)) rfl (Nat.le_of_ble_eq_true rfl) dX9_first_3 (fun r2 S1 _ wS1 => ?_)
  refine J_if_ne X (tgt := 11) dX9_first_6 (by decide) ?_ ?_
  · refine J_iconst X (v := (-1 : Int32)) dX9_first_9 (by decide) ?_
    exact T_iret wS1 X dX9_first_10
  · refine J_aload_n X dX9_first_11 (i := 0) rfl rfl ?_
    refine T_getR X (kf := 6) cb9 kv0 (by decide) fl_X9_39 (fun _ _ _ => rfl) dX9_first_12 ?_
    refine J_aload_n X dX9_first_15 (i := 0) rfl rfl ?_
    refine T_getR X (kf := 5) cb9 kv0 (by decide) fl_X9_35 (fun _ _ _ => rfl) dX9_first_16 ?_
    refine T_callV (As := [.ref (S1.2.2 v0 5)]) wS1 X (C_X5_copyFrom (kG K) (S1.2.2 v0 6) (wS1.1 _ _ kv0 6 _ rfl) (S1.2.2 v0 5) (wS1.1 _ _ kv0 5 _ rfl) S1) cb5 (wS1.1 _ _ kv0 6 _ rfl) ml_X9_98 in_yX5_copyFrom se_yX5_copyFrom ii_RX5 co_yX5_copyFrom hy_X5_copyFrom (hRd hR (by decide) (by decide)) rfl (Nat.le_of_ble_eq_true rfl) dX9_first_19 (fun _ S3 _ wS3 => ?_)
    refine J_aload_n X dX9_first_22 (i := 0) rfl rfl ?_
    refine T_getR X (kf := 8) cb9 kv0 (by decide) fl_X9_51 (fun _ _ _ => rfl) dX9_first_23 ?_
    refine T_callV (As := []) wS3 X (C_X8_goUntilFirst (kG K) (S3.2.2 v0 8) (wS3.1 _ _ kv0 8 _ rfl) S3) cb8 (wS3.1 _ _ kv0 8 _ rfl) ml_X9_238 in_yX8_goUntilFirst se_yX8_goUntilFirst ii_RX8 co_yX8_goUntilFirst hy_X8_goUntilFirst (hRd hR (by decide) (by decide)) rfl (Nat.le_of_ble_eq_true rfl) dX9_first_26 (fun r6 S5 _ wS5 => ?_)
    refine J_istore_n X (i := 2) (ls' := [some (.ref v0), some (.int v1), some (.int r6)]) dX9_first_29 rfl (by decide) rfl ?_
    refine J_iload_n X dX9_first_30 (i := 2) rfl rfl ?_
    refine J_bipush X (v := (101 : Int32)) dX9_first_31 (by decide) ?_
    refine J_icmp_ne X (tgt := 39) dX9_first_33 (by decide) ?_ ?_
    · refine J_bipush X (v := (-2 : Int32)) dX9_first_36 (by decide) ?_
      exact T_iret wS5 X dX9_first_38
    · refine J_iload_n X dX9_first_39 (i := 1) rfl rfl ?_
      refine J_if_ne X (tgt := 47) dX9_first_40 (by decide) ?_ ?_
      · refine J_iload_n X dX9_first_43 (i := 2) rfl rfl ?_
        refine J_goto X (tgt := 67) dX9_first_44 (by decide) ?_
        exact T_iret wS5 X dX9_first_67
      · refine J_aload_n X dX9_first_47 (i := 0) rfl rfl ?_
        refine T_getR X (kf := 6) cb9 kv0 (by decide) fl_X9_39 (fun _ _ _ => rfl) dX9_first_48 ?_
        refine T_getI X (kf := 2) cb5 (wS5.1 _ _ kv0 6 _ rfl) (by decide) fl_X9_188 (fun _ _ _ => rfl) dX9_first_51 ?_
        refine J_aload_n X dX9_first_54 (i := 0) rfl rfl ?_
        refine T_getR X (kf := 5) cb9 kv0 (by decide) fl_X9_35 (fun _ _ _ => rfl) dX9_first_55 ?_
        refine T_getI X (kf := 2) cb5 (wS5.1 _ _ kv0 5 _ rfl) (by decide) fl_X9_188 (fun _ _ _ => rfl) dX9_first_58 ?_
        refine J_iconst X (v := (-1 : Int32)) dX9_first_61 (by decide) ?_
        refine J_ixor X dX9_first_62 ?_
        refine J_iand X dX9_first_63 ?_
        refine T_callS (As := [.int ((S5.1 (S5.2.2 v0 6) 2) &&& ((S5.1 (S5.2.2 v0 5) 2) ^^^ (-1 : Int32)))]) wS5 X (C_X9_lowestOf (kG K) ((S5.1 (S5.2.2 v0 6) 2) &&& ((S5.1 (S5.2.2 v0 5) 2) ^^^ (-1 : Int32))) S5) ml_X9_241 st_yX9_lowestOf ii_RX9 co_yX9_lowestOf hy_X9_lowestOf (hRd hR (by decide) (by decide)) rfl (Nat.le_of_ble_eq_true rfl) dX9_first_64 (fun r8 S7 _ wS7 => ?_)
        exact T_iret wS7 X dX9_first_67
theorem C_X9_first (G : GG) (v0 : Nat) (kv0 : KA (gD G) v0 (0, 9)) (v1 : Int32) (S : St) : CM G yX9_first cX9_first 3 (some .int) 7 [.ref v0, .int v1] S (fun v : Int32 => some (.int v)) (f_X9_first v0 v1 S) :=
  CM_of (by decide) (Nat.le_of_ble_eq_true rfl) rfl (fun K hG X hR w => by subst hG; exact t_X9_first_0 X hR v0 kv0 v1 S w)

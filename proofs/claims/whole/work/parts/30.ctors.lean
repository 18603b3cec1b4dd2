theorem df_of (n t ci : Nat) {N : Nat} (hN : NC ci = N) (h : ((List.range N).all (fun j => (match tyC ci j with
  | .object _ => NT t n j
  | .array _ => NT t n j
  | .int => true
  | .boolean => true
  | .long => true
  | _ => false))) = true) : ∀ (b : Nat) (S : St) (j : Nat), j < N → defaultValue (tyC ci j) = fv b (rwN (NT t) (zI S n)) n j (tyC ci j) := by
  intro b S j hj
  have := List.all_eq_true.mp h j (List.mem_range.mpr hj)
  cases ht : tyC ci j <;> rw [ht] at this <;> simp only at this <;> first | (simp [fv, rwN, zI, this, va_rf, defaultValue]; done) | cases this
theorem J_nmS {K : KK} {ρ : Type} {Zr : ρ → State → Prop} {pc : Nat} {ls : List (Option Value)} {st : List Value} {N : Nat → Nat → Bool} {n k w : Nat} {S : St} {f : St → Option ρ} (h : ∀ S1 : St, S1 = S → JX K Zr pc ls st (rwN N S1) n k w (f S1)) : JX K Zr pc ls st (rwN N S) n k w (nm S f) := h S rfl
theorem hkwC {K : KK} {d mc ms k w : Nat} (hR : kR K = rmC d mc ms) (h1 : k ≤ mc) (h2 : w ≤ ms) : k ≤ (kR K).cells ∧ w ≤ (kR K).slots := by rw [hR]; exact ⟨h1, h2⟩
theorem hRc {K : KK} {d d' mc ms maxL : Nat} (hR : kR K = rmC d mc ms) (h : d' + 1 ≤ d) (hm : maxL ≤ 11) : d' + 1 ≤ (kR K).frames ∧ 8 + (maxL + 11) + 30 * d' ≤ (kR K).locals := by
  rw [hR]
  exact ⟨h, by show _ ≤ 30 * d; omega⟩
theorem df_2_1 : ∀ (b : Nat) (S : St) (j : Nat), j < 12 → defaultValue (tyC 0 j) = fv b (rwN (NT 1) (zI S 2)) 2 j (tyC 0 j) := df_of 2 1 0 rfl (by decide +kernel)
theorem df_8_6 : ∀ (b : Nat) (S : St) (j : Nat), j < 7 → defaultValue (tyC 2 j) = fv b (rwN (NT 6) (zI S 8)) 8 j (tyC 2 j) := df_of 8 6 2 rfl (by decide +kernel)
theorem dn_11_8_14 : dnok 11 8 14 RHO = true := by decide +kernel
theorem hy_X2_init : yX2_init.cls ≠ "java/lang/invoke/MethodHandle" ∧ yX2_init.cls ≠ "java/lang/invoke/VarHandle" ∧ (parseMethodDescriptor yX2_init.desc).map (fun d => d.parameters.length) = some 0 := by decide +kernel
set_option maxRecDepth 20000 in
def fi_X2_init_8 (S : St) : Option (Unit × St) := nm (zI S 9) fun S1 => nm (zI S1 10) fun S2 => nm (zI S2 11) fun S3 => nm (zI S3 12) fun S4 => nm (zI S4 13) fun S5 => bd (f_X2_clearAll 8 S5) fun _ S6 => some ((), S6)
set_option maxRecDepth 20000 in
set_option maxHeartbeats 4000000 in
theorem I_X2_init_8 (G : GG) (hDG : ∀ a, gD G a → False) (S : St) : CI G yX2_init cX2_init 1 3 5 488 [.ref 8] 6 9 S 11 14 (fi_X2_init_8 S) := by
  refine CI_of (ls := [some (.ref 8)]) hDG (by decide) rfl (Nat.le_of_ble_eq_true rfl) rfl ?_
  intro K hG X hR hin hz hρ
  subst hG
  unfold fi_X2_init_8
  refine J_aload_n X dX2_init_0 (i := 0) rfl rfl ?_
  refine C_obj X ml_X2_3 (Nat.le_of_ble_eq_true rfl) ⟨by rw [hR]; exact Nat.le_of_ble_eq_true rfl, by rw [hR]; exact Nat.le_of_ble_eq_true rfl⟩ dX2_init_1 ?_
  refine J_aload_n X dX2_init_4 (i := 0) rfl rfl ?_
  refine J_bipush X (v := (9 : Int32)) dX2_init_5 (by decide) ?_
  refine C_newa X (atype := .int) (ty := .int) (c := 0) (len := 9) (a0 := (9, .inl (fun _ => 0))) (by omega) (fun _ => rfl) (fun U c1 c2 g1 g2 => Option.some.inj (g1.symm.trans g2)) (fun b cA S => by rw [ce_1 (show KD 9 = (1, 9) by decide)]; simp [rwN, zI]) ac_int rfl (fun _ => rfl) (by decide) (by decide) (by decide) ⟨by rw [hR]; exact Nat.le_of_ble_eq_true rfl, by rw [hR]; exact Nat.le_of_ble_eq_true rfl⟩ dX2_init_7 (fun S1 hS1 => ?_)
  have hρS1 : S1.2.2 = RHO := by rw [hS1]; exact hρ
  clear hS1
  refine C_putF X (kf := 0) cb2 (by decide) (by decide) (by decide) (by rw [hρS1]; decide) (by decide) fl_X2_9 (fun _ _ _ => rfl) rfl hin rfl (fun _ => rfl) (fun _ => rfl) dX2_init_9 ?_
  refine J_aload_n X dX2_init_12 (i := 0) rfl rfl ?_
  refine J_sipush X (v := (404 : Int32)) dX2_init_13 (by decide) ?_
  refine C_newa X (atype := .int) (ty := .int) (c := 0) (len := 404) (a0 := (404, .inl (fun _ => 0))) (by omega) (fun _ => rfl) (fun U c1 c2 g1 g2 => Option.some.inj (g1.symm.trans g2)) (fun b cA S => by rw [ce_1 (show KD 10 = (1, 404) by decide)]; simp [rwN, zI]) ac_int rfl (fun _ => rfl) (by decide) (by decide) (by decide) ⟨by rw [hR]; exact Nat.le_of_ble_eq_true rfl, by rw [hR]; exact Nat.le_of_ble_eq_true rfl⟩ dX2_init_16 (fun S2 hS2 => ?_)
  have hρS2 : S2.2.2 = RHO := by rw [hS2]; exact hρS1
  clear hS2
  refine C_putF X (kf := 1) cb2 (by decide) (by decide) (by decide) (by rw [hρS2]; decide) (by decide) fl_X2_15 (fun _ _ _ => rfl) rfl hin rfl (fun _ => rfl) (fun _ => rfl) dX2_init_18 ?_
  refine J_aload_n X dX2_init_21 (i := 0) rfl rfl ?_
  refine J_bipush X (v := (56 : Int32)) dX2_init_22 (by decide) ?_
  refine C_newa X (atype := .int) (ty := .int) (c := 0) (len := 56) (a0 := (56, .inl (fun _ => 0))) (by omega) (fun _ => rfl) (fun U c1 c2 g1 g2 => Option.some.inj (g1.symm.trans g2)) (fun b cA S => by rw [ce_1 (show KD 11 = (1, 56) by decide)]; simp [rwN, zI]) ac_int rfl (fun _ => rfl) (by decide) (by decide) (by decide) ⟨by rw [hR]; exact Nat.le_of_ble_eq_true rfl, by rw [hR]; exact Nat.le_of_ble_eq_true rfl⟩ dX2_init_24 (fun S3 hS3 => ?_)
  have hρS3 : S3.2.2 = RHO := by rw [hS3]; exact hρS2
  clear hS3
  refine C_putF X (kf := 3) cb2 (by decide) (by decide) (by decide) (by rw [hρS3]; decide) (by decide) fl_X2_18 (fun _ _ _ => rfl) rfl hin rfl (fun _ => rfl) (fun _ => rfl) dX2_init_26 ?_
  refine J_aload_n X dX2_init_29 (i := 0) rfl rfl ?_
  refine J_iconst X (v := (4 : Int32)) dX2_init_30 (by decide) ?_
  refine C_newa X (atype := .int) (ty := .int) (c := 0) (len := 4) (a0 := (4, .inl (fun _ => 0))) (by omega) (fun _ => rfl) (fun U c1 c2 g1 g2 => Option.some.inj (g1.symm.trans g2)) (fun b cA S => by rw [ce_1 (show KD 12 = (1, 4) by decide)]; simp [rwN, zI]) ac_int rfl (fun _ => rfl) (by decide) (by decide) (by decide) ⟨by rw [hR]; exact Nat.le_of_ble_eq_true rfl, by rw [hR]; exact Nat.le_of_ble_eq_true rfl⟩ dX2_init_31 (fun S4 hS4 => ?_)
  have hρS4 : S4.2.2 = RHO := by rw [hS4]; exact hρS3
  clear hS4
  refine C_putF X (kf := 4) cb2 (by decide) (by decide) (by decide) (by rw [hρS4]; decide) (by decide) fl_X2_21 (fun _ _ _ => rfl) rfl hin rfl (fun _ => rfl) (fun _ => rfl) dX2_init_33 ?_
  refine J_aload_n X dX2_init_36 (i := 0) rfl rfl ?_
  refine J_bipush X (v := (15 : Int32)) dX2_init_37 (by decide) ?_
  refine C_newa X (atype := .int) (ty := .int) (c := 0) (len := 15) (a0 := (15, .inl (fun _ => 0))) (by omega) (fun _ => rfl) (fun U c1 c2 g1 g2 => Option.some.inj (g1.symm.trans g2)) (fun b cA S => by rw [ce_1 (show KD 13 = (1, 15) by decide)]; simp [rwN, zI]) ac_int rfl (fun _ => rfl) (by decide) (by decide) (by decide) ⟨by rw [hR]; exact Nat.le_of_ble_eq_true rfl, by rw [hR]; exact Nat.le_of_ble_eq_true rfl⟩ dX2_init_39 (fun S5 hS5 => ?_)
  have hρS5 : S5.2.2 = RHO := by rw [hS5]; exact hρS4
  clear hS5
  refine C_putF X (kf := 5) cb2 (by decide) (by decide) (by decide) (by rw [hρS5]; decide) (by decide) fl_X2_24 (fun _ _ _ => rfl) rfl hin rfl (fun _ => rfl) (fun _ => rfl) dX2_init_41 ?_
  refine J_aload_n X dX2_init_44 (i := 0) rfl rfl ?_
  have wS6 : WT (fun a => 8 ≤ a ∧ a < 14) S5.2.2 := by rw [hρS5]; exact dn_WT dn_11_8_14
  refine T_callVk (K := ksw K (NT 11) 14 (fun a => 8 ≤ a ∧ a < 14)) (As := []) wS6 (CX_sw X (dn_N dn_11_8_14 (by decide))) (C_X2_clearAll (gsw (kG K) (NT 11) 14 (fun a => 8 ≤ a ∧ a < 14)) 8 ⟨by decide, by decide, by decide⟩ S5) cb2 ⟨by decide, by decide, by decide⟩ ml_X2_27 in_yX2_clearAll se_yX2_clearAll ii_RX2 co_yX2_clearAll hy_X2_clearAll (hRc hR (by decide) (by decide)) rfl (hkwC hR (Nat.le_of_ble_eq_true rfl) (Nat.le_of_ble_eq_true rfl)) (Nat.le_of_ble_eq_true rfl) dX2_init_45 (fun _ S6 heS6 _ => ?_)
  have hρS6 : S6.2.2 = RHO := (o_X2_clearAll 8 ⟨by decide, by decide, by decide⟩ (D := (fun a => 8 ≤ a ∧ a < 14)) _ wS6 _ heS6).1.trans hρS5
  clear heS6
  show JX K _ _ _ _ (rwN (NT 11) S6) 14 _ _ _
  exact C_vret X (by omega) hρS6 dX2_init_48
theorem df_14_12 : ∀ (b : Nat) (S : St) (j : Nat), j < 5 → defaultValue (tyC 5 j) = fv b (rwN (NT 12) (zI S 14)) 14 j (tyC 5 j) := df_of 14 12 5 rfl (by decide +kernel)
theorem hy_X5_init : yX5_init.cls ≠ "java/lang/invoke/MethodHandle" ∧ yX5_init.cls ≠ "java/lang/invoke/VarHandle" ∧ (parseMethodDescriptor yX5_init.desc).map (fun d => d.parameters.length) = some 0 := by decide +kernel
set_option maxRecDepth 20000 in
def fi_X5_init_14 (S : St) : Option (Unit × St) := nm (zI S 15) fun S1 => some ((), S1)
set_option maxRecDepth 20000 in
set_option maxHeartbeats 4000000 in
theorem I_X5_init_14 (G : GG) (hDG : ∀ a, gD G a → False) (S : St) : CI G yX5_init cX5_init 1 1 1 36 [.ref 14] 12 15 S 13 16 (fi_X5_init_14 S) := by
  refine CI_of (ls := [some (.ref 14)]) hDG (by decide) rfl (Nat.le_of_ble_eq_true rfl) rfl ?_
  intro K hG X hR hin hz hρ
  subst hG
  unfold fi_X5_init_14
  refine J_aload_n X dX5_init_0 (i := 0) rfl rfl ?_
  refine C_obj X ml_X5_3 (Nat.le_of_ble_eq_true rfl) ⟨by rw [hR]; exact Nat.le_of_ble_eq_true rfl, by rw [hR]; exact Nat.le_of_ble_eq_true rfl⟩ dX5_init_1 ?_
  refine J_aload_n X dX5_init_4 (i := 0) rfl rfl ?_
  refine J_bipush X (v := (36 : Int32)) dX5_init_5 (by decide) ?_
  refine C_newa X (atype := .int) (ty := .int) (c := 0) (len := 36) (a0 := (36, .inl (fun _ => 0))) (by omega) (fun _ => rfl) (fun U c1 c2 g1 g2 => Option.some.inj (g1.symm.trans g2)) (fun b cA S => by rw [ce_1 (show KD 15 = (1, 36) by decide)]; simp [rwN, zI]) ac_int rfl (fun _ => rfl) (by decide) (by decide) (by decide) ⟨by rw [hR]; exact Nat.le_of_ble_eq_true rfl, by rw [hR]; exact Nat.le_of_ble_eq_true rfl⟩ dX5_init_7 (fun S1 hS1 => ?_)
  have hρS1 : S1.2.2 = RHO := by rw [hS1]; exact hρ
  clear hS1
  refine C_putF X (kf := 0) cb5 (by decide) (by decide) (by decide) (by rw [hρS1]; decide) (by decide) fl_X5_9 (fun _ _ _ => rfl) rfl hin rfl (fun _ => rfl) (fun _ => rfl) dX5_init_9 ?_
  exact C_vret X (by omega) hρS1 dX5_init_12
theorem hy_X0_init : yX0_init.cls ≠ "java/lang/invoke/MethodHandle" ∧ yX0_init.cls ≠ "java/lang/invoke/VarHandle" ∧ (parseMethodDescriptor yX0_init.desc).map (fun d => d.parameters.length) = some 0 := by decide +kernel
set_option maxRecDepth 20000 in
def fi_X0_init_2 (S : St) : Option (Unit × St) := nm (zI S 3) fun S1 => nm (zI S1 4) fun S2 => nm (zI S2 5) fun S3 => nm (zI S3 6) fun S4 => nm (zI S4 7) fun S5 => nm (zI S5 8) fun S6 => bd (fi_X2_init_8 S6) fun _ S7 => nm (zI S7 14) fun S8 => bd (fi_X5_init_14 S8) fun _ S9 => nm (sI S9 2 3 (4 : Int32)) fun S10 => some ((), S10)
set_option maxRecDepth 20000 in
set_option maxHeartbeats 4000000 in
theorem I_X0_init_2 (G : GG) (hDG : ∀ a, gD G a → False) (S : St) : CI G yX0_init cX0_init 1 4 13 568 [.ref 2] 1 3 S 14 16 (fi_X0_init_2 S) := by
  refine CI_of (ls := [some (.ref 2)]) hDG (by decide) rfl (Nat.le_of_ble_eq_true rfl) rfl ?_
  intro K hG X hR hin hz hρ
  subst hG
  unfold fi_X0_init_2
  refine J_aload_n X dX0_init_0 (i := 0) rfl rfl ?_
  refine C_obj X ml_X0_3 (Nat.le_of_ble_eq_true rfl) ⟨by rw [hR]; exact Nat.le_of_ble_eq_true rfl, by rw [hR]; exact Nat.le_of_ble_eq_true rfl⟩ dX0_init_1 ?_
  refine J_aload_n X dX0_init_4 (i := 0) rfl rfl ?_
  refine J_iconst X (v := (4 : Int32)) dX0_init_5 (by decide) ?_
  refine C_newa X (atype := .long) (ty := .long) (c := 3) (len := 4) (a0 := (4, .inr (.inl (fun _ => 0)))) (by omega) (fun _ => rfl) (fun U c1 c2 g1 g2 => Option.some.inj (g1.symm.trans g2)) (fun b cA S => by rw [ce_4 (show KD 3 = (4, 4) by decide)]; simp [rwN, zI]) ac_long rfl (fun _ => rfl) (by decide) (by decide) (by decide) ⟨by rw [hR]; exact Nat.le_of_ble_eq_true rfl, by rw [hR]; exact Nat.le_of_ble_eq_true rfl⟩ dX0_init_6 (fun S1 hS1 => ?_)
  have hρS1 : S1.2.2 = RHO := by rw [hS1]; exact hρ
  clear hS1
  refine C_putF X (kf := 5) cb0 (by decide) (by decide) (by decide) (by rw [hρS1]; decide) (by decide) fl_X0_9 (fun _ _ _ => rfl) rfl hin rfl (fun _ => rfl) (fun _ => rfl) dX0_init_8 ?_
  refine J_aload_n X dX0_init_11 (i := 0) rfl rfl ?_
  refine J_bipush X (v := (6 : Int32)) dX0_init_12 (by decide) ?_
  refine C_newa X (atype := .long) (ty := .long) (c := 3) (len := 6) (a0 := (6, .inr (.inl (fun _ => 0)))) (by omega) (fun _ => rfl) (fun U c1 c2 g1 g2 => Option.some.inj (g1.symm.trans g2)) (fun b cA S => by rw [ce_4 (show KD 4 = (4, 6) by decide)]; simp [rwN, zI]) ac_long rfl (fun _ => rfl) (by decide) (by decide) (by decide) ⟨by rw [hR]; exact Nat.le_of_ble_eq_true rfl, by rw [hR]; exact Nat.le_of_ble_eq_true rfl⟩ dX0_init_14 (fun S2 hS2 => ?_)
  have hρS2 : S2.2.2 = RHO := by rw [hS2]; exact hρS1
  clear hS2
  refine C_putF X (kf := 6) cb0 (by decide) (by decide) (by decide) (by rw [hρS2]; decide) (by decide) fl_X0_15 (fun _ _ _ => rfl) rfl hin rfl (fun _ => rfl) (fun _ => rfl) dX0_init_16 ?_
  refine J_aload_n X dX0_init_19 (i := 0) rfl rfl ?_
  refine J_bipush X (v := (6 : Int32)) dX0_init_20 (by decide) ?_
  refine C_newa X (atype := .int) (ty := .int) (c := 0) (len := 6) (a0 := (6, .inl (fun _ => 0))) (by omega) (fun _ => rfl) (fun U c1 c2 g1 g2 => Option.some.inj (g1.symm.trans g2)) (fun b cA S => by rw [ce_1 (show KD 5 = (1, 6) by decide)]; simp [rwN, zI]) ac_int rfl (fun _ => rfl) (by decide) (by decide) (by decide) ⟨by rw [hR]; exact Nat.le_of_ble_eq_true rfl, by rw [hR]; exact Nat.le_of_ble_eq_true rfl⟩ dX0_init_22 (fun S3 hS3 => ?_)
  have hρS3 : S3.2.2 = RHO := by rw [hS3]; exact hρS2
  clear hS3
  refine C_putF X (kf := 7) cb0 (by decide) (by decide) (by decide) (by rw [hρS3]; decide) (by decide) fl_X0_18 (fun _ _ _ => rfl) rfl hin rfl (fun _ => rfl) (fun _ => rfl) dX0_init_24 ?_
  refine J_aload_n X dX0_init_27 (i := 0) rfl rfl ?_
  refine J_bipush X (v := (8 : Int32)) dX0_init_28 (by decide) ?_
  refine C_newa X (atype := .int) (ty := .int) (c := 0) (len := 8) (a0 := (8, .inl (fun _ => 0))) (by omega) (fun _ => rfl) (fun U c1 c2 g1 g2 => Option.some.inj (g1.symm.trans g2)) (fun b cA S => by rw [ce_1 (show KD 6 = (1, 8) by decide)]; simp [rwN, zI]) ac_int rfl (fun _ => rfl) (by decide) (by decide) (by decide) ⟨by rw [hR]; exact Nat.le_of_ble_eq_true rfl, by rw [hR]; exact Nat.le_of_ble_eq_true rfl⟩ dX0_init_30 (fun S4 hS4 => ?_)
  have hρS4 : S4.2.2 = RHO := by rw [hS4]; exact hρS3
  clear hS4
  refine C_putF X (kf := 8) cb0 (by decide) (by decide) (by decide) (by rw [hρS4]; decide) (by decide) fl_X0_22 (fun _ _ _ => rfl) rfl hin rfl (fun _ => rfl) (fun _ => rfl) dX0_init_32 ?_
  refine J_aload_n X dX0_init_35 (i := 0) rfl rfl ?_
  refine J_bipush X (v := (8 : Int32)) dX0_init_36 (by decide) ?_
  refine C_newa X (atype := .int) (ty := .int) (c := 0) (len := 8) (a0 := (8, .inl (fun _ => 0))) (by omega) (fun _ => rfl) (fun U c1 c2 g1 g2 => Option.some.inj (g1.symm.trans g2)) (fun b cA S => by rw [ce_1 (show KD 7 = (1, 8) by decide)]; simp [rwN, zI]) ac_int rfl (fun _ => rfl) (by decide) (by decide) (by decide) ⟨by rw [hR]; exact Nat.le_of_ble_eq_true rfl, by rw [hR]; exact Nat.le_of_ble_eq_true rfl⟩ dX0_init_38 (fun S5 hS5 => ?_)
  have hρS5 : S5.2.2 = RHO := by rw [hS5]; exact hρS4
  clear hS5
  refine C_putF X (kf := 9) cb0 (by decide) (by decide) (by decide) (by rw [hρS5]; decide) (by decide) fl_X0_25 (fun _ _ _ => rfl) rfl hin rfl (fun _ => rfl) (fun _ => rfl) dX0_init_40 ?_
  refine J_aload_n X dX0_init_43 (i := 0) rfl rfl ?_
  refine C_new X cb2 (by decide) (by omega) cl_X0_28 it_RX2 ii_RX2 df_8_6 ⟨by rw [hR]; exact Nat.le_of_ble_eq_true rfl, by rw [hR]; exact Nat.le_of_ble_eq_true rfl⟩ dX0_init_44 (fun S6 hS6 => ?_)
  have hρS6 : S6.2.2 = RHO := by rw [hS6]; exact hρS5
  clear hS6
  refine J_dup X dX0_init_47 rfl ?_
  refine C_callI (As := []) X (I_X2_init_8 (kG K) hDG S6) ml_X0_30 in_yX2_init ii_RX2 co_yX2_init rfl hy_X2_init (hRc hR (by decide) (by decide)) ⟨by rw [hR]; exact Nat.le_of_ble_eq_true rfl, by rw [hR]; exact Nat.le_of_ble_eq_true rfl⟩ (by omega) hρS6 rfl (Nat.le_of_ble_eq_true rfl) dX0_init_48 (fun S7 hρS7 => ?_)
  refine C_putF X (kf := 10) cb0 (by decide) (by decide) (by decide) (by rw [hρS7]; decide) (by decide) fl_X0_31 (fun _ _ _ => rfl) rfl hin rfl (fun _ => rfl) (fun _ => rfl) dX0_init_51 ?_
  refine J_aload_n X dX0_init_54 (i := 0) rfl rfl ?_
  refine C_new X cb5 (by decide) (by omega) cl_X0_35 it_RX5 ii_RX5 df_14_12 ⟨by rw [hR]; exact Nat.le_of_ble_eq_true rfl, by rw [hR]; exact Nat.le_of_ble_eq_true rfl⟩ dX0_init_55 (fun S8 hS8 => ?_)
  have hρS8 : S8.2.2 = RHO := by rw [hS8]; exact hρS7
  clear hS8
  refine J_dup X dX0_init_58 rfl ?_
  refine C_callI (As := []) X (I_X5_init_14 (kG K) hDG S8) ml_X0_37 in_yX5_init ii_RX5 co_yX5_init rfl hy_X5_init (hRc hR (by decide) (by decide)) ⟨by rw [hR]; exact Nat.le_of_ble_eq_true rfl, by rw [hR]; exact Nat.le_of_ble_eq_true rfl⟩ (by omega) hρS8 rfl (Nat.le_of_ble_eq_true rfl) dX0_init_59 (fun S9 hρS9 => ?_)
  refine C_putF X (kf := 11) cb0 (by decide) (by decide) (by decide) (by rw [hρS9]; decide) (by decide) fl_X0_38 (fun _ _ _ => rfl) rfl hin rfl (fun _ => rfl) (fun _ => rfl) dX0_init_62 ?_
  refine J_aload_n X dX0_init_65 (i := 0) rfl rfl ?_
  refine J_iconst X (v := (4 : Int32)) dX0_init_66 (by decide) ?_
  refine C_putI X (kf := 3) cb0 (by decide) (by decide) (by decide) fl_X0_42 (fun _ _ _ => rfl) rfl rfl rfl dX0_init_67 (fun S10 hS10 => ?_)
  have hρS10 : S10.2.2 = RHO := by rw [hS10]; exact hρS9
  clear hS10
  exact C_vret X (by omega) hρS10 dX0_init_70
theorem df_16_15 : ∀ (b : Nat) (S : St) (j : Nat), j < 12 → defaultValue (tyC 0 j) = fv b (rwN (NT 15) (zI S 16)) 16 j (tyC 0 j) := df_of 16 15 0 rfl (by decide +kernel)
theorem df_22_20 : ∀ (b : Nat) (S : St) (j : Nat), j < 7 → defaultValue (tyC 2 j) = fv b (rwN (NT 20) (zI S 22)) 22 j (tyC 2 j) := df_of 22 20 2 rfl (by decide +kernel)
theorem dn_25_22_28 : dnok 25 22 28 RHO = true := by decide +kernel
set_option maxRecDepth 20000 in
def fi_X2_init_22 (S : St) : Option (Unit × St) := nm (zI S 23) fun S1 => nm (zI S1 24) fun S2 => nm (zI S2 25) fun S3 => nm (zI S3 26) fun S4 => nm (zI S4 27) fun S5 => bd (f_X2_clearAll 22 S5) fun _ S6 => some ((), S6)
set_option maxRecDepth 20000 in
set_option maxHeartbeats 4000000 in
theorem I_X2_init_22 (G : GG) (hDG : ∀ a, gD G a → False) (S : St) : CI G yX2_init cX2_init 1 3 5 488 [.ref 22] 20 23 S 25 28 (fi_X2_init_22 S) := by
  refine CI_of (ls := [some (.ref 22)]) hDG (by decide) rfl (Nat.le_of_ble_eq_true rfl) rfl ?_
  intro K hG X hR hin hz hρ
  subst hG
  unfold fi_X2_init_22
  refine J_aload_n X dX2_init_0 (i := 0) rfl rfl ?_
  refine C_obj X ml_X2_3 (Nat.le_of_ble_eq_true rfl) ⟨by rw [hR]; exact Nat.le_of_ble_eq_true rfl, by rw [hR]; exact Nat.le_of_ble_eq_true rfl⟩ dX2_init_1 ?_
  refine J_aload_n X dX2_init_4 (i := 0) rfl rfl ?_
  refine J_bipush X (v := (9 : Int32)) dX2_init_5 (by decide) ?_
  refine C_newa X (atype := .int) (ty := .int) (c := 0) (len := 9) (a0 := (9, .inl (fun _ => 0))) (by omega) (fun _ => rfl) (fun U c1 c2 g1 g2 => Option.some.inj (g1.symm.trans g2)) (fun b cA S => by rw [ce_1 (show KD 23 = (1, 9) by decide)]; simp [rwN, zI]) ac_int rfl (fun _ => rfl) (by decide) (by decide) (by decide) ⟨by rw [hR]; exact Nat.le_of_ble_eq_true rfl, by rw [hR]; exact Nat.le_of_ble_eq_true rfl⟩ dX2_init_7 (fun S1 hS1 => ?_)
  have hρS1 : S1.2.2 = RHO := by rw [hS1]; exact hρ
  clear hS1
  refine C_putF X (kf := 0) cb2 (by decide) (by decide) (by decide) (by rw [hρS1]; decide) (by decide) fl_X2_9 (fun _ _ _ => rfl) rfl hin rfl (fun _ => rfl) (fun _ => rfl) dX2_init_9 ?_
  refine J_aload_n X dX2_init_12 (i := 0) rfl rfl ?_
  refine J_sipush X (v := (404 : Int32)) dX2_init_13 (by decide) ?_
  refine C_newa X (atype := .int) (ty := .int) (c := 0) (len := 404) (a0 := (404, .inl (fun _ => 0))) (by omega) (fun _ => rfl) (fun U c1 c2 g1 g2 => Option.some.inj (g1.symm.trans g2)) (fun b cA S => by rw [ce_1 (show KD 24 = (1, 404) by decide)]; simp [rwN, zI]) ac_int rfl (fun _ => rfl) (by decide) (by decide) (by decide) ⟨by rw [hR]; exact Nat.le_of_ble_eq_true rfl, by rw [hR]; exact Nat.le_of_ble_eq_true rfl⟩ dX2_init_16 (fun S2 hS2 => ?_)
  have hρS2 : S2.2.2 = RHO := by rw [hS2]; exact hρS1
  clear hS2
  refine C_putF X (kf := 1) cb2 (by decide) (by decide) (by decide) (by rw [hρS2]; decide) (by decide) fl_X2_15 (fun _ _ _ => rfl) rfl hin rfl (fun _ => rfl) (fun _ => rfl) dX2_init_18 ?_
  refine J_aload_n X dX2_init_21 (i := 0) rfl rfl ?_
  refine J_bipush X (v := (56 : Int32)) dX2_init_22 (by decide) ?_
  refine C_newa X (atype := .int) (ty := .int) (c := 0) (len := 56) (a0 := (56, .inl (fun _ => 0))) (by omega) (fun _ => rfl) (fun U c1 c2 g1 g2 => Option.some.inj (g1.symm.trans g2)) (fun b cA S => by rw [ce_1 (show KD 25 = (1, 56) by decide)]; simp [rwN, zI]) ac_int rfl (fun _ => rfl) (by decide) (by decide) (by decide) ⟨by rw [hR]; exact Nat.le_of_ble_eq_true rfl, by rw [hR]; exact Nat.le_of_ble_eq_true rfl⟩ dX2_init_24 (fun S3 hS3 => ?_)
  have hρS3 : S3.2.2 = RHO := by rw [hS3]; exact hρS2
  clear hS3
  refine C_putF X (kf := 3) cb2 (by decide) (by decide) (by decide) (by rw [hρS3]; decide) (by decide) fl_X2_18 (fun _ _ _ => rfl) rfl hin rfl (fun _ => rfl) (fun _ => rfl) dX2_init_26 ?_
  refine J_aload_n X dX2_init_29 (i := 0) rfl rfl ?_
  refine J_iconst X (v := (4 : Int32)) dX2_init_30 (by decide) ?_
  refine C_newa X (atype := .int) (ty := .int) (c := 0) (len := 4) (a0 := (4, .inl (fun _ => 0))) (by omega) (fun _ => rfl) (fun U c1 c2 g1 g2 => Option.some.inj (g1.symm.trans g2)) (fun b cA S => by rw [ce_1 (show KD 26 = (1, 4) by decide)]; simp [rwN, zI]) ac_int rfl (fun _ => rfl) (by decide) (by decide) (by decide) ⟨by rw [hR]; exact Nat.le_of_ble_eq_true rfl, by rw [hR]; exact Nat.le_of_ble_eq_true rfl⟩ dX2_init_31 (fun S4 hS4 => ?_)
  have hρS4 : S4.2.2 = RHO := by rw [hS4]; exact hρS3
  clear hS4
  refine C_putF X (kf := 4) cb2 (by decide) (by decide) (by decide) (by rw [hρS4]; decide) (by decide) fl_X2_21 (fun _ _ _ => rfl) rfl hin rfl (fun _ => rfl) (fun _ => rfl) dX2_init_33 ?_
  refine J_aload_n X dX2_init_36 (i := 0) rfl rfl ?_
  refine J_bipush X (v := (15 : Int32)) dX2_init_37 (by decide) ?_
  refine C_newa X (atype := .int) (ty := .int) (c := 0) (len := 15) (a0 := (15, .inl (fun _ => 0))) (by omega) (fun _ => rfl) (fun U c1 c2 g1 g2 => Option.some.inj (g1.symm.trans g2)) (fun b cA S => by rw [ce_1 (show KD 27 = (1, 15) by decide)]; simp [rwN, zI]) ac_int rfl (fun _ => rfl) (by decide) (by decide) (by decide) ⟨by rw [hR]; exact Nat.le_of_ble_eq_true rfl, by rw [hR]; exact Nat.le_of_ble_eq_true rfl⟩ dX2_init_39 (fun S5 hS5 => ?_)
  have hρS5 : S5.2.2 = RHO := by rw [hS5]; exact hρS4
  clear hS5
  refine C_putF X (kf := 5) cb2 (by decide) (by decide) (by decide) (by rw [hρS5]; decide) (by decide) fl_X2_24 (fun _ _ _ => rfl) rfl hin rfl (fun _ => rfl) (fun _ => rfl) dX2_init_41 ?_
  refine J_aload_n X dX2_init_44 (i := 0) rfl rfl ?_
  have wS6 : WT (fun a => 22 ≤ a ∧ a < 28) S5.2.2 := by rw [hρS5]; exact dn_WT dn_25_22_28
  refine T_callVk (K := ksw K (NT 25) 28 (fun a => 22 ≤ a ∧ a < 28)) (As := []) wS6 (CX_sw X (dn_N dn_25_22_28 (by decide))) (C_X2_clearAll (gsw (kG K) (NT 25) 28 (fun a => 22 ≤ a ∧ a < 28)) 22 ⟨by decide, by decide, by decide⟩ S5) cb2 ⟨by decide, by decide, by decide⟩ ml_X2_27 in_yX2_clearAll se_yX2_clearAll ii_RX2 co_yX2_clearAll hy_X2_clearAll (hRc hR (by decide) (by decide)) rfl (hkwC hR (Nat.le_of_ble_eq_true rfl) (Nat.le_of_ble_eq_true rfl)) (Nat.le_of_ble_eq_true rfl) dX2_init_45 (fun _ S6 heS6 _ => ?_)
  have hρS6 : S6.2.2 = RHO := (o_X2_clearAll 22 ⟨by decide, by decide, by decide⟩ (D := (fun a => 22 ≤ a ∧ a < 28)) _ wS6 _ heS6).1.trans hρS5
  clear heS6
  show JX K _ _ _ _ (rwN (NT 25) S6) 28 _ _ _
  exact C_vret X (by omega) hρS6 dX2_init_48
theorem df_28_26 : ∀ (b : Nat) (S : St) (j : Nat), j < 5 → defaultValue (tyC 5 j) = fv b (rwN (NT 26) (zI S 28)) 28 j (tyC 5 j) := df_of 28 26 5 rfl (by decide +kernel)
set_option maxRecDepth 20000 in
def fi_X5_init_28 (S : St) : Option (Unit × St) := nm (zI S 29) fun S1 => some ((), S1)
set_option maxRecDepth 20000 in
set_option maxHeartbeats 4000000 in
theorem I_X5_init_28 (G : GG) (hDG : ∀ a, gD G a → False) (S : St) : CI G yX5_init cX5_init 1 1 1 36 [.ref 28] 26 29 S 27 30 (fi_X5_init_28 S) := by
  refine CI_of (ls := [some (.ref 28)]) hDG (by decide) rfl (Nat.le_of_ble_eq_true rfl) rfl ?_
  intro K hG X hR hin hz hρ
  subst hG
  unfold fi_X5_init_28
  refine J_aload_n X dX5_init_0 (i := 0) rfl rfl ?_
  refine C_obj X ml_X5_3 (Nat.le_of_ble_eq_true rfl) ⟨by rw [hR]; exact Nat.le_of_ble_eq_true rfl, by rw [hR]; exact Nat.le_of_ble_eq_true rfl⟩ dX5_init_1 ?_
  refine J_aload_n X dX5_init_4 (i := 0) rfl rfl ?_
  refine J_bipush X (v := (36 : Int32)) dX5_init_5 (by decide) ?_
  refine C_newa X (atype := .int) (ty := .int) (c := 0) (len := 36) (a0 := (36, .inl (fun _ => 0))) (by omega) (fun _ => rfl) (fun U c1 c2 g1 g2 => Option.some.inj (g1.symm.trans g2)) (fun b cA S => by rw [ce_1 (show KD 29 = (1, 36) by decide)]; simp [rwN, zI]) ac_int rfl (fun _ => rfl) (by decide) (by decide) (by decide) ⟨by rw [hR]; exact Nat.le_of_ble_eq_true rfl, by rw [hR]; exact Nat.le_of_ble_eq_true rfl⟩ dX5_init_7 (fun S1 hS1 => ?_)
  have hρS1 : S1.2.2 = RHO := by rw [hS1]; exact hρ
  clear hS1
  refine C_putF X (kf := 0) cb5 (by decide) (by decide) (by decide) (by rw [hρS1]; decide) (by decide) fl_X5_9 (fun _ _ _ => rfl) rfl hin rfl (fun _ => rfl) (fun _ => rfl) dX5_init_9 ?_
  exact C_vret X (by omega) hρS1 dX5_init_12
set_option maxRecDepth 20000 in
def fi_X0_init_16 (S : St) : Option (Unit × St) := nm (zI S 17) fun S1 => nm (zI S1 18) fun S2 => nm (zI S2 19) fun S3 => nm (zI S3 20) fun S4 => nm (zI S4 21) fun S5 => nm (zI S5 22) fun S6 => bd (fi_X2_init_22 S6) fun _ S7 => nm (zI S7 28) fun S8 => bd (fi_X5_init_28 S8) fun _ S9 => nm (sI S9 16 3 (4 : Int32)) fun S10 => some ((), S10)
set_option maxRecDepth 20000 in
set_option maxHeartbeats 4000000 in
theorem I_X0_init_16 (G : GG) (hDG : ∀ a, gD G a → False) (S : St) : CI G yX0_init cX0_init 1 4 13 568 [.ref 16] 15 17 S 28 30 (fi_X0_init_16 S) := by
  refine CI_of (ls := [some (.ref 16)]) hDG (by decide) rfl (Nat.le_of_ble_eq_true rfl) rfl ?_
  intro K hG X hR hin hz hρ
  subst hG
  unfold fi_X0_init_16
  refine J_aload_n X dX0_init_0 (i := 0) rfl rfl ?_
  refine C_obj X ml_X0_3 (Nat.le_of_ble_eq_true rfl) ⟨by rw [hR]; exact Nat.le_of_ble_eq_true rfl, by rw [hR]; exact Nat.le_of_ble_eq_true rfl⟩ dX0_init_1 ?_
  refine J_aload_n X dX0_init_4 (i := 0) rfl rfl ?_
  refine J_iconst X (v := (4 : Int32)) dX0_init_5 (by decide) ?_
  refine C_newa X (atype := .long) (ty := .long) (c := 3) (len := 4) (a0 := (4, .inr (.inl (fun _ => 0)))) (by omega) (fun _ => rfl) (fun U c1 c2 g1 g2 => Option.some.inj (g1.symm.trans g2)) (fun b cA S => by rw [ce_4 (show KD 17 = (4, 4) by decide)]; simp [rwN, zI]) ac_long rfl (fun _ => rfl) (by decide) (by decide) (by decide) ⟨by rw [hR]; exact Nat.le_of_ble_eq_true rfl, by rw [hR]; exact Nat.le_of_ble_eq_true rfl⟩ dX0_init_6 (fun S1 hS1 => ?_)
  have hρS1 : S1.2.2 = RHO := by rw [hS1]; exact hρ
  clear hS1
  refine C_putF X (kf := 5) cb0 (by decide) (by decide) (by decide) (by rw [hρS1]; decide) (by decide) fl_X0_9 (fun _ _ _ => rfl) rfl hin rfl (fun _ => rfl) (fun _ => rfl) dX0_init_8 ?_
  refine J_aload_n X dX0_init_11 (i := 0) rfl rfl ?_
  refine J_bipush X (v := (6 : Int32)) dX0_init_12 (by decide) ?_
  refine C_newa X (atype := .long) (ty := .long) (c := 3) (len := 6) (a0 := (6, .inr (.inl (fun _ => 0)))) (by omega) (fun _ => rfl) (fun U c1 c2 g1 g2 => Option.some.inj (g1.symm.trans g2)) (fun b cA S => by rw [ce_4 (show KD 18 = (4, 6) by decide)]; simp [rwN, zI]) ac_long rfl (fun _ => rfl) (by decide) (by decide) (by decide) ⟨by rw [hR]; exact Nat.le_of_ble_eq_true rfl, by rw [hR]; exact Nat.le_of_ble_eq_true rfl⟩ dX0_init_14 (fun S2 hS2 => ?_)
  have hρS2 : S2.2.2 = RHO := by rw [hS2]; exact hρS1
  clear hS2
  refine C_putF X (kf := 6) cb0 (by decide) (by decide) (by decide) (by rw [hρS2]; decide) (by decide) fl_X0_15 (fun _ _ _ => rfl) rfl hin rfl (fun _ => rfl) (fun _ => rfl) dX0_init_16 ?_
  refine J_aload_n X dX0_init_19 (i := 0) rfl rfl ?_
  refine J_bipush X (v := (6 : Int32)) dX0_init_20 (by decide) ?_
  refine C_newa X (atype := .int) (ty := .int) (c := 0) (len := 6) (a0 := (6, .inl (fun _ => 0))) (by omega) (fun _ => rfl) (fun U c1 c2 g1 g2 => Option.some.inj (g1.symm.trans g2)) (fun b cA S => by rw [ce_1 (show KD 19 = (1, 6) by decide)]; simp [rwN, zI]) ac_int rfl (fun _ => rfl) (by decide) (by decide) (by decide) ⟨by rw [hR]; exact Nat.le_of_ble_eq_true rfl, by rw [hR]; exact Nat.le_of_ble_eq_true rfl⟩ dX0_init_22 (fun S3 hS3 => ?_)
  have hρS3 : S3.2.2 = RHO := by rw [hS3]; exact hρS2
  clear hS3
  refine C_putF X (kf := 7) cb0 (by decide) (by decide) (by decide) (by rw [hρS3]; decide) (by decide) fl_X0_18 (fun _ _ _ => rfl) rfl hin rfl (fun _ => rfl) (fun _ => rfl) dX0_init_24 ?_
  refine J_aload_n X dX0_init_27 (i := 0) rfl rfl ?_
  refine J_bipush X (v := (8 : Int32)) dX0_init_28 (by decide) ?_
  refine C_newa X (atype := .int) (ty := .int) (c := 0) (len := 8) (a0 := (8, .inl (fun _ => 0))) (by omega) (fun _ => rfl) (fun U c1 c2 g1 g2 => Option.some.inj (g1.symm.trans g2)) (fun b cA S => by rw [ce_1 (show KD 20 = (1, 8) by decide)]; simp [rwN, zI]) ac_int rfl (fun _ => rfl) (by decide) (by decide) (by decide) ⟨by rw [hR]; exact Nat.le_of_ble_eq_true rfl, by rw [hR]; exact Nat.le_of_ble_eq_true rfl⟩ dX0_init_30 (fun S4 hS4 => ?_)
  have hρS4 : S4.2.2 = RHO := by rw [hS4]; exact hρS3
  clear hS4
  refine C_putF X (kf := 8) cb0 (by decide) (by decide) (by decide) (by rw [hρS4]; decide) (by decide) fl_X0_22 (fun _ _ _ => rfl) rfl hin rfl (fun _ => rfl) (fun _ => rfl) dX0_init_32 ?_
  refine J_aload_n X dX0_init_35 (i := 0) rfl rfl ?_
  refine J_bipush X (v := (8 : Int32)) dX0_init_36 (by decide) ?_
  refine C_newa X (atype := .int) (ty := .int) (c := 0) (len := 8) (a0 := (8, .inl (fun _ => 0))) (by omega) (fun _ => rfl) (fun U c1 c2 g1 g2 => Option.some.inj (g1.symm.trans g2)) (fun b cA S => by rw [ce_1 (show KD 21 = (1, 8) by decide)]; simp [rwN, zI]) ac_int rfl (fun _ => rfl) (by decide) (by decide) (by decide) ⟨by rw [hR]; exact Nat.le_of_ble_eq_true rfl, by rw [hR]; exact Nat.le_of_ble_eq_true rfl⟩ dX0_init_38 (fun S5 hS5 => ?_)
  have hρS5 : S5.2.2 = RHO := by rw [hS5]; exact hρS4
  clear hS5
  refine C_putF X (kf := 9) cb0 (by decide) (by decide) (by decide) (by rw [hρS5]; decide) (by decide) fl_X0_25 (fun _ _ _ => rfl) rfl hin rfl (fun _ => rfl) (fun _ => rfl) dX0_init_40 ?_
  refine J_aload_n X dX0_init_43 (i := 0) rfl rfl ?_
  refine C_new X cb2 (by decide) (by omega) cl_X0_28 it_RX2 ii_RX2 df_22_20 ⟨by rw [hR]; exact Nat.le_of_ble_eq_true rfl, by rw [hR]; exact Nat.le_of_ble_eq_true rfl⟩ dX0_init_44 (fun S6 hS6 => ?_)
  have hρS6 : S6.2.2 = RHO := by rw [hS6]; exact hρS5
  clear hS6
  refine J_dup X dX0_init_47 rfl ?_
  refine C_callI (As := []) X (I_X2_init_22 (kG K) hDG S6) ml_X0_30 in_yX2_init ii_RX2 co_yX2_init rfl hy_X2_init (hRc hR (by decide) (by decide)) ⟨by rw [hR]; exact Nat.le_of_ble_eq_true rfl, by rw [hR]; exact Nat.le_of_ble_eq_true rfl⟩ (by omega) hρS6 rfl (Nat.le_of_ble_eq_true rfl) dX0_init_48 (fun S7 hρS7 => ?_)
  refine C_putF X (kf := 10) cb0 (by decide) (by decide) (by decide) (by rw [hρS7]; decide) (by decide) fl_X0_31 (fun _ _ _ => rfl) rfl hin rfl (fun _ => rfl) (fun _ => rfl) dX0_init_51 ?_
  refine J_aload_n X dX0_init_54 (i := 0) rfl rfl ?_
  refine C_new X cb5 (by decide) (by omega) cl_X0_35 it_RX5 ii_RX5 df_28_26 ⟨by rw [hR]; exact Nat.le_of_ble_eq_true rfl, by rw [hR]; exact Nat.le_of_ble_eq_true rfl⟩ dX0_init_55 (fun S8 hS8 => ?_)
  have hρS8 : S8.2.2 = RHO := by rw [hS8]; exact hρS7
  clear hS8
  refine J_dup X dX0_init_58 rfl ?_
  refine C_callI (As := []) X (I_X5_init_28 (kG K) hDG S8) ml_X0_37 in_yX5_init ii_RX5 co_yX5_init rfl hy_X5_init (hRc hR (by decide) (by decide)) ⟨by rw [hR]; exact Nat.le_of_ble_eq_true rfl, by rw [hR]; exact Nat.le_of_ble_eq_true rfl⟩ (by omega) hρS8 rfl (Nat.le_of_ble_eq_true rfl) dX0_init_59 (fun S9 hρS9 => ?_)
  refine C_putF X (kf := 11) cb0 (by decide) (by decide) (by decide) (by rw [hρS9]; decide) (by decide) fl_X0_38 (fun _ _ _ => rfl) rfl hin rfl (fun _ => rfl) (fun _ => rfl) dX0_init_62 ?_
  refine J_aload_n X dX0_init_65 (i := 0) rfl rfl ?_
  refine J_iconst X (v := (4 : Int32)) dX0_init_66 (by decide) ?_
  refine C_putI X (kf := 3) cb0 (by decide) (by decide) (by decide) fl_X0_42 (fun _ _ _ => rfl) rfl rfl rfl dX0_init_67 (fun S10 hS10 => ?_)
  have hρS10 : S10.2.2 = RHO := by rw [hS10]; exact hρS9
  clear hS10
  exact C_vret X (by omega) hρS10 dX0_init_70
theorem df_30_29 : ∀ (b : Nat) (S : St) (j : Nat), j < 7 → defaultValue (tyC 4 j) = fv b (rwN (NT 29) (zI S 30)) 30 j (tyC 4 j) := df_of 30 29 4 rfl (by decide +kernel)
theorem df_31_29 : ∀ (b : Nat) (S : St) (j : Nat), j < 5 → defaultValue (tyC 6 j) = fv b (rwN (NT 29) (zI S 31)) 31 j (tyC 6 j) := df_of 31 29 6 rfl (by decide +kernel)
theorem hy_X6_init : yX6_init.cls ≠ "java/lang/invoke/MethodHandle" ∧ yX6_init.cls ≠ "java/lang/invoke/VarHandle" ∧ (parseMethodDescriptor yX6_init.desc).map (fun d => d.parameters.length) = some 1 := by decide +kernel
set_option maxRecDepth 20000 in
def fi_X6_init_31 (S : St) : Option (Unit × St) := nm (zI S 32) fun S1 => nm (zI S1 33) fun S2 => nm (zI S2 34) fun S3 => some ((), S3)
set_option maxRecDepth 20000 in
set_option maxHeartbeats 4000000 in
theorem I_X6_init_31 (G : GG) (hDG : ∀ a, gD G a → False) (S : St) : CI G yX6_init cX6_init 2 1 3 1203 [.ref 31, .ref 1] 29 32 S 33 35 (fi_X6_init_31 S) := by
  refine CI_of (ls := [some (.ref 31), some (.ref 1)]) hDG (by decide) rfl (Nat.le_of_ble_eq_true rfl) rfl ?_
  intro K hG X hR hin hz hρ
  subst hG
  unfold fi_X6_init_31
  refine J_aload_n X dX6_init_0 (i := 0) rfl rfl ?_
  refine C_obj X ml_X6_3 (Nat.le_of_ble_eq_true rfl) ⟨by rw [hR]; exact Nat.le_of_ble_eq_true rfl, by rw [hR]; exact Nat.le_of_ble_eq_true rfl⟩ dX6_init_1 ?_
  refine J_aload_n X dX6_init_4 (i := 0) rfl rfl ?_
  refine J_aload_n X dX6_init_5 (i := 1) rfl rfl ?_
  refine C_putF X (kf := 3) cb6 (by decide) (by decide) (by decide) (by rw [hρ]; decide) (by decide) fl_X6_9 (fun _ _ _ => rfl) rfl hin rfl (fun _ => rfl) (fun _ => rfl) dX6_init_6 ?_
  refine J_aload_n X dX6_init_9 (i := 0) rfl rfl ?_
  refine J_sipush X (v := (401 : Int32)) dX6_init_10 (by decide) ?_
  refine C_newa X (atype := .int) (ty := .int) (c := 0) (len := 401) (a0 := (401, .inl (fun _ => 0))) (by omega) (fun _ => rfl) (fun U c1 c2 g1 g2 => Option.some.inj (g1.symm.trans g2)) (fun b cA S => by rw [ce_1 (show KD 32 = (1, 401) by decide)]; simp [rwN, zI]) ac_int rfl (fun _ => rfl) (by decide) (by decide) (by decide) ⟨by rw [hR]; exact Nat.le_of_ble_eq_true rfl, by rw [hR]; exact Nat.le_of_ble_eq_true rfl⟩ dX6_init_13 (fun S1 hS1 => ?_)
  have hρS1 : S1.2.2 = RHO := by rw [hS1]; exact hρ
  clear hS1
  refine C_putF X (kf := 0) cb6 (by decide) (by decide) (by decide) (by rw [hρS1]; decide) (by decide) fl_X6_15 (fun _ _ _ => rfl) rfl hin rfl (fun _ => rfl) (fun _ => rfl) dX6_init_15 ?_
  refine J_aload_n X dX6_init_18 (i := 0) rfl rfl ?_
  refine J_sipush X (v := (401 : Int32)) dX6_init_19 (by decide) ?_
  refine C_newa X (atype := .int) (ty := .int) (c := 0) (len := 401) (a0 := (401, .inl (fun _ => 0))) (by omega) (fun _ => rfl) (fun U c1 c2 g1 g2 => Option.some.inj (g1.symm.trans g2)) (fun b cA S => by rw [ce_1 (show KD 33 = (1, 401) by decide)]; simp [rwN, zI]) ac_int rfl (fun _ => rfl) (by decide) (by decide) (by decide) ⟨by rw [hR]; exact Nat.le_of_ble_eq_true rfl, by rw [hR]; exact Nat.le_of_ble_eq_true rfl⟩ dX6_init_22 (fun S2 hS2 => ?_)
  have hρS2 : S2.2.2 = RHO := by rw [hS2]; exact hρS1
  clear hS2
  refine C_putF X (kf := 1) cb6 (by decide) (by decide) (by decide) (by rw [hρS2]; decide) (by decide) fl_X6_19 (fun _ _ _ => rfl) rfl hin rfl (fun _ => rfl) (fun _ => rfl) dX6_init_24 ?_
  refine J_aload_n X dX6_init_27 (i := 0) rfl rfl ?_
  refine J_sipush X (v := (401 : Int32)) dX6_init_28 (by decide) ?_
  refine C_newa X (atype := .long) (ty := .long) (c := 3) (len := 401) (a0 := (401, .inr (.inl (fun _ => 0)))) (by omega) (fun _ => rfl) (fun U c1 c2 g1 g2 => Option.some.inj (g1.symm.trans g2)) (fun b cA S => by rw [ce_4 (show KD 34 = (4, 401) by decide)]; simp [rwN, zI]) ac_long rfl (fun _ => rfl) (by decide) (by decide) (by decide) ⟨by rw [hR]; exact Nat.le_of_ble_eq_true rfl, by rw [hR]; exact Nat.le_of_ble_eq_true rfl⟩ dX6_init_31 (fun S3 hS3 => ?_)
  have hρS3 : S3.2.2 = RHO := by rw [hS3]; exact hρS2
  clear hS3
  refine C_putF X (kf := 2) cb6 (by decide) (by decide) (by decide) (by rw [hρS3]; decide) (by decide) fl_X6_22 (fun _ _ _ => rfl) rfl hin rfl (fun _ => rfl) (fun _ => rfl) dX6_init_33 ?_
  exact C_vret X (by omega) hρS3 dX6_init_36
theorem hy_X4_init : yX4_init.cls ≠ "java/lang/invoke/MethodHandle" ∧ yX4_init.cls ≠ "java/lang/invoke/VarHandle" ∧ (parseMethodDescriptor yX4_init.desc).map (fun d => d.parameters.length) = some 2 := by decide +kernel
set_option maxRecDepth 20000 in
def fi_X4_init_30 (S : St) : Option (Unit × St) := nm (zI S 31) fun S1 => bd (fi_X6_init_31 S1) fun _ S2 => nm (sI S2 30 4 (-1 : Int32)) fun S3 => some ((), S3)
set_option maxRecDepth 20000 in
set_option maxHeartbeats 4000000 in
theorem I_X4_init_30 (G : GG) (hDG : ∀ a, gD G a → False) (S : St) : CI G yX4_init cX4_init 3 2 4 1208 [.ref 30, .ref 1, .ref 16] 29 31 S 35 35 (fi_X4_init_30 S) := by
  refine CI_of (ls := [some (.ref 30), some (.ref 1), some (.ref 16)]) hDG (by decide) rfl (Nat.le_of_ble_eq_true rfl) rfl ?_
  intro K hG X hR hin hz hρ
  subst hG
  unfold fi_X4_init_30
  refine J_aload_n X dX4_init_0 (i := 0) rfl rfl ?_
  refine C_obj X ml_X4_3 (Nat.le_of_ble_eq_true rfl) ⟨by rw [hR]; exact Nat.le_of_ble_eq_true rfl, by rw [hR]; exact Nat.le_of_ble_eq_true rfl⟩ dX4_init_1 ?_
  refine J_aload_n X dX4_init_4 (i := 0) rfl rfl ?_
  refine C_new X cb6 (by decide) (by omega) cl_X4_9 it_RX6 ii_RX6 df_31_29 ⟨by rw [hR]; exact Nat.le_of_ble_eq_true rfl, by rw [hR]; exact Nat.le_of_ble_eq_true rfl⟩ dX4_init_5 (fun S1 hS1 => ?_)
  have hρS1 : S1.2.2 = RHO := by rw [hS1]; exact hρ
  clear hS1
  refine J_dup X dX4_init_8 rfl ?_
  refine J_aload_n X dX4_init_9 (i := 1) rfl rfl ?_
  refine C_callI (As := [.ref 1]) X (I_X6_init_31 (kG K) hDG S1) ml_X4_11 in_yX6_init ii_RX6 co_yX6_init rfl hy_X6_init (hRc hR (by decide) (by decide)) ⟨by rw [hR]; exact Nat.le_of_ble_eq_true rfl, by rw [hR]; exact Nat.le_of_ble_eq_true rfl⟩ (by omega) hρS1 rfl (Nat.le_of_ble_eq_true rfl) dX4_init_10 (fun S2 hρS2 => ?_)
  refine C_putF X (kf := 0) cb4 (by decide) (by decide) (by decide) (by rw [hρS2]; decide) (by decide) fl_X4_14 (fun _ _ _ => rfl) rfl hin rfl (fun _ => rfl) (fun _ => rfl) dX4_init_13 ?_
  refine J_aload_n X dX4_init_16 (i := 0) rfl rfl ?_
  refine J_aload_n X dX4_init_17 (i := 2) rfl rfl ?_
  refine C_putR X (kf := 1) cb4 (by decide) (by decide) (by decide) (by rw [hρS2]; decide) (by decide) fl_X4_20 (fun _ _ _ => rfl) rfl (fun _ => rfl) (fun _ => rfl) dX4_init_18 ?_
  refine J_aload_n X dX4_init_21 (i := 0) rfl rfl ?_
  refine J_iconst X (v := (-1 : Int32)) dX4_init_22 (by decide) ?_
  refine C_putI X (kf := 4) cb4 (by decide) (by decide) (by decide) fl_X4_24 (fun _ _ _ => rfl) rfl rfl rfl dX4_init_23 (fun S3 hS3 => ?_)
  have hρS3 : S3.2.2 = RHO := by rw [hS3]; exact hρS2
  clear hS3
  exact C_vret X (by omega) hρS3 dX4_init_26
theorem df_35_36 : ∀ (b : Nat) (S : St) (j : Nat), j < 5 → defaultValue (tyC 5 j) = fv b (rwN (NT 36) (zI S 35)) 35 j (tyC 5 j) := df_of 35 36 5 rfl (by decide +kernel)
set_option maxRecDepth 20000 in
def fi_X5_init_35 (S : St) : Option (Unit × St) := nm (zI S 36) fun S1 => some ((), S1)
set_option maxRecDepth 20000 in
set_option maxHeartbeats 4000000 in
theorem I_X5_init_35 (G : GG) (hDG : ∀ a, gD G a → False) (S : St) : CI G yX5_init cX5_init 1 1 1 36 [.ref 35] 36 36 S 37 37 (fi_X5_init_35 S) := by
  refine CI_of (ls := [some (.ref 35)]) hDG (by decide) rfl (Nat.le_of_ble_eq_true rfl) rfl ?_
  intro K hG X hR hin hz hρ
  subst hG
  unfold fi_X5_init_35
  refine J_aload_n X dX5_init_0 (i := 0) rfl rfl ?_
  refine C_obj X ml_X5_3 (Nat.le_of_ble_eq_true rfl) ⟨by rw [hR]; exact Nat.le_of_ble_eq_true rfl, by rw [hR]; exact Nat.le_of_ble_eq_true rfl⟩ dX5_init_1 ?_
  refine J_aload_n X dX5_init_4 (i := 0) rfl rfl ?_
  refine J_bipush X (v := (36 : Int32)) dX5_init_5 (by decide) ?_
  refine C_newa X (atype := .int) (ty := .int) (c := 0) (len := 36) (a0 := (36, .inl (fun _ => 0))) (by omega) (fun _ => rfl) (fun U c1 c2 g1 g2 => Option.some.inj (g1.symm.trans g2)) (fun b cA S => by rw [ce_1 (show KD 36 = (1, 36) by decide)]; simp [rwN, zI]) ac_int rfl (fun _ => rfl) (by decide) (by decide) (by decide) ⟨by rw [hR]; exact Nat.le_of_ble_eq_true rfl, by rw [hR]; exact Nat.le_of_ble_eq_true rfl⟩ dX5_init_7 (fun S1 hS1 => ?_)
  have hρS1 : S1.2.2 = RHO := by rw [hS1]; exact hρ
  clear hS1
  refine C_putF X (kf := 0) cb5 (by decide) (by decide) (by decide) (by rw [hρS1]; decide) (by decide) fl_X5_9 (fun _ _ _ => rfl) rfl hin rfl (fun _ => rfl) (fun _ => rfl) dX5_init_9 ?_
  exact C_vret X (by omega) hρS1 dX5_init_12
theorem df_37_38 : ∀ (b : Nat) (S : St) (j : Nat), j < 5 → defaultValue (tyC 5 j) = fv b (rwN (NT 38) (zI S 37)) 37 j (tyC 5 j) := df_of 37 38 5 rfl (by decide +kernel)
set_option maxRecDepth 20000 in
def fi_X5_init_37 (S : St) : Option (Unit × St) := nm (zI S 38) fun S1 => some ((), S1)
set_option maxRecDepth 20000 in
set_option maxHeartbeats 4000000 in
theorem I_X5_init_37 (G : GG) (hDG : ∀ a, gD G a → False) (S : St) : CI G yX5_init cX5_init 1 1 1 36 [.ref 37] 38 38 S 39 39 (fi_X5_init_37 S) := by
  refine CI_of (ls := [some (.ref 37)]) hDG (by decide) rfl (Nat.le_of_ble_eq_true rfl) rfl ?_
  intro K hG X hR hin hz hρ
  subst hG
  unfold fi_X5_init_37
  refine J_aload_n X dX5_init_0 (i := 0) rfl rfl ?_
  refine C_obj X ml_X5_3 (Nat.le_of_ble_eq_true rfl) ⟨by rw [hR]; exact Nat.le_of_ble_eq_true rfl, by rw [hR]; exact Nat.le_of_ble_eq_true rfl⟩ dX5_init_1 ?_
  refine J_aload_n X dX5_init_4 (i := 0) rfl rfl ?_
  refine J_bipush X (v := (36 : Int32)) dX5_init_5 (by decide) ?_
  refine C_newa X (atype := .int) (ty := .int) (c := 0) (len := 36) (a0 := (36, .inl (fun _ => 0))) (by omega) (fun _ => rfl) (fun U c1 c2 g1 g2 => Option.some.inj (g1.symm.trans g2)) (fun b cA S => by rw [ce_1 (show KD 38 = (1, 36) by decide)]; simp [rwN, zI]) ac_int rfl (fun _ => rfl) (by decide) (by decide) (by decide) ⟨by rw [hR]; exact Nat.le_of_ble_eq_true rfl, by rw [hR]; exact Nat.le_of_ble_eq_true rfl⟩ dX5_init_7 (fun S1 hS1 => ?_)
  have hρS1 : S1.2.2 = RHO := by rw [hS1]; exact hρ
  clear hS1
  refine C_putF X (kf := 0) cb5 (by decide) (by decide) (by decide) (by rw [hρS1]; decide) (by decide) fl_X5_9 (fun _ _ _ => rfl) rfl hin rfl (fun _ => rfl) (fun _ => rfl) dX5_init_9 ?_
  exact C_vret X (by omega) hρS1 dX5_init_12
theorem df_39_40 : ∀ (b : Nat) (S : St) (j : Nat), j < 4 → defaultValue (tyC 8 j) = fv b (rwN (NT 40) (zI S 39)) 39 j (tyC 8 j) := df_of 39 40 8 rfl (by decide +kernel)
theorem hy_X8_init : yX8_init.cls ≠ "java/lang/invoke/MethodHandle" ∧ yX8_init.cls ≠ "java/lang/invoke/VarHandle" ∧ (parseMethodDescriptor yX8_init.desc).map (fun d => d.parameters.length) = some 2 := by decide +kernel
set_option maxRecDepth 20000 in
def fi_X8_init_39 (S : St) : Option (Unit × St) := some ((), S)
set_option maxRecDepth 20000 in
set_option maxHeartbeats 4000000 in
theorem I_X8_init_39 (G : GG) (hDG : ∀ a, gD G a → False) (S : St) : CI G yX8_init cX8_init 3 1 0 0 [.ref 39, .ref 2, .ref 35] 40 40 S 42 40 (fi_X8_init_39 S) := by
  refine CI_of (ls := [some (.ref 39), some (.ref 2), some (.ref 35)]) hDG (by decide) rfl (Nat.le_of_ble_eq_true rfl) rfl ?_
  intro K hG X hR hin hz hρ
  subst hG
  unfold fi_X8_init_39
  refine J_aload_n X dX8_init_0 (i := 0) rfl rfl ?_
  refine C_obj X ml_X8_3 (Nat.le_of_ble_eq_true rfl) ⟨by rw [hR]; exact Nat.le_of_ble_eq_true rfl, by rw [hR]; exact Nat.le_of_ble_eq_true rfl⟩ dX8_init_1 ?_
  refine J_aload_n X dX8_init_4 (i := 0) rfl rfl ?_
  refine J_aload_n X dX8_init_5 (i := 1) rfl rfl ?_
  refine C_putR X (kf := 0) cb8 (by decide) (by decide) (by decide) (by rw [hρ]; decide) (by decide) fl_X8_9 (fun _ _ _ => rfl) rfl (fun _ => rfl) (fun _ => rfl) dX8_init_6 ?_
  refine J_aload_n X dX8_init_9 (i := 0) rfl rfl ?_
  refine J_aload_n X dX8_init_10 (i := 2) rfl rfl ?_
  refine C_putF X (kf := 1) cb8 (by decide) (by decide) (by decide) (by rw [hρ]; decide) (by decide) fl_X8_15 (fun _ _ _ => rfl) rfl hin rfl (fun _ => rfl) (fun _ => rfl) dX8_init_11 ?_
  exact C_vret X (by omega) hρ dX8_init_14
theorem df_40_43 : ∀ (b : Nat) (S : St) (j : Nat), j < 4 → defaultValue (tyC 8 j) = fv b (rwN (NT 43) (zI S 40)) 40 j (tyC 8 j) := df_of 40 43 8 rfl (by decide +kernel)
set_option maxRecDepth 20000 in
def fi_X8_init_40 (S : St) : Option (Unit × St) := some ((), S)
set_option maxRecDepth 20000 in
set_option maxHeartbeats 4000000 in
theorem I_X8_init_40 (G : GG) (hDG : ∀ a, gD G a → False) (S : St) : CI G yX8_init cX8_init 3 1 0 0 [.ref 40, .ref 2, .ref 37] 43 41 S 45 41 (fi_X8_init_40 S) := by
  refine CI_of (ls := [some (.ref 40), some (.ref 2), some (.ref 37)]) hDG (by decide) rfl (Nat.le_of_ble_eq_true rfl) rfl ?_
  intro K hG X hR hin hz hρ
  subst hG
  unfold fi_X8_init_40
  refine J_aload_n X dX8_init_0 (i := 0) rfl rfl ?_
  refine C_obj X ml_X8_3 (Nat.le_of_ble_eq_true rfl) ⟨by rw [hR]; exact Nat.le_of_ble_eq_true rfl, by rw [hR]; exact Nat.le_of_ble_eq_true rfl⟩ dX8_init_1 ?_
  refine J_aload_n X dX8_init_4 (i := 0) rfl rfl ?_
  refine J_aload_n X dX8_init_5 (i := 1) rfl rfl ?_
  refine C_putR X (kf := 0) cb8 (by decide) (by decide) (by decide) (by rw [hρ]; decide) (by decide) fl_X8_9 (fun _ _ _ => rfl) rfl (fun _ => rfl) (fun _ => rfl) dX8_init_6 ?_
  refine J_aload_n X dX8_init_9 (i := 0) rfl rfl ?_
  refine J_aload_n X dX8_init_10 (i := 2) rfl rfl ?_
  refine C_putF X (kf := 1) cb8 (by decide) (by decide) (by decide) (by rw [hρ]; decide) (by decide) fl_X8_15 (fun _ _ _ => rfl) rfl hin rfl (fun _ => rfl) (fun _ => rfl) dX8_init_11 ?_
  exact C_vret X (by omega) hρ dX8_init_14
theorem df_41_46 : ∀ (b : Nat) (S : St) (j : Nat), j < 3 → defaultValue (tyC 1 j) = fv b (rwN (NT 46) (zI S 41)) 41 j (tyC 1 j) := df_of 41 46 1 rfl (by decide +kernel)
theorem df_43_47 : ∀ (b : Nat) (S : St) (j : Nat), j < 5 → defaultValue (tyC 5 j) = fv b (rwN (NT 47) (zI S 43)) 43 j (tyC 5 j) := df_of 43 47 5 rfl (by decide +kernel)
set_option maxRecDepth 20000 in
def fi_X5_init_43 (S : St) : Option (Unit × St) := nm (zI S 44) fun S1 => some ((), S1)
set_option maxRecDepth 20000 in
set_option maxHeartbeats 4000000 in
theorem I_X5_init_43 (G : GG) (hDG : ∀ a, gD G a → False) (S : St) : CI G yX5_init cX5_init 1 1 1 36 [.ref 43] 47 44 S 48 45 (fi_X5_init_43 S) := by
  refine CI_of (ls := [some (.ref 43)]) hDG (by decide) rfl (Nat.le_of_ble_eq_true rfl) rfl ?_
  intro K hG X hR hin hz hρ
  subst hG
  unfold fi_X5_init_43
  refine J_aload_n X dX5_init_0 (i := 0) rfl rfl ?_
  refine C_obj X ml_X5_3 (Nat.le_of_ble_eq_true rfl) ⟨by rw [hR]; exact Nat.le_of_ble_eq_true rfl, by rw [hR]; exact Nat.le_of_ble_eq_true rfl⟩ dX5_init_1 ?_
  refine J_aload_n X dX5_init_4 (i := 0) rfl rfl ?_
  refine J_bipush X (v := (36 : Int32)) dX5_init_5 (by decide) ?_
  refine C_newa X (atype := .int) (ty := .int) (c := 0) (len := 36) (a0 := (36, .inl (fun _ => 0))) (by omega) (fun _ => rfl) (fun U c1 c2 g1 g2 => Option.some.inj (g1.symm.trans g2)) (fun b cA S => by rw [ce_1 (show KD 44 = (1, 36) by decide)]; simp [rwN, zI]) ac_int rfl (fun _ => rfl) (by decide) (by decide) (by decide) ⟨by rw [hR]; exact Nat.le_of_ble_eq_true rfl, by rw [hR]; exact Nat.le_of_ble_eq_true rfl⟩ dX5_init_7 (fun S1 hS1 => ?_)
  have hρS1 : S1.2.2 = RHO := by rw [hS1]; exact hρ
  clear hS1
  refine C_putF X (kf := 0) cb5 (by decide) (by decide) (by decide) (by rw [hρS1]; decide) (by decide) fl_X5_9 (fun _ _ _ => rfl) rfl hin rfl (fun _ => rfl) (fun _ => rfl) dX5_init_9 ?_
  exact C_vret X (by omega) hρS1 dX5_init_12
theorem df_45_49 : ∀ (b : Nat) (S : St) (j : Nat), j < 5 → defaultValue (tyC 5 j) = fv b (rwN (NT 49) (zI S 45)) 45 j (tyC 5 j) := df_of 45 49 5 rfl (by decide +kernel)
set_option maxRecDepth 20000 in
def fi_X5_init_45 (S : St) : Option (Unit × St) := nm (zI S 46) fun S1 => some ((), S1)
set_option maxRecDepth 20000 in
set_option maxHeartbeats 4000000 in
theorem I_X5_init_45 (G : GG) (hDG : ∀ a, gD G a → False) (S : St) : CI G yX5_init cX5_init 1 1 1 36 [.ref 45] 49 46 S 50 47 (fi_X5_init_45 S) := by
  refine CI_of (ls := [some (.ref 45)]) hDG (by decide) rfl (Nat.le_of_ble_eq_true rfl) rfl ?_
  intro K hG X hR hin hz hρ
  subst hG
  unfold fi_X5_init_45
  refine J_aload_n X dX5_init_0 (i := 0) rfl rfl ?_
  refine C_obj X ml_X5_3 (Nat.le_of_ble_eq_true rfl) ⟨by rw [hR]; exact Nat.le_of_ble_eq_true rfl, by rw [hR]; exact Nat.le_of_ble_eq_true rfl⟩ dX5_init_1 ?_
  refine J_aload_n X dX5_init_4 (i := 0) rfl rfl ?_
  refine J_bipush X (v := (36 : Int32)) dX5_init_5 (by decide) ?_
  refine C_newa X (atype := .int) (ty := .int) (c := 0) (len := 36) (a0 := (36, .inl (fun _ => 0))) (by omega) (fun _ => rfl) (fun U c1 c2 g1 g2 => Option.some.inj (g1.symm.trans g2)) (fun b cA S => by rw [ce_1 (show KD 46 = (1, 36) by decide)]; simp [rwN, zI]) ac_int rfl (fun _ => rfl) (by decide) (by decide) (by decide) ⟨by rw [hR]; exact Nat.le_of_ble_eq_true rfl, by rw [hR]; exact Nat.le_of_ble_eq_true rfl⟩ dX5_init_7 (fun S1 hS1 => ?_)
  have hρS1 : S1.2.2 = RHO := by rw [hS1]; exact hρ
  clear hS1
  refine C_putF X (kf := 0) cb5 (by decide) (by decide) (by decide) (by rw [hρS1]; decide) (by decide) fl_X5_9 (fun _ _ _ => rfl) rfl hin rfl (fun _ => rfl) (fun _ => rfl) dX5_init_9 ?_
  exact C_vret X (by omega) hρS1 dX5_init_12
theorem df_47_51 : ∀ (b : Nat) (S : St) (j : Nat), j < 5 → defaultValue (tyC 5 j) = fv b (rwN (NT 51) (zI S 47)) 47 j (tyC 5 j) := df_of 47 51 5 rfl (by decide +kernel)
set_option maxRecDepth 20000 in
def fi_X5_init_47 (S : St) : Option (Unit × St) := nm (zI S 48) fun S1 => some ((), S1)
set_option maxRecDepth 20000 in
set_option maxHeartbeats 4000000 in
theorem I_X5_init_47 (G : GG) (hDG : ∀ a, gD G a → False) (S : St) : CI G yX5_init cX5_init 1 1 1 36 [.ref 47] 51 48 S 52 49 (fi_X5_init_47 S) := by
  refine CI_of (ls := [some (.ref 47)]) hDG (by decide) rfl (Nat.le_of_ble_eq_true rfl) rfl ?_
  intro K hG X hR hin hz hρ
  subst hG
  unfold fi_X5_init_47
  refine J_aload_n X dX5_init_0 (i := 0) rfl rfl ?_
  refine C_obj X ml_X5_3 (Nat.le_of_ble_eq_true rfl) ⟨by rw [hR]; exact Nat.le_of_ble_eq_true rfl, by rw [hR]; exact Nat.le_of_ble_eq_true rfl⟩ dX5_init_1 ?_
  refine J_aload_n X dX5_init_4 (i := 0) rfl rfl ?_
  refine J_bipush X (v := (36 : Int32)) dX5_init_5 (by decide) ?_
  refine C_newa X (atype := .int) (ty := .int) (c := 0) (len := 36) (a0 := (36, .inl (fun _ => 0))) (by omega) (fun _ => rfl) (fun U c1 c2 g1 g2 => Option.some.inj (g1.symm.trans g2)) (fun b cA S => by rw [ce_1 (show KD 48 = (1, 36) by decide)]; simp [rwN, zI]) ac_int rfl (fun _ => rfl) (by decide) (by decide) (by decide) ⟨by rw [hR]; exact Nat.le_of_ble_eq_true rfl, by rw [hR]; exact Nat.le_of_ble_eq_true rfl⟩ dX5_init_7 (fun S1 hS1 => ?_)
  have hρS1 : S1.2.2 = RHO := by rw [hS1]; exact hρ
  clear hS1
  refine C_putF X (kf := 0) cb5 (by decide) (by decide) (by decide) (by rw [hρS1]; decide) (by decide) fl_X5_9 (fun _ _ _ => rfl) rfl hin rfl (fun _ => rfl) (fun _ => rfl) dX5_init_9 ?_
  exact C_vret X (by omega) hρS1 dX5_init_12
theorem df_49_53 : ∀ (b : Nat) (S : St) (j : Nat), j < 5 → defaultValue (tyC 5 j) = fv b (rwN (NT 53) (zI S 49)) 49 j (tyC 5 j) := df_of 49 53 5 rfl (by decide +kernel)
set_option maxRecDepth 20000 in
def fi_X5_init_49 (S : St) : Option (Unit × St) := nm (zI S 50) fun S1 => some ((), S1)
set_option maxRecDepth 20000 in
set_option maxHeartbeats 4000000 in
theorem I_X5_init_49 (G : GG) (hDG : ∀ a, gD G a → False) (S : St) : CI G yX5_init cX5_init 1 1 1 36 [.ref 49] 53 50 S 54 51 (fi_X5_init_49 S) := by
  refine CI_of (ls := [some (.ref 49)]) hDG (by decide) rfl (Nat.le_of_ble_eq_true rfl) rfl ?_
  intro K hG X hR hin hz hρ
  subst hG
  unfold fi_X5_init_49
  refine J_aload_n X dX5_init_0 (i := 0) rfl rfl ?_
  refine C_obj X ml_X5_3 (Nat.le_of_ble_eq_true rfl) ⟨by rw [hR]; exact Nat.le_of_ble_eq_true rfl, by rw [hR]; exact Nat.le_of_ble_eq_true rfl⟩ dX5_init_1 ?_
  refine J_aload_n X dX5_init_4 (i := 0) rfl rfl ?_
  refine J_bipush X (v := (36 : Int32)) dX5_init_5 (by decide) ?_
  refine C_newa X (atype := .int) (ty := .int) (c := 0) (len := 36) (a0 := (36, .inl (fun _ => 0))) (by omega) (fun _ => rfl) (fun U c1 c2 g1 g2 => Option.some.inj (g1.symm.trans g2)) (fun b cA S => by rw [ce_1 (show KD 50 = (1, 36) by decide)]; simp [rwN, zI]) ac_int rfl (fun _ => rfl) (by decide) (by decide) (by decide) ⟨by rw [hR]; exact Nat.le_of_ble_eq_true rfl, by rw [hR]; exact Nat.le_of_ble_eq_true rfl⟩ dX5_init_7 (fun S1 hS1 => ?_)
  have hρS1 : S1.2.2 = RHO := by rw [hS1]; exact hρ
  clear hS1
  refine C_putF X (kf := 0) cb5 (by decide) (by decide) (by decide) (by rw [hρS1]; decide) (by decide) fl_X5_9 (fun _ _ _ => rfl) rfl hin rfl (fun _ => rfl) (fun _ => rfl) dX5_init_9 ?_
  exact C_vret X (by omega) hρS1 dX5_init_12
theorem df_51_55 : ∀ (b : Nat) (S : St) (j : Nat), j < 5 → defaultValue (tyC 5 j) = fv b (rwN (NT 55) (zI S 51)) 51 j (tyC 5 j) := df_of 51 55 5 rfl (by decide +kernel)
set_option maxRecDepth 20000 in
def fi_X5_init_51 (S : St) : Option (Unit × St) := nm (zI S 52) fun S1 => some ((), S1)
set_option maxRecDepth 20000 in
set_option maxHeartbeats 4000000 in
theorem I_X5_init_51 (G : GG) (hDG : ∀ a, gD G a → False) (S : St) : CI G yX5_init cX5_init 1 1 1 36 [.ref 51] 55 52 S 56 53 (fi_X5_init_51 S) := by
  refine CI_of (ls := [some (.ref 51)]) hDG (by decide) rfl (Nat.le_of_ble_eq_true rfl) rfl ?_
  intro K hG X hR hin hz hρ
  subst hG
  unfold fi_X5_init_51
  refine J_aload_n X dX5_init_0 (i := 0) rfl rfl ?_
  refine C_obj X ml_X5_3 (Nat.le_of_ble_eq_true rfl) ⟨by rw [hR]; exact Nat.le_of_ble_eq_true rfl, by rw [hR]; exact Nat.le_of_ble_eq_true rfl⟩ dX5_init_1 ?_
  refine J_aload_n X dX5_init_4 (i := 0) rfl rfl ?_
  refine J_bipush X (v := (36 : Int32)) dX5_init_5 (by decide) ?_
  refine C_newa X (atype := .int) (ty := .int) (c := 0) (len := 36) (a0 := (36, .inl (fun _ => 0))) (by omega) (fun _ => rfl) (fun U c1 c2 g1 g2 => Option.some.inj (g1.symm.trans g2)) (fun b cA S => by rw [ce_1 (show KD 52 = (1, 36) by decide)]; simp [rwN, zI]) ac_int rfl (fun _ => rfl) (by decide) (by decide) (by decide) ⟨by rw [hR]; exact Nat.le_of_ble_eq_true rfl, by rw [hR]; exact Nat.le_of_ble_eq_true rfl⟩ dX5_init_7 (fun S1 hS1 => ?_)
  have hρS1 : S1.2.2 = RHO := by rw [hS1]; exact hρ
  clear hS1
  refine C_putF X (kf := 0) cb5 (by decide) (by decide) (by decide) (by rw [hρS1]; decide) (by decide) fl_X5_9 (fun _ _ _ => rfl) rfl hin rfl (fun _ => rfl) (fun _ => rfl) dX5_init_9 ?_
  exact C_vret X (by omega) hρS1 dX5_init_12
theorem df_53_57 : ∀ (b : Nat) (S : St) (j : Nat), j < 5 → defaultValue (tyC 5 j) = fv b (rwN (NT 57) (zI S 53)) 53 j (tyC 5 j) := df_of 53 57 5 rfl (by decide +kernel)
set_option maxRecDepth 20000 in
def fi_X5_init_53 (S : St) : Option (Unit × St) := nm (zI S 54) fun S1 => some ((), S1)
set_option maxRecDepth 20000 in
set_option maxHeartbeats 4000000 in
theorem I_X5_init_53 (G : GG) (hDG : ∀ a, gD G a → False) (S : St) : CI G yX5_init cX5_init 1 1 1 36 [.ref 53] 57 54 S 58 55 (fi_X5_init_53 S) := by
  refine CI_of (ls := [some (.ref 53)]) hDG (by decide) rfl (Nat.le_of_ble_eq_true rfl) rfl ?_
  intro K hG X hR hin hz hρ
  subst hG
  unfold fi_X5_init_53
  refine J_aload_n X dX5_init_0 (i := 0) rfl rfl ?_
  refine C_obj X ml_X5_3 (Nat.le_of_ble_eq_true rfl) ⟨by rw [hR]; exact Nat.le_of_ble_eq_true rfl, by rw [hR]; exact Nat.le_of_ble_eq_true rfl⟩ dX5_init_1 ?_
  refine J_aload_n X dX5_init_4 (i := 0) rfl rfl ?_
  refine J_bipush X (v := (36 : Int32)) dX5_init_5 (by decide) ?_
  refine C_newa X (atype := .int) (ty := .int) (c := 0) (len := 36) (a0 := (36, .inl (fun _ => 0))) (by omega) (fun _ => rfl) (fun U c1 c2 g1 g2 => Option.some.inj (g1.symm.trans g2)) (fun b cA S => by rw [ce_1 (show KD 54 = (1, 36) by decide)]; simp [rwN, zI]) ac_int rfl (fun _ => rfl) (by decide) (by decide) (by decide) ⟨by rw [hR]; exact Nat.le_of_ble_eq_true rfl, by rw [hR]; exact Nat.le_of_ble_eq_true rfl⟩ dX5_init_7 (fun S1 hS1 => ?_)
  have hρS1 : S1.2.2 = RHO := by rw [hS1]; exact hρ
  clear hS1
  refine C_putF X (kf := 0) cb5 (by decide) (by decide) (by decide) (by rw [hρS1]; decide) (by decide) fl_X5_9 (fun _ _ _ => rfl) rfl hin rfl (fun _ => rfl) (fun _ => rfl) dX5_init_9 ?_
  exact C_vret X (by omega) hρS1 dX5_init_12
theorem df_55_59 : ∀ (b : Nat) (S : St) (j : Nat), j < 5 → defaultValue (tyC 5 j) = fv b (rwN (NT 59) (zI S 55)) 55 j (tyC 5 j) := df_of 55 59 5 rfl (by decide +kernel)
set_option maxRecDepth 20000 in
def fi_X5_init_55 (S : St) : Option (Unit × St) := nm (zI S 56) fun S1 => some ((), S1)
set_option maxRecDepth 20000 in
set_option maxHeartbeats 4000000 in
theorem I_X5_init_55 (G : GG) (hDG : ∀ a, gD G a → False) (S : St) : CI G yX5_init cX5_init 1 1 1 36 [.ref 55] 59 56 S 60 57 (fi_X5_init_55 S) := by
  refine CI_of (ls := [some (.ref 55)]) hDG (by decide) rfl (Nat.le_of_ble_eq_true rfl) rfl ?_
  intro K hG X hR hin hz hρ
  subst hG
  unfold fi_X5_init_55
  refine J_aload_n X dX5_init_0 (i := 0) rfl rfl ?_
  refine C_obj X ml_X5_3 (Nat.le_of_ble_eq_true rfl) ⟨by rw [hR]; exact Nat.le_of_ble_eq_true rfl, by rw [hR]; exact Nat.le_of_ble_eq_true rfl⟩ dX5_init_1 ?_
  refine J_aload_n X dX5_init_4 (i := 0) rfl rfl ?_
  refine J_bipush X (v := (36 : Int32)) dX5_init_5 (by decide) ?_
  refine C_newa X (atype := .int) (ty := .int) (c := 0) (len := 36) (a0 := (36, .inl (fun _ => 0))) (by omega) (fun _ => rfl) (fun U c1 c2 g1 g2 => Option.some.inj (g1.symm.trans g2)) (fun b cA S => by rw [ce_1 (show KD 56 = (1, 36) by decide)]; simp [rwN, zI]) ac_int rfl (fun _ => rfl) (by decide) (by decide) (by decide) ⟨by rw [hR]; exact Nat.le_of_ble_eq_true rfl, by rw [hR]; exact Nat.le_of_ble_eq_true rfl⟩ dX5_init_7 (fun S1 hS1 => ?_)
  have hρS1 : S1.2.2 = RHO := by rw [hS1]; exact hρ
  clear hS1
  refine C_putF X (kf := 0) cb5 (by decide) (by decide) (by decide) (by rw [hρS1]; decide) (by decide) fl_X5_9 (fun _ _ _ => rfl) rfl hin rfl (fun _ => rfl) (fun _ => rfl) dX5_init_9 ?_
  exact C_vret X (by omega) hρS1 dX5_init_12
theorem df_57_61 : ∀ (b : Nat) (S : St) (j : Nat), j < 5 → defaultValue (tyC 5 j) = fv b (rwN (NT 61) (zI S 57)) 57 j (tyC 5 j) := df_of 57 61 5 rfl (by decide +kernel)
set_option maxRecDepth 20000 in
def fi_X5_init_57 (S : St) : Option (Unit × St) := nm (zI S 58) fun S1 => some ((), S1)
set_option maxRecDepth 20000 in
set_option maxHeartbeats 4000000 in
theorem I_X5_init_57 (G : GG) (hDG : ∀ a, gD G a → False) (S : St) : CI G yX5_init cX5_init 1 1 1 36 [.ref 57] 61 58 S 62 59 (fi_X5_init_57 S) := by
  refine CI_of (ls := [some (.ref 57)]) hDG (by decide) rfl (Nat.le_of_ble_eq_true rfl) rfl ?_
  intro K hG X hR hin hz hρ
  subst hG
  unfold fi_X5_init_57
  refine J_aload_n X dX5_init_0 (i := 0) rfl rfl ?_
  refine C_obj X ml_X5_3 (Nat.le_of_ble_eq_true rfl) ⟨by rw [hR]; exact Nat.le_of_ble_eq_true rfl, by rw [hR]; exact Nat.le_of_ble_eq_true rfl⟩ dX5_init_1 ?_
  refine J_aload_n X dX5_init_4 (i := 0) rfl rfl ?_
  refine J_bipush X (v := (36 : Int32)) dX5_init_5 (by decide) ?_
  refine C_newa X (atype := .int) (ty := .int) (c := 0) (len := 36) (a0 := (36, .inl (fun _ => 0))) (by omega) (fun _ => rfl) (fun U c1 c2 g1 g2 => Option.some.inj (g1.symm.trans g2)) (fun b cA S => by rw [ce_1 (show KD 58 = (1, 36) by decide)]; simp [rwN, zI]) ac_int rfl (fun _ => rfl) (by decide) (by decide) (by decide) ⟨by rw [hR]; exact Nat.le_of_ble_eq_true rfl, by rw [hR]; exact Nat.le_of_ble_eq_true rfl⟩ dX5_init_7 (fun S1 hS1 => ?_)
  have hρS1 : S1.2.2 = RHO := by rw [hS1]; exact hρ
  clear hS1
  refine C_putF X (kf := 0) cb5 (by decide) (by decide) (by decide) (by rw [hρS1]; decide) (by decide) fl_X5_9 (fun _ _ _ => rfl) rfl hin rfl (fun _ => rfl) (fun _ => rfl) dX5_init_9 ?_
  exact C_vret X (by omega) hρS1 dX5_init_12
theorem df_59_63 : ∀ (b : Nat) (S : St) (j : Nat), j < 5 → defaultValue (tyC 5 j) = fv b (rwN (NT 63) (zI S 59)) 59 j (tyC 5 j) := df_of 59 63 5 rfl (by decide +kernel)
set_option maxRecDepth 20000 in
def fi_X5_init_59 (S : St) : Option (Unit × St) := nm (zI S 60) fun S1 => some ((), S1)
set_option maxRecDepth 20000 in
set_option maxHeartbeats 4000000 in
theorem I_X5_init_59 (G : GG) (hDG : ∀ a, gD G a → False) (S : St) : CI G yX5_init cX5_init 1 1 1 36 [.ref 59] 63 60 S 64 61 (fi_X5_init_59 S) := by
  refine CI_of (ls := [some (.ref 59)]) hDG (by decide) rfl (Nat.le_of_ble_eq_true rfl) rfl ?_
  intro K hG X hR hin hz hρ
  subst hG
  unfold fi_X5_init_59
  refine J_aload_n X dX5_init_0 (i := 0) rfl rfl ?_
  refine C_obj X ml_X5_3 (Nat.le_of_ble_eq_true rfl) ⟨by rw [hR]; exact Nat.le_of_ble_eq_true rfl, by rw [hR]; exact Nat.le_of_ble_eq_true rfl⟩ dX5_init_1 ?_
  refine J_aload_n X dX5_init_4 (i := 0) rfl rfl ?_
  refine J_bipush X (v := (36 : Int32)) dX5_init_5 (by decide) ?_
  refine C_newa X (atype := .int) (ty := .int) (c := 0) (len := 36) (a0 := (36, .inl (fun _ => 0))) (by omega) (fun _ => rfl) (fun U c1 c2 g1 g2 => Option.some.inj (g1.symm.trans g2)) (fun b cA S => by rw [ce_1 (show KD 60 = (1, 36) by decide)]; simp [rwN, zI]) ac_int rfl (fun _ => rfl) (by decide) (by decide) (by decide) ⟨by rw [hR]; exact Nat.le_of_ble_eq_true rfl, by rw [hR]; exact Nat.le_of_ble_eq_true rfl⟩ dX5_init_7 (fun S1 hS1 => ?_)
  have hρS1 : S1.2.2 = RHO := by rw [hS1]; exact hρ
  clear hS1
  refine C_putF X (kf := 0) cb5 (by decide) (by decide) (by decide) (by rw [hρS1]; decide) (by decide) fl_X5_9 (fun _ _ _ => rfl) rfl hin rfl (fun _ => rfl) (fun _ => rfl) dX5_init_9 ?_
  exact C_vret X (by omega) hρS1 dX5_init_12
theorem df_61_65 : ∀ (b : Nat) (S : St) (j : Nat), j < 5 → defaultValue (tyC 5 j) = fv b (rwN (NT 65) (zI S 61)) 61 j (tyC 5 j) := df_of 61 65 5 rfl (by decide +kernel)
set_option maxRecDepth 20000 in
def fi_X5_init_61 (S : St) : Option (Unit × St) := nm (zI S 62) fun S1 => some ((), S1)
set_option maxRecDepth 20000 in
set_option maxHeartbeats 4000000 in
theorem I_X5_init_61 (G : GG) (hDG : ∀ a, gD G a → False) (S : St) : CI G yX5_init cX5_init 1 1 1 36 [.ref 61] 65 62 S 66 63 (fi_X5_init_61 S) := by
  refine CI_of (ls := [some (.ref 61)]) hDG (by decide) rfl (Nat.le_of_ble_eq_true rfl) rfl ?_
  intro K hG X hR hin hz hρ
  subst hG
  unfold fi_X5_init_61
  refine J_aload_n X dX5_init_0 (i := 0) rfl rfl ?_
  refine C_obj X ml_X5_3 (Nat.le_of_ble_eq_true rfl) ⟨by rw [hR]; exact Nat.le_of_ble_eq_true rfl, by rw [hR]; exact Nat.le_of_ble_eq_true rfl⟩ dX5_init_1 ?_
  refine J_aload_n X dX5_init_4 (i := 0) rfl rfl ?_
  refine J_bipush X (v := (36 : Int32)) dX5_init_5 (by decide) ?_
  refine C_newa X (atype := .int) (ty := .int) (c := 0) (len := 36) (a0 := (36, .inl (fun _ => 0))) (by omega) (fun _ => rfl) (fun U c1 c2 g1 g2 => Option.some.inj (g1.symm.trans g2)) (fun b cA S => by rw [ce_1 (show KD 62 = (1, 36) by decide)]; simp [rwN, zI]) ac_int rfl (fun _ => rfl) (by decide) (by decide) (by decide) ⟨by rw [hR]; exact Nat.le_of_ble_eq_true rfl, by rw [hR]; exact Nat.le_of_ble_eq_true rfl⟩ dX5_init_7 (fun S1 hS1 => ?_)
  have hρS1 : S1.2.2 = RHO := by rw [hS1]; exact hρ
  clear hS1
  refine C_putF X (kf := 0) cb5 (by decide) (by decide) (by decide) (by rw [hρS1]; decide) (by decide) fl_X5_9 (fun _ _ _ => rfl) rfl hin rfl (fun _ => rfl) (fun _ => rfl) dX5_init_9 ?_
  exact C_vret X (by omega) hρS1 dX5_init_12
theorem df_63_67 : ∀ (b : Nat) (S : St) (j : Nat), j < 5 → defaultValue (tyC 5 j) = fv b (rwN (NT 67) (zI S 63)) 63 j (tyC 5 j) := df_of 63 67 5 rfl (by decide +kernel)
set_option maxRecDepth 20000 in
def fi_X5_init_63 (S : St) : Option (Unit × St) := nm (zI S 64) fun S1 => some ((), S1)
set_option maxRecDepth 20000 in
set_option maxHeartbeats 4000000 in
theorem I_X5_init_63 (G : GG) (hDG : ∀ a, gD G a → False) (S : St) : CI G yX5_init cX5_init 1 1 1 36 [.ref 63] 67 64 S 68 65 (fi_X5_init_63 S) := by
  refine CI_of (ls := [some (.ref 63)]) hDG (by decide) rfl (Nat.le_of_ble_eq_true rfl) rfl ?_
  intro K hG X hR hin hz hρ
  subst hG
  unfold fi_X5_init_63
  refine J_aload_n X dX5_init_0 (i := 0) rfl rfl ?_
  refine C_obj X ml_X5_3 (Nat.le_of_ble_eq_true rfl) ⟨by rw [hR]; exact Nat.le_of_ble_eq_true rfl, by rw [hR]; exact Nat.le_of_ble_eq_true rfl⟩ dX5_init_1 ?_
  refine J_aload_n X dX5_init_4 (i := 0) rfl rfl ?_
  refine J_bipush X (v := (36 : Int32)) dX5_init_5 (by decide) ?_
  refine C_newa X (atype := .int) (ty := .int) (c := 0) (len := 36) (a0 := (36, .inl (fun _ => 0))) (by omega) (fun _ => rfl) (fun U c1 c2 g1 g2 => Option.some.inj (g1.symm.trans g2)) (fun b cA S => by rw [ce_1 (show KD 64 = (1, 36) by decide)]; simp [rwN, zI]) ac_int rfl (fun _ => rfl) (by decide) (by decide) (by decide) ⟨by rw [hR]; exact Nat.le_of_ble_eq_true rfl, by rw [hR]; exact Nat.le_of_ble_eq_true rfl⟩ dX5_init_7 (fun S1 hS1 => ?_)
  have hρS1 : S1.2.2 = RHO := by rw [hS1]; exact hρ
  clear hS1
  refine C_putF X (kf := 0) cb5 (by decide) (by decide) (by decide) (by rw [hρS1]; decide) (by decide) fl_X5_9 (fun _ _ _ => rfl) rfl hin rfl (fun _ => rfl) (fun _ => rfl) dX5_init_9 ?_
  exact C_vret X (by omega) hρS1 dX5_init_12
theorem df_65_69 : ∀ (b : Nat) (S : St) (j : Nat), j < 5 → defaultValue (tyC 5 j) = fv b (rwN (NT 69) (zI S 65)) 65 j (tyC 5 j) := df_of 65 69 5 rfl (by decide +kernel)
set_option maxRecDepth 20000 in
def fi_X5_init_65 (S : St) : Option (Unit × St) := nm (zI S 66) fun S1 => some ((), S1)
set_option maxRecDepth 20000 in
set_option maxHeartbeats 4000000 in
theorem I_X5_init_65 (G : GG) (hDG : ∀ a, gD G a → False) (S : St) : CI G yX5_init cX5_init 1 1 1 36 [.ref 65] 69 66 S 70 67 (fi_X5_init_65 S) := by
  refine CI_of (ls := [some (.ref 65)]) hDG (by decide) rfl (Nat.le_of_ble_eq_true rfl) rfl ?_
  intro K hG X hR hin hz hρ
  subst hG
  unfold fi_X5_init_65
  refine J_aload_n X dX5_init_0 (i := 0) rfl rfl ?_
  refine C_obj X ml_X5_3 (Nat.le_of_ble_eq_true rfl) ⟨by rw [hR]; exact Nat.le_of_ble_eq_true rfl, by rw [hR]; exact Nat.le_of_ble_eq_true rfl⟩ dX5_init_1 ?_
  refine J_aload_n X dX5_init_4 (i := 0) rfl rfl ?_
  refine J_bipush X (v := (36 : Int32)) dX5_init_5 (by decide) ?_
  refine C_newa X (atype := .int) (ty := .int) (c := 0) (len := 36) (a0 := (36, .inl (fun _ => 0))) (by omega) (fun _ => rfl) (fun U c1 c2 g1 g2 => Option.some.inj (g1.symm.trans g2)) (fun b cA S => by rw [ce_1 (show KD 66 = (1, 36) by decide)]; simp [rwN, zI]) ac_int rfl (fun _ => rfl) (by decide) (by decide) (by decide) ⟨by rw [hR]; exact Nat.le_of_ble_eq_true rfl, by rw [hR]; exact Nat.le_of_ble_eq_true rfl⟩ dX5_init_7 (fun S1 hS1 => ?_)
  have hρS1 : S1.2.2 = RHO := by rw [hS1]; exact hρ
  clear hS1
  refine C_putF X (kf := 0) cb5 (by decide) (by decide) (by decide) (by rw [hρS1]; decide) (by decide) fl_X5_9 (fun _ _ _ => rfl) rfl hin rfl (fun _ => rfl) (fun _ => rfl) dX5_init_9 ?_
  exact C_vret X (by omega) hρS1 dX5_init_12
theorem df_67_71 : ∀ (b : Nat) (S : St) (j : Nat), j < 5 → defaultValue (tyC 5 j) = fv b (rwN (NT 71) (zI S 67)) 67 j (tyC 5 j) := df_of 67 71 5 rfl (by decide +kernel)
set_option maxRecDepth 20000 in
def fi_X5_init_67 (S : St) : Option (Unit × St) := nm (zI S 68) fun S1 => some ((), S1)
set_option maxRecDepth 20000 in
set_option maxHeartbeats 4000000 in
theorem I_X5_init_67 (G : GG) (hDG : ∀ a, gD G a → False) (S : St) : CI G yX5_init cX5_init 1 1 1 36 [.ref 67] 71 68 S 72 69 (fi_X5_init_67 S) := by
  refine CI_of (ls := [some (.ref 67)]) hDG (by decide) rfl (Nat.le_of_ble_eq_true rfl) rfl ?_
  intro K hG X hR hin hz hρ
  subst hG
  unfold fi_X5_init_67
  refine J_aload_n X dX5_init_0 (i := 0) rfl rfl ?_
  refine C_obj X ml_X5_3 (Nat.le_of_ble_eq_true rfl) ⟨by rw [hR]; exact Nat.le_of_ble_eq_true rfl, by rw [hR]; exact Nat.le_of_ble_eq_true rfl⟩ dX5_init_1 ?_
  refine J_aload_n X dX5_init_4 (i := 0) rfl rfl ?_
  refine J_bipush X (v := (36 : Int32)) dX5_init_5 (by decide) ?_
  refine C_newa X (atype := .int) (ty := .int) (c := 0) (len := 36) (a0 := (36, .inl (fun _ => 0))) (by omega) (fun _ => rfl) (fun U c1 c2 g1 g2 => Option.some.inj (g1.symm.trans g2)) (fun b cA S => by rw [ce_1 (show KD 68 = (1, 36) by decide)]; simp [rwN, zI]) ac_int rfl (fun _ => rfl) (by decide) (by decide) (by decide) ⟨by rw [hR]; exact Nat.le_of_ble_eq_true rfl, by rw [hR]; exact Nat.le_of_ble_eq_true rfl⟩ dX5_init_7 (fun S1 hS1 => ?_)
  have hρS1 : S1.2.2 = RHO := by rw [hS1]; exact hρ
  clear hS1
  refine C_putF X (kf := 0) cb5 (by decide) (by decide) (by decide) (by rw [hρS1]; decide) (by decide) fl_X5_9 (fun _ _ _ => rfl) rfl hin rfl (fun _ => rfl) (fun _ => rfl) dX5_init_9 ?_
  exact C_vret X (by omega) hρS1 dX5_init_12
theorem df_69_73 : ∀ (b : Nat) (S : St) (j : Nat), j < 5 → defaultValue (tyC 5 j) = fv b (rwN (NT 73) (zI S 69)) 69 j (tyC 5 j) := df_of 69 73 5 rfl (by decide +kernel)
set_option maxRecDepth 20000 in
def fi_X5_init_69 (S : St) : Option (Unit × St) := nm (zI S 70) fun S1 => some ((), S1)
set_option maxRecDepth 20000 in
set_option maxHeartbeats 4000000 in
theorem I_X5_init_69 (G : GG) (hDG : ∀ a, gD G a → False) (S : St) : CI G yX5_init cX5_init 1 1 1 36 [.ref 69] 73 70 S 74 71 (fi_X5_init_69 S) := by
  refine CI_of (ls := [some (.ref 69)]) hDG (by decide) rfl (Nat.le_of_ble_eq_true rfl) rfl ?_
  intro K hG X hR hin hz hρ
  subst hG
  unfold fi_X5_init_69
  refine J_aload_n X dX5_init_0 (i := 0) rfl rfl ?_
  refine C_obj X ml_X5_3 (Nat.le_of_ble_eq_true rfl) ⟨by rw [hR]; exact Nat.le_of_ble_eq_true rfl, by rw [hR]; exact Nat.le_of_ble_eq_true rfl⟩ dX5_init_1 ?_
  refine J_aload_n X dX5_init_4 (i := 0) rfl rfl ?_
  refine J_bipush X (v := (36 : Int32)) dX5_init_5 (by decide) ?_
  refine C_newa X (atype := .int) (ty := .int) (c := 0) (len := 36) (a0 := (36, .inl (fun _ => 0))) (by omega) (fun _ => rfl) (fun U c1 c2 g1 g2 => Option.some.inj (g1.symm.trans g2)) (fun b cA S => by rw [ce_1 (show KD 70 = (1, 36) by decide)]; simp [rwN, zI]) ac_int rfl (fun _ => rfl) (by decide) (by decide) (by decide) ⟨by rw [hR]; exact Nat.le_of_ble_eq_true rfl, by rw [hR]; exact Nat.le_of_ble_eq_true rfl⟩ dX5_init_7 (fun S1 hS1 => ?_)
  have hρS1 : S1.2.2 = RHO := by rw [hS1]; exact hρ
  clear hS1
  refine C_putF X (kf := 0) cb5 (by decide) (by decide) (by decide) (by rw [hρS1]; decide) (by decide) fl_X5_9 (fun _ _ _ => rfl) rfl hin rfl (fun _ => rfl) (fun _ => rfl) dX5_init_9 ?_
  exact C_vret X (by omega) hρS1 dX5_init_12
theorem df_71_75 : ∀ (b : Nat) (S : St) (j : Nat), j < 5 → defaultValue (tyC 5 j) = fv b (rwN (NT 75) (zI S 71)) 71 j (tyC 5 j) := df_of 71 75 5 rfl (by decide +kernel)
set_option maxRecDepth 20000 in
def fi_X5_init_71 (S : St) : Option (Unit × St) := nm (zI S 72) fun S1 => some ((), S1)
set_option maxRecDepth 20000 in
set_option maxHeartbeats 4000000 in
theorem I_X5_init_71 (G : GG) (hDG : ∀ a, gD G a → False) (S : St) : CI G yX5_init cX5_init 1 1 1 36 [.ref 71] 75 72 S 76 73 (fi_X5_init_71 S) := by
  refine CI_of (ls := [some (.ref 71)]) hDG (by decide) rfl (Nat.le_of_ble_eq_true rfl) rfl ?_
  intro K hG X hR hin hz hρ
  subst hG
  unfold fi_X5_init_71
  refine J_aload_n X dX5_init_0 (i := 0) rfl rfl ?_
  refine C_obj X ml_X5_3 (Nat.le_of_ble_eq_true rfl) ⟨by rw [hR]; exact Nat.le_of_ble_eq_true rfl, by rw [hR]; exact Nat.le_of_ble_eq_true rfl⟩ dX5_init_1 ?_
  refine J_aload_n X dX5_init_4 (i := 0) rfl rfl ?_
  refine J_bipush X (v := (36 : Int32)) dX5_init_5 (by decide) ?_
  refine C_newa X (atype := .int) (ty := .int) (c := 0) (len := 36) (a0 := (36, .inl (fun _ => 0))) (by omega) (fun _ => rfl) (fun U c1 c2 g1 g2 => Option.some.inj (g1.symm.trans g2)) (fun b cA S => by rw [ce_1 (show KD 72 = (1, 36) by decide)]; simp [rwN, zI]) ac_int rfl (fun _ => rfl) (by decide) (by decide) (by decide) ⟨by rw [hR]; exact Nat.le_of_ble_eq_true rfl, by rw [hR]; exact Nat.le_of_ble_eq_true rfl⟩ dX5_init_7 (fun S1 hS1 => ?_)
  have hρS1 : S1.2.2 = RHO := by rw [hS1]; exact hρ
  clear hS1
  refine C_putF X (kf := 0) cb5 (by decide) (by decide) (by decide) (by rw [hρS1]; decide) (by decide) fl_X5_9 (fun _ _ _ => rfl) rfl hin rfl (fun _ => rfl) (fun _ => rfl) dX5_init_9 ?_
  exact C_vret X (by omega) hρS1 dX5_init_12
theorem df_73_77 : ∀ (b : Nat) (S : St) (j : Nat), j < 5 → defaultValue (tyC 5 j) = fv b (rwN (NT 77) (zI S 73)) 73 j (tyC 5 j) := df_of 73 77 5 rfl (by decide +kernel)
set_option maxRecDepth 20000 in
def fi_X5_init_73 (S : St) : Option (Unit × St) := nm (zI S 74) fun S1 => some ((), S1)
set_option maxRecDepth 20000 in
set_option maxHeartbeats 4000000 in
theorem I_X5_init_73 (G : GG) (hDG : ∀ a, gD G a → False) (S : St) : CI G yX5_init cX5_init 1 1 1 36 [.ref 73] 77 74 S 78 75 (fi_X5_init_73 S) := by
  refine CI_of (ls := [some (.ref 73)]) hDG (by decide) rfl (Nat.le_of_ble_eq_true rfl) rfl ?_
  intro K hG X hR hin hz hρ
  subst hG
  unfold fi_X5_init_73
  refine J_aload_n X dX5_init_0 (i := 0) rfl rfl ?_
  refine C_obj X ml_X5_3 (Nat.le_of_ble_eq_true rfl) ⟨by rw [hR]; exact Nat.le_of_ble_eq_true rfl, by rw [hR]; exact Nat.le_of_ble_eq_true rfl⟩ dX5_init_1 ?_
  refine J_aload_n X dX5_init_4 (i := 0) rfl rfl ?_
  refine J_bipush X (v := (36 : Int32)) dX5_init_5 (by decide) ?_
  refine C_newa X (atype := .int) (ty := .int) (c := 0) (len := 36) (a0 := (36, .inl (fun _ => 0))) (by omega) (fun _ => rfl) (fun U c1 c2 g1 g2 => Option.some.inj (g1.symm.trans g2)) (fun b cA S => by rw [ce_1 (show KD 74 = (1, 36) by decide)]; simp [rwN, zI]) ac_int rfl (fun _ => rfl) (by decide) (by decide) (by decide) ⟨by rw [hR]; exact Nat.le_of_ble_eq_true rfl, by rw [hR]; exact Nat.le_of_ble_eq_true rfl⟩ dX5_init_7 (fun S1 hS1 => ?_)
  have hρS1 : S1.2.2 = RHO := by rw [hS1]; exact hρ
  clear hS1
  refine C_putF X (kf := 0) cb5 (by decide) (by decide) (by decide) (by rw [hρS1]; decide) (by decide) fl_X5_9 (fun _ _ _ => rfl) rfl hin rfl (fun _ => rfl) (fun _ => rfl) dX5_init_9 ?_
  exact C_vret X (by omega) hρS1 dX5_init_12
theorem df_75_79 : ∀ (b : Nat) (S : St) (j : Nat), j < 5 → defaultValue (tyC 5 j) = fv b (rwN (NT 79) (zI S 75)) 75 j (tyC 5 j) := df_of 75 79 5 rfl (by decide +kernel)
set_option maxRecDepth 20000 in
def fi_X5_init_75 (S : St) : Option (Unit × St) := nm (zI S 76) fun S1 => some ((), S1)
set_option maxRecDepth 20000 in
set_option maxHeartbeats 4000000 in
theorem I_X5_init_75 (G : GG) (hDG : ∀ a, gD G a → False) (S : St) : CI G yX5_init cX5_init 1 1 1 36 [.ref 75] 79 76 S 80 77 (fi_X5_init_75 S) := by
  refine CI_of (ls := [some (.ref 75)]) hDG (by decide) rfl (Nat.le_of_ble_eq_true rfl) rfl ?_
  intro K hG X hR hin hz hρ
  subst hG
  unfold fi_X5_init_75
  refine J_aload_n X dX5_init_0 (i := 0) rfl rfl ?_
  refine C_obj X ml_X5_3 (Nat.le_of_ble_eq_true rfl) ⟨by rw [hR]; exact Nat.le_of_ble_eq_true rfl, by rw [hR]; exact Nat.le_of_ble_eq_true rfl⟩ dX5_init_1 ?_
  refine J_aload_n X dX5_init_4 (i := 0) rfl rfl ?_
  refine J_bipush X (v := (36 : Int32)) dX5_init_5 (by decide) ?_
  refine C_newa X (atype := .int) (ty := .int) (c := 0) (len := 36) (a0 := (36, .inl (fun _ => 0))) (by omega) (fun _ => rfl) (fun U c1 c2 g1 g2 => Option.some.inj (g1.symm.trans g2)) (fun b cA S => by rw [ce_1 (show KD 76 = (1, 36) by decide)]; simp [rwN, zI]) ac_int rfl (fun _ => rfl) (by decide) (by decide) (by decide) ⟨by rw [hR]; exact Nat.le_of_ble_eq_true rfl, by rw [hR]; exact Nat.le_of_ble_eq_true rfl⟩ dX5_init_7 (fun S1 hS1 => ?_)
  have hρS1 : S1.2.2 = RHO := by rw [hS1]; exact hρ
  clear hS1
  refine C_putF X (kf := 0) cb5 (by decide) (by decide) (by decide) (by rw [hρS1]; decide) (by decide) fl_X5_9 (fun _ _ _ => rfl) rfl hin rfl (fun _ => rfl) (fun _ => rfl) dX5_init_9 ?_
  exact C_vret X (by omega) hρS1 dX5_init_12
theorem df_77_81 : ∀ (b : Nat) (S : St) (j : Nat), j < 5 → defaultValue (tyC 5 j) = fv b (rwN (NT 81) (zI S 77)) 77 j (tyC 5 j) := df_of 77 81 5 rfl (by decide +kernel)
set_option maxRecDepth 20000 in
def fi_X5_init_77 (S : St) : Option (Unit × St) := nm (zI S 78) fun S1 => some ((), S1)
set_option maxRecDepth 20000 in
set_option maxHeartbeats 4000000 in
theorem I_X5_init_77 (G : GG) (hDG : ∀ a, gD G a → False) (S : St) : CI G yX5_init cX5_init 1 1 1 36 [.ref 77] 81 78 S 82 79 (fi_X5_init_77 S) := by
  refine CI_of (ls := [some (.ref 77)]) hDG (by decide) rfl (Nat.le_of_ble_eq_true rfl) rfl ?_
  intro K hG X hR hin hz hρ
  subst hG
  unfold fi_X5_init_77
  refine J_aload_n X dX5_init_0 (i := 0) rfl rfl ?_
  refine C_obj X ml_X5_3 (Nat.le_of_ble_eq_true rfl) ⟨by rw [hR]; exact Nat.le_of_ble_eq_true rfl, by rw [hR]; exact Nat.le_of_ble_eq_true rfl⟩ dX5_init_1 ?_
  refine J_aload_n X dX5_init_4 (i := 0) rfl rfl ?_
  refine J_bipush X (v := (36 : Int32)) dX5_init_5 (by decide) ?_
  refine C_newa X (atype := .int) (ty := .int) (c := 0) (len := 36) (a0 := (36, .inl (fun _ => 0))) (by omega) (fun _ => rfl) (fun U c1 c2 g1 g2 => Option.some.inj (g1.symm.trans g2)) (fun b cA S => by rw [ce_1 (show KD 78 = (1, 36) by decide)]; simp [rwN, zI]) ac_int rfl (fun _ => rfl) (by decide) (by decide) (by decide) ⟨by rw [hR]; exact Nat.le_of_ble_eq_true rfl, by rw [hR]; exact Nat.le_of_ble_eq_true rfl⟩ dX5_init_7 (fun S1 hS1 => ?_)
  have hρS1 : S1.2.2 = RHO := by rw [hS1]; exact hρ
  clear hS1
  refine C_putF X (kf := 0) cb5 (by decide) (by decide) (by decide) (by rw [hρS1]; decide) (by decide) fl_X5_9 (fun _ _ _ => rfl) rfl hin rfl (fun _ => rfl) (fun _ => rfl) dX5_init_9 ?_
  exact C_vret X (by omega) hρS1 dX5_init_12
theorem df_79_83 : ∀ (b : Nat) (S : St) (j : Nat), j < 5 → defaultValue (tyC 5 j) = fv b (rwN (NT 83) (zI S 79)) 79 j (tyC 5 j) := df_of 79 83 5 rfl (by decide +kernel)
set_option maxRecDepth 20000 in
def fi_X5_init_79 (S : St) : Option (Unit × St) := nm (zI S 80) fun S1 => some ((), S1)
set_option maxRecDepth 20000 in
set_option maxHeartbeats 4000000 in
theorem I_X5_init_79 (G : GG) (hDG : ∀ a, gD G a → False) (S : St) : CI G yX5_init cX5_init 1 1 1 36 [.ref 79] 83 80 S 84 81 (fi_X5_init_79 S) := by
  refine CI_of (ls := [some (.ref 79)]) hDG (by decide) rfl (Nat.le_of_ble_eq_true rfl) rfl ?_
  intro K hG X hR hin hz hρ
  subst hG
  unfold fi_X5_init_79
  refine J_aload_n X dX5_init_0 (i := 0) rfl rfl ?_
  refine C_obj X ml_X5_3 (Nat.le_of_ble_eq_true rfl) ⟨by rw [hR]; exact Nat.le_of_ble_eq_true rfl, by rw [hR]; exact Nat.le_of_ble_eq_true rfl⟩ dX5_init_1 ?_
  refine J_aload_n X dX5_init_4 (i := 0) rfl rfl ?_
  refine J_bipush X (v := (36 : Int32)) dX5_init_5 (by decide) ?_
  refine C_newa X (atype := .int) (ty := .int) (c := 0) (len := 36) (a0 := (36, .inl (fun _ => 0))) (by omega) (fun _ => rfl) (fun U c1 c2 g1 g2 => Option.some.inj (g1.symm.trans g2)) (fun b cA S => by rw [ce_1 (show KD 80 = (1, 36) by decide)]; simp [rwN, zI]) ac_int rfl (fun _ => rfl) (by decide) (by decide) (by decide) ⟨by rw [hR]; exact Nat.le_of_ble_eq_true rfl, by rw [hR]; exact Nat.le_of_ble_eq_true rfl⟩ dX5_init_7 (fun S1 hS1 => ?_)
  have hρS1 : S1.2.2 = RHO := by rw [hS1]; exact hρ
  clear hS1
  refine C_putF X (kf := 0) cb5 (by decide) (by decide) (by decide) (by rw [hρS1]; decide) (by decide) fl_X5_9 (fun _ _ _ => rfl) rfl hin rfl (fun _ => rfl) (fun _ => rfl) dX5_init_9 ?_
  exact C_vret X (by omega) hρS1 dX5_init_12
theorem df_81_85 : ∀ (b : Nat) (S : St) (j : Nat), j < 5 → defaultValue (tyC 5 j) = fv b (rwN (NT 85) (zI S 81)) 81 j (tyC 5 j) := df_of 81 85 5 rfl (by decide +kernel)
set_option maxRecDepth 20000 in
def fi_X5_init_81 (S : St) : Option (Unit × St) := nm (zI S 82) fun S1 => some ((), S1)
set_option maxRecDepth 20000 in
set_option maxHeartbeats 4000000 in
theorem I_X5_init_81 (G : GG) (hDG : ∀ a, gD G a → False) (S : St) : CI G yX5_init cX5_init 1 1 1 36 [.ref 81] 85 82 S 86 83 (fi_X5_init_81 S) := by
  refine CI_of (ls := [some (.ref 81)]) hDG (by decide) rfl (Nat.le_of_ble_eq_true rfl) rfl ?_
  intro K hG X hR hin hz hρ
  subst hG
  unfold fi_X5_init_81
  refine J_aload_n X dX5_init_0 (i := 0) rfl rfl ?_
  refine C_obj X ml_X5_3 (Nat.le_of_ble_eq_true rfl) ⟨by rw [hR]; exact Nat.le_of_ble_eq_true rfl, by rw [hR]; exact Nat.le_of_ble_eq_true rfl⟩ dX5_init_1 ?_
  refine J_aload_n X dX5_init_4 (i := 0) rfl rfl ?_
  refine J_bipush X (v := (36 : Int32)) dX5_init_5 (by decide) ?_
  refine C_newa X (atype := .int) (ty := .int) (c := 0) (len := 36) (a0 := (36, .inl (fun _ => 0))) (by omega) (fun _ => rfl) (fun U c1 c2 g1 g2 => Option.some.inj (g1.symm.trans g2)) (fun b cA S => by rw [ce_1 (show KD 82 = (1, 36) by decide)]; simp [rwN, zI]) ac_int rfl (fun _ => rfl) (by decide) (by decide) (by decide) ⟨by rw [hR]; exact Nat.le_of_ble_eq_true rfl, by rw [hR]; exact Nat.le_of_ble_eq_true rfl⟩ dX5_init_7 (fun S1 hS1 => ?_)
  have hρS1 : S1.2.2 = RHO := by rw [hS1]; exact hρ
  clear hS1
  refine C_putF X (kf := 0) cb5 (by decide) (by decide) (by decide) (by rw [hρS1]; decide) (by decide) fl_X5_9 (fun _ _ _ => rfl) rfl hin rfl (fun _ => rfl) (fun _ => rfl) dX5_init_9 ?_
  exact C_vret X (by omega) hρS1 dX5_init_12
theorem df_83_87 : ∀ (b : Nat) (S : St) (j : Nat), j < 5 → defaultValue (tyC 5 j) = fv b (rwN (NT 87) (zI S 83)) 83 j (tyC 5 j) := df_of 83 87 5 rfl (by decide +kernel)
set_option maxRecDepth 20000 in
def fi_X5_init_83 (S : St) : Option (Unit × St) := nm (zI S 84) fun S1 => some ((), S1)
set_option maxRecDepth 20000 in
set_option maxHeartbeats 4000000 in
theorem I_X5_init_83 (G : GG) (hDG : ∀ a, gD G a → False) (S : St) : CI G yX5_init cX5_init 1 1 1 36 [.ref 83] 87 84 S 88 85 (fi_X5_init_83 S) := by
  refine CI_of (ls := [some (.ref 83)]) hDG (by decide) rfl (Nat.le_of_ble_eq_true rfl) rfl ?_
  intro K hG X hR hin hz hρ
  subst hG
  unfold fi_X5_init_83
  refine J_aload_n X dX5_init_0 (i := 0) rfl rfl ?_
  refine C_obj X ml_X5_3 (Nat.le_of_ble_eq_true rfl) ⟨by rw [hR]; exact Nat.le_of_ble_eq_true rfl, by rw [hR]; exact Nat.le_of_ble_eq_true rfl⟩ dX5_init_1 ?_
  refine J_aload_n X dX5_init_4 (i := 0) rfl rfl ?_
  refine J_bipush X (v := (36 : Int32)) dX5_init_5 (by decide) ?_
  refine C_newa X (atype := .int) (ty := .int) (c := 0) (len := 36) (a0 := (36, .inl (fun _ => 0))) (by omega) (fun _ => rfl) (fun U c1 c2 g1 g2 => Option.some.inj (g1.symm.trans g2)) (fun b cA S => by rw [ce_1 (show KD 84 = (1, 36) by decide)]; simp [rwN, zI]) ac_int rfl (fun _ => rfl) (by decide) (by decide) (by decide) ⟨by rw [hR]; exact Nat.le_of_ble_eq_true rfl, by rw [hR]; exact Nat.le_of_ble_eq_true rfl⟩ dX5_init_7 (fun S1 hS1 => ?_)
  have hρS1 : S1.2.2 = RHO := by rw [hS1]; exact hρ
  clear hS1
  refine C_putF X (kf := 0) cb5 (by decide) (by decide) (by decide) (by rw [hρS1]; decide) (by decide) fl_X5_9 (fun _ _ _ => rfl) rfl hin rfl (fun _ => rfl) (fun _ => rfl) dX5_init_9 ?_
  exact C_vret X (by omega) hρS1 dX5_init_12
theorem df_85_89 : ∀ (b : Nat) (S : St) (j : Nat), j < 5 → defaultValue (tyC 5 j) = fv b (rwN (NT 89) (zI S 85)) 85 j (tyC 5 j) := df_of 85 89 5 rfl (by decide +kernel)
set_option maxRecDepth 20000 in
def fi_X5_init_85 (S : St) : Option (Unit × St) := nm (zI S 86) fun S1 => some ((), S1)
set_option maxRecDepth 20000 in
set_option maxHeartbeats 4000000 in
theorem I_X5_init_85 (G : GG) (hDG : ∀ a, gD G a → False) (S : St) : CI G yX5_init cX5_init 1 1 1 36 [.ref 85] 89 86 S 90 87 (fi_X5_init_85 S) := by
  refine CI_of (ls := [some (.ref 85)]) hDG (by decide) rfl (Nat.le_of_ble_eq_true rfl) rfl ?_
  intro K hG X hR hin hz hρ
  subst hG
  unfold fi_X5_init_85
  refine J_aload_n X dX5_init_0 (i := 0) rfl rfl ?_
  refine C_obj X ml_X5_3 (Nat.le_of_ble_eq_true rfl) ⟨by rw [hR]; exact Nat.le_of_ble_eq_true rfl, by rw [hR]; exact Nat.le_of_ble_eq_true rfl⟩ dX5_init_1 ?_
  refine J_aload_n X dX5_init_4 (i := 0) rfl rfl ?_
  refine J_bipush X (v := (36 : Int32)) dX5_init_5 (by decide) ?_
  refine C_newa X (atype := .int) (ty := .int) (c := 0) (len := 36) (a0 := (36, .inl (fun _ => 0))) (by omega) (fun _ => rfl) (fun U c1 c2 g1 g2 => Option.some.inj (g1.symm.trans g2)) (fun b cA S => by rw [ce_1 (show KD 86 = (1, 36) by decide)]; simp [rwN, zI]) ac_int rfl (fun _ => rfl) (by decide) (by decide) (by decide) ⟨by rw [hR]; exact Nat.le_of_ble_eq_true rfl, by rw [hR]; exact Nat.le_of_ble_eq_true rfl⟩ dX5_init_7 (fun S1 hS1 => ?_)
  have hρS1 : S1.2.2 = RHO := by rw [hS1]; exact hρ
  clear hS1
  refine C_putF X (kf := 0) cb5 (by decide) (by decide) (by decide) (by rw [hρS1]; decide) (by decide) fl_X5_9 (fun _ _ _ => rfl) rfl hin rfl (fun _ => rfl) (fun _ => rfl) dX5_init_9 ?_
  exact C_vret X (by omega) hρS1 dX5_init_12
theorem df_87_91 : ∀ (b : Nat) (S : St) (j : Nat), j < 5 → defaultValue (tyC 5 j) = fv b (rwN (NT 91) (zI S 87)) 87 j (tyC 5 j) := df_of 87 91 5 rfl (by decide +kernel)
set_option maxRecDepth 20000 in
def fi_X5_init_87 (S : St) : Option (Unit × St) := nm (zI S 88) fun S1 => some ((), S1)
set_option maxRecDepth 20000 in
set_option maxHeartbeats 4000000 in
theorem I_X5_init_87 (G : GG) (hDG : ∀ a, gD G a → False) (S : St) : CI G yX5_init cX5_init 1 1 1 36 [.ref 87] 91 88 S 92 89 (fi_X5_init_87 S) := by
  refine CI_of (ls := [some (.ref 87)]) hDG (by decide) rfl (Nat.le_of_ble_eq_true rfl) rfl ?_
  intro K hG X hR hin hz hρ
  subst hG
  unfold fi_X5_init_87
  refine J_aload_n X dX5_init_0 (i := 0) rfl rfl ?_
  refine C_obj X ml_X5_3 (Nat.le_of_ble_eq_true rfl) ⟨by rw [hR]; exact Nat.le_of_ble_eq_true rfl, by rw [hR]; exact Nat.le_of_ble_eq_true rfl⟩ dX5_init_1 ?_
  refine J_aload_n X dX5_init_4 (i := 0) rfl rfl ?_
  refine J_bipush X (v := (36 : Int32)) dX5_init_5 (by decide) ?_
  refine C_newa X (atype := .int) (ty := .int) (c := 0) (len := 36) (a0 := (36, .inl (fun _ => 0))) (by omega) (fun _ => rfl) (fun U c1 c2 g1 g2 => Option.some.inj (g1.symm.trans g2)) (fun b cA S => by rw [ce_1 (show KD 88 = (1, 36) by decide)]; simp [rwN, zI]) ac_int rfl (fun _ => rfl) (by decide) (by decide) (by decide) ⟨by rw [hR]; exact Nat.le_of_ble_eq_true rfl, by rw [hR]; exact Nat.le_of_ble_eq_true rfl⟩ dX5_init_7 (fun S1 hS1 => ?_)
  have hρS1 : S1.2.2 = RHO := by rw [hS1]; exact hρ
  clear hS1
  refine C_putF X (kf := 0) cb5 (by decide) (by decide) (by decide) (by rw [hρS1]; decide) (by decide) fl_X5_9 (fun _ _ _ => rfl) rfl hin rfl (fun _ => rfl) (fun _ => rfl) dX5_init_9 ?_
  exact C_vret X (by omega) hρS1 dX5_init_12
theorem df_89_93 : ∀ (b : Nat) (S : St) (j : Nat), j < 5 → defaultValue (tyC 5 j) = fv b (rwN (NT 93) (zI S 89)) 89 j (tyC 5 j) := df_of 89 93 5 rfl (by decide +kernel)
set_option maxRecDepth 20000 in
def fi_X5_init_89 (S : St) : Option (Unit × St) := nm (zI S 90) fun S1 => some ((), S1)
set_option maxRecDepth 20000 in
set_option maxHeartbeats 4000000 in
theorem I_X5_init_89 (G : GG) (hDG : ∀ a, gD G a → False) (S : St) : CI G yX5_init cX5_init 1 1 1 36 [.ref 89] 93 90 S 94 91 (fi_X5_init_89 S) := by
  refine CI_of (ls := [some (.ref 89)]) hDG (by decide) rfl (Nat.le_of_ble_eq_true rfl) rfl ?_
  intro K hG X hR hin hz hρ
  subst hG
  unfold fi_X5_init_89
  refine J_aload_n X dX5_init_0 (i := 0) rfl rfl ?_
  refine C_obj X ml_X5_3 (Nat.le_of_ble_eq_true rfl) ⟨by rw [hR]; exact Nat.le_of_ble_eq_true rfl, by rw [hR]; exact Nat.le_of_ble_eq_true rfl⟩ dX5_init_1 ?_
  refine J_aload_n X dX5_init_4 (i := 0) rfl rfl ?_
  refine J_bipush X (v := (36 : Int32)) dX5_init_5 (by decide) ?_
  refine C_newa X (atype := .int) (ty := .int) (c := 0) (len := 36) (a0 := (36, .inl (fun _ => 0))) (by omega) (fun _ => rfl) (fun U c1 c2 g1 g2 => Option.some.inj (g1.symm.trans g2)) (fun b cA S => by rw [ce_1 (show KD 90 = (1, 36) by decide)]; simp [rwN, zI]) ac_int rfl (fun _ => rfl) (by decide) (by decide) (by decide) ⟨by rw [hR]; exact Nat.le_of_ble_eq_true rfl, by rw [hR]; exact Nat.le_of_ble_eq_true rfl⟩ dX5_init_7 (fun S1 hS1 => ?_)
  have hρS1 : S1.2.2 = RHO := by rw [hS1]; exact hρ
  clear hS1
  refine C_putF X (kf := 0) cb5 (by decide) (by decide) (by decide) (by rw [hρS1]; decide) (by decide) fl_X5_9 (fun _ _ _ => rfl) rfl hin rfl (fun _ => rfl) (fun _ => rfl) dX5_init_9 ?_
  exact C_vret X (by omega) hρS1 dX5_init_12
theorem df_91_95 : ∀ (b : Nat) (S : St) (j : Nat), j < 5 → defaultValue (tyC 5 j) = fv b (rwN (NT 95) (zI S 91)) 91 j (tyC 5 j) := df_of 91 95 5 rfl (by decide +kernel)
set_option maxRecDepth 20000 in
def fi_X5_init_91 (S : St) : Option (Unit × St) := nm (zI S 92) fun S1 => some ((), S1)
set_option maxRecDepth 20000 in
set_option maxHeartbeats 4000000 in
theorem I_X5_init_91 (G : GG) (hDG : ∀ a, gD G a → False) (S : St) : CI G yX5_init cX5_init 1 1 1 36 [.ref 91] 95 92 S 96 93 (fi_X5_init_91 S) := by
  refine CI_of (ls := [some (.ref 91)]) hDG (by decide) rfl (Nat.le_of_ble_eq_true rfl) rfl ?_
  intro K hG X hR hin hz hρ
  subst hG
  unfold fi_X5_init_91
  refine J_aload_n X dX5_init_0 (i := 0) rfl rfl ?_
  refine C_obj X ml_X5_3 (Nat.le_of_ble_eq_true rfl) ⟨by rw [hR]; exact Nat.le_of_ble_eq_true rfl, by rw [hR]; exact Nat.le_of_ble_eq_true rfl⟩ dX5_init_1 ?_
  refine J_aload_n X dX5_init_4 (i := 0) rfl rfl ?_
  refine J_bipush X (v := (36 : Int32)) dX5_init_5 (by decide) ?_
  refine C_newa X (atype := .int) (ty := .int) (c := 0) (len := 36) (a0 := (36, .inl (fun _ => 0))) (by omega) (fun _ => rfl) (fun U c1 c2 g1 g2 => Option.some.inj (g1.symm.trans g2)) (fun b cA S => by rw [ce_1 (show KD 92 = (1, 36) by decide)]; simp [rwN, zI]) ac_int rfl (fun _ => rfl) (by decide) (by decide) (by decide) ⟨by rw [hR]; exact Nat.le_of_ble_eq_true rfl, by rw [hR]; exact Nat.le_of_ble_eq_true rfl⟩ dX5_init_7 (fun S1 hS1 => ?_)
  have hρS1 : S1.2.2 = RHO := by rw [hS1]; exact hρ
  clear hS1
  refine C_putF X (kf := 0) cb5 (by decide) (by decide) (by decide) (by rw [hρS1]; decide) (by decide) fl_X5_9 (fun _ _ _ => rfl) rfl hin rfl (fun _ => rfl) (fun _ => rfl) dX5_init_9 ?_
  exact C_vret X (by omega) hρS1 dX5_init_12
theorem df_93_97 : ∀ (b : Nat) (S : St) (j : Nat), j < 5 → defaultValue (tyC 5 j) = fv b (rwN (NT 97) (zI S 93)) 93 j (tyC 5 j) := df_of 93 97 5 rfl (by decide +kernel)
set_option maxRecDepth 20000 in
def fi_X5_init_93 (S : St) : Option (Unit × St) := nm (zI S 94) fun S1 => some ((), S1)
set_option maxRecDepth 20000 in
set_option maxHeartbeats 4000000 in
theorem I_X5_init_93 (G : GG) (hDG : ∀ a, gD G a → False) (S : St) : CI G yX5_init cX5_init 1 1 1 36 [.ref 93] 97 94 S 98 95 (fi_X5_init_93 S) := by
  refine CI_of (ls := [some (.ref 93)]) hDG (by decide) rfl (Nat.le_of_ble_eq_true rfl) rfl ?_
  intro K hG X hR hin hz hρ
  subst hG
  unfold fi_X5_init_93
  refine J_aload_n X dX5_init_0 (i := 0) rfl rfl ?_
  refine C_obj X ml_X5_3 (Nat.le_of_ble_eq_true rfl) ⟨by rw [hR]; exact Nat.le_of_ble_eq_true rfl, by rw [hR]; exact Nat.le_of_ble_eq_true rfl⟩ dX5_init_1 ?_
  refine J_aload_n X dX5_init_4 (i := 0) rfl rfl ?_
  refine J_bipush X (v := (36 : Int32)) dX5_init_5 (by decide) ?_
  refine C_newa X (atype := .int) (ty := .int) (c := 0) (len := 36) (a0 := (36, .inl (fun _ => 0))) (by omega) (fun _ => rfl) (fun U c1 c2 g1 g2 => Option.some.inj (g1.symm.trans g2)) (fun b cA S => by rw [ce_1 (show KD 94 = (1, 36) by decide)]; simp [rwN, zI]) ac_int rfl (fun _ => rfl) (by decide) (by decide) (by decide) ⟨by rw [hR]; exact Nat.le_of_ble_eq_true rfl, by rw [hR]; exact Nat.le_of_ble_eq_true rfl⟩ dX5_init_7 (fun S1 hS1 => ?_)
  have hρS1 : S1.2.2 = RHO := by rw [hS1]; exact hρ
  clear hS1
  refine C_putF X (kf := 0) cb5 (by decide) (by decide) (by decide) (by rw [hρS1]; decide) (by decide) fl_X5_9 (fun _ _ _ => rfl) rfl hin rfl (fun _ => rfl) (fun _ => rfl) dX5_init_9 ?_
  exact C_vret X (by omega) hρS1 dX5_init_12
theorem df_95_99 : ∀ (b : Nat) (S : St) (j : Nat), j < 5 → defaultValue (tyC 5 j) = fv b (rwN (NT 99) (zI S 95)) 95 j (tyC 5 j) := df_of 95 99 5 rfl (by decide +kernel)
set_option maxRecDepth 20000 in
def fi_X5_init_95 (S : St) : Option (Unit × St) := nm (zI S 96) fun S1 => some ((), S1)
set_option maxRecDepth 20000 in
set_option maxHeartbeats 4000000 in
theorem I_X5_init_95 (G : GG) (hDG : ∀ a, gD G a → False) (S : St) : CI G yX5_init cX5_init 1 1 1 36 [.ref 95] 99 96 S 100 97 (fi_X5_init_95 S) := by
  refine CI_of (ls := [some (.ref 95)]) hDG (by decide) rfl (Nat.le_of_ble_eq_true rfl) rfl ?_
  intro K hG X hR hin hz hρ
  subst hG
  unfold fi_X5_init_95
  refine J_aload_n X dX5_init_0 (i := 0) rfl rfl ?_
  refine C_obj X ml_X5_3 (Nat.le_of_ble_eq_true rfl) ⟨by rw [hR]; exact Nat.le_of_ble_eq_true rfl, by rw [hR]; exact Nat.le_of_ble_eq_true rfl⟩ dX5_init_1 ?_
  refine J_aload_n X dX5_init_4 (i := 0) rfl rfl ?_
  refine J_bipush X (v := (36 : Int32)) dX5_init_5 (by decide) ?_
  refine C_newa X (atype := .int) (ty := .int) (c := 0) (len := 36) (a0 := (36, .inl (fun _ => 0))) (by omega) (fun _ => rfl) (fun U c1 c2 g1 g2 => Option.some.inj (g1.symm.trans g2)) (fun b cA S => by rw [ce_1 (show KD 96 = (1, 36) by decide)]; simp [rwN, zI]) ac_int rfl (fun _ => rfl) (by decide) (by decide) (by decide) ⟨by rw [hR]; exact Nat.le_of_ble_eq_true rfl, by rw [hR]; exact Nat.le_of_ble_eq_true rfl⟩ dX5_init_7 (fun S1 hS1 => ?_)
  have hρS1 : S1.2.2 = RHO := by rw [hS1]; exact hρ
  clear hS1
  refine C_putF X (kf := 0) cb5 (by decide) (by decide) (by decide) (by rw [hρS1]; decide) (by decide) fl_X5_9 (fun _ _ _ => rfl) rfl hin rfl (fun _ => rfl) (fun _ => rfl) dX5_init_9 ?_
  exact C_vret X (by omega) hρS1 dX5_init_12
theorem df_97_101 : ∀ (b : Nat) (S : St) (j : Nat), j < 5 → defaultValue (tyC 5 j) = fv b (rwN (NT 101) (zI S 97)) 97 j (tyC 5 j) := df_of 97 101 5 rfl (by decide +kernel)
set_option maxRecDepth 20000 in
def fi_X5_init_97 (S : St) : Option (Unit × St) := nm (zI S 98) fun S1 => some ((), S1)
set_option maxRecDepth 20000 in
set_option maxHeartbeats 4000000 in
theorem I_X5_init_97 (G : GG) (hDG : ∀ a, gD G a → False) (S : St) : CI G yX5_init cX5_init 1 1 1 36 [.ref 97] 101 98 S 102 99 (fi_X5_init_97 S) := by
  refine CI_of (ls := [some (.ref 97)]) hDG (by decide) rfl (Nat.le_of_ble_eq_true rfl) rfl ?_
  intro K hG X hR hin hz hρ
  subst hG
  unfold fi_X5_init_97
  refine J_aload_n X dX5_init_0 (i := 0) rfl rfl ?_
  refine C_obj X ml_X5_3 (Nat.le_of_ble_eq_true rfl) ⟨by rw [hR]; exact Nat.le_of_ble_eq_true rfl, by rw [hR]; exact Nat.le_of_ble_eq_true rfl⟩ dX5_init_1 ?_
  refine J_aload_n X dX5_init_4 (i := 0) rfl rfl ?_
  refine J_bipush X (v := (36 : Int32)) dX5_init_5 (by decide) ?_
  refine C_newa X (atype := .int) (ty := .int) (c := 0) (len := 36) (a0 := (36, .inl (fun _ => 0))) (by omega) (fun _ => rfl) (fun U c1 c2 g1 g2 => Option.some.inj (g1.symm.trans g2)) (fun b cA S => by rw [ce_1 (show KD 98 = (1, 36) by decide)]; simp [rwN, zI]) ac_int rfl (fun _ => rfl) (by decide) (by decide) (by decide) ⟨by rw [hR]; exact Nat.le_of_ble_eq_true rfl, by rw [hR]; exact Nat.le_of_ble_eq_true rfl⟩ dX5_init_7 (fun S1 hS1 => ?_)
  have hρS1 : S1.2.2 = RHO := by rw [hS1]; exact hρ
  clear hS1
  refine C_putF X (kf := 0) cb5 (by decide) (by decide) (by decide) (by rw [hρS1]; decide) (by decide) fl_X5_9 (fun _ _ _ => rfl) rfl hin rfl (fun _ => rfl) (fun _ => rfl) dX5_init_9 ?_
  exact C_vret X (by omega) hρS1 dX5_init_12
theorem df_99_103 : ∀ (b : Nat) (S : St) (j : Nat), j < 5 → defaultValue (tyC 5 j) = fv b (rwN (NT 103) (zI S 99)) 99 j (tyC 5 j) := df_of 99 103 5 rfl (by decide +kernel)
set_option maxRecDepth 20000 in
def fi_X5_init_99 (S : St) : Option (Unit × St) := nm (zI S 100) fun S1 => some ((), S1)
set_option maxRecDepth 20000 in
set_option maxHeartbeats 4000000 in
theorem I_X5_init_99 (G : GG) (hDG : ∀ a, gD G a → False) (S : St) : CI G yX5_init cX5_init 1 1 1 36 [.ref 99] 103 100 S 104 101 (fi_X5_init_99 S) := by
  refine CI_of (ls := [some (.ref 99)]) hDG (by decide) rfl (Nat.le_of_ble_eq_true rfl) rfl ?_
  intro K hG X hR hin hz hρ
  subst hG
  unfold fi_X5_init_99
  refine J_aload_n X dX5_init_0 (i := 0) rfl rfl ?_
  refine C_obj X ml_X5_3 (Nat.le_of_ble_eq_true rfl) ⟨by rw [hR]; exact Nat.le_of_ble_eq_true rfl, by rw [hR]; exact Nat.le_of_ble_eq_true rfl⟩ dX5_init_1 ?_
  refine J_aload_n X dX5_init_4 (i := 0) rfl rfl ?_
  refine J_bipush X (v := (36 : Int32)) dX5_init_5 (by decide) ?_
  refine C_newa X (atype := .int) (ty := .int) (c := 0) (len := 36) (a0 := (36, .inl (fun _ => 0))) (by omega) (fun _ => rfl) (fun U c1 c2 g1 g2 => Option.some.inj (g1.symm.trans g2)) (fun b cA S => by rw [ce_1 (show KD 100 = (1, 36) by decide)]; simp [rwN, zI]) ac_int rfl (fun _ => rfl) (by decide) (by decide) (by decide) ⟨by rw [hR]; exact Nat.le_of_ble_eq_true rfl, by rw [hR]; exact Nat.le_of_ble_eq_true rfl⟩ dX5_init_7 (fun S1 hS1 => ?_)
  have hρS1 : S1.2.2 = RHO := by rw [hS1]; exact hρ
  clear hS1
  refine C_putF X (kf := 0) cb5 (by decide) (by decide) (by decide) (by rw [hρS1]; decide) (by decide) fl_X5_9 (fun _ _ _ => rfl) rfl hin rfl (fun _ => rfl) (fun _ => rfl) dX5_init_9 ?_
  exact C_vret X (by omega) hρS1 dX5_init_12
theorem df_101_105 : ∀ (b : Nat) (S : St) (j : Nat), j < 5 → defaultValue (tyC 5 j) = fv b (rwN (NT 105) (zI S 101)) 101 j (tyC 5 j) := df_of 101 105 5 rfl (by decide +kernel)
set_option maxRecDepth 20000 in
def fi_X5_init_101 (S : St) : Option (Unit × St) := nm (zI S 102) fun S1 => some ((), S1)
set_option maxRecDepth 20000 in
set_option maxHeartbeats 4000000 in
theorem I_X5_init_101 (G : GG) (hDG : ∀ a, gD G a → False) (S : St) : CI G yX5_init cX5_init 1 1 1 36 [.ref 101] 105 102 S 106 103 (fi_X5_init_101 S) := by
  refine CI_of (ls := [some (.ref 101)]) hDG (by decide) rfl (Nat.le_of_ble_eq_true rfl) rfl ?_
  intro K hG X hR hin hz hρ
  subst hG
  unfold fi_X5_init_101
  refine J_aload_n X dX5_init_0 (i := 0) rfl rfl ?_
  refine C_obj X ml_X5_3 (Nat.le_of_ble_eq_true rfl) ⟨by rw [hR]; exact Nat.le_of_ble_eq_true rfl, by rw [hR]; exact Nat.le_of_ble_eq_true rfl⟩ dX5_init_1 ?_
  refine J_aload_n X dX5_init_4 (i := 0) rfl rfl ?_
  refine J_bipush X (v := (36 : Int32)) dX5_init_5 (by decide) ?_
  refine C_newa X (atype := .int) (ty := .int) (c := 0) (len := 36) (a0 := (36, .inl (fun _ => 0))) (by omega) (fun _ => rfl) (fun U c1 c2 g1 g2 => Option.some.inj (g1.symm.trans g2)) (fun b cA S => by rw [ce_1 (show KD 102 = (1, 36) by decide)]; simp [rwN, zI]) ac_int rfl (fun _ => rfl) (by decide) (by decide) (by decide) ⟨by rw [hR]; exact Nat.le_of_ble_eq_true rfl, by rw [hR]; exact Nat.le_of_ble_eq_true rfl⟩ dX5_init_7 (fun S1 hS1 => ?_)
  have hρS1 : S1.2.2 = RHO := by rw [hS1]; exact hρ
  clear hS1
  refine C_putF X (kf := 0) cb5 (by decide) (by decide) (by decide) (by rw [hρS1]; decide) (by decide) fl_X5_9 (fun _ _ _ => rfl) rfl hin rfl (fun _ => rfl) (fun _ => rfl) dX5_init_9 ?_
  exact C_vret X (by omega) hρS1 dX5_init_12
theorem df_103_107 : ∀ (b : Nat) (S : St) (j : Nat), j < 5 → defaultValue (tyC 5 j) = fv b (rwN (NT 107) (zI S 103)) 103 j (tyC 5 j) := df_of 103 107 5 rfl (by decide +kernel)
set_option maxRecDepth 20000 in
def fi_X5_init_103 (S : St) : Option (Unit × St) := nm (zI S 104) fun S1 => some ((), S1)
set_option maxRecDepth 20000 in
set_option maxHeartbeats 4000000 in
theorem I_X5_init_103 (G : GG) (hDG : ∀ a, gD G a → False) (S : St) : CI G yX5_init cX5_init 1 1 1 36 [.ref 103] 107 104 S 108 105 (fi_X5_init_103 S) := by
  refine CI_of (ls := [some (.ref 103)]) hDG (by decide) rfl (Nat.le_of_ble_eq_true rfl) rfl ?_
  intro K hG X hR hin hz hρ
  subst hG
  unfold fi_X5_init_103
  refine J_aload_n X dX5_init_0 (i := 0) rfl rfl ?_
  refine C_obj X ml_X5_3 (Nat.le_of_ble_eq_true rfl) ⟨by rw [hR]; exact Nat.le_of_ble_eq_true rfl, by rw [hR]; exact Nat.le_of_ble_eq_true rfl⟩ dX5_init_1 ?_
  refine J_aload_n X dX5_init_4 (i := 0) rfl rfl ?_
  refine J_bipush X (v := (36 : Int32)) dX5_init_5 (by decide) ?_
  refine C_newa X (atype := .int) (ty := .int) (c := 0) (len := 36) (a0 := (36, .inl (fun _ => 0))) (by omega) (fun _ => rfl) (fun U c1 c2 g1 g2 => Option.some.inj (g1.symm.trans g2)) (fun b cA S => by rw [ce_1 (show KD 104 = (1, 36) by decide)]; simp [rwN, zI]) ac_int rfl (fun _ => rfl) (by decide) (by decide) (by decide) ⟨by rw [hR]; exact Nat.le_of_ble_eq_true rfl, by rw [hR]; exact Nat.le_of_ble_eq_true rfl⟩ dX5_init_7 (fun S1 hS1 => ?_)
  have hρS1 : S1.2.2 = RHO := by rw [hS1]; exact hρ
  clear hS1
  refine C_putF X (kf := 0) cb5 (by decide) (by decide) (by decide) (by rw [hρS1]; decide) (by decide) fl_X5_9 (fun _ _ _ => rfl) rfl hin rfl (fun _ => rfl) (fun _ => rfl) dX5_init_9 ?_
  exact C_vret X (by omega) hρS1 dX5_init_12
theorem df_105_109 : ∀ (b : Nat) (S : St) (j : Nat), j < 5 → defaultValue (tyC 5 j) = fv b (rwN (NT 109) (zI S 105)) 105 j (tyC 5 j) := df_of 105 109 5 rfl (by decide +kernel)
set_option maxRecDepth 20000 in
def fi_X5_init_105 (S : St) : Option (Unit × St) := nm (zI S 106) fun S1 => some ((), S1)
set_option maxRecDepth 20000 in
set_option maxHeartbeats 4000000 in
theorem I_X5_init_105 (G : GG) (hDG : ∀ a, gD G a → False) (S : St) : CI G yX5_init cX5_init 1 1 1 36 [.ref 105] 109 106 S 110 107 (fi_X5_init_105 S) := by
  refine CI_of (ls := [some (.ref 105)]) hDG (by decide) rfl (Nat.le_of_ble_eq_true rfl) rfl ?_
  intro K hG X hR hin hz hρ
  subst hG
  unfold fi_X5_init_105
  refine J_aload_n X dX5_init_0 (i := 0) rfl rfl ?_
  refine C_obj X ml_X5_3 (Nat.le_of_ble_eq_true rfl) ⟨by rw [hR]; exact Nat.le_of_ble_eq_true rfl, by rw [hR]; exact Nat.le_of_ble_eq_true rfl⟩ dX5_init_1 ?_
  refine J_aload_n X dX5_init_4 (i := 0) rfl rfl ?_
  refine J_bipush X (v := (36 : Int32)) dX5_init_5 (by decide) ?_
  refine C_newa X (atype := .int) (ty := .int) (c := 0) (len := 36) (a0 := (36, .inl (fun _ => 0))) (by omega) (fun _ => rfl) (fun U c1 c2 g1 g2 => Option.some.inj (g1.symm.trans g2)) (fun b cA S => by rw [ce_1 (show KD 106 = (1, 36) by decide)]; simp [rwN, zI]) ac_int rfl (fun _ => rfl) (by decide) (by decide) (by decide) ⟨by rw [hR]; exact Nat.le_of_ble_eq_true rfl, by rw [hR]; exact Nat.le_of_ble_eq_true rfl⟩ dX5_init_7 (fun S1 hS1 => ?_)
  have hρS1 : S1.2.2 = RHO := by rw [hS1]; exact hρ
  clear hS1
  refine C_putF X (kf := 0) cb5 (by decide) (by decide) (by decide) (by rw [hρS1]; decide) (by decide) fl_X5_9 (fun _ _ _ => rfl) rfl hin rfl (fun _ => rfl) (fun _ => rfl) dX5_init_9 ?_
  exact C_vret X (by omega) hρS1 dX5_init_12
theorem df_107_111 : ∀ (b : Nat) (S : St) (j : Nat), j < 5 → defaultValue (tyC 5 j) = fv b (rwN (NT 111) (zI S 107)) 107 j (tyC 5 j) := df_of 107 111 5 rfl (by decide +kernel)
set_option maxRecDepth 20000 in
def fi_X5_init_107 (S : St) : Option (Unit × St) := nm (zI S 108) fun S1 => some ((), S1)
set_option maxRecDepth 20000 in
set_option maxHeartbeats 4000000 in
theorem I_X5_init_107 (G : GG) (hDG : ∀ a, gD G a → False) (S : St) : CI G yX5_init cX5_init 1 1 1 36 [.ref 107] 111 108 S 112 109 (fi_X5_init_107 S) := by
  refine CI_of (ls := [some (.ref 107)]) hDG (by decide) rfl (Nat.le_of_ble_eq_true rfl) rfl ?_
  intro K hG X hR hin hz hρ
  subst hG
  unfold fi_X5_init_107
  refine J_aload_n X dX5_init_0 (i := 0) rfl rfl ?_
  refine C_obj X ml_X5_3 (Nat.le_of_ble_eq_true rfl) ⟨by rw [hR]; exact Nat.le_of_ble_eq_true rfl, by rw [hR]; exact Nat.le_of_ble_eq_true rfl⟩ dX5_init_1 ?_
  refine J_aload_n X dX5_init_4 (i := 0) rfl rfl ?_
  refine J_bipush X (v := (36 : Int32)) dX5_init_5 (by decide) ?_
  refine C_newa X (atype := .int) (ty := .int) (c := 0) (len := 36) (a0 := (36, .inl (fun _ => 0))) (by omega) (fun _ => rfl) (fun U c1 c2 g1 g2 => Option.some.inj (g1.symm.trans g2)) (fun b cA S => by rw [ce_1 (show KD 108 = (1, 36) by decide)]; simp [rwN, zI]) ac_int rfl (fun _ => rfl) (by decide) (by decide) (by decide) ⟨by rw [hR]; exact Nat.le_of_ble_eq_true rfl, by rw [hR]; exact Nat.le_of_ble_eq_true rfl⟩ dX5_init_7 (fun S1 hS1 => ?_)
  have hρS1 : S1.2.2 = RHO := by rw [hS1]; exact hρ
  clear hS1
  refine C_putF X (kf := 0) cb5 (by decide) (by decide) (by decide) (by rw [hρS1]; decide) (by decide) fl_X5_9 (fun _ _ _ => rfl) rfl hin rfl (fun _ => rfl) (fun _ => rfl) dX5_init_9 ?_
  exact C_vret X (by omega) hρS1 dX5_init_12
theorem df_109_113 : ∀ (b : Nat) (S : St) (j : Nat), j < 5 → defaultValue (tyC 5 j) = fv b (rwN (NT 113) (zI S 109)) 109 j (tyC 5 j) := df_of 109 113 5 rfl (by decide +kernel)
set_option maxRecDepth 20000 in
def fi_X5_init_109 (S : St) : Option (Unit × St) := nm (zI S 110) fun S1 => some ((), S1)
set_option maxRecDepth 20000 in
set_option maxHeartbeats 4000000 in
theorem I_X5_init_109 (G : GG) (hDG : ∀ a, gD G a → False) (S : St) : CI G yX5_init cX5_init 1 1 1 36 [.ref 109] 113 110 S 114 111 (fi_X5_init_109 S) := by
  refine CI_of (ls := [some (.ref 109)]) hDG (by decide) rfl (Nat.le_of_ble_eq_true rfl) rfl ?_
  intro K hG X hR hin hz hρ
  subst hG
  unfold fi_X5_init_109
  refine J_aload_n X dX5_init_0 (i := 0) rfl rfl ?_
  refine C_obj X ml_X5_3 (Nat.le_of_ble_eq_true rfl) ⟨by rw [hR]; exact Nat.le_of_ble_eq_true rfl, by rw [hR]; exact Nat.le_of_ble_eq_true rfl⟩ dX5_init_1 ?_
  refine J_aload_n X dX5_init_4 (i := 0) rfl rfl ?_
  refine J_bipush X (v := (36 : Int32)) dX5_init_5 (by decide) ?_
  refine C_newa X (atype := .int) (ty := .int) (c := 0) (len := 36) (a0 := (36, .inl (fun _ => 0))) (by omega) (fun _ => rfl) (fun U c1 c2 g1 g2 => Option.some.inj (g1.symm.trans g2)) (fun b cA S => by rw [ce_1 (show KD 110 = (1, 36) by decide)]; simp [rwN, zI]) ac_int rfl (fun _ => rfl) (by decide) (by decide) (by decide) ⟨by rw [hR]; exact Nat.le_of_ble_eq_true rfl, by rw [hR]; exact Nat.le_of_ble_eq_true rfl⟩ dX5_init_7 (fun S1 hS1 => ?_)
  have hρS1 : S1.2.2 = RHO := by rw [hS1]; exact hρ
  clear hS1
  refine C_putF X (kf := 0) cb5 (by decide) (by decide) (by decide) (by rw [hρS1]; decide) (by decide) fl_X5_9 (fun _ _ _ => rfl) rfl hin rfl (fun _ => rfl) (fun _ => rfl) dX5_init_9 ?_
  exact C_vret X (by omega) hρS1 dX5_init_12
theorem df_111_115 : ∀ (b : Nat) (S : St) (j : Nat), j < 5 → defaultValue (tyC 5 j) = fv b (rwN (NT 115) (zI S 111)) 111 j (tyC 5 j) := df_of 111 115 5 rfl (by decide +kernel)
set_option maxRecDepth 20000 in
def fi_X5_init_111 (S : St) : Option (Unit × St) := nm (zI S 112) fun S1 => some ((), S1)
set_option maxRecDepth 20000 in
set_option maxHeartbeats 4000000 in
theorem I_X5_init_111 (G : GG) (hDG : ∀ a, gD G a → False) (S : St) : CI G yX5_init cX5_init 1 1 1 36 [.ref 111] 115 112 S 116 113 (fi_X5_init_111 S) := by
  refine CI_of (ls := [some (.ref 111)]) hDG (by decide) rfl (Nat.le_of_ble_eq_true rfl) rfl ?_
  intro K hG X hR hin hz hρ
  subst hG
  unfold fi_X5_init_111
  refine J_aload_n X dX5_init_0 (i := 0) rfl rfl ?_
  refine C_obj X ml_X5_3 (Nat.le_of_ble_eq_true rfl) ⟨by rw [hR]; exact Nat.le_of_ble_eq_true rfl, by rw [hR]; exact Nat.le_of_ble_eq_true rfl⟩ dX5_init_1 ?_
  refine J_aload_n X dX5_init_4 (i := 0) rfl rfl ?_
  refine J_bipush X (v := (36 : Int32)) dX5_init_5 (by decide) ?_
  refine C_newa X (atype := .int) (ty := .int) (c := 0) (len := 36) (a0 := (36, .inl (fun _ => 0))) (by omega) (fun _ => rfl) (fun U c1 c2 g1 g2 => Option.some.inj (g1.symm.trans g2)) (fun b cA S => by rw [ce_1 (show KD 112 = (1, 36) by decide)]; simp [rwN, zI]) ac_int rfl (fun _ => rfl) (by decide) (by decide) (by decide) ⟨by rw [hR]; exact Nat.le_of_ble_eq_true rfl, by rw [hR]; exact Nat.le_of_ble_eq_true rfl⟩ dX5_init_7 (fun S1 hS1 => ?_)
  have hρS1 : S1.2.2 = RHO := by rw [hS1]; exact hρ
  clear hS1
  refine C_putF X (kf := 0) cb5 (by decide) (by decide) (by decide) (by rw [hρS1]; decide) (by decide) fl_X5_9 (fun _ _ _ => rfl) rfl hin rfl (fun _ => rfl) (fun _ => rfl) dX5_init_9 ?_
  exact C_vret X (by omega) hρS1 dX5_init_12
theorem df_113_117 : ∀ (b : Nat) (S : St) (j : Nat), j < 5 → defaultValue (tyC 5 j) = fv b (rwN (NT 117) (zI S 113)) 113 j (tyC 5 j) := df_of 113 117 5 rfl (by decide +kernel)
set_option maxRecDepth 20000 in
def fi_X5_init_113 (S : St) : Option (Unit × St) := nm (zI S 114) fun S1 => some ((), S1)
set_option maxRecDepth 20000 in
set_option maxHeartbeats 4000000 in
theorem I_X5_init_113 (G : GG) (hDG : ∀ a, gD G a → False) (S : St) : CI G yX5_init cX5_init 1 1 1 36 [.ref 113] 117 114 S 118 115 (fi_X5_init_113 S) := by
  refine CI_of (ls := [some (.ref 113)]) hDG (by decide) rfl (Nat.le_of_ble_eq_true rfl) rfl ?_
  intro K hG X hR hin hz hρ
  subst hG
  unfold fi_X5_init_113
  refine J_aload_n X dX5_init_0 (i := 0) rfl rfl ?_
  refine C_obj X ml_X5_3 (Nat.le_of_ble_eq_true rfl) ⟨by rw [hR]; exact Nat.le_of_ble_eq_true rfl, by rw [hR]; exact Nat.le_of_ble_eq_true rfl⟩ dX5_init_1 ?_
  refine J_aload_n X dX5_init_4 (i := 0) rfl rfl ?_
  refine J_bipush X (v := (36 : Int32)) dX5_init_5 (by decide) ?_
  refine C_newa X (atype := .int) (ty := .int) (c := 0) (len := 36) (a0 := (36, .inl (fun _ => 0))) (by omega) (fun _ => rfl) (fun U c1 c2 g1 g2 => Option.some.inj (g1.symm.trans g2)) (fun b cA S => by rw [ce_1 (show KD 114 = (1, 36) by decide)]; simp [rwN, zI]) ac_int rfl (fun _ => rfl) (by decide) (by decide) (by decide) ⟨by rw [hR]; exact Nat.le_of_ble_eq_true rfl, by rw [hR]; exact Nat.le_of_ble_eq_true rfl⟩ dX5_init_7 (fun S1 hS1 => ?_)
  have hρS1 : S1.2.2 = RHO := by rw [hS1]; exact hρ
  clear hS1
  refine C_putF X (kf := 0) cb5 (by decide) (by decide) (by decide) (by rw [hρS1]; decide) (by decide) fl_X5_9 (fun _ _ _ => rfl) rfl hin rfl (fun _ => rfl) (fun _ => rfl) dX5_init_9 ?_
  exact C_vret X (by omega) hρS1 dX5_init_12
theorem df_115_119 : ∀ (b : Nat) (S : St) (j : Nat), j < 5 → defaultValue (tyC 5 j) = fv b (rwN (NT 119) (zI S 115)) 115 j (tyC 5 j) := df_of 115 119 5 rfl (by decide +kernel)
set_option maxRecDepth 20000 in
def fi_X5_init_115 (S : St) : Option (Unit × St) := nm (zI S 116) fun S1 => some ((), S1)
set_option maxRecDepth 20000 in
set_option maxHeartbeats 4000000 in
theorem I_X5_init_115 (G : GG) (hDG : ∀ a, gD G a → False) (S : St) : CI G yX5_init cX5_init 1 1 1 36 [.ref 115] 119 116 S 120 117 (fi_X5_init_115 S) := by
  refine CI_of (ls := [some (.ref 115)]) hDG (by decide) rfl (Nat.le_of_ble_eq_true rfl) rfl ?_
  intro K hG X hR hin hz hρ
  subst hG
  unfold fi_X5_init_115
  refine J_aload_n X dX5_init_0 (i := 0) rfl rfl ?_
  refine C_obj X ml_X5_3 (Nat.le_of_ble_eq_true rfl) ⟨by rw [hR]; exact Nat.le_of_ble_eq_true rfl, by rw [hR]; exact Nat.le_of_ble_eq_true rfl⟩ dX5_init_1 ?_
  refine J_aload_n X dX5_init_4 (i := 0) rfl rfl ?_
  refine J_bipush X (v := (36 : Int32)) dX5_init_5 (by decide) ?_
  refine C_newa X (atype := .int) (ty := .int) (c := 0) (len := 36) (a0 := (36, .inl (fun _ => 0))) (by omega) (fun _ => rfl) (fun U c1 c2 g1 g2 => Option.some.inj (g1.symm.trans g2)) (fun b cA S => by rw [ce_1 (show KD 116 = (1, 36) by decide)]; simp [rwN, zI]) ac_int rfl (fun _ => rfl) (by decide) (by decide) (by decide) ⟨by rw [hR]; exact Nat.le_of_ble_eq_true rfl, by rw [hR]; exact Nat.le_of_ble_eq_true rfl⟩ dX5_init_7 (fun S1 hS1 => ?_)
  have hρS1 : S1.2.2 = RHO := by rw [hS1]; exact hρ
  clear hS1
  refine C_putF X (kf := 0) cb5 (by decide) (by decide) (by decide) (by rw [hρS1]; decide) (by decide) fl_X5_9 (fun _ _ _ => rfl) rfl hin rfl (fun _ => rfl) (fun _ => rfl) dX5_init_9 ?_
  exact C_vret X (by omega) hρS1 dX5_init_12
theorem df_117_121 : ∀ (b : Nat) (S : St) (j : Nat), j < 5 → defaultValue (tyC 5 j) = fv b (rwN (NT 121) (zI S 117)) 117 j (tyC 5 j) := df_of 117 121 5 rfl (by decide +kernel)
set_option maxRecDepth 20000 in
def fi_X5_init_117 (S : St) : Option (Unit × St) := nm (zI S 118) fun S1 => some ((), S1)
set_option maxRecDepth 20000 in
set_option maxHeartbeats 4000000 in
theorem I_X5_init_117 (G : GG) (hDG : ∀ a, gD G a → False) (S : St) : CI G yX5_init cX5_init 1 1 1 36 [.ref 117] 121 118 S 122 119 (fi_X5_init_117 S) := by
  refine CI_of (ls := [some (.ref 117)]) hDG (by decide) rfl (Nat.le_of_ble_eq_true rfl) rfl ?_
  intro K hG X hR hin hz hρ
  subst hG
  unfold fi_X5_init_117
  refine J_aload_n X dX5_init_0 (i := 0) rfl rfl ?_
  refine C_obj X ml_X5_3 (Nat.le_of_ble_eq_true rfl) ⟨by rw [hR]; exact Nat.le_of_ble_eq_true rfl, by rw [hR]; exact Nat.le_of_ble_eq_true rfl⟩ dX5_init_1 ?_
  refine J_aload_n X dX5_init_4 (i := 0) rfl rfl ?_
  refine J_bipush X (v := (36 : Int32)) dX5_init_5 (by decide) ?_
  refine C_newa X (atype := .int) (ty := .int) (c := 0) (len := 36) (a0 := (36, .inl (fun _ => 0))) (by omega) (fun _ => rfl) (fun U c1 c2 g1 g2 => Option.some.inj (g1.symm.trans g2)) (fun b cA S => by rw [ce_1 (show KD 118 = (1, 36) by decide)]; simp [rwN, zI]) ac_int rfl (fun _ => rfl) (by decide) (by decide) (by decide) ⟨by rw [hR]; exact Nat.le_of_ble_eq_true rfl, by rw [hR]; exact Nat.le_of_ble_eq_true rfl⟩ dX5_init_7 (fun S1 hS1 => ?_)
  have hρS1 : S1.2.2 = RHO := by rw [hS1]; exact hρ
  clear hS1
  refine C_putF X (kf := 0) cb5 (by decide) (by decide) (by decide) (by rw [hρS1]; decide) (by decide) fl_X5_9 (fun _ _ _ => rfl) rfl hin rfl (fun _ => rfl) (fun _ => rfl) dX5_init_9 ?_
  exact C_vret X (by omega) hρS1 dX5_init_12
theorem df_119_123 : ∀ (b : Nat) (S : St) (j : Nat), j < 5 → defaultValue (tyC 5 j) = fv b (rwN (NT 123) (zI S 119)) 119 j (tyC 5 j) := df_of 119 123 5 rfl (by decide +kernel)
set_option maxRecDepth 20000 in
def fi_X5_init_119 (S : St) : Option (Unit × St) := nm (zI S 120) fun S1 => some ((), S1)
set_option maxRecDepth 20000 in
set_option maxHeartbeats 4000000 in
theorem I_X5_init_119 (G : GG) (hDG : ∀ a, gD G a → False) (S : St) : CI G yX5_init cX5_init 1 1 1 36 [.ref 119] 123 120 S 124 121 (fi_X5_init_119 S) := by
  refine CI_of (ls := [some (.ref 119)]) hDG (by decide) rfl (Nat.le_of_ble_eq_true rfl) rfl ?_
  intro K hG X hR hin hz hρ
  subst hG
  unfold fi_X5_init_119
  refine J_aload_n X dX5_init_0 (i := 0) rfl rfl ?_
  refine C_obj X ml_X5_3 (Nat.le_of_ble_eq_true rfl) ⟨by rw [hR]; exact Nat.le_of_ble_eq_true rfl, by rw [hR]; exact Nat.le_of_ble_eq_true rfl⟩ dX5_init_1 ?_
  refine J_aload_n X dX5_init_4 (i := 0) rfl rfl ?_
  refine J_bipush X (v := (36 : Int32)) dX5_init_5 (by decide) ?_
  refine C_newa X (atype := .int) (ty := .int) (c := 0) (len := 36) (a0 := (36, .inl (fun _ => 0))) (by omega) (fun _ => rfl) (fun U c1 c2 g1 g2 => Option.some.inj (g1.symm.trans g2)) (fun b cA S => by rw [ce_1 (show KD 120 = (1, 36) by decide)]; simp [rwN, zI]) ac_int rfl (fun _ => rfl) (by decide) (by decide) (by decide) ⟨by rw [hR]; exact Nat.le_of_ble_eq_true rfl, by rw [hR]; exact Nat.le_of_ble_eq_true rfl⟩ dX5_init_7 (fun S1 hS1 => ?_)
  have hρS1 : S1.2.2 = RHO := by rw [hS1]; exact hρ
  clear hS1
  refine C_putF X (kf := 0) cb5 (by decide) (by decide) (by decide) (by rw [hρS1]; decide) (by decide) fl_X5_9 (fun _ _ _ => rfl) rfl hin rfl (fun _ => rfl) (fun _ => rfl) dX5_init_9 ?_
  exact C_vret X (by omega) hρS1 dX5_init_12
theorem df_121_125 : ∀ (b : Nat) (S : St) (j : Nat), j < 5 → defaultValue (tyC 5 j) = fv b (rwN (NT 125) (zI S 121)) 121 j (tyC 5 j) := df_of 121 125 5 rfl (by decide +kernel)
set_option maxRecDepth 20000 in
def fi_X5_init_121 (S : St) : Option (Unit × St) := nm (zI S 122) fun S1 => some ((), S1)
set_option maxRecDepth 20000 in
set_option maxHeartbeats 4000000 in
theorem I_X5_init_121 (G : GG) (hDG : ∀ a, gD G a → False) (S : St) : CI G yX5_init cX5_init 1 1 1 36 [.ref 121] 125 122 S 126 123 (fi_X5_init_121 S) := by
  refine CI_of (ls := [some (.ref 121)]) hDG (by decide) rfl (Nat.le_of_ble_eq_true rfl) rfl ?_
  intro K hG X hR hin hz hρ
  subst hG
  unfold fi_X5_init_121
  refine J_aload_n X dX5_init_0 (i := 0) rfl rfl ?_
  refine C_obj X ml_X5_3 (Nat.le_of_ble_eq_true rfl) ⟨by rw [hR]; exact Nat.le_of_ble_eq_true rfl, by rw [hR]; exact Nat.le_of_ble_eq_true rfl⟩ dX5_init_1 ?_
  refine J_aload_n X dX5_init_4 (i := 0) rfl rfl ?_
  refine J_bipush X (v := (36 : Int32)) dX5_init_5 (by decide) ?_
  refine C_newa X (atype := .int) (ty := .int) (c := 0) (len := 36) (a0 := (36, .inl (fun _ => 0))) (by omega) (fun _ => rfl) (fun U c1 c2 g1 g2 => Option.some.inj (g1.symm.trans g2)) (fun b cA S => by rw [ce_1 (show KD 122 = (1, 36) by decide)]; simp [rwN, zI]) ac_int rfl (fun _ => rfl) (by decide) (by decide) (by decide) ⟨by rw [hR]; exact Nat.le_of_ble_eq_true rfl, by rw [hR]; exact Nat.le_of_ble_eq_true rfl⟩ dX5_init_7 (fun S1 hS1 => ?_)
  have hρS1 : S1.2.2 = RHO := by rw [hS1]; exact hρ
  clear hS1
  refine C_putF X (kf := 0) cb5 (by decide) (by decide) (by decide) (by rw [hρS1]; decide) (by decide) fl_X5_9 (fun _ _ _ => rfl) rfl hin rfl (fun _ => rfl) (fun _ => rfl) dX5_init_9 ?_
  exact C_vret X (by omega) hρS1 dX5_init_12
theorem hy_X1_init : yX1_init.cls ≠ "java/lang/invoke/MethodHandle" ∧ yX1_init.cls ≠ "java/lang/invoke/VarHandle" ∧ (parseMethodDescriptor yX1_init.desc).map (fun d => d.parameters.length) = some 0 := by decide +kernel
set_option maxRecDepth 20000 in
def fi_X1_init_41 (S : St) : Option (Unit × St) := nm (zI S 42) fun S1 => nm (zI S1 43) fun S2 => bd (fi_X5_init_43 S2) fun _ S3 => nm (zI S3 45) fun S4 => bd (fi_X5_init_45 S4) fun _ S5 => nm (zI S5 47) fun S6 => bd (fi_X5_init_47 S6) fun _ S7 => nm (zI S7 49) fun S8 => bd (fi_X5_init_49 S8) fun _ S9 => nm (zI S9 51) fun S10 => bd (fi_X5_init_51 S10) fun _ S11 => nm (zI S11 53) fun S12 => bd (fi_X5_init_53 S12) fun _ S13 => nm (zI S13 55) fun S14 => bd (fi_X5_init_55 S14) fun _ S15 => nm (zI S15 57) fun S16 => bd (fi_X5_init_57 S16) fun _ S17 => nm (zI S17 59) fun S18 => bd (fi_X5_init_59 S18) fun _ S19 => nm (zI S19 61) fun S20 => bd (fi_X5_init_61 S20) fun _ S21 => nm (zI S21 63) fun S22 => bd (fi_X5_init_63 S22) fun _ S23 => nm (zI S23 65) fun S24 => bd (fi_X5_init_65 S24) fun _ S25 => nm (zI S25 67) fun S26 => bd (fi_X5_init_67 S26) fun _ S27 => nm (zI S27 69) fun S28 => bd (fi_X5_init_69 S28) fun _ S29 => nm (zI S29 71) fun S30 => bd (fi_X5_init_71 S30) fun _ S31 => nm (zI S31 73) fun S32 => bd (fi_X5_init_73 S32) fun _ S33 => nm (zI S33 75) fun S34 => bd (fi_X5_init_75 S34) fun _ S35 => nm (zI S35 77) fun S36 => bd (fi_X5_init_77 S36) fun _ S37 => nm (zI S37 79) fun S38 => bd (fi_X5_init_79 S38) fun _ S39 => nm (zI S39 81) fun S40 => bd (fi_X5_init_81 S40) fun _ S41 => nm (zI S41 83) fun S42 => bd (fi_X5_init_83 S42) fun _ S43 => nm (zI S43 85) fun S44 => bd (fi_X5_init_85 S44) fun _ S45 => nm (zI S45 87) fun S46 => bd (fi_X5_init_87 S46) fun _ S47 => nm (zI S47 89) fun S48 => bd (fi_X5_init_89 S48) fun _ S49 => nm (zI S49 91) fun S50 => bd (fi_X5_init_91 S50) fun _ S51 => nm (zI S51 93) fun S52 => bd (fi_X5_init_93 S52) fun _ S53 => nm (zI S53 95) fun S54 => bd (fi_X5_init_95 S54) fun _ S55 => nm (zI S55 97) fun S56 => bd (fi_X5_init_97 S56) fun _ S57 => nm (zI S57 99) fun S58 => bd (fi_X5_init_99 S58) fun _ S59 => nm (zI S59 101) fun S60 => bd (fi_X5_init_101 S60) fun _ S61 => nm (zI S61 103) fun S62 => bd (fi_X5_init_103 S62) fun _ S63 => nm (zI S63 105) fun S64 => bd (fi_X5_init_105 S64) fun _ S65 => nm (zI S65 107) fun S66 => bd (fi_X5_init_107 S66) fun _ S67 => nm (zI S67 109) fun S68 => bd (fi_X5_init_109 S68) fun _ S69 => nm (zI S69 111) fun S70 => bd (fi_X5_init_111 S70) fun _ S71 => nm (zI S71 113) fun S72 => bd (fi_X5_init_113 S72) fun _ S73 => nm (zI S73 115) fun S74 => bd (fi_X5_init_115 S74) fun _ S75 => nm (zI S75 117) fun S76 => bd (fi_X5_init_117 S76) fun _ S77 => nm (zI S77 119) fun S78 => bd (fi_X5_init_119 S78) fun _ S79 => nm (zI S79 121) fun S80 => bd (fi_X5_init_121 S80) fun _ S81 => some ((), S81)
set_option maxRecDepth 20000 in
set_option maxHeartbeats 4000000 in
theorem I_X1_init_41 (G : GG) (hDG : ∀ a, gD G a → False) (S : St) : CI G yX1_init cX1_init 2 2 81 1680 [.ref 41] 46 42 S 127 123 (fi_X1_init_41 S) := by
  refine CI_of (ls := [some (.ref 41), none]) hDG (by decide) rfl (Nat.le_of_ble_eq_true rfl) rfl ?_
  intro K hG X hR hin hz hρ
  subst hG
  unfold fi_X1_init_41
  refine J_aload_n X dX1_init_0 (i := 0) rfl rfl ?_
  refine C_obj X ml_X1_3 (Nat.le_of_ble_eq_true rfl) ⟨by rw [hR]; exact Nat.le_of_ble_eq_true rfl, by rw [hR]; exact Nat.le_of_ble_eq_true rfl⟩ dX1_init_1 ?_
  refine J_aload_n X dX1_init_4 (i := 0) rfl rfl ?_
  refine J_bipush X (v := (40 : Int32)) dX1_init_5 (by decide) ?_
  refine C_newq X (len := 40) (by omega) (by decide) (by decide +kernel) cl_X1_9 (by decide) (by decide) (by decide) ⟨by rw [hR]; exact Nat.le_of_ble_eq_true rfl, by rw [hR]; exact Nat.le_of_ble_eq_true rfl⟩ dX1_init_7 (fun S1 hS1 => ?_)
  have hρS1 : S1.2.2 = RHO := by rw [hS1]; exact hρ
  clear hS1
  refine C_putF X (kf := 0) cb1 (by decide) (by decide) (by decide) (by rw [hρS1]; decide) (by decide) fl_X1_11 (fun _ _ _ => rfl) rfl hin rfl (fun _ => rfl) (fun _ => rfl) dX1_init_10 ?_
  refine J_iconst X (v := (0 : Int32)) dX1_init_13 (by decide) ?_
  refine J_istore_n X (i := 1) (ls' := [some (.ref 41), some (.int (0 : Int32))]) dX1_init_14 rfl (by decide) rfl ?_
  refine J_iload_n X dX1_init_15 (i := 1) rfl rfl ?_
  refine J_bipush X (v := (40 : Int32)) dX1_init_16 (by decide) ?_
  refine C_ge_f X (tgt := 40) (by decide) dX1_init_18 (by decide) ?_
  refine J_aload_n X dX1_init_21 (i := 0) rfl rfl ?_
  refine C_getR X (kf := 0) (q := 42) cb1 (by decide) (by decide) (by decide) fl_X1_11 (fun _ _ _ => rfl) (by decide +kernel) (by rw [hρS1]; decide) dX1_init_22 ?_
  refine J_iload_n X dX1_init_25 (i := 1) rfl rfl ?_
  refine C_new X cb5 (by decide) (by omega) cl_X1_9 it_RX5 ii_RX5 df_43_47 ⟨by rw [hR]; exact Nat.le_of_ble_eq_true rfl, by rw [hR]; exact Nat.le_of_ble_eq_true rfl⟩ dX1_init_26 (fun S2 hS2 => ?_)
  have hρS2 : S2.2.2 = RHO := by rw [hS2]; exact hρS1
  clear hS2
  refine J_dup X dX1_init_29 rfl ?_
  refine C_callI (As := []) X (I_X5_init_43 (kG K) hDG S2) ml_X1_17 in_yX5_init ii_RX5 co_yX5_init rfl hy_X5_init (hRc hR (by decide) (by decide)) ⟨by rw [hR]; exact Nat.le_of_ble_eq_true rfl, by rw [hR]; exact Nat.le_of_ble_eq_true rfl⟩ (by omega) hρS2 rfl (Nat.le_of_ble_eq_true rfl) dX1_init_30 (fun S3 hρS3 => ?_)
  refine C_aast X (len := 40) (j := 0) (by decide) (by decide) (by decide) (by decide) (by decide) (vp_in_iff.mpr (by decide)) (by decide) (by rw [hρS3]; decide) dX1_init_33 ?_
  refine J_iinc X (v := (1 : Int32)) (ls' := [some (.ref 41), some (.int (1 : Int32))]) dX1_init_34 (by decide) rfl (by decide) rfl ?_
  refine J_goto X (tgt := 15) dX1_init_37 (by decide) ?_
  refine J_iload_n X dX1_init_15 (i := 1) rfl rfl ?_
  refine J_bipush X (v := (40 : Int32)) dX1_init_16 (by decide) ?_
  refine C_ge_f X (tgt := 40) (by decide) dX1_init_18 (by decide) ?_
  refine J_aload_n X dX1_init_21 (i := 0) rfl rfl ?_
  refine C_getR X (kf := 0) (q := 42) cb1 (by decide) (by decide) (by decide) fl_X1_11 (fun _ _ _ => rfl) (by decide +kernel) (by rw [hρS3]; decide) dX1_init_22 ?_
  refine J_iload_n X dX1_init_25 (i := 1) rfl rfl ?_
  refine C_new X cb5 (by decide) (by omega) cl_X1_9 it_RX5 ii_RX5 df_45_49 ⟨by rw [hR]; exact Nat.le_of_ble_eq_true rfl, by rw [hR]; exact Nat.le_of_ble_eq_true rfl⟩ dX1_init_26 (fun S4 hS4 => ?_)
  have hρS4 : S4.2.2 = RHO := by rw [hS4]; exact hρS3
  clear hS4
  refine J_dup X dX1_init_29 rfl ?_
  refine C_callI (As := []) X (I_X5_init_45 (kG K) hDG S4) ml_X1_17 in_yX5_init ii_RX5 co_yX5_init rfl hy_X5_init (hRc hR (by decide) (by decide)) ⟨by rw [hR]; exact Nat.le_of_ble_eq_true rfl, by rw [hR]; exact Nat.le_of_ble_eq_true rfl⟩ (by omega) hρS4 rfl (Nat.le_of_ble_eq_true rfl) dX1_init_30 (fun S5 hρS5 => ?_)
  refine C_aast X (len := 40) (j := 1) (by decide) (by decide) (by decide) (by decide) (by decide) (vp_in_iff.mpr (by decide)) (by decide) (by rw [hρS5]; decide) dX1_init_33 ?_
  refine J_iinc X (v := (2 : Int32)) (ls' := [some (.ref 41), some (.int (2 : Int32))]) dX1_init_34 (by decide) rfl (by decide) rfl ?_
  refine J_goto X (tgt := 15) dX1_init_37 (by decide) ?_
  refine J_iload_n X dX1_init_15 (i := 1) rfl rfl ?_
  refine J_bipush X (v := (40 : Int32)) dX1_init_16 (by decide) ?_
  refine C_ge_f X (tgt := 40) (by decide) dX1_init_18 (by decide) ?_
  refine J_aload_n X dX1_init_21 (i := 0) rfl rfl ?_
  refine C_getR X (kf := 0) (q := 42) cb1 (by decide) (by decide) (by decide) fl_X1_11 (fun _ _ _ => rfl) (by decide +kernel) (by rw [hρS5]; decide) dX1_init_22 ?_
  refine J_iload_n X dX1_init_25 (i := 1) rfl rfl ?_
  refine C_new X cb5 (by decide) (by omega) cl_X1_9 it_RX5 ii_RX5 df_47_51 ⟨by rw [hR]; exact Nat.le_of_ble_eq_true rfl, by rw [hR]; exact Nat.le_of_ble_eq_true rfl⟩ dX1_init_26 (fun S6 hS6 => ?_)
  have hρS6 : S6.2.2 = RHO := by rw [hS6]; exact hρS5
  clear hS6
  refine J_dup X dX1_init_29 rfl ?_
  refine C_callI (As := []) X (I_X5_init_47 (kG K) hDG S6) ml_X1_17 in_yX5_init ii_RX5 co_yX5_init rfl hy_X5_init (hRc hR (by decide) (by decide)) ⟨by rw [hR]; exact Nat.le_of_ble_eq_true rfl, by rw [hR]; exact Nat.le_of_ble_eq_true rfl⟩ (by omega) hρS6 rfl (Nat.le_of_ble_eq_true rfl) dX1_init_30 (fun S7 hρS7 => ?_)
  refine C_aast X (len := 40) (j := 2) (by decide) (by decide) (by decide) (by decide) (by decide) (vp_in_iff.mpr (by decide)) (by decide) (by rw [hρS7]; decide) dX1_init_33 ?_
  refine J_iinc X (v := (3 : Int32)) (ls' := [some (.ref 41), some (.int (3 : Int32))]) dX1_init_34 (by decide) rfl (by decide) rfl ?_
  refine J_goto X (tgt := 15) dX1_init_37 (by decide) ?_
  refine J_iload_n X dX1_init_15 (i := 1) rfl rfl ?_
  refine J_bipush X (v := (40 : Int32)) dX1_init_16 (by decide) ?_
  refine C_ge_f X (tgt := 40) (by decide) dX1_init_18 (by decide) ?_
  refine J_aload_n X dX1_init_21 (i := 0) rfl rfl ?_
  refine C_getR X (kf := 0) (q := 42) cb1 (by decide) (by decide) (by decide) fl_X1_11 (fun _ _ _ => rfl) (by decide +kernel) (by rw [hρS7]; decide) dX1_init_22 ?_
  refine J_iload_n X dX1_init_25 (i := 1) rfl rfl ?_
  refine C_new X cb5 (by decide) (by omega) cl_X1_9 it_RX5 ii_RX5 df_49_53 ⟨by rw [hR]; exact Nat.le_of_ble_eq_true rfl, by rw [hR]; exact Nat.le_of_ble_eq_true rfl⟩ dX1_init_26 (fun S8 hS8 => ?_)
  have hρS8 : S8.2.2 = RHO := by rw [hS8]; exact hρS7
  clear hS8
  refine J_dup X dX1_init_29 rfl ?_
  refine C_callI (As := []) X (I_X5_init_49 (kG K) hDG S8) ml_X1_17 in_yX5_init ii_RX5 co_yX5_init rfl hy_X5_init (hRc hR (by decide) (by decide)) ⟨by rw [hR]; exact Nat.le_of_ble_eq_true rfl, by rw [hR]; exact Nat.le_of_ble_eq_true rfl⟩ (by omega) hρS8 rfl (Nat.le_of_ble_eq_true rfl) dX1_init_30 (fun S9 hρS9 => ?_)
  refine C_aast X (len := 40) (j := 3) (by decide) (by decide) (by decide) (by decide) (by decide) (vp_in_iff.mpr (by decide)) (by decide) (by rw [hρS9]; decide) dX1_init_33 ?_
  refine J_iinc X (v := (4 : Int32)) (ls' := [some (.ref 41), some (.int (4 : Int32))]) dX1_init_34 (by decide) rfl (by decide) rfl ?_
  refine J_goto X (tgt := 15) dX1_init_37 (by decide) ?_
  refine J_iload_n X dX1_init_15 (i := 1) rfl rfl ?_
  refine J_bipush X (v := (40 : Int32)) dX1_init_16 (by decide) ?_
  refine C_ge_f X (tgt := 40) (by decide) dX1_init_18 (by decide) ?_
  refine J_aload_n X dX1_init_21 (i := 0) rfl rfl ?_
  refine C_getR X (kf := 0) (q := 42) cb1 (by decide) (by decide) (by decide) fl_X1_11 (fun _ _ _ => rfl) (by decide +kernel) (by rw [hρS9]; decide) dX1_init_22 ?_
  refine J_iload_n X dX1_init_25 (i := 1) rfl rfl ?_
  refine C_new X cb5 (by decide) (by omega) cl_X1_9 it_RX5 ii_RX5 df_51_55 ⟨by rw [hR]; exact Nat.le_of_ble_eq_true rfl, by rw [hR]; exact Nat.le_of_ble_eq_true rfl⟩ dX1_init_26 (fun S10 hS10 => ?_)
  have hρS10 : S10.2.2 = RHO := by rw [hS10]; exact hρS9
  clear hS10
  refine J_dup X dX1_init_29 rfl ?_
  refine C_callI (As := []) X (I_X5_init_51 (kG K) hDG S10) ml_X1_17 in_yX5_init ii_RX5 co_yX5_init rfl hy_X5_init (hRc hR (by decide) (by decide)) ⟨by rw [hR]; exact Nat.le_of_ble_eq_true rfl, by rw [hR]; exact Nat.le_of_ble_eq_true rfl⟩ (by omega) hρS10 rfl (Nat.le_of_ble_eq_true rfl) dX1_init_30 (fun S11 hρS11 => ?_)
  refine C_aast X (len := 40) (j := 4) (by decide) (by decide) (by decide) (by decide) (by decide) (vp_in_iff.mpr (by decide)) (by decide) (by rw [hρS11]; decide) dX1_init_33 ?_
  refine J_iinc X (v := (5 : Int32)) (ls' := [some (.ref 41), some (.int (5 : Int32))]) dX1_init_34 (by decide) rfl (by decide) rfl ?_
  refine J_goto X (tgt := 15) dX1_init_37 (by decide) ?_
  refine J_iload_n X dX1_init_15 (i := 1) rfl rfl ?_
  refine J_bipush X (v := (40 : Int32)) dX1_init_16 (by decide) ?_
  refine C_ge_f X (tgt := 40) (by decide) dX1_init_18 (by decide) ?_
  refine J_aload_n X dX1_init_21 (i := 0) rfl rfl ?_
  refine C_getR X (kf := 0) (q := 42) cb1 (by decide) (by decide) (by decide) fl_X1_11 (fun _ _ _ => rfl) (by decide +kernel) (by rw [hρS11]; decide) dX1_init_22 ?_
  refine J_iload_n X dX1_init_25 (i := 1) rfl rfl ?_
  refine C_new X cb5 (by decide) (by omega) cl_X1_9 it_RX5 ii_RX5 df_53_57 ⟨by rw [hR]; exact Nat.le_of_ble_eq_true rfl, by rw [hR]; exact Nat.le_of_ble_eq_true rfl⟩ dX1_init_26 (fun S12 hS12 => ?_)
  have hρS12 : S12.2.2 = RHO := by rw [hS12]; exact hρS11
  clear hS12
  refine J_dup X dX1_init_29 rfl ?_
  refine C_callI (As := []) X (I_X5_init_53 (kG K) hDG S12) ml_X1_17 in_yX5_init ii_RX5 co_yX5_init rfl hy_X5_init (hRc hR (by decide) (by decide)) ⟨by rw [hR]; exact Nat.le_of_ble_eq_true rfl, by rw [hR]; exact Nat.le_of_ble_eq_true rfl⟩ (by omega) hρS12 rfl (Nat.le_of_ble_eq_true rfl) dX1_init_30 (fun S13 hρS13 => ?_)
  refine C_aast X (len := 40) (j := 5) (by decide) (by decide) (by decide) (by decide) (by decide) (vp_in_iff.mpr (by decide)) (by decide) (by rw [hρS13]; decide) dX1_init_33 ?_
  refine J_iinc X (v := (6 : Int32)) (ls' := [some (.ref 41), some (.int (6 : Int32))]) dX1_init_34 (by decide) rfl (by decide) rfl ?_
  refine J_goto X (tgt := 15) dX1_init_37 (by decide) ?_
  refine J_iload_n X dX1_init_15 (i := 1) rfl rfl ?_
  refine J_bipush X (v := (40 : Int32)) dX1_init_16 (by decide) ?_
  refine C_ge_f X (tgt := 40) (by decide) dX1_init_18 (by decide) ?_
  refine J_aload_n X dX1_init_21 (i := 0) rfl rfl ?_
  refine C_getR X (kf := 0) (q := 42) cb1 (by decide) (by decide) (by decide) fl_X1_11 (fun _ _ _ => rfl) (by decide +kernel) (by rw [hρS13]; decide) dX1_init_22 ?_
  refine J_iload_n X dX1_init_25 (i := 1) rfl rfl ?_
  refine C_new X cb5 (by decide) (by omega) cl_X1_9 it_RX5 ii_RX5 df_55_59 ⟨by rw [hR]; exact Nat.le_of_ble_eq_true rfl, by rw [hR]; exact Nat.le_of_ble_eq_true rfl⟩ dX1_init_26 (fun S14 hS14 => ?_)
  have hρS14 : S14.2.2 = RHO := by rw [hS14]; exact hρS13
  clear hS14
  refine J_dup X dX1_init_29 rfl ?_
  refine C_callI (As := []) X (I_X5_init_55 (kG K) hDG S14) ml_X1_17 in_yX5_init ii_RX5 co_yX5_init rfl hy_X5_init (hRc hR (by decide) (by decide)) ⟨by rw [hR]; exact Nat.le_of_ble_eq_true rfl, by rw [hR]; exact Nat.le_of_ble_eq_true rfl⟩ (by omega) hρS14 rfl (Nat.le_of_ble_eq_true rfl) dX1_init_30 (fun S15 hρS15 => ?_)
  refine C_aast X (len := 40) (j := 6) (by decide) (by decide) (by decide) (by decide) (by decide) (vp_in_iff.mpr (by decide)) (by decide) (by rw [hρS15]; decide) dX1_init_33 ?_
  refine J_iinc X (v := (7 : Int32)) (ls' := [some (.ref 41), some (.int (7 : Int32))]) dX1_init_34 (by decide) rfl (by decide) rfl ?_
  refine J_goto X (tgt := 15) dX1_init_37 (by decide) ?_
  refine J_iload_n X dX1_init_15 (i := 1) rfl rfl ?_
  refine J_bipush X (v := (40 : Int32)) dX1_init_16 (by decide) ?_
  refine C_ge_f X (tgt := 40) (by decide) dX1_init_18 (by decide) ?_
  refine J_aload_n X dX1_init_21 (i := 0) rfl rfl ?_
  refine C_getR X (kf := 0) (q := 42) cb1 (by decide) (by decide) (by decide) fl_X1_11 (fun _ _ _ => rfl) (by decide +kernel) (by rw [hρS15]; decide) dX1_init_22 ?_
  refine J_iload_n X dX1_init_25 (i := 1) rfl rfl ?_
  refine C_new X cb5 (by decide) (by omega) cl_X1_9 it_RX5 ii_RX5 df_57_61 ⟨by rw [hR]; exact Nat.le_of_ble_eq_true rfl, by rw [hR]; exact Nat.le_of_ble_eq_true rfl⟩ dX1_init_26 (fun S16 hS16 => ?_)
  have hρS16 : S16.2.2 = RHO := by rw [hS16]; exact hρS15
  clear hS16
  refine J_dup X dX1_init_29 rfl ?_
  refine C_callI (As := []) X (I_X5_init_57 (kG K) hDG S16) ml_X1_17 in_yX5_init ii_RX5 co_yX5_init rfl hy_X5_init (hRc hR (by decide) (by decide)) ⟨by rw [hR]; exact Nat.le_of_ble_eq_true rfl, by rw [hR]; exact Nat.le_of_ble_eq_true rfl⟩ (by omega) hρS16 rfl (Nat.le_of_ble_eq_true rfl) dX1_init_30 (fun S17 hρS17 => ?_)
  refine C_aast X (len := 40) (j := 7) (by decide) (by decide) (by decide) (by decide) (by decide) (vp_in_iff.mpr (by decide)) (by decide) (by rw [hρS17]; decide) dX1_init_33 ?_
  refine J_iinc X (v := (8 : Int32)) (ls' := [some (.ref 41), some (.int (8 : Int32))]) dX1_init_34 (by decide) rfl (by decide) rfl ?_
  refine J_goto X (tgt := 15) dX1_init_37 (by decide) ?_
  refine J_iload_n X dX1_init_15 (i := 1) rfl rfl ?_
  refine J_bipush X (v := (40 : Int32)) dX1_init_16 (by decide) ?_
  refine C_ge_f X (tgt := 40) (by decide) dX1_init_18 (by decide) ?_
  refine J_aload_n X dX1_init_21 (i := 0) rfl rfl ?_
  refine C_getR X (kf := 0) (q := 42) cb1 (by decide) (by decide) (by decide) fl_X1_11 (fun _ _ _ => rfl) (by decide +kernel) (by rw [hρS17]; decide) dX1_init_22 ?_
  refine J_iload_n X dX1_init_25 (i := 1) rfl rfl ?_
  refine C_new X cb5 (by decide) (by omega) cl_X1_9 it_RX5 ii_RX5 df_59_63 ⟨by rw [hR]; exact Nat.le_of_ble_eq_true rfl, by rw [hR]; exact Nat.le_of_ble_eq_true rfl⟩ dX1_init_26 (fun S18 hS18 => ?_)
  have hρS18 : S18.2.2 = RHO := by rw [hS18]; exact hρS17
  clear hS18
  refine J_dup X dX1_init_29 rfl ?_
  refine C_callI (As := []) X (I_X5_init_59 (kG K) hDG S18) ml_X1_17 in_yX5_init ii_RX5 co_yX5_init rfl hy_X5_init (hRc hR (by decide) (by decide)) ⟨by rw [hR]; exact Nat.le_of_ble_eq_true rfl, by rw [hR]; exact Nat.le_of_ble_eq_true rfl⟩ (by omega) hρS18 rfl (Nat.le_of_ble_eq_true rfl) dX1_init_30 (fun S19 hρS19 => ?_)
  refine C_aast X (len := 40) (j := 8) (by decide) (by decide) (by decide) (by decide) (by decide) (vp_in_iff.mpr (by decide)) (by decide) (by rw [hρS19]; decide) dX1_init_33 ?_
  refine J_iinc X (v := (9 : Int32)) (ls' := [some (.ref 41), some (.int (9 : Int32))]) dX1_init_34 (by decide) rfl (by decide) rfl ?_
  refine J_goto X (tgt := 15) dX1_init_37 (by decide) ?_
  refine J_iload_n X dX1_init_15 (i := 1) rfl rfl ?_
  refine J_bipush X (v := (40 : Int32)) dX1_init_16 (by decide) ?_
  refine C_ge_f X (tgt := 40) (by decide) dX1_init_18 (by decide) ?_
  refine J_aload_n X dX1_init_21 (i := 0) rfl rfl ?_
  refine C_getR X (kf := 0) (q := 42) cb1 (by decide) (by decide) (by decide) fl_X1_11 (fun _ _ _ => rfl) (by decide +kernel) (by rw [hρS19]; decide) dX1_init_22 ?_
  refine J_iload_n X dX1_init_25 (i := 1) rfl rfl ?_
  refine C_new X cb5 (by decide) (by omega) cl_X1_9 it_RX5 ii_RX5 df_61_65 ⟨by rw [hR]; exact Nat.le_of_ble_eq_true rfl, by rw [hR]; exact Nat.le_of_ble_eq_true rfl⟩ dX1_init_26 (fun S20 hS20 => ?_)
  have hρS20 : S20.2.2 = RHO := by rw [hS20]; exact hρS19
  clear hS20
  refine J_dup X dX1_init_29 rfl ?_
  refine C_callI (As := []) X (I_X5_init_61 (kG K) hDG S20) ml_X1_17 in_yX5_init ii_RX5 co_yX5_init rfl hy_X5_init (hRc hR (by decide) (by decide)) ⟨by rw [hR]; exact Nat.le_of_ble_eq_true rfl, by rw [hR]; exact Nat.le_of_ble_eq_true rfl⟩ (by omega) hρS20 rfl (Nat.le_of_ble_eq_true rfl) dX1_init_30 (fun S21 hρS21 => ?_)
  refine C_aast X (len := 40) (j := 9) (by decide) (by decide) (by decide) (by decide) (by decide) (vp_in_iff.mpr (by decide)) (by decide) (by rw [hρS21]; decide) dX1_init_33 ?_
  refine J_iinc X (v := (10 : Int32)) (ls' := [some (.ref 41), some (.int (10 : Int32))]) dX1_init_34 (by decide) rfl (by decide) rfl ?_
  refine J_goto X (tgt := 15) dX1_init_37 (by decide) ?_
  refine J_iload_n X dX1_init_15 (i := 1) rfl rfl ?_
  refine J_bipush X (v := (40 : Int32)) dX1_init_16 (by decide) ?_
  refine C_ge_f X (tgt := 40) (by decide) dX1_init_18 (by decide) ?_
  refine J_aload_n X dX1_init_21 (i := 0) rfl rfl ?_
  refine C_getR X (kf := 0) (q := 42) cb1 (by decide) (by decide) (by decide) fl_X1_11 (fun _ _ _ => rfl) (by decide +kernel) (by rw [hρS21]; decide) dX1_init_22 ?_
  refine J_iload_n X dX1_init_25 (i := 1) rfl rfl ?_
  refine C_new X cb5 (by decide) (by omega) cl_X1_9 it_RX5 ii_RX5 df_63_67 ⟨by rw [hR]; exact Nat.le_of_ble_eq_true rfl, by rw [hR]; exact Nat.le_of_ble_eq_true rfl⟩ dX1_init_26 (fun S22 hS22 => ?_)
  have hρS22 : S22.2.2 = RHO := by rw [hS22]; exact hρS21
  clear hS22
  refine J_dup X dX1_init_29 rfl ?_
  refine C_callI (As := []) X (I_X5_init_63 (kG K) hDG S22) ml_X1_17 in_yX5_init ii_RX5 co_yX5_init rfl hy_X5_init (hRc hR (by decide) (by decide)) ⟨by rw [hR]; exact Nat.le_of_ble_eq_true rfl, by rw [hR]; exact Nat.le_of_ble_eq_true rfl⟩ (by omega) hρS22 rfl (Nat.le_of_ble_eq_true rfl) dX1_init_30 (fun S23 hρS23 => ?_)
  refine C_aast X (len := 40) (j := 10) (by decide) (by decide) (by decide) (by decide) (by decide) (vp_in_iff.mpr (by decide)) (by decide) (by rw [hρS23]; decide) dX1_init_33 ?_
  refine J_iinc X (v := (11 : Int32)) (ls' := [some (.ref 41), some (.int (11 : Int32))]) dX1_init_34 (by decide) rfl (by decide) rfl ?_
  refine J_goto X (tgt := 15) dX1_init_37 (by decide) ?_
  refine J_iload_n X dX1_init_15 (i := 1) rfl rfl ?_
  refine J_bipush X (v := (40 : Int32)) dX1_init_16 (by decide) ?_
  refine C_ge_f X (tgt := 40) (by decide) dX1_init_18 (by decide) ?_
  refine J_aload_n X dX1_init_21 (i := 0) rfl rfl ?_
  refine C_getR X (kf := 0) (q := 42) cb1 (by decide) (by decide) (by decide) fl_X1_11 (fun _ _ _ => rfl) (by decide +kernel) (by rw [hρS23]; decide) dX1_init_22 ?_
  refine J_iload_n X dX1_init_25 (i := 1) rfl rfl ?_
  refine C_new X cb5 (by decide) (by omega) cl_X1_9 it_RX5 ii_RX5 df_65_69 ⟨by rw [hR]; exact Nat.le_of_ble_eq_true rfl, by rw [hR]; exact Nat.le_of_ble_eq_true rfl⟩ dX1_init_26 (fun S24 hS24 => ?_)
  have hρS24 : S24.2.2 = RHO := by rw [hS24]; exact hρS23
  clear hS24
  refine J_dup X dX1_init_29 rfl ?_
  refine C_callI (As := []) X (I_X5_init_65 (kG K) hDG S24) ml_X1_17 in_yX5_init ii_RX5 co_yX5_init rfl hy_X5_init (hRc hR (by decide) (by decide)) ⟨by rw [hR]; exact Nat.le_of_ble_eq_true rfl, by rw [hR]; exact Nat.le_of_ble_eq_true rfl⟩ (by omega) hρS24 rfl (Nat.le_of_ble_eq_true rfl) dX1_init_30 (fun S25 hρS25 => ?_)
  refine C_aast X (len := 40) (j := 11) (by decide) (by decide) (by decide) (by decide) (by decide) (vp_in_iff.mpr (by decide)) (by decide) (by rw [hρS25]; decide) dX1_init_33 ?_
  refine J_iinc X (v := (12 : Int32)) (ls' := [some (.ref 41), some (.int (12 : Int32))]) dX1_init_34 (by decide) rfl (by decide) rfl ?_
  refine J_goto X (tgt := 15) dX1_init_37 (by decide) ?_
  refine J_iload_n X dX1_init_15 (i := 1) rfl rfl ?_
  refine J_bipush X (v := (40 : Int32)) dX1_init_16 (by decide) ?_
  refine C_ge_f X (tgt := 40) (by decide) dX1_init_18 (by decide) ?_
  refine J_aload_n X dX1_init_21 (i := 0) rfl rfl ?_
  refine C_getR X (kf := 0) (q := 42) cb1 (by decide) (by decide) (by decide) fl_X1_11 (fun _ _ _ => rfl) (by decide +kernel) (by rw [hρS25]; decide) dX1_init_22 ?_
  refine J_iload_n X dX1_init_25 (i := 1) rfl rfl ?_
  refine C_new X cb5 (by decide) (by omega) cl_X1_9 it_RX5 ii_RX5 df_67_71 ⟨by rw [hR]; exact Nat.le_of_ble_eq_true rfl, by rw [hR]; exact Nat.le_of_ble_eq_true rfl⟩ dX1_init_26 (fun S26 hS26 => ?_)
  have hρS26 : S26.2.2 = RHO := by rw [hS26]; exact hρS25
  clear hS26
  refine J_dup X dX1_init_29 rfl ?_
  refine C_callI (As := []) X (I_X5_init_67 (kG K) hDG S26) ml_X1_17 in_yX5_init ii_RX5 co_yX5_init rfl hy_X5_init (hRc hR (by decide) (by decide)) ⟨by rw [hR]; exact Nat.le_of_ble_eq_true rfl, by rw [hR]; exact Nat.le_of_ble_eq_true rfl⟩ (by omega) hρS26 rfl (Nat.le_of_ble_eq_true rfl) dX1_init_30 (fun S27 hρS27 => ?_)
  refine C_aast X (len := 40) (j := 12) (by decide) (by decide) (by decide) (by decide) (by decide) (vp_in_iff.mpr (by decide)) (by decide) (by rw [hρS27]; decide) dX1_init_33 ?_
  refine J_iinc X (v := (13 : Int32)) (ls' := [some (.ref 41), some (.int (13 : Int32))]) dX1_init_34 (by decide) rfl (by decide) rfl ?_
  refine J_goto X (tgt := 15) dX1_init_37 (by decide) ?_
  refine J_iload_n X dX1_init_15 (i := 1) rfl rfl ?_
  refine J_bipush X (v := (40 : Int32)) dX1_init_16 (by decide) ?_
  refine C_ge_f X (tgt := 40) (by decide) dX1_init_18 (by decide) ?_
  refine J_aload_n X dX1_init_21 (i := 0) rfl rfl ?_
  refine C_getR X (kf := 0) (q := 42) cb1 (by decide) (by decide) (by decide) fl_X1_11 (fun _ _ _ => rfl) (by decide +kernel) (by rw [hρS27]; decide) dX1_init_22 ?_
  refine J_iload_n X dX1_init_25 (i := 1) rfl rfl ?_
  refine C_new X cb5 (by decide) (by omega) cl_X1_9 it_RX5 ii_RX5 df_69_73 ⟨by rw [hR]; exact Nat.le_of_ble_eq_true rfl, by rw [hR]; exact Nat.le_of_ble_eq_true rfl⟩ dX1_init_26 (fun S28 hS28 => ?_)
  have hρS28 : S28.2.2 = RHO := by rw [hS28]; exact hρS27
  clear hS28
  refine J_dup X dX1_init_29 rfl ?_
  refine C_callI (As := []) X (I_X5_init_69 (kG K) hDG S28) ml_X1_17 in_yX5_init ii_RX5 co_yX5_init rfl hy_X5_init (hRc hR (by decide) (by decide)) ⟨by rw [hR]; exact Nat.le_of_ble_eq_true rfl, by rw [hR]; exact Nat.le_of_ble_eq_true rfl⟩ (by omega) hρS28 rfl (Nat.le_of_ble_eq_true rfl) dX1_init_30 (fun S29 hρS29 => ?_)
  refine C_aast X (len := 40) (j := 13) (by decide) (by decide) (by decide) (by decide) (by decide) (vp_in_iff.mpr (by decide)) (by decide) (by rw [hρS29]; decide) dX1_init_33 ?_
  refine J_iinc X (v := (14 : Int32)) (ls' := [some (.ref 41), some (.int (14 : Int32))]) dX1_init_34 (by decide) rfl (by decide) rfl ?_
  refine J_goto X (tgt := 15) dX1_init_37 (by decide) ?_
  refine J_iload_n X dX1_init_15 (i := 1) rfl rfl ?_
  refine J_bipush X (v := (40 : Int32)) dX1_init_16 (by decide) ?_
  refine C_ge_f X (tgt := 40) (by decide) dX1_init_18 (by decide) ?_
  refine J_aload_n X dX1_init_21 (i := 0) rfl rfl ?_
  refine C_getR X (kf := 0) (q := 42) cb1 (by decide) (by decide) (by decide) fl_X1_11 (fun _ _ _ => rfl) (by decide +kernel) (by rw [hρS29]; decide) dX1_init_22 ?_
  refine J_iload_n X dX1_init_25 (i := 1) rfl rfl ?_
  refine C_new X cb5 (by decide) (by omega) cl_X1_9 it_RX5 ii_RX5 df_71_75 ⟨by rw [hR]; exact Nat.le_of_ble_eq_true rfl, by rw [hR]; exact Nat.le_of_ble_eq_true rfl⟩ dX1_init_26 (fun S30 hS30 => ?_)
  have hρS30 : S30.2.2 = RHO := by rw [hS30]; exact hρS29
  clear hS30
  refine J_dup X dX1_init_29 rfl ?_
  refine C_callI (As := []) X (I_X5_init_71 (kG K) hDG S30) ml_X1_17 in_yX5_init ii_RX5 co_yX5_init rfl hy_X5_init (hRc hR (by decide) (by decide)) ⟨by rw [hR]; exact Nat.le_of_ble_eq_true rfl, by rw [hR]; exact Nat.le_of_ble_eq_true rfl⟩ (by omega) hρS30 rfl (Nat.le_of_ble_eq_true rfl) dX1_init_30 (fun S31 hρS31 => ?_)
  refine C_aast X (len := 40) (j := 14) (by decide) (by decide) (by decide) (by decide) (by decide) (vp_in_iff.mpr (by decide)) (by decide) (by rw [hρS31]; decide) dX1_init_33 ?_
  refine J_iinc X (v := (15 : Int32)) (ls' := [some (.ref 41), some (.int (15 : Int32))]) dX1_init_34 (by decide) rfl (by decide) rfl ?_
  refine J_goto X (tgt := 15) dX1_init_37 (by decide) ?_
  refine J_iload_n X dX1_init_15 (i := 1) rfl rfl ?_
  refine J_bipush X (v := (40 : Int32)) dX1_init_16 (by decide) ?_
  refine C_ge_f X (tgt := 40) (by decide) dX1_init_18 (by decide) ?_
  refine J_aload_n X dX1_init_21 (i := 0) rfl rfl ?_
  refine C_getR X (kf := 0) (q := 42) cb1 (by decide) (by decide) (by decide) fl_X1_11 (fun _ _ _ => rfl) (by decide +kernel) (by rw [hρS31]; decide) dX1_init_22 ?_
  refine J_iload_n X dX1_init_25 (i := 1) rfl rfl ?_
  refine C_new X cb5 (by decide) (by omega) cl_X1_9 it_RX5 ii_RX5 df_73_77 ⟨by rw [hR]; exact Nat.le_of_ble_eq_true rfl, by rw [hR]; exact Nat.le_of_ble_eq_true rfl⟩ dX1_init_26 (fun S32 hS32 => ?_)
  have hρS32 : S32.2.2 = RHO := by rw [hS32]; exact hρS31
  clear hS32
  refine J_dup X dX1_init_29 rfl ?_
  refine C_callI (As := []) X (I_X5_init_73 (kG K) hDG S32) ml_X1_17 in_yX5_init ii_RX5 co_yX5_init rfl hy_X5_init (hRc hR (by decide) (by decide)) ⟨by rw [hR]; exact Nat.le_of_ble_eq_true rfl, by rw [hR]; exact Nat.le_of_ble_eq_true rfl⟩ (by omega) hρS32 rfl (Nat.le_of_ble_eq_true rfl) dX1_init_30 (fun S33 hρS33 => ?_)
  refine C_aast X (len := 40) (j := 15) (by decide) (by decide) (by decide) (by decide) (by decide) (vp_in_iff.mpr (by decide)) (by decide) (by rw [hρS33]; decide) dX1_init_33 ?_
  refine J_iinc X (v := (16 : Int32)) (ls' := [some (.ref 41), some (.int (16 : Int32))]) dX1_init_34 (by decide) rfl (by decide) rfl ?_
  refine J_goto X (tgt := 15) dX1_init_37 (by decide) ?_
  refine J_iload_n X dX1_init_15 (i := 1) rfl rfl ?_
  refine J_bipush X (v := (40 : Int32)) dX1_init_16 (by decide) ?_
  refine C_ge_f X (tgt := 40) (by decide) dX1_init_18 (by decide) ?_
  refine J_aload_n X dX1_init_21 (i := 0) rfl rfl ?_
  refine C_getR X (kf := 0) (q := 42) cb1 (by decide) (by decide) (by decide) fl_X1_11 (fun _ _ _ => rfl) (by decide +kernel) (by rw [hρS33]; decide) dX1_init_22 ?_
  refine J_iload_n X dX1_init_25 (i := 1) rfl rfl ?_
  refine C_new X cb5 (by decide) (by omega) cl_X1_9 it_RX5 ii_RX5 df_75_79 ⟨by rw [hR]; exact Nat.le_of_ble_eq_true rfl, by rw [hR]; exact Nat.le_of_ble_eq_true rfl⟩ dX1_init_26 (fun S34 hS34 => ?_)
  have hρS34 : S34.2.2 = RHO := by rw [hS34]; exact hρS33
  clear hS34
  refine J_dup X dX1_init_29 rfl ?_
  refine C_callI (As := []) X (I_X5_init_75 (kG K) hDG S34) ml_X1_17 in_yX5_init ii_RX5 co_yX5_init rfl hy_X5_init (hRc hR (by decide) (by decide)) ⟨by rw [hR]; exact Nat.le_of_ble_eq_true rfl, by rw [hR]; exact Nat.le_of_ble_eq_true rfl⟩ (by omega) hρS34 rfl (Nat.le_of_ble_eq_true rfl) dX1_init_30 (fun S35 hρS35 => ?_)
  refine C_aast X (len := 40) (j := 16) (by decide) (by decide) (by decide) (by decide) (by decide) (vp_in_iff.mpr (by decide)) (by decide) (by rw [hρS35]; decide) dX1_init_33 ?_
  refine J_iinc X (v := (17 : Int32)) (ls' := [some (.ref 41), some (.int (17 : Int32))]) dX1_init_34 (by decide) rfl (by decide) rfl ?_
  refine J_goto X (tgt := 15) dX1_init_37 (by decide) ?_
  refine J_iload_n X dX1_init_15 (i := 1) rfl rfl ?_
  refine J_bipush X (v := (40 : Int32)) dX1_init_16 (by decide) ?_
  refine C_ge_f X (tgt := 40) (by decide) dX1_init_18 (by decide) ?_
  refine J_aload_n X dX1_init_21 (i := 0) rfl rfl ?_
  refine C_getR X (kf := 0) (q := 42) cb1 (by decide) (by decide) (by decide) fl_X1_11 (fun _ _ _ => rfl) (by decide +kernel) (by rw [hρS35]; decide) dX1_init_22 ?_
  refine J_iload_n X dX1_init_25 (i := 1) rfl rfl ?_
  refine C_new X cb5 (by decide) (by omega) cl_X1_9 it_RX5 ii_RX5 df_77_81 ⟨by rw [hR]; exact Nat.le_of_ble_eq_true rfl, by rw [hR]; exact Nat.le_of_ble_eq_true rfl⟩ dX1_init_26 (fun S36 hS36 => ?_)
  have hρS36 : S36.2.2 = RHO := by rw [hS36]; exact hρS35
  clear hS36
  refine J_dup X dX1_init_29 rfl ?_
  refine C_callI (As := []) X (I_X5_init_77 (kG K) hDG S36) ml_X1_17 in_yX5_init ii_RX5 co_yX5_init rfl hy_X5_init (hRc hR (by decide) (by decide)) ⟨by rw [hR]; exact Nat.le_of_ble_eq_true rfl, by rw [hR]; exact Nat.le_of_ble_eq_true rfl⟩ (by omega) hρS36 rfl (Nat.le_of_ble_eq_true rfl) dX1_init_30 (fun S37 hρS37 => ?_)
  refine C_aast X (len := 40) (j := 17) (by decide) (by decide) (by decide) (by decide) (by decide) (vp_in_iff.mpr (by decide)) (by decide) (by rw [hρS37]; decide) dX1_init_33 ?_
  refine J_iinc X (v := (18 : Int32)) (ls' := [some (.ref 41), some (.int (18 : Int32))]) dX1_init_34 (by decide) rfl (by decide) rfl ?_
  refine J_goto X (tgt := 15) dX1_init_37 (by decide) ?_
  refine J_iload_n X dX1_init_15 (i := 1) rfl rfl ?_
  refine J_bipush X (v := (40 : Int32)) dX1_init_16 (by decide) ?_
  refine C_ge_f X (tgt := 40) (by decide) dX1_init_18 (by decide) ?_
  refine J_aload_n X dX1_init_21 (i := 0) rfl rfl ?_
  refine C_getR X (kf := 0) (q := 42) cb1 (by decide) (by decide) (by decide) fl_X1_11 (fun _ _ _ => rfl) (by decide +kernel) (by rw [hρS37]; decide) dX1_init_22 ?_
  refine J_iload_n X dX1_init_25 (i := 1) rfl rfl ?_
  refine C_new X cb5 (by decide) (by omega) cl_X1_9 it_RX5 ii_RX5 df_79_83 ⟨by rw [hR]; exact Nat.le_of_ble_eq_true rfl, by rw [hR]; exact Nat.le_of_ble_eq_true rfl⟩ dX1_init_26 (fun S38 hS38 => ?_)
  have hρS38 : S38.2.2 = RHO := by rw [hS38]; exact hρS37
  clear hS38
  refine J_dup X dX1_init_29 rfl ?_
  refine C_callI (As := []) X (I_X5_init_79 (kG K) hDG S38) ml_X1_17 in_yX5_init ii_RX5 co_yX5_init rfl hy_X5_init (hRc hR (by decide) (by decide)) ⟨by rw [hR]; exact Nat.le_of_ble_eq_true rfl, by rw [hR]; exact Nat.le_of_ble_eq_true rfl⟩ (by omega) hρS38 rfl (Nat.le_of_ble_eq_true rfl) dX1_init_30 (fun S39 hρS39 => ?_)
  refine C_aast X (len := 40) (j := 18) (by decide) (by decide) (by decide) (by decide) (by decide) (vp_in_iff.mpr (by decide)) (by decide) (by rw [hρS39]; decide) dX1_init_33 ?_
  refine J_iinc X (v := (19 : Int32)) (ls' := [some (.ref 41), some (.int (19 : Int32))]) dX1_init_34 (by decide) rfl (by decide) rfl ?_
  refine J_goto X (tgt := 15) dX1_init_37 (by decide) ?_
  refine J_iload_n X dX1_init_15 (i := 1) rfl rfl ?_
  refine J_bipush X (v := (40 : Int32)) dX1_init_16 (by decide) ?_
  refine C_ge_f X (tgt := 40) (by decide) dX1_init_18 (by decide) ?_
  refine J_aload_n X dX1_init_21 (i := 0) rfl rfl ?_
  refine C_getR X (kf := 0) (q := 42) cb1 (by decide) (by decide) (by decide) fl_X1_11 (fun _ _ _ => rfl) (by decide +kernel) (by rw [hρS39]; decide) dX1_init_22 ?_
  refine J_iload_n X dX1_init_25 (i := 1) rfl rfl ?_
  refine C_new X cb5 (by decide) (by omega) cl_X1_9 it_RX5 ii_RX5 df_81_85 ⟨by rw [hR]; exact Nat.le_of_ble_eq_true rfl, by rw [hR]; exact Nat.le_of_ble_eq_true rfl⟩ dX1_init_26 (fun S40 hS40 => ?_)
  have hρS40 : S40.2.2 = RHO := by rw [hS40]; exact hρS39
  clear hS40
  refine J_dup X dX1_init_29 rfl ?_
  refine C_callI (As := []) X (I_X5_init_81 (kG K) hDG S40) ml_X1_17 in_yX5_init ii_RX5 co_yX5_init rfl hy_X5_init (hRc hR (by decide) (by decide)) ⟨by rw [hR]; exact Nat.le_of_ble_eq_true rfl, by rw [hR]; exact Nat.le_of_ble_eq_true rfl⟩ (by omega) hρS40 rfl (Nat.le_of_ble_eq_true rfl) dX1_init_30 (fun S41 hρS41 => ?_)
  refine C_aast X (len := 40) (j := 19) (by decide) (by decide) (by decide) (by decide) (by decide) (vp_in_iff.mpr (by decide)) (by decide) (by rw [hρS41]; decide) dX1_init_33 ?_
  refine J_iinc X (v := (20 : Int32)) (ls' := [some (.ref 41), some (.int (20 : Int32))]) dX1_init_34 (by decide) rfl (by decide) rfl ?_
  refine J_goto X (tgt := 15) dX1_init_37 (by decide) ?_
  refine J_iload_n X dX1_init_15 (i := 1) rfl rfl ?_
  refine J_bipush X (v := (40 : Int32)) dX1_init_16 (by decide) ?_
  refine C_ge_f X (tgt := 40) (by decide) dX1_init_18 (by decide) ?_
  refine J_aload_n X dX1_init_21 (i := 0) rfl rfl ?_
  refine C_getR X (kf := 0) (q := 42) cb1 (by decide) (by decide) (by decide) fl_X1_11 (fun _ _ _ => rfl) (by decide +kernel) (by rw [hρS41]; decide) dX1_init_22 ?_
  refine J_iload_n X dX1_init_25 (i := 1) rfl rfl ?_
  refine C_new X cb5 (by decide) (by omega) cl_X1_9 it_RX5 ii_RX5 df_83_87 ⟨by rw [hR]; exact Nat.le_of_ble_eq_true rfl, by rw [hR]; exact Nat.le_of_ble_eq_true rfl⟩ dX1_init_26 (fun S42 hS42 => ?_)
  have hρS42 : S42.2.2 = RHO := by rw [hS42]; exact hρS41
  clear hS42
  refine J_dup X dX1_init_29 rfl ?_
  refine C_callI (As := []) X (I_X5_init_83 (kG K) hDG S42) ml_X1_17 in_yX5_init ii_RX5 co_yX5_init rfl hy_X5_init (hRc hR (by decide) (by decide)) ⟨by rw [hR]; exact Nat.le_of_ble_eq_true rfl, by rw [hR]; exact Nat.le_of_ble_eq_true rfl⟩ (by omega) hρS42 rfl (Nat.le_of_ble_eq_true rfl) dX1_init_30 (fun S43 hρS43 => ?_)
  refine C_aast X (len := 40) (j := 20) (by decide) (by decide) (by decide) (by decide) (by decide) (vp_in_iff.mpr (by decide)) (by decide) (by rw [hρS43]; decide) dX1_init_33 ?_
  refine J_iinc X (v := (21 : Int32)) (ls' := [some (.ref 41), some (.int (21 : Int32))]) dX1_init_34 (by decide) rfl (by decide) rfl ?_
  refine J_goto X (tgt := 15) dX1_init_37 (by decide) ?_
  refine J_iload_n X dX1_init_15 (i := 1) rfl rfl ?_
  refine J_bipush X (v := (40 : Int32)) dX1_init_16 (by decide) ?_
  refine C_ge_f X (tgt := 40) (by decide) dX1_init_18 (by decide) ?_
  refine J_aload_n X dX1_init_21 (i := 0) rfl rfl ?_
  refine C_getR X (kf := 0) (q := 42) cb1 (by decide) (by decide) (by decide) fl_X1_11 (fun _ _ _ => rfl) (by decide +kernel) (by rw [hρS43]; decide) dX1_init_22 ?_
  refine J_iload_n X dX1_init_25 (i := 1) rfl rfl ?_
  refine C_new X cb5 (by decide) (by omega) cl_X1_9 it_RX5 ii_RX5 df_85_89 ⟨by rw [hR]; exact Nat.le_of_ble_eq_true rfl, by rw [hR]; exact Nat.le_of_ble_eq_true rfl⟩ dX1_init_26 (fun S44 hS44 => ?_)
  have hρS44 : S44.2.2 = RHO := by rw [hS44]; exact hρS43
  clear hS44
  refine J_dup X dX1_init_29 rfl ?_
  refine C_callI (As := []) X (I_X5_init_85 (kG K) hDG S44) ml_X1_17 in_yX5_init ii_RX5 co_yX5_init rfl hy_X5_init (hRc hR (by decide) (by decide)) ⟨by rw [hR]; exact Nat.le_of_ble_eq_true rfl, by rw [hR]; exact Nat.le_of_ble_eq_true rfl⟩ (by omega) hρS44 rfl (Nat.le_of_ble_eq_true rfl) dX1_init_30 (fun S45 hρS45 => ?_)
  refine C_aast X (len := 40) (j := 21) (by decide) (by decide) (by decide) (by decide) (by decide) (vp_in_iff.mpr (by decide)) (by decide) (by rw [hρS45]; decide) dX1_init_33 ?_
  refine J_iinc X (v := (22 : Int32)) (ls' := [some (.ref 41), some (.int (22 : Int32))]) dX1_init_34 (by decide) rfl (by decide) rfl ?_
  refine J_goto X (tgt := 15) dX1_init_37 (by decide) ?_
  refine J_iload_n X dX1_init_15 (i := 1) rfl rfl ?_
  refine J_bipush X (v := (40 : Int32)) dX1_init_16 (by decide) ?_
  refine C_ge_f X (tgt := 40) (by decide) dX1_init_18 (by decide) ?_
  refine J_aload_n X dX1_init_21 (i := 0) rfl rfl ?_
  refine C_getR X (kf := 0) (q := 42) cb1 (by decide) (by decide) (by decide) fl_X1_11 (fun _ _ _ => rfl) (by decide +kernel) (by rw [hρS45]; decide) dX1_init_22 ?_
  refine J_iload_n X dX1_init_25 (i := 1) rfl rfl ?_
  refine C_new X cb5 (by decide) (by omega) cl_X1_9 it_RX5 ii_RX5 df_87_91 ⟨by rw [hR]; exact Nat.le_of_ble_eq_true rfl, by rw [hR]; exact Nat.le_of_ble_eq_true rfl⟩ dX1_init_26 (fun S46 hS46 => ?_)
  have hρS46 : S46.2.2 = RHO := by rw [hS46]; exact hρS45
  clear hS46
  refine J_dup X dX1_init_29 rfl ?_
  refine C_callI (As := []) X (I_X5_init_87 (kG K) hDG S46) ml_X1_17 in_yX5_init ii_RX5 co_yX5_init rfl hy_X5_init (hRc hR (by decide) (by decide)) ⟨by rw [hR]; exact Nat.le_of_ble_eq_true rfl, by rw [hR]; exact Nat.le_of_ble_eq_true rfl⟩ (by omega) hρS46 rfl (Nat.le_of_ble_eq_true rfl) dX1_init_30 (fun S47 hρS47 => ?_)
  refine C_aast X (len := 40) (j := 22) (by decide) (by decide) (by decide) (by decide) (by decide) (vp_in_iff.mpr (by decide)) (by decide) (by rw [hρS47]; decide) dX1_init_33 ?_
  refine J_iinc X (v := (23 : Int32)) (ls' := [some (.ref 41), some (.int (23 : Int32))]) dX1_init_34 (by decide) rfl (by decide) rfl ?_
  refine J_goto X (tgt := 15) dX1_init_37 (by decide) ?_
  refine J_iload_n X dX1_init_15 (i := 1) rfl rfl ?_
  refine J_bipush X (v := (40 : Int32)) dX1_init_16 (by decide) ?_
  refine C_ge_f X (tgt := 40) (by decide) dX1_init_18 (by decide) ?_
  refine J_aload_n X dX1_init_21 (i := 0) rfl rfl ?_
  refine C_getR X (kf := 0) (q := 42) cb1 (by decide) (by decide) (by decide) fl_X1_11 (fun _ _ _ => rfl) (by decide +kernel) (by rw [hρS47]; decide) dX1_init_22 ?_
  refine J_iload_n X dX1_init_25 (i := 1) rfl rfl ?_
  refine C_new X cb5 (by decide) (by omega) cl_X1_9 it_RX5 ii_RX5 df_89_93 ⟨by rw [hR]; exact Nat.le_of_ble_eq_true rfl, by rw [hR]; exact Nat.le_of_ble_eq_true rfl⟩ dX1_init_26 (fun S48 hS48 => ?_)
  have hρS48 : S48.2.2 = RHO := by rw [hS48]; exact hρS47
  clear hS48
  refine J_dup X dX1_init_29 rfl ?_
  refine C_callI (As := []) X (I_X5_init_89 (kG K) hDG S48) ml_X1_17 in_yX5_init ii_RX5 co_yX5_init rfl hy_X5_init (hRc hR (by decide) (by decide)) ⟨by rw [hR]; exact Nat.le_of_ble_eq_true rfl, by rw [hR]; exact Nat.le_of_ble_eq_true rfl⟩ (by omega) hρS48 rfl (Nat.le_of_ble_eq_true rfl) dX1_init_30 (fun S49 hρS49 => ?_)
  refine C_aast X (len := 40) (j := 23) (by decide) (by decide) (by decide) (by decide) (by decide) (vp_in_iff.mpr (by decide)) (by decide) (by rw [hρS49]; decide) dX1_init_33 ?_
  refine J_iinc X (v := (24 : Int32)) (ls' := [some (.ref 41), some (.int (24 : Int32))]) dX1_init_34 (by decide) rfl (by decide) rfl ?_
  refine J_goto X (tgt := 15) dX1_init_37 (by decide) ?_
  refine J_iload_n X dX1_init_15 (i := 1) rfl rfl ?_
  refine J_bipush X (v := (40 : Int32)) dX1_init_16 (by decide) ?_
  refine C_ge_f X (tgt := 40) (by decide) dX1_init_18 (by decide) ?_
  refine J_aload_n X dX1_init_21 (i := 0) rfl rfl ?_
  refine C_getR X (kf := 0) (q := 42) cb1 (by decide) (by decide) (by decide) fl_X1_11 (fun _ _ _ => rfl) (by decide +kernel) (by rw [hρS49]; decide) dX1_init_22 ?_
  refine J_iload_n X dX1_init_25 (i := 1) rfl rfl ?_
  refine C_new X cb5 (by decide) (by omega) cl_X1_9 it_RX5 ii_RX5 df_91_95 ⟨by rw [hR]; exact Nat.le_of_ble_eq_true rfl, by rw [hR]; exact Nat.le_of_ble_eq_true rfl⟩ dX1_init_26 (fun S50 hS50 => ?_)
  have hρS50 : S50.2.2 = RHO := by rw [hS50]; exact hρS49
  clear hS50
  refine J_dup X dX1_init_29 rfl ?_
  refine C_callI (As := []) X (I_X5_init_91 (kG K) hDG S50) ml_X1_17 in_yX5_init ii_RX5 co_yX5_init rfl hy_X5_init (hRc hR (by decide) (by decide)) ⟨by rw [hR]; exact Nat.le_of_ble_eq_true rfl, by rw [hR]; exact Nat.le_of_ble_eq_true rfl⟩ (by omega) hρS50 rfl (Nat.le_of_ble_eq_true rfl) dX1_init_30 (fun S51 hρS51 => ?_)
  refine C_aast X (len := 40) (j := 24) (by decide) (by decide) (by decide) (by decide) (by decide) (vp_in_iff.mpr (by decide)) (by decide) (by rw [hρS51]; decide) dX1_init_33 ?_
  refine J_iinc X (v := (25 : Int32)) (ls' := [some (.ref 41), some (.int (25 : Int32))]) dX1_init_34 (by decide) rfl (by decide) rfl ?_
  refine J_goto X (tgt := 15) dX1_init_37 (by decide) ?_
  refine J_iload_n X dX1_init_15 (i := 1) rfl rfl ?_
  refine J_bipush X (v := (40 : Int32)) dX1_init_16 (by decide) ?_
  refine C_ge_f X (tgt := 40) (by decide) dX1_init_18 (by decide) ?_
  refine J_aload_n X dX1_init_21 (i := 0) rfl rfl ?_
  refine C_getR X (kf := 0) (q := 42) cb1 (by decide) (by decide) (by decide) fl_X1_11 (fun _ _ _ => rfl) (by decide +kernel) (by rw [hρS51]; decide) dX1_init_22 ?_
  refine J_iload_n X dX1_init_25 (i := 1) rfl rfl ?_
  refine C_new X cb5 (by decide) (by omega) cl_X1_9 it_RX5 ii_RX5 df_93_97 ⟨by rw [hR]; exact Nat.le_of_ble_eq_true rfl, by rw [hR]; exact Nat.le_of_ble_eq_true rfl⟩ dX1_init_26 (fun S52 hS52 => ?_)
  have hρS52 : S52.2.2 = RHO := by rw [hS52]; exact hρS51
  clear hS52
  refine J_dup X dX1_init_29 rfl ?_
  refine C_callI (As := []) X (I_X5_init_93 (kG K) hDG S52) ml_X1_17 in_yX5_init ii_RX5 co_yX5_init rfl hy_X5_init (hRc hR (by decide) (by decide)) ⟨by rw [hR]; exact Nat.le_of_ble_eq_true rfl, by rw [hR]; exact Nat.le_of_ble_eq_true rfl⟩ (by omega) hρS52 rfl (Nat.le_of_ble_eq_true rfl) dX1_init_30 (fun S53 hρS53 => ?_)
  refine C_aast X (len := 40) (j := 25) (by decide) (by decide) (by decide) (by decide) (by decide) (vp_in_iff.mpr (by decide)) (by decide) (by rw [hρS53]; decide) dX1_init_33 ?_
  refine J_iinc X (v := (26 : Int32)) (ls' := [some (.ref 41), some (.int (26 : Int32))]) dX1_init_34 (by decide) rfl (by decide) rfl ?_
  refine J_goto X (tgt := 15) dX1_init_37 (by decide) ?_
  refine J_iload_n X dX1_init_15 (i := 1) rfl rfl ?_
  refine J_bipush X (v := (40 : Int32)) dX1_init_16 (by decide) ?_
  refine C_ge_f X (tgt := 40) (by decide) dX1_init_18 (by decide) ?_
  refine J_aload_n X dX1_init_21 (i := 0) rfl rfl ?_
  refine C_getR X (kf := 0) (q := 42) cb1 (by decide) (by decide) (by decide) fl_X1_11 (fun _ _ _ => rfl) (by decide +kernel) (by rw [hρS53]; decide) dX1_init_22 ?_
  refine J_iload_n X dX1_init_25 (i := 1) rfl rfl ?_
  refine C_new X cb5 (by decide) (by omega) cl_X1_9 it_RX5 ii_RX5 df_95_99 ⟨by rw [hR]; exact Nat.le_of_ble_eq_true rfl, by rw [hR]; exact Nat.le_of_ble_eq_true rfl⟩ dX1_init_26 (fun S54 hS54 => ?_)
  have hρS54 : S54.2.2 = RHO := by rw [hS54]; exact hρS53
  clear hS54
  refine J_dup X dX1_init_29 rfl ?_
  refine C_callI (As := []) X (I_X5_init_95 (kG K) hDG S54) ml_X1_17 in_yX5_init ii_RX5 co_yX5_init rfl hy_X5_init (hRc hR (by decide) (by decide)) ⟨by rw [hR]; exact Nat.le_of_ble_eq_true rfl, by rw [hR]; exact Nat.le_of_ble_eq_true rfl⟩ (by omega) hρS54 rfl (Nat.le_of_ble_eq_true rfl) dX1_init_30 (fun S55 hρS55 => ?_)
  refine C_aast X (len := 40) (j := 26) (by decide) (by decide) (by decide) (by decide) (by decide) (vp_in_iff.mpr (by decide)) (by decide) (by rw [hρS55]; decide) dX1_init_33 ?_
  refine J_iinc X (v := (27 : Int32)) (ls' := [some (.ref 41), some (.int (27 : Int32))]) dX1_init_34 (by decide) rfl (by decide) rfl ?_
  refine J_goto X (tgt := 15) dX1_init_37 (by decide) ?_
  refine J_iload_n X dX1_init_15 (i := 1) rfl rfl ?_
  refine J_bipush X (v := (40 : Int32)) dX1_init_16 (by decide) ?_
  refine C_ge_f X (tgt := 40) (by decide) dX1_init_18 (by decide) ?_
  refine J_aload_n X dX1_init_21 (i := 0) rfl rfl ?_
  refine C_getR X (kf := 0) (q := 42) cb1 (by decide) (by decide) (by decide) fl_X1_11 (fun _ _ _ => rfl) (by decide +kernel) (by rw [hρS55]; decide) dX1_init_22 ?_
  refine J_iload_n X dX1_init_25 (i := 1) rfl rfl ?_
  refine C_new X cb5 (by decide) (by omega) cl_X1_9 it_RX5 ii_RX5 df_97_101 ⟨by rw [hR]; exact Nat.le_of_ble_eq_true rfl, by rw [hR]; exact Nat.le_of_ble_eq_true rfl⟩ dX1_init_26 (fun S56 hS56 => ?_)
  have hρS56 : S56.2.2 = RHO := by rw [hS56]; exact hρS55
  clear hS56
  refine J_dup X dX1_init_29 rfl ?_
  refine C_callI (As := []) X (I_X5_init_97 (kG K) hDG S56) ml_X1_17 in_yX5_init ii_RX5 co_yX5_init rfl hy_X5_init (hRc hR (by decide) (by decide)) ⟨by rw [hR]; exact Nat.le_of_ble_eq_true rfl, by rw [hR]; exact Nat.le_of_ble_eq_true rfl⟩ (by omega) hρS56 rfl (Nat.le_of_ble_eq_true rfl) dX1_init_30 (fun S57 hρS57 => ?_)
  refine C_aast X (len := 40) (j := 27) (by decide) (by decide) (by decide) (by decide) (by decide) (vp_in_iff.mpr (by decide)) (by decide) (by rw [hρS57]; decide) dX1_init_33 ?_
  refine J_iinc X (v := (28 : Int32)) (ls' := [some (.ref 41), some (.int (28 : Int32))]) dX1_init_34 (by decide) rfl (by decide) rfl ?_
  refine J_goto X (tgt := 15) dX1_init_37 (by decide) ?_
  refine J_iload_n X dX1_init_15 (i := 1) rfl rfl ?_
  refine J_bipush X (v := (40 : Int32)) dX1_init_16 (by decide) ?_
  refine C_ge_f X (tgt := 40) (by decide) dX1_init_18 (by decide) ?_
  refine J_aload_n X dX1_init_21 (i := 0) rfl rfl ?_
  refine C_getR X (kf := 0) (q := 42) cb1 (by decide) (by decide) (by decide) fl_X1_11 (fun _ _ _ => rfl) (by decide +kernel) (by rw [hρS57]; decide) dX1_init_22 ?_
  refine J_iload_n X dX1_init_25 (i := 1) rfl rfl ?_
  refine C_new X cb5 (by decide) (by omega) cl_X1_9 it_RX5 ii_RX5 df_99_103 ⟨by rw [hR]; exact Nat.le_of_ble_eq_true rfl, by rw [hR]; exact Nat.le_of_ble_eq_true rfl⟩ dX1_init_26 (fun S58 hS58 => ?_)
  have hρS58 : S58.2.2 = RHO := by rw [hS58]; exact hρS57
  clear hS58
  refine J_dup X dX1_init_29 rfl ?_
  refine C_callI (As := []) X (I_X5_init_99 (kG K) hDG S58) ml_X1_17 in_yX5_init ii_RX5 co_yX5_init rfl hy_X5_init (hRc hR (by decide) (by decide)) ⟨by rw [hR]; exact Nat.le_of_ble_eq_true rfl, by rw [hR]; exact Nat.le_of_ble_eq_true rfl⟩ (by omega) hρS58 rfl (Nat.le_of_ble_eq_true rfl) dX1_init_30 (fun S59 hρS59 => ?_)
  refine C_aast X (len := 40) (j := 28) (by decide) (by decide) (by decide) (by decide) (by decide) (vp_in_iff.mpr (by decide)) (by decide) (by rw [hρS59]; decide) dX1_init_33 ?_
  refine J_iinc X (v := (29 : Int32)) (ls' := [some (.ref 41), some (.int (29 : Int32))]) dX1_init_34 (by decide) rfl (by decide) rfl ?_
  refine J_goto X (tgt := 15) dX1_init_37 (by decide) ?_
  refine J_iload_n X dX1_init_15 (i := 1) rfl rfl ?_
  refine J_bipush X (v := (40 : Int32)) dX1_init_16 (by decide) ?_
  refine C_ge_f X (tgt := 40) (by decide) dX1_init_18 (by decide) ?_
  refine J_aload_n X dX1_init_21 (i := 0) rfl rfl ?_
  refine C_getR X (kf := 0) (q := 42) cb1 (by decide) (by decide) (by decide) fl_X1_11 (fun _ _ _ => rfl) (by decide +kernel) (by rw [hρS59]; decide) dX1_init_22 ?_
  refine J_iload_n X dX1_init_25 (i := 1) rfl rfl ?_
  refine C_new X cb5 (by decide) (by omega) cl_X1_9 it_RX5 ii_RX5 df_101_105 ⟨by rw [hR]; exact Nat.le_of_ble_eq_true rfl, by rw [hR]; exact Nat.le_of_ble_eq_true rfl⟩ dX1_init_26 (fun S60 hS60 => ?_)
  have hρS60 : S60.2.2 = RHO := by rw [hS60]; exact hρS59
  clear hS60
  refine J_dup X dX1_init_29 rfl ?_
  refine C_callI (As := []) X (I_X5_init_101 (kG K) hDG S60) ml_X1_17 in_yX5_init ii_RX5 co_yX5_init rfl hy_X5_init (hRc hR (by decide) (by decide)) ⟨by rw [hR]; exact Nat.le_of_ble_eq_true rfl, by rw [hR]; exact Nat.le_of_ble_eq_true rfl⟩ (by omega) hρS60 rfl (Nat.le_of_ble_eq_true rfl) dX1_init_30 (fun S61 hρS61 => ?_)
  refine C_aast X (len := 40) (j := 29) (by decide) (by decide) (by decide) (by decide) (by decide) (vp_in_iff.mpr (by decide)) (by decide) (by rw [hρS61]; decide) dX1_init_33 ?_
  refine J_iinc X (v := (30 : Int32)) (ls' := [some (.ref 41), some (.int (30 : Int32))]) dX1_init_34 (by decide) rfl (by decide) rfl ?_
  refine J_goto X (tgt := 15) dX1_init_37 (by decide) ?_
  refine J_iload_n X dX1_init_15 (i := 1) rfl rfl ?_
  refine J_bipush X (v := (40 : Int32)) dX1_init_16 (by decide) ?_
  refine C_ge_f X (tgt := 40) (by decide) dX1_init_18 (by decide) ?_
  refine J_aload_n X dX1_init_21 (i := 0) rfl rfl ?_
  refine C_getR X (kf := 0) (q := 42) cb1 (by decide) (by decide) (by decide) fl_X1_11 (fun _ _ _ => rfl) (by decide +kernel) (by rw [hρS61]; decide) dX1_init_22 ?_
  refine J_iload_n X dX1_init_25 (i := 1) rfl rfl ?_
  refine C_new X cb5 (by decide) (by omega) cl_X1_9 it_RX5 ii_RX5 df_103_107 ⟨by rw [hR]; exact Nat.le_of_ble_eq_true rfl, by rw [hR]; exact Nat.le_of_ble_eq_true rfl⟩ dX1_init_26 (fun S62 hS62 => ?_)
  have hρS62 : S62.2.2 = RHO := by rw [hS62]; exact hρS61
  clear hS62
  refine J_dup X dX1_init_29 rfl ?_
  refine C_callI (As := []) X (I_X5_init_103 (kG K) hDG S62) ml_X1_17 in_yX5_init ii_RX5 co_yX5_init rfl hy_X5_init (hRc hR (by decide) (by decide)) ⟨by rw [hR]; exact Nat.le_of_ble_eq_true rfl, by rw [hR]; exact Nat.le_of_ble_eq_true rfl⟩ (by omega) hρS62 rfl (Nat.le_of_ble_eq_true rfl) dX1_init_30 (fun S63 hρS63 => ?_)
  refine C_aast X (len := 40) (j := 30) (by decide) (by decide) (by decide) (by decide) (by decide) (vp_in_iff.mpr (by decide)) (by decide) (by rw [hρS63]; decide) dX1_init_33 ?_
  refine J_iinc X (v := (31 : Int32)) (ls' := [some (.ref 41), some (.int (31 : Int32))]) dX1_init_34 (by decide) rfl (by decide) rfl ?_
  refine J_goto X (tgt := 15) dX1_init_37 (by decide) ?_
  refine J_iload_n X dX1_init_15 (i := 1) rfl rfl ?_
  refine J_bipush X (v := (40 : Int32)) dX1_init_16 (by decide) ?_
  refine C_ge_f X (tgt := 40) (by decide) dX1_init_18 (by decide) ?_
  refine J_aload_n X dX1_init_21 (i := 0) rfl rfl ?_
  refine C_getR X (kf := 0) (q := 42) cb1 (by decide) (by decide) (by decide) fl_X1_11 (fun _ _ _ => rfl) (by decide +kernel) (by rw [hρS63]; decide) dX1_init_22 ?_
  refine J_iload_n X dX1_init_25 (i := 1) rfl rfl ?_
  refine C_new X cb5 (by decide) (by omega) cl_X1_9 it_RX5 ii_RX5 df_105_109 ⟨by rw [hR]; exact Nat.le_of_ble_eq_true rfl, by rw [hR]; exact Nat.le_of_ble_eq_true rfl⟩ dX1_init_26 (fun S64 hS64 => ?_)
  have hρS64 : S64.2.2 = RHO := by rw [hS64]; exact hρS63
  clear hS64
  refine J_dup X dX1_init_29 rfl ?_
  refine C_callI (As := []) X (I_X5_init_105 (kG K) hDG S64) ml_X1_17 in_yX5_init ii_RX5 co_yX5_init rfl hy_X5_init (hRc hR (by decide) (by decide)) ⟨by rw [hR]; exact Nat.le_of_ble_eq_true rfl, by rw [hR]; exact Nat.le_of_ble_eq_true rfl⟩ (by omega) hρS64 rfl (Nat.le_of_ble_eq_true rfl) dX1_init_30 (fun S65 hρS65 => ?_)
  refine C_aast X (len := 40) (j := 31) (by decide) (by decide) (by decide) (by decide) (by decide) (vp_in_iff.mpr (by decide)) (by decide) (by rw [hρS65]; decide) dX1_init_33 ?_
  refine J_iinc X (v := (32 : Int32)) (ls' := [some (.ref 41), some (.int (32 : Int32))]) dX1_init_34 (by decide) rfl (by decide) rfl ?_
  refine J_goto X (tgt := 15) dX1_init_37 (by decide) ?_
  refine J_iload_n X dX1_init_15 (i := 1) rfl rfl ?_
  refine J_bipush X (v := (40 : Int32)) dX1_init_16 (by decide) ?_
  refine C_ge_f X (tgt := 40) (by decide) dX1_init_18 (by decide) ?_
  refine J_aload_n X dX1_init_21 (i := 0) rfl rfl ?_
  refine C_getR X (kf := 0) (q := 42) cb1 (by decide) (by decide) (by decide) fl_X1_11 (fun _ _ _ => rfl) (by decide +kernel) (by rw [hρS65]; decide) dX1_init_22 ?_
  refine J_iload_n X dX1_init_25 (i := 1) rfl rfl ?_
  refine C_new X cb5 (by decide) (by omega) cl_X1_9 it_RX5 ii_RX5 df_107_111 ⟨by rw [hR]; exact Nat.le_of_ble_eq_true rfl, by rw [hR]; exact Nat.le_of_ble_eq_true rfl⟩ dX1_init_26 (fun S66 hS66 => ?_)
  have hρS66 : S66.2.2 = RHO := by rw [hS66]; exact hρS65
  clear hS66
  refine J_dup X dX1_init_29 rfl ?_
  refine C_callI (As := []) X (I_X5_init_107 (kG K) hDG S66) ml_X1_17 in_yX5_init ii_RX5 co_yX5_init rfl hy_X5_init (hRc hR (by decide) (by decide)) ⟨by rw [hR]; exact Nat.le_of_ble_eq_true rfl, by rw [hR]; exact Nat.le_of_ble_eq_true rfl⟩ (by omega) hρS66 rfl (Nat.le_of_ble_eq_true rfl) dX1_init_30 (fun S67 hρS67 => ?_)
  refine C_aast X (len := 40) (j := 32) (by decide) (by decide) (by decide) (by decide) (by decide) (vp_in_iff.mpr (by decide)) (by decide) (by rw [hρS67]; decide) dX1_init_33 ?_
  refine J_iinc X (v := (33 : Int32)) (ls' := [some (.ref 41), some (.int (33 : Int32))]) dX1_init_34 (by decide) rfl (by decide) rfl ?_
  refine J_goto X (tgt := 15) dX1_init_37 (by decide) ?_
  refine J_iload_n X dX1_init_15 (i := 1) rfl rfl ?_
  refine J_bipush X (v := (40 : Int32)) dX1_init_16 (by decide) ?_
  refine C_ge_f X (tgt := 40) (by decide) dX1_init_18 (by decide) ?_
  refine J_aload_n X dX1_init_21 (i := 0) rfl rfl ?_
  refine C_getR X (kf := 0) (q := 42) cb1 (by decide) (by decide) (by decide) fl_X1_11 (fun _ _ _ => rfl) (by decide +kernel) (by rw [hρS67]; decide) dX1_init_22 ?_
  refine J_iload_n X dX1_init_25 (i := 1) rfl rfl ?_
  refine C_new X cb5 (by decide) (by omega) cl_X1_9 it_RX5 ii_RX5 df_109_113 ⟨by rw [hR]; exact Nat.le_of_ble_eq_true rfl, by rw [hR]; exact Nat.le_of_ble_eq_true rfl⟩ dX1_init_26 (fun S68 hS68 => ?_)
  have hρS68 : S68.2.2 = RHO := by rw [hS68]; exact hρS67
  clear hS68
  refine J_dup X dX1_init_29 rfl ?_
  refine C_callI (As := []) X (I_X5_init_109 (kG K) hDG S68) ml_X1_17 in_yX5_init ii_RX5 co_yX5_init rfl hy_X5_init (hRc hR (by decide) (by decide)) ⟨by rw [hR]; exact Nat.le_of_ble_eq_true rfl, by rw [hR]; exact Nat.le_of_ble_eq_true rfl⟩ (by omega) hρS68 rfl (Nat.le_of_ble_eq_true rfl) dX1_init_30 (fun S69 hρS69 => ?_)
  refine C_aast X (len := 40) (j := 33) (by decide) (by decide) (by decide) (by decide) (by decide) (vp_in_iff.mpr (by decide)) (by decide) (by rw [hρS69]; decide) dX1_init_33 ?_
  refine J_iinc X (v := (34 : Int32)) (ls' := [some (.ref 41), some (.int (34 : Int32))]) dX1_init_34 (by decide) rfl (by decide) rfl ?_
  refine J_goto X (tgt := 15) dX1_init_37 (by decide) ?_
  refine J_iload_n X dX1_init_15 (i := 1) rfl rfl ?_
  refine J_bipush X (v := (40 : Int32)) dX1_init_16 (by decide) ?_
  refine C_ge_f X (tgt := 40) (by decide) dX1_init_18 (by decide) ?_
  refine J_aload_n X dX1_init_21 (i := 0) rfl rfl ?_
  refine C_getR X (kf := 0) (q := 42) cb1 (by decide) (by decide) (by decide) fl_X1_11 (fun _ _ _ => rfl) (by decide +kernel) (by rw [hρS69]; decide) dX1_init_22 ?_
  refine J_iload_n X dX1_init_25 (i := 1) rfl rfl ?_
  refine C_new X cb5 (by decide) (by omega) cl_X1_9 it_RX5 ii_RX5 df_111_115 ⟨by rw [hR]; exact Nat.le_of_ble_eq_true rfl, by rw [hR]; exact Nat.le_of_ble_eq_true rfl⟩ dX1_init_26 (fun S70 hS70 => ?_)
  have hρS70 : S70.2.2 = RHO := by rw [hS70]; exact hρS69
  clear hS70
  refine J_dup X dX1_init_29 rfl ?_
  refine C_callI (As := []) X (I_X5_init_111 (kG K) hDG S70) ml_X1_17 in_yX5_init ii_RX5 co_yX5_init rfl hy_X5_init (hRc hR (by decide) (by decide)) ⟨by rw [hR]; exact Nat.le_of_ble_eq_true rfl, by rw [hR]; exact Nat.le_of_ble_eq_true rfl⟩ (by omega) hρS70 rfl (Nat.le_of_ble_eq_true rfl) dX1_init_30 (fun S71 hρS71 => ?_)
  refine C_aast X (len := 40) (j := 34) (by decide) (by decide) (by decide) (by decide) (by decide) (vp_in_iff.mpr (by decide)) (by decide) (by rw [hρS71]; decide) dX1_init_33 ?_
  refine J_iinc X (v := (35 : Int32)) (ls' := [some (.ref 41), some (.int (35 : Int32))]) dX1_init_34 (by decide) rfl (by decide) rfl ?_
  refine J_goto X (tgt := 15) dX1_init_37 (by decide) ?_
  refine J_iload_n X dX1_init_15 (i := 1) rfl rfl ?_
  refine J_bipush X (v := (40 : Int32)) dX1_init_16 (by decide) ?_
  refine C_ge_f X (tgt := 40) (by decide) dX1_init_18 (by decide) ?_
  refine J_aload_n X dX1_init_21 (i := 0) rfl rfl ?_
  refine C_getR X (kf := 0) (q := 42) cb1 (by decide) (by decide) (by decide) fl_X1_11 (fun _ _ _ => rfl) (by decide +kernel) (by rw [hρS71]; decide) dX1_init_22 ?_
  refine J_iload_n X dX1_init_25 (i := 1) rfl rfl ?_
  refine C_new X cb5 (by decide) (by omega) cl_X1_9 it_RX5 ii_RX5 df_113_117 ⟨by rw [hR]; exact Nat.le_of_ble_eq_true rfl, by rw [hR]; exact Nat.le_of_ble_eq_true rfl⟩ dX1_init_26 (fun S72 hS72 => ?_)
  have hρS72 : S72.2.2 = RHO := by rw [hS72]; exact hρS71
  clear hS72
  refine J_dup X dX1_init_29 rfl ?_
  refine C_callI (As := []) X (I_X5_init_113 (kG K) hDG S72) ml_X1_17 in_yX5_init ii_RX5 co_yX5_init rfl hy_X5_init (hRc hR (by decide) (by decide)) ⟨by rw [hR]; exact Nat.le_of_ble_eq_true rfl, by rw [hR]; exact Nat.le_of_ble_eq_true rfl⟩ (by omega) hρS72 rfl (Nat.le_of_ble_eq_true rfl) dX1_init_30 (fun S73 hρS73 => ?_)
  refine C_aast X (len := 40) (j := 35) (by decide) (by decide) (by decide) (by decide) (by decide) (vp_in_iff.mpr (by decide)) (by decide) (by rw [hρS73]; decide) dX1_init_33 ?_
  refine J_iinc X (v := (36 : Int32)) (ls' := [some (.ref 41), some (.int (36 : Int32))]) dX1_init_34 (by decide) rfl (by decide) rfl ?_
  refine J_goto X (tgt := 15) dX1_init_37 (by decide) ?_
  refine J_iload_n X dX1_init_15 (i := 1) rfl rfl ?_
  refine J_bipush X (v := (40 : Int32)) dX1_init_16 (by decide) ?_
  refine C_ge_f X (tgt := 40) (by decide) dX1_init_18 (by decide) ?_
  refine J_aload_n X dX1_init_21 (i := 0) rfl rfl ?_
  refine C_getR X (kf := 0) (q := 42) cb1 (by decide) (by decide) (by decide) fl_X1_11 (fun _ _ _ => rfl) (by decide +kernel) (by rw [hρS73]; decide) dX1_init_22 ?_
  refine J_iload_n X dX1_init_25 (i := 1) rfl rfl ?_
  refine C_new X cb5 (by decide) (by omega) cl_X1_9 it_RX5 ii_RX5 df_115_119 ⟨by rw [hR]; exact Nat.le_of_ble_eq_true rfl, by rw [hR]; exact Nat.le_of_ble_eq_true rfl⟩ dX1_init_26 (fun S74 hS74 => ?_)
  have hρS74 : S74.2.2 = RHO := by rw [hS74]; exact hρS73
  clear hS74
  refine J_dup X dX1_init_29 rfl ?_
  refine C_callI (As := []) X (I_X5_init_115 (kG K) hDG S74) ml_X1_17 in_yX5_init ii_RX5 co_yX5_init rfl hy_X5_init (hRc hR (by decide) (by decide)) ⟨by rw [hR]; exact Nat.le_of_ble_eq_true rfl, by rw [hR]; exact Nat.le_of_ble_eq_true rfl⟩ (by omega) hρS74 rfl (Nat.le_of_ble_eq_true rfl) dX1_init_30 (fun S75 hρS75 => ?_)
  refine C_aast X (len := 40) (j := 36) (by decide) (by decide) (by decide) (by decide) (by decide) (vp_in_iff.mpr (by decide)) (by decide) (by rw [hρS75]; decide) dX1_init_33 ?_
  refine J_iinc X (v := (37 : Int32)) (ls' := [some (.ref 41), some (.int (37 : Int32))]) dX1_init_34 (by decide) rfl (by decide) rfl ?_
  refine J_goto X (tgt := 15) dX1_init_37 (by decide) ?_
  refine J_iload_n X dX1_init_15 (i := 1) rfl rfl ?_
  refine J_bipush X (v := (40 : Int32)) dX1_init_16 (by decide) ?_
  refine C_ge_f X (tgt := 40) (by decide) dX1_init_18 (by decide) ?_
  refine J_aload_n X dX1_init_21 (i := 0) rfl rfl ?_
  refine C_getR X (kf := 0) (q := 42) cb1 (by decide) (by decide) (by decide) fl_X1_11 (fun _ _ _ => rfl) (by decide +kernel) (by rw [hρS75]; decide) dX1_init_22 ?_
  refine J_iload_n X dX1_init_25 (i := 1) rfl rfl ?_
  refine C_new X cb5 (by decide) (by omega) cl_X1_9 it_RX5 ii_RX5 df_117_121 ⟨by rw [hR]; exact Nat.le_of_ble_eq_true rfl, by rw [hR]; exact Nat.le_of_ble_eq_true rfl⟩ dX1_init_26 (fun S76 hS76 => ?_)
  have hρS76 : S76.2.2 = RHO := by rw [hS76]; exact hρS75
  clear hS76
  refine J_dup X dX1_init_29 rfl ?_
  refine C_callI (As := []) X (I_X5_init_117 (kG K) hDG S76) ml_X1_17 in_yX5_init ii_RX5 co_yX5_init rfl hy_X5_init (hRc hR (by decide) (by decide)) ⟨by rw [hR]; exact Nat.le_of_ble_eq_true rfl, by rw [hR]; exact Nat.le_of_ble_eq_true rfl⟩ (by omega) hρS76 rfl (Nat.le_of_ble_eq_true rfl) dX1_init_30 (fun S77 hρS77 => ?_)
  refine C_aast X (len := 40) (j := 37) (by decide) (by decide) (by decide) (by decide) (by decide) (vp_in_iff.mpr (by decide)) (by decide) (by rw [hρS77]; decide) dX1_init_33 ?_
  refine J_iinc X (v := (38 : Int32)) (ls' := [some (.ref 41), some (.int (38 : Int32))]) dX1_init_34 (by decide) rfl (by decide) rfl ?_
  refine J_goto X (tgt := 15) dX1_init_37 (by decide) ?_
  refine J_iload_n X dX1_init_15 (i := 1) rfl rfl ?_
  refine J_bipush X (v := (40 : Int32)) dX1_init_16 (by decide) ?_
  refine C_ge_f X (tgt := 40) (by decide) dX1_init_18 (by decide) ?_
  refine J_aload_n X dX1_init_21 (i := 0) rfl rfl ?_
  refine C_getR X (kf := 0) (q := 42) cb1 (by decide) (by decide) (by decide) fl_X1_11 (fun _ _ _ => rfl) (by decide +kernel) (by rw [hρS77]; decide) dX1_init_22 ?_
  refine J_iload_n X dX1_init_25 (i := 1) rfl rfl ?_
  refine C_new X cb5 (by decide) (by omega) cl_X1_9 it_RX5 ii_RX5 df_119_123 ⟨by rw [hR]; exact Nat.le_of_ble_eq_true rfl, by rw [hR]; exact Nat.le_of_ble_eq_true rfl⟩ dX1_init_26 (fun S78 hS78 => ?_)
  have hρS78 : S78.2.2 = RHO := by rw [hS78]; exact hρS77
  clear hS78
  refine J_dup X dX1_init_29 rfl ?_
  refine C_callI (As := []) X (I_X5_init_119 (kG K) hDG S78) ml_X1_17 in_yX5_init ii_RX5 co_yX5_init rfl hy_X5_init (hRc hR (by decide) (by decide)) ⟨by rw [hR]; exact Nat.le_of_ble_eq_true rfl, by rw [hR]; exact Nat.le_of_ble_eq_true rfl⟩ (by omega) hρS78 rfl (Nat.le_of_ble_eq_true rfl) dX1_init_30 (fun S79 hρS79 => ?_)
  refine C_aast X (len := 40) (j := 38) (by decide) (by decide) (by decide) (by decide) (by decide) (vp_in_iff.mpr (by decide)) (by decide) (by rw [hρS79]; decide) dX1_init_33 ?_
  refine J_iinc X (v := (39 : Int32)) (ls' := [some (.ref 41), some (.int (39 : Int32))]) dX1_init_34 (by decide) rfl (by decide) rfl ?_
  refine J_goto X (tgt := 15) dX1_init_37 (by decide) ?_
  refine J_iload_n X dX1_init_15 (i := 1) rfl rfl ?_
  refine J_bipush X (v := (40 : Int32)) dX1_init_16 (by decide) ?_
  refine C_ge_f X (tgt := 40) (by decide) dX1_init_18 (by decide) ?_
  refine J_aload_n X dX1_init_21 (i := 0) rfl rfl ?_
  refine C_getR X (kf := 0) (q := 42) cb1 (by decide) (by decide) (by decide) fl_X1_11 (fun _ _ _ => rfl) (by decide +kernel) (by rw [hρS79]; decide) dX1_init_22 ?_
  refine J_iload_n X dX1_init_25 (i := 1) rfl rfl ?_
  refine C_new X cb5 (by decide) (by omega) cl_X1_9 it_RX5 ii_RX5 df_121_125 ⟨by rw [hR]; exact Nat.le_of_ble_eq_true rfl, by rw [hR]; exact Nat.le_of_ble_eq_true rfl⟩ dX1_init_26 (fun S80 hS80 => ?_)
  have hρS80 : S80.2.2 = RHO := by rw [hS80]; exact hρS79
  clear hS80
  refine J_dup X dX1_init_29 rfl ?_
  refine C_callI (As := []) X (I_X5_init_121 (kG K) hDG S80) ml_X1_17 in_yX5_init ii_RX5 co_yX5_init rfl hy_X5_init (hRc hR (by decide) (by decide)) ⟨by rw [hR]; exact Nat.le_of_ble_eq_true rfl, by rw [hR]; exact Nat.le_of_ble_eq_true rfl⟩ (by omega) hρS80 rfl (Nat.le_of_ble_eq_true rfl) dX1_init_30 (fun S81 hρS81 => ?_)
  refine C_aast X (len := 40) (j := 39) (by decide) (by decide) (by decide) (by decide) (by decide) (vp_in_iff.mpr (by decide)) (by decide) (by rw [hρS81]; decide) dX1_init_33 ?_
  refine J_iinc X (v := (40 : Int32)) (ls' := [some (.ref 41), some (.int (40 : Int32))]) dX1_init_34 (by decide) rfl (by decide) rfl ?_
  refine J_goto X (tgt := 15) dX1_init_37 (by decide) ?_
  refine J_iload_n X dX1_init_15 (i := 1) rfl rfl ?_
  refine J_bipush X (v := (40 : Int32)) dX1_init_16 (by decide) ?_
  refine C_ge_t X (tgt := 40) (by decide) dX1_init_18 (by decide) ?_
  exact C_vret X (by omega) hρS81 dX1_init_40
theorem df_124_129 : ∀ (b : Nat) (S : St) (j : Nat), j < 5 → defaultValue (tyC 5 j) = fv b (rwN (NT 129) (zI S 124)) 124 j (tyC 5 j) := df_of 124 129 5 rfl (by decide +kernel)
set_option maxRecDepth 20000 in
def fi_X5_init_124 (S : St) : Option (Unit × St) := nm (zI S 125) fun S1 => some ((), S1)
set_option maxRecDepth 20000 in
set_option maxHeartbeats 4000000 in
theorem I_X5_init_124 (G : GG) (hDG : ∀ a, gD G a → False) (S : St) : CI G yX5_init cX5_init 1 1 1 36 [.ref 124] 129 125 S 130 126 (fi_X5_init_124 S) := by
  refine CI_of (ls := [some (.ref 124)]) hDG (by decide) rfl (Nat.le_of_ble_eq_true rfl) rfl ?_
  intro K hG X hR hin hz hρ
  subst hG
  unfold fi_X5_init_124
  refine J_aload_n X dX5_init_0 (i := 0) rfl rfl ?_
  refine C_obj X ml_X5_3 (Nat.le_of_ble_eq_true rfl) ⟨by rw [hR]; exact Nat.le_of_ble_eq_true rfl, by rw [hR]; exact Nat.le_of_ble_eq_true rfl⟩ dX5_init_1 ?_
  refine J_aload_n X dX5_init_4 (i := 0) rfl rfl ?_
  refine J_bipush X (v := (36 : Int32)) dX5_init_5 (by decide) ?_
  refine C_newa X (atype := .int) (ty := .int) (c := 0) (len := 36) (a0 := (36, .inl (fun _ => 0))) (by omega) (fun _ => rfl) (fun U c1 c2 g1 g2 => Option.some.inj (g1.symm.trans g2)) (fun b cA S => by rw [ce_1 (show KD 125 = (1, 36) by decide)]; simp [rwN, zI]) ac_int rfl (fun _ => rfl) (by decide) (by decide) (by decide) ⟨by rw [hR]; exact Nat.le_of_ble_eq_true rfl, by rw [hR]; exact Nat.le_of_ble_eq_true rfl⟩ dX5_init_7 (fun S1 hS1 => ?_)
  have hρS1 : S1.2.2 = RHO := by rw [hS1]; exact hρ
  clear hS1
  refine C_putF X (kf := 0) cb5 (by decide) (by decide) (by decide) (by rw [hρS1]; decide) (by decide) fl_X5_9 (fun _ _ _ => rfl) rfl hin rfl (fun _ => rfl) (fun _ => rfl) dX5_init_9 ?_
  exact C_vret X (by omega) hρS1 dX5_init_12
theorem df_126_131 : ∀ (b : Nat) (S : St) (j : Nat), j < 5 → defaultValue (tyC 5 j) = fv b (rwN (NT 131) (zI S 126)) 126 j (tyC 5 j) := df_of 126 131 5 rfl (by decide +kernel)
set_option maxRecDepth 20000 in
def fi_X5_init_126 (S : St) : Option (Unit × St) := nm (zI S 127) fun S1 => some ((), S1)
set_option maxRecDepth 20000 in
set_option maxHeartbeats 4000000 in
theorem I_X5_init_126 (G : GG) (hDG : ∀ a, gD G a → False) (S : St) : CI G yX5_init cX5_init 1 1 1 36 [.ref 126] 131 127 S 132 128 (fi_X5_init_126 S) := by
  refine CI_of (ls := [some (.ref 126)]) hDG (by decide) rfl (Nat.le_of_ble_eq_true rfl) rfl ?_
  intro K hG X hR hin hz hρ
  subst hG
  unfold fi_X5_init_126
  refine J_aload_n X dX5_init_0 (i := 0) rfl rfl ?_
  refine C_obj X ml_X5_3 (Nat.le_of_ble_eq_true rfl) ⟨by rw [hR]; exact Nat.le_of_ble_eq_true rfl, by rw [hR]; exact Nat.le_of_ble_eq_true rfl⟩ dX5_init_1 ?_
  refine J_aload_n X dX5_init_4 (i := 0) rfl rfl ?_
  refine J_bipush X (v := (36 : Int32)) dX5_init_5 (by decide) ?_
  refine C_newa X (atype := .int) (ty := .int) (c := 0) (len := 36) (a0 := (36, .inl (fun _ => 0))) (by omega) (fun _ => rfl) (fun U c1 c2 g1 g2 => Option.some.inj (g1.symm.trans g2)) (fun b cA S => by rw [ce_1 (show KD 127 = (1, 36) by decide)]; simp [rwN, zI]) ac_int rfl (fun _ => rfl) (by decide) (by decide) (by decide) ⟨by rw [hR]; exact Nat.le_of_ble_eq_true rfl, by rw [hR]; exact Nat.le_of_ble_eq_true rfl⟩ dX5_init_7 (fun S1 hS1 => ?_)
  have hρS1 : S1.2.2 = RHO := by rw [hS1]; exact hρ
  clear hS1
  refine C_putF X (kf := 0) cb5 (by decide) (by decide) (by decide) (by rw [hρS1]; decide) (by decide) fl_X5_9 (fun _ _ _ => rfl) rfl hin rfl (fun _ => rfl) (fun _ => rfl) dX5_init_9 ?_
  exact C_vret X (by omega) hρS1 dX5_init_12
theorem df_128_133 : ∀ (b : Nat) (S : St) (j : Nat), j < 5 → defaultValue (tyC 5 j) = fv b (rwN (NT 133) (zI S 128)) 128 j (tyC 5 j) := df_of 128 133 5 rfl (by decide +kernel)
set_option maxRecDepth 20000 in
def fi_X5_init_128 (S : St) : Option (Unit × St) := nm (zI S 129) fun S1 => some ((), S1)
set_option maxRecDepth 20000 in
set_option maxHeartbeats 4000000 in
theorem I_X5_init_128 (G : GG) (hDG : ∀ a, gD G a → False) (S : St) : CI G yX5_init cX5_init 1 1 1 36 [.ref 128] 133 129 S 134 130 (fi_X5_init_128 S) := by
  refine CI_of (ls := [some (.ref 128)]) hDG (by decide) rfl (Nat.le_of_ble_eq_true rfl) rfl ?_
  intro K hG X hR hin hz hρ
  subst hG
  unfold fi_X5_init_128
  refine J_aload_n X dX5_init_0 (i := 0) rfl rfl ?_
  refine C_obj X ml_X5_3 (Nat.le_of_ble_eq_true rfl) ⟨by rw [hR]; exact Nat.le_of_ble_eq_true rfl, by rw [hR]; exact Nat.le_of_ble_eq_true rfl⟩ dX5_init_1 ?_
  refine J_aload_n X dX5_init_4 (i := 0) rfl rfl ?_
  refine J_bipush X (v := (36 : Int32)) dX5_init_5 (by decide) ?_
  refine C_newa X (atype := .int) (ty := .int) (c := 0) (len := 36) (a0 := (36, .inl (fun _ => 0))) (by omega) (fun _ => rfl) (fun U c1 c2 g1 g2 => Option.some.inj (g1.symm.trans g2)) (fun b cA S => by rw [ce_1 (show KD 129 = (1, 36) by decide)]; simp [rwN, zI]) ac_int rfl (fun _ => rfl) (by decide) (by decide) (by decide) ⟨by rw [hR]; exact Nat.le_of_ble_eq_true rfl, by rw [hR]; exact Nat.le_of_ble_eq_true rfl⟩ dX5_init_7 (fun S1 hS1 => ?_)
  have hρS1 : S1.2.2 = RHO := by rw [hS1]; exact hρ
  clear hS1
  refine C_putF X (kf := 0) cb5 (by decide) (by decide) (by decide) (by rw [hρS1]; decide) (by decide) fl_X5_9 (fun _ _ _ => rfl) rfl hin rfl (fun _ => rfl) (fun _ => rfl) dX5_init_9 ?_
  exact C_vret X (by omega) hρS1 dX5_init_12
theorem df_130_135 : ∀ (b : Nat) (S : St) (j : Nat), j < 6 → defaultValue (tyC 3 j) = fv b (rwN (NT 135) (zI S 130)) 130 j (tyC 3 j) := df_of 130 135 3 rfl (by decide +kernel)
theorem hy_X3_init : yX3_init.cls ≠ "java/lang/invoke/MethodHandle" ∧ yX3_init.cls ≠ "java/lang/invoke/VarHandle" ∧ (parseMethodDescriptor yX3_init.desc).map (fun d => d.parameters.length) = some 0 := by decide +kernel
set_option maxRecDepth 20000 in
def fi_X3_init_130 (S : St) : Option (Unit × St) := nm (zI S 131) fun S1 => nm (zI S1 132) fun S2 => some ((), S2)
set_option maxRecDepth 20000 in
set_option maxHeartbeats 4000000 in
theorem I_X3_init_130 (G : GG) (hDG : ∀ a, gD G a → False) (S : St) : CI G yX3_init cX3_init 1 1 2 16 [.ref 130] 135 131 S 137 133 (fi_X3_init_130 S) := by
  refine CI_of (ls := [some (.ref 130)]) hDG (by decide) rfl (Nat.le_of_ble_eq_true rfl) rfl ?_
  intro K hG X hR hin hz hρ
  subst hG
  unfold fi_X3_init_130
  refine J_aload_n X dX3_init_0 (i := 0) rfl rfl ?_
  refine C_obj X ml_X3_3 (Nat.le_of_ble_eq_true rfl) ⟨by rw [hR]; exact Nat.le_of_ble_eq_true rfl, by rw [hR]; exact Nat.le_of_ble_eq_true rfl⟩ dX3_init_1 ?_
  refine J_aload_n X dX3_init_4 (i := 0) rfl rfl ?_
  refine J_bipush X (v := (8 : Int32)) dX3_init_5 (by decide) ?_
  refine C_newa X (atype := .int) (ty := .int) (c := 0) (len := 8) (a0 := (8, .inl (fun _ => 0))) (by omega) (fun _ => rfl) (fun U c1 c2 g1 g2 => Option.some.inj (g1.symm.trans g2)) (fun b cA S => by rw [ce_1 (show KD 131 = (1, 8) by decide)]; simp [rwN, zI]) ac_int rfl (fun _ => rfl) (by decide) (by decide) (by decide) ⟨by rw [hR]; exact Nat.le_of_ble_eq_true rfl, by rw [hR]; exact Nat.le_of_ble_eq_true rfl⟩ dX3_init_7 (fun S1 hS1 => ?_)
  have hρS1 : S1.2.2 = RHO := by rw [hS1]; exact hρ
  clear hS1
  refine C_putF X (kf := 0) cb3 (by decide) (by decide) (by decide) (by rw [hρS1]; decide) (by decide) fl_X3_9 (fun _ _ _ => rfl) rfl hin rfl (fun _ => rfl) (fun _ => rfl) dX3_init_9 ?_
  refine J_aload_n X dX3_init_12 (i := 0) rfl rfl ?_
  refine J_bipush X (v := (8 : Int32)) dX3_init_13 (by decide) ?_
  refine C_newa X (atype := .int) (ty := .int) (c := 0) (len := 8) (a0 := (8, .inl (fun _ => 0))) (by omega) (fun _ => rfl) (fun U c1 c2 g1 g2 => Option.some.inj (g1.symm.trans g2)) (fun b cA S => by rw [ce_1 (show KD 132 = (1, 8) by decide)]; simp [rwN, zI]) ac_int rfl (fun _ => rfl) (by decide) (by decide) (by decide) ⟨by rw [hR]; exact Nat.le_of_ble_eq_true rfl, by rw [hR]; exact Nat.le_of_ble_eq_true rfl⟩ dX3_init_15 (fun S2 hS2 => ?_)
  have hρS2 : S2.2.2 = RHO := by rw [hS2]; exact hρS1
  clear hS2
  refine C_putF X (kf := 1) cb3 (by decide) (by decide) (by decide) (by rw [hρS2]; decide) (by decide) fl_X3_15 (fun _ _ _ => rfl) rfl hin rfl (fun _ => rfl) (fun _ => rfl) dX3_init_17 ?_
  exact C_vret X (by omega) hρS2 dX3_init_20
theorem df_133_138 : ∀ (b : Nat) (S : St) (j : Nat), j < 8 → defaultValue (tyC 7 j) = fv b (rwN (NT 138) (zI S 133)) 133 j (tyC 7 j) := df_of 133 138 7 rfl (by decide +kernel)
theorem hy_X7_init : yX7_init.cls ≠ "java/lang/invoke/MethodHandle" ∧ yX7_init.cls ≠ "java/lang/invoke/VarHandle" ∧ (parseMethodDescriptor yX7_init.desc).map (fun d => d.parameters.length) = some 0 := by decide +kernel
set_option maxRecDepth 20000 in
def fi_X7_init_133 (S : St) : Option (Unit × St) := nm (zI S 134) fun S1 => nm (zI S1 135) fun S2 => nm (zI S2 136) fun S3 => nm (zI S3 137) fun S4 => nm (zI S4 138) fun S5 => nm (zI S5 139) fun S6 => some ((), S6)
set_option maxRecDepth 20000 in
set_option maxHeartbeats 4000000 in
theorem I_X7_init_133 (G : GG) (hDG : ∀ a, gD G a → False) (S : St) : CI G yX7_init cX7_init 1 1 6 189 [.ref 133] 138 134 S 144 140 (fi_X7_init_133 S) := by
  refine CI_of (ls := [some (.ref 133)]) hDG (by decide) rfl (Nat.le_of_ble_eq_true rfl) rfl ?_
  intro K hG X hR hin hz hρ
  subst hG
  unfold fi_X7_init_133
  refine J_aload_n X dX7_init_0 (i := 0) rfl rfl ?_
  refine C_obj X ml_X7_3 (Nat.le_of_ble_eq_true rfl) ⟨by rw [hR]; exact Nat.le_of_ble_eq_true rfl, by rw [hR]; exact Nat.le_of_ble_eq_true rfl⟩ dX7_init_1 ?_
  refine J_aload_n X dX7_init_4 (i := 0) rfl rfl ?_
  refine J_bipush X (v := (20 : Int32)) dX7_init_5 (by decide) ?_
  refine C_newa X (atype := .int) (ty := .int) (c := 0) (len := 20) (a0 := (20, .inl (fun _ => 0))) (by omega) (fun _ => rfl) (fun U c1 c2 g1 g2 => Option.some.inj (g1.symm.trans g2)) (fun b cA S => by rw [ce_1 (show KD 134 = (1, 20) by decide)]; simp [rwN, zI]) ac_int rfl (fun _ => rfl) (by decide) (by decide) (by decide) ⟨by rw [hR]; exact Nat.le_of_ble_eq_true rfl, by rw [hR]; exact Nat.le_of_ble_eq_true rfl⟩ dX7_init_7 (fun S1 hS1 => ?_)
  have hρS1 : S1.2.2 = RHO := by rw [hS1]; exact hρ
  clear hS1
  refine C_putF X (kf := 0) cb7 (by decide) (by decide) (by decide) (by rw [hρS1]; decide) (by decide) fl_X7_9 (fun _ _ _ => rfl) rfl hin rfl (fun _ => rfl) (fun _ => rfl) dX7_init_9 ?_
  refine J_aload_n X dX7_init_12 (i := 0) rfl rfl ?_
  refine J_bipush X (v := (20 : Int32)) dX7_init_13 (by decide) ?_
  refine C_newa X (atype := .int) (ty := .int) (c := 0) (len := 20) (a0 := (20, .inl (fun _ => 0))) (by omega) (fun _ => rfl) (fun U c1 c2 g1 g2 => Option.some.inj (g1.symm.trans g2)) (fun b cA S => by rw [ce_1 (show KD 135 = (1, 20) by decide)]; simp [rwN, zI]) ac_int rfl (fun _ => rfl) (by decide) (by decide) (by decide) ⟨by rw [hR]; exact Nat.le_of_ble_eq_true rfl, by rw [hR]; exact Nat.le_of_ble_eq_true rfl⟩ dX7_init_15 (fun S2 hS2 => ?_)
  have hρS2 : S2.2.2 = RHO := by rw [hS2]; exact hρS1
  clear hS2
  refine C_putF X (kf := 1) cb7 (by decide) (by decide) (by decide) (by rw [hρS2]; decide) (by decide) fl_X7_15 (fun _ _ _ => rfl) rfl hin rfl (fun _ => rfl) (fun _ => rfl) dX7_init_17 ?_
  refine J_aload_n X dX7_init_20 (i := 0) rfl rfl ?_
  refine J_bipush X (v := (20 : Int32)) dX7_init_21 (by decide) ?_
  refine C_newa X (atype := .int) (ty := .int) (c := 0) (len := 20) (a0 := (20, .inl (fun _ => 0))) (by omega) (fun _ => rfl) (fun U c1 c2 g1 g2 => Option.some.inj (g1.symm.trans g2)) (fun b cA S => by rw [ce_1 (show KD 136 = (1, 20) by decide)]; simp [rwN, zI]) ac_int rfl (fun _ => rfl) (by decide) (by decide) (by decide) ⟨by rw [hR]; exact Nat.le_of_ble_eq_true rfl, by rw [hR]; exact Nat.le_of_ble_eq_true rfl⟩ dX7_init_23 (fun S3 hS3 => ?_)
  have hρS3 : S3.2.2 = RHO := by rw [hS3]; exact hρS2
  clear hS3
  refine C_putF X (kf := 2) cb7 (by decide) (by decide) (by decide) (by rw [hρS3]; decide) (by decide) fl_X7_18 (fun _ _ _ => rfl) rfl hin rfl (fun _ => rfl) (fun _ => rfl) dX7_init_25 ?_
  refine J_aload_n X dX7_init_28 (i := 0) rfl rfl ?_
  refine J_bipush X (v := (20 : Int32)) dX7_init_29 (by decide) ?_
  refine C_newa X (atype := .int) (ty := .int) (c := 0) (len := 20) (a0 := (20, .inl (fun _ => 0))) (by omega) (fun _ => rfl) (fun U c1 c2 g1 g2 => Option.some.inj (g1.symm.trans g2)) (fun b cA S => by rw [ce_1 (show KD 137 = (1, 20) by decide)]; simp [rwN, zI]) ac_int rfl (fun _ => rfl) (by decide) (by decide) (by decide) ⟨by rw [hR]; exact Nat.le_of_ble_eq_true rfl, by rw [hR]; exact Nat.le_of_ble_eq_true rfl⟩ dX7_init_31 (fun S4 hS4 => ?_)
  have hρS4 : S4.2.2 = RHO := by rw [hS4]; exact hρS3
  clear hS4
  refine C_putF X (kf := 3) cb7 (by decide) (by decide) (by decide) (by rw [hρS4]; decide) (by decide) fl_X7_21 (fun _ _ _ => rfl) rfl hin rfl (fun _ => rfl) (fun _ => rfl) dX7_init_33 ?_
  refine J_aload_n X dX7_init_36 (i := 0) rfl rfl ?_
  refine J_bipush X (v := (100 : Int32)) dX7_init_37 (by decide) ?_
  refine C_newa X (atype := .boolean) (ty := .boolean) (c := 2) (len := 100) (a0 := (100, .inl (fun _ => 0))) (by omega) (fun _ => rfl) (fun U c1 c2 g1 g2 => Option.some.inj (g1.symm.trans g2)) (fun b cA S => by rw [ce_3 (show KD 138 = (3, 100) by decide)]; simp [rwN, zI]) ac_boolean rfl (fun _ => rfl) (by decide) (by decide) (by decide) ⟨by rw [hR]; exact Nat.le_of_ble_eq_true rfl, by rw [hR]; exact Nat.le_of_ble_eq_true rfl⟩ dX7_init_39 (fun S5 hS5 => ?_)
  have hρS5 : S5.2.2 = RHO := by rw [hS5]; exact hρS4
  clear hS5
  refine C_putF X (kf := 5) cb7 (by decide) (by decide) (by decide) (by rw [hρS5]; decide) (by decide) fl_X7_24 (fun _ _ _ => rfl) rfl hin rfl (fun _ => rfl) (fun _ => rfl) dX7_init_41 ?_
  refine J_aload_n X dX7_init_44 (i := 0) rfl rfl ?_
  refine J_bipush X (v := (9 : Int32)) dX7_init_45 (by decide) ?_
  refine C_newa X (atype := .int) (ty := .int) (c := 0) (len := 9) (a0 := (9, .inl (fun _ => 0))) (by omega) (fun _ => rfl) (fun U c1 c2 g1 g2 => Option.some.inj (g1.symm.trans g2)) (fun b cA S => by rw [ce_1 (show KD 139 = (1, 9) by decide)]; simp [rwN, zI]) ac_int rfl (fun _ => rfl) (by decide) (by decide) (by decide) ⟨by rw [hR]; exact Nat.le_of_ble_eq_true rfl, by rw [hR]; exact Nat.le_of_ble_eq_true rfl⟩ dX7_init_47 (fun S6 hS6 => ?_)
  have hρS6 : S6.2.2 = RHO := by rw [hS6]; exact hρS5
  clear hS6
  refine C_putF X (kf := 6) cb7 (by decide) (by decide) (by decide) (by rw [hρS6]; decide) (by decide) fl_X7_28 (fun _ _ _ => rfl) rfl hin rfl (fun _ => rfl) (fun _ => rfl) dX7_init_49 ?_
  exact C_vret X (by omega) hρS6 dX7_init_52
theorem hy_X9_init : yX9_init.cls ≠ "java/lang/invoke/MethodHandle" ∧ yX9_init.cls ≠ "java/lang/invoke/VarHandle" ∧ (parseMethodDescriptor yX9_init.desc).map (fun d => d.parameters.length) = some 0 := by decide +kernel
set_option maxRecDepth 20000 in
def fi_X9_init_0 (S : St) : Option (Unit × St) := nm (zI S 1) fun S1 => nm (zI S1 2) fun S2 => bd (fi_X0_init_2 S2) fun _ S3 => nm (zI S3 16) fun S4 => bd (fi_X0_init_16 S4) fun _ S5 => nm (zI S5 30) fun S6 => bd (fi_X4_init_30 S6) fun _ S7 => nm (zI S7 35) fun S8 => bd (fi_X5_init_35 S8) fun _ S9 => nm (zI S9 37) fun S10 => bd (fi_X5_init_37 S10) fun _ S11 => nm (zI S11 39) fun S12 => bd (fi_X8_init_39 S12) fun _ S13 => nm (zI S13 40) fun S14 => bd (fi_X8_init_40 S14) fun _ S15 => nm (zI S15 41) fun S16 => bd (fi_X1_init_41 S16) fun _ S17 => nm (zI S17 123) fun S18 => nm (zI S18 124) fun S19 => bd (fi_X5_init_124 S19) fun _ S20 => nm (zI S20 126) fun S21 => bd (fi_X5_init_126 S21) fun _ S22 => nm (zI S22 128) fun S23 => bd (fi_X5_init_128 S23) fun _ S24 => nm (zI S24 130) fun S25 => bd (fi_X3_init_130 S25) fun _ S26 => nm (zI S26 133) fun S27 => bd (fi_X7_init_133 S27) fun _ S28 => some ((), S28)
set_option maxRecDepth 20000 in
set_option maxHeartbeats 4000000 in
theorem I_X9_init_0 (G : GG) (hDG : ∀ a, gD G a → False) (S : St) : CI G yX9_init cX9_init 2 5 139 6493 [.ref 0] 0 1 S 145 140 (fi_X9_init_0 S) := by
  refine CI_of (ls := [some (.ref 0), none]) hDG (by decide) rfl (Nat.le_of_ble_eq_true rfl) rfl ?_
  intro K hG X hR hin hz hρ
  subst hG
  unfold fi_X9_init_0
  refine J_aload_n X dX9_init_0 (i := 0) rfl rfl ?_
  refine C_obj X ml_X9_1 (Nat.le_of_ble_eq_true rfl) ⟨by rw [hR]; exact Nat.le_of_ble_eq_true rfl, by rw [hR]; exact Nat.le_of_ble_eq_true rfl⟩ dX9_init_1 ?_
  refine J_aload_n X dX9_init_4 (i := 0) rfl rfl ?_
  refine J_sipush X (v := (2000 : Int32)) dX9_init_5 (by decide) ?_
  refine C_newa X (atype := .byte) (ty := .byte) (c := 1) (len := 2000) (a0 := (2000, .inl (fun _ => 0))) (by omega) (fun _ => rfl) (fun U c1 c2 g1 g2 => Option.some.inj (g1.symm.trans g2)) (fun b cA S => by rw [ce_2 (show KD 1 = (2, 2000) by decide)]; simp [rwN, zI]) ac_byte rfl (fun _ => rfl) (by decide) (by decide) (by decide) ⟨by rw [hR]; exact Nat.le_of_ble_eq_true rfl, by rw [hR]; exact Nat.le_of_ble_eq_true rfl⟩ dX9_init_8 (fun S1 hS1 => ?_)
  have hρS1 : S1.2.2 = RHO := by rw [hS1]; exact hρ
  clear hS1
  refine C_putF X (kf := 0) cb9 (by decide) (by decide) (by decide) (by rw [hρS1]; decide) (by decide) fl_X9_9 (fun _ _ _ => rfl) rfl hin rfl (fun _ => rfl) (fun _ => rfl) dX9_init_10 ?_
  refine J_aload_n X dX9_init_13 (i := 0) rfl rfl ?_
  refine C_new X cb0 (by decide) (by omega) cl_X9_13 it_RX0 ii_RX0 df_2_1 ⟨by rw [hR]; exact Nat.le_of_ble_eq_true rfl, by rw [hR]; exact Nat.le_of_ble_eq_true rfl⟩ dX9_init_14 (fun S2 hS2 => ?_)
  have hρS2 : S2.2.2 = RHO := by rw [hS2]; exact hρS1
  clear hS2
  refine J_dup X dX9_init_17 rfl ?_
  refine C_callI (As := []) X (I_X0_init_2 (kG K) hDG S2) ml_X9_15 in_yX0_init ii_RX0 co_yX0_init rfl hy_X0_init (hRc hR (by decide) (by decide)) ⟨by rw [hR]; exact Nat.le_of_ble_eq_true rfl, by rw [hR]; exact Nat.le_of_ble_eq_true rfl⟩ (by omega) hρS2 rfl (Nat.le_of_ble_eq_true rfl) dX9_init_18 (fun S3 hρS3 => ?_)
  refine C_putR X (kf := 3) cb9 (by decide) (by decide) (by decide) (by rw [hρS3]; decide) (by decide) fl_X9_16 (fun _ _ _ => rfl) rfl (fun _ => rfl) (fun _ => rfl) dX9_init_21 ?_
  refine J_aload_n X dX9_init_24 (i := 0) rfl rfl ?_
  refine C_new X cb0 (by decide) (by omega) cl_X9_13 it_RX0 ii_RX0 df_16_15 ⟨by rw [hR]; exact Nat.le_of_ble_eq_true rfl, by rw [hR]; exact Nat.le_of_ble_eq_true rfl⟩ dX9_init_25 (fun S4 hS4 => ?_)
  have hρS4 : S4.2.2 = RHO := by rw [hS4]; exact hρS3
  clear hS4
  refine J_dup X dX9_init_28 rfl ?_
  refine C_callI (As := []) X (I_X0_init_16 (kG K) hDG S4) ml_X9_15 in_yX0_init ii_RX0 co_yX0_init rfl hy_X0_init (hRc hR (by decide) (by decide)) ⟨by rw [hR]; exact Nat.le_of_ble_eq_true rfl, by rw [hR]; exact Nat.le_of_ble_eq_true rfl⟩ (by omega) hρS4 rfl (Nat.le_of_ble_eq_true rfl) dX9_init_29 (fun S5 hρS5 => ?_)
  refine C_putR X (kf := 4) cb9 (by decide) (by decide) (by decide) (by rw [hρS5]; decide) (by decide) fl_X9_20 (fun _ _ _ => rfl) rfl (fun _ => rfl) (fun _ => rfl) dX9_init_32 ?_
  refine J_aload_n X dX9_init_35 (i := 0) rfl rfl ?_
  refine C_new X cb4 (by decide) (by omega) cl_X9_23 it_RX4 ii_RX4 df_30_29 ⟨by rw [hR]; exact Nat.le_of_ble_eq_true rfl, by rw [hR]; exact Nat.le_of_ble_eq_true rfl⟩ dX9_init_36 (fun S6 hS6 => ?_)
  have hρS6 : S6.2.2 = RHO := by rw [hS6]; exact hρS5
  clear hS6
  refine J_dup X dX9_init_39 rfl ?_
  refine J_aload_n X dX9_init_40 (i := 0) rfl rfl ?_
  refine C_getR X (kf := 0) (q := 1) cb9 (by decide) (by decide) (by decide) fl_X9_9 (fun _ _ _ => rfl) (by decide +kernel) (by rw [hρS6]; decide) dX9_init_41 ?_
  refine J_aload_n X dX9_init_44 (i := 0) rfl rfl ?_
  refine C_getR X (kf := 4) (q := 16) cb9 (by decide) (by decide) (by decide) fl_X9_20 (fun _ _ _ => rfl) (by decide +kernel) (by rw [hρS6]; decide) dX9_init_45 ?_
  refine C_callI (As := [.ref 1, .ref 16]) X (I_X4_init_30 (kG K) hDG S6) ml_X9_25 in_yX4_init ii_RX4 co_yX4_init rfl hy_X4_init (hRc hR (by decide) (by decide)) ⟨by rw [hR]; exact Nat.le_of_ble_eq_true rfl, by rw [hR]; exact Nat.le_of_ble_eq_true rfl⟩ (by omega) hρS6 rfl (Nat.le_of_ble_eq_true rfl) dX9_init_48 (fun S7 hρS7 => ?_)
  refine C_putF X (kf := 2) cb9 (by decide) (by decide) (by decide) (by rw [hρS7]; decide) (by decide) fl_X9_28 (fun _ _ _ => rfl) rfl hin rfl (fun _ => rfl) (fun _ => rfl) dX9_init_51 ?_
  refine J_aload_n X dX9_init_54 (i := 0) rfl rfl ?_
  refine C_new X cb5 (by decide) (by omega) cl_X9_32 it_RX5 ii_RX5 df_35_36 ⟨by rw [hR]; exact Nat.le_of_ble_eq_true rfl, by rw [hR]; exact Nat.le_of_ble_eq_true rfl⟩ dX9_init_55 (fun S8 hS8 => ?_)
  have hρS8 : S8.2.2 = RHO := by rw [hS8]; exact hρS7
  clear hS8
  refine J_dup X dX9_init_58 rfl ?_
  refine C_callI (As := []) X (I_X5_init_35 (kG K) hDG S8) ml_X9_34 in_yX5_init ii_RX5 co_yX5_init rfl hy_X5_init (hRc hR (by decide) (by decide)) ⟨by rw [hR]; exact Nat.le_of_ble_eq_true rfl, by rw [hR]; exact Nat.le_of_ble_eq_true rfl⟩ (by omega) hρS8 rfl (Nat.le_of_ble_eq_true rfl) dX9_init_59 (fun S9 hρS9 => ?_)
  refine C_putF X (kf := 5) cb9 (by decide) (by decide) (by decide) (by rw [hρS9]; decide) (by decide) fl_X9_35 (fun _ _ _ => rfl) rfl hin rfl (fun _ => rfl) (fun _ => rfl) dX9_init_62 ?_
  refine J_aload_n X dX9_init_65 (i := 0) rfl rfl ?_
  refine C_new X cb5 (by decide) (by omega) cl_X9_32 it_RX5 ii_RX5 df_37_38 ⟨by rw [hR]; exact Nat.le_of_ble_eq_true rfl, by rw [hR]; exact Nat.le_of_ble_eq_true rfl⟩ dX9_init_66 (fun S10 hS10 => ?_)
  have hρS10 : S10.2.2 = RHO := by rw [hS10]; exact hρS9
  clear hS10
  refine J_dup X dX9_init_69 rfl ?_
  refine C_callI (As := []) X (I_X5_init_37 (kG K) hDG S10) ml_X9_34 in_yX5_init ii_RX5 co_yX5_init rfl hy_X5_init (hRc hR (by decide) (by decide)) ⟨by rw [hR]; exact Nat.le_of_ble_eq_true rfl, by rw [hR]; exact Nat.le_of_ble_eq_true rfl⟩ (by omega) hρS10 rfl (Nat.le_of_ble_eq_true rfl) dX9_init_70 (fun S11 hρS11 => ?_)
  refine C_putF X (kf := 6) cb9 (by decide) (by decide) (by decide) (by rw [hρS11]; decide) (by decide) fl_X9_39 (fun _ _ _ => rfl) rfl hin rfl (fun _ => rfl) (fun _ => rfl) dX9_init_73 ?_
  refine J_aload_n X dX9_init_76 (i := 0) rfl rfl ?_
  refine C_new X cb8 (by decide) (by omega) cl_X9_42 it_RX8 ii_RX8 df_39_40 ⟨by rw [hR]; exact Nat.le_of_ble_eq_true rfl, by rw [hR]; exact Nat.le_of_ble_eq_true rfl⟩ dX9_init_77 (fun S12 hS12 => ?_)
  have hρS12 : S12.2.2 = RHO := by rw [hS12]; exact hρS11
  clear hS12
  refine J_dup X dX9_init_80 rfl ?_
  refine J_aload_n X dX9_init_81 (i := 0) rfl rfl ?_
  refine C_getR X (kf := 3) (q := 2) cb9 (by decide) (by decide) (by decide) fl_X9_16 (fun _ _ _ => rfl) (by decide +kernel) (by rw [hρS12]; decide) dX9_init_82 ?_
  refine J_aload_n X dX9_init_85 (i := 0) rfl rfl ?_
  refine C_getR X (kf := 5) (q := 35) cb9 (by decide) (by decide) (by decide) fl_X9_35 (fun _ _ _ => rfl) (by decide +kernel) (by rw [hρS12]; decide) dX9_init_86 ?_
  refine C_callI (As := [.ref 2, .ref 35]) X (I_X8_init_39 (kG K) hDG S12) ml_X9_44 in_yX8_init ii_RX8 co_yX8_init rfl hy_X8_init (hRc hR (by decide) (by decide)) ⟨by rw [hR]; exact Nat.le_of_ble_eq_true rfl, by rw [hR]; exact Nat.le_of_ble_eq_true rfl⟩ (by omega) hρS12 rfl (Nat.le_of_ble_eq_true rfl) dX9_init_89 (fun S13 hρS13 => ?_)
  refine C_putF X (kf := 7) cb9 (by decide) (by decide) (by decide) (by rw [hρS13]; decide) (by decide) fl_X9_47 (fun _ _ _ => rfl) rfl hin rfl (fun _ => rfl) (fun _ => rfl) dX9_init_92 ?_
  refine J_aload_n X dX9_init_95 (i := 0) rfl rfl ?_
  refine C_new X cb8 (by decide) (by omega) cl_X9_42 it_RX8 ii_RX8 df_40_43 ⟨by rw [hR]; exact Nat.le_of_ble_eq_true rfl, by rw [hR]; exact Nat.le_of_ble_eq_true rfl⟩ dX9_init_96 (fun S14 hS14 => ?_)
  have hρS14 : S14.2.2 = RHO := by rw [hS14]; exact hρS13
  clear hS14
  refine J_dup X dX9_init_99 rfl ?_
  refine J_aload_n X dX9_init_100 (i := 0) rfl rfl ?_
  refine C_getR X (kf := 3) (q := 2) cb9 (by decide) (by decide) (by decide) fl_X9_16 (fun _ _ _ => rfl) (by decide +kernel) (by rw [hρS14]; decide) dX9_init_101 ?_
  refine J_aload_n X dX9_init_104 (i := 0) rfl rfl ?_
  refine C_getR X (kf := 6) (q := 37) cb9 (by decide) (by decide) (by decide) fl_X9_39 (fun _ _ _ => rfl) (by decide +kernel) (by rw [hρS14]; decide) dX9_init_105 ?_
  refine C_callI (As := [.ref 2, .ref 37]) X (I_X8_init_40 (kG K) hDG S14) ml_X9_44 in_yX8_init ii_RX8 co_yX8_init rfl hy_X8_init (hRc hR (by decide) (by decide)) ⟨by rw [hR]; exact Nat.le_of_ble_eq_true rfl, by rw [hR]; exact Nat.le_of_ble_eq_true rfl⟩ (by omega) hρS14 rfl (Nat.le_of_ble_eq_true rfl) dX9_init_108 (fun S15 hρS15 => ?_)
  refine C_putF X (kf := 8) cb9 (by decide) (by decide) (by decide) (by rw [hρS15]; decide) (by decide) fl_X9_51 (fun _ _ _ => rfl) rfl hin rfl (fun _ => rfl) (fun _ => rfl) dX9_init_111 ?_
  refine J_aload_n X dX9_init_114 (i := 0) rfl rfl ?_
  refine C_new X cb1 (by decide) (by omega) cl_X9_54 it_RX1 ii_RX1 df_41_46 ⟨by rw [hR]; exact Nat.le_of_ble_eq_true rfl, by rw [hR]; exact Nat.le_of_ble_eq_true rfl⟩ dX9_init_115 (fun S16 hS16 => ?_)
  have hρS16 : S16.2.2 = RHO := by rw [hS16]; exact hρS15
  clear hS16
  refine J_dup X dX9_init_118 rfl ?_
  refine C_callI (As := []) X (I_X1_init_41 (kG K) hDG S16) ml_X9_56 in_yX1_init ii_RX1 co_yX1_init rfl hy_X1_init (hRc hR (by decide) (by decide)) ⟨by rw [hR]; exact Nat.le_of_ble_eq_true rfl, by rw [hR]; exact Nat.le_of_ble_eq_true rfl⟩ (by omega) hρS16 rfl (Nat.le_of_ble_eq_true rfl) dX9_init_119 (fun S17 hρS17 => ?_)
  refine C_putF X (kf := 9) cb9 (by decide) (by decide) (by decide) (by rw [hρS17]; decide) (by decide) fl_X9_57 (fun _ _ _ => rfl) rfl hin rfl (fun _ => rfl) (fun _ => rfl) dX9_init_122 ?_
  refine J_aload_n X dX9_init_125 (i := 0) rfl rfl ?_
  refine J_iconst X (v := (3 : Int32)) dX9_init_126 (by decide) ?_
  refine C_newq X (len := 3) (by omega) (by decide) (by decide +kernel) cl_X9_32 (by decide) (by decide) (by decide) ⟨by rw [hR]; exact Nat.le_of_ble_eq_true rfl, by rw [hR]; exact Nat.le_of_ble_eq_true rfl⟩ dX9_init_127 (fun S18 hS18 => ?_)
  have hρS18 : S18.2.2 = RHO := by rw [hS18]; exact hρS17
  clear hS18
  refine C_putF X (kf := 10) cb9 (by decide) (by decide) (by decide) (by rw [hρS18]; decide) (by decide) fl_X9_61 (fun _ _ _ => rfl) rfl hin rfl (fun _ => rfl) (fun _ => rfl) dX9_init_130 ?_
  refine J_iconst X (v := (0 : Int32)) dX9_init_133 (by decide) ?_
  refine J_istore_n X (i := 1) (ls' := [some (.ref 0), some (.int (0 : Int32))]) dX9_init_134 rfl (by decide) rfl ?_
  refine J_iload_n X dX9_init_135 (i := 1) rfl rfl ?_
  refine J_iconst X (v := (3 : Int32)) dX9_init_136 (by decide) ?_
  refine C_ge_f X (tgt := 159) (by decide) dX9_init_137 (by decide) ?_
  refine J_aload_n X dX9_init_140 (i := 0) rfl rfl ?_
  refine C_getR X (kf := 10) (q := 123) cb9 (by decide) (by decide) (by decide) fl_X9_61 (fun _ _ _ => rfl) (by decide +kernel) (by rw [hρS18]; decide) dX9_init_141 ?_
  refine J_iload_n X dX9_init_144 (i := 1) rfl rfl ?_
  refine C_new X cb5 (by decide) (by omega) cl_X9_32 it_RX5 ii_RX5 df_124_129 ⟨by rw [hR]; exact Nat.le_of_ble_eq_true rfl, by rw [hR]; exact Nat.le_of_ble_eq_true rfl⟩ dX9_init_145 (fun S19 hS19 => ?_)
  have hρS19 : S19.2.2 = RHO := by rw [hS19]; exact hρS18
  clear hS19
  refine J_dup X dX9_init_148 rfl ?_
  refine C_callI (As := []) X (I_X5_init_124 (kG K) hDG S19) ml_X9_34 in_yX5_init ii_RX5 co_yX5_init rfl hy_X5_init (hRc hR (by decide) (by decide)) ⟨by rw [hR]; exact Nat.le_of_ble_eq_true rfl, by rw [hR]; exact Nat.le_of_ble_eq_true rfl⟩ (by omega) hρS19 rfl (Nat.le_of_ble_eq_true rfl) dX9_init_149 (fun S20 hρS20 => ?_)
  refine C_aast X (len := 3) (j := 0) (by decide) (by decide) (by decide) (by decide) (by decide) (vp_in_iff.mpr (by decide)) (by decide) (by rw [hρS20]; decide) dX9_init_152 ?_
  refine J_iinc X (v := (1 : Int32)) (ls' := [some (.ref 0), some (.int (1 : Int32))]) dX9_init_153 (by decide) rfl (by decide) rfl ?_
  refine J_goto X (tgt := 135) dX9_init_156 (by decide) ?_
  refine J_iload_n X dX9_init_135 (i := 1) rfl rfl ?_
  refine J_iconst X (v := (3 : Int32)) dX9_init_136 (by decide) ?_
  refine C_ge_f X (tgt := 159) (by decide) dX9_init_137 (by decide) ?_
  refine J_aload_n X dX9_init_140 (i := 0) rfl rfl ?_
  refine C_getR X (kf := 10) (q := 123) cb9 (by decide) (by decide) (by decide) fl_X9_61 (fun _ _ _ => rfl) (by decide +kernel) (by rw [hρS20]; decide) dX9_init_141 ?_
  refine J_iload_n X dX9_init_144 (i := 1) rfl rfl ?_
  refine C_new X cb5 (by decide) (by omega) cl_X9_32 it_RX5 ii_RX5 df_126_131 ⟨by rw [hR]; exact Nat.le_of_ble_eq_true rfl, by rw [hR]; exact Nat.le_of_ble_eq_true rfl⟩ dX9_init_145 (fun S21 hS21 => ?_)
  have hρS21 : S21.2.2 = RHO := by rw [hS21]; exact hρS20
  clear hS21
  refine J_dup X dX9_init_148 rfl ?_
  refine C_callI (As := []) X (I_X5_init_126 (kG K) hDG S21) ml_X9_34 in_yX5_init ii_RX5 co_yX5_init rfl hy_X5_init (hRc hR (by decide) (by decide)) ⟨by rw [hR]; exact Nat.le_of_ble_eq_true rfl, by rw [hR]; exact Nat.le_of_ble_eq_true rfl⟩ (by omega) hρS21 rfl (Nat.le_of_ble_eq_true rfl) dX9_init_149 (fun S22 hρS22 => ?_)
  refine C_aast X (len := 3) (j := 1) (by decide) (by decide) (by decide) (by decide) (by decide) (vp_in_iff.mpr (by decide)) (by decide) (by rw [hρS22]; decide) dX9_init_152 ?_
  refine J_iinc X (v := (2 : Int32)) (ls' := [some (.ref 0), some (.int (2 : Int32))]) dX9_init_153 (by decide) rfl (by decide) rfl ?_
  refine J_goto X (tgt := 135) dX9_init_156 (by decide) ?_
  refine J_iload_n X dX9_init_135 (i := 1) rfl rfl ?_
  refine J_iconst X (v := (3 : Int32)) dX9_init_136 (by decide) ?_
  refine C_ge_f X (tgt := 159) (by decide) dX9_init_137 (by decide) ?_
  refine J_aload_n X dX9_init_140 (i := 0) rfl rfl ?_
  refine C_getR X (kf := 10) (q := 123) cb9 (by decide) (by decide) (by decide) fl_X9_61 (fun _ _ _ => rfl) (by decide +kernel) (by rw [hρS22]; decide) dX9_init_141 ?_
  refine J_iload_n X dX9_init_144 (i := 1) rfl rfl ?_
  refine C_new X cb5 (by decide) (by omega) cl_X9_32 it_RX5 ii_RX5 df_128_133 ⟨by rw [hR]; exact Nat.le_of_ble_eq_true rfl, by rw [hR]; exact Nat.le_of_ble_eq_true rfl⟩ dX9_init_145 (fun S23 hS23 => ?_)
  have hρS23 : S23.2.2 = RHO := by rw [hS23]; exact hρS22
  clear hS23
  refine J_dup X dX9_init_148 rfl ?_
  refine C_callI (As := []) X (I_X5_init_128 (kG K) hDG S23) ml_X9_34 in_yX5_init ii_RX5 co_yX5_init rfl hy_X5_init (hRc hR (by decide) (by decide)) ⟨by rw [hR]; exact Nat.le_of_ble_eq_true rfl, by rw [hR]; exact Nat.le_of_ble_eq_true rfl⟩ (by omega) hρS23 rfl (Nat.le_of_ble_eq_true rfl) dX9_init_149 (fun S24 hρS24 => ?_)
  refine C_aast X (len := 3) (j := 2) (by decide) (by decide) (by decide) (by decide) (by decide) (vp_in_iff.mpr (by decide)) (by decide) (by rw [hρS24]; decide) dX9_init_152 ?_
  refine J_iinc X (v := (3 : Int32)) (ls' := [some (.ref 0), some (.int (3 : Int32))]) dX9_init_153 (by decide) rfl (by decide) rfl ?_
  refine J_goto X (tgt := 135) dX9_init_156 (by decide) ?_
  refine J_iload_n X dX9_init_135 (i := 1) rfl rfl ?_
  refine J_iconst X (v := (3 : Int32)) dX9_init_136 (by decide) ?_
  refine C_ge_t X (tgt := 159) (by decide) dX9_init_137 (by decide) ?_
  refine J_aload_n X dX9_init_159 (i := 0) rfl rfl ?_
  refine C_new X cb3 (by decide) (by omega) cl_X9_65 it_RX3 ii_RX3 df_130_135 ⟨by rw [hR]; exact Nat.le_of_ble_eq_true rfl, by rw [hR]; exact Nat.le_of_ble_eq_true rfl⟩ dX9_init_160 (fun S25 hS25 => ?_)
  have hρS25 : S25.2.2 = RHO := by rw [hS25]; exact hρS24
  clear hS25
  refine J_dup X dX9_init_163 rfl ?_
  refine C_callI (As := []) X (I_X3_init_130 (kG K) hDG S25) ml_X9_67 in_yX3_init ii_RX3 co_yX3_init rfl hy_X3_init (hRc hR (by decide) (by decide)) ⟨by rw [hR]; exact Nat.le_of_ble_eq_true rfl, by rw [hR]; exact Nat.le_of_ble_eq_true rfl⟩ (by omega) hρS25 rfl (Nat.le_of_ble_eq_true rfl) dX9_init_164 (fun S26 hρS26 => ?_)
  refine C_putF X (kf := 12) cb9 (by decide) (by decide) (by decide) (by rw [hρS26]; decide) (by decide) fl_X9_68 (fun _ _ _ => rfl) rfl hin rfl (fun _ => rfl) (fun _ => rfl) dX9_init_167 ?_
  refine J_aload_n X dX9_init_170 (i := 0) rfl rfl ?_
  refine C_new X cb7 (by decide) (by omega) cl_X9_72 it_RX7 ii_RX7 df_133_138 ⟨by rw [hR]; exact Nat.le_of_ble_eq_true rfl, by rw [hR]; exact Nat.le_of_ble_eq_true rfl⟩ dX9_init_171 (fun S27 hS27 => ?_)
  have hρS27 : S27.2.2 = RHO := by rw [hS27]; exact hρS26
  clear hS27
  refine J_dup X dX9_init_174 rfl ?_
  refine C_callI (As := []) X (I_X7_init_133 (kG K) hDG S27) ml_X9_74 in_yX7_init ii_RX7 co_yX7_init rfl hy_X7_init (hRc hR (by decide) (by decide)) ⟨by rw [hR]; exact Nat.le_of_ble_eq_true rfl, by rw [hR]; exact Nat.le_of_ble_eq_true rfl⟩ (by omega) hρS27 rfl (Nat.le_of_ble_eq_true rfl) dX9_init_175 (fun S28 hρS28 => ?_)
  refine C_putF X (kf := 13) cb9 (by decide) (by decide) (by decide) (by rw [hρS28]; decide) (by decide) fl_X9_75 (fun _ _ _ => rfl) rfl hin rfl (fun _ => rfl) (fun _ => rfl) dX9_init_178 ?_
  exact C_vret X (by omega) hρS28 dX9_init_181
theorem dn_191_140_187 : dnok 191 140 187 RHO = true := by decide +kernel
theorem hy_X10_init : yX10_init.cls ≠ "java/lang/invoke/MethodHandle" ∧ yX10_init.cls ≠ "java/lang/invoke/VarHandle" ∧ (parseMethodDescriptor yX10_init.desc).map (fun d => d.parameters.length) = some 0 := by decide +kernel
set_option maxRecDepth 20000 in
def fi_X10_init_140 (S : St) : Option (Unit × St) := nm (zI S 141) fun S1 => nm (zI S1 142) fun S2 => nm (zI S2 143) fun S3 => nm (zI S3 144) fun S4 => nm (zI S4 145) fun S5 => nm (zI S5 146) fun S6 => nm (zI S6 147) fun S7 => nm (sI S7 140 17 (-1 : Int32)) fun S8 => nm (zI S8 148) fun S9 => nm (zI S9 149) fun S10 => nm (zI S10 150) fun S11 => nm (zI S11 151) fun S12 => nm (zI S12 152) fun S13 => nm (zI S13 153) fun S14 => nm (zI S14 154) fun S15 => nm (zI S15 155) fun S16 => nm (zI S16 156) fun S17 => nm (zI S17 157) fun S18 => nm (zI S18 158) fun S19 => nm (zI S19 159) fun S20 => nm (zI S20 160) fun S21 => nm (zI S21 161) fun S22 => nm (zI S22 162) fun S23 => nm (zI S23 163) fun S24 => nm (zI S24 164) fun S25 => nm (zI S25 165) fun S26 => nm (zI S26 166) fun S27 => nm (zI S27 167) fun S28 => nm (zI S28 168) fun S29 => nm (zI S29 169) fun S30 => nm (zI S30 170) fun S31 => nm (zI S31 171) fun S32 => nm (zI S32 172) fun S33 => nm (zI S33 173) fun S34 => nm (zI S34 174) fun S35 => nm (zI S35 175) fun S36 => nm (zI S36 176) fun S37 => nm (zI S37 177) fun S38 => nm (zI S38 178) fun S39 => nm (zI S39 179) fun S40 => nm (zI S40 180) fun S41 => nm (zI S41 181) fun S42 => nm (zI S42 182) fun S43 => nm (zI S43 183) fun S44 => nm (zI S44 184) fun S45 => nm (zI S45 185) fun S46 => nm (zI S46 186) fun S47 => bd (f_X10_plain 140 (0 : Int32) S47) fun _ S48 => bd (f_X10_plain 140 (1 : Int32) S48) fun _ S49 => bd (f_X10_word (109 : Int32) (101 : Int32) (114 : Int32) (109 : Int32) (97 : Int32) (105 : Int32) (100 : Int32) S49) fun rS50 S50 => (ix (0 : Int32) 21).bind fun jS51 => nm (sL S50 147 jS51 rS50) fun S51 => bd (f_X10_word (112 : Int32) (101 : Int32) (114 : Int32) (115 : Int32) (111 : Int32) (110 : Int32) (0 : Int32) S51) fun rS52 S52 => (ix (1 : Int32) 21).bind fun jS53 => nm (sL S52 147 jS53 rS52) fun S53 => bd (f_X10_word (115 : Int32) (116 : Int32) (114 : Int32) (97 : Int32) (110 : Int32) (100 : Int32) (0 : Int32) S53) fun rS54 S54 => (ix (2 : Int32) 21).bind fun jS55 => nm (sL S54 147 jS55 rS54) fun S55 => bd (f_X10_word (112 : Int32) (117 : Int32) (108 : Int32) (108 : Int32) (0 : Int32) (0 : Int32) (0 : Int32) S55) fun rS56 S56 => (ix (3 : Int32) 21).bind fun jS57 => nm (sL S56 147 jS57 rS56) fun S57 => bd (f_X10_word (115 : Int32) (116 : Int32) (97 : Int32) (110 : Int32) (100 : Int32) (115 : Int32) (0 : Int32) S57) fun rS58 S58 => (ix (4 : Int32) 21).bind fun jS59 => nm (sL S58 147 jS59 rS58) fun S59 => bd (f_X10_word (112 : Int32) (114 : Int32) (105 : Int32) (99 : Int32) (101 : Int32) (0 : Int32) (0 : Int32) S59) fun rS60 S60 => (ix (5 : Int32) 21).bind fun jS61 => nm (sL S60 147 jS61 rS60) fun S61 => bd (f_X10_word (115 : Int32) (116 : Int32) (111 : Int32) (114 : Int32) (109 : Int32) (0 : Int32) (0 : Int32) S61) fun rS62 S62 => (ix (6 : Int32) 21).bind fun jS63 => nm (sL S62 147 jS63 rS62) fun S63 => bd (f_X10_word (112 : Int32) (105 : Int32) (101 : Int32) (114 : Int32) (0 : Int32) (0 : Int32) (0 : Int32) S63) fun rS64 S64 => (ix (7 : Int32) 21).bind fun jS65 => nm (sL S64 147 jS65 rS64) fun S65 => bd (f_X10_word (115 : Int32) (101 : Int32) (101 : Int32) (100 : Int32) (0 : Int32) (0 : Int32) (0 : Int32) S65) fun rS66 S66 => (ix (8 : Int32) 21).bind fun jS67 => nm (sL S66 147 jS67 rS66) fun S67 => bd (f_X10_word (105 : Int32) (102 : Int32) (0 : Int32) (0 : Int32) (0 : Int32) (0 : Int32) (0 : Int32) S67) fun rS68 S68 => (ix (9 : Int32) 21).bind fun jS69 => nm (sL S68 147 jS69 rS68) fun S69 => bd (f_X10_word (116 : Int32) (104 : Int32) (101 : Int32) (110 : Int32) (0 : Int32) (0 : Int32) (0 : Int32) S69) fun rS70 S70 => (ix (10 : Int32) 21).bind fun jS71 => nm (sL S70 147 jS71 rS70) fun S71 => bd (f_X10_word (101 : Int32) (108 : Int32) (115 : Int32) (101 : Int32) (0 : Int32) (0 : Int32) (0 : Int32) S71) fun rS72 S72 => (ix (11 : Int32) 21).bind fun jS73 => nm (sL S72 147 jS73 rS72) fun S73 => bd (f_X10_word (108 : Int32) (101 : Int32) (110 : Int32) (103 : Int32) (116 : Int32) (104 : Int32) (0 : Int32) S73) fun rS74 S74 => (ix (12 : Int32) 21).bind fun jS75 => nm (sL S74 147 jS75 rS74) fun S75 => bd (f_X10_word (102 : Int32) (97 : Int32) (114 : Int32) (0 : Int32) (0 : Int32) (0 : Int32) (0 : Int32) S75) fun rS76 S76 => (ix (13 : Int32) 21).bind fun jS77 => nm (sL S76 147 jS77 rS76) fun S77 => bd (f_X10_word (109 : Int32) (111 : Int32) (111 : Int32) (110 : Int32) (0 : Int32) (0 : Int32) (0 : Int32) S77) fun rS78 S78 => (ix (14 : Int32) 21).bind fun jS79 => nm (sL S78 147 jS79 rS78) fun S79 => bd (f_X10_word (109 : Int32) (111 : Int32) (110 : Int32) (116 : Int32) (104 : Int32) (0 : Int32) (0 : Int32) S79) fun rS80 S80 => (ix (15 : Int32) 21).bind fun jS81 => nm (sL S80 147 jS81 rS80) fun S81 => bd (f_X10_word (119 : Int32) (101 : Int32) (105 : Int32) (103 : Int32) (104 : Int32) (116 : Int32) (0 : Int32) S81) fun rS82 S82 => (ix (16 : Int32) 21).bind fun jS83 => nm (sL S82 147 jS83 rS82) fun S83 => bd (f_X10_word (97 : Int32) (99 : Int32) (114 : Int32) (111 : Int32) (115 : Int32) (115 : Int32) (0 : Int32) S83) fun rS84 S84 => (ix (17 : Int32) 21).bind fun jS85 => nm (sL S84 147 jS85 rS84) fun S85 => bd (f_X10_word (100 : Int32) (111 : Int32) (119 : Int32) (110 : Int32) (0 : Int32) (0 : Int32) (0 : Int32) S85) fun rS86 S86 => (ix (18 : Int32) 21).bind fun jS87 => nm (sL S86 147 jS87 rS86) fun S87 => bd (f_X10_word (119 : Int32) (104 : Int32) (105 : Int32) (99 : Int32) (104 : Int32) (0 : Int32) (0 : Int32) S87) fun rS88 S88 => (ix (19 : Int32) 21).bind fun jS89 => nm (sL S88 147 jS89 rS88) fun S89 => bd (f_X10_word (119 : Int32) (101 : Int32) (97 : Int32) (114 : Int32) (115 : Int32) (0 : Int32) (0 : Int32) S89) fun rS90 S90 => (ix (20 : Int32) 21).bind fun jS91 => nm (sL S90 147 jS91 rS90) fun S91 => bd (f_X10_begins 140 S91) fun _ S92 => bd (f_X10_keepsRow 140 S92) fun _ S93 => some ((), S93)
set_option maxRecDepth 20000 in
set_option maxHeartbeats 4000000 in
theorem I_X10_init_140 (G : GG) (hDG : ∀ a, gD G a → False) (S : St) : CI G yX10_init cX10_init 1 2 46 11819 [.ref 140] 145 141 S 191 187 (fi_X10_init_140 S) := by
  refine CI_of (ls := [some (.ref 140)]) hDG (by decide) rfl (Nat.le_of_ble_eq_true rfl) rfl ?_
  intro K hG X hR hin hz hρ
  subst hG
  unfold fi_X10_init_140
  refine J_aload_n X dX10_init_0 (i := 0) rfl rfl ?_
  refine C_obj X ml_X10_7 (Nat.le_of_ble_eq_true rfl) ⟨by rw [hR]; exact Nat.le_of_ble_eq_true rfl, by rw [hR]; exact Nat.le_of_ble_eq_true rfl⟩ dX10_init_1 ?_
  refine J_aload_n X dX10_init_4 (i := 0) rfl rfl ?_
  refine J_sipush X (v := (2000 : Int32)) dX10_init_5 (by decide) ?_
  refine C_newa X (atype := .byte) (ty := .byte) (c := 1) (len := 2000) (a0 := (2000, .inl (fun _ => 0))) (by omega) (fun _ => rfl) (fun U c1 c2 g1 g2 => Option.some.inj (g1.symm.trans g2)) (fun b cA S => by rw [ce_2 (show KD 141 = (2, 2000) by decide)]; simp [rwN, zI]) ac_byte rfl (fun _ => rfl) (by decide) (by decide) (by decide) ⟨by rw [hR]; exact Nat.le_of_ble_eq_true rfl, by rw [hR]; exact Nat.le_of_ble_eq_true rfl⟩ dX10_init_8 (fun S1 hS1 => ?_)
  have hρS1 : S1.2.2 = RHO := by rw [hS1]; exact hρ
  clear hS1
  refine C_putF X (kf := 1) cb10 (by decide) (by decide) (by decide) (by rw [hρS1]; decide) (by decide) fl_X10_13 (fun _ _ _ => rfl) rfl hin rfl (fun _ => rfl) (fun _ => rfl) dX10_init_10 ?_
  refine J_aload_n X dX10_init_13 (i := 0) rfl rfl ?_
  refine J_sipush X (v := (2000 : Int32)) dX10_init_14 (by decide) ?_
  refine C_newa X (atype := .byte) (ty := .byte) (c := 1) (len := 2000) (a0 := (2000, .inl (fun _ => 0))) (by omega) (fun _ => rfl) (fun U c1 c2 g1 g2 => Option.some.inj (g1.symm.trans g2)) (fun b cA S => by rw [ce_2 (show KD 142 = (2, 2000) by decide)]; simp [rwN, zI]) ac_byte rfl (fun _ => rfl) (by decide) (by decide) (by decide) ⟨by rw [hR]; exact Nat.le_of_ble_eq_true rfl, by rw [hR]; exact Nat.le_of_ble_eq_true rfl⟩ dX10_init_17 (fun S2 hS2 => ?_)
  have hρS2 : S2.2.2 = RHO := by rw [hS2]; exact hρS1
  clear hS2
  refine C_putF X (kf := 3) cb10 (by decide) (by decide) (by decide) (by rw [hρS2]; decide) (by decide) fl_X10_17 (fun _ _ _ => rfl) rfl hin rfl (fun _ => rfl) (fun _ => rfl) dX10_init_19 ?_
  refine J_aload_n X dX10_init_22 (i := 0) rfl rfl ?_
  refine J_sipush X (v := (403 : Int32)) dX10_init_23 (by decide) ?_
  refine C_newa X (atype := .int) (ty := .int) (c := 0) (len := 403) (a0 := (403, .inl (fun _ => 0))) (by omega) (fun _ => rfl) (fun U c1 c2 g1 g2 => Option.some.inj (g1.symm.trans g2)) (fun b cA S => by rw [ce_1 (show KD 143 = (1, 403) by decide)]; simp [rwN, zI]) ac_int rfl (fun _ => rfl) (by decide) (by decide) (by decide) ⟨by rw [hR]; exact Nat.le_of_ble_eq_true rfl, by rw [hR]; exact Nat.le_of_ble_eq_true rfl⟩ dX10_init_26 (fun S3 hS3 => ?_)
  have hρS3 : S3.2.2 = RHO := by rw [hS3]; exact hρS2
  clear hS3
  refine C_putF X (kf := 5) cb10 (by decide) (by decide) (by decide) (by rw [hρS3]; decide) (by decide) fl_X10_20 (fun _ _ _ => rfl) rfl hin rfl (fun _ => rfl) (fun _ => rfl) dX10_init_28 ?_
  refine J_aload_n X dX10_init_31 (i := 0) rfl rfl ?_
  refine J_sipush X (v := (403 : Int32)) dX10_init_32 (by decide) ?_
  refine C_newa X (atype := .int) (ty := .int) (c := 0) (len := 403) (a0 := (403, .inl (fun _ => 0))) (by omega) (fun _ => rfl) (fun U c1 c2 g1 g2 => Option.some.inj (g1.symm.trans g2)) (fun b cA S => by rw [ce_1 (show KD 144 = (1, 403) by decide)]; simp [rwN, zI]) ac_int rfl (fun _ => rfl) (by decide) (by decide) (by decide) ⟨by rw [hR]; exact Nat.le_of_ble_eq_true rfl, by rw [hR]; exact Nat.le_of_ble_eq_true rfl⟩ dX10_init_35 (fun S4 hS4 => ?_)
  have hρS4 : S4.2.2 = RHO := by rw [hS4]; exact hρS3
  clear hS4
  refine C_putF X (kf := 6) cb10 (by decide) (by decide) (by decide) (by rw [hρS4]; decide) (by decide) fl_X10_24 (fun _ _ _ => rfl) rfl hin rfl (fun _ => rfl) (fun _ => rfl) dX10_init_37 ?_
  refine J_aload_n X dX10_init_40 (i := 0) rfl rfl ?_
  refine J_sipush X (v := (403 : Int32)) dX10_init_41 (by decide) ?_
  refine C_newa X (atype := .int) (ty := .int) (c := 0) (len := 403) (a0 := (403, .inl (fun _ => 0))) (by omega) (fun _ => rfl) (fun U c1 c2 g1 g2 => Option.some.inj (g1.symm.trans g2)) (fun b cA S => by rw [ce_1 (show KD 145 = (1, 403) by decide)]; simp [rwN, zI]) ac_int rfl (fun _ => rfl) (by decide) (by decide) (by decide) ⟨by rw [hR]; exact Nat.le_of_ble_eq_true rfl, by rw [hR]; exact Nat.le_of_ble_eq_true rfl⟩ dX10_init_44 (fun S5 hS5 => ?_)
  have hρS5 : S5.2.2 = RHO := by rw [hS5]; exact hρS4
  clear hS5
  refine C_putF X (kf := 7) cb10 (by decide) (by decide) (by decide) (by rw [hρS5]; decide) (by decide) fl_X10_27 (fun _ _ _ => rfl) rfl hin rfl (fun _ => rfl) (fun _ => rfl) dX10_init_46 ?_
  refine J_aload_n X dX10_init_49 (i := 0) rfl rfl ?_
  refine J_sipush X (v := (403 : Int32)) dX10_init_50 (by decide) ?_
  refine C_newa X (atype := .long) (ty := .long) (c := 3) (len := 403) (a0 := (403, .inr (.inl (fun _ => 0)))) (by omega) (fun _ => rfl) (fun U c1 c2 g1 g2 => Option.some.inj (g1.symm.trans g2)) (fun b cA S => by rw [ce_4 (show KD 146 = (4, 403) by decide)]; simp [rwN, zI]) ac_long rfl (fun _ => rfl) (by decide) (by decide) (by decide) ⟨by rw [hR]; exact Nat.le_of_ble_eq_true rfl, by rw [hR]; exact Nat.le_of_ble_eq_true rfl⟩ dX10_init_53 (fun S6 hS6 => ?_)
  have hρS6 : S6.2.2 = RHO := by rw [hS6]; exact hρS5
  clear hS6
  refine C_putF X (kf := 8) cb10 (by decide) (by decide) (by decide) (by rw [hρS6]; decide) (by decide) fl_X10_30 (fun _ _ _ => rfl) rfl hin rfl (fun _ => rfl) (fun _ => rfl) dX10_init_55 ?_
  refine J_aload_n X dX10_init_58 (i := 0) rfl rfl ?_
  refine J_bipush X (v := (21 : Int32)) dX10_init_59 (by decide) ?_
  refine C_newa X (atype := .long) (ty := .long) (c := 3) (len := 21) (a0 := (21, .inr (.inl (fun _ => 0)))) (by omega) (fun _ => rfl) (fun U c1 c2 g1 g2 => Option.some.inj (g1.symm.trans g2)) (fun b cA S => by rw [ce_4 (show KD 147 = (4, 21) by decide)]; simp [rwN, zI]) ac_long rfl (fun _ => rfl) (by decide) (by decide) (by decide) ⟨by rw [hR]; exact Nat.le_of_ble_eq_true rfl, by rw [hR]; exact Nat.le_of_ble_eq_true rfl⟩ dX10_init_61 (fun S7 hS7 => ?_)
  have hρS7 : S7.2.2 = RHO := by rw [hS7]; exact hρS6
  clear hS7
  refine C_putF X (kf := 9) cb10 (by decide) (by decide) (by decide) (by rw [hρS7]; decide) (by decide) fl_X10_34 (fun _ _ _ => rfl) rfl hin rfl (fun _ => rfl) (fun _ => rfl) dX10_init_63 ?_
  refine J_aload_n X dX10_init_66 (i := 0) rfl rfl ?_
  refine J_iconst X (v := (-1 : Int32)) dX10_init_67 (by decide) ?_
  refine C_putI X (kf := 17) cb10 (by decide) (by decide) (by decide) fl_X10_37 (fun _ _ _ => rfl) rfl rfl rfl dX10_init_68 (fun S8 hS8 => ?_)
  have hρS8 : S8.2.2 = RHO := by rw [hS8]; exact hρS7
  clear hS8
  refine J_aload_n X dX10_init_71 (i := 0) rfl rfl ?_
  refine J_bipush X (v := (10 : Int32)) dX10_init_72 (by decide) ?_
  refine C_newa X (atype := .long) (ty := .long) (c := 3) (len := 10) (a0 := (10, .inr (.inl (fun _ => 0)))) (by omega) (fun _ => rfl) (fun U c1 c2 g1 g2 => Option.some.inj (g1.symm.trans g2)) (fun b cA S => by rw [ce_4 (show KD 148 = (4, 10) by decide)]; simp [rwN, zI]) ac_long rfl (fun _ => rfl) (by decide) (by decide) (by decide) ⟨by rw [hR]; exact Nat.le_of_ble_eq_true rfl, by rw [hR]; exact Nat.le_of_ble_eq_true rfl⟩ dX10_init_74 (fun S9 hS9 => ?_)
  have hρS9 : S9.2.2 = RHO := by rw [hS9]; exact hρS8
  clear hS9
  refine C_putF X (kf := 21) cb10 (by decide) (by decide) (by decide) (by rw [hρS9]; decide) (by decide) fl_X10_40 (fun _ _ _ => rfl) rfl hin rfl (fun _ => rfl) (fun _ => rfl) dX10_init_76 ?_
  refine J_aload_n X dX10_init_79 (i := 0) rfl rfl ?_
  refine J_bipush X (v := (10 : Int32)) dX10_init_80 (by decide) ?_
  refine C_newa X (atype := .int) (ty := .int) (c := 0) (len := 10) (a0 := (10, .inl (fun _ => 0))) (by omega) (fun _ => rfl) (fun U c1 c2 g1 g2 => Option.some.inj (g1.symm.trans g2)) (fun b cA S => by rw [ce_1 (show KD 149 = (1, 10) by decide)]; simp [rwN, zI]) ac_int rfl (fun _ => rfl) (by decide) (by decide) (by decide) ⟨by rw [hR]; exact Nat.le_of_ble_eq_true rfl, by rw [hR]; exact Nat.le_of_ble_eq_true rfl⟩ dX10_init_82 (fun S10 hS10 => ?_)
  have hρS10 : S10.2.2 = RHO := by rw [hS10]; exact hρS9
  clear hS10
  refine C_putF X (kf := 22) cb10 (by decide) (by decide) (by decide) (by rw [hρS10]; decide) (by decide) fl_X10_43 (fun _ _ _ => rfl) rfl hin rfl (fun _ => rfl) (fun _ => rfl) dX10_init_84 ?_
  refine J_aload_n X dX10_init_87 (i := 0) rfl rfl ?_
  refine J_iconst X (v := (2 : Int32)) dX10_init_88 (by decide) ?_
  refine C_newa X (atype := .int) (ty := .int) (c := 0) (len := 2) (a0 := (2, .inl (fun _ => 0))) (by omega) (fun _ => rfl) (fun U c1 c2 g1 g2 => Option.some.inj (g1.symm.trans g2)) (fun b cA S => by rw [ce_1 (show KD 150 = (1, 2) by decide)]; simp [rwN, zI]) ac_int rfl (fun _ => rfl) (by decide) (by decide) (by decide) ⟨by rw [hR]; exact Nat.le_of_ble_eq_true rfl, by rw [hR]; exact Nat.le_of_ble_eq_true rfl⟩ dX10_init_89 (fun S11 hS11 => ?_)
  have hρS11 : S11.2.2 = RHO := by rw [hS11]; exact hρS10
  clear hS11
  refine C_putF X (kf := 23) cb10 (by decide) (by decide) (by decide) (by rw [hρS11]; decide) (by decide) fl_X10_46 (fun _ _ _ => rfl) rfl hin rfl (fun _ => rfl) (fun _ => rfl) dX10_init_91 ?_
  refine J_aload_n X dX10_init_94 (i := 0) rfl rfl ?_
  refine J_bipush X (v := (32 : Int32)) dX10_init_95 (by decide) ?_
  refine C_newa X (atype := .int) (ty := .int) (c := 0) (len := 32) (a0 := (32, .inl (fun _ => 0))) (by omega) (fun _ => rfl) (fun U c1 c2 g1 g2 => Option.some.inj (g1.symm.trans g2)) (fun b cA S => by rw [ce_1 (show KD 151 = (1, 32) by decide)]; simp [rwN, zI]) ac_int rfl (fun _ => rfl) (by decide) (by decide) (by decide) ⟨by rw [hR]; exact Nat.le_of_ble_eq_true rfl, by rw [hR]; exact Nat.le_of_ble_eq_true rfl⟩ dX10_init_97 (fun S12 hS12 => ?_)
  have hρS12 : S12.2.2 = RHO := by rw [hS12]; exact hρS11
  clear hS12
  refine C_putF X (kf := 24) cb10 (by decide) (by decide) (by decide) (by rw [hρS12]; decide) (by decide) fl_X10_49 (fun _ _ _ => rfl) rfl hin rfl (fun _ => rfl) (fun _ => rfl) dX10_init_99 ?_
  refine J_aload_n X dX10_init_102 (i := 0) rfl rfl ?_
  refine J_iconst X (v := (2 : Int32)) dX10_init_103 (by decide) ?_
  refine C_newa X (atype := .int) (ty := .int) (c := 0) (len := 2) (a0 := (2, .inl (fun _ => 0))) (by omega) (fun _ => rfl) (fun U c1 c2 g1 g2 => Option.some.inj (g1.symm.trans g2)) (fun b cA S => by rw [ce_1 (show KD 152 = (1, 2) by decide)]; simp [rwN, zI]) ac_int rfl (fun _ => rfl) (by decide) (by decide) (by decide) ⟨by rw [hR]; exact Nat.le_of_ble_eq_true rfl, by rw [hR]; exact Nat.le_of_ble_eq_true rfl⟩ dX10_init_104 (fun S13 hS13 => ?_)
  have hρS13 : S13.2.2 = RHO := by rw [hS13]; exact hρS12
  clear hS13
  refine C_putF X (kf := 25) cb10 (by decide) (by decide) (by decide) (by rw [hρS13]; decide) (by decide) fl_X10_52 (fun _ _ _ => rfl) rfl hin rfl (fun _ => rfl) (fun _ => rfl) dX10_init_106 ?_
  refine J_aload_n X dX10_init_109 (i := 0) rfl rfl ?_
  refine J_bipush X (v := (12 : Int32)) dX10_init_110 (by decide) ?_
  refine C_newa X (atype := .int) (ty := .int) (c := 0) (len := 12) (a0 := (12, .inl (fun _ => 0))) (by omega) (fun _ => rfl) (fun U c1 c2 g1 g2 => Option.some.inj (g1.symm.trans g2)) (fun b cA S => by rw [ce_1 (show KD 153 = (1, 12) by decide)]; simp [rwN, zI]) ac_int rfl (fun _ => rfl) (by decide) (by decide) (by decide) ⟨by rw [hR]; exact Nat.le_of_ble_eq_true rfl, by rw [hR]; exact Nat.le_of_ble_eq_true rfl⟩ dX10_init_112 (fun S14 hS14 => ?_)
  have hρS14 : S14.2.2 = RHO := by rw [hS14]; exact hρS13
  clear hS14
  refine C_putF X (kf := 26) cb10 (by decide) (by decide) (by decide) (by rw [hρS14]; decide) (by decide) fl_X10_55 (fun _ _ _ => rfl) rfl hin rfl (fun _ => rfl) (fun _ => rfl) dX10_init_114 ?_
  refine J_aload_n X dX10_init_117 (i := 0) rfl rfl ?_
  refine J_bipush X (v := (12 : Int32)) dX10_init_118 (by decide) ?_
  refine C_newa X (atype := .int) (ty := .int) (c := 0) (len := 12) (a0 := (12, .inl (fun _ => 0))) (by omega) (fun _ => rfl) (fun U c1 c2 g1 g2 => Option.some.inj (g1.symm.trans g2)) (fun b cA S => by rw [ce_1 (show KD 154 = (1, 12) by decide)]; simp [rwN, zI]) ac_int rfl (fun _ => rfl) (by decide) (by decide) (by decide) ⟨by rw [hR]; exact Nat.le_of_ble_eq_true rfl, by rw [hR]; exact Nat.le_of_ble_eq_true rfl⟩ dX10_init_120 (fun S15 hS15 => ?_)
  have hρS15 : S15.2.2 = RHO := by rw [hS15]; exact hρS14
  clear hS15
  refine C_putF X (kf := 27) cb10 (by decide) (by decide) (by decide) (by rw [hρS15]; decide) (by decide) fl_X10_58 (fun _ _ _ => rfl) rfl hin rfl (fun _ => rfl) (fun _ => rfl) dX10_init_122 ?_
  refine J_aload_n X dX10_init_125 (i := 0) rfl rfl ?_
  refine J_bipush X (v := (12 : Int32)) dX10_init_126 (by decide) ?_
  refine C_newa X (atype := .int) (ty := .int) (c := 0) (len := 12) (a0 := (12, .inl (fun _ => 0))) (by omega) (fun _ => rfl) (fun U c1 c2 g1 g2 => Option.some.inj (g1.symm.trans g2)) (fun b cA S => by rw [ce_1 (show KD 155 = (1, 12) by decide)]; simp [rwN, zI]) ac_int rfl (fun _ => rfl) (by decide) (by decide) (by decide) ⟨by rw [hR]; exact Nat.le_of_ble_eq_true rfl, by rw [hR]; exact Nat.le_of_ble_eq_true rfl⟩ dX10_init_128 (fun S16 hS16 => ?_)
  have hρS16 : S16.2.2 = RHO := by rw [hS16]; exact hρS15
  clear hS16
  refine C_putF X (kf := 28) cb10 (by decide) (by decide) (by decide) (by rw [hρS16]; decide) (by decide) fl_X10_61 (fun _ _ _ => rfl) rfl hin rfl (fun _ => rfl) (fun _ => rfl) dX10_init_130 ?_
  refine J_aload_n X dX10_init_133 (i := 0) rfl rfl ?_
  refine J_iconst X (v := (2 : Int32)) dX10_init_134 (by decide) ?_
  refine C_newa X (atype := .int) (ty := .int) (c := 0) (len := 2) (a0 := (2, .inl (fun _ => 0))) (by omega) (fun _ => rfl) (fun U c1 c2 g1 g2 => Option.some.inj (g1.symm.trans g2)) (fun b cA S => by rw [ce_1 (show KD 156 = (1, 2) by decide)]; simp [rwN, zI]) ac_int rfl (fun _ => rfl) (by decide) (by decide) (by decide) ⟨by rw [hR]; exact Nat.le_of_ble_eq_true rfl, by rw [hR]; exact Nat.le_of_ble_eq_true rfl⟩ dX10_init_135 (fun S17 hS17 => ?_)
  have hρS17 : S17.2.2 = RHO := by rw [hS17]; exact hρS16
  clear hS17
  refine C_putF X (kf := 29) cb10 (by decide) (by decide) (by decide) (by rw [hρS17]; decide) (by decide) fl_X10_64 (fun _ _ _ => rfl) rfl hin rfl (fun _ => rfl) (fun _ => rfl) dX10_init_137 ?_
  refine J_aload_n X dX10_init_140 (i := 0) rfl rfl ?_
  refine J_bipush X (v := (16 : Int32)) dX10_init_141 (by decide) ?_
  refine C_newa X (atype := .int) (ty := .int) (c := 0) (len := 16) (a0 := (16, .inl (fun _ => 0))) (by omega) (fun _ => rfl) (fun U c1 c2 g1 g2 => Option.some.inj (g1.symm.trans g2)) (fun b cA S => by rw [ce_1 (show KD 157 = (1, 16) by decide)]; simp [rwN, zI]) ac_int rfl (fun _ => rfl) (by decide) (by decide) (by decide) ⟨by rw [hR]; exact Nat.le_of_ble_eq_true rfl, by rw [hR]; exact Nat.le_of_ble_eq_true rfl⟩ dX10_init_143 (fun S18 hS18 => ?_)
  have hρS18 : S18.2.2 = RHO := by rw [hS18]; exact hρS17
  clear hS18
  refine C_putF X (kf := 30) cb10 (by decide) (by decide) (by decide) (by rw [hρS18]; decide) (by decide) fl_X10_67 (fun _ _ _ => rfl) rfl hin rfl (fun _ => rfl) (fun _ => rfl) dX10_init_145 ?_
  refine J_aload_n X dX10_init_148 (i := 0) rfl rfl ?_
  refine J_bipush X (v := (16 : Int32)) dX10_init_149 (by decide) ?_
  refine C_newa X (atype := .int) (ty := .int) (c := 0) (len := 16) (a0 := (16, .inl (fun _ => 0))) (by omega) (fun _ => rfl) (fun U c1 c2 g1 g2 => Option.some.inj (g1.symm.trans g2)) (fun b cA S => by rw [ce_1 (show KD 158 = (1, 16) by decide)]; simp [rwN, zI]) ac_int rfl (fun _ => rfl) (by decide) (by decide) (by decide) ⟨by rw [hR]; exact Nat.le_of_ble_eq_true rfl, by rw [hR]; exact Nat.le_of_ble_eq_true rfl⟩ dX10_init_151 (fun S19 hS19 => ?_)
  have hρS19 : S19.2.2 = RHO := by rw [hS19]; exact hρS18
  clear hS19
  refine C_putF X (kf := 31) cb10 (by decide) (by decide) (by decide) (by rw [hρS19]; decide) (by decide) fl_X10_70 (fun _ _ _ => rfl) rfl hin rfl (fun _ => rfl) (fun _ => rfl) dX10_init_153 ?_
  refine J_aload_n X dX10_init_156 (i := 0) rfl rfl ?_
  refine J_bipush X (v := (16 : Int32)) dX10_init_157 (by decide) ?_
  refine C_newa X (atype := .int) (ty := .int) (c := 0) (len := 16) (a0 := (16, .inl (fun _ => 0))) (by omega) (fun _ => rfl) (fun U c1 c2 g1 g2 => Option.some.inj (g1.symm.trans g2)) (fun b cA S => by rw [ce_1 (show KD 159 = (1, 16) by decide)]; simp [rwN, zI]) ac_int rfl (fun _ => rfl) (by decide) (by decide) (by decide) ⟨by rw [hR]; exact Nat.le_of_ble_eq_true rfl, by rw [hR]; exact Nat.le_of_ble_eq_true rfl⟩ dX10_init_159 (fun S20 hS20 => ?_)
  have hρS20 : S20.2.2 = RHO := by rw [hS20]; exact hρS19
  clear hS20
  refine C_putF X (kf := 32) cb10 (by decide) (by decide) (by decide) (by rw [hρS20]; decide) (by decide) fl_X10_73 (fun _ _ _ => rfl) rfl hin rfl (fun _ => rfl) (fun _ => rfl) dX10_init_161 ?_
  refine J_aload_n X dX10_init_164 (i := 0) rfl rfl ?_
  refine J_iconst X (v := (2 : Int32)) dX10_init_165 (by decide) ?_
  refine C_newa X (atype := .int) (ty := .int) (c := 0) (len := 2) (a0 := (2, .inl (fun _ => 0))) (by omega) (fun _ => rfl) (fun U c1 c2 g1 g2 => Option.some.inj (g1.symm.trans g2)) (fun b cA S => by rw [ce_1 (show KD 160 = (1, 2) by decide)]; simp [rwN, zI]) ac_int rfl (fun _ => rfl) (by decide) (by decide) (by decide) ⟨by rw [hR]; exact Nat.le_of_ble_eq_true rfl, by rw [hR]; exact Nat.le_of_ble_eq_true rfl⟩ dX10_init_166 (fun S21 hS21 => ?_)
  have hρS21 : S21.2.2 = RHO := by rw [hS21]; exact hρS20
  clear hS21
  refine C_putF X (kf := 33) cb10 (by decide) (by decide) (by decide) (by rw [hρS21]; decide) (by decide) fl_X10_76 (fun _ _ _ => rfl) rfl hin rfl (fun _ => rfl) (fun _ => rfl) dX10_init_168 ?_
  refine J_aload_n X dX10_init_171 (i := 0) rfl rfl ?_
  refine J_iconst X (v := (2 : Int32)) dX10_init_172 (by decide) ?_
  refine C_newa X (atype := .int) (ty := .int) (c := 0) (len := 2) (a0 := (2, .inl (fun _ => 0))) (by omega) (fun _ => rfl) (fun U c1 c2 g1 g2 => Option.some.inj (g1.symm.trans g2)) (fun b cA S => by rw [ce_1 (show KD 161 = (1, 2) by decide)]; simp [rwN, zI]) ac_int rfl (fun _ => rfl) (by decide) (by decide) (by decide) ⟨by rw [hR]; exact Nat.le_of_ble_eq_true rfl, by rw [hR]; exact Nat.le_of_ble_eq_true rfl⟩ dX10_init_173 (fun S22 hS22 => ?_)
  have hρS22 : S22.2.2 = RHO := by rw [hS22]; exact hρS21
  clear hS22
  refine C_putF X (kf := 34) cb10 (by decide) (by decide) (by decide) (by rw [hρS22]; decide) (by decide) fl_X10_79 (fun _ _ _ => rfl) rfl hin rfl (fun _ => rfl) (fun _ => rfl) dX10_init_175 ?_
  refine J_aload_n X dX10_init_178 (i := 0) rfl rfl ?_
  refine J_bipush X (v := (8 : Int32)) dX10_init_179 (by decide) ?_
  refine C_newa X (atype := .int) (ty := .int) (c := 0) (len := 8) (a0 := (8, .inl (fun _ => 0))) (by omega) (fun _ => rfl) (fun U c1 c2 g1 g2 => Option.some.inj (g1.symm.trans g2)) (fun b cA S => by rw [ce_1 (show KD 162 = (1, 8) by decide)]; simp [rwN, zI]) ac_int rfl (fun _ => rfl) (by decide) (by decide) (by decide) ⟨by rw [hR]; exact Nat.le_of_ble_eq_true rfl, by rw [hR]; exact Nat.le_of_ble_eq_true rfl⟩ dX10_init_181 (fun S23 hS23 => ?_)
  have hρS23 : S23.2.2 = RHO := by rw [hS23]; exact hρS22
  clear hS23
  refine C_putF X (kf := 35) cb10 (by decide) (by decide) (by decide) (by rw [hρS23]; decide) (by decide) fl_X10_82 (fun _ _ _ => rfl) rfl hin rfl (fun _ => rfl) (fun _ => rfl) dX10_init_183 ?_
  refine J_aload_n X dX10_init_186 (i := 0) rfl rfl ?_
  refine J_bipush X (v := (8 : Int32)) dX10_init_187 (by decide) ?_
  refine C_newa X (atype := .int) (ty := .int) (c := 0) (len := 8) (a0 := (8, .inl (fun _ => 0))) (by omega) (fun _ => rfl) (fun U c1 c2 g1 g2 => Option.some.inj (g1.symm.trans g2)) (fun b cA S => by rw [ce_1 (show KD 163 = (1, 8) by decide)]; simp [rwN, zI]) ac_int rfl (fun _ => rfl) (by decide) (by decide) (by decide) ⟨by rw [hR]; exact Nat.le_of_ble_eq_true rfl, by rw [hR]; exact Nat.le_of_ble_eq_true rfl⟩ dX10_init_189 (fun S24 hS24 => ?_)
  have hρS24 : S24.2.2 = RHO := by rw [hS24]; exact hρS23
  clear hS24
  refine C_putF X (kf := 36) cb10 (by decide) (by decide) (by decide) (by rw [hρS24]; decide) (by decide) fl_X10_85 (fun _ _ _ => rfl) rfl hin rfl (fun _ => rfl) (fun _ => rfl) dX10_init_191 ?_
  refine J_aload_n X dX10_init_194 (i := 0) rfl rfl ?_
  refine J_sipush X (v := (260 : Int32)) dX10_init_195 (by decide) ?_
  refine C_newa X (atype := .boolean) (ty := .boolean) (c := 2) (len := 260) (a0 := (260, .inl (fun _ => 0))) (by omega) (fun _ => rfl) (fun U c1 c2 g1 g2 => Option.some.inj (g1.symm.trans g2)) (fun b cA S => by rw [ce_3 (show KD 164 = (3, 260) by decide)]; simp [rwN, zI]) ac_boolean rfl (fun _ => rfl) (by decide) (by decide) (by decide) ⟨by rw [hR]; exact Nat.le_of_ble_eq_true rfl, by rw [hR]; exact Nat.le_of_ble_eq_true rfl⟩ dX10_init_198 (fun S25 hS25 => ?_)
  have hρS25 : S25.2.2 = RHO := by rw [hS25]; exact hρS24
  clear hS25
  refine C_putF X (kf := 38) cb10 (by decide) (by decide) (by decide) (by rw [hρS25]; decide) (by decide) fl_X10_88 (fun _ _ _ => rfl) rfl hin rfl (fun _ => rfl) (fun _ => rfl) dX10_init_200 ?_
  refine J_aload_n X dX10_init_203 (i := 0) rfl rfl ?_
  refine J_sipush X (v := (260 : Int32)) dX10_init_204 (by decide) ?_
  refine C_newa X (atype := .int) (ty := .int) (c := 0) (len := 260) (a0 := (260, .inl (fun _ => 0))) (by omega) (fun _ => rfl) (fun U c1 c2 g1 g2 => Option.some.inj (g1.symm.trans g2)) (fun b cA S => by rw [ce_1 (show KD 165 = (1, 260) by decide)]; simp [rwN, zI]) ac_int rfl (fun _ => rfl) (by decide) (by decide) (by decide) ⟨by rw [hR]; exact Nat.le_of_ble_eq_true rfl, by rw [hR]; exact Nat.le_of_ble_eq_true rfl⟩ dX10_init_207 (fun S26 hS26 => ?_)
  have hρS26 : S26.2.2 = RHO := by rw [hS26]; exact hρS25
  clear hS26
  refine C_putF X (kf := 39) cb10 (by decide) (by decide) (by decide) (by rw [hρS26]; decide) (by decide) fl_X10_92 (fun _ _ _ => rfl) rfl hin rfl (fun _ => rfl) (fun _ => rfl) dX10_init_209 ?_
  refine J_aload_n X dX10_init_212 (i := 0) rfl rfl ?_
  refine J_sipush X (v := (260 : Int32)) dX10_init_213 (by decide) ?_
  refine C_newa X (atype := .int) (ty := .int) (c := 0) (len := 260) (a0 := (260, .inl (fun _ => 0))) (by omega) (fun _ => rfl) (fun U c1 c2 g1 g2 => Option.some.inj (g1.symm.trans g2)) (fun b cA S => by rw [ce_1 (show KD 166 = (1, 260) by decide)]; simp [rwN, zI]) ac_int rfl (fun _ => rfl) (by decide) (by decide) (by decide) ⟨by rw [hR]; exact Nat.le_of_ble_eq_true rfl, by rw [hR]; exact Nat.le_of_ble_eq_true rfl⟩ dX10_init_216 (fun S27 hS27 => ?_)
  have hρS27 : S27.2.2 = RHO := by rw [hS27]; exact hρS26
  clear hS27
  refine C_putF X (kf := 40) cb10 (by decide) (by decide) (by decide) (by rw [hρS27]; decide) (by decide) fl_X10_95 (fun _ _ _ => rfl) rfl hin rfl (fun _ => rfl) (fun _ => rfl) dX10_init_218 ?_
  refine J_aload_n X dX10_init_221 (i := 0) rfl rfl ?_
  refine J_sipush X (v := (260 : Int32)) dX10_init_222 (by decide) ?_
  refine C_newa X (atype := .int) (ty := .int) (c := 0) (len := 260) (a0 := (260, .inl (fun _ => 0))) (by omega) (fun _ => rfl) (fun U c1 c2 g1 g2 => Option.some.inj (g1.symm.trans g2)) (fun b cA S => by rw [ce_1 (show KD 167 = (1, 260) by decide)]; simp [rwN, zI]) ac_int rfl (fun _ => rfl) (by decide) (by decide) (by decide) ⟨by rw [hR]; exact Nat.le_of_ble_eq_true rfl, by rw [hR]; exact Nat.le_of_ble_eq_true rfl⟩ dX10_init_225 (fun S28 hS28 => ?_)
  have hρS28 : S28.2.2 = RHO := by rw [hS28]; exact hρS27
  clear hS28
  refine C_putF X (kf := 41) cb10 (by decide) (by decide) (by decide) (by rw [hρS28]; decide) (by decide) fl_X10_98 (fun _ _ _ => rfl) rfl hin rfl (fun _ => rfl) (fun _ => rfl) dX10_init_227 ?_
  refine J_aload_n X dX10_init_230 (i := 0) rfl rfl ?_
  refine J_sipush X (v := (260 : Int32)) dX10_init_231 (by decide) ?_
  refine C_newa X (atype := .int) (ty := .int) (c := 0) (len := 260) (a0 := (260, .inl (fun _ => 0))) (by omega) (fun _ => rfl) (fun U c1 c2 g1 g2 => Option.some.inj (g1.symm.trans g2)) (fun b cA S => by rw [ce_1 (show KD 168 = (1, 260) by decide)]; simp [rwN, zI]) ac_int rfl (fun _ => rfl) (by decide) (by decide) (by decide) ⟨by rw [hR]; exact Nat.le_of_ble_eq_true rfl, by rw [hR]; exact Nat.le_of_ble_eq_true rfl⟩ dX10_init_234 (fun S29 hS29 => ?_)
  have hρS29 : S29.2.2 = RHO := by rw [hS29]; exact hρS28
  clear hS29
  refine C_putF X (kf := 42) cb10 (by decide) (by decide) (by decide) (by rw [hρS29]; decide) (by decide) fl_X10_101 (fun _ _ _ => rfl) rfl hin rfl (fun _ => rfl) (fun _ => rfl) dX10_init_236 ?_
  refine J_aload_n X dX10_init_239 (i := 0) rfl rfl ?_
  refine J_sipush X (v := (840 : Int32)) dX10_init_240 (by decide) ?_
  refine C_newa X (atype := .int) (ty := .int) (c := 0) (len := 840) (a0 := (840, .inl (fun _ => 0))) (by omega) (fun _ => rfl) (fun U c1 c2 g1 g2 => Option.some.inj (g1.symm.trans g2)) (fun b cA S => by rw [ce_1 (show KD 169 = (1, 840) by decide)]; simp [rwN, zI]) ac_int rfl (fun _ => rfl) (by decide) (by decide) (by decide) ⟨by rw [hR]; exact Nat.le_of_ble_eq_true rfl, by rw [hR]; exact Nat.le_of_ble_eq_true rfl⟩ dX10_init_243 (fun S30 hS30 => ?_)
  have hρS30 : S30.2.2 = RHO := by rw [hS30]; exact hρS29
  clear hS30
  refine C_putF X (kf := 44) cb10 (by decide) (by decide) (by decide) (by rw [hρS30]; decide) (by decide) fl_X10_104 (fun _ _ _ => rfl) rfl hin rfl (fun _ => rfl) (fun _ => rfl) dX10_init_245 ?_
  refine J_aload_n X dX10_init_248 (i := 0) rfl rfl ?_
  refine J_sipush X (v := (840 : Int32)) dX10_init_249 (by decide) ?_
  refine C_newa X (atype := .int) (ty := .int) (c := 0) (len := 840) (a0 := (840, .inl (fun _ => 0))) (by omega) (fun _ => rfl) (fun U c1 c2 g1 g2 => Option.some.inj (g1.symm.trans g2)) (fun b cA S => by rw [ce_1 (show KD 170 = (1, 840) by decide)]; simp [rwN, zI]) ac_int rfl (fun _ => rfl) (by decide) (by decide) (by decide) ⟨by rw [hR]; exact Nat.le_of_ble_eq_true rfl, by rw [hR]; exact Nat.le_of_ble_eq_true rfl⟩ dX10_init_252 (fun S31 hS31 => ?_)
  have hρS31 : S31.2.2 = RHO := by rw [hS31]; exact hρS30
  clear hS31
  refine C_putF X (kf := 45) cb10 (by decide) (by decide) (by decide) (by rw [hρS31]; decide) (by decide) fl_X10_107 (fun _ _ _ => rfl) rfl hin rfl (fun _ => rfl) (fun _ => rfl) dX10_init_254 ?_
  refine J_aload_n X dX10_init_257 (i := 0) rfl rfl ?_
  refine J_bipush X (v := (64 : Int32)) dX10_init_258 (by decide) ?_
  refine C_newa X (atype := .int) (ty := .int) (c := 0) (len := 64) (a0 := (64, .inl (fun _ => 0))) (by omega) (fun _ => rfl) (fun U c1 c2 g1 g2 => Option.some.inj (g1.symm.trans g2)) (fun b cA S => by rw [ce_1 (show KD 171 = (1, 64) by decide)]; simp [rwN, zI]) ac_int rfl (fun _ => rfl) (by decide) (by decide) (by decide) ⟨by rw [hR]; exact Nat.le_of_ble_eq_true rfl, by rw [hR]; exact Nat.le_of_ble_eq_true rfl⟩ dX10_init_260 (fun S32 hS32 => ?_)
  have hρS32 : S32.2.2 = RHO := by rw [hS32]; exact hρS31
  clear hS32
  refine C_putF X (kf := 46) cb10 (by decide) (by decide) (by decide) (by rw [hρS32]; decide) (by decide) fl_X10_110 (fun _ _ _ => rfl) rfl hin rfl (fun _ => rfl) (fun _ => rfl) dX10_init_262 ?_
  refine J_aload_n X dX10_init_265 (i := 0) rfl rfl ?_
  refine J_bipush X (v := (9 : Int32)) dX10_init_266 (by decide) ?_
  refine C_newa X (atype := .int) (ty := .int) (c := 0) (len := 9) (a0 := (9, .inl (fun _ => 0))) (by omega) (fun _ => rfl) (fun U c1 c2 g1 g2 => Option.some.inj (g1.symm.trans g2)) (fun b cA S => by rw [ce_1 (show KD 172 = (1, 9) by decide)]; simp [rwN, zI]) ac_int rfl (fun _ => rfl) (by decide) (by decide) (by decide) ⟨by rw [hR]; exact Nat.le_of_ble_eq_true rfl, by rw [hR]; exact Nat.le_of_ble_eq_true rfl⟩ dX10_init_268 (fun S33 hS33 => ?_)
  have hρS33 : S33.2.2 = RHO := by rw [hS33]; exact hρS32
  clear hS33
  refine C_putF X (kf := 48) cb10 (by decide) (by decide) (by decide) (by rw [hρS33]; decide) (by decide) fl_X10_113 (fun _ _ _ => rfl) rfl hin rfl (fun _ => rfl) (fun _ => rfl) dX10_init_270 ?_
  refine J_aload_n X dX10_init_273 (i := 0) rfl rfl ?_
  refine J_sipush X (v := (400 : Int32)) dX10_init_274 (by decide) ?_
  refine C_newa X (atype := .int) (ty := .int) (c := 0) (len := 400) (a0 := (400, .inl (fun _ => 0))) (by omega) (fun _ => rfl) (fun U c1 c2 g1 g2 => Option.some.inj (g1.symm.trans g2)) (fun b cA S => by rw [ce_1 (show KD 173 = (1, 400) by decide)]; simp [rwN, zI]) ac_int rfl (fun _ => rfl) (by decide) (by decide) (by decide) ⟨by rw [hR]; exact Nat.le_of_ble_eq_true rfl, by rw [hR]; exact Nat.le_of_ble_eq_true rfl⟩ dX10_init_277 (fun S34 hS34 => ?_)
  have hρS34 : S34.2.2 = RHO := by rw [hS34]; exact hρS33
  clear hS34
  refine C_putF X (kf := 49) cb10 (by decide) (by decide) (by decide) (by rw [hρS34]; decide) (by decide) fl_X10_116 (fun _ _ _ => rfl) rfl hin rfl (fun _ => rfl) (fun _ => rfl) dX10_init_279 ?_
  refine J_aload_n X dX10_init_282 (i := 0) rfl rfl ?_
  refine J_bipush X (v := (55 : Int32)) dX10_init_283 (by decide) ?_
  refine C_newa X (atype := .int) (ty := .int) (c := 0) (len := 55) (a0 := (55, .inl (fun _ => 0))) (by omega) (fun _ => rfl) (fun U c1 c2 g1 g2 => Option.some.inj (g1.symm.trans g2)) (fun b cA S => by rw [ce_1 (show KD 174 = (1, 55) by decide)]; simp [rwN, zI]) ac_int rfl (fun _ => rfl) (by decide) (by decide) (by decide) ⟨by rw [hR]; exact Nat.le_of_ble_eq_true rfl, by rw [hR]; exact Nat.le_of_ble_eq_true rfl⟩ dX10_init_285 (fun S35 hS35 => ?_)
  have hρS35 : S35.2.2 = RHO := by rw [hS35]; exact hρS34
  clear hS35
  refine C_putF X (kf := 51) cb10 (by decide) (by decide) (by decide) (by rw [hρS35]; decide) (by decide) fl_X10_119 (fun _ _ _ => rfl) rfl hin rfl (fun _ => rfl) (fun _ => rfl) dX10_init_287 ?_
  refine J_aload_n X dX10_init_290 (i := 0) rfl rfl ?_
  refine J_bipush X (v := (55 : Int32)) dX10_init_291 (by decide) ?_
  refine C_newa X (atype := .int) (ty := .int) (c := 0) (len := 55) (a0 := (55, .inl (fun _ => 0))) (by omega) (fun _ => rfl) (fun U c1 c2 g1 g2 => Option.some.inj (g1.symm.trans g2)) (fun b cA S => by rw [ce_1 (show KD 175 = (1, 55) by decide)]; simp [rwN, zI]) ac_int rfl (fun _ => rfl) (by decide) (by decide) (by decide) ⟨by rw [hR]; exact Nat.le_of_ble_eq_true rfl, by rw [hR]; exact Nat.le_of_ble_eq_true rfl⟩ dX10_init_293 (fun S36 hS36 => ?_)
  have hρS36 : S36.2.2 = RHO := by rw [hS36]; exact hρS35
  clear hS36
  refine C_putF X (kf := 52) cb10 (by decide) (by decide) (by decide) (by rw [hρS36]; decide) (by decide) fl_X10_122 (fun _ _ _ => rfl) rfl hin rfl (fun _ => rfl) (fun _ => rfl) dX10_init_295 ?_
  refine J_aload_n X dX10_init_298 (i := 0) rfl rfl ?_
  refine J_bipush X (v := (6 : Int32)) dX10_init_299 (by decide) ?_
  refine C_newa X (atype := .boolean) (ty := .boolean) (c := 2) (len := 6) (a0 := (6, .inl (fun _ => 0))) (by omega) (fun _ => rfl) (fun U c1 c2 g1 g2 => Option.some.inj (g1.symm.trans g2)) (fun b cA S => by rw [ce_3 (show KD 176 = (3, 6) by decide)]; simp [rwN, zI]) ac_boolean rfl (fun _ => rfl) (by decide) (by decide) (by decide) ⟨by rw [hR]; exact Nat.le_of_ble_eq_true rfl, by rw [hR]; exact Nat.le_of_ble_eq_true rfl⟩ dX10_init_301 (fun S37 hS37 => ?_)
  have hρS37 : S37.2.2 = RHO := by rw [hS37]; exact hρS36
  clear hS37
  refine C_putF X (kf := 57) cb10 (by decide) (by decide) (by decide) (by rw [hρS37]; decide) (by decide) fl_X10_125 (fun _ _ _ => rfl) rfl hin rfl (fun _ => rfl) (fun _ => rfl) dX10_init_303 ?_
  refine J_aload_n X dX10_init_306 (i := 0) rfl rfl ?_
  refine J_bipush X (v := (6 : Int32)) dX10_init_307 (by decide) ?_
  refine C_newa X (atype := .int) (ty := .int) (c := 0) (len := 6) (a0 := (6, .inl (fun _ => 0))) (by omega) (fun _ => rfl) (fun U c1 c2 g1 g2 => Option.some.inj (g1.symm.trans g2)) (fun b cA S => by rw [ce_1 (show KD 177 = (1, 6) by decide)]; simp [rwN, zI]) ac_int rfl (fun _ => rfl) (by decide) (by decide) (by decide) ⟨by rw [hR]; exact Nat.le_of_ble_eq_true rfl, by rw [hR]; exact Nat.le_of_ble_eq_true rfl⟩ dX10_init_309 (fun S38 hS38 => ?_)
  have hρS38 : S38.2.2 = RHO := by rw [hS38]; exact hρS37
  clear hS38
  refine C_putF X (kf := 58) cb10 (by decide) (by decide) (by decide) (by rw [hρS38]; decide) (by decide) fl_X10_128 (fun _ _ _ => rfl) rfl hin rfl (fun _ => rfl) (fun _ => rfl) dX10_init_311 ?_
  refine J_aload_n X dX10_init_314 (i := 0) rfl rfl ?_
  refine J_bipush X (v := (6 : Int32)) dX10_init_315 (by decide) ?_
  refine C_newa X (atype := .int) (ty := .int) (c := 0) (len := 6) (a0 := (6, .inl (fun _ => 0))) (by omega) (fun _ => rfl) (fun U c1 c2 g1 g2 => Option.some.inj (g1.symm.trans g2)) (fun b cA S => by rw [ce_1 (show KD 178 = (1, 6) by decide)]; simp [rwN, zI]) ac_int rfl (fun _ => rfl) (by decide) (by decide) (by decide) ⟨by rw [hR]; exact Nat.le_of_ble_eq_true rfl, by rw [hR]; exact Nat.le_of_ble_eq_true rfl⟩ dX10_init_317 (fun S39 hS39 => ?_)
  have hρS39 : S39.2.2 = RHO := by rw [hS39]; exact hρS38
  clear hS39
  refine C_putF X (kf := 59) cb10 (by decide) (by decide) (by decide) (by rw [hρS39]; decide) (by decide) fl_X10_131 (fun _ _ _ => rfl) rfl hin rfl (fun _ => rfl) (fun _ => rfl) dX10_init_319 ?_
  refine J_aload_n X dX10_init_322 (i := 0) rfl rfl ?_
  refine J_bipush X (v := (6 : Int32)) dX10_init_323 (by decide) ?_
  refine C_newa X (atype := .boolean) (ty := .boolean) (c := 2) (len := 6) (a0 := (6, .inl (fun _ => 0))) (by omega) (fun _ => rfl) (fun U c1 c2 g1 g2 => Option.some.inj (g1.symm.trans g2)) (fun b cA S => by rw [ce_3 (show KD 179 = (3, 6) by decide)]; simp [rwN, zI]) ac_boolean rfl (fun _ => rfl) (by decide) (by decide) (by decide) ⟨by rw [hR]; exact Nat.le_of_ble_eq_true rfl, by rw [hR]; exact Nat.le_of_ble_eq_true rfl⟩ dX10_init_325 (fun S40 hS40 => ?_)
  have hρS40 : S40.2.2 = RHO := by rw [hS40]; exact hρS39
  clear hS40
  refine C_putF X (kf := 60) cb10 (by decide) (by decide) (by decide) (by rw [hρS40]; decide) (by decide) fl_X10_134 (fun _ _ _ => rfl) rfl hin rfl (fun _ => rfl) (fun _ => rfl) dX10_init_327 ?_
  refine J_aload_n X dX10_init_330 (i := 0) rfl rfl ?_
  refine J_sipush X (v := (2200 : Int32)) dX10_init_331 (by decide) ?_
  refine C_newa X (atype := .int) (ty := .int) (c := 0) (len := 2200) (a0 := (2200, .inl (fun _ => 0))) (by omega) (fun _ => rfl) (fun U c1 c2 g1 g2 => Option.some.inj (g1.symm.trans g2)) (fun b cA S => by rw [ce_1 (show KD 180 = (1, 2200) by decide)]; simp [rwN, zI]) ac_int rfl (fun _ => rfl) (by decide) (by decide) (by decide) ⟨by rw [hR]; exact Nat.le_of_ble_eq_true rfl, by rw [hR]; exact Nat.le_of_ble_eq_true rfl⟩ dX10_init_334 (fun S41 hS41 => ?_)
  have hρS41 : S41.2.2 = RHO := by rw [hS41]; exact hρS40
  clear hS41
  refine C_putF X (kf := 62) cb10 (by decide) (by decide) (by decide) (by rw [hρS41]; decide) (by decide) fl_X10_137 (fun _ _ _ => rfl) rfl hin rfl (fun _ => rfl) (fun _ => rfl) dX10_init_336 ?_
  refine J_aload_n X dX10_init_339 (i := 0) rfl rfl ?_
  refine J_bipush X (v := (20 : Int32)) dX10_init_340 (by decide) ?_
  refine C_newa X (atype := .int) (ty := .int) (c := 0) (len := 20) (a0 := (20, .inl (fun _ => 0))) (by omega) (fun _ => rfl) (fun U c1 c2 g1 g2 => Option.some.inj (g1.symm.trans g2)) (fun b cA S => by rw [ce_1 (show KD 181 = (1, 20) by decide)]; simp [rwN, zI]) ac_int rfl (fun _ => rfl) (by decide) (by decide) (by decide) ⟨by rw [hR]; exact Nat.le_of_ble_eq_true rfl, by rw [hR]; exact Nat.le_of_ble_eq_true rfl⟩ dX10_init_342 (fun S42 hS42 => ?_)
  have hρS42 : S42.2.2 = RHO := by rw [hS42]; exact hρS41
  clear hS42
  refine C_putF X (kf := 65) cb10 (by decide) (by decide) (by decide) (by rw [hρS42]; decide) (by decide) fl_X10_140 (fun _ _ _ => rfl) rfl hin rfl (fun _ => rfl) (fun _ => rfl) dX10_init_344 ?_
  refine J_aload_n X dX10_init_347 (i := 0) rfl rfl ?_
  refine J_bipush X (v := (20 : Int32)) dX10_init_348 (by decide) ?_
  refine C_newa X (atype := .int) (ty := .int) (c := 0) (len := 20) (a0 := (20, .inl (fun _ => 0))) (by omega) (fun _ => rfl) (fun U c1 c2 g1 g2 => Option.some.inj (g1.symm.trans g2)) (fun b cA S => by rw [ce_1 (show KD 182 = (1, 20) by decide)]; simp [rwN, zI]) ac_int rfl (fun _ => rfl) (by decide) (by decide) (by decide) ⟨by rw [hR]; exact Nat.le_of_ble_eq_true rfl, by rw [hR]; exact Nat.le_of_ble_eq_true rfl⟩ dX10_init_350 (fun S43 hS43 => ?_)
  have hρS43 : S43.2.2 = RHO := by rw [hS43]; exact hρS42
  clear hS43
  refine C_putF X (kf := 66) cb10 (by decide) (by decide) (by decide) (by rw [hρS43]; decide) (by decide) fl_X10_143 (fun _ _ _ => rfl) rfl hin rfl (fun _ => rfl) (fun _ => rfl) dX10_init_352 ?_
  refine J_aload_n X dX10_init_355 (i := 0) rfl rfl ?_
  refine J_bipush X (v := (20 : Int32)) dX10_init_356 (by decide) ?_
  refine C_newa X (atype := .int) (ty := .int) (c := 0) (len := 20) (a0 := (20, .inl (fun _ => 0))) (by omega) (fun _ => rfl) (fun U c1 c2 g1 g2 => Option.some.inj (g1.symm.trans g2)) (fun b cA S => by rw [ce_1 (show KD 183 = (1, 20) by decide)]; simp [rwN, zI]) ac_int rfl (fun _ => rfl) (by decide) (by decide) (by decide) ⟨by rw [hR]; exact Nat.le_of_ble_eq_true rfl, by rw [hR]; exact Nat.le_of_ble_eq_true rfl⟩ dX10_init_358 (fun S44 hS44 => ?_)
  have hρS44 : S44.2.2 = RHO := by rw [hS44]; exact hρS43
  clear hS44
  refine C_putF X (kf := 67) cb10 (by decide) (by decide) (by decide) (by rw [hρS44]; decide) (by decide) fl_X10_146 (fun _ _ _ => rfl) rfl hin rfl (fun _ => rfl) (fun _ => rfl) dX10_init_360 ?_
  refine J_aload_n X dX10_init_363 (i := 0) rfl rfl ?_
  refine J_bipush X (v := (9 : Int32)) dX10_init_364 (by decide) ?_
  refine C_newa X (atype := .int) (ty := .int) (c := 0) (len := 9) (a0 := (9, .inl (fun _ => 0))) (by omega) (fun _ => rfl) (fun U c1 c2 g1 g2 => Option.some.inj (g1.symm.trans g2)) (fun b cA S => by rw [ce_1 (show KD 184 = (1, 9) by decide)]; simp [rwN, zI]) ac_int rfl (fun _ => rfl) (by decide) (by decide) (by decide) ⟨by rw [hR]; exact Nat.le_of_ble_eq_true rfl, by rw [hR]; exact Nat.le_of_ble_eq_true rfl⟩ dX10_init_366 (fun S45 hS45 => ?_)
  have hρS45 : S45.2.2 = RHO := by rw [hS45]; exact hρS44
  clear hS45
  refine C_putF X (kf := 68) cb10 (by decide) (by decide) (by decide) (by rw [hρS45]; decide) (by decide) fl_X10_149 (fun _ _ _ => rfl) rfl hin rfl (fun _ => rfl) (fun _ => rfl) dX10_init_368 ?_
  refine J_aload_n X dX10_init_371 (i := 0) rfl rfl ?_
  refine J_iconst X (v := (3 : Int32)) dX10_init_372 (by decide) ?_
  refine C_newa X (atype := .boolean) (ty := .boolean) (c := 2) (len := 3) (a0 := (3, .inl (fun _ => 0))) (by omega) (fun _ => rfl) (fun U c1 c2 g1 g2 => Option.some.inj (g1.symm.trans g2)) (fun b cA S => by rw [ce_3 (show KD 185 = (3, 3) by decide)]; simp [rwN, zI]) ac_boolean rfl (fun _ => rfl) (by decide) (by decide) (by decide) ⟨by rw [hR]; exact Nat.le_of_ble_eq_true rfl, by rw [hR]; exact Nat.le_of_ble_eq_true rfl⟩ dX10_init_373 (fun S46 hS46 => ?_)
  have hρS46 : S46.2.2 = RHO := by rw [hS46]; exact hρS45
  clear hS46
  refine C_putF X (kf := 69) cb10 (by decide) (by decide) (by decide) (by rw [hρS46]; decide) (by decide) fl_X10_152 (fun _ _ _ => rfl) rfl hin rfl (fun _ => rfl) (fun _ => rfl) dX10_init_375 ?_
  refine J_aload_n X dX10_init_378 (i := 0) rfl rfl ?_
  refine J_sipush X (v := (165 : Int32)) dX10_init_379 (by decide) ?_
  refine C_newa X (atype := .int) (ty := .int) (c := 0) (len := 165) (a0 := (165, .inl (fun _ => 0))) (by omega) (fun _ => rfl) (fun U c1 c2 g1 g2 => Option.some.inj (g1.symm.trans g2)) (fun b cA S => by rw [ce_1 (show KD 186 = (1, 165) by decide)]; simp [rwN, zI]) ac_int rfl (fun _ => rfl) (by decide) (by decide) (by decide) ⟨by rw [hR]; exact Nat.le_of_ble_eq_true rfl, by rw [hR]; exact Nat.le_of_ble_eq_true rfl⟩ dX10_init_382 (fun S47 hS47 => ?_)
  have hρS47 : S47.2.2 = RHO := by rw [hS47]; exact hρS46
  clear hS47
  refine C_putF X (kf := 70) cb10 (by decide) (by decide) (by decide) (by rw [hρS47]; decide) (by decide) fl_X10_155 (fun _ _ _ => rfl) rfl hin rfl (fun _ => rfl) (fun _ => rfl) dX10_init_384 ?_
  refine J_aload_n X dX10_init_387 (i := 0) rfl rfl ?_
  refine J_iconst X (v := (0 : Int32)) dX10_init_388 (by decide) ?_
  have wS48 : WT (fun a => 140 ≤ a ∧ a < 187) S47.2.2 := by rw [hρS47]; exact dn_WT dn_191_140_187
  refine T_callVk (K := ksw K (NT 191) 187 (fun a => 140 ≤ a ∧ a < 187)) (As := [.int (0 : Int32)]) wS48 (CX_sw X (dn_N dn_191_140_187 (by decide))) (C_X10_plain (gsw (kG K) (NT 191) 187 (fun a => 140 ≤ a ∧ a < 187)) 140 ⟨by decide, by decide, by decide⟩ (0 : Int32) S47) cb10 ⟨by decide, by decide, by decide⟩ ml_X10_158 in_yX10_plain se_yX10_plain ii_RX10 co_yX10_plain hy_X10_plain (hRc hR (by decide) (by decide)) rfl (hkwC hR (Nat.le_of_ble_eq_true rfl) (Nat.le_of_ble_eq_true rfl)) (Nat.le_of_ble_eq_true rfl) dX10_init_389 (fun _ S48 heS48 _ => ?_)
  have hρS48 : S48.2.2 = RHO := (o_X10_plain 140 ⟨by decide, by decide, by decide⟩ (0 : Int32) (D := (fun a => 140 ≤ a ∧ a < 187)) _ wS48 _ heS48).1.trans hρS47
  clear heS48
  show JX K _ _ _ _ (rwN (NT 191) S48) 187 _ _ _
  refine J_aload_n X dX10_init_392 (i := 0) rfl rfl ?_
  refine J_iconst X (v := (1 : Int32)) dX10_init_393 (by decide) ?_
  have wS49 : WT (fun a => 140 ≤ a ∧ a < 187) S48.2.2 := by rw [hρS48]; exact dn_WT dn_191_140_187
  refine T_callVk (K := ksw K (NT 191) 187 (fun a => 140 ≤ a ∧ a < 187)) (As := [.int (1 : Int32)]) wS49 (CX_sw X (dn_N dn_191_140_187 (by decide))) (C_X10_plain (gsw (kG K) (NT 191) 187 (fun a => 140 ≤ a ∧ a < 187)) 140 ⟨by decide, by decide, by decide⟩ (1 : Int32) S48) cb10 ⟨by decide, by decide, by decide⟩ ml_X10_158 in_yX10_plain se_yX10_plain ii_RX10 co_yX10_plain hy_X10_plain (hRc hR (by decide) (by decide)) rfl (hkwC hR (Nat.le_of_ble_eq_true rfl) (Nat.le_of_ble_eq_true rfl)) (Nat.le_of_ble_eq_true rfl) dX10_init_394 (fun _ S49 heS49 _ => ?_)
  have hρS49 : S49.2.2 = RHO := (o_X10_plain 140 ⟨by decide, by decide, by decide⟩ (1 : Int32) (D := (fun a => 140 ≤ a ∧ a < 187)) _ wS49 _ heS49).1.trans hρS48
  clear heS49
  show JX K _ _ _ _ (rwN (NT 191) S49) 187 _ _ _
  refine J_aload_n X dX10_init_397 (i := 0) rfl rfl ?_
  refine C_getR X (kf := 9) (q := 147) cb10 (by decide) (by decide) (by decide) fl_X10_34 (fun _ _ _ => rfl) (by decide +kernel) (by rw [hρS49]; decide) dX10_init_398 ?_
  refine J_iconst X (v := (0 : Int32)) dX10_init_401 (by decide) ?_
  refine J_bipush X (v := (109 : Int32)) dX10_init_402 (by decide) ?_
  refine J_bipush X (v := (101 : Int32)) dX10_init_404 (by decide) ?_
  refine J_bipush X (v := (114 : Int32)) dX10_init_406 (by decide) ?_
  refine J_bipush X (v := (109 : Int32)) dX10_init_408 (by decide) ?_
  refine J_bipush X (v := (97 : Int32)) dX10_init_410 (by decide) ?_
  refine J_bipush X (v := (105 : Int32)) dX10_init_412 (by decide) ?_
  refine J_bipush X (v := (100 : Int32)) dX10_init_414 (by decide) ?_
  have wS50 : WT (fun a => 140 ≤ a ∧ a < 187) S49.2.2 := by rw [hρS49]; exact dn_WT dn_191_140_187
  refine T_callSk (K := ksw K (NT 191) 187 (fun a => 140 ≤ a ∧ a < 187)) (As := [.int (109 : Int32), .int (101 : Int32), .int (114 : Int32), .int (109 : Int32), .int (97 : Int32), .int (105 : Int32), .int (100 : Int32)]) wS50 (CX_sw X (dn_N dn_191_140_187 (by decide))) (C_X10_word (gsw (kG K) (NT 191) 187 (fun a => 140 ≤ a ∧ a < 187)) (109 : Int32) (101 : Int32) (114 : Int32) (109 : Int32) (97 : Int32) (105 : Int32) (100 : Int32) S49) ml_X10_162 st_yX10_word ii_RX10 co_yX10_word hy_X10_word (hRc hR (by decide) (by decide)) rfl (hkwC hR (Nat.le_of_ble_eq_true rfl) (Nat.le_of_ble_eq_true rfl)) (Nat.le_of_ble_eq_true rfl) dX10_init_416 (fun rS50 S50 heS50 _ => ?_)
  have hρS50 : S50.2.2 = RHO := (o_X10_word (109 : Int32) (101 : Int32) (114 : Int32) (109 : Int32) (97 : Int32) (105 : Int32) (100 : Int32) (D := (fun a => 140 ≤ a ∧ a < 187)) _ wS50 _ heS50).1.trans hρS49
  clear heS50
  show JX K _ _ _ _ (rwN (NT 191) S50) 187 _ _ _
  refine J_last X (len := 21) (by decide) (by decide) dX10_init_419 (fun jS51 _ => J_nmS (fun S51 hS51 => ?_))
  have hρS51 : S51.2.2 = RHO := by rw [hS51]; exact hρS50
  clear hS51
  refine J_aload_n X dX10_init_420 (i := 0) rfl rfl ?_
  refine C_getR X (kf := 9) (q := 147) cb10 (by decide) (by decide) (by decide) fl_X10_34 (fun _ _ _ => rfl) (by decide +kernel) (by rw [hρS51]; decide) dX10_init_421 ?_
  refine J_iconst X (v := (1 : Int32)) dX10_init_424 (by decide) ?_
  refine J_bipush X (v := (112 : Int32)) dX10_init_425 (by decide) ?_
  refine J_bipush X (v := (101 : Int32)) dX10_init_427 (by decide) ?_
  refine J_bipush X (v := (114 : Int32)) dX10_init_429 (by decide) ?_
  refine J_bipush X (v := (115 : Int32)) dX10_init_431 (by decide) ?_
  refine J_bipush X (v := (111 : Int32)) dX10_init_433 (by decide) ?_
  refine J_bipush X (v := (110 : Int32)) dX10_init_435 (by decide) ?_
  refine J_iconst X (v := (0 : Int32)) dX10_init_437 (by decide) ?_
  have wS52 : WT (fun a => 140 ≤ a ∧ a < 187) S51.2.2 := by rw [hρS51]; exact dn_WT dn_191_140_187
  refine T_callSk (K := ksw K (NT 191) 187 (fun a => 140 ≤ a ∧ a < 187)) (As := [.int (112 : Int32), .int (101 : Int32), .int (114 : Int32), .int (115 : Int32), .int (111 : Int32), .int (110 : Int32), .int (0 : Int32)]) wS52 (CX_sw X (dn_N dn_191_140_187 (by decide))) (C_X10_word (gsw (kG K) (NT 191) 187 (fun a => 140 ≤ a ∧ a < 187)) (112 : Int32) (101 : Int32) (114 : Int32) (115 : Int32) (111 : Int32) (110 : Int32) (0 : Int32) S51) ml_X10_162 st_yX10_word ii_RX10 co_yX10_word hy_X10_word (hRc hR (by decide) (by decide)) rfl (hkwC hR (Nat.le_of_ble_eq_true rfl) (Nat.le_of_ble_eq_true rfl)) (Nat.le_of_ble_eq_true rfl) dX10_init_438 (fun rS52 S52 heS52 _ => ?_)
  have hρS52 : S52.2.2 = RHO := (o_X10_word (112 : Int32) (101 : Int32) (114 : Int32) (115 : Int32) (111 : Int32) (110 : Int32) (0 : Int32) (D := (fun a => 140 ≤ a ∧ a < 187)) _ wS52 _ heS52).1.trans hρS51
  clear heS52
  show JX K _ _ _ _ (rwN (NT 191) S52) 187 _ _ _
  refine J_last X (len := 21) (by decide) (by decide) dX10_init_441 (fun jS53 _ => J_nmS (fun S53 hS53 => ?_))
  have hρS53 : S53.2.2 = RHO := by rw [hS53]; exact hρS52
  clear hS53
  refine J_aload_n X dX10_init_442 (i := 0) rfl rfl ?_
  refine C_getR X (kf := 9) (q := 147) cb10 (by decide) (by decide) (by decide) fl_X10_34 (fun _ _ _ => rfl) (by decide +kernel) (by rw [hρS53]; decide) dX10_init_443 ?_
  refine J_iconst X (v := (2 : Int32)) dX10_init_446 (by decide) ?_
  refine J_bipush X (v := (115 : Int32)) dX10_init_447 (by decide) ?_
  refine J_bipush X (v := (116 : Int32)) dX10_init_449 (by decide) ?_
  refine J_bipush X (v := (114 : Int32)) dX10_init_451 (by decide) ?_
  refine J_bipush X (v := (97 : Int32)) dX10_init_453 (by decide) ?_
  refine J_bipush X (v := (110 : Int32)) dX10_init_455 (by decide) ?_
  refine J_bipush X (v := (100 : Int32)) dX10_init_457 (by decide) ?_
  refine J_iconst X (v := (0 : Int32)) dX10_init_459 (by decide) ?_
  have wS54 : WT (fun a => 140 ≤ a ∧ a < 187) S53.2.2 := by rw [hρS53]; exact dn_WT dn_191_140_187
  refine T_callSk (K := ksw K (NT 191) 187 (fun a => 140 ≤ a ∧ a < 187)) (As := [.int (115 : Int32), .int (116 : Int32), .int (114 : Int32), .int (97 : Int32), .int (110 : Int32), .int (100 : Int32), .int (0 : Int32)]) wS54 (CX_sw X (dn_N dn_191_140_187 (by decide))) (C_X10_word (gsw (kG K) (NT 191) 187 (fun a => 140 ≤ a ∧ a < 187)) (115 : Int32) (116 : Int32) (114 : Int32) (97 : Int32) (110 : Int32) (100 : Int32) (0 : Int32) S53) ml_X10_162 st_yX10_word ii_RX10 co_yX10_word hy_X10_word (hRc hR (by decide) (by decide)) rfl (hkwC hR (Nat.le_of_ble_eq_true rfl) (Nat.le_of_ble_eq_true rfl)) (Nat.le_of_ble_eq_true rfl) dX10_init_460 (fun rS54 S54 heS54 _ => ?_)
  have hρS54 : S54.2.2 = RHO := (o_X10_word (115 : Int32) (116 : Int32) (114 : Int32) (97 : Int32) (110 : Int32) (100 : Int32) (0 : Int32) (D := (fun a => 140 ≤ a ∧ a < 187)) _ wS54 _ heS54).1.trans hρS53
  clear heS54
  show JX K _ _ _ _ (rwN (NT 191) S54) 187 _ _ _
  refine J_last X (len := 21) (by decide) (by decide) dX10_init_463 (fun jS55 _ => J_nmS (fun S55 hS55 => ?_))
  have hρS55 : S55.2.2 = RHO := by rw [hS55]; exact hρS54
  clear hS55
  refine J_aload_n X dX10_init_464 (i := 0) rfl rfl ?_
  refine C_getR X (kf := 9) (q := 147) cb10 (by decide) (by decide) (by decide) fl_X10_34 (fun _ _ _ => rfl) (by decide +kernel) (by rw [hρS55]; decide) dX10_init_465 ?_
  refine J_iconst X (v := (3 : Int32)) dX10_init_468 (by decide) ?_
  refine J_bipush X (v := (112 : Int32)) dX10_init_469 (by decide) ?_
  refine J_bipush X (v := (117 : Int32)) dX10_init_471 (by decide) ?_
  refine J_bipush X (v := (108 : Int32)) dX10_init_473 (by decide) ?_
  refine J_bipush X (v := (108 : Int32)) dX10_init_475 (by decide) ?_
  refine J_iconst X (v := (0 : Int32)) dX10_init_477 (by decide) ?_
  refine J_iconst X (v := (0 : Int32)) dX10_init_478 (by decide) ?_
  refine J_iconst X (v := (0 : Int32)) dX10_init_479 (by decide) ?_
  have wS56 : WT (fun a => 140 ≤ a ∧ a < 187) S55.2.2 := by rw [hρS55]; exact dn_WT dn_191_140_187
  refine T_callSk (K := ksw K (NT 191) 187 (fun a => 140 ≤ a ∧ a < 187)) (As := [.int (112 : Int32), .int (117 : Int32), .int (108 : Int32), .int (108 : Int32), .int (0 : Int32), .int (0 : Int32), .int (0 : Int32)]) wS56 (CX_sw X (dn_N dn_191_140_187 (by decide))) (C_X10_word (gsw (kG K) (NT 191) 187 (fun a => 140 ≤ a ∧ a < 187)) (112 : Int32) (117 : Int32) (108 : Int32) (108 : Int32) (0 : Int32) (0 : Int32) (0 : Int32) S55) ml_X10_162 st_yX10_word ii_RX10 co_yX10_word hy_X10_word (hRc hR (by decide) (by decide)) rfl (hkwC hR (Nat.le_of_ble_eq_true rfl) (Nat.le_of_ble_eq_true rfl)) (Nat.le_of_ble_eq_true rfl) dX10_init_480 (fun rS56 S56 heS56 _ => ?_)
  have hρS56 : S56.2.2 = RHO := (o_X10_word (112 : Int32) (117 : Int32) (108 : Int32) (108 : Int32) (0 : Int32) (0 : Int32) (0 : Int32) (D := (fun a => 140 ≤ a ∧ a < 187)) _ wS56 _ heS56).1.trans hρS55
  clear heS56
  show JX K _ _ _ _ (rwN (NT 191) S56) 187 _ _ _
  refine J_last X (len := 21) (by decide) (by decide) dX10_init_483 (fun jS57 _ => J_nmS (fun S57 hS57 => ?_))
  have hρS57 : S57.2.2 = RHO := by rw [hS57]; exact hρS56
  clear hS57
  refine J_aload_n X dX10_init_484 (i := 0) rfl rfl ?_
  refine C_getR X (kf := 9) (q := 147) cb10 (by decide) (by decide) (by decide) fl_X10_34 (fun _ _ _ => rfl) (by decide +kernel) (by rw [hρS57]; decide) dX10_init_485 ?_
  refine J_iconst X (v := (4 : Int32)) dX10_init_488 (by decide) ?_
  refine J_bipush X (v := (115 : Int32)) dX10_init_489 (by decide) ?_
  refine J_bipush X (v := (116 : Int32)) dX10_init_491 (by decide) ?_
  refine J_bipush X (v := (97 : Int32)) dX10_init_493 (by decide) ?_
  refine J_bipush X (v := (110 : Int32)) dX10_init_495 (by decide) ?_
  refine J_bipush X (v := (100 : Int32)) dX10_init_497 (by decide) ?_
  refine J_bipush X (v := (115 : Int32)) dX10_init_499 (by decide) ?_
  refine J_iconst X (v := (0 : Int32)) dX10_init_501 (by decide) ?_
  have wS58 : WT (fun a => 140 ≤ a ∧ a < 187) S57.2.2 := by rw [hρS57]; exact dn_WT dn_191_140_187
  refine T_callSk (K := ksw K (NT 191) 187 (fun a => 140 ≤ a ∧ a < 187)) (As := [.int (115 : Int32), .int (116 : Int32), .int (97 : Int32), .int (110 : Int32), .int (100 : Int32), .int (115 : Int32), .int (0 : Int32)]) wS58 (CX_sw X (dn_N dn_191_140_187 (by decide))) (C_X10_word (gsw (kG K) (NT 191) 187 (fun a => 140 ≤ a ∧ a < 187)) (115 : Int32) (116 : Int32) (97 : Int32) (110 : Int32) (100 : Int32) (115 : Int32) (0 : Int32) S57) ml_X10_162 st_yX10_word ii_RX10 co_yX10_word hy_X10_word (hRc hR (by decide) (by decide)) rfl (hkwC hR (Nat.le_of_ble_eq_true rfl) (Nat.le_of_ble_eq_true rfl)) (Nat.le_of_ble_eq_true rfl) dX10_init_502 (fun rS58 S58 heS58 _ => ?_)
  have hρS58 : S58.2.2 = RHO := (o_X10_word (115 : Int32) (116 : Int32) (97 : Int32) (110 : Int32) (100 : Int32) (115 : Int32) (0 : Int32) (D := (fun a => 140 ≤ a ∧ a < 187)) _ wS58 _ heS58).1.trans hρS57
  clear heS58
  show JX K _ _ _ _ (rwN (NT 191) S58) 187 _ _ _
  refine J_last X (len := 21) (by decide) (by decide) dX10_init_505 (fun jS59 _ => J_nmS (fun S59 hS59 => ?_))
  have hρS59 : S59.2.2 = RHO := by rw [hS59]; exact hρS58
  clear hS59
  refine J_aload_n X dX10_init_506 (i := 0) rfl rfl ?_
  refine C_getR X (kf := 9) (q := 147) cb10 (by decide) (by decide) (by decide) fl_X10_34 (fun _ _ _ => rfl) (by decide +kernel) (by rw [hρS59]; decide) dX10_init_507 ?_
  refine J_iconst X (v := (5 : Int32)) dX10_init_510 (by decide) ?_
  refine J_bipush X (v := (112 : Int32)) dX10_init_511 (by decide) ?_
  refine J_bipush X (v := (114 : Int32)) dX10_init_513 (by decide) ?_
  refine J_bipush X (v := (105 : Int32)) dX10_init_515 (by decide) ?_
  refine J_bipush X (v := (99 : Int32)) dX10_init_517 (by decide) ?_
  refine J_bipush X (v := (101 : Int32)) dX10_init_519 (by decide) ?_
  refine J_iconst X (v := (0 : Int32)) dX10_init_521 (by decide) ?_
  refine J_iconst X (v := (0 : Int32)) dX10_init_522 (by decide) ?_
  have wS60 : WT (fun a => 140 ≤ a ∧ a < 187) S59.2.2 := by rw [hρS59]; exact dn_WT dn_191_140_187
  refine T_callSk (K := ksw K (NT 191) 187 (fun a => 140 ≤ a ∧ a < 187)) (As := [.int (112 : Int32), .int (114 : Int32), .int (105 : Int32), .int (99 : Int32), .int (101 : Int32), .int (0 : Int32), .int (0 : Int32)]) wS60 (CX_sw X (dn_N dn_191_140_187 (by decide))) (C_X10_word (gsw (kG K) (NT 191) 187 (fun a => 140 ≤ a ∧ a < 187)) (112 : Int32) (114 : Int32) (105 : Int32) (99 : Int32) (101 : Int32) (0 : Int32) (0 : Int32) S59) ml_X10_162 st_yX10_word ii_RX10 co_yX10_word hy_X10_word (hRc hR (by decide) (by decide)) rfl (hkwC hR (Nat.le_of_ble_eq_true rfl) (Nat.le_of_ble_eq_true rfl)) (Nat.le_of_ble_eq_true rfl) dX10_init_523 (fun rS60 S60 heS60 _ => ?_)
  have hρS60 : S60.2.2 = RHO := (o_X10_word (112 : Int32) (114 : Int32) (105 : Int32) (99 : Int32) (101 : Int32) (0 : Int32) (0 : Int32) (D := (fun a => 140 ≤ a ∧ a < 187)) _ wS60 _ heS60).1.trans hρS59
  clear heS60
  show JX K _ _ _ _ (rwN (NT 191) S60) 187 _ _ _
  refine J_last X (len := 21) (by decide) (by decide) dX10_init_526 (fun jS61 _ => J_nmS (fun S61 hS61 => ?_))
  have hρS61 : S61.2.2 = RHO := by rw [hS61]; exact hρS60
  clear hS61
  refine J_aload_n X dX10_init_527 (i := 0) rfl rfl ?_
  refine C_getR X (kf := 9) (q := 147) cb10 (by decide) (by decide) (by decide) fl_X10_34 (fun _ _ _ => rfl) (by decide +kernel) (by rw [hρS61]; decide) dX10_init_528 ?_
  refine J_bipush X (v := (6 : Int32)) dX10_init_531 (by decide) ?_
  refine J_bipush X (v := (115 : Int32)) dX10_init_533 (by decide) ?_
  refine J_bipush X (v := (116 : Int32)) dX10_init_535 (by decide) ?_
  refine J_bipush X (v := (111 : Int32)) dX10_init_537 (by decide) ?_
  refine J_bipush X (v := (114 : Int32)) dX10_init_539 (by decide) ?_
  refine J_bipush X (v := (109 : Int32)) dX10_init_541 (by decide) ?_
  refine J_iconst X (v := (0 : Int32)) dX10_init_543 (by decide) ?_
  refine J_iconst X (v := (0 : Int32)) dX10_init_544 (by decide) ?_
  have wS62 : WT (fun a => 140 ≤ a ∧ a < 187) S61.2.2 := by rw [hρS61]; exact dn_WT dn_191_140_187
  refine T_callSk (K := ksw K (NT 191) 187 (fun a => 140 ≤ a ∧ a < 187)) (As := [.int (115 : Int32), .int (116 : Int32), .int (111 : Int32), .int (114 : Int32), .int (109 : Int32), .int (0 : Int32), .int (0 : Int32)]) wS62 (CX_sw X (dn_N dn_191_140_187 (by decide))) (C_X10_word (gsw (kG K) (NT 191) 187 (fun a => 140 ≤ a ∧ a < 187)) (115 : Int32) (116 : Int32) (111 : Int32) (114 : Int32) (109 : Int32) (0 : Int32) (0 : Int32) S61) ml_X10_162 st_yX10_word ii_RX10 co_yX10_word hy_X10_word (hRc hR (by decide) (by decide)) rfl (hkwC hR (Nat.le_of_ble_eq_true rfl) (Nat.le_of_ble_eq_true rfl)) (Nat.le_of_ble_eq_true rfl) dX10_init_545 (fun rS62 S62 heS62 _ => ?_)
  have hρS62 : S62.2.2 = RHO := (o_X10_word (115 : Int32) (116 : Int32) (111 : Int32) (114 : Int32) (109 : Int32) (0 : Int32) (0 : Int32) (D := (fun a => 140 ≤ a ∧ a < 187)) _ wS62 _ heS62).1.trans hρS61
  clear heS62
  show JX K _ _ _ _ (rwN (NT 191) S62) 187 _ _ _
  refine J_last X (len := 21) (by decide) (by decide) dX10_init_548 (fun jS63 _ => J_nmS (fun S63 hS63 => ?_))
  have hρS63 : S63.2.2 = RHO := by rw [hS63]; exact hρS62
  clear hS63
  refine J_aload_n X dX10_init_549 (i := 0) rfl rfl ?_
  refine C_getR X (kf := 9) (q := 147) cb10 (by decide) (by decide) (by decide) fl_X10_34 (fun _ _ _ => rfl) (by decide +kernel) (by rw [hρS63]; decide) dX10_init_550 ?_
  refine J_bipush X (v := (7 : Int32)) dX10_init_553 (by decide) ?_
  refine J_bipush X (v := (112 : Int32)) dX10_init_555 (by decide) ?_
  refine J_bipush X (v := (105 : Int32)) dX10_init_557 (by decide) ?_
  refine J_bipush X (v := (101 : Int32)) dX10_init_559 (by decide) ?_
  refine J_bipush X (v := (114 : Int32)) dX10_init_561 (by decide) ?_
  refine J_iconst X (v := (0 : Int32)) dX10_init_563 (by decide) ?_
  refine J_iconst X (v := (0 : Int32)) dX10_init_564 (by decide) ?_
  refine J_iconst X (v := (0 : Int32)) dX10_init_565 (by decide) ?_
  have wS64 : WT (fun a => 140 ≤ a ∧ a < 187) S63.2.2 := by rw [hρS63]; exact dn_WT dn_191_140_187
  refine T_callSk (K := ksw K (NT 191) 187 (fun a => 140 ≤ a ∧ a < 187)) (As := [.int (112 : Int32), .int (105 : Int32), .int (101 : Int32), .int (114 : Int32), .int (0 : Int32), .int (0 : Int32), .int (0 : Int32)]) wS64 (CX_sw X (dn_N dn_191_140_187 (by decide))) (C_X10_word (gsw (kG K) (NT 191) 187 (fun a => 140 ≤ a ∧ a < 187)) (112 : Int32) (105 : Int32) (101 : Int32) (114 : Int32) (0 : Int32) (0 : Int32) (0 : Int32) S63) ml_X10_162 st_yX10_word ii_RX10 co_yX10_word hy_X10_word (hRc hR (by decide) (by decide)) rfl (hkwC hR (Nat.le_of_ble_eq_true rfl) (Nat.le_of_ble_eq_true rfl)) (Nat.le_of_ble_eq_true rfl) dX10_init_566 (fun rS64 S64 heS64 _ => ?_)
  have hρS64 : S64.2.2 = RHO := (o_X10_word (112 : Int32) (105 : Int32) (101 : Int32) (114 : Int32) (0 : Int32) (0 : Int32) (0 : Int32) (D := (fun a => 140 ≤ a ∧ a < 187)) _ wS64 _ heS64).1.trans hρS63
  clear heS64
  show JX K _ _ _ _ (rwN (NT 191) S64) 187 _ _ _
  refine J_last X (len := 21) (by decide) (by decide) dX10_init_569 (fun jS65 _ => J_nmS (fun S65 hS65 => ?_))
  have hρS65 : S65.2.2 = RHO := by rw [hS65]; exact hρS64
  clear hS65
  refine J_aload_n X dX10_init_570 (i := 0) rfl rfl ?_
  refine C_getR X (kf := 9) (q := 147) cb10 (by decide) (by decide) (by decide) fl_X10_34 (fun _ _ _ => rfl) (by decide +kernel) (by rw [hρS65]; decide) dX10_init_571 ?_
  refine J_bipush X (v := (8 : Int32)) dX10_init_574 (by decide) ?_
  refine J_bipush X (v := (115 : Int32)) dX10_init_576 (by decide) ?_
  refine J_bipush X (v := (101 : Int32)) dX10_init_578 (by decide) ?_
  refine J_bipush X (v := (101 : Int32)) dX10_init_580 (by decide) ?_
  refine J_bipush X (v := (100 : Int32)) dX10_init_582 (by decide) ?_
  refine J_iconst X (v := (0 : Int32)) dX10_init_584 (by decide) ?_
  refine J_iconst X (v := (0 : Int32)) dX10_init_585 (by decide) ?_
  refine J_iconst X (v := (0 : Int32)) dX10_init_586 (by decide) ?_
  have wS66 : WT (fun a => 140 ≤ a ∧ a < 187) S65.2.2 := by rw [hρS65]; exact dn_WT dn_191_140_187
  refine T_callSk (K := ksw K (NT 191) 187 (fun a => 140 ≤ a ∧ a < 187)) (As := [.int (115 : Int32), .int (101 : Int32), .int (101 : Int32), .int (100 : Int32), .int (0 : Int32), .int (0 : Int32), .int (0 : Int32)]) wS66 (CX_sw X (dn_N dn_191_140_187 (by decide))) (C_X10_word (gsw (kG K) (NT 191) 187 (fun a => 140 ≤ a ∧ a < 187)) (115 : Int32) (101 : Int32) (101 : Int32) (100 : Int32) (0 : Int32) (0 : Int32) (0 : Int32) S65) ml_X10_162 st_yX10_word ii_RX10 co_yX10_word hy_X10_word (hRc hR (by decide) (by decide)) rfl (hkwC hR (Nat.le_of_ble_eq_true rfl) (Nat.le_of_ble_eq_true rfl)) (Nat.le_of_ble_eq_true rfl) dX10_init_587 (fun rS66 S66 heS66 _ => ?_)
  have hρS66 : S66.2.2 = RHO := (o_X10_word (115 : Int32) (101 : Int32) (101 : Int32) (100 : Int32) (0 : Int32) (0 : Int32) (0 : Int32) (D := (fun a => 140 ≤ a ∧ a < 187)) _ wS66 _ heS66).1.trans hρS65
  clear heS66
  show JX K _ _ _ _ (rwN (NT 191) S66) 187 _ _ _
  refine J_last X (len := 21) (by decide) (by decide) dX10_init_590 (fun jS67 _ => J_nmS (fun S67 hS67 => ?_))
  have hρS67 : S67.2.2 = RHO := by rw [hS67]; exact hρS66
  clear hS67
  refine J_aload_n X dX10_init_591 (i := 0) rfl rfl ?_
  refine C_getR X (kf := 9) (q := 147) cb10 (by decide) (by decide) (by decide) fl_X10_34 (fun _ _ _ => rfl) (by decide +kernel) (by rw [hρS67]; decide) dX10_init_592 ?_
  refine J_bipush X (v := (9 : Int32)) dX10_init_595 (by decide) ?_
  refine J_bipush X (v := (105 : Int32)) dX10_init_597 (by decide) ?_
  refine J_bipush X (v := (102 : Int32)) dX10_init_599 (by decide) ?_
  refine J_iconst X (v := (0 : Int32)) dX10_init_601 (by decide) ?_
  refine J_iconst X (v := (0 : Int32)) dX10_init_602 (by decide) ?_
  refine J_iconst X (v := (0 : Int32)) dX10_init_603 (by decide) ?_
  refine J_iconst X (v := (0 : Int32)) dX10_init_604 (by decide) ?_
  refine J_iconst X (v := (0 : Int32)) dX10_init_605 (by decide) ?_
  have wS68 : WT (fun a => 140 ≤ a ∧ a < 187) S67.2.2 := by rw [hρS67]; exact dn_WT dn_191_140_187
  refine T_callSk (K := ksw K (NT 191) 187 (fun a => 140 ≤ a ∧ a < 187)) (As := [.int (105 : Int32), .int (102 : Int32), .int (0 : Int32), .int (0 : Int32), .int (0 : Int32), .int (0 : Int32), .int (0 : Int32)]) wS68 (CX_sw X (dn_N dn_191_140_187 (by decide))) (C_X10_word (gsw (kG K) (NT 191) 187 (fun a => 140 ≤ a ∧ a < 187)) (105 : Int32) (102 : Int32) (0 : Int32) (0 : Int32) (0 : Int32) (0 : Int32) (0 : Int32) S67) ml_X10_162 st_yX10_word ii_RX10 co_yX10_word hy_X10_word (hRc hR (by decide) (by decide)) rfl (hkwC hR (Nat.le_of_ble_eq_true rfl) (Nat.le_of_ble_eq_true rfl)) (Nat.le_of_ble_eq_true rfl) dX10_init_606 (fun rS68 S68 heS68 _ => ?_)
  have hρS68 : S68.2.2 = RHO := (o_X10_word (105 : Int32) (102 : Int32) (0 : Int32) (0 : Int32) (0 : Int32) (0 : Int32) (0 : Int32) (D := (fun a => 140 ≤ a ∧ a < 187)) _ wS68 _ heS68).1.trans hρS67
  clear heS68
  show JX K _ _ _ _ (rwN (NT 191) S68) 187 _ _ _
  refine J_last X (len := 21) (by decide) (by decide) dX10_init_609 (fun jS69 _ => J_nmS (fun S69 hS69 => ?_))
  have hρS69 : S69.2.2 = RHO := by rw [hS69]; exact hρS68
  clear hS69
  refine J_aload_n X dX10_init_610 (i := 0) rfl rfl ?_
  refine C_getR X (kf := 9) (q := 147) cb10 (by decide) (by decide) (by decide) fl_X10_34 (fun _ _ _ => rfl) (by decide +kernel) (by rw [hρS69]; decide) dX10_init_611 ?_
  refine J_bipush X (v := (10 : Int32)) dX10_init_614 (by decide) ?_
  refine J_bipush X (v := (116 : Int32)) dX10_init_616 (by decide) ?_
  refine J_bipush X (v := (104 : Int32)) dX10_init_618 (by decide) ?_
  refine J_bipush X (v := (101 : Int32)) dX10_init_620 (by decide) ?_
  refine J_bipush X (v := (110 : Int32)) dX10_init_622 (by decide) ?_
  refine J_iconst X (v := (0 : Int32)) dX10_init_624 (by decide) ?_
  refine J_iconst X (v := (0 : Int32)) dX10_init_625 (by decide) ?_
  refine J_iconst X (v := (0 : Int32)) dX10_init_626 (by decide) ?_
  have wS70 : WT (fun a => 140 ≤ a ∧ a < 187) S69.2.2 := by rw [hρS69]; exact dn_WT dn_191_140_187
  refine T_callSk (K := ksw K (NT 191) 187 (fun a => 140 ≤ a ∧ a < 187)) (As := [.int (116 : Int32), .int (104 : Int32), .int (101 : Int32), .int (110 : Int32), .int (0 : Int32), .int (0 : Int32), .int (0 : Int32)]) wS70 (CX_sw X (dn_N dn_191_140_187 (by decide))) (C_X10_word (gsw (kG K) (NT 191) 187 (fun a => 140 ≤ a ∧ a < 187)) (116 : Int32) (104 : Int32) (101 : Int32) (110 : Int32) (0 : Int32) (0 : Int32) (0 : Int32) S69) ml_X10_162 st_yX10_word ii_RX10 co_yX10_word hy_X10_word (hRc hR (by decide) (by decide)) rfl (hkwC hR (Nat.le_of_ble_eq_true rfl) (Nat.le_of_ble_eq_true rfl)) (Nat.le_of_ble_eq_true rfl) dX10_init_627 (fun rS70 S70 heS70 _ => ?_)
  have hρS70 : S70.2.2 = RHO := (o_X10_word (116 : Int32) (104 : Int32) (101 : Int32) (110 : Int32) (0 : Int32) (0 : Int32) (0 : Int32) (D := (fun a => 140 ≤ a ∧ a < 187)) _ wS70 _ heS70).1.trans hρS69
  clear heS70
  show JX K _ _ _ _ (rwN (NT 191) S70) 187 _ _ _
  refine J_last X (len := 21) (by decide) (by decide) dX10_init_630 (fun jS71 _ => J_nmS (fun S71 hS71 => ?_))
  have hρS71 : S71.2.2 = RHO := by rw [hS71]; exact hρS70
  clear hS71
  refine J_aload_n X dX10_init_631 (i := 0) rfl rfl ?_
  refine C_getR X (kf := 9) (q := 147) cb10 (by decide) (by decide) (by decide) fl_X10_34 (fun _ _ _ => rfl) (by decide +kernel) (by rw [hρS71]; decide) dX10_init_632 ?_
  refine J_bipush X (v := (11 : Int32)) dX10_init_635 (by decide) ?_
  refine J_bipush X (v := (101 : Int32)) dX10_init_637 (by decide) ?_
  refine J_bipush X (v := (108 : Int32)) dX10_init_639 (by decide) ?_
  refine J_bipush X (v := (115 : Int32)) dX10_init_641 (by decide) ?_
  refine J_bipush X (v := (101 : Int32)) dX10_init_643 (by decide) ?_
  refine J_iconst X (v := (0 : Int32)) dX10_init_645 (by decide) ?_
  refine J_iconst X (v := (0 : Int32)) dX10_init_646 (by decide) ?_
  refine J_iconst X (v := (0 : Int32)) dX10_init_647 (by decide) ?_
  have wS72 : WT (fun a => 140 ≤ a ∧ a < 187) S71.2.2 := by rw [hρS71]; exact dn_WT dn_191_140_187
  refine T_callSk (K := ksw K (NT 191) 187 (fun a => 140 ≤ a ∧ a < 187)) (As := [.int (101 : Int32), .int (108 : Int32), .int (115 : Int32), .int (101 : Int32), .int (0 : Int32), .int (0 : Int32), .int (0 : Int32)]) wS72 (CX_sw X (dn_N dn_191_140_187 (by decide))) (C_X10_word (gsw (kG K) (NT 191) 187 (fun a => 140 ≤ a ∧ a < 187)) (101 : Int32) (108 : Int32) (115 : Int32) (101 : Int32) (0 : Int32) (0 : Int32) (0 : Int32) S71) ml_X10_162 st_yX10_word ii_RX10 co_yX10_word hy_X10_word (hRc hR (by decide) (by decide)) rfl (hkwC hR (Nat.le_of_ble_eq_true rfl) (Nat.le_of_ble_eq_true rfl)) (Nat.le_of_ble_eq_true rfl) dX10_init_648 (fun rS72 S72 heS72 _ => ?_)
  have hρS72 : S72.2.2 = RHO := (o_X10_word (101 : Int32) (108 : Int32) (115 : Int32) (101 : Int32) (0 : Int32) (0 : Int32) (0 : Int32) (D := (fun a => 140 ≤ a ∧ a < 187)) _ wS72 _ heS72).1.trans hρS71
  clear heS72
  show JX K _ _ _ _ (rwN (NT 191) S72) 187 _ _ _
  refine J_last X (len := 21) (by decide) (by decide) dX10_init_651 (fun jS73 _ => J_nmS (fun S73 hS73 => ?_))
  have hρS73 : S73.2.2 = RHO := by rw [hS73]; exact hρS72
  clear hS73
  refine J_aload_n X dX10_init_652 (i := 0) rfl rfl ?_
  refine C_getR X (kf := 9) (q := 147) cb10 (by decide) (by decide) (by decide) fl_X10_34 (fun _ _ _ => rfl) (by decide +kernel) (by rw [hρS73]; decide) dX10_init_653 ?_
  refine J_bipush X (v := (12 : Int32)) dX10_init_656 (by decide) ?_
  refine J_bipush X (v := (108 : Int32)) dX10_init_658 (by decide) ?_
  refine J_bipush X (v := (101 : Int32)) dX10_init_660 (by decide) ?_
  refine J_bipush X (v := (110 : Int32)) dX10_init_662 (by decide) ?_
  refine J_bipush X (v := (103 : Int32)) dX10_init_664 (by decide) ?_
  refine J_bipush X (v := (116 : Int32)) dX10_init_666 (by decide) ?_
  refine J_bipush X (v := (104 : Int32)) dX10_init_668 (by decide) ?_
  refine J_iconst X (v := (0 : Int32)) dX10_init_670 (by decide) ?_
  have wS74 : WT (fun a => 140 ≤ a ∧ a < 187) S73.2.2 := by rw [hρS73]; exact dn_WT dn_191_140_187
  refine T_callSk (K := ksw K (NT 191) 187 (fun a => 140 ≤ a ∧ a < 187)) (As := [.int (108 : Int32), .int (101 : Int32), .int (110 : Int32), .int (103 : Int32), .int (116 : Int32), .int (104 : Int32), .int (0 : Int32)]) wS74 (CX_sw X (dn_N dn_191_140_187 (by decide))) (C_X10_word (gsw (kG K) (NT 191) 187 (fun a => 140 ≤ a ∧ a < 187)) (108 : Int32) (101 : Int32) (110 : Int32) (103 : Int32) (116 : Int32) (104 : Int32) (0 : Int32) S73) ml_X10_162 st_yX10_word ii_RX10 co_yX10_word hy_X10_word (hRc hR (by decide) (by decide)) rfl (hkwC hR (Nat.le_of_ble_eq_true rfl) (Nat.le_of_ble_eq_true rfl)) (Nat.le_of_ble_eq_true rfl) dX10_init_671 (fun rS74 S74 heS74 _ => ?_)
  have hρS74 : S74.2.2 = RHO := (o_X10_word (108 : Int32) (101 : Int32) (110 : Int32) (103 : Int32) (116 : Int32) (104 : Int32) (0 : Int32) (D := (fun a => 140 ≤ a ∧ a < 187)) _ wS74 _ heS74).1.trans hρS73
  clear heS74
  show JX K _ _ _ _ (rwN (NT 191) S74) 187 _ _ _
  refine J_last X (len := 21) (by decide) (by decide) dX10_init_674 (fun jS75 _ => J_nmS (fun S75 hS75 => ?_))
  have hρS75 : S75.2.2 = RHO := by rw [hS75]; exact hρS74
  clear hS75
  refine J_aload_n X dX10_init_675 (i := 0) rfl rfl ?_
  refine C_getR X (kf := 9) (q := 147) cb10 (by decide) (by decide) (by decide) fl_X10_34 (fun _ _ _ => rfl) (by decide +kernel) (by rw [hρS75]; decide) dX10_init_676 ?_
  refine J_bipush X (v := (13 : Int32)) dX10_init_679 (by decide) ?_
  refine J_bipush X (v := (102 : Int32)) dX10_init_681 (by decide) ?_
  refine J_bipush X (v := (97 : Int32)) dX10_init_683 (by decide) ?_
  refine J_bipush X (v := (114 : Int32)) dX10_init_685 (by decide) ?_
  refine J_iconst X (v := (0 : Int32)) dX10_init_687 (by decide) ?_
  refine J_iconst X (v := (0 : Int32)) dX10_init_688 (by decide) ?_
  refine J_iconst X (v := (0 : Int32)) dX10_init_689 (by decide) ?_
  refine J_iconst X (v := (0 : Int32)) dX10_init_690 (by decide) ?_
  have wS76 : WT (fun a => 140 ≤ a ∧ a < 187) S75.2.2 := by rw [hρS75]; exact dn_WT dn_191_140_187
  refine T_callSk (K := ksw K (NT 191) 187 (fun a => 140 ≤ a ∧ a < 187)) (As := [.int (102 : Int32), .int (97 : Int32), .int (114 : Int32), .int (0 : Int32), .int (0 : Int32), .int (0 : Int32), .int (0 : Int32)]) wS76 (CX_sw X (dn_N dn_191_140_187 (by decide))) (C_X10_word (gsw (kG K) (NT 191) 187 (fun a => 140 ≤ a ∧ a < 187)) (102 : Int32) (97 : Int32) (114 : Int32) (0 : Int32) (0 : Int32) (0 : Int32) (0 : Int32) S75) ml_X10_162 st_yX10_word ii_RX10 co_yX10_word hy_X10_word (hRc hR (by decide) (by decide)) rfl (hkwC hR (Nat.le_of_ble_eq_true rfl) (Nat.le_of_ble_eq_true rfl)) (Nat.le_of_ble_eq_true rfl) dX10_init_691 (fun rS76 S76 heS76 _ => ?_)
  have hρS76 : S76.2.2 = RHO := (o_X10_word (102 : Int32) (97 : Int32) (114 : Int32) (0 : Int32) (0 : Int32) (0 : Int32) (0 : Int32) (D := (fun a => 140 ≤ a ∧ a < 187)) _ wS76 _ heS76).1.trans hρS75
  clear heS76
  show JX K _ _ _ _ (rwN (NT 191) S76) 187 _ _ _
  refine J_last X (len := 21) (by decide) (by decide) dX10_init_694 (fun jS77 _ => J_nmS (fun S77 hS77 => ?_))
  have hρS77 : S77.2.2 = RHO := by rw [hS77]; exact hρS76
  clear hS77
  refine J_aload_n X dX10_init_695 (i := 0) rfl rfl ?_
  refine C_getR X (kf := 9) (q := 147) cb10 (by decide) (by decide) (by decide) fl_X10_34 (fun _ _ _ => rfl) (by decide +kernel) (by rw [hρS77]; decide) dX10_init_696 ?_
  refine J_bipush X (v := (14 : Int32)) dX10_init_699 (by decide) ?_
  refine J_bipush X (v := (109 : Int32)) dX10_init_701 (by decide) ?_
  refine J_bipush X (v := (111 : Int32)) dX10_init_703 (by decide) ?_
  refine J_bipush X (v := (111 : Int32)) dX10_init_705 (by decide) ?_
  refine J_bipush X (v := (110 : Int32)) dX10_init_707 (by decide) ?_
  refine J_iconst X (v := (0 : Int32)) dX10_init_709 (by decide) ?_
  refine J_iconst X (v := (0 : Int32)) dX10_init_710 (by decide) ?_
  refine J_iconst X (v := (0 : Int32)) dX10_init_711 (by decide) ?_
  have wS78 : WT (fun a => 140 ≤ a ∧ a < 187) S77.2.2 := by rw [hρS77]; exact dn_WT dn_191_140_187
  refine T_callSk (K := ksw K (NT 191) 187 (fun a => 140 ≤ a ∧ a < 187)) (As := [.int (109 : Int32), .int (111 : Int32), .int (111 : Int32), .int (110 : Int32), .int (0 : Int32), .int (0 : Int32), .int (0 : Int32)]) wS78 (CX_sw X (dn_N dn_191_140_187 (by decide))) (C_X10_word (gsw (kG K) (NT 191) 187 (fun a => 140 ≤ a ∧ a < 187)) (109 : Int32) (111 : Int32) (111 : Int32) (110 : Int32) (0 : Int32) (0 : Int32) (0 : Int32) S77) ml_X10_162 st_yX10_word ii_RX10 co_yX10_word hy_X10_word (hRc hR (by decide) (by decide)) rfl (hkwC hR (Nat.le_of_ble_eq_true rfl) (Nat.le_of_ble_eq_true rfl)) (Nat.le_of_ble_eq_true rfl) dX10_init_712 (fun rS78 S78 heS78 _ => ?_)
  have hρS78 : S78.2.2 = RHO := (o_X10_word (109 : Int32) (111 : Int32) (111 : Int32) (110 : Int32) (0 : Int32) (0 : Int32) (0 : Int32) (D := (fun a => 140 ≤ a ∧ a < 187)) _ wS78 _ heS78).1.trans hρS77
  clear heS78
  show JX K _ _ _ _ (rwN (NT 191) S78) 187 _ _ _
  refine J_last X (len := 21) (by decide) (by decide) dX10_init_715 (fun jS79 _ => J_nmS (fun S79 hS79 => ?_))
  have hρS79 : S79.2.2 = RHO := by rw [hS79]; exact hρS78
  clear hS79
  refine J_aload_n X dX10_init_716 (i := 0) rfl rfl ?_
  refine C_getR X (kf := 9) (q := 147) cb10 (by decide) (by decide) (by decide) fl_X10_34 (fun _ _ _ => rfl) (by decide +kernel) (by rw [hρS79]; decide) dX10_init_717 ?_
  refine J_bipush X (v := (15 : Int32)) dX10_init_720 (by decide) ?_
  refine J_bipush X (v := (109 : Int32)) dX10_init_722 (by decide) ?_
  refine J_bipush X (v := (111 : Int32)) dX10_init_724 (by decide) ?_
  refine J_bipush X (v := (110 : Int32)) dX10_init_726 (by decide) ?_
  refine J_bipush X (v := (116 : Int32)) dX10_init_728 (by decide) ?_
  refine J_bipush X (v := (104 : Int32)) dX10_init_730 (by decide) ?_
  refine J_iconst X (v := (0 : Int32)) dX10_init_732 (by decide) ?_
  refine J_iconst X (v := (0 : Int32)) dX10_init_733 (by decide) ?_
  have wS80 : WT (fun a => 140 ≤ a ∧ a < 187) S79.2.2 := by rw [hρS79]; exact dn_WT dn_191_140_187
  refine T_callSk (K := ksw K (NT 191) 187 (fun a => 140 ≤ a ∧ a < 187)) (As := [.int (109 : Int32), .int (111 : Int32), .int (110 : Int32), .int (116 : Int32), .int (104 : Int32), .int (0 : Int32), .int (0 : Int32)]) wS80 (CX_sw X (dn_N dn_191_140_187 (by decide))) (C_X10_word (gsw (kG K) (NT 191) 187 (fun a => 140 ≤ a ∧ a < 187)) (109 : Int32) (111 : Int32) (110 : Int32) (116 : Int32) (104 : Int32) (0 : Int32) (0 : Int32) S79) ml_X10_162 st_yX10_word ii_RX10 co_yX10_word hy_X10_word (hRc hR (by decide) (by decide)) rfl (hkwC hR (Nat.le_of_ble_eq_true rfl) (Nat.le_of_ble_eq_true rfl)) (Nat.le_of_ble_eq_true rfl) dX10_init_734 (fun rS80 S80 heS80 _ => ?_)
  have hρS80 : S80.2.2 = RHO := (o_X10_word (109 : Int32) (111 : Int32) (110 : Int32) (116 : Int32) (104 : Int32) (0 : Int32) (0 : Int32) (D := (fun a => 140 ≤ a ∧ a < 187)) _ wS80 _ heS80).1.trans hρS79
  clear heS80
  show JX K _ _ _ _ (rwN (NT 191) S80) 187 _ _ _
  refine J_last X (len := 21) (by decide) (by decide) dX10_init_737 (fun jS81 _ => J_nmS (fun S81 hS81 => ?_))
  have hρS81 : S81.2.2 = RHO := by rw [hS81]; exact hρS80
  clear hS81
  refine J_aload_n X dX10_init_738 (i := 0) rfl rfl ?_
  refine C_getR X (kf := 9) (q := 147) cb10 (by decide) (by decide) (by decide) fl_X10_34 (fun _ _ _ => rfl) (by decide +kernel) (by rw [hρS81]; decide) dX10_init_739 ?_
  refine J_bipush X (v := (16 : Int32)) dX10_init_742 (by decide) ?_
  refine J_bipush X (v := (119 : Int32)) dX10_init_744 (by decide) ?_
  refine J_bipush X (v := (101 : Int32)) dX10_init_746 (by decide) ?_
  refine J_bipush X (v := (105 : Int32)) dX10_init_748 (by decide) ?_
  refine J_bipush X (v := (103 : Int32)) dX10_init_750 (by decide) ?_
  refine J_bipush X (v := (104 : Int32)) dX10_init_752 (by decide) ?_
  refine J_bipush X (v := (116 : Int32)) dX10_init_754 (by decide) ?_
  refine J_iconst X (v := (0 : Int32)) dX10_init_756 (by decide) ?_
  have wS82 : WT (fun a => 140 ≤ a ∧ a < 187) S81.2.2 := by rw [hρS81]; exact dn_WT dn_191_140_187
  refine T_callSk (K := ksw K (NT 191) 187 (fun a => 140 ≤ a ∧ a < 187)) (As := [.int (119 : Int32), .int (101 : Int32), .int (105 : Int32), .int (103 : Int32), .int (104 : Int32), .int (116 : Int32), .int (0 : Int32)]) wS82 (CX_sw X (dn_N dn_191_140_187 (by decide))) (C_X10_word (gsw (kG K) (NT 191) 187 (fun a => 140 ≤ a ∧ a < 187)) (119 : Int32) (101 : Int32) (105 : Int32) (103 : Int32) (104 : Int32) (116 : Int32) (0 : Int32) S81) ml_X10_162 st_yX10_word ii_RX10 co_yX10_word hy_X10_word (hRc hR (by decide) (by decide)) rfl (hkwC hR (Nat.le_of_ble_eq_true rfl) (Nat.le_of_ble_eq_true rfl)) (Nat.le_of_ble_eq_true rfl) dX10_init_757 (fun rS82 S82 heS82 _ => ?_)
  have hρS82 : S82.2.2 = RHO := (o_X10_word (119 : Int32) (101 : Int32) (105 : Int32) (103 : Int32) (104 : Int32) (116 : Int32) (0 : Int32) (D := (fun a => 140 ≤ a ∧ a < 187)) _ wS82 _ heS82).1.trans hρS81
  clear heS82
  show JX K _ _ _ _ (rwN (NT 191) S82) 187 _ _ _
  refine J_last X (len := 21) (by decide) (by decide) dX10_init_760 (fun jS83 _ => J_nmS (fun S83 hS83 => ?_))
  have hρS83 : S83.2.2 = RHO := by rw [hS83]; exact hρS82
  clear hS83
  refine J_aload_n X dX10_init_761 (i := 0) rfl rfl ?_
  refine C_getR X (kf := 9) (q := 147) cb10 (by decide) (by decide) (by decide) fl_X10_34 (fun _ _ _ => rfl) (by decide +kernel) (by rw [hρS83]; decide) dX10_init_762 ?_
  refine J_bipush X (v := (17 : Int32)) dX10_init_765 (by decide) ?_
  refine J_bipush X (v := (97 : Int32)) dX10_init_767 (by decide) ?_
  refine J_bipush X (v := (99 : Int32)) dX10_init_769 (by decide) ?_
  refine J_bipush X (v := (114 : Int32)) dX10_init_771 (by decide) ?_
  refine J_bipush X (v := (111 : Int32)) dX10_init_773 (by decide) ?_
  refine J_bipush X (v := (115 : Int32)) dX10_init_775 (by decide) ?_
  refine J_bipush X (v := (115 : Int32)) dX10_init_777 (by decide) ?_
  refine J_iconst X (v := (0 : Int32)) dX10_init_779 (by decide) ?_
  have wS84 : WT (fun a => 140 ≤ a ∧ a < 187) S83.2.2 := by rw [hρS83]; exact dn_WT dn_191_140_187
  refine T_callSk (K := ksw K (NT 191) 187 (fun a => 140 ≤ a ∧ a < 187)) (As := [.int (97 : Int32), .int (99 : Int32), .int (114 : Int32), .int (111 : Int32), .int (115 : Int32), .int (115 : Int32), .int (0 : Int32)]) wS84 (CX_sw X (dn_N dn_191_140_187 (by decide))) (C_X10_word (gsw (kG K) (NT 191) 187 (fun a => 140 ≤ a ∧ a < 187)) (97 : Int32) (99 : Int32) (114 : Int32) (111 : Int32) (115 : Int32) (115 : Int32) (0 : Int32) S83) ml_X10_162 st_yX10_word ii_RX10 co_yX10_word hy_X10_word (hRc hR (by decide) (by decide)) rfl (hkwC hR (Nat.le_of_ble_eq_true rfl) (Nat.le_of_ble_eq_true rfl)) (Nat.le_of_ble_eq_true rfl) dX10_init_780 (fun rS84 S84 heS84 _ => ?_)
  have hρS84 : S84.2.2 = RHO := (o_X10_word (97 : Int32) (99 : Int32) (114 : Int32) (111 : Int32) (115 : Int32) (115 : Int32) (0 : Int32) (D := (fun a => 140 ≤ a ∧ a < 187)) _ wS84 _ heS84).1.trans hρS83
  clear heS84
  show JX K _ _ _ _ (rwN (NT 191) S84) 187 _ _ _
  refine J_last X (len := 21) (by decide) (by decide) dX10_init_783 (fun jS85 _ => J_nmS (fun S85 hS85 => ?_))
  have hρS85 : S85.2.2 = RHO := by rw [hS85]; exact hρS84
  clear hS85
  refine J_aload_n X dX10_init_784 (i := 0) rfl rfl ?_
  refine C_getR X (kf := 9) (q := 147) cb10 (by decide) (by decide) (by decide) fl_X10_34 (fun _ _ _ => rfl) (by decide +kernel) (by rw [hρS85]; decide) dX10_init_785 ?_
  refine J_bipush X (v := (18 : Int32)) dX10_init_788 (by decide) ?_
  refine J_bipush X (v := (100 : Int32)) dX10_init_790 (by decide) ?_
  refine J_bipush X (v := (111 : Int32)) dX10_init_792 (by decide) ?_
  refine J_bipush X (v := (119 : Int32)) dX10_init_794 (by decide) ?_
  refine J_bipush X (v := (110 : Int32)) dX10_init_796 (by decide) ?_
  refine J_iconst X (v := (0 : Int32)) dX10_init_798 (by decide) ?_
  refine J_iconst X (v := (0 : Int32)) dX10_init_799 (by decide) ?_
  refine J_iconst X (v := (0 : Int32)) dX10_init_800 (by decide) ?_
  have wS86 : WT (fun a => 140 ≤ a ∧ a < 187) S85.2.2 := by rw [hρS85]; exact dn_WT dn_191_140_187
  refine T_callSk (K := ksw K (NT 191) 187 (fun a => 140 ≤ a ∧ a < 187)) (As := [.int (100 : Int32), .int (111 : Int32), .int (119 : Int32), .int (110 : Int32), .int (0 : Int32), .int (0 : Int32), .int (0 : Int32)]) wS86 (CX_sw X (dn_N dn_191_140_187 (by decide))) (C_X10_word (gsw (kG K) (NT 191) 187 (fun a => 140 ≤ a ∧ a < 187)) (100 : Int32) (111 : Int32) (119 : Int32) (110 : Int32) (0 : Int32) (0 : Int32) (0 : Int32) S85) ml_X10_162 st_yX10_word ii_RX10 co_yX10_word hy_X10_word (hRc hR (by decide) (by decide)) rfl (hkwC hR (Nat.le_of_ble_eq_true rfl) (Nat.le_of_ble_eq_true rfl)) (Nat.le_of_ble_eq_true rfl) dX10_init_801 (fun rS86 S86 heS86 _ => ?_)
  have hρS86 : S86.2.2 = RHO := (o_X10_word (100 : Int32) (111 : Int32) (119 : Int32) (110 : Int32) (0 : Int32) (0 : Int32) (0 : Int32) (D := (fun a => 140 ≤ a ∧ a < 187)) _ wS86 _ heS86).1.trans hρS85
  clear heS86
  show JX K _ _ _ _ (rwN (NT 191) S86) 187 _ _ _
  refine J_last X (len := 21) (by decide) (by decide) dX10_init_804 (fun jS87 _ => J_nmS (fun S87 hS87 => ?_))
  have hρS87 : S87.2.2 = RHO := by rw [hS87]; exact hρS86
  clear hS87
  refine J_aload_n X dX10_init_805 (i := 0) rfl rfl ?_
  refine C_getR X (kf := 9) (q := 147) cb10 (by decide) (by decide) (by decide) fl_X10_34 (fun _ _ _ => rfl) (by decide +kernel) (by rw [hρS87]; decide) dX10_init_806 ?_
  refine J_bipush X (v := (19 : Int32)) dX10_init_809 (by decide) ?_
  refine J_bipush X (v := (119 : Int32)) dX10_init_811 (by decide) ?_
  refine J_bipush X (v := (104 : Int32)) dX10_init_813 (by decide) ?_
  refine J_bipush X (v := (105 : Int32)) dX10_init_815 (by decide) ?_
  refine J_bipush X (v := (99 : Int32)) dX10_init_817 (by decide) ?_
  refine J_bipush X (v := (104 : Int32)) dX10_init_819 (by decide) ?_
  refine J_iconst X (v := (0 : Int32)) dX10_init_821 (by decide) ?_
  refine J_iconst X (v := (0 : Int32)) dX10_init_822 (by decide) ?_
  have wS88 : WT (fun a => 140 ≤ a ∧ a < 187) S87.2.2 := by rw [hρS87]; exact dn_WT dn_191_140_187
  refine T_callSk (K := ksw K (NT 191) 187 (fun a => 140 ≤ a ∧ a < 187)) (As := [.int (119 : Int32), .int (104 : Int32), .int (105 : Int32), .int (99 : Int32), .int (104 : Int32), .int (0 : Int32), .int (0 : Int32)]) wS88 (CX_sw X (dn_N dn_191_140_187 (by decide))) (C_X10_word (gsw (kG K) (NT 191) 187 (fun a => 140 ≤ a ∧ a < 187)) (119 : Int32) (104 : Int32) (105 : Int32) (99 : Int32) (104 : Int32) (0 : Int32) (0 : Int32) S87) ml_X10_162 st_yX10_word ii_RX10 co_yX10_word hy_X10_word (hRc hR (by decide) (by decide)) rfl (hkwC hR (Nat.le_of_ble_eq_true rfl) (Nat.le_of_ble_eq_true rfl)) (Nat.le_of_ble_eq_true rfl) dX10_init_823 (fun rS88 S88 heS88 _ => ?_)
  have hρS88 : S88.2.2 = RHO := (o_X10_word (119 : Int32) (104 : Int32) (105 : Int32) (99 : Int32) (104 : Int32) (0 : Int32) (0 : Int32) (D := (fun a => 140 ≤ a ∧ a < 187)) _ wS88 _ heS88).1.trans hρS87
  clear heS88
  show JX K _ _ _ _ (rwN (NT 191) S88) 187 _ _ _
  refine J_last X (len := 21) (by decide) (by decide) dX10_init_826 (fun jS89 _ => J_nmS (fun S89 hS89 => ?_))
  have hρS89 : S89.2.2 = RHO := by rw [hS89]; exact hρS88
  clear hS89
  refine J_aload_n X dX10_init_827 (i := 0) rfl rfl ?_
  refine C_getR X (kf := 9) (q := 147) cb10 (by decide) (by decide) (by decide) fl_X10_34 (fun _ _ _ => rfl) (by decide +kernel) (by rw [hρS89]; decide) dX10_init_828 ?_
  refine J_bipush X (v := (20 : Int32)) dX10_init_831 (by decide) ?_
  refine J_bipush X (v := (119 : Int32)) dX10_init_833 (by decide) ?_
  refine J_bipush X (v := (101 : Int32)) dX10_init_835 (by decide) ?_
  refine J_bipush X (v := (97 : Int32)) dX10_init_837 (by decide) ?_
  refine J_bipush X (v := (114 : Int32)) dX10_init_839 (by decide) ?_
  refine J_bipush X (v := (115 : Int32)) dX10_init_841 (by decide) ?_
  refine J_iconst X (v := (0 : Int32)) dX10_init_843 (by decide) ?_
  refine J_iconst X (v := (0 : Int32)) dX10_init_844 (by decide) ?_
  have wS90 : WT (fun a => 140 ≤ a ∧ a < 187) S89.2.2 := by rw [hρS89]; exact dn_WT dn_191_140_187
  refine T_callSk (K := ksw K (NT 191) 187 (fun a => 140 ≤ a ∧ a < 187)) (As := [.int (119 : Int32), .int (101 : Int32), .int (97 : Int32), .int (114 : Int32), .int (115 : Int32), .int (0 : Int32), .int (0 : Int32)]) wS90 (CX_sw X (dn_N dn_191_140_187 (by decide))) (C_X10_word (gsw (kG K) (NT 191) 187 (fun a => 140 ≤ a ∧ a < 187)) (119 : Int32) (101 : Int32) (97 : Int32) (114 : Int32) (115 : Int32) (0 : Int32) (0 : Int32) S89) ml_X10_162 st_yX10_word ii_RX10 co_yX10_word hy_X10_word (hRc hR (by decide) (by decide)) rfl (hkwC hR (Nat.le_of_ble_eq_true rfl) (Nat.le_of_ble_eq_true rfl)) (Nat.le_of_ble_eq_true rfl) dX10_init_845 (fun rS90 S90 heS90 _ => ?_)
  have hρS90 : S90.2.2 = RHO := (o_X10_word (119 : Int32) (101 : Int32) (97 : Int32) (114 : Int32) (115 : Int32) (0 : Int32) (0 : Int32) (D := (fun a => 140 ≤ a ∧ a < 187)) _ wS90 _ heS90).1.trans hρS89
  clear heS90
  show JX K _ _ _ _ (rwN (NT 191) S90) 187 _ _ _
  refine J_last X (len := 21) (by decide) (by decide) dX10_init_848 (fun jS91 _ => J_nmS (fun S91 hS91 => ?_))
  have hρS91 : S91.2.2 = RHO := by rw [hS91]; exact hρS90
  clear hS91
  refine J_aload_n X dX10_init_849 (i := 0) rfl rfl ?_
  have wS92 : WT (fun a => 140 ≤ a ∧ a < 187) S91.2.2 := by rw [hρS91]; exact dn_WT dn_191_140_187
  refine T_callVk (K := ksw K (NT 191) 187 (fun a => 140 ≤ a ∧ a < 187)) (As := []) wS92 (CX_sw X (dn_N dn_191_140_187 (by decide))) (C_X10_begins (gsw (kG K) (NT 191) 187 (fun a => 140 ≤ a ∧ a < 187)) 140 ⟨by decide, by decide, by decide⟩ S91) cb10 ⟨by decide, by decide, by decide⟩ ml_X10_166 in_yX10_begins se_yX10_begins ii_RX10 co_yX10_begins hy_X10_begins (hRc hR (by decide) (by decide)) rfl (hkwC hR (Nat.le_of_ble_eq_true rfl) (Nat.le_of_ble_eq_true rfl)) (Nat.le_of_ble_eq_true rfl) dX10_init_850 (fun _ S92 heS92 _ => ?_)
  have hρS92 : S92.2.2 = RHO := (o_X10_begins 140 ⟨by decide, by decide, by decide⟩ (D := (fun a => 140 ≤ a ∧ a < 187)) _ wS92 _ heS92).1.trans hρS91
  clear heS92
  show JX K _ _ _ _ (rwN (NT 191) S92) 187 _ _ _
  refine J_aload_n X dX10_init_853 (i := 0) rfl rfl ?_
  have wS93 : WT (fun a => 140 ≤ a ∧ a < 187) S92.2.2 := by rw [hρS92]; exact dn_WT dn_191_140_187
  refine T_callVk (K := ksw K (NT 191) 187 (fun a => 140 ≤ a ∧ a < 187)) (As := []) wS93 (CX_sw X (dn_N dn_191_140_187 (by decide))) (C_X10_keepsRow (gsw (kG K) (NT 191) 187 (fun a => 140 ≤ a ∧ a < 187)) 140 ⟨by decide, by decide, by decide⟩ S92) cb10 ⟨by decide, by decide, by decide⟩ ml_X10_169 in_yX10_keepsRow se_yX10_keepsRow ii_RX10 co_yX10_keepsRow hy_X10_keepsRow (hRc hR (by decide) (by decide)) rfl (hkwC hR (Nat.le_of_ble_eq_true rfl) (Nat.le_of_ble_eq_true rfl)) (Nat.le_of_ble_eq_true rfl) dX10_init_854 (fun _ S93 heS93 _ => ?_)
  have hρS93 : S93.2.2 = RHO := (o_X10_keepsRow 140 ⟨by decide, by decide, by decide⟩ (D := (fun a => 140 ≤ a ∧ a < 187)) _ wS93 _ heS93).1.trans hρS92
  clear heS93
  show JX K _ _ _ _ (rwN (NT 191) S93) 187 _ _ _
  exact C_vret X (by omega) hρS93 dX10_init_857

/-! from the law's entry to its loop -/
theorem df_0_0 : ∀ (b : Nat) (S : St) (j : Nat), j < 14 → defaultValue (tyC 9 j) = fv b (rwN (NT 0) (zI S 0)) 0 j (tyC 9 j) := df_of 0 0 9 rfl (by decide +kernel)
theorem df_140_145 : ∀ (b : Nat) (S : St) (j : Nat), j < 71 → defaultValue (tyC 10 j) = fv b (rwN (NT 145) (zI S 140)) 140 j (tyC 10 j) := df_of 140 145 10 rfl (by decide +kernel)
theorem dn_all : dnok 191 0 187 RHO = true := by decide +kernel
def S00 : St := (fun _ _ => 0, fun _ _ => 0, RHO)
def lawF (L : Nat) (xs : Nat → Int32) : Option (Unit × St) := nm (zI S00 0) fun S1 => bd (fi_X9_init_0 S1) fun _ S2 => nm (zI S2 140) fun S3 => bd (fi_X10_init_140 S3) fun _ S4 => b_law L xs 600 0 S4
set_option maxRecDepth 20000 in
set_option maxHeartbeats 4000000 in
theorem t_law_0 {K : KK} (X : CX K cL_law 4 RL ret) (hR : kR K = room_1) (hA : kar K = #[Value.ref (kK K 40)]) (hS0 : (ks K).heap.size = kB K) (hDF : ∀ a, kDn K a → False) {L : Nat} {xs : Nat → Int32} (hX : XA K L xs) : JX K (Zl K) 0 [some (.retAddr 40), none, none, none] [] (rwN (NT 0) S00) 0 0 0 (lawF L xs) := by
  have hRC : ∀ {k w : Nat}, k ≤ 600000 → w ≤ 7302250 → k ≤ (kR K).cells ∧ w ≤ (kR K).slots := fun h1 h2 => by rw [hR]; exact ⟨h1, h2⟩
  unfold lawF
  refine C_new X cb9 (by decide) (by omega) cl_L_7 it_RX9 ii_RX9 df_0_0 (hRC (Nat.le_of_ble_eq_true rfl) (Nat.le_of_ble_eq_true rfl)) dL_law_0 (fun S1 hS1 => ?_)
  have hρ1 : S1.2.2 = RHO := by rw [hS1]; rfl
  refine J_dup X dL_law_3 rfl ?_
  refine C_callI (As := []) X (I_X9_init_0 (kG K) hDF S1) ml_L_9 in_yX9_init ii_RX9 co_yX9_init rfl hy_X9_init (hRl hR (by decide) (by decide)) (hRC (Nat.le_of_ble_eq_true rfl) (Nat.le_of_ble_eq_true rfl)) (by omega) hρ1 rfl (Nat.le_of_ble_eq_true rfl) dL_law_4 (fun S2 hρ2 => ?_)
  refine J_astore_n X (i := 1) (ls' := [some (.retAddr 40), some (.ref 0), none, none]) dL_law_7 rfl (by decide) rfl ?_
  refine C_new X cb10 (by decide) (by omega) cl_L_10 it_RX10 ii_RX10 df_140_145 (hRC (Nat.le_of_ble_eq_true rfl) (Nat.le_of_ble_eq_true rfl)) dL_law_8 (fun S3 hS3 => ?_)
  have hρ3 : S3.2.2 = RHO := by rw [hS3]; exact hρ2
  refine J_dup X dL_law_11 rfl ?_
  refine C_callI (As := []) X (I_X10_init_140 (kG K) hDF S3) ml_L_12 in_yX10_init ii_RX10 co_yX10_init rfl hy_X10_init (hRl hR (by decide) (by decide)) (hRC (Nat.le_of_ble_eq_true rfl) (Nat.le_of_ble_eq_true rfl)) (by omega) hρ3 rfl (Nat.le_of_ble_eq_true rfl) dL_law_12 (fun S4 hρ4 => ?_)
  refine J_astore_n X (i := 2) (ls' := [some (.retAddr 40), some (.ref 0), some (.ref 140), none]) dL_law_15 rfl (by decide) rfl ?_
  refine J_iconst X (v := 0) dL_law_16 (by decide) ?_
  refine J_istore_n X (i := 3) (ls' := [some (.retAddr 40), some (.ref 0), some (.ref 140), some (.int 0)]) dL_law_17 rfl (by decide) rfl ?_
  exact t_law_18 (K := ksw K (NT 191) 187 DA) (CX_sw X (dn_N dn_all (by decide))) hR hA hS0 rfl hX 600 0 S4 (by rw [hρ4]; exact dn_WT dn_all)
/-! the context at the law's entry -/
def stm (i : Nat) : Term := if i = 0 then .string "SeaHair$Tokens" 71 else .string "SeaHair$Tokens" 56
theorem st_ex : ∀ i : Nat, i < 2 → (Cond.exactly (stm i) "java/lang/String") ∈ flatC (Jvm.Cond.and given_1 narrow_1) := by decide +kernel
theorem st_co : ∀ i : Nat, i < 2 → (Cond.eq (.field (stm i) "java/lang/String" "coder" "B") (.int 0)) ∈ flatC (Jvm.Cond.and given_1 narrow_1) := by decide +kernel
theorem st_ar : ∀ i : Nat, i < 2 → (Cond.arrayOf (.field (stm i) "java/lang/String" "value" "[B") .byte) ∈ flatC (Jvm.Cond.and given_1 narrow_1) := by decide +kernel
theorem st_le : ∀ i : Nat, i < 2 → (Cond.eq (.length (.field (stm i) "java/lang/String" "value" "[B")) (.int (Int32.ofNat (([SWORDS.length, SSIGNS.length] : List Nat).getD i 0)))) ∈ flatC (Jvm.Cond.and given_1 narrow_1) := by decide +kernel
theorem st_el : ∀ i : Nat, i < 2 → ∀ j : Nat, j < ([SWORDS.length, SSIGNS.length] : List Nat).getD i 0 → (Cond.eq (.elem (.field (stm i) "java/lang/String" "value" "[B") (.int (Int32.ofNat j))) (.int ((SBYT.getD i []).getD j 0))) ∈ flatC (Jvm.Cond.and given_1 narrow_1) := by decide +kernel
theorem st_ne : (Cond.not (Cond.eq (stm 0) (stm 1))) ∈ flatC (Jvm.Cond.and given_1 narrow_1) ∨ (Cond.not (Cond.eq (stm 1) (stm 0))) ∈ flatC (Jvm.Cond.and given_1 narrow_1) := by decide +kernel
theorem st_cs : (Cond.eq (.static "java/lang/String" "COMPACT_STRINGS" "Z") (.int 1)) ∈ flatC (Jvm.Cond.and given_1 narrow_1) := by decide +kernel
theorem st_fm : (Cond.isRef (.static "jdk/internal/util/Preconditions" "SIOOBE_FORMATTER" "Ljava/util/function/BiFunction;")) ∈ flatC (Jvm.Cond.and given_1 narrow_1) := by decide +kernel
theorem nw_in : ∀ q ∈ NWL, Cond.methodLinkNest q.1 q.2.1 q.2.2 "SeaHair" ∈ lw_tbl := by
  intro q hq
  simp only [NWL, List.mem_cons, List.not_mem_nil, or_false] at hq
  rcases hq with rfl | rfl | rfl | rfl | rfl
  · exact tin_3 _ (List.mem_of_getElem? (i := 234) rfl)
  · exact tin_4 _ (List.mem_of_getElem? (i := 24) rfl)
  · exact tin_4 _ (List.mem_of_getElem? (i := 32) rfl)
  · exact tin_4 _ (List.mem_of_getElem? (i := 147) rfl)
  · exact tin_5 _ (List.mem_of_getElem? (i := 61) rfl)
set_option maxHeartbeats 4000000 in
theorem ctx_SF {s : State} {b : Nat} (hts : ∀ w ∈ lw_tbl, w.before #[Value.ref b] s = true) (hgv : (Jvm.Cond.and given_1 narrow_1).before #[Value.ref b] s = true) : ∃ sk : Nat → Nat, sk 40 = b ∧ SF s s.heap.size sk sk s := by
  have hs := flat_of_before _ hgv
  have hA : ∀ a : Nat, a < s.heap.size → ¬ (fun q => s.heap.size ≤ q) a := fun a h => Nat.not_le.mpr h
  obtain ⟨adK, adV, hS, hev⟩ := vk_Sof (args := #[Value.ref b]) (s := s) (N := 2) (tm := stm) (len := [SWORDS.length, SSIGNS.length]) (byt := SBYT) (A := fun q => s.heap.size ≤ q) (by decide +kernel) (fun i hi => hs _ (st_ex i hi)) (fun i hi => hs _ (st_co i hi)) (fun i hi => hs _ (st_ar i hi)) (fun i hi => hs _ (st_le i hi)) (fun i hi j hj => hs _ (st_el i hi j hj)) (fun i j hi hj hij => by
    rcases (show (i = 0 ∧ j = 1) ∨ (i = 1 ∧ j = 0) by omega) with ⟨rfl, rfl⟩ | ⟨rfl, rfl⟩
    · exact st_ne.imp (fun h => hs _ h) (fun h => hs _ h)
    · exact st_ne.symm.imp (fun h => hs _ h) (fun h => hs _ h)) hA
  have hZ := va_Zof (A := fun q => s.heap.size ≤ q) (hts (.laysStatic "java/lang/String" "COMPACT_STRINGS" "Z") (tin_2 _ (List.mem_of_getElem? (i := 202) rfl))) (hts (.initialized "java/lang/String") (TT_tbl ii_RJ0)) (va_eqt (hs _ st_cs)) hA
  have hF := va_Zqof (A := fun q => s.heap.size ≤ q) (hts (.laysStatic "jdk/internal/util/Preconditions" "SIOOBE_FORMATTER" "Ljava/util/function/BiFunction;") (tin_2 _ (List.mem_of_getElem? (i := 218) rfl))) (hts (.initialized "jdk/internal/util/Preconditions") (TT_tbl ii_RJ3)) (hs _ st_fm) hA
  have hr0 := vk_R.of (hts (.stringRef "SeaHair$Tokens" 71 SWORDS) (tin_2 _ (List.mem_of_getElem? (i := 192) rfl))) (hev 0 (by decide))
  have hr1 := vk_R.of (hts (.stringRef "SeaHair$Tokens" 56 SSIGNS) (tin_3 _ (List.mem_of_getElem? (i := 10) rfl))) (hev 1 (by decide))
  have hAO : va_AO "SeaHair$Sea" s := va_AO.of (hts (.arrayOver (.object "SeaHair$Sea")) (tin_2 _ (List.mem_of_getElem? (i := 28) rfl)))
  have key : ∀ (x20 x30 : Nat), va_Z "jdk/internal/util/Preconditions" "SIOOBE_FORMATTER" "Ljava/util/function/BiFunction;" (if x30 = 0 then Value.null else Value.ref x20) (fun q => s.heap.size ≤ q) s s.heap → ∃ sk : Nat → Nat, sk 40 = b ∧ SF s s.heap.size sk sk s := by
    intro x20 x30 hz
    refine ⟨fun i => if i = 0 then adK 0 else if i = 1 then adK 1 else if i = 10 then adV 0 else if i = 11 then adV 1 else if i = 20 then x20 else if i = 30 then x30 else b, rfl, ⟨fun i hi => ?_, fun i j hi hj he => ?_⟩, hZ, hr0, hr1, fun q hq => va_Nw.of rfl (hts _ (nw_in q hq)), ?_, hAO⟩
    · rcases (show i = 0 ∨ i = 1 by omega) with rfl | rfl
      · exact hS.1 0 (by decide)
      · exact hS.1 1 (by decide)
    · rcases (show i = 0 ∨ i = 1 by omega) with rfl | rfl <;> rcases (show j = 0 ∨ j = 1 by omega) with rfl | rfl <;> first | rfl | (exact hS.2 _ _ (by decide) (by decide) he)
    · by_cases h0 : x30 = 0
      · have e1 : tw s.heap.size (fun i => if i = 0 then adK 0 else if i = 1 then adK 1 else if i = 10 then adV 0 else if i = 11 then adV 1 else if i = 20 then x20 else if i = 30 then x30 else b) (zf (fun i => if i = 0 then adK 0 else if i = 1 then adK 1 else if i = 10 then adV 0 else if i = 11 then adV 1 else if i = 20 then x20 else if i = 30 then x30 else b)) = Value.null := by
          simp [zf, h0, tw]
        rw [e1]
        rw [if_pos h0] at hz
        exact hz
      · have e1 : tw s.heap.size (fun i => if i = 0 then adK 0 else if i = 1 then adK 1 else if i = 10 then adV 0 else if i = 11 then adV 1 else if i = 20 then x20 else if i = 30 then x30 else b) (zf (fun i => if i = 0 then adK 0 else if i = 1 then adK 1 else if i = 10 then adV 0 else if i = 11 then adV 1 else if i = 20 then x20 else if i = 30 then x30 else b)) = Value.ref x20 := by
          simp [zf, h0, tw]
        rw [e1]
        rw [if_neg h0] at hz
        exact hz
  rcases hF with h | ⟨t, h⟩
  · exact key 0 0 (by simpa using h)
  · exact key t 1 (by simpa using h)

theorem ctx_cl {s : State} {b : Nat} (hts : ∀ w ∈ lw_tbl, w.before #[Value.ref b] s = true) : ∃ (dC : Nat → ClassId) (dI : Nat → Nat → Nat), ∀ (k : Nat) (q : vw_C), vwCl[k]? = some q → u_Kn s q.1 q.2.1 q.2.2 (dC k) (dI k) := by
  obtain ⟨c0, i0, h0⟩ := u_known (C := RX0) (T := TX0) (N := 12) (n := 12) hts (fun w h => TT_tbl (inlX0 w h)) (hts (.instantiable RX0 12) (TT_tbl it_RX0))
  obtain ⟨c1, i1, h1⟩ := u_known (C := RX1) (T := TX1) (N := 3) (n := 3) hts (fun w h => TT_tbl (inlX1 w h)) (hts (.instantiable RX1 3) (TT_tbl it_RX1))
  obtain ⟨c2, i2, h2⟩ := u_known (C := RX2) (T := TX2) (N := 7) (n := 7) hts (fun w h => TT_tbl (inlX2 w h)) (hts (.instantiable RX2 7) (TT_tbl it_RX2))
  obtain ⟨c3, i3, h3⟩ := u_known (C := RX3) (T := TX3) (N := 6) (n := 6) hts (fun w h => TT_tbl (inlX3 w h)) (hts (.instantiable RX3 6) (TT_tbl it_RX3))
  obtain ⟨c4, i4, h4⟩ := u_known (C := RX4) (T := TX4) (N := 7) (n := 7) hts (fun w h => TT_tbl (inlX4 w h)) (hts (.instantiable RX4 7) (TT_tbl it_RX4))
  obtain ⟨c5, i5, h5⟩ := u_known (C := RX5) (T := TX5) (N := 5) (n := 5) hts (fun w h => TT_tbl (inlX5 w h)) (hts (.instantiable RX5 5) (TT_tbl it_RX5))
  obtain ⟨c6, i6, h6⟩ := u_known (C := RX6) (T := TX6) (N := 5) (n := 5) hts (fun w h => TT_tbl (inlX6 w h)) (hts (.instantiable RX6 5) (TT_tbl it_RX6))
  obtain ⟨c7, i7, h7⟩ := u_known (C := RX7) (T := TX7) (N := 8) (n := 8) hts (fun w h => TT_tbl (inlX7 w h)) (hts (.instantiable RX7 8) (TT_tbl it_RX7))
  obtain ⟨c8, i8, h8⟩ := u_known (C := RX8) (T := TX8) (N := 4) (n := 4) hts (fun w h => TT_tbl (inlX8 w h)) (hts (.instantiable RX8 4) (TT_tbl it_RX8))
  obtain ⟨c9, i9, h9⟩ := u_known (C := RX9) (T := TX9) (N := 14) (n := 14) hts (fun w h => TT_tbl (inlX9 w h)) (hts (.instantiable RX9 14) (TT_tbl it_RX9))
  obtain ⟨c10, i10, h10⟩ := u_known (C := RX10) (T := TX10) (N := 71) (n := 71) hts (fun w h => TT_tbl (inlX10 w h)) (hts (.instantiable RX10 71) (TT_tbl it_RX10))
  refine ⟨fun k => if k = 0 then c0 else if k = 1 then c1 else if k = 2 then c2 else if k = 3 then c3 else if k = 4 then c4 else if k = 5 then c5 else if k = 6 then c6 else if k = 7 then c7 else if k = 8 then c8 else if k = 9 then c9 else c10, fun k => if k = 0 then i0 else if k = 1 then i1 else if k = 2 then i2 else if k = 3 then i3 else if k = 4 then i4 else if k = 5 then i5 else if k = 6 then i6 else if k = 7 then i7 else if k = 8 then i8 else if k = 9 then i9 else i10, ?_⟩
  intro k q hq
  match k, hq with
  | 0, hq => cases hq; exact h0
  | 1, hq => cases hq; exact h1
  | 2, hq => cases hq; exact h2
  | 3, hq => cases hq; exact h3
  | 4, hq => cases hq; exact h4
  | 5, hq => cases hq; exact h5
  | 6, hq => cases hq; exact h6
  | 7, hq => cases hq; exact h7
  | 8, hq => cases hq; exact h8
  | 9, hq => cases hq; exact h9
  | 10, hq => cases hq; exact h10
  | k + 11, hq => simp [vwCl] at hq
theorem ctx_ar {s : State} {b : Nat} (hts : ∀ w ∈ lw_tbl, w.before #[Value.ref b] s = true) : ∃ cA : Nat → ClassId, ∀ (k : Nat) (q : ClassId × FieldType), (tyl cA)[k]? = some q → ArrOfT s q.1 q.2 ∧ va_RA s q.1 q.2 := by
  obtain ⟨a1, k1, p1, f1, g1, h1⟩ := Cond.arrayClass_spec (hts (.arrayClass .int) (TT_tbl ac_int))
  obtain ⟨a2, k2, p2, f2, g2, h2⟩ := Cond.arrayClass_spec (hts (.arrayClass .byte) (TT_tbl ac_byte))
  obtain ⟨a3, k3, p3, f3, g3, h3⟩ := Cond.arrayClass_spec (hts (.arrayClass .boolean) (TT_tbl ac_boolean))
  obtain ⟨a4, k4, p4, f4, g4, h4⟩ := Cond.arrayClass_spec (hts (.arrayClass .long) (TT_tbl ac_long))
  obtain ⟨p5, a5, k5, e5, -, g5, h5, f5⟩ := Cond.arrayOver_spec (hts (.arrayOver (.object "SeaHair$Sea")) (tin_2 _ (List.mem_of_getElem? (i := 28) rfl)))
  refine ⟨fun k => if k = 1 then a1 else if k = 2 then a2 else if k = 3 then a3 else if k = 4 then a4 else a5, ?_⟩
  intro k q hq
  match k, hq with
  | 0, hq => cases hq; exact ⟨fun n z => ⟨fun k h => (by cases h), k1, g1, p1, h1⟩, f1⟩
  | 1, hq => cases hq; exact ⟨fun n z => ⟨fun k h => (by cases h), k2, g2, p2, h2⟩, f2⟩
  | 2, hq => cases hq; exact ⟨fun n z => ⟨fun k h => (by cases h), k3, g3, p3, h3⟩, f3⟩
  | 3, hq => cases hq; exact ⟨fun n z => ⟨fun k h => (by cases h), k4, g4, p4, h4⟩, f4⟩
  | 4, hq => cases hq; exact ⟨fun n z => ⟨fun k h => (by cases h), k5, g5, p5, h5⟩, k5, p5, g5, h5, e5, f5⟩
  | k + 5, hq => simp [tyl] at hq
/-- the law, from its entry, over the pure function lawF -/
theorem whole_from {p : Program} {e : Env} {s : State} {m : MethodId} {below : List Frame} {meth : Method} {c : Code} (l : Launch) {b L : Nat} {xs : Nat → Int32} {r : Unit × St} (hF : lawF L xs = some r) (C0 : lw_At p s m meth c b L xs) : W p l e room_1 s m #[Value.ref b] below meth c s.heap [] 0 0 (lw_Z below #[Value.ref b] s) (entryFrame m ([Value.ref b] : List Value).toArray 4) := by
  obtain ⟨hx, hb, hr, hml, hown, hts, hX, hbl, hlocks, hgv⟩ := id C0
  obtain ⟨sk, hsk, hSF⟩ := ctx_SF hts hgv
  obtain ⟨dC, dI, hcl⟩ := ctx_cl hts
  obtain ⟨cA, har⟩ := ctx_ar hts
  have hl := lv_entry ([.ref b]) (n := 4) (Nat.le_of_ble_eq_true rfl)
  rw [lg_entry_eq]
  have X : CX (s, s.heap.size, (dC, dI), cA, (sk, sk, (fun _ _ => false), 0, (fun _ => False)), p, l, e, room_1, s, m, #[Value.ref b], below, meth, c) cL_law 4 RL ret := ⟨hx, hb, hml, hown, fun w hw => hts w (TT_tbl hw), ⟨hcl, har⟩, hlocks, rfl, hr, hSF, fun a h => h.elim⟩
  have h0 := t_law_0 X rfl (by show #[Value.ref b] = #[Value.ref (sk 40)]; rw [hsk]) rfl (fun _ h => h) (L := L) (xs := xs) ⟨by show va_X (sk 40) L xs s s.heap; rw [hsk]; exact hX, by show sk 40 < s.heap.size; rw [hsk]; exact hbl, by show ¬ (s.heap.size ≤ sk 40); rw [hsk]; exact Nat.not_le.mpr hbl⟩ r hF s.heap _ [] ⟨fun k q h => by simp [wz] at h, va_S.rf, Nat.le_refl _⟩ ⟨hl.1.trans hml.symm, hl.2.1, fun i v hi => ?_⟩
  · exact h0
  · match i, hi with
    | 0, hi =>
      cases hi
      have := hl.2.2 (0, .ref b) (by simp [lv_args])
      show _ = some (Slot.val (Value.ref (sk 40)))
      rw [hsk]
      exact this
    | 1, hi => cases hi
    | 2, hi => cases hi
    | 3, hi => cases hi
    | i + 4, hi => simp at hi

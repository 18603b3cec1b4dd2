/-! the class's two texts, and the JDK's methods over them -/
def sl (k : Nat) : Nat := ([SWORDS.length, SSIGNS.length]).getD k 0
def sc (k j : Nat) : Int32 := (SBYT.getD k []).getD j 0
def gq (ty : FieldType) (v : Int32) : Option Int32 := if narrow ty (.int v) = .int v then some v else none
theorem enl_q {a b : Int32} {v : Value} (h : v.category = 1) : enl [.int a, .int b, v] = [some (.int a), some (.int b), some v] := by
  have h2 : ¬ v.category = 2 := by omega
  have e1 : enl [v] = [some v] := by simp only [enl, if_neg h2]
  have e2 : enl [.int b, v] = some (.int b) :: enl [v] := rfl
  have e3 : enl [.int a, .int b, v] = some (.int a) :: enl [.int b, v] := rfl
  rw [e3, e2, e1]
section TS
variable {K : KK} {cc : ByteArray} {nL : Nat} {own : String} {rt : Option FieldType} {pc : Nat} {ls : List (Option Value)} {st : List Value} {S : St} {ρ : Type} {Zr : ρ → State → Prop} {M : Mm} {n k w : Nat} {e : Option ρ}
theorem T_sldc0 (X : CX K cc nL RX6 rt) (hd : decode cc pc = .ok (.ldc 71, 2)) (h : JX K Zr (pc + 2) ls (.retAddr 0 :: st) M n k w e) : JX K Zr pc ls st M n k w e :=
  fun r hr H la locs hE hL => va_ldcS (tx := SWORDS) X.1 X.2.1 X.2.2.2.1 X.2.2.2.2.2.2.2.2.2.1.2.2.1 hd (h r hr H la locs hE hL)
theorem T_sldc1 (X : CX K cc nL RX6 rt) (hd : decode cc pc = .ok (.ldc 56, 2)) (h : JX K Zr (pc + 2) ls (.retAddr 1 :: st) M n k w e) : JX K Zr pc ls st M n k w e :=
  fun r hr H la locs hE hL => va_ldcS (tx := SSIGNS) X.1 X.2.1 X.2.2.2.1 X.2.2.2.2.2.2.2.2.2.1.2.2.2.1 hd (h r hr H la locs hE hL)
theorem Z_aload_n (X : CX K cc nL own rt) {q : Fin 4} {i : Nat} {x : Nat} (hd : decode cc pc = .ok (.aload_n q, 1)) (hi : (q : Nat) = i) (hl : ls[i]? = some (some (.retAddr x))) (h : JX K Zr (pc + 1) ls (.retAddr x :: st) M n k w e) : JX K Zr pc ls st M n k w e :=
  fun r hr H la locs hE hL => lv_aload_n X.1 X.2.1 hd hi (hL.2.2 _ _ hl) (h r hr H la locs hE hL)
theorem Z_getV (X : CX K cc nL own rt) {k0 idx : Nat} (hk : k0 < 2) (hl : Cond.fieldLink own idx "java/lang/String" "value" "[B" ∈ TT) (hd : decode cc pc = .ok (.getfield idx, 3)) (h : JX K Zr (pc + 3) ls (.retAddr (10 + k0) :: st) M n k w e) : JX K Zr pc ls (.retAddr k0 :: st) M n k w e := by
  intro r hr H la locs hE hL
  obtain ⟨cf, kc', i, f, cell, h1, h2, h3, h4, h5, -⟩ := ((X.2.2.2.2.2.2.2.2.2.1.1.1 k0 hk).2.2.1).kept hE.2.1.2.1
  exact W.getf X.1 X.2.1 X.2.2.2.1 (X.2.2.2.2.1 _ hl) h1 h2 h3 h4 h5 (g := F0 (km K) pc la _) rfl rfl hd (h r hr H la locs hE hL)
theorem Z_getC (X : CX K cc nL own rt) {k0 idx : Nat} (hk : k0 < 2) (hl : Cond.fieldLink own idx "java/lang/String" "coder" "B" ∈ TT) (hd : decode cc pc = .ok (.getfield idx, 3)) (h : JX K Zr (pc + 3) ls (.int 0 :: st) M n k w e) : JX K Zr pc ls (.retAddr k0 :: st) M n k w e := by
  intro r hr H la locs hE hL
  obtain ⟨cf, kc', i, f, cell, h1, h2, h3, h4, h5, -⟩ := ((X.2.2.2.2.2.2.2.2.2.1.1.1 k0 hk).2.1).kept hE.2.1.2.1
  exact W.getf X.1 X.2.1 X.2.2.2.1 (X.2.2.2.2.1 _ hl) h1 h2 h3 h4 h5 (g := F0 (km K) pc la _) rfl rfl hd (h r hr H la locs hE hL)
theorem Z_alen (X : CX K cc nL own rt) {k0 : Nat} (hk : k0 < 2) (hd : decode cc pc = .ok (.arraylength, 1)) (h : JX K Zr (pc + 1) ls (.int (Int32.ofNat (sl k0)) :: st) M n k w e) : JX K Zr pc ls (.retAddr (10 + k0) :: st) M n k w e := by
  intro r hr H la locs hE hL
  obtain ⟨cell, h1, h2, h3, h4, h5, h6, -⟩ := ((X.2.2.2.2.2.2.2.2.2.1.1.1 k0 hk).2.2.2).kept hE.2.1.2.1
  exact W.alen X.1 X.2.1 h1 h2 h5 (g := F0 (km K) pc la _) rfl rfl hd (h r hr H la locs hE hL)
theorem Z_bald (X : CX K cc nL own rt) {k0 : Nat} {i : Int32} {f : Nat → Option ρ} (hk : k0 < 2) (hd : decode cc pc = .ok (.baload, 1)) (h : ∀ j, JX K Zr (pc + 1) ls (.int (sc k0 j) :: st) M n k w (f j)) : JX K Zr pc ls (.int i :: .retAddr (10 + k0) :: st) M n k w ((ix i (sl k0)).bind f) := by
  intro r hr H la locs hE hL
  obtain ⟨j, hj, hf⟩ := Option.bind_eq_some_iff.mp hr
  obtain ⟨cell, h1, h2, h3, h4, h5, h6, -⟩ := ((X.2.2.2.2.2.2.2.2.2.1.1.1 k0 hk).2.2.2).kept hE.2.1.2.1
  obtain ⟨g1, g2⟩ := ix_in hj
  have g3 := vp_in_iff.mp g1
  have hj3 : i.toInt.toNat = j := g2
  have hjn : j < sl k0 := by omega
  have hp := h j r hf H la locs hE hL
  refine W.bald X.1 X.2.1 h1 h2 h3 (fun q => ?_) (by rw [g2]; exact h6 j hjn) (g := F0 (km K) pc la _) rfl rfl hd hp
  rcases q with q | q
  · exact g1 (Or.inl q)
  · rw [g2] at q
    have h4' : sl k0 ≤ cell.slots.size := h4
    omega
theorem Z_gets (X : CX K cc nL own rt) {idx : Nat} (hl : Cond.fieldLink own idx "java/lang/String" "COMPACT_STRINGS" "Z" ∈ TT) (hd : decode cc pc = .ok (.getstatic idx, 3)) (h : JX K Zr (pc + 3) ls (.int 1 :: st) M n k w e) : JX K Zr pc ls st M n k w e := by
  intro r hr H la locs hE hL
  obtain ⟨cf, kf, fi, f, a, cell, h1, h2, h3, h4, h5, h6, h7, -⟩ := (X.2.2.2.2.2.2.2.2.2.1.2.1).kept hE.2.1.2.1
  exact W.gets X.1 X.2.1 X.2.2.2.1 (X.2.2.2.2.1 _ hl) h1 h2 h3 h4 h5 (fun q => by rw [q] at h6; cases h6) h7 (g := F0 (km K) pc la _) rfl hd (h r hr H la locs hE hL)
theorem Z_getf (X : CX K cc nL own rt) {idx : Nat} (hl : Cond.fieldLink own idx "jdk/internal/util/Preconditions" "SIOOBE_FORMATTER" "Ljava/util/function/BiFunction;" ∈ TT) (hd : decode cc pc = .ok (.getstatic idx, 3)) (h : JX K Zr (pc + 3) ls (zf (kK K) :: st) M n k w e) : JX K Zr pc ls st M n k w e := by
  intro r hr H la locs hE hL
  obtain ⟨cf, kf, fi, f, a, cell, h1, h2, h3, h4, h5, h6, h7, -⟩ := (X.2.2.2.2.2.2.2.2.2.1.2.2.2.2.2.1).kept hE.2.1.2.1
  exact W.gets X.1 X.2.1 X.2.2.2.1 (X.2.2.2.2.1 _ hl) h1 h2 h3 h4 h5 (fun q => by rw [q] at h6; cases h6) h7 (g := F0 (km K) pc la _) rfl hd (h r hr H la locs hE hL)
theorem zf_cat (sk : Nat → Nat) : (zf sk).category = 1 := by unfold zf; split <;> rfl
theorem T_nret {v : Int32} {ty : FieldType} (w : WT (kDn K) S.2.2) (X : CX K cc nL own (some ty)) (hd : decode cc pc = .ok (.ireturn, 1)) : JX K (Zm K (fun v : Int32 => some (.int v))) pc ls [.int v] (rwN (kN K) S) (kn K) 0 0 ((gq ty v).bind fun v => some (v, S)) := by
  intro r hr H la locs hE hL
  obtain ⟨u, hu, hr⟩ := Option.bind_eq_some_iff.mp hr
  unfold gq at hu
  split at hu
  next hc =>
    cases hu
    exact T_zret w X hc hd r hr H la locs hE hL
  next => cases hu
variable {α : Type} {vr : α → Option Value} {e1 : Option (α × St)} {f : α → St → Option ρ}
theorem T_callZ (w : WT (kDn K) S.2.2) (X : CX K cc nL own rt) {y : MethodName} {bytes : ByteArray} {maxL d idx k0 : Nat} {ret : Option FieldType} {As : List Value} {st0 : List Value} (hM : CM (kG K) y bytes maxL ret d (.retAddr k0 :: As) S vr e1) (hyc : y.cls = "java/lang/String") (hk0 : k0 < 2) (hl : Cond.methodLink own idx y ∈ TT) (hin : Cond.instanceMethod y ∈ TT) (hse : Cond.selects y.cls y y ∈ TT) (hini : Cond.initialized y.cls ∈ TT) (hco : Cond.code y bytes maxL ret ∈ TT)
    (hy : y.cls ≠ "java/lang/invoke/MethodHandle" ∧ y.cls ≠ "java/lang/invoke/VarHandle" ∧ (parseMethodDescriptor y.desc).map (fun d => d.parameters.length) = some As.length) (hR : d + 1 ≤ (kR K).frames ∧ 8 + (maxL + 11) + 30 * d ≤ (kR K).locals) (hst0 : st0 = As.reverse ++ .retAddr k0 :: st) (hsum : (st.map fun v => v.category).sum ≤ 8) (hd : decode cc pc = .ok (.invokevirtual idx, 3))
    (h : ∀ (r : α) (S' : St), e1 = some (r, S') → WT (kDn K) S'.2.2 → JX K Zr (pc + 3) ls ((vr r).toList ++ st) (rwN (kN K) S') (kn K) 0 0 (f r S')) : JX K Zr pc ls st0 (rwN (kN K) S) (kn K) 0 0 (bd e1 f) := by
  subst hst0
  intro r hr H la locs hE hL
  obtain ⟨⟨x, S'⟩, hx, hf⟩ := Option.bind_eq_some_iff.mp hr
  refine run_to (rest := st.map (tv K)) (va_runV (As := As.map (tv K)) (Ts := TT) (nL := nL) (C := y.cls) (b := kK K k0) ⟨X.1, X.2.1, X.2.2.1, X.2.2.2.1, X.2.2.2.2.1⟩ (hM _ hx) ⟨callB_of As.length X.2.2.2.2.1 (GoodTT hco) rfl rfl rfl (X.2.2.2.2.1 _ hini) (X.2.2.2.2.1 _ hl) hy hR, X.2.2.2.2.1 _ hin, X.2.2.2.2.1 _ hse⟩ ⟨PreM_blind, (by rw [hyc]; obtain ⟨cell, g1, g2, g3, -⟩ := ((X.2.2.2.2.2.2.2.2.2.1.1.1 k0 hk0).1).kept hE.2.1.2.1; exact ⟨cell, g1, g2, g3⟩), fun U hU hW => ⟨rfl, PreM_at X w hE U hU hW⟩⟩ rfl (by simp) (hL.1.trans X.2.2.1) (by simp [F0]; rfl) (lv_room (by rw [tsum]; exact hsum)) hd ⟨Nat.zero_le _, Nat.zero_le _⟩) ?_
  intro v st₀ t L hL' hq
  obtain ⟨hv, hq⟩ := hq
  cases hv
  have := h x S' hx hq.2.2.2.2.2.2.2 r hf t.heap la (locs ++ L) (Em_back (v := none) hE hL' hq) hL
  have hst : (((vr x).toList ++ st).map (tv K)) = ((vr x).map (tg (kG K))).toList ++ st.map (tv K) := by
    cases vr x <;> simp
  rw [hst] at this
  exact this
end TS

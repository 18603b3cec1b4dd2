def OD (D : Nat → Prop) {α : Type} (e : Option (α × St)) (S : St) : Prop := ∀ r, e = some r → r.2.2.2 = S.2.2 ∧ ∀ a, ¬ D a → r.2.1 a = S.1 a ∧ r.2.2.1 a = S.2.1 a
section ODR
variable {D : Nat → Prop} {α β : Type} {S : St}
theorem OD_none : OD D (none : Option (α × St)) S := fun r h => by cases h
theorem OD_some {v : α} : OD D (some (v, S)) S := fun r h => by cases h; exact ⟨rfl, fun _ _ => ⟨rfl, rfl⟩⟩
theorem OD_nm {v : β} {f : β → Option (α × St)} (h : ∀ x, OD D (f x) S) : OD D (nm v f) S := h v
theorem OD_ix {i : Int32} {n : Nat} {f : Nat → Option (α × St)} (h : ∀ j, OD D (f j) S) : OD D ((ix i n).bind f) S := fun r hr => by
  obtain ⟨j, -, hf⟩ := Option.bind_eq_some_iff.mp hr
  exact h j r hf
theorem OD_ob {o : Option β} {f : β → Option (α × St)} (h : ∀ j, OD D (f j) S) : OD D (o.bind f) S := fun r hr => by
  obtain ⟨j, -, hf⟩ := Option.bind_eq_some_iff.mp hr
  exact h j r hf
theorem OD_ixq (w : WT D S.2.2) {a len : Nat} (ha : KA D a (5, len)) {i : Int32} {f : Nat → Option (α × St)} (h : ∀ j, KA D (S.2.2 a j) (0, 5) → OD D (f j) S) : OD D ((ix i len).bind f) S := fun r hr => by
  obtain ⟨j, hj, hf⟩ := Option.bind_eq_some_iff.mp hr
  have h1 := ix_in hj
  have h2 := vp_in_iff.mp h1.1
  have h3 : i.toInt.toNat = j := h1.2
  exact h j (w.2 a len ha j (by omega)) r hf
theorem OD_ite {c : Prop} [Decidable c] {e1 e2 : Option (α × St)} (h1 : OD D e1 S) (h2 : OD D e2 S) : OD D (if c then e1 else e2) S := by split <;> assumption
theorem OD_grd {c : Prop} [Decidable c] {e1 : Option (α × St)} (h1 : c → OD D e1 S) : OD D (if c then e1 else none) S := by
  split
  next h => exact h1 h
  next => exact OD_none
theorem OD_tr {S1 : St} {e : Option (α × St)} (hr : S1.2.2 = S.2.2) (hf : ∀ a, ¬ D a → S1.1 a = S.1 a ∧ S1.2.1 a = S.2.1 a) (h : OD D e S1) : OD D e S := fun r hr' => ⟨(h r hr').1.trans hr, fun a ha => ⟨((h r hr').2 a ha).1.trans (hf a ha).1, ((h r hr').2 a ha).2.trans (hf a ha).2⟩⟩
theorem OD_nmI {a i : Nat} {x : Int32} {f : St → Option (α × St)} (ha : D a) (h : ∀ S1 : St, S1.2.2 = S.2.2 → OD D (f S1) S1) : OD D (nm (sI S a i x) f) S :=
  OD_tr (S1 := sI S a i x) rfl (fun b hb => ⟨uu_ne (fun q => hb (q ▸ ha)), rfl⟩) (h (sI S a i x) rfl)
theorem OD_nmL {a i : Nat} {x : Int64} {f : St → Option (α × St)} (ha : D a) (h : ∀ S1 : St, S1.2.2 = S.2.2 → OD D (f S1) S1) : OD D (nm (sL S a i x) f) S :=
  OD_tr (S1 := sL S a i x) rfl (fun b hb => ⟨rfl, uu_ne (fun q => hb (q ▸ ha))⟩) (h (sL S a i x) rfl)
theorem OD_nmC {a0 a1 m : Nat} {f : St → Option (α × St)} (ha : D a1) (h : ∀ S1 : St, S1.2.2 = S.2.2 → OD D (f S1) S1) : OD D (nm (cpI S a0 a1 m) f) S :=
  OD_tr (S1 := cpI S a0 a1 m) rfl (fun b hb => ⟨by have : b ≠ a1 := fun q => hb (q ▸ ha); simp [cpI, this], rfl⟩) (h (cpI S a0 a1 m) rfl)
theorem OD_bd {e1 : Option (β × St)} {f : β → St → Option (α × St)} (h1 : OD D e1 S) (h : ∀ (r : β) (S1 : St), S1.2.2 = S.2.2 → OD D (f r S1) S1) : OD D (bd e1 f) S := fun r hr => by
  obtain ⟨⟨x, S1⟩, hx, hf⟩ := Option.bind_eq_some_iff.mp hr
  have g := h1 _ hx
  exact OD_tr g.1 g.2 (h x S1 g.1) r hf
end ODR
set_option maxRecDepth 20000 in
theorem o_J6_bitCount_0f7a4 {D : Nat → Prop} (v0 : Int32) (S : St) (w : WT D S.2.2) : OD D (f_J6_bitCount_0f7a4 v0 S) S := by
  unfold f_J6_bitCount_0f7a4
  refine OD_nm (fun x1 => ?_)
  refine OD_nm (fun x2 => ?_)
  refine OD_nm (fun x3 => ?_)
  refine OD_nm (fun x4 => ?_)
  refine OD_nm (fun x5 => ?_)
  exact OD_some
set_option maxRecDepth 20000 in
theorem ob_J7_fill_53178_5 {D : Nat → Prop} (l0 : Nat) : ∀ (fu : Nat) (v0 : Nat) (kv0 : KA D v0 (1, l0)) (v1 : Int32) (v2 : Int32) (v3 : Int32) (S : St), WT D S.2.2 → OD D (b_J7_fill_53178_5 l0 fu v0 v1 v2 v3 S) S := by
  intro fu
  induction fu with
  | zero => intro v0 kv0 v1 v2 v3 S w; exact OD_none
  | succ fu ih =>
    intro v0 kv0 v1 v2 v3 S w
    rw [b_J7_fill_53178_5]
    refine OD_ite ?_ ?_
    · exact OD_some
    · refine OD_ix (fun j1 => ?_)
      refine OD_nmI (kv0).2 (fun S2 hS2 => ?_)
      have wS2 : WT D S2.2.2 := by rw [hS2]; exact w
      clear hS2
      refine OD_nm (fun x3 => ?_)
      exact ih v0 kv0 v1 x3 v3 S2 wS2
set_option maxRecDepth 20000 in
theorem o_J7_fill_53178 {D : Nat → Prop} (l0 : Nat) (v0 : Nat) (kv0 : KA D v0 (1, l0)) (v1 : Int32) (S : St) (w : WT D S.2.2) : OD D (f_J7_fill_53178 l0 v0 v1 S) S := by
  unfold f_J7_fill_53178
  refine OD_nm (fun x1 => ?_)
  exact ob_J7_fill_53178_5 l0 FU v0 kv0 v1 (0 : Int32) x1 S w
set_option maxRecDepth 20000 in
theorem o_X2_open {D : Nat → Prop} (v0 : Nat) (kv0 : KA D v0 (0, 2)) (v1 : Int32) (S : St) (w : WT D S.2.2) : OD D (f_X2_open v0 v1 S) S := by
  unfold f_X2_open
  refine OD_ix (fun j1 => ?_)
  refine OD_nmI (w.1 _ _ kv0 4 _ rfl).2 (fun S2 hS2 => ?_)
  have wS2 : WT D S2.2.2 := by rw [hS2]; exact w
  clear hS2
  refine OD_ix (fun j3 => ?_)
  refine OD_nmI (wS2.1 _ _ kv0 3 _ rfl).2 (fun S4 hS4 => ?_)
  have wS4 : WT D S4.2.2 := by rw [hS4]; exact wS2
  clear hS4
  exact OD_some
set_option maxRecDepth 20000 in
theorem o_X2_put {D : Nat → Prop} (v0 : Nat) (kv0 : KA D v0 (0, 2)) (v1 : Int32) (S : St) (w : WT D S.2.2) : OD D (f_X2_put v0 v1 S) S := by
  unfold f_X2_put
  refine OD_ite ?_ ?_
  · exact OD_some
  · refine OD_ix (fun j1 => ?_)
    refine OD_nmI (w.1 _ _ kv0 1 _ rfl).2 (fun S2 hS2 => ?_)
    have wS2 : WT D S2.2.2 := by rw [hS2]; exact w
    clear hS2
    refine OD_nmI (kv0).2 (fun S3 hS3 => ?_)
    have wS3 : WT D S3.2.2 := by rw [hS3]; exact wS2
    clear hS3
    exact OD_some
set_option maxRecDepth 20000 in
theorem o_X2_endPiece {D : Nat → Prop} (v0 : Nat) (kv0 : KA D v0 (0, 2)) (v1 : Int32) (S : St) (w : WT D S.2.2) : OD D (f_X2_endPiece v0 v1 S) S := by
  unfold f_X2_endPiece
  refine OD_ix (fun j1 => ?_)
  refine OD_ite ?_ ?_
  · exact OD_some
  · refine OD_ix (fun j2 => ?_)
    refine OD_ix (fun j3 => ?_)
    refine OD_nmI (w.1 _ _ kv0 4 _ rfl).2 (fun S4 hS4 => ?_)
    have wS4 : WT D S4.2.2 := by rw [hS4]; exact w
    clear hS4
    refine OD_ix (fun j5 => ?_)
    refine OD_ix (fun j6 => ?_)
    refine OD_nmI (wS4.1 _ _ kv0 3 _ rfl).2 (fun S7 hS7 => ?_)
    have wS7 : WT D S7.2.2 := by rw [hS7]; exact wS4
    clear hS7
    exact OD_some
set_option maxRecDepth 20000 in
theorem o_X2_putUntold {D : Nat → Prop} (v0 : Nat) (kv0 : KA D v0 (0, 2)) (v1 : Int32) (v2 : Int32) (S : St) (w : WT D S.2.2) : OD D (f_X2_putUntold v0 v1 v2 S) S := by
  unfold f_X2_putUntold
  refine OD_bd (o_X2_open v0 kv0 v1 S w) (fun _ S1 hS1 => ?_)
  have wS1 : WT D S1.2.2 := by rw [hS1]; exact w
  clear hS1
  refine OD_bd (o_X2_put v0 kv0 v2 S1 wS1) (fun _ S3 hS3 => ?_)
  have wS3 : WT D S3.2.2 := by rw [hS3]; exact wS1
  clear hS3
  refine OD_bd (o_X2_endPiece v0 kv0 v1 S3 wS3) (fun _ S5 hS5 => ?_)
  have wS5 : WT D S5.2.2 := by rw [hS5]; exact wS3
  clear hS5
  exact OD_some
set_option maxRecDepth 20000 in
theorem o_X2_clearAll {D : Nat → Prop} (v0 : Nat) (kv0 : KA D v0 (0, 2)) (S : St) (w : WT D S.2.2) : OD D (f_X2_clearAll v0 S) S := by
  unfold f_X2_clearAll
  refine OD_nmI (kv0).2 (fun S1 hS1 => ?_)
  have wS1 : WT D S1.2.2 := by rw [hS1]; exact w
  clear hS1
  refine OD_bd (o_X2_putUntold v0 kv0 (0 : Int32) (10000 : Int32) S1 wS1) (fun _ S2 hS2 => ?_)
  have wS2 : WT D S2.2.2 := by rw [hS2]; exact wS1
  clear hS2
  refine OD_bd (o_X2_putUntold v0 kv0 (1 : Int32) (10004 : Int32) S2 wS2) (fun _ S4 hS4 => ?_)
  have wS4 : WT D S4.2.2 := by rw [hS4]; exact wS2
  clear hS4
  refine OD_bd (o_X2_putUntold v0 kv0 (2 : Int32) (10000 : Int32) S4 wS4) (fun _ S6 hS6 => ?_)
  have wS6 : WT D S6.2.2 := by rw [hS6]; exact wS4
  clear hS6
  refine OD_bd (o_X2_putUntold v0 kv0 (3 : Int32) (0 : Int32) S6 wS6) (fun _ S8 hS8 => ?_)
  have wS8 : WT D S8.2.2 := by rw [hS8]; exact wS6
  clear hS8
  exact OD_some
set_option maxRecDepth 20000 in
theorem o_X5_clearAll {D : Nat → Prop} (v0 : Nat) (kv0 : KA D v0 (0, 5)) (S : St) (w : WT D S.2.2) : OD D (f_X5_clearAll v0 S) S := by
  unfold f_X5_clearAll
  refine OD_bd (o_J7_fill_53178 36 (S.2.2 v0 0) (w.1 _ _ kv0 0 _ rfl) (0 : Int32) S w) (fun _ S1 hS1 => ?_)
  have wS1 : WT D S1.2.2 := by rw [hS1]; exact w
  clear hS1
  refine OD_nmI (kv0).2 (fun S3 hS3 => ?_)
  have wS3 : WT D S3.2.2 := by rw [hS3]; exact wS1
  clear hS3
  refine OD_nmI (kv0).2 (fun S4 hS4 => ?_)
  have wS4 : WT D S4.2.2 := by rw [hS4]; exact wS3
  clear hS4
  refine OD_nmI (kv0).2 (fun S5 hS5 => ?_)
  have wS5 : WT D S5.2.2 := by rw [hS5]; exact wS4
  clear hS5
  refine OD_nmI (kv0).2 (fun S6 hS6 => ?_)
  have wS6 : WT D S6.2.2 := by rw [hS6]; exact wS5
  clear hS6
  exact OD_some
set_option maxRecDepth 20000 in
theorem o_X0_clearAll {D : Nat → Prop} (v0 : Nat) (kv0 : KA D v0 (0, 0)) (S : St) (w : WT D S.2.2) : OD D (f_X0_clearAll v0 S) S := by
  unfold f_X0_clearAll
  refine OD_nmI (kv0).2 (fun S1 hS1 => ?_)
  have wS1 : WT D S1.2.2 := by rw [hS1]; exact w
  clear hS1
  refine OD_nmI (kv0).2 (fun S2 hS2 => ?_)
  have wS2 : WT D S2.2.2 := by rw [hS2]; exact wS1
  clear hS2
  refine OD_nmI (kv0).2 (fun S3 hS3 => ?_)
  have wS3 : WT D S3.2.2 := by rw [hS3]; exact wS2
  clear hS3
  refine OD_nmI (kv0).2 (fun S4 hS4 => ?_)
  have wS4 : WT D S4.2.2 := by rw [hS4]; exact wS3
  clear hS4
  refine OD_nmI (kv0).2 (fun S5 hS5 => ?_)
  have wS5 : WT D S5.2.2 := by rw [hS5]; exact wS4
  clear hS5
  refine OD_bd (o_X2_clearAll (S5.2.2 v0 10) (wS5.1 _ _ kv0 10 _ rfl) S5 wS5) (fun _ S6 hS6 => ?_)
  have wS6 : WT D S6.2.2 := by rw [hS6]; exact wS5
  clear hS6
  refine OD_bd (o_X5_clearAll (S6.2.2 v0 11) (wS6.1 _ _ kv0 11 _ rfl) S6 wS6) (fun _ S8 hS8 => ?_)
  have wS8 : WT D S8.2.2 := by rw [hS8]; exact wS6
  clear hS8
  exact OD_some
set_option maxRecDepth 20000 in
theorem ob_X0_indexOf_3 {D : Nat → Prop} (l0 : Nat) : ∀ (fu : Nat) (v0 : Nat) (kv0 : KA D v0 (4, l0)) (v1 : Int32) (v2 : Int64) (v4 : Int32) (S : St), WT D S.2.2 → OD D (b_X0_indexOf_3 l0 fu v0 v1 v2 v4 S) S := by
  intro fu
  induction fu with
  | zero => intro v0 kv0 v1 v2 v4 S w; exact OD_none
  | succ fu ih =>
    intro v0 kv0 v1 v2 v4 S w
    rw [b_X0_indexOf_3]
    refine OD_ite ?_ ?_
    · exact OD_some
    · refine OD_ite ?_ ?_
      · exact OD_some
      · refine OD_ix (fun j1 => ?_)
        refine OD_ite ?_ ?_
        · exact OD_some
        · refine OD_nm (fun x2 => ?_)
          exact ih v0 kv0 v1 v2 x2 S w
set_option maxRecDepth 20000 in
theorem o_X0_indexOf {D : Nat → Prop} (l0 : Nat) (v0 : Nat) (kv0 : KA D v0 (4, l0)) (v1 : Int32) (v2 : Int64) (S : St) (w : WT D S.2.2) : OD D (f_X0_indexOf l0 v0 v1 v2 S) S := by
  unfold f_X0_indexOf
  exact ob_X0_indexOf_3 l0 FU v0 kv0 v1 v2 (0 : Int32) S w
set_option maxRecDepth 20000 in
theorem o_X0_mermaidNamed {D : Nat → Prop} (v0 : Nat) (kv0 : KA D v0 (0, 0)) (v1 : Int64) (S : St) (w : WT D S.2.2) : OD D (f_X0_mermaidNamed v0 v1 S) S := by
  unfold f_X0_mermaidNamed
  refine OD_bd (o_X0_indexOf 4 (S.2.2 v0 5) (w.1 _ _ kv0 5 _ rfl) (S.1 v0 0) v1 S w) (fun r2 S1 hS1 => ?_)
  have wS1 : WT D S1.2.2 := by rw [hS1]; exact w
  clear hS1
  exact OD_some
set_option maxRecDepth 20000 in
theorem o_X0_personNamed {D : Nat → Prop} (v0 : Nat) (kv0 : KA D v0 (0, 0)) (v1 : Int64) (S : St) (w : WT D S.2.2) : OD D (f_X0_personNamed v0 v1 S) S := by
  unfold f_X0_personNamed
  refine OD_bd (o_X0_indexOf 6 (S.2.2 v0 6) (w.1 _ _ kv0 6 _ rfl) (S.1 v0 1) v1 S w) (fun r2 S1 hS1 => ?_)
  have wS1 : WT D S1.2.2 := by rw [hS1]; exact w
  clear hS1
  exact OD_some
set_option maxRecDepth 20000 in
theorem o_X0_addMermaid {D : Nat → Prop} (v0 : Nat) (kv0 : KA D v0 (0, 0)) (v1 : Int64) (v3 : Int32) (v4 : Int32) (v5 : Int32) (v6 : Int32) (S : St) (w : WT D S.2.2) : OD D (f_X0_addMermaid v0 v1 v3 v4 v5 v6 S) S := by
  unfold f_X0_addMermaid
  refine OD_ite ?_ ?_
  · exact OD_some
  · refine OD_ix (fun j1 => ?_)
    refine OD_nmL (w.1 _ _ kv0 5 _ rfl).2 (fun S2 hS2 => ?_)
    have wS2 : WT D S2.2.2 := by rw [hS2]; exact w
    clear hS2
    refine OD_ix (fun j3 => ?_)
    refine OD_nmI (wS2.1 _ _ (wS2.1 _ _ kv0 11 _ rfl) 0 _ rfl).2 (fun S4 hS4 => ?_)
    have wS4 : WT D S4.2.2 := by rw [hS4]; exact wS2
    clear hS4
    refine OD_ix (fun j5 => ?_)
    refine OD_nmI (wS4.1 _ _ (wS4.1 _ _ kv0 11 _ rfl) 0 _ rfl).2 (fun S6 hS6 => ?_)
    have wS6 : WT D S6.2.2 := by rw [hS6]; exact wS4
    clear hS6
    refine OD_ix (fun j7 => ?_)
    refine OD_nmI (wS6.1 _ _ (wS6.1 _ _ kv0 11 _ rfl) 0 _ rfl).2 (fun S8 hS8 => ?_)
    have wS8 : WT D S8.2.2 := by rw [hS8]; exact wS6
    clear hS8
    refine OD_ix (fun j9 => ?_)
    refine OD_nmI (wS8.1 _ _ (wS8.1 _ _ kv0 11 _ rfl) 0 _ rfl).2 (fun S10 hS10 => ?_)
    have wS10 : WT D S10.2.2 := by rw [hS10]; exact wS8
    clear hS10
    refine OD_nmI (kv0).2 (fun S11 hS11 => ?_)
    have wS11 : WT D S11.2.2 := by rw [hS11]; exact wS10
    clear hS11
    exact OD_some
set_option maxRecDepth 20000 in
theorem o_X0_addPerson {D : Nat → Prop} (v0 : Nat) (kv0 : KA D v0 (0, 0)) (v1 : Int64) (v3 : Int32) (v4 : Int32) (v5 : Int32) (S : St) (w : WT D S.2.2) : OD D (f_X0_addPerson v0 v1 v3 v4 v5 S) S := by
  unfold f_X0_addPerson
  refine OD_ite ?_ ?_
  · exact OD_some
  · refine OD_ix (fun j1 => ?_)
    refine OD_nmL (w.1 _ _ kv0 6 _ rfl).2 (fun S2 hS2 => ?_)
    have wS2 : WT D S2.2.2 := by rw [hS2]; exact w
    clear hS2
    refine OD_ix (fun j3 => ?_)
    refine OD_nmI (wS2.1 _ _ (wS2.1 _ _ kv0 11 _ rfl) 0 _ rfl).2 (fun S4 hS4 => ?_)
    have wS4 : WT D S4.2.2 := by rw [hS4]; exact wS2
    clear hS4
    refine OD_ix (fun j5 => ?_)
    refine OD_nmI (wS4.1 _ _ (wS4.1 _ _ kv0 11 _ rfl) 0 _ rfl).2 (fun S6 hS6 => ?_)
    have wS6 : WT D S6.2.2 := by rw [hS6]; exact wS4
    clear hS6
    refine OD_ix (fun j7 => ?_)
    refine OD_nmI (wS6.1 _ _ kv0 7 _ rfl).2 (fun S8 hS8 => ?_)
    have wS8 : WT D S8.2.2 := by rw [hS8]; exact wS6
    clear hS8
    refine OD_nmI (kv0).2 (fun S9 hS9 => ?_)
    have wS9 : WT D S9.2.2 := by rw [hS9]; exact wS8
    clear hS9
    exact OD_some
set_option maxRecDepth 20000 in
theorem o_X0_addStrand {D : Nat → Prop} (v0 : Nat) (kv0 : KA D v0 (0, 0)) (v1 : Int32) (v2 : Int32) (v3 : Int32) (S : St) (w : WT D S.2.2) : OD D (f_X0_addStrand v0 v1 v2 v3 S) S := by
  unfold f_X0_addStrand
  refine OD_ite ?_ ?_
  · exact OD_some
  · refine OD_ix (fun j1 => ?_)
    refine OD_nmI (w.1 _ _ kv0 8 _ rfl).2 (fun S2 hS2 => ?_)
    have wS2 : WT D S2.2.2 := by rw [hS2]; exact w
    clear hS2
    refine OD_ix (fun j3 => ?_)
    refine OD_nmI (wS2.1 _ _ (wS2.1 _ _ kv0 11 _ rfl) 0 _ rfl).2 (fun S4 hS4 => ?_)
    have wS4 : WT D S4.2.2 := by rw [hS4]; exact wS2
    clear hS4
    refine OD_ix (fun j5 => ?_)
    refine OD_nmI (wS4.1 _ _ kv0 9 _ rfl).2 (fun S6 hS6 => ?_)
    have wS6 : WT D S6.2.2 := by rw [hS6]; exact wS4
    clear hS6
    refine OD_nmI (kv0).2 (fun S7 hS7 => ?_)
    have wS7 : WT D S7.2.2 := by rw [hS7]; exact wS6
    clear hS7
    exact OD_some
set_option maxRecDepth 20000 in
theorem o_X1_clearAll {D : Nat → Prop} (v0 : Nat) (kv0 : KA D v0 (0, 1)) (S : St) (w : WT D S.2.2) : OD D (f_X1_clearAll v0 S) S := by
  unfold f_X1_clearAll
  refine OD_nmI (kv0).2 (fun S1 hS1 => ?_)
  have wS1 : WT D S1.2.2 := by rw [hS1]; exact w
  clear hS1
  exact OD_some
set_option maxRecDepth 20000 in
theorem o_X5_copyFrom {D : Nat → Prop} (v0 : Nat) (kv0 : KA D v0 (0, 5)) (v1 : Nat) (kv1 : KA D v1 (0, 5)) (S : St) (w : WT D S.2.2) : OD D (f_X5_copyFrom v0 v1 S) S := by
  unfold f_X5_copyFrom
  refine OD_nmC (w.1 _ _ kv0 0 _ rfl).2 (fun S1 hS1 => ?_)
  have wS1 : WT D S1.2.2 := by rw [hS1]; exact w
  clear hS1
  refine OD_nmI (kv0).2 (fun S2 hS2 => ?_)
  have wS2 : WT D S2.2.2 := by rw [hS2]; exact wS1
  clear hS2
  refine OD_nmI (kv0).2 (fun S3 hS3 => ?_)
  have wS3 : WT D S3.2.2 := by rw [hS3]; exact wS2
  clear hS3
  refine OD_nmI (kv0).2 (fun S4 hS4 => ?_)
  have wS4 : WT D S4.2.2 := by rw [hS4]; exact wS3
  clear hS4
  refine OD_nmI (kv0).2 (fun S5 hS5 => ?_)
  have wS5 : WT D S5.2.2 := by rw [hS5]; exact wS4
  clear hS5
  exact OD_some
set_option maxRecDepth 20000 in
theorem o_X1_keep {D : Nat → Prop} (v0 : Nat) (kv0 : KA D v0 (0, 1)) (v1 : Nat) (kv1 : KA D v1 (0, 5)) (S : St) (w : WT D S.2.2) : OD D (f_X1_keep v0 v1 S) S := by
  unfold f_X1_keep
  refine OD_ixq w (w.1 _ _ kv0 0 _ rfl) (fun j1 kj1 => ?_)
  refine OD_bd (o_X5_copyFrom (S.2.2 (S.2.2 v0 0) j1) kj1 v1 kv1 S w) (fun _ S2 hS2 => ?_)
  have wS2 : WT D S2.2.2 := by rw [hS2]; exact w
  clear hS2
  refine OD_nmI (kv0).2 (fun S4 hS4 => ?_)
  have wS4 : WT D S4.2.2 := by rw [hS4]; exact wS2
  clear hS4
  refine OD_nmI (kv0).2 (fun S5 hS5 => ?_)
  have wS5 : WT D S5.2.2 := by rw [hS5]; exact wS4
  clear hS5
  exact OD_some
set_option maxRecDepth 20000 in
theorem o_X1_takeBackInto {D : Nat → Prop} (v0 : Nat) (kv0 : KA D v0 (0, 1)) (v1 : Nat) (kv1 : KA D v1 (0, 5)) (S : St) (w : WT D S.2.2) : OD D (f_X1_takeBackInto v0 v1 S) S := by
  unfold f_X1_takeBackInto
  refine OD_ite ?_ ?_
  · exact OD_some
  · refine OD_nmI (kv0).2 (fun S1 hS1 => ?_)
    have wS1 : WT D S1.2.2 := by rw [hS1]; exact w
    clear hS1
    refine OD_nmI (kv0).2 (fun S2 hS2 => ?_)
    have wS2 : WT D S2.2.2 := by rw [hS2]; exact wS1
    clear hS2
    refine OD_ixq wS2 (wS2.1 _ _ kv0 0 _ rfl) (fun j3 kj3 => ?_)
    refine OD_bd (o_X5_copyFrom v1 kv1 (S2.2.2 (S2.2.2 v0 0) j3) kj3 S2 wS2) (fun _ S4 hS4 => ?_)
    have wS4 : WT D S4.2.2 := by rw [hS4]; exact wS2
    clear hS4
    exact OD_some
set_option maxRecDepth 20000 in
theorem o_X2_joined {D : Nat → Prop} (v0 : Nat) (kv0 : KA D v0 (0, 2)) (v1 : Int32) (v2 : Int32) (v3 : Int32) (S : St) (w : WT D S.2.2) : OD D (f_X2_joined v0 v1 v2 v3 S) S := by
  unfold f_X2_joined
  refine OD_ite ?_ ?_
  · exact OD_some
  refine OD_ite ?_ ?_
  · exact OD_some
  refine OD_ite ?_ ?_
  · exact OD_some
  refine OD_ite ?_ ?_
  · refine OD_nmI (kv0).2 (fun S1 hS1 => ?_)
    have wS1 : WT D S1.2.2 := by rw [hS1]; exact w
    clear hS1
    exact OD_some
  · refine OD_ite OD_none ?_
    exact OD_some
set_option maxRecDepth 20000 in
theorem ob_X2_valueOf_177 {D : Nat → Prop} (v0 : Nat) (kv0 : KA D v0 (0, 2)) (S : St) (w : WT D S.2.2) : OD D (b_X2_valueOf_177 v0 S) S := by
  unfold b_X2_valueOf_177
  refine OD_ix (fun j1 => ?_)
  exact OD_some
set_option maxRecDepth 20000 in
theorem ob_X2_valueOf_171 {D : Nat → Prop} {q42 : Nat → Int32 → Int32 → Int32 → St → Option (Int32 × St)} (oq42 : ∀ (v0 : Nat) (kv0 : KA D v0 (0, 2)) (v3 : Int32) (v4 : Int32) (v5 : Int32) (S : St), WT D S.2.2 → OD D (q42 v0 v3 v4 v5 S) S) (v0 : Nat) (kv0 : KA D v0 (0, 2)) (v3 : Int32) (v4 : Int32) (v5 : Int32) (S : St) (w : WT D S.2.2) : OD D (b_X2_valueOf_171 q42 v0 v3 v4 v5 S) S := by
  unfold b_X2_valueOf_171
  refine OD_nm (fun x1 => ?_)
  exact oq42 v0 kv0 v3 v4 x1 S w
set_option maxRecDepth 20000 in
theorem ob_X2_valueOf_167 {D : Nat → Prop} {q42 : Nat → Int32 → Int32 → Int32 → St → Option (Int32 × St)} (oq42 : ∀ (v0 : Nat) (kv0 : KA D v0 (0, 2)) (v3 : Int32) (v4 : Int32) (v5 : Int32) (S : St), WT D S.2.2 → OD D (q42 v0 v3 v4 v5 S) S) (v0 : Nat) (kv0 : KA D v0 (0, 2)) (v3 : Int32) (v4 : Int32) (v5 : Int32) (s0 : Nat) (ks0 : KA D s0 (1, 15)) (s1 : Int32) (s2 : Int32) (S : St) (w : WT D S.2.2) : OD D (b_X2_valueOf_167 q42 v0 v3 v4 v5 s0 s1 s2 S) S := by
  unfold b_X2_valueOf_167
  refine OD_ix (fun j1 => ?_)
  refine OD_nmI (ks0).2 (fun S2 hS2 => ?_)
  have wS2 : WT D S2.2.2 := by rw [hS2]; exact w
  clear hS2
  refine OD_nm (fun x3 => ?_)
  exact ob_X2_valueOf_171 oq42 v0 kv0 v3 x3 v5 S2 wS2
set_option maxRecDepth 20000 in
theorem ob_X2_valueOf_122 {D : Nat → Prop} {q42 : Nat → Int32 → Int32 → Int32 → St → Option (Int32 × St)} (oq42 : ∀ (v0 : Nat) (kv0 : KA D v0 (0, 2)) (v3 : Int32) (v4 : Int32) (v5 : Int32) (S : St), WT D S.2.2 → OD D (q42 v0 v3 v4 v5 S) S) (v0 : Nat) (kv0 : KA D v0 (0, 2)) (v3 : Int32) (v4 : Int32) (v5 : Int32) (v6 : Int32) (S : St) (w : WT D S.2.2) : OD D (b_X2_valueOf_122 q42 v0 v3 v4 v5 v6 S) S := by
  unfold b_X2_valueOf_122
  refine OD_ite ?_ ?_
  · exact ob_X2_valueOf_171 oq42 v0 kv0 v3 v4 v5 S w
  · refine OD_ite ?_ ?_
    · exact ob_X2_valueOf_171 oq42 v0 kv0 v3 v4 v5 S w
    · refine OD_ite ?_ ?_
      · exact ob_X2_valueOf_167 oq42 v0 kv0 v3 v4 v5 (S.2.2 v0 5) (w.1 _ _ kv0 5 _ rfl) v4 v6 S w
      · refine OD_ix (fun j1 => ?_)
        exact ob_X2_valueOf_167 oq42 v0 kv0 v3 v4 v5 (S.2.2 v0 5) (w.1 _ _ kv0 5 _ rfl) v4 (S.1 (S.2.2 v0 0) j1) S w
set_option maxRecDepth 20000 in
theorem ob_X2_valueOf_42 {D : Nat → Prop} : ∀ (fu : Nat) (v0 : Nat) (kv0 : KA D v0 (0, 2)) (v3 : Int32) (v4 : Int32) (v5 : Int32) (S : St), WT D S.2.2 → OD D (b_X2_valueOf_42 fu v0 v3 v4 v5 S) S := by
  intro fu
  induction fu with
  | zero => intro v0 kv0 v3 v4 v5 S w; exact OD_none
  | succ fu ih =>
    intro v0 kv0 v3 v4 v5 S w
    rw [b_X2_valueOf_42]
    refine OD_ite ?_ ?_
    · exact ob_X2_valueOf_177 v0 kv0 S w
    · refine OD_ite ?_ ?_
      · exact ob_X2_valueOf_177 v0 kv0 S w
      · refine OD_ix (fun j1 => ?_)
        refine OD_nm (fun x2 => ?_)
        refine OD_ite ?_ ?_
        · exact ob_X2_valueOf_122 ih v0 kv0 v3 v4 v5 x2 S w
        · refine OD_ite ?_ ?_
          · exact ob_X2_valueOf_122 ih v0 kv0 v3 v4 v5 x2 S w
          · refine OD_nm (fun x3 => ?_)
            refine OD_ix (fun j4 => ?_)
            refine OD_ix (fun j5 => ?_)
            refine OD_bd (o_X2_joined v0 kv0 (x2 - (20000 : Int32)) (S.1 (S.2.2 v0 5) j4) (S.1 (S.2.2 v0 5) j5) S w) (fun r7 S6 hS6 => ?_)
            have wS6 : WT D S6.2.2 := by rw [hS6]; exact w
            clear hS6
            refine OD_ix (fun j8 => ?_)
            refine OD_nmI (w.1 _ _ kv0 5 _ rfl).2 (fun S9 hS9 => ?_)
            have wS9 : WT D S9.2.2 := by rw [hS9]; exact wS6
            clear hS9
            exact ob_X2_valueOf_171 ih v0 kv0 v3 x3 v5 S9 wS9
set_option maxRecDepth 20000 in
theorem o_X2_valueOf {D : Nat → Prop} (v0 : Nat) (kv0 : KA D v0 (0, 2)) (v1 : Int32) (v2 : Int32) (S : St) (w : WT D S.2.2) : OD D (f_X2_valueOf v0 v1 v2 S) S := by
  unfold f_X2_valueOf
  refine OD_ite ?_ ?_
  · exact OD_some
  · refine OD_ite ?_ ?_
    · refine OD_ix (fun j1 => ?_)
      refine OD_nm (fun x2 => ?_)
      refine OD_ix (fun j3 => ?_)
      refine OD_nm (fun x4 => ?_)
      exact ob_X2_valueOf_42 FU v0 kv0 x2 (0 : Int32) x4 S w
    · exact OD_some
set_option maxRecDepth 20000 in
theorem o_X9_heldTo {D : Nat → Prop} (v0 : Int32) (v1 : Int32) (S : St) (w : WT D S.2.2) : OD D (f_X9_heldTo v0 v1 S) S := by
  unfold f_X9_heldTo
  exact OD_some
set_option maxRecDepth 20000 in
theorem ob_X2_held_80 {D : Nat → Prop} (v0 : Nat) (kv0 : KA D v0 (0, 2)) (v1 : Int32) (v2 : Int32) (v3 : Int32) (S : St) (w : WT D S.2.2) : OD D (b_X2_held_80 v0 v1 v2 v3 S) S := by
  unfold b_X2_held_80
  refine OD_bd (o_X2_valueOf v0 kv0 v1 v3 S w) (fun r2 S1 hS1 => ?_)
  have wS1 : WT D S1.2.2 := by rw [hS1]; exact w
  clear hS1
  refine OD_ite ?_ ?_
  · refine OD_bd (o_X9_heldTo v2 r2 S1 wS1) (fun r4 S3 hS3 => ?_)
    have wS3 : WT D S3.2.2 := by rw [hS3]; exact wS1
    clear hS3
    exact OD_some
  · exact OD_some
set_option maxRecDepth 20000 in
theorem ob_X2_held_17 {D : Nat → Prop} : ∀ (fu : Nat) (v0 : Nat) (kv0 : KA D v0 (0, 2)) (v1 : Int32) (v2 : Int32) (v3 : Int32) (v4 : Int32) (S : St), WT D S.2.2 → OD D (b_X2_held_17 fu v0 v1 v2 v3 v4 S) S := by
  intro fu
  induction fu with
  | zero => intro v0 kv0 v1 v2 v3 v4 S w; exact OD_none
  | succ fu ih =>
    intro v0 kv0 v1 v2 v3 v4 S w
    rw [b_X2_held_17]
    refine OD_ix (fun j1 => ?_)
    refine OD_ite ?_ ?_
    · exact ob_X2_held_80 v0 kv0 v1 v2 v3 S w
    · refine OD_bd (o_X2_valueOf v0 kv0 v1 v4 S w) (fun r3 S2 hS2 => ?_)
      have wS2 : WT D S2.2.2 := by rw [hS2]; exact w
      clear hS2
      refine OD_bd (o_X2_valueOf v0 kv0 v1 (v4 + (1 : Int32)) S2 wS2) (fun r5 S4 hS4 => ?_)
      have wS4 : WT D S4.2.2 := by rw [hS4]; exact wS2
      clear hS4
      refine OD_ite ?_ ?_
      · refine OD_ite ?_ ?_
        · refine OD_nm (fun x6 => ?_)
          exact ih v0 kv0 v1 v2 v3 x6 S4 wS4
        · refine OD_nm (fun x7 => ?_)
          exact ob_X2_held_80 v0 kv0 v1 v2 x7 S4 wS4
      · exact OD_some
set_option maxRecDepth 20000 in
theorem o_X2_held {D : Nat → Prop} (v0 : Nat) (kv0 : KA D v0 (0, 2)) (v1 : Int32) (v2 : Int32) (S : St) (w : WT D S.2.2) : OD D (f_X2_held v0 v1 v2 S) S := by
  unfold f_X2_held
  refine OD_nmI (kv0).2 (fun S1 hS1 => ?_)
  have wS1 : WT D S1.2.2 := by rw [hS1]; exact w
  clear hS1
  refine OD_ix (fun j2 => ?_)
  refine OD_nm (fun x3 => ?_)
  exact ob_X2_held_17 FU v0 kv0 v1 v2 x3 (0 : Int32) S1 wS1
set_option maxRecDepth 20000 in
theorem o_X9_farApart {D : Nat → Prop} (v0 : Int32) (v1 : Int32) (v2 : Int32) (v3 : Int32) (S : St) (w : WT D S.2.2) : OD D (f_X9_farApart v0 v1 v2 v3 S) S := by
  unfold f_X9_farApart
  exact OD_some
set_option maxRecDepth 20000 in
theorem o_X5_farOf {D : Nat → Prop} (v0 : Nat) (kv0 : KA D v0 (0, 5)) (v1 : Int32) (v2 : Int32) (v3 : Int32) (S : St) (w : WT D S.2.2) : OD D (f_X5_farOf v0 v1 v2 v3 S) S := by
  unfold f_X5_farOf
  refine OD_ix (fun j1 => ?_)
  refine OD_ix (fun j2 => ?_)
  refine OD_bd (o_X9_farApart (S.1 (S.2.2 v0 0) j1) (S.1 (S.2.2 v0 0) j2) v2 v3 S w) (fun r4 S3 hS3 => ?_)
  have wS3 : WT D S3.2.2 := by rw [hS3]; exact w
  clear hS3
  exact OD_some
set_option maxRecDepth 20000 in
theorem o_X5_isCut {D : Nat → Prop} (v0 : Nat) (kv0 : KA D v0 (0, 5)) (v1 : Int32) (S : St) (w : WT D S.2.2) : OD D (f_X5_isCut v0 v1 S) S := by
  unfold f_X5_isCut
  refine OD_ite ?_ ?_
  · exact OD_some
  · exact OD_some
set_option maxRecDepth 20000 in
theorem o_X5_isDead {D : Nat → Prop} (v0 : Nat) (kv0 : KA D v0 (0, 5)) (v1 : Int32) (S : St) (w : WT D S.2.2) : OD D (f_X5_isDead v0 v1 S) S := by
  unfold f_X5_isDead
  refine OD_ite ?_ ?_
  · exact OD_some
  · exact OD_some
set_option maxRecDepth 20000 in
theorem o_X5_isOff {D : Nat → Prop} (v0 : Nat) (kv0 : KA D v0 (0, 5)) (v1 : Int32) (S : St) (w : WT D S.2.2) : OD D (f_X5_isOff v0 v1 S) S := by
  unfold f_X5_isOff
  refine OD_ite ?_ ?_
  · exact OD_some
  · exact OD_some
set_option maxRecDepth 20000 in
theorem o_X8_freshVars {D : Nat → Prop} (v0 : Nat) (kv0 : KA D v0 (0, 8)) (S : St) (w : WT D S.2.2) : OD D (f_X8_freshVars v0 S) S := by
  unfold f_X8_freshVars
  refine OD_bd (o_J7_fill_53178 9 (S.2.2 (S.2.2 (S.2.2 v0 0) 10) 0) (w.1 _ _ (w.1 _ _ (w.1 _ _ kv0 0 _ rfl) 10 _ rfl) 0 _ rfl) (0 : Int32) S w) (fun _ S1 hS1 => ?_)
  have wS1 : WT D S1.2.2 := by rw [hS1]; exact w
  clear hS1
  refine OD_ix (fun j3 => ?_)
  refine OD_nmI (w.1 _ _ (w.1 _ _ (w.1 _ _ kv0 0 _ rfl) 10 _ rfl) 0 _ rfl).2 (fun S4 hS4 => ?_)
  have wS4 : WT D S4.2.2 := by rw [hS4]; exact wS1
  clear hS4
  refine OD_ix (fun j5 => ?_)
  refine OD_nmI (w.1 _ _ (w.1 _ _ (w.1 _ _ kv0 0 _ rfl) 10 _ rfl) 0 _ rfl).2 (fun S6 hS6 => ?_)
  have wS6 : WT D S6.2.2 := by rw [hS6]; exact wS4
  clear hS6
  exact OD_some
set_option maxRecDepth 20000 in
theorem o_X8_pullAt {D : Nat → Prop} (v0 : Nat) (kv0 : KA D v0 (0, 8)) (v1 : Int32) (v2 : Int32) (v3 : Int32) (v4 : Int32) (S : St) (w : WT D S.2.2) : OD D (f_X8_pullAt v0 v1 v2 v3 v4 S) S := by
  unfold f_X8_pullAt
  refine OD_ix (fun j1 => ?_)
  refine OD_bd (o_X5_farOf (S.2.2 v0 1) (w.1 _ _ kv0 1 _ rfl) (S.1 (S.2.2 (S.2.2 v0 0) 8) j1) v3 v4 S w) (fun r3 S2 hS2 => ?_)
  have wS2 : WT D S2.2.2 := by rw [hS2]; exact w
  clear hS2
  refine OD_ite ?_ ?_
  · exact OD_some
  · refine OD_bd (o_X5_isCut (S2.2.2 v0 1) (wS2.1 _ _ kv0 1 _ rfl) v1 S2 wS2) (fun r5 S4 hS4 => ?_)
    have wS4 : WT D S4.2.2 := by rw [hS4]; exact wS2
    clear hS4
    refine OD_ite ?_ ?_
    · refine OD_ix (fun j6 => ?_)
      refine OD_bd (o_X5_isDead (S4.2.2 v0 1) (wS4.1 _ _ kv0 1 _ rfl) (S4.1 (S4.2.2 (S4.2.2 v0 0) 8) j6) S4 wS4) (fun r8 S7 hS7 => ?_)
      have wS7 : WT D S7.2.2 := by rw [hS7]; exact wS4
      clear hS7
      refine OD_ite ?_ ?_
      · refine OD_bd (o_X5_isOff (S7.2.2 v0 1) (wS7.1 _ _ kv0 1 _ rfl) v2 S7 wS7) (fun r10 S9 hS9 => ?_)
        have wS9 : WT D S9.2.2 := by rw [hS9]; exact wS7
        clear hS9
        refine OD_ite ?_ ?_
        · refine OD_bd (o_X8_freshVars v0 kv0 S9 wS9) (fun r12 S11 hS11 => ?_)
          have wS11 : WT D S11.2.2 := by rw [hS11]; exact wS9
          clear hS11
          refine OD_grd (fun hr12 => ?_)
          have kr12 : KA D r12 (1, 9) := by rw [hr12]; exact wS11.1 _ _ (wS11.1 _ _ (wS11.1 _ _ kv0 0 _ rfl) 10 _ rfl) 0 _ rfl
          refine OD_ix (fun j13 => ?_)
          refine OD_ix (fun j14 => ?_)
          refine OD_nmI (kr12).2 (fun S15 hS15 => ?_)
          have wS15 : WT D S15.2.2 := by rw [hS15]; exact wS11
          clear hS15
          refine OD_ix (fun j16 => ?_)
          refine OD_nmI (kr12).2 (fun S17 hS17 => ?_)
          have wS17 : WT D S17.2.2 := by rw [hS17]; exact wS15
          clear hS17
          refine OD_ix (fun j18 => ?_)
          refine OD_ix (fun j19 => ?_)
          refine OD_nmI (kr12).2 (fun S20 hS20 => ?_)
          have wS20 : WT D S20.2.2 := by rw [hS20]; exact wS17
          clear hS20
          refine OD_ix (fun j21 => ?_)
          refine OD_nmI (kr12).2 (fun S22 hS22 => ?_)
          have wS22 : WT D S22.2.2 := by rw [hS22]; exact wS20
          clear hS22
          refine OD_bd (o_X2_held (S22.2.2 (S22.2.2 v0 0) 10) (wS22.1 _ _ (wS22.1 _ _ kv0 0 _ rfl) 10 _ rfl) (0 : Int32) (99 : Int32) S22 wS22) (fun r24 S23 hS23 => ?_)
          have wS23 : WT D S23.2.2 := by rw [hS23]; exact wS22
          clear hS23
          exact OD_some
        · exact OD_some
      · exact OD_some
    · exact OD_some
set_option maxRecDepth 20000 in
theorem o_X9_wayTo {D : Nat → Prop} (v0 : Int32) (v1 : Int32) (S : St) (w : WT D S.2.2) : OD D (f_X9_wayTo v0 v1 S) S := by
  unfold f_X9_wayTo
  refine OD_ite ?_ ?_
  · exact OD_some
  · refine OD_ite ?_ ?_
    · exact OD_some
    · exact OD_some
set_option maxRecDepth 20000 in
theorem o_X8_wayAcross {D : Nat → Prop} (v0 : Nat) (kv0 : KA D v0 (0, 8)) (v1 : Int32) (v2 : Int32) (S : St) (w : WT D S.2.2) : OD D (f_X8_wayAcross v0 v1 v2 S) S := by
  unfold f_X8_wayAcross
  refine OD_ix (fun j1 => ?_)
  refine OD_ix (fun j2 => ?_)
  refine OD_bd (o_X9_wayTo (S.1 (S.2.2 (S.2.2 v0 1) 0) j2) v2 S w) (fun r4 S3 hS3 => ?_)
  have wS3 : WT D S3.2.2 := by rw [hS3]; exact w
  clear hS3
  exact OD_some
set_option maxRecDepth 20000 in
theorem o_X8_wayDown {D : Nat → Prop} (v0 : Nat) (kv0 : KA D v0 (0, 8)) (v1 : Int32) (v2 : Int32) (S : St) (w : WT D S.2.2) : OD D (f_X8_wayDown v0 v1 v2 S) S := by
  unfold f_X8_wayDown
  refine OD_ix (fun j1 => ?_)
  refine OD_ix (fun j2 => ?_)
  refine OD_bd (o_X9_wayTo (S.1 (S.2.2 (S.2.2 v0 1) 0) j2) v2 S w) (fun r4 S3 hS3 => ?_)
  have wS3 : WT D S3.2.2 := by rw [hS3]; exact w
  clear hS3
  exact OD_some
set_option maxRecDepth 20000 in
theorem ob_X3_layOn_52 {D : Nat → Prop} : ∀ (fu : Nat) (v0 : Nat) (kv0 : KA D v0 (0, 3)) (v1 : Nat) (kv1 : KA D v1 (0, 8)) (v2 : Int32) (v3 : Int32) (v4 : Int32) (v5 : Int32) (S : St), WT D S.2.2 → OD D (b_X3_layOn_52 fu v0 v1 v2 v3 v4 v5 S) S := by
  intro fu
  induction fu with
  | zero => intro v0 kv0 v1 kv1 v2 v3 v4 v5 S w; exact OD_none
  | succ fu ih =>
    intro v0 kv0 v1 kv1 v2 v3 v4 v5 S w
    rw [b_X3_layOn_52]
    refine OD_ite ?_ ?_
    · exact OD_some
    · refine OD_bd (o_X8_pullAt v1 kv1 v5 v2 v3 v4 S w) (fun r2 S1 hS1 => ?_)
      have wS1 : WT D S1.2.2 := by rw [hS1]; exact w
      clear hS1
      refine OD_bd (o_X8_wayAcross v1 kv1 v5 v3 S1 wS1) (fun r4 S3 hS3 => ?_)
      have wS3 : WT D S3.2.2 := by rw [hS3]; exact wS1
      clear hS3
      refine OD_ix (fun j5 => ?_)
      refine OD_nmI (wS1.1 _ _ kv0 0 _ rfl).2 (fun S6 hS6 => ?_)
      have wS6 : WT D S6.2.2 := by rw [hS6]; exact wS3
      clear hS6
      refine OD_bd (o_X8_wayDown v1 kv1 v5 v4 S6 wS6) (fun r8 S7 hS7 => ?_)
      have wS7 : WT D S7.2.2 := by rw [hS7]; exact wS6
      clear hS7
      refine OD_ix (fun j9 => ?_)
      refine OD_nmI (wS6.1 _ _ kv0 1 _ rfl).2 (fun S10 hS10 => ?_)
      have wS10 : WT D S10.2.2 := by rw [hS10]; exact wS7
      clear hS10
      refine OD_nm (fun x11 => ?_)
      exact ih v0 kv0 v1 kv1 v2 v3 v4 x11 S10 wS10
set_option maxRecDepth 20000 in
theorem o_X3_layOn {D : Nat → Prop} (v0 : Nat) (kv0 : KA D v0 (0, 3)) (v1 : Nat) (kv1 : KA D v1 (0, 8)) (v2 : Int32) (S : St) (w : WT D S.2.2) : OD D (f_X3_layOn v0 v1 v2 S) S := by
  unfold f_X3_layOn
  refine OD_ix (fun j1 => ?_)
  refine OD_nm (fun x2 => ?_)
  refine OD_ix (fun j3 => ?_)
  refine OD_nm (fun x4 => ?_)
  refine OD_nmI (kv0).2 (fun S5 hS5 => ?_)
  have wS5 : WT D S5.2.2 := by rw [hS5]; exact w
  clear hS5
  refine OD_nmI (kv0).2 (fun S6 hS6 => ?_)
  have wS6 : WT D S6.2.2 := by rw [hS6]; exact wS5
  clear hS6
  exact ob_X3_layOn_52 FU v0 kv0 v1 kv1 v2 x2 x4 (0 : Int32) S6 wS6
set_option maxRecDepth 20000 in
theorem ob_X3_areEven_23 {D : Nat → Prop} (v0 : Nat) (kv0 : KA D v0 (0, 3)) (v1 : Int32) (v2 : Int32) (s0 : Int32) (S : St) (w : WT D S.2.2) : OD D (b_X3_areEven_23 v0 v1 v2 s0 S) S := by
  unfold b_X3_areEven_23
  refine OD_ite ?_ ?_
  · exact OD_some
  · refine OD_ix (fun j1 => ?_)
    refine OD_ix (fun j2 => ?_)
    refine OD_ite ?_ ?_
    · refine OD_ix (fun j3 => ?_)
      refine OD_ix (fun j4 => ?_)
      refine OD_ite ?_ ?_
      · exact OD_some
      · exact OD_some
    · exact OD_some
set_option maxRecDepth 20000 in
theorem ob_X3_areEven_18 {D : Nat → Prop} (v0 : Nat) (kv0 : KA D v0 (0, 3)) (v1 : Int32) (v2 : Int32) (S : St) (w : WT D S.2.2) : OD D (b_X3_areEven_18 v0 v1 v2 S) S := by
  unfold b_X3_areEven_18
  exact ob_X3_areEven_23 v0 kv0 v1 v2 (1 : Int32) S w
set_option maxRecDepth 20000 in
theorem o_X3_areEven {D : Nat → Prop} (v0 : Nat) (kv0 : KA D v0 (0, 3)) (v1 : Int32) (v2 : Int32) (S : St) (w : WT D S.2.2) : OD D (f_X3_areEven v0 v1 v2 S) S := by
  unfold f_X3_areEven
  refine OD_ix (fun j1 => ?_)
  refine OD_ite ?_ ?_
  · refine OD_ix (fun j2 => ?_)
    refine OD_ite ?_ ?_
    · exact ob_X3_areEven_23 v0 kv0 v1 v2 (0 : Int32) S w
    · exact ob_X3_areEven_18 v0 kv0 v1 v2 S w
  · exact ob_X3_areEven_18 v0 kv0 v1 v2 S w
set_option maxRecDepth 20000 in
theorem ob_X3_pullsBy_51 {D : Nat → Prop} {q9 : Nat → Int32 → Int32 → Int32 → Int32 → St → Option (Int32 × St)} (oq9 : ∀ (v0 : Nat) (kv0 : KA D v0 (0, 3)) (v1 : Int32) (v4 : Int32) (v5 : Int32) (v6 : Int32) (S : St), WT D S.2.2 → OD D (q9 v0 v1 v4 v5 v6 S) S) (v0 : Nat) (kv0 : KA D v0 (0, 3)) (v1 : Int32) (v4 : Int32) (v5 : Int32) (v6 : Int32) (S : St) (w : WT D S.2.2) : OD D (b_X3_pullsBy_51 q9 v0 v1 v4 v5 v6 S) S := by
  unfold b_X3_pullsBy_51
  refine OD_nm (fun x1 => ?_)
  exact oq9 v0 kv0 v1 v4 v5 x1 S w
set_option maxRecDepth 20000 in
theorem ob_X3_pullsBy_9 {D : Nat → Prop} : ∀ (fu : Nat) (v0 : Nat) (kv0 : KA D v0 (0, 3)) (v1 : Int32) (v4 : Int32) (v5 : Int32) (v6 : Int32) (S : St), WT D S.2.2 → OD D (b_X3_pullsBy_9 fu v0 v1 v4 v5 v6 S) S := by
  intro fu
  induction fu with
  | zero => intro v0 kv0 v1 v4 v5 v6 S w; exact OD_none
  | succ fu ih =>
    intro v0 kv0 v1 v4 v5 v6 S w
    rw [b_X3_pullsBy_9]
    refine OD_ite ?_ ?_
    · refine OD_ite ?_ ?_
      · refine OD_ite ?_ ?_
        · exact OD_some
        · exact OD_some
      · exact OD_some
    · refine OD_ite ?_ ?_
      · exact ob_X3_pullsBy_51 ih v0 kv0 v1 v4 v5 v6 S w
      · refine OD_ix (fun j1 => ?_)
        refine OD_nm (fun x2 => ?_)
        refine OD_ix (fun j3 => ?_)
        refine OD_nm (fun x4 => ?_)
        exact ob_X3_pullsBy_51 ih v0 kv0 v1 x2 x4 v6 S w
set_option maxRecDepth 20000 in
theorem o_X3_pullsBy {D : Nat → Prop} (v0 : Nat) (kv0 : KA D v0 (0, 3)) (v1 : Int32) (v2 : Int32) (v3 : Int32) (S : St) (w : WT D S.2.2) : OD D (f_X3_pullsBy v0 v1 v2 v3 S) S := by
  unfold f_X3_pullsBy
  exact ob_X3_pullsBy_9 FU v0 kv0 v1 v2 v3 (0 : Int32) S w
set_option maxRecDepth 20000 in
theorem ob_X3_seek_83 {D : Nat → Prop} {q13 : Nat → Int32 → Int32 → Int32 → St → Option (Unit × St)} (oq13 : ∀ (v0 : Nat) (kv0 : KA D v0 (0, 3)) (v1 : Int32) (v2 : Int32) (v4 : Int32) (S : St), WT D S.2.2 → OD D (q13 v0 v1 v2 v4 S) S) (v0 : Nat) (kv0 : KA D v0 (0, 3)) (v1 : Int32) (v2 : Int32) (v4 : Int32) (S : St) (w : WT D S.2.2) : OD D (b_X3_seek_83 q13 v0 v1 v2 v4 S) S := by
  unfold b_X3_seek_83
  refine OD_nm (fun x1 => ?_)
  exact oq13 v0 kv0 v1 v2 x1 S w
set_option maxRecDepth 20000 in
theorem ob_X3_seek_73 {D : Nat → Prop} {q13 : Nat → Int32 → Int32 → Int32 → St → Option (Unit × St)} (oq13 : ∀ (v0 : Nat) (kv0 : KA D v0 (0, 3)) (v1 : Int32) (v2 : Int32) (v4 : Int32) (S : St), WT D S.2.2 → OD D (q13 v0 v1 v2 v4 S) S) (v0 : Nat) (kv0 : KA D v0 (0, 3)) (v1 : Int32) (v2 : Int32) (v4 : Int32) (S : St) (w : WT D S.2.2) : OD D (b_X3_seek_73 q13 v0 v1 v2 v4 S) S := by
  unfold b_X3_seek_73
  refine OD_nmI (kv0).2 (fun S1 hS1 => ?_)
  have wS1 : WT D S1.2.2 := by rw [hS1]; exact w
  clear hS1
  exact ob_X3_seek_83 oq13 v0 kv0 v1 v2 v4 S1 wS1
set_option maxRecDepth 20000 in
theorem ob_X3_seek_67 {D : Nat → Prop} {q13 : Nat → Int32 → Int32 → Int32 → St → Option (Unit × St)} (oq13 : ∀ (v0 : Nat) (kv0 : KA D v0 (0, 3)) (v1 : Int32) (v2 : Int32) (v4 : Int32) (S : St), WT D S.2.2 → OD D (q13 v0 v1 v2 v4 S) S) (v0 : Nat) (kv0 : KA D v0 (0, 3)) (v1 : Int32) (v2 : Int32) (v4 : Int32) (S : St) (w : WT D S.2.2) : OD D (b_X3_seek_67 q13 v0 v1 v2 v4 S) S := by
  unfold b_X3_seek_67
  refine OD_nmI (kv0).2 (fun S1 hS1 => ?_)
  have wS1 : WT D S1.2.2 := by rw [hS1]; exact w
  clear hS1
  exact ob_X3_seek_73 oq13 v0 kv0 v1 v2 v4 S1 wS1
set_option maxRecDepth 20000 in
theorem ob_X3_seek_13 {D : Nat → Prop} : ∀ (fu : Nat) (v0 : Nat) (kv0 : KA D v0 (0, 3)) (v1 : Int32) (v2 : Int32) (v4 : Int32) (S : St), WT D S.2.2 → OD D (b_X3_seek_13 fu v0 v1 v2 v4 S) S := by
  intro fu
  induction fu with
  | zero => intro v0 kv0 v1 v2 v4 S w; exact OD_none
  | succ fu ih =>
    intro v0 kv0 v1 v2 v4 S w
    rw [b_X3_seek_13]
    refine OD_ite ?_ ?_
    · exact OD_some
    · refine OD_ite ?_ ?_
      · refine OD_bd (o_X3_pullsBy v0 kv0 v4 v1 v2 S w) (fun r2 S1 hS1 => ?_)
        have wS1 : WT D S1.2.2 := by rw [hS1]; exact w
        clear hS1
        refine OD_ite ?_ ?_
        · exact ob_X3_seek_83 ih v0 kv0 v1 v2 v4 S1 wS1
        · refine OD_ite ?_ ?_
          · exact ob_X3_seek_67 ih v0 kv0 v1 v2 v4 S1 wS1
          · refine OD_bd (o_J6_bitCount_0f7a4 v4 S1 wS1) (fun r4 S3 hS3 => ?_)
            have wS3 : WT D S3.2.2 := by rw [hS3]; exact wS1
            clear hS3
            refine OD_bd (o_J6_bitCount_0f7a4 (S3.1 v0 5) S3 wS3) (fun r6 S5 hS5 => ?_)
            have wS5 : WT D S5.2.2 := by rw [hS5]; exact wS3
            clear hS5
            refine OD_ite ?_ ?_
            · exact ob_X3_seek_73 ih v0 kv0 v1 v2 v4 S5 wS5
            · exact ob_X3_seek_67 ih v0 kv0 v1 v2 v4 S5 wS5
      · exact ob_X3_seek_83 ih v0 kv0 v1 v2 v4 S w
set_option maxRecDepth 20000 in
theorem o_X3_seek {D : Nat → Prop} (v0 : Nat) (kv0 : KA D v0 (0, 3)) (v1 : Int32) (v2 : Int32) (v3 : Int32) (S : St) (w : WT D S.2.2) : OD D (f_X3_seek v0 v1 v2 v3 S) S := by
  unfold f_X3_seek
  refine OD_nmI (kv0).2 (fun S1 hS1 => ?_)
  have wS1 : WT D S1.2.2 := by rw [hS1]; exact w
  clear hS1
  refine OD_nmI (kv0).2 (fun S2 hS2 => ?_)
  have wS2 : WT D S2.2.2 := by rw [hS2]; exact wS1
  clear hS2
  exact ob_X3_seek_13 FU v0 kv0 v1 v2 v3 S2 wS2
set_option maxRecDepth 20000 in
theorem ob_X6_behindBlanks_54 {D : Nat → Prop} {q2 : Nat → Int32 → St → Option (Int32 × St)} (oq2 : ∀ (v0 : Nat) (kv0 : KA D v0 (0, 6)) (v2 : Int32) (S : St), WT D S.2.2 → OD D (q2 v0 v2 S) S) (v0 : Nat) (kv0 : KA D v0 (0, 6)) (v2 : Int32) (S : St) (w : WT D S.2.2) : OD D (b_X6_behindBlanks_54 q2 v0 v2 S) S := by
  unfold b_X6_behindBlanks_54
  refine OD_nm (fun x1 => ?_)
  exact oq2 v0 kv0 x1 S w
set_option maxRecDepth 20000 in
theorem ob_X6_behindBlanks_2 {D : Nat → Prop} : ∀ (fu : Nat) (v0 : Nat) (kv0 : KA D v0 (0, 6)) (v2 : Int32) (S : St), WT D S.2.2 → OD D (b_X6_behindBlanks_2 fu v0 v2 S) S := by
  intro fu
  induction fu with
  | zero => intro v0 kv0 v2 S w; exact OD_none
  | succ fu ih =>
    intro v0 kv0 v2 S w
    rw [b_X6_behindBlanks_2]
    refine OD_ite ?_ ?_
    · exact OD_some
    · refine OD_ix (fun j1 => ?_)
      refine OD_ite ?_ ?_
      · exact ob_X6_behindBlanks_54 ih v0 kv0 v2 S w
      · refine OD_ix (fun j2 => ?_)
        refine OD_ite ?_ ?_
        · exact ob_X6_behindBlanks_54 ih v0 kv0 v2 S w
        · refine OD_ix (fun j3 => ?_)
          refine OD_ite ?_ ?_
          · exact ob_X6_behindBlanks_54 ih v0 kv0 v2 S w
          · refine OD_ix (fun j4 => ?_)
            refine OD_ite ?_ ?_
            · exact ob_X6_behindBlanks_54 ih v0 kv0 v2 S w
            · exact OD_some
set_option maxRecDepth 20000 in
theorem o_X6_behindBlanks {D : Nat → Prop} (v0 : Nat) (kv0 : KA D v0 (0, 6)) (v1 : Int32) (S : St) (w : WT D S.2.2) : OD D (f_X6_behindBlanks v0 v1 S) S := by
  unfold f_X6_behindBlanks
  exact ob_X6_behindBlanks_2 FU v0 kv0 v1 S w
set_option maxRecDepth 20000 in
theorem o_X6_isLetter {D : Nat → Prop} (v0 : Nat) (kv0 : KA D v0 (0, 6)) (v1 : Int32) (S : St) (w : WT D S.2.2) : OD D (f_X6_isLetter v0 v1 S) S := by
  unfold f_X6_isLetter
  refine OD_ix (fun j1 => ?_)
  refine OD_ite ?_ ?_
  · exact OD_some
  · refine OD_ix (fun j2 => ?_)
    refine OD_ite ?_ ?_
    · exact OD_some
    · exact OD_some
set_option maxRecDepth 20000 in
theorem o_J0_coder_7d493 {D : Nat → Prop} (v0 : Nat) (kv0 : v0 < 2) (S : St) (w : WT D S.2.2) : OD D (f_J0_coder_7d493 v0 S) S := by
  unfold f_J0_coder_7d493
  refine OD_ite ?_ ?_
  · exact OD_ob (fun _ => OD_some)
  · exact OD_ob (fun _ => OD_some)
set_option maxRecDepth 20000 in
theorem o_J0_length_8abf5 {D : Nat → Prop} (v0 : Nat) (kv0 : v0 < 2) (S : St) (w : WT D S.2.2) : OD D (f_J0_length_8abf5 v0 S) S := by
  unfold f_J0_length_8abf5
  refine OD_bd (o_J0_coder_7d493 v0 kv0 S w) (fun r2 S1 hS1 => ?_)
  have wS1 : WT D S1.2.2 := by rw [hS1]; exact w
  clear hS1
  exact OD_some
set_option maxRecDepth 20000 in
theorem o_J0_isLatin1_aae02 {D : Nat → Prop} (v0 : Nat) (kv0 : v0 < 2) (S : St) (w : WT D S.2.2) : OD D (f_J0_isLatin1_aae02 v0 S) S := by
  unfold f_J0_isLatin1_aae02
  refine OD_ite ?_ ?_
  · exact OD_some
  · refine OD_ite ?_ ?_
    · exact OD_some
    · exact OD_some
set_option maxRecDepth 20000 in
theorem o_J3_checkIndex_8e157 {D : Nat → Prop} (v0 : Int32) (v1 : Int32) (S : St) (w : WT D S.2.2) : OD D (f_J3_checkIndex_8e157 v0 v1 S) S := by
  unfold f_J3_checkIndex_8e157
  refine OD_ite ?_ ?_
  · exact OD_none
  · refine OD_ite ?_ ?_
    · exact OD_some
    · exact OD_none
set_option maxRecDepth 20000 in
theorem o_J0_checkIndex_df160 {D : Nat → Prop} (v0 : Int32) (v1 : Int32) (S : St) (w : WT D S.2.2) : OD D (f_J0_checkIndex_df160 v0 v1 S) S := by
  unfold f_J0_checkIndex_df160
  refine OD_bd (o_J3_checkIndex_8e157 v0 v1 S w) (fun r2 S1 hS1 => ?_)
  have wS1 : WT D S1.2.2 := by rw [hS1]; exact w
  clear hS1
  exact OD_some
set_option maxRecDepth 20000 in
theorem o_J1_charAt_3b067 {D : Nat → Prop} (v0 : Nat) (kv0 : v0 < 2) (v1 : Int32) (S : St) (w : WT D S.2.2) : OD D (f_J1_charAt_3b067 v0 v1 S) S := by
  unfold f_J1_charAt_3b067
  refine OD_bd (o_J0_checkIndex_df160 v1 (Int32.ofNat (sl v0)) S w) (fun _ S1 hS1 => ?_)
  have wS1 : WT D S1.2.2 := by rw [hS1]; exact w
  clear hS1
  refine OD_ix (fun j3 => ?_)
  exact OD_ob (fun _ => OD_some)
set_option maxRecDepth 20000 in
theorem o_J0_charAt_5068e {D : Nat → Prop} (v0 : Nat) (kv0 : v0 < 2) (v1 : Int32) (S : St) (w : WT D S.2.2) : OD D (f_J0_charAt_5068e v0 v1 S) S := by
  unfold f_J0_charAt_5068e
  refine OD_bd (o_J0_isLatin1_aae02 v0 kv0 S w) (fun r2 S1 hS1 => ?_)
  have wS1 : WT D S1.2.2 := by rw [hS1]; exact w
  clear hS1
  refine OD_ite ?_ ?_
  · exact OD_none
  · refine OD_bd (o_J1_charAt_3b067 v0 kv0 v1 S1 wS1) (fun r4 S3 hS3 => ?_)
    have wS3 : WT D S3.2.2 := by rw [hS3]; exact wS1
    clear hS3
    exact OD_ob (fun _ => OD_some)
set_option maxRecDepth 20000 in
theorem ob_X6_wordOf_65 {D : Nat → Prop} {q7 : Int64 → Int32 → Int64 → Int32 → St → Option (Int32 × St)} (oq7 : ∀ (v0 : Int64) (v2 : Int32) (v3 : Int64) (v5 : Int32) (S : St), WT D S.2.2 → OD D (q7 v0 v2 v3 v5 S) S) (v0 : Int64) (v2 : Int32) (v3 : Int64) (v5 : Int32) (S : St) (w : WT D S.2.2) : OD D (b_X6_wordOf_65 q7 v0 v2 v3 v5 S) S := by
  unfold b_X6_wordOf_65
  refine OD_nm (fun x1 => ?_)
  exact oq7 v0 v2 v3 x1 S w
set_option maxRecDepth 20000 in
theorem ob_X6_wordOf_7 {D : Nat → Prop} : ∀ (fu : Nat) (v0 : Int64) (v2 : Int32) (v3 : Int64) (v5 : Int32) (S : St), WT D S.2.2 → OD D (b_X6_wordOf_7 fu v0 v2 v3 v5 S) S := by
  intro fu
  induction fu with
  | zero => intro v0 v2 v3 v5 S w; exact OD_none
  | succ fu ih =>
    intro v0 v2 v3 v5 S w
    rw [b_X6_wordOf_7]
    refine OD_bd (o_J0_length_8abf5 0 (by decide) S w) (fun r2 S1 hS1 => ?_)
    have wS1 : WT D S1.2.2 := by rw [hS1]; exact w
    clear hS1
    refine OD_ite ?_ ?_
    · exact OD_some
    · refine OD_bd (o_J0_charAt_5068e 0 (by decide) v5 S1 wS1) (fun r4 S3 hS3 => ?_)
      have wS3 : WT D S3.2.2 := by rw [hS3]; exact wS1
      clear hS3
      refine OD_ite ?_ ?_
      · refine OD_ite ?_ ?_
        · exact OD_some
        · refine OD_nm (fun x5 => ?_)
          exact ob_X6_wordOf_65 ih v0 x5 (0 : Int64) v5 S3 wS3
      · refine OD_bd (o_J0_charAt_5068e 0 (by decide) v5 S3 wS3) (fun r7 S6 hS6 => ?_)
        have wS6 : WT D S6.2.2 := by rw [hS6]; exact wS3
        clear hS6
        refine OD_nm (fun x8 => ?_)
        exact ob_X6_wordOf_65 ih v0 v2 x8 v5 S6 wS6
set_option maxRecDepth 20000 in
theorem o_X6_wordOf {D : Nat → Prop} (v0 : Int64) (S : St) (w : WT D S.2.2) : OD D (f_X6_wordOf v0 S) S := by
  unfold f_X6_wordOf
  exact ob_X6_wordOf_7 FU v0 (0 : Int32) (0 : Int64) (0 : Int32) S w
set_option maxRecDepth 20000 in
theorem ob_X6_takeLetters_79 {D : Nat → Prop} (v3 : Int32) (s0 : Nat) (ks0 : KA D s0 (1, 401)) (s1 : Int32) (s2 : Int32) (S : St) (w : WT D S.2.2) : OD D (b_X6_takeLetters_79 v3 s0 s1 s2 S) S := by
  unfold b_X6_takeLetters_79
  refine OD_ix (fun j1 => ?_)
  refine OD_nmI (ks0).2 (fun S2 hS2 => ?_)
  have wS2 : WT D S2.2.2 := by rw [hS2]; exact w
  clear hS2
  exact OD_some
set_option maxRecDepth 20000 in
theorem ob_X6_takeLetters_48 {D : Nat → Prop} (v0 : Nat) (kv0 : KA D v0 (0, 6)) (v1 : Int32) (v2 : Int32) (v3 : Int32) (v4 : Int64) (S : St) (w : WT D S.2.2) : OD D (b_X6_takeLetters_48 v0 v1 v2 v3 v4 S) S := by
  unfold b_X6_takeLetters_48
  refine OD_ix (fun j1 => ?_)
  refine OD_nmL (w.1 _ _ kv0 2 _ rfl).2 (fun S2 hS2 => ?_)
  have wS2 : WT D S2.2.2 := by rw [hS2]; exact w
  clear hS2
  refine OD_ite ?_ ?_
  · refine OD_bd (o_X6_wordOf v4 S2 wS2) (fun r4 S3 hS3 => ?_)
    have wS3 : WT D S3.2.2 := by rw [hS3]; exact wS2
    clear hS3
    exact ob_X6_takeLetters_79 v3 (S2.2.2 v0 0) (wS2.1 _ _ kv0 0 _ rfl) v1 r4 S3 wS3
  · exact ob_X6_takeLetters_79 v3 (S2.2.2 v0 0) (wS2.1 _ _ kv0 0 _ rfl) v1 (24 : Int32) S2 wS2
set_option maxRecDepth 20000 in
theorem ob_X6_takeLetters_5 {D : Nat → Prop} : ∀ (fu : Nat) (v0 : Nat) (kv0 : KA D v0 (0, 6)) (v1 : Int32) (v2 : Int32) (v3 : Int32) (v4 : Int64) (S : St), WT D S.2.2 → OD D (b_X6_takeLetters_5 fu v0 v1 v2 v3 v4 S) S := by
  intro fu
  induction fu with
  | zero => intro v0 kv0 v1 v2 v3 v4 S w; exact OD_none
  | succ fu ih =>
    intro v0 kv0 v1 v2 v3 v4 S w
    rw [b_X6_takeLetters_5]
    refine OD_ite ?_ ?_
    · exact ob_X6_takeLetters_48 v0 kv0 v1 v2 v3 v4 S w
    · refine OD_bd (o_X6_isLetter v0 kv0 v3 S w) (fun r2 S1 hS1 => ?_)
      have wS1 : WT D S1.2.2 := by rw [hS1]; exact w
      clear hS1
      refine OD_ite ?_ ?_
      · exact ob_X6_takeLetters_48 v0 kv0 v1 v2 v3 v4 S1 wS1
      · refine OD_ix (fun j3 => ?_)
        refine OD_nm (fun x4 => ?_)
        refine OD_nm (fun x5 => ?_)
        exact ih v0 kv0 v1 v2 x5 x4 S1 wS1
set_option maxRecDepth 20000 in
theorem o_X6_takeLetters {D : Nat → Prop} (v0 : Nat) (kv0 : KA D v0 (0, 6)) (v1 : Int32) (v2 : Int32) (S : St) (w : WT D S.2.2) : OD D (f_X6_takeLetters v0 v1 v2 S) S := by
  unfold f_X6_takeLetters
  exact ob_X6_takeLetters_5 FU v0 kv0 v1 v2 v2 (0 : Int64) S w
set_option maxRecDepth 20000 in
theorem o_X6_isDigit {D : Nat → Prop} (v0 : Nat) (kv0 : KA D v0 (0, 6)) (v1 : Int32) (S : St) (w : WT D S.2.2) : OD D (f_X6_isDigit v0 v1 S) S := by
  unfold f_X6_isDigit
  refine OD_ix (fun j1 => ?_)
  refine OD_ite ?_ ?_
  · exact OD_some
  · refine OD_ix (fun j2 => ?_)
    refine OD_ite ?_ ?_
    · exact OD_some
    · exact OD_some
set_option maxRecDepth 20000 in
theorem ob_X6_takeDigits_73 {D : Nat → Prop} (v3 : Int32) (s0 : Nat) (ks0 : KA D s0 (1, 401)) (s1 : Int32) (s2 : Int32) (S : St) (w : WT D S.2.2) : OD D (b_X6_takeDigits_73 v3 s0 s1 s2 S) S := by
  unfold b_X6_takeDigits_73
  refine OD_ix (fun j1 => ?_)
  refine OD_nmI (ks0).2 (fun S2 hS2 => ?_)
  have wS2 : WT D S2.2.2 := by rw [hS2]; exact w
  clear hS2
  exact OD_some
set_option maxRecDepth 20000 in
theorem ob_X6_takeDigits_46 {D : Nat → Prop} (v0 : Nat) (kv0 : KA D v0 (0, 6)) (v1 : Int32) (v2 : Int32) (v3 : Int32) (v4 : Int64) (S : St) (w : WT D S.2.2) : OD D (b_X6_takeDigits_46 v0 v1 v2 v3 v4 S) S := by
  unfold b_X6_takeDigits_46
  refine OD_ix (fun j1 => ?_)
  refine OD_nmL (w.1 _ _ kv0 2 _ rfl).2 (fun S2 hS2 => ?_)
  have wS2 : WT D S2.2.2 := by rw [hS2]; exact w
  clear hS2
  refine OD_ite ?_ ?_
  · exact ob_X6_takeDigits_73 v3 (S2.2.2 v0 0) (wS2.1 _ _ kv0 0 _ rfl) v1 (22 : Int32) S2 wS2
  · exact ob_X6_takeDigits_73 v3 (S2.2.2 v0 0) (wS2.1 _ _ kv0 0 _ rfl) v1 (24 : Int32) S2 wS2
set_option maxRecDepth 20000 in
theorem ob_X6_takeDigits_5 {D : Nat → Prop} : ∀ (fu : Nat) (v0 : Nat) (kv0 : KA D v0 (0, 6)) (v1 : Int32) (v2 : Int32) (v3 : Int32) (v4 : Int64) (S : St), WT D S.2.2 → OD D (b_X6_takeDigits_5 fu v0 v1 v2 v3 v4 S) S := by
  intro fu
  induction fu with
  | zero => intro v0 kv0 v1 v2 v3 v4 S w; exact OD_none
  | succ fu ih =>
    intro v0 kv0 v1 v2 v3 v4 S w
    rw [b_X6_takeDigits_5]
    refine OD_ite ?_ ?_
    · exact ob_X6_takeDigits_46 v0 kv0 v1 v2 v3 v4 S w
    · refine OD_bd (o_X6_isDigit v0 kv0 v3 S w) (fun r2 S1 hS1 => ?_)
      have wS1 : WT D S1.2.2 := by rw [hS1]; exact w
      clear hS1
      refine OD_ite ?_ ?_
      · exact ob_X6_takeDigits_46 v0 kv0 v1 v2 v3 v4 S1 wS1
      · refine OD_ix (fun j3 => ?_)
        refine OD_nm (fun x4 => ?_)
        refine OD_nm (fun x5 => ?_)
        exact ih v0 kv0 v1 v2 x5 x4 S1 wS1
set_option maxRecDepth 20000 in
theorem o_X6_takeDigits {D : Nat → Prop} (v0 : Nat) (kv0 : KA D v0 (0, 6)) (v1 : Int32) (v2 : Int32) (S : St) (w : WT D S.2.2) : OD D (f_X6_takeDigits v0 v1 v2 S) S := by
  unfold f_X6_takeDigits
  exact ob_X6_takeDigits_5 FU v0 kv0 v1 v2 v2 (0 : Int64) S w
set_option maxRecDepth 20000 in
theorem o_J1_canEncode_9a6ad {D : Nat → Prop} (v0 : Int32) (S : St) (w : WT D S.2.2) : OD D (f_J1_canEncode_9a6ad v0 S) S := by
  unfold f_J1_canEncode_9a6ad
  refine OD_ite ?_ ?_
  · exact OD_some
  · refine OD_ite ?_ ?_
    · exact OD_some
    · exact OD_some
set_option maxRecDepth 20000 in
theorem ob_J1_indexOfChar_4cfef_7 {D : Nat → Prop} : ∀ (fu : Nat) (v0 : Nat) (kv0 : v0 < 2) (v3 : Int32) (v4 : Int32) (v5 : Int32) (S : St), WT D S.2.2 → OD D (b_J1_indexOfChar_4cfef_7 fu v0 v3 v4 v5 S) S := by
  intro fu
  induction fu with
  | zero => intro v0 kv0 v3 v4 v5 S w; exact OD_none
  | succ fu ih =>
    intro v0 kv0 v3 v4 v5 S w
    rw [b_J1_indexOfChar_4cfef_7]
    refine OD_ite ?_ ?_
    · exact OD_some
    · refine OD_ix (fun j1 => ?_)
      refine OD_ite ?_ ?_
      · exact OD_some
      · refine OD_nm (fun x2 => ?_)
        exact ih v0 kv0 v3 v4 x2 S w
set_option maxRecDepth 20000 in
theorem o_J1_indexOfChar_4cfef {D : Nat → Prop} (v0 : Nat) (kv0 : v0 < 2) (v1 : Int32) (v2 : Int32) (v3 : Int32) (S : St) (w : WT D S.2.2) : OD D (f_J1_indexOfChar_4cfef v0 v1 v2 v3 S) S := by
  unfold f_J1_indexOfChar_4cfef
  refine OD_nm (fun x1 => ?_)
  exact ob_J1_indexOfChar_4cfef_7 FU v0 kv0 v3 x1 v2 S w
set_option maxRecDepth 20000 in
theorem o_J1_indexOf_4cfef {D : Nat → Prop} (v0 : Nat) (kv0 : v0 < 2) (v1 : Int32) (v2 : Int32) (v3 : Int32) (S : St) (w : WT D S.2.2) : OD D (f_J1_indexOf_4cfef v0 v1 v2 v3 S) S := by
  unfold f_J1_indexOf_4cfef
  refine OD_bd (o_J1_canEncode_9a6ad v1 S w) (fun r2 S1 hS1 => ?_)
  have wS1 : WT D S1.2.2 := by rw [hS1]; exact w
  clear hS1
  refine OD_ite ?_ ?_
  · exact OD_some
  · refine OD_nm (fun x3 => ?_)
    refine OD_nm (fun x4 => ?_)
    refine OD_ite ?_ ?_
    · refine OD_bd (o_J1_indexOfChar_4cfef v0 kv0 v1 x3 x4 S1 wS1) (fun r6 S5 hS5 => ?_)
      have wS5 : WT D S5.2.2 := by rw [hS5]; exact wS1
      clear hS5
      exact OD_some
    · exact OD_some
set_option maxRecDepth 20000 in
theorem o_J0_indexOf_7cf53 {D : Nat → Prop} (v0 : Nat) (kv0 : v0 < 2) (v1 : Int32) (v2 : Int32) (S : St) (w : WT D S.2.2) : OD D (f_J0_indexOf_7cf53 v0 v1 v2 S) S := by
  unfold f_J0_indexOf_7cf53
  refine OD_bd (o_J0_isLatin1_aae02 v0 kv0 S w) (fun r2 S1 hS1 => ?_)
  have wS1 : WT D S1.2.2 := by rw [hS1]; exact w
  clear hS1
  refine OD_ite ?_ ?_
  · exact OD_none
  · refine OD_bd (o_J0_length_8abf5 v0 kv0 S1 wS1) (fun r4 S3 hS3 => ?_)
    have wS3 : WT D S3.2.2 := by rw [hS3]; exact wS1
    clear hS3
    refine OD_bd (o_J1_indexOf_4cfef v0 kv0 v1 v2 r4 S3 wS3) (fun r6 S5 hS5 => ?_)
    have wS5 : WT D S5.2.2 := by rw [hS5]; exact wS3
    clear hS5
    exact OD_some
set_option maxRecDepth 20000 in
theorem o_J0_indexOf_0f7a4 {D : Nat → Prop} (v0 : Nat) (kv0 : v0 < 2) (v1 : Int32) (S : St) (w : WT D S.2.2) : OD D (f_J0_indexOf_0f7a4 v0 v1 S) S := by
  unfold f_J0_indexOf_0f7a4
  refine OD_bd (o_J0_indexOf_7cf53 v0 kv0 v1 (0 : Int32) S w) (fun r2 S1 hS1 => ?_)
  have wS1 : WT D S1.2.2 := by rw [hS1]; exact w
  clear hS1
  exact OD_some
set_option maxRecDepth 20000 in
theorem ob_X6_takeOne_80 {D : Nat → Prop} (v2 : Int32) (s0 : Nat) (ks0 : KA D s0 (1, 401)) (s1 : Int32) (s2 : Int32) (S : St) (w : WT D S.2.2) : OD D (b_X6_takeOne_80 v2 s0 s1 s2 S) S := by
  unfold b_X6_takeOne_80
  refine OD_ix (fun j1 => ?_)
  refine OD_nmI (ks0).2 (fun S2 hS2 => ?_)
  have wS2 : WT D S2.2.2 := by rw [hS2]; exact w
  clear hS2
  exact OD_some
set_option maxRecDepth 20000 in
theorem ob_X6_takeOne_78 {D : Nat → Prop} (v2 : Int32) (s0 : Nat) (ks0 : KA D s0 (1, 401)) (s1 : Int32) (S : St) (w : WT D S.2.2) : OD D (b_X6_takeOne_78 v2 s0 s1 S) S := by
  unfold b_X6_takeOne_78
  exact ob_X6_takeOne_80 v2 s0 ks0 s1 (24 : Int32) S w
set_option maxRecDepth 20000 in
theorem o_X6_takeOne {D : Nat → Prop} (v0 : Nat) (kv0 : KA D v0 (0, 6)) (v1 : Int32) (v2 : Int32) (S : St) (w : WT D S.2.2) : OD D (f_X6_takeOne v0 v1 v2 S) S := by
  unfold f_X6_takeOne
  refine OD_ite ?_ ?_
  · refine OD_bd (o_X6_isLetter v0 kv0 v2 S w) (fun r2 S1 hS1 => ?_)
    have wS1 : WT D S1.2.2 := by rw [hS1]; exact w
    clear hS1
    refine OD_ite ?_ ?_
    · refine OD_bd (o_X6_isDigit v0 kv0 v2 S1 wS1) (fun r4 S3 hS3 => ?_)
      have wS3 : WT D S3.2.2 := by rw [hS3]; exact wS1
      clear hS3
      refine OD_ite ?_ ?_
      · refine OD_ix (fun j5 => ?_)
        refine OD_nm (fun x6 => ?_)
        refine OD_ite ?_ ?_
        · exact ob_X6_takeOne_78 v2 (S3.2.2 v0 0) (wS3.1 _ _ kv0 0 _ rfl) v1 S3 wS3
        · refine OD_bd (o_J0_indexOf_0f7a4 1 (by decide) ((x6.toUInt32 % 65536).toInt32) S3 wS3) (fun r8 S7 hS7 => ?_)
          have wS7 : WT D S7.2.2 := by rw [hS7]; exact wS3
          clear hS7
          refine OD_ite ?_ ?_
          · exact ob_X6_takeOne_78 v2 (S3.2.2 v0 0) (wS3.1 _ _ kv0 0 _ rfl) v1 S7 wS7
          · exact ob_X6_takeOne_80 v2 (S3.2.2 v0 0) (wS3.1 _ _ kv0 0 _ rfl) v1 x6 S7 wS7
      · refine OD_bd (o_X6_takeDigits v0 kv0 v1 v2 S3 wS3) (fun r10 S9 hS9 => ?_)
        have wS9 : WT D S9.2.2 := by rw [hS9]; exact wS3
        clear hS9
        exact OD_some
    · refine OD_bd (o_X6_takeLetters v0 kv0 v1 v2 S1 wS1) (fun r12 S11 hS11 => ?_)
      have wS11 : WT D S11.2.2 := by rw [hS11]; exact wS1
      clear hS11
      exact OD_some
  · refine OD_ix (fun j13 => ?_)
    refine OD_nmI (w.1 _ _ kv0 0 _ rfl).2 (fun S14 hS14 => ?_)
    have wS14 : WT D S14.2.2 := by rw [hS14]; exact w
    clear hS14
    exact OD_some
set_option maxRecDepth 20000 in
theorem ob_X6_split_17 {D : Nat → Prop} : ∀ (fu : Nat) (v0 : Nat) (kv0 : KA D v0 (0, 6)) (v2 : Int32) (v3 : Int32) (S : St), WT D S.2.2 → OD D (b_X6_split_17 fu v0 v2 v3 S) S := by
  intro fu
  induction fu with
  | zero => intro v0 kv0 v2 v3 S w; exact OD_none
  | succ fu ih =>
    intro v0 kv0 v2 v3 S w
    rw [b_X6_split_17]
    refine OD_ite ?_ ?_
    · exact OD_some
    · refine OD_bd (o_X6_behindBlanks v0 kv0 v2 S w) (fun r2 S1 hS1 => ?_)
      have wS1 : WT D S1.2.2 := by rw [hS1]; exact w
      clear hS1
      refine OD_ix (fun j3 => ?_)
      refine OD_nmI (wS1.1 _ _ kv0 1 _ rfl).2 (fun S4 hS4 => ?_)
      have wS4 : WT D S4.2.2 := by rw [hS4]; exact wS1
      clear hS4
      refine OD_bd (o_X6_takeOne v0 kv0 v3 r2 S4 wS4) (fun r6 S5 hS5 => ?_)
      have wS5 : WT D S5.2.2 := by rw [hS5]; exact wS4
      clear hS5
      refine OD_ix (fun j7 => ?_)
      refine OD_ite ?_ ?_
      · exact OD_some
      · refine OD_ix (fun j8 => ?_)
        refine OD_ite ?_ ?_
        · exact OD_some
        · refine OD_nm (fun x9 => ?_)
          exact ih v0 kv0 r6 x9 S5 wS5
set_option maxRecDepth 20000 in
theorem o_X6_split {D : Nat → Prop} (v0 : Nat) (kv0 : KA D v0 (0, 6)) (v1 : Int32) (S : St) (w : WT D S.2.2) : OD D (f_X6_split v0 v1 S) S := by
  unfold f_X6_split
  refine OD_nmI (kv0).2 (fun S1 hS1 => ?_)
  have wS1 : WT D S1.2.2 := by rw [hS1]; exact w
  clear hS1
  exact ob_X6_split_17 FU v0 kv0 (0 : Int32) (0 : Int32) S1 wS1
set_option maxRecDepth 20000 in
theorem o_X4_atHand {D : Nat → Prop} (v0 : Nat) (kv0 : KA D v0 (0, 4)) (S : St) (w : WT D S.2.2) : OD D (f_X4_atHand v0 S) S := by
  unfold f_X4_atHand
  refine OD_ite ?_ ?_
  · refine OD_ix (fun j1 => ?_)
    exact OD_some
  · exact OD_some
set_option maxRecDepth 20000 in
theorem o_X4_refuse {D : Nat → Prop} (v0 : Nat) (kv0 : KA D v0 (0, 4)) (v1 : Int32) (S : St) (w : WT D S.2.2) : OD D (f_X4_refuse v0 v1 S) S := by
  unfold f_X4_refuse
  refine OD_ite ?_ ?_
  · refine OD_nmI (kv0).2 (fun S1 hS1 => ?_)
    have wS1 : WT D S1.2.2 := by rw [hS1]; exact w
    clear hS1
    refine OD_ix (fun j2 => ?_)
    refine OD_nmI (kv0).2 (fun S3 hS3 => ?_)
    have wS3 : WT D S3.2.2 := by rw [hS3]; exact wS1
    clear hS3
    exact OD_some
  · exact OD_some
set_option maxRecDepth 20000 in
theorem o_X4_take {D : Nat → Prop} (v0 : Nat) (kv0 : KA D v0 (0, 4)) (v1 : Int32) (S : St) (w : WT D S.2.2) : OD D (f_X4_take v0 v1 S) S := by
  unfold f_X4_take
  refine OD_bd (o_X4_atHand v0 kv0 S w) (fun r2 S1 hS1 => ?_)
  have wS1 : WT D S1.2.2 := by rw [hS1]; exact w
  clear hS1
  refine OD_ite ?_ ?_
  · refine OD_ite ?_ ?_
    · refine OD_nmI (kv0).2 (fun S3 hS3 => ?_)
      have wS3 : WT D S3.2.2 := by rw [hS3]; exact wS1
      clear hS3
      exact OD_some
    · refine OD_bd (o_X4_refuse v0 kv0 (2 : Int32) S1 wS1) (fun _ S4 hS4 => ?_)
      have wS4 : WT D S4.2.2 := by rw [hS4]; exact wS1
      clear hS4
      exact OD_some
  · refine OD_bd (o_X4_refuse v0 kv0 (1 : Int32) S1 wS1) (fun _ S6 hS6 => ?_)
    have wS6 : WT D S6.2.2 := by rw [hS6]; exact wS1
    clear hS6
    exact OD_some
set_option maxRecDepth 20000 in
theorem o_X4_mark {D : Nat → Prop} (v0 : Nat) (kv0 : KA D v0 (0, 4)) (v1 : Int32) (v2 : Int32) (S : St) (w : WT D S.2.2) : OD D (f_X4_mark v0 v1 v2 S) S := by
  unfold f_X4_mark
  refine OD_ite ?_ ?_
  · refine OD_nmI (kv0).2 (fun S1 hS1 => ?_)
    have wS1 : WT D S1.2.2 := by rw [hS1]; exact w
    clear hS1
    refine OD_ix (fun j2 => ?_)
    refine OD_nmI (kv0).2 (fun S3 hS3 => ?_)
    have wS3 : WT D S3.2.2 := by rw [hS3]; exact wS1
    clear hS3
    exact OD_some
  · exact OD_some
set_option maxRecDepth 20000 in
theorem ob_X4_takeNewName_41 {D : Nat → Prop} (v0 : Nat) (kv0 : KA D v0 (0, 4)) (v1 : Int32) (v2 : Int64) (S : St) (w : WT D S.2.2) : OD D (b_X4_takeNewName_41 v0 v1 v2 S) S := by
  unfold b_X4_takeNewName_41
  refine OD_bd (o_X4_mark v0 kv0 (3 : Int32) v1 S w) (fun _ S1 hS1 => ?_)
  have wS1 : WT D S1.2.2 := by rw [hS1]; exact w
  clear hS1
  exact OD_some
set_option maxRecDepth 20000 in
theorem o_X4_takeNewName {D : Nat → Prop} (v0 : Nat) (kv0 : KA D v0 (0, 4)) (S : St) (w : WT D S.2.2) : OD D (f_X4_takeNewName v0 S) S := by
  unfold f_X4_takeNewName
  refine OD_bd (o_X4_take v0 kv0 (21 : Int32) S w) (fun r2 S1 hS1 => ?_)
  have wS1 : WT D S1.2.2 := by rw [hS1]; exact w
  clear hS1
  refine OD_ix (fun j3 => ?_)
  refine OD_nm (fun x4 => ?_)
  refine OD_bd (o_X0_mermaidNamed (S1.2.2 v0 1) (wS1.1 _ _ kv0 1 _ rfl) x4 S1 wS1) (fun r6 S5 hS5 => ?_)
  have wS5 : WT D S5.2.2 := by rw [hS5]; exact wS1
  clear hS5
  refine OD_ite ?_ ?_
  · refine OD_bd (o_X0_personNamed (S5.2.2 v0 1) (wS5.1 _ _ kv0 1 _ rfl) x4 S5 wS5) (fun r8 S7 hS7 => ?_)
    have wS7 : WT D S7.2.2 := by rw [hS7]; exact wS5
    clear hS7
    refine OD_ite ?_ ?_
    · exact OD_some
    · exact ob_X4_takeNewName_41 v0 kv0 r2 x4 S7 wS7
  · exact ob_X4_takeNewName_41 v0 kv0 r2 x4 S5 wS5
set_option maxRecDepth 20000 in
theorem ob_X4_takeNumber_35 {D : Nat → Prop} (v0 : Nat) (kv0 : KA D v0 (0, 4)) (v4 : Int32) (v5 : Int32) (S : St) (w : WT D S.2.2) : OD D (b_X4_takeNumber_35 v0 v4 v5 S) S := by
  unfold b_X4_takeNumber_35
  refine OD_bd (o_X4_mark v0 kv0 (5 : Int32) v4 S w) (fun _ S1 hS1 => ?_)
  have wS1 : WT D S1.2.2 := by rw [hS1]; exact w
  clear hS1
  exact OD_some
set_option maxRecDepth 20000 in
theorem o_X4_takeNumber {D : Nat → Prop} (v0 : Nat) (kv0 : KA D v0 (0, 4)) (v1 : Int32) (v2 : Int32) (v3 : Int32) (S : St) (w : WT D S.2.2) : OD D (f_X4_takeNumber v0 v1 v2 v3 S) S := by
  unfold f_X4_takeNumber
  refine OD_bd (o_X4_take v0 kv0 (22 : Int32) S w) (fun r2 S1 hS1 => ?_)
  have wS1 : WT D S1.2.2 := by rw [hS1]; exact w
  clear hS1
  refine OD_ix (fun j3 => ?_)
  refine OD_nm (fun x4 => ?_)
  refine OD_ite ?_ ?_
  · exact ob_X4_takeNumber_35 v0 kv0 r2 x4 S1 wS1
  · refine OD_ite ?_ ?_
    · exact OD_some
    · exact ob_X4_takeNumber_35 v0 kv0 r2 x4 S1 wS1
set_option maxRecDepth 20000 in
theorem ob_X4_takeStep_20 {D : Nat → Prop} (v0 : Nat) (kv0 : KA D v0 (0, 4)) (v1 : Int32) (S : St) (w : WT D S.2.2) : OD D (b_X4_takeStep_20 v0 v1 S) S := by
  unfold b_X4_takeStep_20
  refine OD_bd (o_X4_takeNumber v0 kv0 v1 (-3 : Int32) (3 : Int32) S w) (fun r2 S1 hS1 => ?_)
  have wS1 : WT D S1.2.2 := by rw [hS1]; exact w
  clear hS1
  exact OD_some
set_option maxRecDepth 20000 in
theorem o_X4_takeStep {D : Nat → Prop} (v0 : Nat) (kv0 : KA D v0 (0, 4)) (S : St) (w : WT D S.2.2) : OD D (f_X4_takeStep v0 S) S := by
  unfold f_X4_takeStep
  refine OD_bd (o_X4_atHand v0 kv0 S w) (fun r2 S1 hS1 => ?_)
  have wS1 : WT D S1.2.2 := by rw [hS1]; exact w
  clear hS1
  refine OD_ite ?_ ?_
  · refine OD_bd (o_X4_take v0 kv0 (45 : Int32) S1 wS1) (fun r4 S3 hS3 => ?_)
    have wS3 : WT D S3.2.2 := by rw [hS3]; exact wS1
    clear hS3
    exact ob_X4_takeStep_20 v0 kv0 (-1 : Int32) S3 wS3
  · exact ob_X4_takeStep_20 v0 kv0 (1 : Int32) S1 wS1
set_option maxRecDepth 20000 in
theorem ob_X4_readMermaid_16 {D : Nat → Prop} (v0 : Nat) (kv0 : KA D v0 (0, 4)) (S : St) (w : WT D S.2.2) : OD D (b_X4_readMermaid_16 v0 S) S := by
  unfold b_X4_readMermaid_16
  refine OD_bd (o_X4_take v0 kv0 (0 : Int32) S w) (fun r2 S1 hS1 => ?_)
  have wS1 : WT D S1.2.2 := by rw [hS1]; exact w
  clear hS1
  refine OD_bd (o_X4_takeNewName v0 kv0 S1 wS1) (fun r4 S3 hS3 => ?_)
  have wS3 : WT D S3.2.2 := by rw [hS3]; exact wS1
  clear hS3
  refine OD_bd (o_X4_takeNumber v0 kv0 (1 : Int32) (0 : Int32) (9 : Int32) S3 wS3) (fun r6 S5 hS5 => ?_)
  have wS5 : WT D S5.2.2 := by rw [hS5]; exact wS3
  clear hS5
  refine OD_bd (o_X4_takeNumber v0 kv0 (1 : Int32) (0 : Int32) (9 : Int32) S5 wS5) (fun r8 S7 hS7 => ?_)
  have wS7 : WT D S7.2.2 := by rw [hS7]; exact wS5
  clear hS7
  refine OD_bd (o_X4_takeStep v0 kv0 S7 wS7) (fun r10 S9 hS9 => ?_)
  have wS9 : WT D S9.2.2 := by rw [hS9]; exact wS7
  clear hS9
  refine OD_bd (o_X4_takeStep v0 kv0 S9 wS9) (fun r12 S11 hS11 => ?_)
  have wS11 : WT D S11.2.2 := by rw [hS11]; exact wS9
  clear hS11
  refine OD_bd (o_X4_take v0 kv0 (59 : Int32) S11 wS11) (fun r14 S13 hS13 => ?_)
  have wS13 : WT D S13.2.2 := by rw [hS13]; exact wS11
  clear hS13
  refine OD_bd (o_X0_addMermaid (S13.2.2 v0 1) (wS13.1 _ _ kv0 1 _ rfl) r4 r6 r8 r10 r12 S13 wS13) (fun _ S15 hS15 => ?_)
  have wS15 : WT D S15.2.2 := by rw [hS15]; exact wS13
  clear hS15
  exact OD_some
set_option maxRecDepth 20000 in
theorem o_X4_readMermaid {D : Nat → Prop} (v0 : Nat) (kv0 : KA D v0 (0, 4)) (S : St) (w : WT D S.2.2) : OD D (f_X4_readMermaid v0 S) S := by
  unfold f_X4_readMermaid
  refine OD_ite ?_ ?_
  · exact ob_X4_readMermaid_16 v0 kv0 S w
  · refine OD_bd (o_X4_refuse v0 kv0 (2 : Int32) S w) (fun _ S1 hS1 => ?_)
    have wS1 : WT D S1.2.2 := by rw [hS1]; exact w
    clear hS1
    exact ob_X4_readMermaid_16 v0 kv0 S1 wS1
set_option maxRecDepth 20000 in
theorem ob_X4_readPerson_17 {D : Nat → Prop} (v0 : Nat) (kv0 : KA D v0 (0, 4)) (S : St) (w : WT D S.2.2) : OD D (b_X4_readPerson_17 v0 S) S := by
  unfold b_X4_readPerson_17
  refine OD_bd (o_X4_take v0 kv0 (1 : Int32) S w) (fun r2 S1 hS1 => ?_)
  have wS1 : WT D S1.2.2 := by rw [hS1]; exact w
  clear hS1
  refine OD_bd (o_X4_takeNewName v0 kv0 S1 wS1) (fun r4 S3 hS3 => ?_)
  have wS3 : WT D S3.2.2 := by rw [hS3]; exact wS1
  clear hS3
  refine OD_bd (o_X4_takeNumber v0 kv0 (1 : Int32) (0 : Int32) (9 : Int32) S3 wS3) (fun r6 S5 hS5 => ?_)
  have wS5 : WT D S5.2.2 := by rw [hS5]; exact wS3
  clear hS5
  refine OD_bd (o_X4_takeNumber v0 kv0 (1 : Int32) (0 : Int32) (9 : Int32) S5 wS5) (fun r8 S7 hS7 => ?_)
  have wS7 : WT D S7.2.2 := by rw [hS7]; exact wS5
  clear hS7
  refine OD_bd (o_X4_takeNumber v0 kv0 (1 : Int32) (1 : Int32) (99 : Int32) S7 wS7) (fun r10 S9 hS9 => ?_)
  have wS9 : WT D S9.2.2 := by rw [hS9]; exact wS7
  clear hS9
  refine OD_bd (o_X4_take v0 kv0 (59 : Int32) S9 wS9) (fun r12 S11 hS11 => ?_)
  have wS11 : WT D S11.2.2 := by rw [hS11]; exact wS9
  clear hS11
  refine OD_bd (o_X0_addPerson (S11.2.2 v0 1) (wS11.1 _ _ kv0 1 _ rfl) r4 r6 r8 r10 S11 wS11) (fun _ S13 hS13 => ?_)
  have wS13 : WT D S13.2.2 := by rw [hS13]; exact wS11
  clear hS13
  exact OD_some
set_option maxRecDepth 20000 in
theorem o_X4_readPerson {D : Nat → Prop} (v0 : Nat) (kv0 : KA D v0 (0, 4)) (S : St) (w : WT D S.2.2) : OD D (f_X4_readPerson v0 S) S := by
  unfold f_X4_readPerson
  refine OD_ite ?_ ?_
  · exact ob_X4_readPerson_17 v0 kv0 S w
  · refine OD_bd (o_X4_refuse v0 kv0 (2 : Int32) S w) (fun _ S1 hS1 => ?_)
    have wS1 : WT D S1.2.2 := by rw [hS1]; exact w
    clear hS1
    exact ob_X4_readPerson_17 v0 kv0 S1 wS1
set_option maxRecDepth 20000 in
theorem ob_X4_readStrand_95 {D : Nat → Prop} (v0 : Nat) (kv0 : KA D v0 (0, 4)) (v2 : Int32) (v4 : Int32) (S : St) (w : WT D S.2.2) : OD D (b_X4_readStrand_95 v0 v2 v4 S) S := by
  unfold b_X4_readStrand_95
  refine OD_bd (o_X4_takeNumber v0 kv0 (1 : Int32) (1 : Int32) (9 : Int32) S w) (fun r2 S1 hS1 => ?_)
  have wS1 : WT D S1.2.2 := by rw [hS1]; exact w
  clear hS1
  refine OD_bd (o_X4_take v0 kv0 (59 : Int32) S1 wS1) (fun r4 S3 hS3 => ?_)
  have wS3 : WT D S3.2.2 := by rw [hS3]; exact wS1
  clear hS3
  refine OD_bd (o_X0_addStrand (S3.2.2 v0 1) (wS3.1 _ _ kv0 1 _ rfl) v2 v4 r2 S3 wS3) (fun _ S5 hS5 => ?_)
  have wS5 : WT D S5.2.2 := by rw [hS5]; exact wS3
  clear hS5
  exact OD_some
set_option maxRecDepth 20000 in
theorem ob_X4_readStrand_58 {D : Nat → Prop} (v0 : Nat) (kv0 : KA D v0 (0, 4)) (v2 : Int32) (S : St) (w : WT D S.2.2) : OD D (b_X4_readStrand_58 v0 v2 S) S := by
  unfold b_X4_readStrand_58
  refine OD_bd (o_X4_take v0 kv0 (21 : Int32) S w) (fun r2 S1 hS1 => ?_)
  have wS1 : WT D S1.2.2 := by rw [hS1]; exact w
  clear hS1
  refine OD_ix (fun j3 => ?_)
  refine OD_bd (o_X0_personNamed (S1.2.2 v0 1) (wS1.1 _ _ kv0 1 _ rfl) (S1.2.1 (S1.2.2 (S1.2.2 v0 0) 2) j3) S1 wS1) (fun r5 S4 hS4 => ?_)
  have wS4 : WT D S4.2.2 := by rw [hS4]; exact wS1
  clear hS4
  refine OD_ite ?_ ?_
  · refine OD_bd (o_X4_mark v0 kv0 (4 : Int32) r2 S4 wS4) (fun _ S6 hS6 => ?_)
    have wS6 : WT D S6.2.2 := by rw [hS6]; exact wS4
    clear hS6
    exact ob_X4_readStrand_95 v0 kv0 v2 r5 S6 wS6
  · exact ob_X4_readStrand_95 v0 kv0 v2 r5 S4 wS4
set_option maxRecDepth 20000 in
theorem ob_X4_readStrand_17 {D : Nat → Prop} (v0 : Nat) (kv0 : KA D v0 (0, 4)) (S : St) (w : WT D S.2.2) : OD D (b_X4_readStrand_17 v0 S) S := by
  unfold b_X4_readStrand_17
  refine OD_bd (o_X4_take v0 kv0 (2 : Int32) S w) (fun r2 S1 hS1 => ?_)
  have wS1 : WT D S1.2.2 := by rw [hS1]; exact w
  clear hS1
  refine OD_bd (o_X4_take v0 kv0 (21 : Int32) S1 wS1) (fun r4 S3 hS3 => ?_)
  have wS3 : WT D S3.2.2 := by rw [hS3]; exact wS1
  clear hS3
  refine OD_ix (fun j5 => ?_)
  refine OD_bd (o_X0_mermaidNamed (S3.2.2 v0 1) (wS3.1 _ _ kv0 1 _ rfl) (S3.2.1 (S3.2.2 (S3.2.2 v0 0) 2) j5) S3 wS3) (fun r7 S6 hS6 => ?_)
  have wS6 : WT D S6.2.2 := by rw [hS6]; exact wS3
  clear hS6
  refine OD_ite ?_ ?_
  · refine OD_bd (o_X4_mark v0 kv0 (4 : Int32) r4 S6 wS6) (fun _ S8 hS8 => ?_)
    have wS8 : WT D S8.2.2 := by rw [hS8]; exact wS6
    clear hS8
    exact ob_X4_readStrand_58 v0 kv0 r7 S8 wS8
  · exact ob_X4_readStrand_58 v0 kv0 r7 S6 wS6
set_option maxRecDepth 20000 in
theorem o_X4_readStrand {D : Nat → Prop} (v0 : Nat) (kv0 : KA D v0 (0, 4)) (S : St) (w : WT D S.2.2) : OD D (f_X4_readStrand v0 S) S := by
  unfold f_X4_readStrand
  refine OD_ite ?_ ?_
  · exact ob_X4_readStrand_17 v0 kv0 S w
  · refine OD_bd (o_X4_refuse v0 kv0 (2 : Int32) S w) (fun _ S1 hS1 => ?_)
    have wS1 : WT D S1.2.2 := by rw [hS1]; exact w
    clear hS1
    exact ob_X4_readStrand_17 v0 kv0 S1 wS1
set_option maxRecDepth 20000 in
theorem o_X4_readPier {D : Nat → Prop} (v0 : Nat) (kv0 : KA D v0 (0, 4)) (S : St) (w : WT D S.2.2) : OD D (f_X4_readPier v0 S) S := by
  unfold f_X4_readPier
  refine OD_bd (o_X4_take v0 kv0 (7 : Int32) S w) (fun r2 S1 hS1 => ?_)
  have wS1 : WT D S1.2.2 := by rw [hS1]; exact w
  clear hS1
  refine OD_bd (o_X4_takeNumber v0 kv0 (1 : Int32) (0 : Int32) (9 : Int32) S1 wS1) (fun r4 S3 hS3 => ?_)
  have wS3 : WT D S3.2.2 := by rw [hS3]; exact wS1
  clear hS3
  refine OD_nmI (wS1.1 _ _ kv0 1 _ rfl).2 (fun S5 hS5 => ?_)
  have wS5 : WT D S5.2.2 := by rw [hS5]; exact wS3
  clear hS5
  refine OD_bd (o_X4_take v0 kv0 (59 : Int32) S5 wS5) (fun r7 S6 hS6 => ?_)
  have wS6 : WT D S6.2.2 := by rw [hS6]; exact wS5
  clear hS6
  exact OD_some
set_option maxRecDepth 20000 in
theorem o_X4_readSeed {D : Nat → Prop} (v0 : Nat) (kv0 : KA D v0 (0, 4)) (S : St) (w : WT D S.2.2) : OD D (f_X4_readSeed v0 S) S := by
  unfold f_X4_readSeed
  refine OD_bd (o_X4_take v0 kv0 (8 : Int32) S w) (fun r2 S1 hS1 => ?_)
  have wS1 : WT D S1.2.2 := by rw [hS1]; exact w
  clear hS1
  refine OD_bd (o_X4_takeNumber v0 kv0 (1 : Int32) (0 : Int32) (9999 : Int32) S1 wS1) (fun r4 S3 hS3 => ?_)
  have wS3 : WT D S3.2.2 := by rw [hS3]; exact wS1
  clear hS3
  refine OD_nmI (wS1.1 _ _ kv0 1 _ rfl).2 (fun S5 hS5 => ?_)
  have wS5 : WT D S5.2.2 := by rw [hS5]; exact wS3
  clear hS5
  refine OD_bd (o_X4_take v0 kv0 (59 : Int32) S5 wS5) (fun r7 S6 hS6 => ?_)
  have wS6 : WT D S6.2.2 := by rw [hS6]; exact wS5
  clear hS6
  exact OD_some
set_option maxRecDepth 20000 in
theorem ob_X4_readUnit_78 {D : Nat → Prop} {rs : Nat → Int32 → St → Option (Unit × St)} (ors : ∀ (a : Nat) (x : Int32) (S : St), KA D a (0, 4) → WT D S.2.2 → OD D (rs a x S) S) (v0 : Nat) (kv0 : KA D v0 (0, 4)) (v1 : Int32) (v2 : Int32) (S : St) (w : WT D S.2.2) : OD D (b_X4_readUnit_78 rs v0 v1 v2 S) S := by
  unfold b_X4_readUnit_78
  refine OD_ite ?_ ?_
  · refine OD_ite ?_ ?_
    · refine OD_bd (o_X4_take v0 kv0 (40 : Int32) S w) (fun r2 S1 hS1 => ?_)
      have wS1 : WT D S1.2.2 := by rw [hS1]; exact w
      clear hS1
      refine OD_bd (ors v0 (v1 + (1 : Int32)) S1 kv0 wS1) (fun _ S3 hS3 => ?_)
      have wS3 : WT D S3.2.2 := by rw [hS3]; exact wS1
      clear hS3
      refine OD_bd (o_X4_take v0 kv0 (41 : Int32) S3 wS3) (fun r6 S5 hS5 => ?_)
      have wS5 : WT D S5.2.2 := by rw [hS5]; exact wS3
      clear hS5
      exact OD_some
    · refine OD_bd (o_X4_refuse v0 kv0 (2 : Int32) S w) (fun _ S7 hS7 => ?_)
      have wS7 : WT D S7.2.2 := by rw [hS7]; exact w
      clear hS7
      exact OD_some
  · refine OD_bd (o_X4_refuse v0 kv0 (1 : Int32) S w) (fun _ S9 hS9 => ?_)
    have wS9 : WT D S9.2.2 := by rw [hS9]; exact w
    clear hS9
    exact OD_some
set_option maxRecDepth 20000 in
theorem o_X4_readUnit {D : Nat → Prop} {rs : Nat → Int32 → St → Option (Unit × St)} (ors : ∀ (a : Nat) (x : Int32) (S : St), KA D a (0, 4) → WT D S.2.2 → OD D (rs a x S) S) (v0 : Nat) (kv0 : KA D v0 (0, 4)) (v1 : Int32) (S : St) (w : WT D S.2.2) : OD D (f_X4_readUnit rs v0 v1 S) S := by
  unfold f_X4_readUnit
  refine OD_bd (o_X4_atHand v0 kv0 S w) (fun r2 S1 hS1 => ?_)
  have wS1 : WT D S1.2.2 := by rw [hS1]; exact w
  clear hS1
  refine OD_ite ?_ ?_
  · refine OD_bd (o_X4_take v0 kv0 (22 : Int32) S1 wS1) (fun r4 S3 hS3 => ?_)
    have wS3 : WT D S3.2.2 := by rw [hS3]; exact wS1
    clear hS3
    refine OD_ix (fun j5 => ?_)
    refine OD_bd (o_X2_put (S1.2.2 (S1.2.2 v0 1) 10) (wS1.1 _ _ (wS1.1 _ _ kv0 1 _ rfl) 10 _ rfl) ((S3.2.1 (S1.2.2 (S1.2.2 v0 0) 2) j5).toInt32) S3 wS3) (fun _ S6 hS6 => ?_)
    have wS6 : WT D S6.2.2 := by rw [hS6]; exact wS3
    clear hS6
    exact OD_some
  · refine OD_ite ?_ ?_
    · exact ob_X4_readUnit_78 ors v0 kv0 v1 r2 S1 wS1
    · refine OD_ite ?_ ?_
      · exact ob_X4_readUnit_78 ors v0 kv0 v1 r2 S1 wS1
      · refine OD_bd (o_X4_take v0 kv0 r2 S1 wS1) (fun r9 S8 hS8 => ?_)
        have wS8 : WT D S8.2.2 := by rw [hS8]; exact wS1
        clear hS8
        refine OD_bd (o_X2_put (S8.2.2 (S8.2.2 v0 1) 10) (wS8.1 _ _ (wS8.1 _ _ kv0 1 _ rfl) 10 _ rfl) (((10000 : Int32) + r2) - (12 : Int32)) S8 wS8) (fun _ S10 hS10 => ?_)
        have wS10 : WT D S10.2.2 := by rw [hS10]; exact wS8
        clear hS10
        exact OD_some
set_option maxRecDepth 20000 in
theorem ob_X4_readProduct_32 {D : Nat → Prop} {rs : Nat → Int32 → St → Option (Unit × St)} (ors : ∀ (a : Nat) (x : Int32) (S : St), KA D a (0, 4) → WT D S.2.2 → OD D (rs a x S) S) {q7 : Nat → Int32 → Int32 → St → Option (Unit × St)} (oq7 : ∀ (v0 : Nat) (kv0 : KA D v0 (0, 4)) (v1 : Int32) (v2 : Int32) (S : St), WT D S.2.2 → OD D (q7 v0 v1 v2 S) S) (v0 : Nat) (kv0 : KA D v0 (0, 4)) (v1 : Int32) (v2 : Int32) (S : St) (w : WT D S.2.2) : OD D (b_X4_readProduct_32 rs q7 v0 v1 v2 S) S := by
  unfold b_X4_readProduct_32
  refine OD_bd (o_X4_atHand v0 kv0 S w) (fun r2 S1 hS1 => ?_)
  have wS1 : WT D S1.2.2 := by rw [hS1]; exact w
  clear hS1
  refine OD_bd (o_X4_take v0 kv0 r2 S1 wS1) (fun r4 S3 hS3 => ?_)
  have wS3 : WT D S3.2.2 := by rw [hS3]; exact wS1
  clear hS3
  refine OD_bd (o_X4_readUnit ors v0 kv0 v1 S3 wS3) (fun _ S5 hS5 => ?_)
  have wS5 : WT D S5.2.2 := by rw [hS5]; exact wS3
  clear hS5
  refine OD_bd (o_X2_put (S5.2.2 (S5.2.2 v0 1) 10) (wS5.1 _ _ (wS5.1 _ _ kv0 1 _ rfl) 10 _ rfl) ((20000 : Int32) + r2) S5 wS5) (fun _ S7 hS7 => ?_)
  have wS7 : WT D S7.2.2 := by rw [hS7]; exact wS5
  clear hS7
  refine OD_nm (fun x9 => ?_)
  exact oq7 v0 kv0 v1 x9 S7 wS7
set_option maxRecDepth 20000 in
theorem ob_X4_readProduct_7 {D : Nat → Prop} {rs : Nat → Int32 → St → Option (Unit × St)} (ors : ∀ (a : Nat) (x : Int32) (S : St), KA D a (0, 4) → WT D S.2.2 → OD D (rs a x S) S) : ∀ (fu : Nat) (v0 : Nat) (kv0 : KA D v0 (0, 4)) (v1 : Int32) (v2 : Int32) (S : St), WT D S.2.2 → OD D (b_X4_readProduct_7 rs fu v0 v1 v2 S) S := by
  intro fu
  induction fu with
  | zero => intro v0 kv0 v1 v2 S w; exact OD_none
  | succ fu ih =>
    intro v0 kv0 v1 v2 S w
    rw [b_X4_readProduct_7]
    refine OD_ite ?_ ?_
    · exact OD_some
    · refine OD_bd (o_X4_atHand v0 kv0 S w) (fun r2 S1 hS1 => ?_)
      have wS1 : WT D S1.2.2 := by rw [hS1]; exact w
      clear hS1
      refine OD_ite ?_ ?_
      · exact ob_X4_readProduct_32 ors ih v0 kv0 v1 v2 S1 wS1
      · refine OD_bd (o_X4_atHand v0 kv0 S1 wS1) (fun r4 S3 hS3 => ?_)
        have wS3 : WT D S3.2.2 := by rw [hS3]; exact wS1
        clear hS3
        refine OD_ite ?_ ?_
        · exact ob_X4_readProduct_32 ors ih v0 kv0 v1 v2 S3 wS3
        · exact OD_some
set_option maxRecDepth 20000 in
theorem o_X4_readProduct {D : Nat → Prop} {rs : Nat → Int32 → St → Option (Unit × St)} (ors : ∀ (a : Nat) (x : Int32) (S : St), KA D a (0, 4) → WT D S.2.2 → OD D (rs a x S) S) (v0 : Nat) (kv0 : KA D v0 (0, 4)) (v1 : Int32) (S : St) (w : WT D S.2.2) : OD D (f_X4_readProduct rs v0 v1 S) S := by
  unfold f_X4_readProduct
  refine OD_bd (o_X4_readUnit ors v0 kv0 v1 S w) (fun _ S1 hS1 => ?_)
  have wS1 : WT D S1.2.2 := by rw [hS1]; exact w
  clear hS1
  exact ob_X4_readProduct_7 ors FU v0 kv0 v1 (0 : Int32) S1 wS1
set_option maxRecDepth 20000 in
theorem ob_X4_readSum_32 {D : Nat → Prop} {rs : Nat → Int32 → St → Option (Unit × St)} (ors : ∀ (a : Nat) (x : Int32) (S : St), KA D a (0, 4) → WT D S.2.2 → OD D (rs a x S) S) {q7 : Nat → Int32 → Int32 → St → Option (Unit × St)} (oq7 : ∀ (v0 : Nat) (kv0 : KA D v0 (0, 4)) (v1 : Int32) (v2 : Int32) (S : St), WT D S.2.2 → OD D (q7 v0 v1 v2 S) S) (v0 : Nat) (kv0 : KA D v0 (0, 4)) (v1 : Int32) (v2 : Int32) (S : St) (w : WT D S.2.2) : OD D (b_X4_readSum_32 rs q7 v0 v1 v2 S) S := by
  unfold b_X4_readSum_32
  refine OD_bd (o_X4_atHand v0 kv0 S w) (fun r2 S1 hS1 => ?_)
  have wS1 : WT D S1.2.2 := by rw [hS1]; exact w
  clear hS1
  refine OD_bd (o_X4_take v0 kv0 r2 S1 wS1) (fun r4 S3 hS3 => ?_)
  have wS3 : WT D S3.2.2 := by rw [hS3]; exact wS1
  clear hS3
  refine OD_bd (o_X4_readProduct ors v0 kv0 v1 S3 wS3) (fun _ S5 hS5 => ?_)
  have wS5 : WT D S5.2.2 := by rw [hS5]; exact wS3
  clear hS5
  refine OD_bd (o_X2_put (S5.2.2 (S5.2.2 v0 1) 10) (wS5.1 _ _ (wS5.1 _ _ kv0 1 _ rfl) 10 _ rfl) ((20000 : Int32) + r2) S5 wS5) (fun _ S7 hS7 => ?_)
  have wS7 : WT D S7.2.2 := by rw [hS7]; exact wS5
  clear hS7
  refine OD_nm (fun x9 => ?_)
  exact oq7 v0 kv0 v1 x9 S7 wS7
set_option maxRecDepth 20000 in
theorem ob_X4_readSum_7 {D : Nat → Prop} {rs : Nat → Int32 → St → Option (Unit × St)} (ors : ∀ (a : Nat) (x : Int32) (S : St), KA D a (0, 4) → WT D S.2.2 → OD D (rs a x S) S) : ∀ (fu : Nat) (v0 : Nat) (kv0 : KA D v0 (0, 4)) (v1 : Int32) (v2 : Int32) (S : St), WT D S.2.2 → OD D (b_X4_readSum_7 rs fu v0 v1 v2 S) S := by
  intro fu
  induction fu with
  | zero => intro v0 kv0 v1 v2 S w; exact OD_none
  | succ fu ih =>
    intro v0 kv0 v1 v2 S w
    rw [b_X4_readSum_7]
    refine OD_ite ?_ ?_
    · exact OD_some
    · refine OD_bd (o_X4_atHand v0 kv0 S w) (fun r2 S1 hS1 => ?_)
      have wS1 : WT D S1.2.2 := by rw [hS1]; exact w
      clear hS1
      refine OD_ite ?_ ?_
      · exact ob_X4_readSum_32 ors ih v0 kv0 v1 v2 S1 wS1
      · refine OD_bd (o_X4_atHand v0 kv0 S1 wS1) (fun r4 S3 hS3 => ?_)
        have wS3 : WT D S3.2.2 := by rw [hS3]; exact wS1
        clear hS3
        refine OD_ite ?_ ?_
        · exact ob_X4_readSum_32 ors ih v0 kv0 v1 v2 S3 wS3
        · exact OD_some
theorem o0_X4_readSum {D : Nat → Prop} {rs : Nat → Int32 → St → Option (Unit × St)} (ors : ∀ (a : Nat) (x : Int32) (S : St), KA D a (0, 4) → WT D S.2.2 → OD D (rs a x S) S) (v0 : Nat) (kv0 : KA D v0 (0, 4)) (v1 : Int32) (S : St) (w : WT D S.2.2) : OD D (g_X4_readSum rs v0 v1 S) S := by
  unfold g_X4_readSum
  refine OD_bd (o_X4_readProduct ors v0 kv0 v1 S w) (fun _ S1 hS1 => ?_)
  have wS1 : WT D S1.2.2 := by rw [hS1]; exact w
  clear hS1
  exact ob_X4_readSum_7 ors FU v0 kv0 v1 (0 : Int32) S1 wS1
set_option maxRecDepth 20000 in
theorem o_X4_readSum {D : Nat → Prop} : ∀ (n : Nat) (a : Nat) (ka : KA D a (0, 4)) (x : Int32) (S : St) (w : WT D S.2.2), OD D (f_X4_readSum n a x S) S
  | 0, a, ka, x, S, w => OD_none
  | n + 1, a, ka, x, S, w => o0_X4_readSum (fun a x S ka w => o_X4_readSum n a ka x S w) a ka x S w
set_option maxRecDepth 20000 in
theorem ob_X4_readLaw_11 {D : Nat → Prop} (v0 : Nat) (kv0 : KA D v0 (0, 4)) (S : St) (w : WT D S.2.2) : OD D (b_X4_readLaw_11 v0 S) S := by
  unfold b_X4_readLaw_11
  refine OD_bd (o_X4_refuse v0 kv0 (1 : Int32) S w) (fun _ S1 hS1 => ?_)
  have wS1 : WT D S1.2.2 := by rw [hS1]; exact w
  clear hS1
  exact OD_some
set_option maxRecDepth 20000 in
theorem ob_X4_readLaw_153 {D : Nat → Prop} (v0 : Nat) (kv0 : KA D v0 (0, 4)) (v2 : Int32) (S : St) (w : WT D S.2.2) : OD D (b_X4_readLaw_153 v0 v2 S) S := by
  unfold b_X4_readLaw_153
  refine OD_bd (o_X4_readSum RF v0 kv0 (0 : Int32) S w) (fun _ S1 hS1 => ?_)
  have wS1 : WT D S1.2.2 := by rw [hS1]; exact w
  clear hS1
  refine OD_bd (o_X2_endPiece (S1.2.2 (S1.2.2 v0 1) 10) (wS1.1 _ _ (wS1.1 _ _ kv0 1 _ rfl) 10 _ rfl) v2 S1 wS1) (fun _ S3 hS3 => ?_)
  have wS3 : WT D S3.2.2 := by rw [hS3]; exact wS1
  clear hS3
  refine OD_bd (o_X4_take v0 kv0 (59 : Int32) S3 wS3) (fun r6 S5 hS5 => ?_)
  have wS5 : WT D S5.2.2 := by rw [hS5]; exact wS3
  clear hS5
  exact OD_some
set_option maxRecDepth 20000 in
theorem ob_X4_readLaw_71 {D : Nat → Prop} {q47 : Nat → Int32 → Int32 → St → Option (Unit × St)} (oq47 : ∀ (v0 : Nat) (kv0 : KA D v0 (0, 4)) (v2 : Int32) (v3 : Int32) (S : St), WT D S.2.2 → OD D (q47 v0 v2 v3 S) S) (v0 : Nat) (kv0 : KA D v0 (0, 4)) (v2 : Int32) (v3 : Int32) (S : St) (w : WT D S.2.2) : OD D (b_X4_readLaw_71 q47 v0 v2 v3 S) S := by
  unfold b_X4_readLaw_71
  refine OD_bd (o_X4_take v0 kv0 (9 : Int32) S w) (fun r2 S1 hS1 => ?_)
  have wS1 : WT D S1.2.2 := by rw [hS1]; exact w
  clear hS1
  refine OD_bd (o_X4_readSum RF v0 kv0 (0 : Int32) S1 wS1) (fun _ S3 hS3 => ?_)
  have wS3 : WT D S3.2.2 := by rw [hS3]; exact wS1
  clear hS3
  refine OD_bd (o_X2_endPiece (S3.2.2 (S3.2.2 v0 1) 10) (wS3.1 _ _ (wS3.1 _ _ kv0 1 _ rfl) 10 _ rfl) v2 S3 wS3) (fun _ S5 hS5 => ?_)
  have wS5 : WT D S5.2.2 := by rw [hS5]; exact wS3
  clear hS5
  refine OD_bd (o_X4_take v0 kv0 (60 : Int32) S5 wS5) (fun r8 S7 hS7 => ?_)
  have wS7 : WT D S7.2.2 := by rw [hS7]; exact wS5
  clear hS7
  refine OD_bd (o_X4_readSum RF v0 kv0 (0 : Int32) S7 wS7) (fun _ S9 hS9 => ?_)
  have wS9 : WT D S9.2.2 := by rw [hS9]; exact wS7
  clear hS9
  refine OD_bd (o_X2_endPiece (S9.2.2 (S9.2.2 v0 1) 10) (wS9.1 _ _ (wS9.1 _ _ kv0 1 _ rfl) 10 _ rfl) v2 S9 wS9) (fun _ S11 hS11 => ?_)
  have wS11 : WT D S11.2.2 := by rw [hS11]; exact wS9
  clear hS11
  refine OD_bd (o_X4_take v0 kv0 (10 : Int32) S11 wS11) (fun r14 S13 hS13 => ?_)
  have wS13 : WT D S13.2.2 := by rw [hS13]; exact wS11
  clear hS13
  refine OD_bd (o_X4_readSum RF v0 kv0 (0 : Int32) S13 wS13) (fun _ S15 hS15 => ?_)
  have wS15 : WT D S15.2.2 := by rw [hS15]; exact wS13
  clear hS15
  refine OD_bd (o_X2_endPiece (S15.2.2 (S15.2.2 v0 1) 10) (wS15.1 _ _ (wS15.1 _ _ kv0 1 _ rfl) 10 _ rfl) v2 S15 wS15) (fun _ S17 hS17 => ?_)
  have wS17 : WT D S17.2.2 := by rw [hS17]; exact wS15
  clear hS17
  refine OD_bd (o_X4_take v0 kv0 (11 : Int32) S17 wS17) (fun r20 S19 hS19 => ?_)
  have wS19 : WT D S19.2.2 := by rw [hS19]; exact wS17
  clear hS19
  refine OD_nm (fun x21 => ?_)
  exact oq47 v0 kv0 v2 x21 S19 wS19
set_option maxRecDepth 20000 in
theorem ob_X4_readLaw_47 {D : Nat → Prop} : ∀ (fu : Nat) (v0 : Nat) (kv0 : KA D v0 (0, 4)) (v2 : Int32) (v3 : Int32) (S : St), WT D S.2.2 → OD D (b_X4_readLaw_47 fu v0 v2 v3 S) S := by
  intro fu
  induction fu with
  | zero => intro v0 kv0 v2 v3 S w; exact OD_none
  | succ fu ih =>
    intro v0 kv0 v2 v3 S w
    rw [b_X4_readLaw_47]
    refine OD_ite ?_ ?_
    · exact ob_X4_readLaw_153 v0 kv0 v2 S w
    · refine OD_bd (o_X4_atHand v0 kv0 S w) (fun r2 S1 hS1 => ?_)
      have wS1 : WT D S1.2.2 := by rw [hS1]; exact w
      clear hS1
      refine OD_ite ?_ ?_
      · refine OD_ite ?_ ?_
        · refine OD_bd (o_X4_refuse v0 kv0 (2 : Int32) S1 wS1) (fun _ S3 hS3 => ?_)
          have wS3 : WT D S3.2.2 := by rw [hS3]; exact wS1
          clear hS3
          exact ob_X4_readLaw_71 ih v0 kv0 v2 v3 S3 wS3
        · exact ob_X4_readLaw_71 ih v0 kv0 v2 v3 S1 wS1
      · exact ob_X4_readLaw_153 v0 kv0 v2 S1 wS1
set_option maxRecDepth 20000 in
theorem o_X4_readLaw {D : Nat → Prop} (v0 : Nat) (kv0 : KA D v0 (0, 4)) (v1 : Int32) (S : St) (w : WT D S.2.2) : OD D (f_X4_readLaw v0 v1 S) S := by
  unfold f_X4_readLaw
  refine OD_ite ?_ ?_
  · exact ob_X4_readLaw_11 v0 kv0 S w
  · refine OD_ite ?_ ?_
    · refine OD_nm (fun x1 => ?_)
      refine OD_bd (o_X4_take v0 kv0 v1 S w) (fun r3 S2 hS2 => ?_)
      have wS2 : WT D S2.2.2 := by rw [hS2]; exact w
      clear hS2
      refine OD_bd (o_X4_take v0 kv0 (61 : Int32) S2 wS2) (fun r5 S4 hS4 => ?_)
      have wS4 : WT D S4.2.2 := by rw [hS4]; exact wS2
      clear hS4
      refine OD_bd (o_X2_open (S4.2.2 (S4.2.2 v0 1) 10) (wS4.1 _ _ (wS4.1 _ _ kv0 1 _ rfl) 10 _ rfl) x1 S4 wS4) (fun _ S6 hS6 => ?_)
      have wS6 : WT D S6.2.2 := by rw [hS6]; exact wS4
      clear hS6
      exact ob_X4_readLaw_47 FU v0 kv0 x1 (0 : Int32) S6 wS6
    · exact ob_X4_readLaw_11 v0 kv0 S w
set_option maxRecDepth 20000 in
theorem o_X5_isWorn {D : Nat → Prop} (v0 : Nat) (kv0 : KA D v0 (0, 5)) (v1 : Int32) (v2 : Int32) (S : St) (w : WT D S.2.2) : OD D (f_X5_isWorn v0 v1 v2 S) S := by
  unfold f_X5_isWorn
  refine OD_ix (fun j1 => ?_)
  refine OD_ite ?_ ?_
  · refine OD_ite ?_ ?_
    · exact OD_some
    · exact OD_some
  · exact OD_some
set_option maxRecDepth 20000 in
theorem o_X5_mayBeHanded {D : Nat → Prop} (v0 : Nat) (kv0 : KA D v0 (0, 5)) (v1 : Int32) (v2 : Int32) (S : St) (w : WT D S.2.2) : OD D (f_X5_mayBeHanded v0 v1 v2 S) S := by
  unfold f_X5_mayBeHanded
  refine OD_ix (fun j1 => ?_)
  refine OD_ite ?_ ?_
  · exact OD_some
  · refine OD_bd (o_X5_isCut v0 kv0 v1 S w) (fun r3 S2 hS2 => ?_)
    have wS2 : WT D S2.2.2 := by rw [hS2]; exact w
    clear hS2
    refine OD_ite ?_ ?_
    · refine OD_bd (o_X5_isOff v0 kv0 v2 S2 wS2) (fun r5 S4 hS4 => ?_)
      have wS4 : WT D S4.2.2 := by rw [hS4]; exact wS2
      clear hS4
      refine OD_ite ?_ ?_
      · exact OD_some
      · exact OD_some
    · exact OD_some
set_option maxRecDepth 20000 in
theorem ob_X5_swimAlong_61 {D : Nat → Prop} (v0 : Nat) (kv0 : KA D v0 (0, 5)) (v1 : Int32) (v3 : Int32) (S : St) (w : WT D S.2.2) : OD D (b_X5_swimAlong_61 v0 v1 v3 S) S := by
  unfold b_X5_swimAlong_61
  refine OD_ix (fun j1 => ?_)
  refine OD_nmI (w.1 _ _ kv0 0 _ rfl).2 (fun S2 hS2 => ?_)
  have wS2 : WT D S2.2.2 := by rw [hS2]; exact w
  clear hS2
  exact OD_some
set_option maxRecDepth 20000 in
theorem o_X5_swimAlong {D : Nat → Prop} (v0 : Nat) (kv0 : KA D v0 (0, 5)) (v1 : Int32) (v2 : Int32) (S : St) (w : WT D S.2.2) : OD D (f_X5_swimAlong v0 v1 v2 S) S := by
  unfold f_X5_swimAlong
  refine OD_ix (fun j1 => ?_)
  refine OD_ix (fun j2 => ?_)
  refine OD_nm (fun x3 => ?_)
  refine OD_ite ?_ ?_
  · refine OD_ite ?_ ?_
    · exact ob_X5_swimAlong_61 v0 kv0 v1 x3 S w
    · refine OD_nm (fun x4 => ?_)
      refine OD_ix (fun j5 => ?_)
      refine OD_ix (fun j6 => ?_)
      refine OD_nmI (w.1 _ _ kv0 0 _ rfl).2 (fun S7 hS7 => ?_)
      have wS7 : WT D S7.2.2 := by rw [hS7]; exact w
      clear hS7
      exact ob_X5_swimAlong_61 v0 kv0 v1 x4 S7 wS7
  · refine OD_nm (fun x8 => ?_)
    refine OD_ix (fun j9 => ?_)
    refine OD_ix (fun j10 => ?_)
    refine OD_nmI (w.1 _ _ kv0 0 _ rfl).2 (fun S11 hS11 => ?_)
    have wS11 : WT D S11.2.2 := by rw [hS11]; exact w
    clear hS11
    exact ob_X5_swimAlong_61 v0 kv0 v1 x8 S11 wS11
set_option maxRecDepth 20000 in
theorem o_X5_swim {D : Nat → Prop} (v0 : Nat) (kv0 : KA D v0 (0, 5)) (v1 : Int32) (S : St) (w : WT D S.2.2) : OD D (f_X5_swim v0 v1 S) S := by
  unfold f_X5_swim
  refine OD_bd (o_X5_isDead v0 kv0 v1 S w) (fun r2 S1 hS1 => ?_)
  have wS1 : WT D S1.2.2 := by rw [hS1]; exact w
  clear hS1
  refine OD_ite ?_ ?_
  · refine OD_bd (o_X5_swimAlong v0 kv0 ((0 : Int32) + v1) ((8 : Int32) + v1) S1 wS1) (fun _ S3 hS3 => ?_)
    have wS3 : WT D S3.2.2 := by rw [hS3]; exact wS1
    clear hS3
    refine OD_bd (o_X5_swimAlong v0 kv0 ((4 : Int32) + v1) ((12 : Int32) + v1) S3 wS3) (fun _ S5 hS5 => ?_)
    have wS5 : WT D S5.2.2 := by rw [hS5]; exact wS3
    clear hS5
    exact OD_some
  · exact OD_some
set_option maxRecDepth 20000 in
theorem o_X5_swimsLike {D : Nat → Prop} (v0 : Nat) (kv0 : KA D v0 (0, 5)) (v1 : Nat) (kv1 : KA D v1 (0, 5)) (v2 : Int32) (S : St) (w : WT D S.2.2) : OD D (f_X5_swimsLike v0 v1 v2 S) S := by
  unfold f_X5_swimsLike
  refine OD_ix (fun j1 => ?_)
  refine OD_ix (fun j2 => ?_)
  refine OD_ite ?_ ?_
  · refine OD_ix (fun j3 => ?_)
    refine OD_ix (fun j4 => ?_)
    refine OD_ite ?_ ?_
    · refine OD_ix (fun j5 => ?_)
      refine OD_ix (fun j6 => ?_)
      refine OD_ite ?_ ?_
      · refine OD_ix (fun j7 => ?_)
        refine OD_ix (fun j8 => ?_)
        refine OD_ite ?_ ?_
        · exact OD_some
        · exact OD_some
      · exact OD_some
    · exact OD_some
  · exact OD_some
set_option maxRecDepth 20000 in
theorem o_X7_clearAll {D : Nat → Prop} (v0 : Nat) (kv0 : KA D v0 (0, 7)) (S : St) (w : WT D S.2.2) : OD D (f_X7_clearAll v0 S) S := by
  unfold f_X7_clearAll
  refine OD_nmI (kv0).2 (fun S1 hS1 => ?_)
  have wS1 : WT D S1.2.2 := by rw [hS1]; exact w
  clear hS1
  exact OD_some
set_option maxRecDepth 20000 in
theorem o_X7_add {D : Nat → Prop} (v0 : Nat) (kv0 : KA D v0 (0, 7)) (v1 : Int32) (v2 : Int32) (v3 : Int32) (v4 : Int32) (S : St) (w : WT D S.2.2) : OD D (f_X7_add v0 v1 v2 v3 v4 S) S := by
  unfold f_X7_add
  refine OD_ite ?_ ?_
  · refine OD_ix (fun j1 => ?_)
    refine OD_nmI (w.1 _ _ kv0 0 _ rfl).2 (fun S2 hS2 => ?_)
    have wS2 : WT D S2.2.2 := by rw [hS2]; exact w
    clear hS2
    refine OD_ix (fun j3 => ?_)
    refine OD_nmI (wS2.1 _ _ kv0 1 _ rfl).2 (fun S4 hS4 => ?_)
    have wS4 : WT D S4.2.2 := by rw [hS4]; exact wS2
    clear hS4
    refine OD_ix (fun j5 => ?_)
    refine OD_nmI (wS4.1 _ _ kv0 2 _ rfl).2 (fun S6 hS6 => ?_)
    have wS6 : WT D S6.2.2 := by rw [hS6]; exact wS4
    clear hS6
    refine OD_ix (fun j7 => ?_)
    refine OD_nmI (wS6.1 _ _ kv0 3 _ rfl).2 (fun S8 hS8 => ?_)
    have wS8 : WT D S8.2.2 := by rw [hS8]; exact wS6
    clear hS8
    refine OD_nmI (kv0).2 (fun S9 hS9 => ?_)
    have wS9 : WT D S9.2.2 := by rw [hS9]; exact wS8
    clear hS9
    exact OD_some
  · exact OD_some
set_option maxRecDepth 20000 in
theorem ob_X7_fits_2 {D : Nat → Prop} : ∀ (fu : Nat) (v0 : Nat) (kv0 : KA D v0 (0, 7)) (v1 : Int32) (v2 : Int32) (v3 : Int32) (S : St), WT D S.2.2 → OD D (b_X7_fits_2 fu v0 v1 v2 v3 S) S := by
  intro fu
  induction fu with
  | zero => intro v0 kv0 v1 v2 v3 S w; exact OD_none
  | succ fu ih =>
    intro v0 kv0 v1 v2 v3 S w
    rw [b_X7_fits_2]
    refine OD_ite ?_ ?_
    · exact OD_some
    · refine OD_ite ?_ ?_
      · exact OD_some
      · refine OD_ix (fun j1 => ?_)
        refine OD_bd (o_X9_wayTo (v1 - v1 / (10 : Int32) * (10 : Int32)) (S.1 (S.2.2 v0 0) j1) S w) (fun r3 S2 hS2 => ?_)
        have wS2 : WT D S2.2.2 := by rw [hS2]; exact w
        clear hS2
        refine OD_ix (fun j4 => ?_)
        refine OD_ite ?_ ?_
        · refine OD_ix (fun j5 => ?_)
          refine OD_bd (o_X9_wayTo (v1 / (10 : Int32)) (S2.1 (S2.2.2 v0 1) j5) S2 wS2) (fun r7 S6 hS6 => ?_)
          have wS6 : WT D S6.2.2 := by rw [hS6]; exact wS2
          clear hS6
          refine OD_ix (fun j8 => ?_)
          refine OD_ite ?_ ?_
          · refine OD_nm (fun x9 => ?_)
            exact ih v0 kv0 v1 v2 x9 S6 wS6
          · exact OD_some
        · exact OD_some
set_option maxRecDepth 20000 in
theorem o_X7_fits {D : Nat → Prop} (v0 : Nat) (kv0 : KA D v0 (0, 7)) (v1 : Int32) (v2 : Int32) (S : St) (w : WT D S.2.2) : OD D (f_X7_fits v0 v1 v2 S) S := by
  unfold f_X7_fits
  exact ob_X7_fits_2 FU v0 kv0 v1 v2 (0 : Int32) S w
set_option maxRecDepth 20000 in
theorem ob_X7_lookBy_44 {D : Nat → Prop} {q7 : Nat → Int32 → Int32 → St → Option (Unit × St)} (oq7 : ∀ (v0 : Nat) (kv0 : KA D v0 (0, 7)) (v1 : Int32) (v2 : Int32) (S : St), WT D S.2.2 → OD D (q7 v0 v1 v2 S) S) (v0 : Nat) (kv0 : KA D v0 (0, 7)) (v1 : Int32) (v2 : Int32) (S : St) (w : WT D S.2.2) : OD D (b_X7_lookBy_44 q7 v0 v1 v2 S) S := by
  unfold b_X7_lookBy_44
  refine OD_nm (fun x1 => ?_)
  exact oq7 v0 kv0 v1 x1 S w
set_option maxRecDepth 20000 in
theorem ob_X7_lookBy_7 {D : Nat → Prop} : ∀ (fu : Nat) (v0 : Nat) (kv0 : KA D v0 (0, 7)) (v1 : Int32) (v2 : Int32) (S : St), WT D S.2.2 → OD D (b_X7_lookBy_7 fu v0 v1 v2 S) S := by
  intro fu
  induction fu with
  | zero => intro v0 kv0 v1 v2 S w; exact OD_none
  | succ fu ih =>
    intro v0 kv0 v1 v2 S w
    rw [b_X7_lookBy_7]
    refine OD_ite ?_ ?_
    · exact OD_some
    · refine OD_bd (o_X7_fits v0 kv0 v2 v1 S w) (fun r2 S1 hS1 => ?_)
      have wS1 : WT D S1.2.2 := by rw [hS1]; exact w
      clear hS1
      refine OD_ix (fun j3 => ?_)
      refine OD_nmI (w.1 _ _ kv0 5 _ rfl).2 (fun S4 hS4 => ?_)
      have wS4 : WT D S4.2.2 := by rw [hS4]; exact wS1
      clear hS4
      refine OD_ix (fun j5 => ?_)
      refine OD_ite ?_ ?_
      · exact ob_X7_lookBy_44 ih v0 kv0 v1 v2 S4 wS4
      · refine OD_nmI (kv0).2 (fun S6 hS6 => ?_)
        have wS6 : WT D S6.2.2 := by rw [hS6]; exact wS4
        clear hS6
        exact ob_X7_lookBy_44 ih v0 kv0 v1 v2 S6 wS6
set_option maxRecDepth 20000 in
theorem o_X7_lookBy {D : Nat → Prop} (v0 : Nat) (kv0 : KA D v0 (0, 7)) (v1 : Int32) (S : St) (w : WT D S.2.2) : OD D (f_X7_lookBy v0 v1 S) S := by
  unfold f_X7_lookBy
  refine OD_nmI (kv0).2 (fun S1 hS1 => ?_)
  have wS1 : WT D S1.2.2 := by rw [hS1]; exact w
  clear hS1
  exact ob_X7_lookBy_7 FU v0 kv0 v1 (0 : Int32) S1 wS1
set_option maxRecDepth 20000 in
theorem ob_X7_firstLeft_2 {D : Nat → Prop} : ∀ (fu : Nat) (v0 : Nat) (kv0 : KA D v0 (0, 7)) (v1 : Int32) (S : St), WT D S.2.2 → OD D (b_X7_firstLeft_2 fu v0 v1 S) S := by
  intro fu
  induction fu with
  | zero => intro v0 kv0 v1 S w; exact OD_none
  | succ fu ih =>
    intro v0 kv0 v1 S w
    rw [b_X7_firstLeft_2]
    refine OD_ite ?_ ?_
    · exact OD_some
    · refine OD_ix (fun j1 => ?_)
      refine OD_ite ?_ ?_
      · refine OD_nm (fun x2 => ?_)
        exact ih v0 kv0 x2 S w
      · exact OD_some
set_option maxRecDepth 20000 in
theorem o_X7_firstLeft {D : Nat → Prop} (v0 : Nat) (kv0 : KA D v0 (0, 7)) (S : St) (w : WT D S.2.2) : OD D (f_X7_firstLeft v0 S) S := by
  unfold f_X7_firstLeft
  exact ob_X7_firstLeft_2 FU v0 kv0 (0 : Int32) S w
set_option maxRecDepth 20000 in
theorem ob_X7_worstLeft_79 {D : Nat → Prop} {q12 : Nat → Int32 → Int32 → Int32 → St → Option (Int32 × St)} (oq12 : ∀ (v0 : Nat) (kv0 : KA D v0 (0, 7)) (v1 : Int32) (v2 : Int32) (v3 : Int32) (S : St), WT D S.2.2 → OD D (q12 v0 v1 v2 v3 S) S) (v0 : Nat) (kv0 : KA D v0 (0, 7)) (v1 : Int32) (v2 : Int32) (v3 : Int32) (S : St) (w : WT D S.2.2) : OD D (b_X7_worstLeft_79 q12 v0 v1 v2 v3 S) S := by
  unfold b_X7_worstLeft_79
  refine OD_nm (fun x1 => ?_)
  exact oq12 v0 kv0 v1 v2 x1 S w
set_option maxRecDepth 20000 in
theorem ob_X7_worstLeft_12 {D : Nat → Prop} : ∀ (fu : Nat) (v0 : Nat) (kv0 : KA D v0 (0, 7)) (v1 : Int32) (v2 : Int32) (v3 : Int32) (S : St), WT D S.2.2 → OD D (b_X7_worstLeft_12 fu v0 v1 v2 v3 S) S := by
  intro fu
  induction fu with
  | zero => intro v0 kv0 v1 v2 v3 S w; exact OD_none
  | succ fu ih =>
    intro v0 kv0 v1 v2 v3 S w
    rw [b_X7_worstLeft_12]
    refine OD_ite ?_ ?_
    · exact OD_some
    · refine OD_ix (fun j1 => ?_)
      refine OD_ite ?_ ?_
      · exact ob_X7_worstLeft_79 ih v0 kv0 v1 v2 v3 S w
      · refine OD_bd (o_X9_wayTo (v3 - v3 / (10 : Int32) * (10 : Int32)) (v1 - v1 / (10 : Int32) * (10 : Int32)) S w) (fun r3 S2 hS2 => ?_)
        have wS2 : WT D S2.2.2 := by rw [hS2]; exact w
        clear hS2
        refine OD_bd (o_X9_wayTo (v3 / (10 : Int32)) (v1 / (10 : Int32)) S2 wS2) (fun r5 S4 hS4 => ?_)
        have wS4 : WT D S4.2.2 := by rw [hS4]; exact wS2
        clear hS4
        refine OD_nm (fun x6 => ?_)
        refine OD_ix (fun j7 => ?_)
        refine OD_ix (fun j8 => ?_)
        refine OD_nmI (wS4.1 _ _ kv0 6 _ rfl).2 (fun S9 hS9 => ?_)
        have wS9 : WT D S9.2.2 := by rw [hS9]; exact wS4
        clear hS9
        refine OD_ix (fun j10 => ?_)
        refine OD_nm (fun x11 => ?_)
        exact ob_X7_worstLeft_79 ih v0 kv0 v1 x11 v3 S9 wS9
set_option maxRecDepth 20000 in
theorem o_X7_worstLeft {D : Nat → Prop} (v0 : Nat) (kv0 : KA D v0 (0, 7)) (v1 : Int32) (S : St) (w : WT D S.2.2) : OD D (f_X7_worstLeft v0 v1 S) S := by
  unfold f_X7_worstLeft
  refine OD_bd (o_J7_fill_53178 9 (S.2.2 v0 6) (w.1 _ _ kv0 6 _ rfl) (0 : Int32) S w) (fun _ S1 hS1 => ?_)
  have wS1 : WT D S1.2.2 := by rw [hS1]; exact w
  clear hS1
  exact ob_X7_worstLeft_12 FU v0 kv0 v1 (0 : Int32) (0 : Int32) S1 wS1
set_option maxRecDepth 20000 in
theorem ob_X7_bestNext_31 {D : Nat → Prop} {q7 : Nat → Int32 → Int32 → Int32 → St → Option (Int32 × St)} (oq7 : ∀ (v0 : Nat) (kv0 : KA D v0 (0, 7)) (v1 : Int32) (v2 : Int32) (v3 : Int32) (S : St), WT D S.2.2 → OD D (q7 v0 v1 v2 v3 S) S) (v0 : Nat) (kv0 : KA D v0 (0, 7)) (v1 : Int32) (v2 : Int32) (v3 : Int32) (S : St) (w : WT D S.2.2) : OD D (b_X7_bestNext_31 q7 v0 v1 v2 v3 S) S := by
  unfold b_X7_bestNext_31
  refine OD_nm (fun x1 => ?_)
  exact oq7 v0 kv0 v1 v2 x1 S w
set_option maxRecDepth 20000 in
theorem ob_X7_bestNext_7 {D : Nat → Prop} : ∀ (fu : Nat) (v0 : Nat) (kv0 : KA D v0 (0, 7)) (v1 : Int32) (v2 : Int32) (v3 : Int32) (S : St), WT D S.2.2 → OD D (b_X7_bestNext_7 fu v0 v1 v2 v3 S) S := by
  intro fu
  induction fu with
  | zero => intro v0 kv0 v1 v2 v3 S w; exact OD_none
  | succ fu ih =>
    intro v0 kv0 v1 v2 v3 S w
    rw [b_X7_bestNext_7]
    refine OD_ite ?_ ?_
    · exact OD_some
    · refine OD_bd (o_X7_worstLeft v0 kv0 v3 S w) (fun r2 S1 hS1 => ?_)
      have wS1 : WT D S1.2.2 := by rw [hS1]; exact w
      clear hS1
      refine OD_ite ?_ ?_
      · exact ob_X7_bestNext_31 ih v0 kv0 v1 v2 v3 S1 wS1
      · exact ob_X7_bestNext_31 ih v0 kv0 v3 r2 v3 S1 wS1
set_option maxRecDepth 20000 in
theorem o_X7_bestNext {D : Nat → Prop} (v0 : Nat) (kv0 : KA D v0 (0, 7)) (S : St) (w : WT D S.2.2) : OD D (f_X7_bestNext v0 S) S := by
  unfold f_X7_bestNext
  exact ob_X7_bestNext_7 FU v0 kv0 (0 : Int32) (101 : Int32) (0 : Int32) S w
set_option maxRecDepth 20000 in
theorem ob_X8_wornBy_30 {D : Nat → Prop} {q4 : Nat → Int32 → Int32 → Int32 → St → Option (Int32 × St)} (oq4 : ∀ (v0 : Nat) (kv0 : KA D v0 (0, 8)) (v1 : Int32) (v2 : Int32) (v3 : Int32) (S : St), WT D S.2.2 → OD D (q4 v0 v1 v2 v3 S) S) (v0 : Nat) (kv0 : KA D v0 (0, 8)) (v1 : Int32) (v2 : Int32) (v3 : Int32) (S : St) (w : WT D S.2.2) : OD D (b_X8_wornBy_30 q4 v0 v1 v2 v3 S) S := by
  unfold b_X8_wornBy_30
  refine OD_nm (fun x1 => ?_)
  exact oq4 v0 kv0 v1 v2 x1 S w
set_option maxRecDepth 20000 in
theorem ob_X8_wornBy_4 {D : Nat → Prop} : ∀ (fu : Nat) (v0 : Nat) (kv0 : KA D v0 (0, 8)) (v1 : Int32) (v2 : Int32) (v3 : Int32) (S : St), WT D S.2.2 → OD D (b_X8_wornBy_4 fu v0 v1 v2 v3 S) S := by
  intro fu
  induction fu with
  | zero => intro v0 kv0 v1 v2 v3 S w; exact OD_none
  | succ fu ih =>
    intro v0 kv0 v1 v2 v3 S w
    rw [b_X8_wornBy_4]
    refine OD_ite ?_ ?_
    · exact OD_some
    · refine OD_bd (o_X5_isWorn (S.2.2 v0 1) (w.1 _ _ kv0 1 _ rfl) v3 v1 S w) (fun r2 S1 hS1 => ?_)
      have wS1 : WT D S1.2.2 := by rw [hS1]; exact w
      clear hS1
      refine OD_ite ?_ ?_
      · exact ob_X8_wornBy_30 ih v0 kv0 v1 v2 v3 S1 wS1
      · refine OD_nm (fun x3 => ?_)
        exact ob_X8_wornBy_30 ih v0 kv0 v1 x3 v3 S1 wS1
set_option maxRecDepth 20000 in
theorem o_X8_wornBy {D : Nat → Prop} (v0 : Nat) (kv0 : KA D v0 (0, 8)) (v1 : Int32) (S : St) (w : WT D S.2.2) : OD D (f_X8_wornBy v0 v1 S) S := by
  unfold f_X8_wornBy
  exact ob_X8_wornBy_4 FU v0 kv0 v1 (0 : Int32) (0 : Int32) S w
set_option maxRecDepth 20000 in
theorem ob_X8_feel_87 {D : Nat → Prop} {q13 : Nat → Int32 → Int32 → Int32 → Int32 → St → Option (Unit × St)} (oq13 : ∀ (v0 : Nat) (kv0 : KA D v0 (0, 8)) (v1 : Int32) (v2 : Int32) (v3 : Int32) (v4 : Int32) (S : St), WT D S.2.2 → OD D (q13 v0 v1 v2 v3 v4 S) S) (v0 : Nat) (kv0 : KA D v0 (0, 8)) (v1 : Int32) (v2 : Int32) (v3 : Int32) (v4 : Int32) (S : St) (w : WT D S.2.2) : OD D (b_X8_feel_87 q13 v0 v1 v2 v3 v4 S) S := by
  unfold b_X8_feel_87
  refine OD_nm (fun x1 => ?_)
  exact oq13 v0 kv0 v1 v2 v3 x1 S w
set_option maxRecDepth 20000 in
theorem ob_X8_feel_13 {D : Nat → Prop} : ∀ (fu : Nat) (v0 : Nat) (kv0 : KA D v0 (0, 8)) (v1 : Int32) (v2 : Int32) (v3 : Int32) (v4 : Int32) (S : St), WT D S.2.2 → OD D (b_X8_feel_13 fu v0 v1 v2 v3 v4 S) S := by
  intro fu
  induction fu with
  | zero => intro v0 kv0 v1 v2 v3 v4 S w; exact OD_none
  | succ fu ih =>
    intro v0 kv0 v1 v2 v3 v4 S w
    rw [b_X8_feel_13]
    refine OD_ite ?_ ?_
    · exact OD_some
    · refine OD_bd (o_X5_isWorn (S.2.2 v0 1) (w.1 _ _ kv0 1 _ rfl) v4 v1 S w) (fun r2 S1 hS1 => ?_)
      have wS1 : WT D S1.2.2 := by rw [hS1]; exact w
      clear hS1
      refine OD_ite ?_ ?_
      · exact ob_X8_feel_87 ih v0 kv0 v1 v2 v3 v4 S1 wS1
      · refine OD_bd (o_X8_pullAt v0 kv0 v4 v1 v2 v3 S1 wS1) (fun r4 S3 hS3 => ?_)
        have wS3 : WT D S3.2.2 := by rw [hS3]; exact wS1
        clear hS3
        refine OD_bd (o_X8_wayAcross v0 kv0 v4 v2 S3 wS3) (fun r6 S5 hS5 => ?_)
        have wS5 : WT D S5.2.2 := by rw [hS5]; exact wS3
        clear hS5
        refine OD_nmI (kv0).2 (fun S7 hS7 => ?_)
        have wS7 : WT D S7.2.2 := by rw [hS7]; exact wS5
        clear hS7
        refine OD_bd (o_X8_wayDown v0 kv0 v4 v3 S7 wS7) (fun r9 S8 hS8 => ?_)
        have wS8 : WT D S8.2.2 := by rw [hS8]; exact wS7
        clear hS8
        refine OD_nmI (kv0).2 (fun S10 hS10 => ?_)
        have wS10 : WT D S10.2.2 := by rw [hS10]; exact wS8
        clear hS10
        exact ob_X8_feel_87 ih v0 kv0 v1 v2 v3 v4 S10 wS10
set_option maxRecDepth 20000 in
theorem o_X8_feel {D : Nat → Prop} (v0 : Nat) (kv0 : KA D v0 (0, 8)) (v1 : Int32) (v2 : Int32) (v3 : Int32) (S : St) (w : WT D S.2.2) : OD D (f_X8_feel v0 v1 v2 v3 S) S := by
  unfold f_X8_feel
  refine OD_nmI (kv0).2 (fun S1 hS1 => ?_)
  have wS1 : WT D S1.2.2 := by rw [hS1]; exact w
  clear hS1
  refine OD_nmI (kv0).2 (fun S2 hS2 => ?_)
  have wS2 : WT D S2.2.2 := by rw [hS2]; exact wS1
  clear hS2
  exact ob_X8_feel_13 FU v0 kv0 v1 v2 v3 (0 : Int32) S2 wS2
set_option maxRecDepth 20000 in
theorem o_X8_varsOfPerson {D : Nat → Prop} (v0 : Nat) (kv0 : KA D v0 (0, 8)) (v1 : Int32) (v2 : Int32) (v3 : Int32) (S : St) (w : WT D S.2.2) : OD D (f_X8_varsOfPerson v0 v1 v2 v3 S) S := by
  unfold f_X8_varsOfPerson
  refine OD_bd (o_X8_freshVars v0 kv0 S w) (fun r2 S1 hS1 => ?_)
  have wS1 : WT D S1.2.2 := by rw [hS1]; exact w
  clear hS1
  refine OD_grd (fun hr2 => ?_)
  have kr2 : KA D r2 (1, 9) := by rw [hr2]; exact wS1.1 _ _ (wS1.1 _ _ (wS1.1 _ _ kv0 0 _ rfl) 10 _ rfl) 0 _ rfl
  refine OD_ix (fun j3 => ?_)
  refine OD_ix (fun j4 => ?_)
  refine OD_nmI (kr2).2 (fun S5 hS5 => ?_)
  have wS5 : WT D S5.2.2 := by rw [hS5]; exact wS1
  clear hS5
  refine OD_ix (fun j6 => ?_)
  refine OD_nmI (kr2).2 (fun S7 hS7 => ?_)
  have wS7 : WT D S7.2.2 := by rw [hS7]; exact wS5
  clear hS7
  refine OD_ix (fun j8 => ?_)
  refine OD_nmI (kr2).2 (fun S9 hS9 => ?_)
  have wS9 : WT D S9.2.2 := by rw [hS9]; exact wS7
  clear hS9
  refine OD_bd (o_X8_wornBy v0 kv0 v1 S9 wS9) (fun r11 S10 hS10 => ?_)
  have wS10 : WT D S10.2.2 := by rw [hS10]; exact wS9
  clear hS10
  refine OD_ix (fun j12 => ?_)
  refine OD_nmI (kr2).2 (fun S13 hS13 => ?_)
  have wS13 : WT D S13.2.2 := by rw [hS13]; exact wS10
  clear hS13
  exact OD_some
set_option maxRecDepth 20000 in
theorem o_X8_standsAt {D : Nat → Prop} (v0 : Nat) (kv0 : KA D v0 (0, 8)) (v1 : Int32) (v2 : Int32) (v3 : Int32) (S : St) (w : WT D S.2.2) : OD D (f_X8_standsAt v0 v1 v2 v3 S) S := by
  unfold f_X8_standsAt
  refine OD_bd (o_X8_varsOfPerson v0 kv0 v1 v2 v3 S w) (fun r2 S1 hS1 => ?_)
  have wS1 : WT D S1.2.2 := by rw [hS1]; exact w
  clear hS1
  refine OD_grd (fun hr2 => ?_)
  have kr2 : KA D r2 (1, 9) := by rw [hr2]; exact wS1.1 _ _ (wS1.1 _ _ (wS1.1 _ _ kv0 0 _ rfl) 10 _ rfl) 0 _ rfl
  refine OD_bd (o_X2_held (S1.2.2 (S1.2.2 v0 0) 10) (wS1.1 _ _ (wS1.1 _ _ kv0 0 _ rfl) 10 _ rfl) (1 : Int32) (999 : Int32) S1 wS1) (fun r4 S3 hS3 => ?_)
  have wS3 : WT D S3.2.2 := by rw [hS3]; exact wS1
  clear hS3
  exact OD_some
set_option maxRecDepth 20000 in
theorem o_X8_stormOf {D : Nat → Prop} (v0 : Nat) (kv0 : KA D v0 (0, 8)) (v1 : Int32) (S : St) (w : WT D S.2.2) : OD D (f_X8_stormOf v0 v1 S) S := by
  unfold f_X8_stormOf
  refine OD_ix (fun j1 => ?_)
  refine OD_ix (fun j2 => ?_)
  refine OD_bd (o_X8_varsOfPerson v0 kv0 v1 (S.1 (S.2.2 (S.2.2 v0 1) 0) j1) (S.1 (S.2.2 (S.2.2 v0 1) 0) j2) S w) (fun r4 S3 hS3 => ?_)
  have wS3 : WT D S3.2.2 := by rw [hS3]; exact w
  clear hS3
  refine OD_grd (fun hr4 => ?_)
  have kr4 : KA D r4 (1, 9) := by rw [hr4]; exact wS3.1 _ _ (wS3.1 _ _ (wS3.1 _ _ kv0 0 _ rfl) 10 _ rfl) 0 _ rfl
  refine OD_bd (o_X2_held (S3.2.2 (S3.2.2 v0 0) 10) (wS3.1 _ _ (wS3.1 _ _ kv0 0 _ rfl) 10 _ rfl) (3 : Int32) (100 : Int32) S3 wS3) (fun r6 S5 hS5 => ?_)
  have wS5 : WT D S5.2.2 := by rw [hS5]; exact wS3
  clear hS5
  exact OD_some
set_option maxRecDepth 20000 in
theorem ob_X8_isMovedAt_40 {D : Nat → Prop}  (S : St) (w : WT D S.2.2) : OD D (b_X8_isMovedAt_40  S) S := by
  unfold b_X8_isMovedAt_40
  exact OD_some
set_option maxRecDepth 20000 in
theorem o_X8_isMovedAt {D : Nat → Prop} (v0 : Nat) (kv0 : KA D v0 (0, 8)) (v1 : Int32) (v2 : Int32) (v3 : Int32) (S : St) (w : WT D S.2.2) : OD D (f_X8_isMovedAt v0 v1 v2 v3 S) S := by
  unfold f_X8_isMovedAt
  refine OD_bd (o_X8_feel v0 kv0 v1 v2 v3 S w) (fun _ S1 hS1 => ?_)
  have wS1 : WT D S1.2.2 := by rw [hS1]; exact w
  clear hS1
  refine OD_bd (o_X8_standsAt v0 kv0 v1 v2 v3 S1 wS1) (fun r4 S3 hS3 => ?_)
  have wS3 : WT D S3.2.2 := by rw [hS3]; exact wS1
  clear hS3
  refine OD_ite ?_ ?_
  · exact ob_X8_isMovedAt_40 S3 wS3
  · refine OD_ite ?_ ?_
    · exact OD_some
    · exact ob_X8_isMovedAt_40 S3 wS3
set_option maxRecDepth 20000 in
theorem o_X8_priceOf {D : Nat → Prop} (v0 : Nat) (kv0 : KA D v0 (0, 8)) (v1 : Int32) (S : St) (w : WT D S.2.2) : OD D (f_X8_priceOf v0 v1 S) S := by
  unfold f_X8_priceOf
  refine OD_ix (fun j1 => ?_)
  refine OD_nm (fun x2 => ?_)
  refine OD_bd (o_X8_freshVars v0 kv0 S w) (fun r4 S3 hS3 => ?_)
  have wS3 : WT D S3.2.2 := by rw [hS3]; exact w
  clear hS3
  refine OD_grd (fun hr4 => ?_)
  have kr4 : KA D r4 (1, 9) := by rw [hr4]; exact wS3.1 _ _ (wS3.1 _ _ (wS3.1 _ _ kv0 0 _ rfl) 10 _ rfl) 0 _ rfl
  refine OD_ix (fun j5 => ?_)
  refine OD_ix (fun j6 => ?_)
  refine OD_nmI (kr4).2 (fun S7 hS7 => ?_)
  have wS7 : WT D S7.2.2 := by rw [hS7]; exact wS3
  clear hS7
  refine OD_ix (fun j8 => ?_)
  refine OD_nmI (kr4).2 (fun S9 hS9 => ?_)
  have wS9 : WT D S9.2.2 := by rw [hS9]; exact wS7
  clear hS9
  refine OD_bd (o_X8_wornBy v0 kv0 x2 S9 wS9) (fun r11 S10 hS10 => ?_)
  have wS10 : WT D S10.2.2 := by rw [hS10]; exact wS9
  clear hS10
  refine OD_ix (fun j12 => ?_)
  refine OD_nmI (kr4).2 (fun S13 hS13 => ?_)
  have wS13 : WT D S13.2.2 := by rw [hS13]; exact wS10
  clear hS13
  refine OD_ix (fun j14 => ?_)
  refine OD_ix (fun j15 => ?_)
  refine OD_ix (fun j16 => ?_)
  refine OD_bd (o_X5_farOf (S13.2.2 v0 1) (wS13.1 _ _ kv0 1 _ rfl) (S13.1 (S13.2.2 (S13.2.2 v0 0) 8) j14) (S13.1 (S13.2.2 (S13.2.2 v0 1) 0) j15) (S13.1 (S13.2.2 (S13.2.2 v0 1) 0) j16) S13 wS13) (fun r18 S17 hS17 => ?_)
  have wS17 : WT D S17.2.2 := by rw [hS17]; exact wS13
  clear hS17
  refine OD_ix (fun j19 => ?_)
  refine OD_nmI (kr4).2 (fun S20 hS20 => ?_)
  have wS20 : WT D S20.2.2 := by rw [hS20]; exact wS17
  clear hS20
  refine OD_bd (o_X2_held (S20.2.2 (S20.2.2 v0 0) 10) (wS20.1 _ _ (wS20.1 _ _ kv0 0 _ rfl) 10 _ rfl) (2 : Int32) (999 : Int32) S20 wS20) (fun r22 S21 hS21 => ?_)
  have wS21 : WT D S21.2.2 := by rw [hS21]; exact wS20
  clear hS21
  exact OD_some
set_option maxRecDepth 20000 in
theorem ob_X8_pricesOfAll_34 {D : Nat → Prop} {q4 : Nat → Int32 → Int32 → St → Option (Int32 × St)} (oq4 : ∀ (v0 : Nat) (kv0 : KA D v0 (0, 8)) (v1 : Int32) (v2 : Int32) (S : St), WT D S.2.2 → OD D (q4 v0 v1 v2 S) S) (v0 : Nat) (kv0 : KA D v0 (0, 8)) (v1 : Int32) (v2 : Int32) (S : St) (w : WT D S.2.2) : OD D (b_X8_pricesOfAll_34 q4 v0 v1 v2 S) S := by
  unfold b_X8_pricesOfAll_34
  refine OD_nm (fun x1 => ?_)
  exact oq4 v0 kv0 v1 x1 S w
set_option maxRecDepth 20000 in
theorem ob_X8_pricesOfAll_4 {D : Nat → Prop} : ∀ (fu : Nat) (v0 : Nat) (kv0 : KA D v0 (0, 8)) (v1 : Int32) (v2 : Int32) (S : St), WT D S.2.2 → OD D (b_X8_pricesOfAll_4 fu v0 v1 v2 S) S := by
  intro fu
  induction fu with
  | zero => intro v0 kv0 v1 v2 S w; exact OD_none
  | succ fu ih =>
    intro v0 kv0 v1 v2 S w
    rw [b_X8_pricesOfAll_4]
    refine OD_ite ?_ ?_
    · exact OD_some
    · refine OD_bd (o_X5_isCut (S.2.2 v0 1) (w.1 _ _ kv0 1 _ rfl) v2 S w) (fun r2 S1 hS1 => ?_)
      have wS1 : WT D S1.2.2 := by rw [hS1]; exact w
      clear hS1
      refine OD_ite ?_ ?_
      · refine OD_bd (o_X8_priceOf v0 kv0 v2 S1 wS1) (fun r4 S3 hS3 => ?_)
        have wS3 : WT D S3.2.2 := by rw [hS3]; exact wS1
        clear hS3
        refine OD_nm (fun x5 => ?_)
        exact ob_X8_pricesOfAll_34 ih v0 kv0 x5 v2 S3 wS3
      · exact ob_X8_pricesOfAll_34 ih v0 kv0 v1 v2 S1 wS1
set_option maxRecDepth 20000 in
theorem o_X8_pricesOfAll {D : Nat → Prop} (v0 : Nat) (kv0 : KA D v0 (0, 8)) (S : St) (w : WT D S.2.2) : OD D (f_X8_pricesOfAll v0 S) S := by
  unfold f_X8_pricesOfAll
  exact ob_X8_pricesOfAll_4 FU v0 kv0 (0 : Int32) (0 : Int32) S w
set_option maxRecDepth 20000 in
theorem o_X8_mixedOnce {D : Nat → Prop} (v0 : Int32) (v1 : Int32) (S : St) (w : WT D S.2.2) : OD D (f_X8_mixedOnce v0 v1 S) S := by
  unfold f_X8_mixedOnce
  refine OD_nm (fun x1 => ?_)
  exact OD_some
set_option maxRecDepth 20000 in
theorem o_X8_lotOf100 {D : Nat → Prop} (v0 : Int32) (v1 : Int32) (S : St) (w : WT D S.2.2) : OD D (f_X8_lotOf100 v0 v1 S) S := by
  unfold f_X8_lotOf100
  refine OD_bd (o_X8_mixedOnce v0 (135 : Int32) S w) (fun r2 S1 hS1 => ?_)
  have wS1 : WT D S1.2.2 := by rw [hS1]; exact w
  clear hS1
  refine OD_bd (o_X8_mixedOnce r2 v1 S1 wS1) (fun r4 S3 hS3 => ?_)
  have wS3 : WT D S3.2.2 := by rw [hS3]; exact wS1
  clear hS3
  exact OD_some
set_option maxRecDepth 20000 in
theorem ob_X8_seedsThatDrown_56 {D : Nat → Prop} {q12 : Nat → Int32 → Int32 → Int32 → Int32 → Int32 → St → Option (Int32 × St)} (oq12 : ∀ (v0 : Nat) (kv0 : KA D v0 (0, 8)) (v1 : Int32) (v2 : Int32) (v3 : Int32) (v4 : Int32) (v5 : Int32) (S : St), WT D S.2.2 → OD D (q12 v0 v1 v2 v3 v4 v5 S) S) (v0 : Nat) (kv0 : KA D v0 (0, 8)) (v1 : Int32) (v2 : Int32) (v3 : Int32) (v4 : Int32) (v5 : Int32) (S : St) (w : WT D S.2.2) : OD D (b_X8_seedsThatDrown_56 q12 v0 v1 v2 v3 v4 v5 S) S := by
  unfold b_X8_seedsThatDrown_56
  refine OD_nm (fun x1 => ?_)
  exact oq12 v0 kv0 v1 v2 v3 v4 x1 S w
set_option maxRecDepth 20000 in
theorem ob_X8_seedsThatDrown_12 {D : Nat → Prop} : ∀ (fu : Nat) (v0 : Nat) (kv0 : KA D v0 (0, 8)) (v1 : Int32) (v2 : Int32) (v3 : Int32) (v4 : Int32) (v5 : Int32) (S : St), WT D S.2.2 → OD D (b_X8_seedsThatDrown_12 fu v0 v1 v2 v3 v4 v5 S) S := by
  intro fu
  induction fu with
  | zero => intro v0 kv0 v1 v2 v3 v4 v5 S w; exact OD_none
  | succ fu ih =>
    intro v0 kv0 v1 v2 v3 v4 v5 S w
    rw [b_X8_seedsThatDrown_12]
    refine OD_ite ?_ ?_
    · exact OD_some
    · refine OD_bd (o_X8_lotOf100 ((S.1 (S.2.2 v0 0) 4) + v5) (((16 : Int32) * (S.1 (S.2.2 v0 1) 1)) + v1) S w) (fun r2 S1 hS1 => ?_)
      have wS1 : WT D S1.2.2 := by rw [hS1]; exact w
      clear hS1
      refine OD_ite ?_ ?_
      · exact ob_X8_seedsThatDrown_56 ih v0 kv0 v1 v2 v3 v4 v5 S1 wS1
      · refine OD_nm (fun x3 => ?_)
        exact ob_X8_seedsThatDrown_56 ih v0 kv0 v1 v2 v3 x3 v5 S1 wS1
set_option maxRecDepth 20000 in
theorem o_X8_seedsThatDrown {D : Nat → Prop} (v0 : Nat) (kv0 : KA D v0 (0, 8)) (v1 : Int32) (v2 : Int32) (S : St) (w : WT D S.2.2) : OD D (f_X8_seedsThatDrown v0 v1 v2 S) S := by
  unfold f_X8_seedsThatDrown
  refine OD_bd (o_X8_stormOf v0 kv0 v1 S w) (fun r2 S1 hS1 => ?_)
  have wS1 : WT D S1.2.2 := by rw [hS1]; exact w
  clear hS1
  exact ob_X8_seedsThatDrown_12 FU v0 kv0 v1 v2 r2 (0 : Int32) (0 : Int32) S1 wS1
set_option maxRecDepth 20000 in
theorem o_X8_gone {D : Nat → Prop} (v0 : Int32) (v1 : Int32) (v2 : Int32) (S : St) (w : WT D S.2.2) : OD D (f_X8_gone v0 v1 v2 S) S := by
  unfold f_X8_gone
  refine OD_ite ?_ ?_
  · exact OD_some
  · refine OD_bd (o_X9_wayTo v1 (0 : Int32) S w) (fun r2 S1 hS1 => ?_)
    have wS1 : WT D S1.2.2 := by rw [hS1]; exact w
    clear hS1
    refine OD_bd (o_X9_heldTo (9 : Int32) (v0 + r2) S1 wS1) (fun r4 S3 hS3 => ?_)
    have wS3 : WT D S3.2.2 := by rw [hS3]; exact wS1
    clear hS3
    exact OD_some
set_option maxRecDepth 20000 in
theorem ob_X8_goMonth_188 {D : Nat → Prop} : ∀ (fu : Nat) (v0 : Nat) (kv0 : KA D v0 (0, 8)) (v4 : Int32) (S : St), WT D S.2.2 → OD D (b_X8_goMonth_188 fu v0 v4 S) S := by
  intro fu
  induction fu with
  | zero => intro v0 kv0 v4 S w; exact OD_none
  | succ fu ih =>
    intro v0 kv0 v4 S w
    rw [b_X8_goMonth_188]
    refine OD_ite ?_ ?_
    · refine OD_nmI (w.1 _ _ kv0 1 _ rfl).2 (fun S1 hS1 => ?_)
      have wS1 : WT D S1.2.2 := by rw [hS1]; exact w
      clear hS1
      exact OD_some
    · refine OD_bd (o_X5_swim (S.2.2 v0 1) (w.1 _ _ kv0 1 _ rfl) v4 S w) (fun _ S2 hS2 => ?_)
      have wS2 : WT D S2.2.2 := by rw [hS2]; exact w
      clear hS2
      refine OD_nm (fun x4 => ?_)
      exact ih v0 kv0 x4 S2 wS2
set_option maxRecDepth 20000 in
theorem ob_X8_goMonth_179 {D : Nat → Prop} {q3 : Nat → Int32 → Int32 → Int32 → St → Option (Unit × St)} (oq3 : ∀ (v0 : Nat) (kv0 : KA D v0 (0, 8)) (v2 : Int32) (v3 : Int32) (v4 : Int32) (S : St), WT D S.2.2 → OD D (q3 v0 v2 v3 v4 S) S) (v0 : Nat) (kv0 : KA D v0 (0, 8)) (v2 : Int32) (v3 : Int32) (v4 : Int32) (S : St) (w : WT D S.2.2) : OD D (b_X8_goMonth_179 q3 v0 v2 v3 v4 S) S := by
  unfold b_X8_goMonth_179
  refine OD_nm (fun x1 => ?_)
  exact oq3 v0 kv0 v2 v3 x1 S w
set_option maxRecDepth 20000 in
theorem ob_X8_goMonth_163 {D : Nat → Prop} {q3 : Nat → Int32 → Int32 → Int32 → St → Option (Unit × St)} (oq3 : ∀ (v0 : Nat) (kv0 : KA D v0 (0, 8)) (v2 : Int32) (v3 : Int32) (v4 : Int32) (S : St), WT D S.2.2 → OD D (q3 v0 v2 v3 v4 S) S) (v0 : Nat) (kv0 : KA D v0 (0, 8)) (v2 : Int32) (v3 : Int32) (v4 : Int32) (S : St) (w : WT D S.2.2) : OD D (b_X8_goMonth_163 q3 v0 v2 v3 v4 S) S := by
  unfold b_X8_goMonth_163
  refine OD_nmI (w.1 _ _ kv0 1 _ rfl).2 (fun S1 hS1 => ?_)
  have wS1 : WT D S1.2.2 := by rw [hS1]; exact w
  clear hS1
  exact ob_X8_goMonth_179 oq3 v0 kv0 v2 v3 v4 S1 wS1
set_option maxRecDepth 20000 in
theorem ob_X8_goMonth_70 {D : Nat → Prop} {q3 : Nat → Int32 → Int32 → Int32 → St → Option (Unit × St)} (oq3 : ∀ (v0 : Nat) (kv0 : KA D v0 (0, 8)) (v2 : Int32) (v3 : Int32) (v4 : Int32) (S : St), WT D S.2.2 → OD D (q3 v0 v2 v3 v4 S) S) (v0 : Nat) (kv0 : KA D v0 (0, 8)) (v2 : Int32) (v3 : Int32) (v4 : Int32) (v5 : Int32) (v6 : Int32) (s0 : Int32) (S : St) (w : WT D S.2.2) : OD D (b_X8_goMonth_70 q3 v0 v2 v3 v4 v5 v6 s0 S) S := by
  unfold b_X8_goMonth_70
  refine OD_bd (o_X8_feel v0 kv0 v4 v5 v6 S w) (fun _ S1 hS1 => ?_)
  have wS1 : WT D S1.2.2 := by rw [hS1]; exact w
  clear hS1
  refine OD_bd (o_X8_standsAt v0 kv0 v4 v5 v6 S1 wS1) (fun r4 S3 hS3 => ?_)
  have wS3 : WT D S3.2.2 := by rw [hS3]; exact wS1
  clear hS3
  refine OD_bd (o_X8_gone v6 (S3.1 v0 3) r4 S3 wS3) (fun r6 S5 hS5 => ?_)
  have wS5 : WT D S5.2.2 := by rw [hS5]; exact wS3
  clear hS5
  refine OD_bd (o_X8_gone v5 (S5.1 v0 2) r4 S5 wS5) (fun r8 S7 hS7 => ?_)
  have wS7 : WT D S7.2.2 := by rw [hS7]; exact wS5
  clear hS7
  refine OD_ix (fun j9 => ?_)
  refine OD_nmI (wS5.1 _ _ (wS5.1 _ _ kv0 1 _ rfl) 0 _ rfl).2 (fun S10 hS10 => ?_)
  have wS10 : WT D S10.2.2 := by rw [hS10]; exact wS7
  clear hS10
  refine OD_ix (fun j11 => ?_)
  refine OD_nmI (wS10.1 _ _ (wS10.1 _ _ kv0 1 _ rfl) 0 _ rfl).2 (fun S12 hS12 => ?_)
  have wS12 : WT D S12.2.2 := by rw [hS12]; exact wS10
  clear hS12
  refine OD_ite ?_ ?_
  · refine OD_ite ?_ ?_
    · exact ob_X8_goMonth_179 oq3 v0 kv0 v2 v3 v4 S12 wS12
    · exact ob_X8_goMonth_163 oq3 v0 kv0 v2 v3 v4 S12 wS12
  · exact ob_X8_goMonth_163 oq3 v0 kv0 v2 v3 v4 S12 wS12
set_option maxRecDepth 20000 in
theorem ob_X8_goMonth_69 {D : Nat → Prop} {q3 : Nat → Int32 → Int32 → Int32 → St → Option (Unit × St)} (oq3 : ∀ (v0 : Nat) (kv0 : KA D v0 (0, 8)) (v2 : Int32) (v3 : Int32) (v4 : Int32) (S : St), WT D S.2.2 → OD D (q3 v0 v2 v3 v4 S) S) (v0 : Nat) (kv0 : KA D v0 (0, 8)) (v2 : Int32) (v3 : Int32) (v4 : Int32) (v5 : Int32) (v6 : Int32) (S : St) (w : WT D S.2.2) : OD D (b_X8_goMonth_69 q3 v0 v2 v3 v4 v5 v6 S) S := by
  unfold b_X8_goMonth_69
  exact ob_X8_goMonth_70 oq3 v0 kv0 v2 v3 v4 v5 v6 (0 : Int32) S w
set_option maxRecDepth 20000 in
theorem ob_X8_goMonth_3 {D : Nat → Prop} : ∀ (fu : Nat) (v0 : Nat) (kv0 : KA D v0 (0, 8)) (v2 : Int32) (v3 : Int32) (v4 : Int32) (S : St), WT D S.2.2 → OD D (b_X8_goMonth_3 fu v0 v2 v3 v4 S) S := by
  intro fu
  induction fu with
  | zero => intro v0 kv0 v2 v3 v4 S w; exact OD_none
  | succ fu ih =>
    intro v0 kv0 v2 v3 v4 S w
    rw [b_X8_goMonth_3]
    refine OD_ite ?_ ?_
    · exact ob_X8_goMonth_188 FU v0 kv0 (0 : Int32) S w
    · refine OD_bd (o_X5_isOff (S.2.2 v0 1) (w.1 _ _ kv0 1 _ rfl) v4 S w) (fun r2 S1 hS1 => ?_)
      have wS1 : WT D S1.2.2 := by rw [hS1]; exact w
      clear hS1
      refine OD_ite ?_ ?_
      · refine OD_ix (fun j3 => ?_)
        refine OD_nm (fun x4 => ?_)
        refine OD_ix (fun j5 => ?_)
        refine OD_nm (fun x6 => ?_)
        refine OD_ite ?_ ?_
        · exact ob_X8_goMonth_69 ih v0 kv0 v2 v3 v4 x4 x6 S1 wS1
        · refine OD_bd (o_X8_seedsThatDrown v0 kv0 v4 (1 : Int32) S1 wS1) (fun r8 S7 hS7 => ?_)
          have wS7 : WT D S7.2.2 := by rw [hS7]; exact wS1
          clear hS7
          refine OD_ite ?_ ?_
          · exact ob_X8_goMonth_69 ih v0 kv0 v2 v3 v4 x4 x6 S7 wS7
          · exact ob_X8_goMonth_70 ih v0 kv0 v2 v3 v4 x4 x6 (1 : Int32) S7 wS7
      · exact ob_X8_goMonth_179 ih v0 kv0 v2 v3 v4 S1 wS1
set_option maxRecDepth 20000 in
theorem o_X8_goMonth {D : Nat → Prop} (v0 : Nat) (kv0 : KA D v0 (0, 8)) (v1 : Int32) (v2 : Int32) (v3 : Int32) (S : St) (w : WT D S.2.2) : OD D (f_X8_goMonth v0 v1 v2 v3 S) S := by
  unfold f_X8_goMonth
  exact ob_X8_goMonth_3 FU v0 kv0 v2 v3 v1 S w
set_option maxRecDepth 20000 in
theorem ob_X8_goUntilFirst_10 {D : Nat → Prop} : ∀ (fu : Nat) (v0 : Nat) (kv0 : KA D v0 (0, 8)) (v1 : Int32) (v2 : Int32) (S : St), WT D S.2.2 → OD D (b_X8_goUntilFirst_10 fu v0 v1 v2 S) S := by
  intro fu
  induction fu with
  | zero => intro v0 kv0 v1 v2 S w; exact OD_none
  | succ fu ih =>
    intro v0 kv0 v1 v2 S w
    rw [b_X8_goUntilFirst_10]
    refine OD_ite ?_ ?_
    · exact OD_some
    · refine OD_bd (o_X8_goMonth v0 kv0 (0 : Int32) (S.1 (S.2.2 v0 0) 1) (0 : Int32) S w) (fun _ S1 hS1 => ?_)
      have wS1 : WT D S1.2.2 := by rw [hS1]; exact w
      clear hS1
      refine OD_ite ?_ ?_
      · refine OD_nm (fun x3 => ?_)
        exact ih v0 kv0 v1 x3 S1 wS1
      · exact OD_some
set_option maxRecDepth 20000 in
theorem o_X8_goUntilFirst {D : Nat → Prop} (v0 : Nat) (kv0 : KA D v0 (0, 8)) (S : St) (w : WT D S.2.2) : OD D (f_X8_goUntilFirst v0 S) S := by
  unfold f_X8_goUntilFirst
  refine OD_nm (fun x1 => ?_)
  exact ob_X8_goUntilFirst_10 FU v0 kv0 x1 (1 : Int32) S w
set_option maxRecDepth 20000 in
theorem ob_X9_feedFour_42 {D : Nat → Prop} {q3 : Nat → Int32 → Int32 → St → Option (Unit × St)} (oq3 : ∀ (v0 : Nat) (kv0 : KA D v0 (0, 9)) (v1 : Int32) (v2 : Int32) (S : St), WT D S.2.2 → OD D (q3 v0 v1 v2 S) S) (v0 : Nat) (kv0 : KA D v0 (0, 9)) (v1 : Int32) (v2 : Int32) (S : St) (w : WT D S.2.2) : OD D (b_X9_feedFour_42 q3 v0 v1 v2 S) S := by
  unfold b_X9_feedFour_42
  refine OD_nm (fun x1 => ?_)
  exact oq3 v0 kv0 v1 x1 S w
set_option maxRecDepth 20000 in
theorem ob_X9_feedFour_3 {D : Nat → Prop} : ∀ (fu : Nat) (v0 : Nat) (kv0 : KA D v0 (0, 9)) (v1 : Int32) (v2 : Int32) (S : St), WT D S.2.2 → OD D (b_X9_feedFour_3 fu v0 v1 v2 S) S := by
  intro fu
  induction fu with
  | zero => intro v0 kv0 v1 v2 S w; exact OD_none
  | succ fu ih =>
    intro v0 kv0 v1 v2 S w
    rw [b_X9_feedFour_3]
    refine OD_ite ?_ ?_
    · exact OD_some
    · refine OD_ite ?_ ?_
      · exact ob_X9_feedFour_42 ih v0 kv0 v1 v2 S w
      · refine OD_ix (fun j1 => ?_)
        refine OD_nmI (w.1 _ _ kv0 0 _ rfl).2 (fun S2 hS2 => ?_)
        have wS2 : WT D S2.2.2 := by rw [hS2]; exact w
        clear hS2
        refine OD_nmI (kv0).2 (fun S3 hS3 => ?_)
        have wS3 : WT D S3.2.2 := by rw [hS3]; exact wS2
        clear hS3
        exact ob_X9_feedFour_42 ih v0 kv0 v1 v2 S3 wS3
set_option maxRecDepth 20000 in
theorem o_X9_feedFour {D : Nat → Prop} (v0 : Nat) (kv0 : KA D v0 (0, 9)) (v1 : Int32) (S : St) (w : WT D S.2.2) : OD D (f_X9_feedFour v0 v1 S) S := by
  unfold f_X9_feedFour
  exact ob_X9_feedFour_3 FU v0 kv0 v1 (24 : Int32) S w
set_option maxRecDepth 20000 in
theorem o_X9_feed {D : Nat → Prop} (v0 : Nat) (kv0 : KA D v0 (0, 9)) (v1 : Int32) (v2 : Int32) (v3 : Int32) (v4 : Int32) (v5 : Int32) (S : St) (w : WT D S.2.2) : OD D (f_X9_feed v0 v1 v2 v3 v4 v5 S) S := by
  unfold f_X9_feed
  refine OD_ite ?_ ?_
  · refine OD_bd (o_X9_feedFour v0 kv0 v1 S w) (fun _ S1 hS1 => ?_)
    have wS1 : WT D S1.2.2 := by rw [hS1]; exact w
    clear hS1
    refine OD_bd (o_X9_feedFour v0 kv0 v2 S1 wS1) (fun _ S3 hS3 => ?_)
    have wS3 : WT D S3.2.2 := by rw [hS3]; exact wS1
    clear hS3
    refine OD_bd (o_X9_feedFour v0 kv0 v3 S3 wS3) (fun _ S5 hS5 => ?_)
    have wS5 : WT D S5.2.2 := by rw [hS5]; exact wS3
    clear hS5
    refine OD_bd (o_X9_feedFour v0 kv0 v4 S5 wS5) (fun _ S7 hS7 => ?_)
    have wS7 : WT D S7.2.2 := by rw [hS7]; exact wS5
    clear hS7
    refine OD_bd (o_X9_feedFour v0 kv0 v5 S7 wS7) (fun _ S9 hS9 => ?_)
    have wS9 : WT D S9.2.2 := by rw [hS9]; exact wS7
    clear hS9
    exact OD_some
  · exact OD_some
set_option maxRecDepth 20000 in
theorem o_X9_back {D : Nat → Prop} (v0 : Nat) (kv0 : KA D v0 (0, 9)) (v1 : Int32) (S : St) (w : WT D S.2.2) : OD D (f_X9_back v0 v1 S) S := by
  unfold f_X9_back
  refine OD_ite ?_ ?_
  · exact OD_some
  · refine OD_ite ?_ ?_
    · refine OD_nmI (kv0).2 (fun S1 hS1 => ?_)
      have wS1 : WT D S1.2.2 := by rw [hS1]; exact w
      clear hS1
      exact OD_some
    · exact OD_some
set_option maxRecDepth 20000 in
theorem o_X9_place {D : Nat → Prop} (v0 : Nat) (kv0 : KA D v0 (0, 9)) (S : St) (w : WT D S.2.2) : OD D (f_X9_place v0 S) S := by
  unfold f_X9_place
  exact OD_some
set_option maxRecDepth 20000 in
theorem o_X9_isMermaid {D : Nat → Prop} (v0 : Nat) (kv0 : KA D v0 (0, 9)) (v1 : Int32) (S : St) (w : WT D S.2.2) : OD D (f_X9_isMermaid v0 v1 S) S := by
  unfold f_X9_isMermaid
  refine OD_ite ?_ ?_
  · exact OD_some
  · refine OD_ite ?_ ?_
    · exact OD_some
    · exact OD_some
set_option maxRecDepth 20000 in
theorem o_X9_isPerson {D : Nat → Prop} (v0 : Nat) (kv0 : KA D v0 (0, 9)) (v1 : Int32) (S : St) (w : WT D S.2.2) : OD D (f_X9_isPerson v0 v1 S) S := by
  unfold f_X9_isPerson
  refine OD_ite ?_ ?_
  · exact OD_some
  · refine OD_ite ?_ ?_
    · exact OD_some
    · exact OD_some
set_option maxRecDepth 20000 in
theorem o_X9_isStrand {D : Nat → Prop} (v0 : Nat) (kv0 : KA D v0 (0, 9)) (v1 : Int32) (S : St) (w : WT D S.2.2) : OD D (f_X9_isStrand v0 v1 S) S := by
  unfold f_X9_isStrand
  refine OD_ite ?_ ?_
  · exact OD_some
  · refine OD_ite ?_ ?_
    · exact OD_some
    · exact OD_some
set_option maxRecDepth 20000 in
theorem o_X9_isWithin {D : Nat → Prop} (v0 : Int32) (v1 : Int32) (v2 : Int32) (S : St) (w : WT D S.2.2) : OD D (f_X9_isWithin v0 v1 v2 S) S := by
  unfold f_X9_isWithin
  refine OD_ite ?_ ?_
  · exact OD_some
  · refine OD_ite ?_ ?_
    · exact OD_some
    · exact OD_some
set_option maxRecDepth 20000 in
theorem o_X9_mermaid {D : Nat → Prop} (v0 : Nat) (kv0 : KA D v0 (0, 9)) (v1 : Int32) (v2 : Int32) (S : St) (w : WT D S.2.2) : OD D (f_X9_mermaid v0 v1 v2 S) S := by
  unfold f_X9_mermaid
  refine OD_bd (o_X9_isMermaid v0 kv0 v1 S w) (fun r2 S1 hS1 => ?_)
  have wS1 : WT D S1.2.2 := by rw [hS1]; exact w
  clear hS1
  refine OD_ite ?_ ?_
  · exact OD_some
  · refine OD_ite ?_ ?_
    · refine OD_ix (fun j3 => ?_)
      exact OD_some
    refine OD_ite ?_ ?_
    · refine OD_ix (fun j4 => ?_)
      exact OD_some
    refine OD_ite ?_ ?_
    · refine OD_ix (fun j5 => ?_)
      exact OD_some
    refine OD_ite ?_ ?_
    · refine OD_ix (fun j6 => ?_)
      exact OD_some
    refine OD_ite ?_ ?_
    · refine OD_bd (o_X5_isDead (S1.2.2 v0 5) (wS1.1 _ _ kv0 5 _ rfl) v1 S1 wS1) (fun r8 S7 hS7 => ?_)
      have wS7 : WT D S7.2.2 := by rw [hS7]; exact wS1
      clear hS7
      refine OD_ite ?_ ?_
      · exact OD_some
      · exact OD_some
    exact OD_some
set_option maxRecDepth 20000 in
theorem o_X9_person {D : Nat → Prop} (v0 : Nat) (kv0 : KA D v0 (0, 9)) (v1 : Int32) (v2 : Int32) (S : St) (w : WT D S.2.2) : OD D (f_X9_person v0 v1 v2 S) S := by
  unfold f_X9_person
  refine OD_bd (o_X9_isPerson v0 kv0 v1 S w) (fun r2 S1 hS1 => ?_)
  have wS1 : WT D S1.2.2 := by rw [hS1]; exact w
  clear hS1
  refine OD_ite ?_ ?_
  · exact OD_some
  · refine OD_ix (fun j3 => ?_)
    refine OD_nm (fun x4 => ?_)
    refine OD_ix (fun j5 => ?_)
    refine OD_nm (fun x6 => ?_)
    refine OD_ite ?_ ?_
    · exact OD_some
    refine OD_ite ?_ ?_
    · exact OD_some
    refine OD_ite ?_ ?_
    · refine OD_ix (fun j7 => ?_)
      exact OD_some
    refine OD_ite ?_ ?_
    · refine OD_bd (o_X5_isOff (S1.2.2 v0 5) (wS1.1 _ _ kv0 5 _ rfl) v1 S1 wS1) (fun r9 S8 hS8 => ?_)
      have wS8 : WT D S8.2.2 := by rw [hS8]; exact wS1
      clear hS8
      refine OD_ite ?_ ?_
      · exact OD_some
      · exact OD_some
    refine OD_ite ?_ ?_
    · refine OD_bd (o_X8_feel (S1.2.2 v0 7) (wS1.1 _ _ kv0 7 _ rfl) v1 x4 x6 S1 wS1) (fun _ S10 hS10 => ?_)
      have wS10 : WT D S10.2.2 := by rw [hS10]; exact wS1
      clear hS10
      exact OD_some
    refine OD_ite ?_ ?_
    · refine OD_bd (o_X8_feel (S1.2.2 v0 7) (wS1.1 _ _ kv0 7 _ rfl) v1 x4 x6 S1 wS1) (fun _ S12 hS12 => ?_)
      have wS12 : WT D S12.2.2 := by rw [hS12]; exact wS1
      clear hS12
      exact OD_some
    refine OD_ite ?_ ?_
    · refine OD_bd (o_X8_standsAt (S1.2.2 v0 7) (wS1.1 _ _ kv0 7 _ rfl) v1 x4 x6 S1 wS1) (fun r15 S14 hS14 => ?_)
      have wS14 : WT D S14.2.2 := by rw [hS14]; exact wS1
      clear hS14
      exact OD_some
    refine OD_ite ?_ ?_
    · refine OD_bd (o_X8_stormOf (S1.2.2 v0 7) (wS1.1 _ _ kv0 7 _ rfl) v1 S1 wS1) (fun r17 S16 hS16 => ?_)
      have wS16 : WT D S16.2.2 := by rw [hS16]; exact wS1
      clear hS16
      exact OD_some
    refine OD_ite ?_ ?_
    · refine OD_bd (o_X8_wornBy (S1.2.2 v0 7) (wS1.1 _ _ kv0 7 _ rfl) v1 S1 wS1) (fun r19 S18 hS18 => ?_)
      have wS18 : WT D S18.2.2 := by rw [hS18]; exact wS1
      clear hS18
      exact OD_some
    exact OD_some
set_option maxRecDepth 20000 in
theorem o_X9_strand {D : Nat → Prop} (v0 : Nat) (kv0 : KA D v0 (0, 9)) (v1 : Int32) (v2 : Int32) (S : St) (w : WT D S.2.2) : OD D (f_X9_strand v0 v1 v2 S) S := by
  unfold f_X9_strand
  refine OD_bd (o_X9_isStrand v0 kv0 v1 S w) (fun r2 S1 hS1 => ?_)
  have wS1 : WT D S1.2.2 := by rw [hS1]; exact w
  clear hS1
  refine OD_ite ?_ ?_
  · exact OD_some
  · refine OD_ix (fun j3 => ?_)
    refine OD_nm (fun x4 => ?_)
    refine OD_ix (fun j5 => ?_)
    refine OD_nm (fun x6 => ?_)
    refine OD_ix (fun j7 => ?_)
    refine OD_nm (fun x8 => ?_)
    refine OD_ite ?_ ?_
    · refine OD_ix (fun j9 => ?_)
      exact OD_some
    refine OD_ite ?_ ?_
    · exact OD_some
    refine OD_ite ?_ ?_
    · refine OD_ix (fun j10 => ?_)
      exact OD_some
    refine OD_ite ?_ ?_
    · refine OD_bd (o_X5_isCut (S1.2.2 v0 5) (wS1.1 _ _ kv0 5 _ rfl) v1 S1 wS1) (fun r12 S11 hS11 => ?_)
      have wS11 : WT D S11.2.2 := by rw [hS11]; exact wS1
      clear hS11
      refine OD_ite ?_ ?_
      · exact OD_some
      · exact OD_some
    refine OD_ite ?_ ?_
    · refine OD_bd (o_X8_pullAt (S1.2.2 v0 7) (wS1.1 _ _ kv0 7 _ rfl) v1 x4 x6 x8 S1 wS1) (fun r14 S13 hS13 => ?_)
      have wS13 : WT D S13.2.2 := by rw [hS13]; exact wS1
      clear hS13
      exact OD_some
    refine OD_ite ?_ ?_
    · refine OD_bd (o_X8_priceOf (S1.2.2 v0 7) (wS1.1 _ _ kv0 7 _ rfl) v1 S1 wS1) (fun r16 S15 hS15 => ?_)
      have wS15 : WT D S15.2.2 := by rw [hS15]; exact wS1
      clear hS15
      exact OD_some
    refine OD_ite ?_ ?_
    · refine OD_ix (fun j17 => ?_)
      refine OD_bd (o_X5_farOf (S1.2.2 v0 5) (wS1.1 _ _ kv0 5 _ rfl) (S1.1 (S1.2.2 (S1.2.2 v0 3) 8) j17) x6 x8 S1 wS1) (fun r19 S18 hS18 => ?_)
      have wS18 : WT D S18.2.2 := by rw [hS18]; exact wS1
      clear hS18
      exact OD_some
    exact OD_some
set_option maxRecDepth 20000 in
theorem ob_X9_movedNow_56 {D : Nat → Prop} {q4 : Nat → Int32 → Int32 → St → Option (Int32 × St)} (oq4 : ∀ (v0 : Nat) (kv0 : KA D v0 (0, 9)) (v1 : Int32) (v2 : Int32) (S : St), WT D S.2.2 → OD D (q4 v0 v1 v2 S) S) (v0 : Nat) (kv0 : KA D v0 (0, 9)) (v1 : Int32) (v2 : Int32) (S : St) (w : WT D S.2.2) : OD D (b_X9_movedNow_56 q4 v0 v1 v2 S) S := by
  unfold b_X9_movedNow_56
  refine OD_nm (fun x1 => ?_)
  exact oq4 v0 kv0 v1 x1 S w
set_option maxRecDepth 20000 in
theorem ob_X9_movedNow_4 {D : Nat → Prop} : ∀ (fu : Nat) (v0 : Nat) (kv0 : KA D v0 (0, 9)) (v1 : Int32) (v2 : Int32) (S : St), WT D S.2.2 → OD D (b_X9_movedNow_4 fu v0 v1 v2 S) S := by
  intro fu
  induction fu with
  | zero => intro v0 kv0 v1 v2 S w; exact OD_none
  | succ fu ih =>
    intro v0 kv0 v1 v2 S w
    rw [b_X9_movedNow_4]
    refine OD_ite ?_ ?_
    · exact OD_some
    · refine OD_ix (fun j1 => ?_)
      refine OD_ix (fun j2 => ?_)
      refine OD_bd (o_X8_isMovedAt (S.2.2 v0 7) (w.1 _ _ kv0 7 _ rfl) v2 (S.1 (S.2.2 (S.2.2 v0 5) 0) j1) (S.1 (S.2.2 (S.2.2 v0 5) 0) j2) S w) (fun r4 S3 hS3 => ?_)
      have wS3 : WT D S3.2.2 := by rw [hS3]; exact w
      clear hS3
      refine OD_ite ?_ ?_
      · exact ob_X9_movedNow_56 ih v0 kv0 v1 v2 S3 wS3
      · refine OD_nm (fun x5 => ?_)
        exact ob_X9_movedNow_56 ih v0 kv0 x5 v2 S3 wS3
set_option maxRecDepth 20000 in
theorem o_X9_movedNow {D : Nat → Prop} (v0 : Nat) (kv0 : KA D v0 (0, 9)) (S : St) (w : WT D S.2.2) : OD D (f_X9_movedNow v0 S) S := by
  unfold f_X9_movedNow
  exact ob_X9_movedNow_4 FU v0 kv0 (0 : Int32) (0 : Int32) S w
set_option maxRecDepth 20000 in
theorem o_X9_count {D : Nat → Prop} (v0 : Nat) (kv0 : KA D v0 (0, 9)) (v1 : Int32) (S : St) (w : WT D S.2.2) : OD D (f_X9_count v0 v1 S) S := by
  unfold f_X9_count
  refine OD_ite ?_ ?_
  · exact OD_some
  refine OD_ite ?_ ?_
  · exact OD_some
  refine OD_ite ?_ ?_
  · exact OD_some
  refine OD_ite ?_ ?_
  · exact OD_some
  refine OD_ite ?_ ?_
  · exact OD_some
  refine OD_ite ?_ ?_
  · exact OD_some
  refine OD_ite ?_ ?_
  · exact OD_some
  refine OD_ite ?_ ?_
  · exact OD_some
  refine OD_ite ?_ ?_
  · exact OD_some
  refine OD_ite ?_ ?_
  · exact OD_some
  refine OD_ite ?_ ?_
  · exact OD_some
  refine OD_ite ?_ ?_
  · refine OD_bd (o_J6_bitCount_0f7a4 (S.1 v0 11) S w) (fun r2 S1 hS1 => ?_)
    have wS1 : WT D S1.2.2 := by rw [hS1]; exact w
    clear hS1
    exact OD_some
  refine OD_ite ?_ ?_
  · refine OD_bd (o_X8_pricesOfAll (S.2.2 v0 7) (w.1 _ _ kv0 7 _ rfl) S w) (fun r4 S3 hS3 => ?_)
    have wS3 : WT D S3.2.2 := by rw [hS3]; exact w
    clear hS3
    exact OD_some
  refine OD_ite ?_ ?_
  · refine OD_bd (o_X9_movedNow v0 kv0 S w) (fun r6 S5 hS5 => ?_)
    have wS5 : WT D S5.2.2 := by rw [hS5]; exact w
    clear hS5
    exact OD_some
  exact OD_some
set_option maxRecDepth 20000 in
theorem o_X9_hand {D : Nat → Prop} (v0 : Nat) (kv0 : KA D v0 (0, 9)) (v1 : Int32) (v2 : Int32) (S : St) (w : WT D S.2.2) : OD D (f_X9_hand v0 v1 v2 S) S := by
  unfold f_X9_hand
  refine OD_bd (o_X9_isStrand v0 kv0 v1 S w) (fun r2 S1 hS1 => ?_)
  have wS1 : WT D S1.2.2 := by rw [hS1]; exact w
  clear hS1
  refine OD_ite ?_ ?_
  · exact OD_some
  · refine OD_bd (o_X9_isPerson v0 kv0 v2 S1 wS1) (fun r4 S3 hS3 => ?_)
    have wS3 : WT D S3.2.2 := by rw [hS3]; exact wS1
    clear hS3
    refine OD_ite ?_ ?_
    · exact OD_some
    · refine OD_bd (o_X5_mayBeHanded (S3.2.2 v0 5) (wS3.1 _ _ kv0 5 _ rfl) v1 v2 S3 wS3) (fun r6 S5 hS5 => ?_)
      have wS5 : WT D S5.2.2 := by rw [hS5]; exact wS3
      clear hS5
      refine OD_ite ?_ ?_
      · exact OD_some
      · refine OD_bd (o_X1_keep (S5.2.2 v0 9) (wS5.1 _ _ kv0 9 _ rfl) (S5.2.2 v0 5) (wS5.1 _ _ kv0 5 _ rfl) S5 wS5) (fun _ S7 hS7 => ?_)
        have wS7 : WT D S7.2.2 := by rw [hS7]; exact wS5
        clear hS7
        refine OD_ix (fun j9 => ?_)
        refine OD_nmI (wS7.1 _ _ (wS7.1 _ _ kv0 5 _ rfl) 0 _ rfl).2 (fun S10 hS10 => ?_)
        have wS10 : WT D S10.2.2 := by rw [hS10]; exact wS7
        clear hS10
        exact OD_some
set_option maxRecDepth 20000 in
theorem o_X9_cut {D : Nat → Prop} (v0 : Nat) (kv0 : KA D v0 (0, 9)) (v1 : Int32) (S : St) (w : WT D S.2.2) : OD D (f_X9_cut v0 v1 S) S := by
  unfold f_X9_cut
  refine OD_bd (o_X9_isStrand v0 kv0 v1 S w) (fun r2 S1 hS1 => ?_)
  have wS1 : WT D S1.2.2 := by rw [hS1]; exact w
  clear hS1
  refine OD_ite ?_ ?_
  · exact OD_some
  · refine OD_bd (o_X5_isCut (S1.2.2 v0 5) (wS1.1 _ _ kv0 5 _ rfl) v1 S1 wS1) (fun r4 S3 hS3 => ?_)
    have wS3 : WT D S3.2.2 := by rw [hS3]; exact wS1
    clear hS3
    refine OD_ite ?_ ?_
    · refine OD_bd (o_X1_keep (S3.2.2 v0 9) (wS3.1 _ _ kv0 9 _ rfl) (S3.2.2 v0 5) (wS3.1 _ _ kv0 5 _ rfl) S3 wS3) (fun _ S5 hS5 => ?_)
      have wS5 : WT D S5.2.2 := by rw [hS5]; exact wS3
      clear hS5
      refine OD_nmI (wS5.1 _ _ kv0 5 _ rfl).2 (fun S7 hS7 => ?_)
      have wS7 : WT D S7.2.2 := by rw [hS7]; exact wS5
      clear hS7
      exact OD_some
    · exact OD_some
set_option maxRecDepth 20000 in
theorem o_X9_die {D : Nat → Prop} (v0 : Nat) (kv0 : KA D v0 (0, 9)) (v1 : Int32) (S : St) (w : WT D S.2.2) : OD D (f_X9_die v0 v1 S) S := by
  unfold f_X9_die
  refine OD_bd (o_X9_isMermaid v0 kv0 v1 S w) (fun r2 S1 hS1 => ?_)
  have wS1 : WT D S1.2.2 := by rw [hS1]; exact w
  clear hS1
  refine OD_ite ?_ ?_
  · exact OD_some
  · refine OD_bd (o_X5_isDead (S1.2.2 v0 5) (wS1.1 _ _ kv0 5 _ rfl) v1 S1 wS1) (fun r4 S3 hS3 => ?_)
    have wS3 : WT D S3.2.2 := by rw [hS3]; exact wS1
    clear hS3
    refine OD_ite ?_ ?_
    · refine OD_bd (o_X1_keep (S3.2.2 v0 9) (wS3.1 _ _ kv0 9 _ rfl) (S3.2.2 v0 5) (wS3.1 _ _ kv0 5 _ rfl) S3 wS3) (fun _ S5 hS5 => ?_)
      have wS5 : WT D S5.2.2 := by rw [hS5]; exact wS3
      clear hS5
      refine OD_nmI (wS5.1 _ _ kv0 5 _ rfl).2 (fun S7 hS7 => ?_)
      have wS7 : WT D S7.2.2 := by rw [hS7]; exact wS5
      clear hS7
      exact OD_some
    · exact OD_some
set_option maxRecDepth 20000 in
theorem ob_X9_months_29 {D : Nat → Prop} : ∀ (fu : Nat) (v0 : Nat) (kv0 : KA D v0 (0, 9)) (v1 : Int32) (v2 : Int32) (S : St), WT D S.2.2 → OD D (b_X9_months_29 fu v0 v1 v2 S) S := by
  intro fu
  induction fu with
  | zero => intro v0 kv0 v1 v2 S w; exact OD_none
  | succ fu ih =>
    intro v0 kv0 v1 v2 S w
    rw [b_X9_months_29]
    refine OD_ite ?_ ?_
    · exact OD_some
    · refine OD_bd (o_X8_goMonth (S.2.2 v0 7) (w.1 _ _ kv0 7 _ rfl) (0 : Int32) (S.1 (S.2.2 v0 3) 1) (1 : Int32) S w) (fun _ S1 hS1 => ?_)
      have wS1 : WT D S1.2.2 := by rw [hS1]; exact w
      clear hS1
      refine OD_nm (fun x3 => ?_)
      exact ih v0 kv0 v1 x3 S1 wS1
set_option maxRecDepth 20000 in
theorem ob_X9_months_27 {D : Nat → Prop} (v0 : Nat) (kv0 : KA D v0 (0, 9)) (v1 : Int32) (S : St) (w : WT D S.2.2) : OD D (b_X9_months_27 v0 v1 S) S := by
  unfold b_X9_months_27
  exact ob_X9_months_29 FU v0 kv0 v1 (0 : Int32) S w
set_option maxRecDepth 20000 in
theorem o_X9_months {D : Nat → Prop} (v0 : Nat) (kv0 : KA D v0 (0, 9)) (v1 : Int32) (S : St) (w : WT D S.2.2) : OD D (f_X9_months v0 v1 S) S := by
  unfold f_X9_months
  refine OD_bd (o_X9_isWithin v1 (0 : Int32) (60 : Int32) S w) (fun r2 S1 hS1 => ?_)
  have wS1 : WT D S1.2.2 := by rw [hS1]; exact w
  clear hS1
  refine OD_ite ?_ ?_
  · exact OD_some
  · refine OD_ite ?_ ?_
    · exact ob_X9_months_27 v0 kv0 v1 S1 wS1
    · refine OD_bd (o_X1_keep (S1.2.2 v0 9) (wS1.1 _ _ kv0 9 _ rfl) (S1.2.2 v0 5) (wS1.1 _ _ kv0 5 _ rfl) S1 wS1) (fun _ S3 hS3 => ?_)
      have wS3 : WT D S3.2.2 := by rw [hS3]; exact wS1
      clear hS3
      exact ob_X9_months_27 v0 kv0 v1 S3 wS3
set_option maxRecDepth 20000 in
theorem o_X9_undo {D : Nat → Prop} (v0 : Nat) (kv0 : KA D v0 (0, 9)) (S : St) (w : WT D S.2.2) : OD D (f_X9_undo v0 S) S := by
  unfold f_X9_undo
  refine OD_bd (o_X1_takeBackInto (S.2.2 v0 9) (w.1 _ _ kv0 9 _ rfl) (S.2.2 v0 5) (w.1 _ _ kv0 5 _ rfl) S w) (fun r2 S1 hS1 => ?_)
  have wS1 : WT D S1.2.2 := by rw [hS1]; exact w
  clear hS1
  exact OD_ob (fun _ => OD_some)
set_option maxRecDepth 20000 in
theorem o_X9_hold {D : Nat → Prop} (v0 : Nat) (kv0 : KA D v0 (0, 9)) (v1 : Int32) (S : St) (w : WT D S.2.2) : OD D (f_X9_hold v0 v1 S) S := by
  unfold f_X9_hold
  refine OD_bd (o_X9_isWithin v1 (0 : Int32) (2 : Int32) S w) (fun r2 S1 hS1 => ?_)
  have wS1 : WT D S1.2.2 := by rw [hS1]; exact w
  clear hS1
  refine OD_ite ?_ ?_
  · exact OD_some
  · refine OD_ixq wS1 (wS1.1 _ _ kv0 10 _ rfl) (fun j3 kj3 => ?_)
    refine OD_bd (o_X5_copyFrom (S1.2.2 (S1.2.2 v0 10) j3) kj3 (S1.2.2 v0 5) (wS1.1 _ _ kv0 5 _ rfl) S1 wS1) (fun _ S4 hS4 => ?_)
    have wS4 : WT D S4.2.2 := by rw [hS4]; exact wS1
    clear hS4
    refine OD_nmI (kv0).2 (fun S6 hS6 => ?_)
    have wS6 : WT D S6.2.2 := by rw [hS6]; exact wS4
    clear hS6
    exact OD_some
set_option maxRecDepth 20000 in
theorem o_X9_restore {D : Nat → Prop} (v0 : Nat) (kv0 : KA D v0 (0, 9)) (v1 : Int32) (S : St) (w : WT D S.2.2) : OD D (f_X9_restore v0 v1 S) S := by
  unfold f_X9_restore
  refine OD_bd (o_X9_isWithin v1 (0 : Int32) (2 : Int32) S w) (fun r2 S1 hS1 => ?_)
  have wS1 : WT D S1.2.2 := by rw [hS1]; exact w
  clear hS1
  refine OD_ite ?_ ?_
  · exact OD_some
  · refine OD_ite ?_ ?_
    · exact OD_some
    · refine OD_ixq wS1 (wS1.1 _ _ kv0 10 _ rfl) (fun j3 kj3 => ?_)
      refine OD_bd (o_X5_copyFrom (S1.2.2 v0 5) (wS1.1 _ _ kv0 5 _ rfl) (S1.2.2 (S1.2.2 v0 10) j3) kj3 S1 wS1) (fun _ S4 hS4 => ?_)
      have wS4 : WT D S4.2.2 := by rw [hS4]; exact wS1
      clear hS4
      refine OD_bd (o_X1_clearAll (S4.2.2 v0 9) (wS4.1 _ _ kv0 9 _ rfl) S4 wS4) (fun _ S6 hS6 => ?_)
      have wS6 : WT D S6.2.2 := by rw [hS6]; exact wS4
      clear hS6
      exact OD_some
set_option maxRecDepth 20000 in
theorem ob_X9_then_43 {D : Nat → Prop} : ∀ (fu : Nat) (v0 : Nat) (kv0 : KA D v0 (0, 9)) (v1 : Int32) (v2 : Int32) (v3 : Int32) (v4 : Int32) (S : St), WT D S.2.2 → OD D (b_X9_then_43 fu v0 v1 v2 v3 v4 S) S := by
  intro fu
  induction fu with
  | zero => intro v0 kv0 v1 v2 v3 v4 S w; exact OD_none
  | succ fu ih =>
    intro v0 kv0 v1 v2 v3 v4 S w
    rw [b_X9_then_43]
    refine OD_ite ?_ ?_
    · refine OD_ite ?_ ?_
      · refine OD_ix (fun j1 => ?_)
        exact OD_some
      · refine OD_ite ?_ ?_
        · refine OD_ix (fun j2 => ?_)
          exact OD_some
        · refine OD_bd (o_X5_isOff (S.2.2 v0 6) (w.1 _ _ kv0 6 _ rfl) v1 S w) (fun r4 S3 hS3 => ?_)
          have wS3 : WT D S3.2.2 := by rw [hS3]; exact w
          clear hS3
          refine OD_ite ?_ ?_
          · exact OD_some
          · exact OD_some
    · refine OD_bd (o_X8_goMonth (S.2.2 v0 8) (w.1 _ _ kv0 8 _ rfl) v1 (v1 + (1 : Int32)) (1 : Int32) S w) (fun _ S5 hS5 => ?_)
      have wS5 : WT D S5.2.2 := by rw [hS5]; exact w
      clear hS5
      refine OD_nm (fun x7 => ?_)
      exact ih v0 kv0 v1 v2 v3 x7 S5 wS5
set_option maxRecDepth 20000 in
theorem o_X9_then {D : Nat → Prop} (v0 : Nat) (kv0 : KA D v0 (0, 9)) (v1 : Int32) (v2 : Int32) (v3 : Int32) (S : St) (w : WT D S.2.2) : OD D (f_X9_then v0 v1 v2 v3 S) S := by
  unfold f_X9_then
  refine OD_bd (o_X9_isPerson v0 kv0 v1 S w) (fun r2 S1 hS1 => ?_)
  have wS1 : WT D S1.2.2 := by rw [hS1]; exact w
  clear hS1
  refine OD_ite ?_ ?_
  · exact OD_some
  · refine OD_bd (o_X9_isWithin v2 (0 : Int32) (60 : Int32) S1 wS1) (fun r4 S3 hS3 => ?_)
    have wS3 : WT D S3.2.2 := by rw [hS3]; exact wS1
    clear hS3
    refine OD_ite ?_ ?_
    · exact OD_some
    · refine OD_bd (o_X9_isWithin v3 (0 : Int32) (2 : Int32) S3 wS3) (fun r6 S5 hS5 => ?_)
      have wS5 : WT D S5.2.2 := by rw [hS5]; exact wS3
      clear hS5
      refine OD_ite ?_ ?_
      · exact OD_some
      · refine OD_bd (o_X5_copyFrom (S5.2.2 v0 6) (wS5.1 _ _ kv0 6 _ rfl) (S5.2.2 v0 5) (wS5.1 _ _ kv0 5 _ rfl) S5 wS5) (fun _ S7 hS7 => ?_)
        have wS7 : WT D S7.2.2 := by rw [hS7]; exact wS5
        clear hS7
        exact ob_X9_then_43 FU v0 kv0 v1 v2 v3 (0 : Int32) S7 wS7
set_option maxRecDepth 20000 in
theorem ob_X9_swims_79 {D : Nat → Prop} (v1 : Int32) (s0 : Nat) (ks0 : KA D s0 (1, 36)) (s1 : Int32) (S : St) (w : WT D S.2.2) : OD D (b_X9_swims_79 v1 s0 s1 S) S := by
  unfold b_X9_swims_79
  refine OD_ix (fun j1 => ?_)
  exact OD_some
set_option maxRecDepth 20000 in
theorem ob_X9_swims_43 {D : Nat → Prop} : ∀ (fu : Nat) (v0 : Nat) (kv0 : KA D v0 (0, 9)) (v1 : Int32) (v2 : Int32) (v3 : Int32) (v4 : Int32) (S : St), WT D S.2.2 → OD D (b_X9_swims_43 fu v0 v1 v2 v3 v4 S) S := by
  intro fu
  induction fu with
  | zero => intro v0 kv0 v1 v2 v3 v4 S w; exact OD_none
  | succ fu ih =>
    intro v0 kv0 v1 v2 v3 v4 S w
    rw [b_X9_swims_43]
    refine OD_ite ?_ ?_
    · refine OD_ite ?_ ?_
      · exact ob_X9_swims_79 v1 (S.2.2 (S.2.2 v0 6) 0) (w.1 _ _ (w.1 _ _ kv0 6 _ rfl) 0 _ rfl) (0 : Int32) S w
      · exact ob_X9_swims_79 v1 (S.2.2 (S.2.2 v0 6) 0) (w.1 _ _ (w.1 _ _ kv0 6 _ rfl) 0 _ rfl) (4 : Int32) S w
    · refine OD_bd (o_X5_swim (S.2.2 v0 6) (w.1 _ _ kv0 6 _ rfl) v1 S w) (fun _ S1 hS1 => ?_)
      have wS1 : WT D S1.2.2 := by rw [hS1]; exact w
      clear hS1
      refine OD_nm (fun x3 => ?_)
      exact ih v0 kv0 v1 v2 v3 x3 S1 wS1
set_option maxRecDepth 20000 in
theorem o_X9_swims {D : Nat → Prop} (v0 : Nat) (kv0 : KA D v0 (0, 9)) (v1 : Int32) (v2 : Int32) (v3 : Int32) (S : St) (w : WT D S.2.2) : OD D (f_X9_swims v0 v1 v2 v3 S) S := by
  unfold f_X9_swims
  refine OD_bd (o_X9_isMermaid v0 kv0 v1 S w) (fun r2 S1 hS1 => ?_)
  have wS1 : WT D S1.2.2 := by rw [hS1]; exact w
  clear hS1
  refine OD_ite ?_ ?_
  · exact OD_some
  · refine OD_bd (o_X9_isWithin v2 (0 : Int32) (60 : Int32) S1 wS1) (fun r4 S3 hS3 => ?_)
    have wS3 : WT D S3.2.2 := by rw [hS3]; exact wS1
    clear hS3
    refine OD_ite ?_ ?_
    · exact OD_some
    · refine OD_bd (o_X9_isWithin v3 (0 : Int32) (1 : Int32) S3 wS3) (fun r6 S5 hS5 => ?_)
      have wS5 : WT D S5.2.2 := by rw [hS5]; exact wS3
      clear hS5
      refine OD_ite ?_ ?_
      · exact OD_some
      · refine OD_bd (o_X5_copyFrom (S5.2.2 v0 6) (wS5.1 _ _ kv0 6 _ rfl) (S5.2.2 v0 5) (wS5.1 _ _ kv0 5 _ rfl) S5 wS5) (fun _ S7 hS7 => ?_)
        have wS7 : WT D S7.2.2 := by rw [hS7]; exact wS5
        clear hS7
        exact ob_X9_swims_43 FU v0 kv0 v1 v2 v3 (0 : Int32) S7 wS7
set_option maxRecDepth 20000 in
theorem ob_X9_lowestOf_2 {D : Nat → Prop} : ∀ (fu : Nat) (v0 : Int32) (v1 : Int32) (S : St), WT D S.2.2 → OD D (b_X9_lowestOf_2 fu v0 v1 S) S := by
  intro fu
  induction fu with
  | zero => intro v0 v1 S w; exact OD_none
  | succ fu ih =>
    intro v0 v1 S w
    rw [b_X9_lowestOf_2]
    refine OD_ite ?_ ?_
    · exact OD_some
    · refine OD_ite ?_ ?_
      · refine OD_nm (fun x1 => ?_)
        exact ih v0 x1 S w
      · exact OD_some
set_option maxRecDepth 20000 in
theorem o_X9_lowestOf {D : Nat → Prop} (v0 : Int32) (S : St) (w : WT D S.2.2) : OD D (f_X9_lowestOf v0 S) S := by
  unfold f_X9_lowestOf
  exact ob_X9_lowestOf_2 FU v0 (0 : Int32) S w
set_option maxRecDepth 20000 in
theorem o_X9_first {D : Nat → Prop} (v0 : Nat) (kv0 : KA D v0 (0, 9)) (v1 : Int32) (S : St) (w : WT D S.2.2) : OD D (f_X9_first v0 v1 S) S := by
  unfold f_X9_first
  refine OD_bd (o_X9_isWithin v1 (0 : Int32) (1 : Int32) S w) (fun r2 S1 hS1 => ?_)
  have wS1 : WT D S1.2.2 := by rw [hS1]; exact w
  clear hS1
  refine OD_ite ?_ ?_
  · exact OD_some
  · refine OD_bd (o_X5_copyFrom (S1.2.2 v0 6) (wS1.1 _ _ kv0 6 _ rfl) (S1.2.2 v0 5) (wS1.1 _ _ kv0 5 _ rfl) S1 wS1) (fun _ S3 hS3 => ?_)
    have wS3 : WT D S3.2.2 := by rw [hS3]; exact wS1
    clear hS3
    refine OD_bd (o_X8_goUntilFirst (S3.2.2 v0 8) (wS3.1 _ _ kv0 8 _ rfl) S3 wS3) (fun r6 S5 hS5 => ?_)
    have wS5 : WT D S5.2.2 := by rw [hS5]; exact wS3
    clear hS5
    refine OD_ite ?_ ?_
    · exact OD_some
    · refine OD_ite ?_ ?_
      · exact OD_some
      · refine OD_bd (o_X9_lowestOf ((S5.1 (S5.2.2 v0 6) 2) &&& ((S5.1 (S5.2.2 v0 5) 2) ^^^ (-1 : Int32))) S5 wS5) (fun r8 S7 hS7 => ?_)
        have wS7 : WT D S7.2.2 := by rw [hS7]; exact wS5
        clear hS7
        exact OD_some
set_option maxRecDepth 20000 in
theorem ob_X9_near_70 {D : Nat → Prop} : ∀ (fu : Nat) (v0 : Nat) (kv0 : KA D v0 (0, 9)) (v1 : Int32) (v3 : Int32) (v4 : Int32) (v5 : Int32) (v6 : Int32) (S : St), WT D S.2.2 → OD D (b_X9_near_70 fu v0 v1 v3 v4 v5 v6 S) S := by
  intro fu
  induction fu with
  | zero => intro v0 kv0 v1 v3 v4 v5 v6 S w; exact OD_none
  | succ fu ih =>
    intro v0 kv0 v1 v3 v4 v5 v6 S w
    rw [b_X9_near_70]
    refine OD_ite ?_ ?_
    · exact OD_some
    · refine OD_bd (o_X5_farOf (S.2.2 v0 6) (w.1 _ _ kv0 6 _ rfl) v1 v4 v5 S w) (fun r2 S1 hS1 => ?_)
      have wS1 : WT D S1.2.2 := by rw [hS1]; exact w
      clear hS1
      refine OD_ite ?_ ?_
      · refine OD_bd (o_X5_swim (S1.2.2 v0 6) (wS1.1 _ _ kv0 6 _ rfl) v1 S1 wS1) (fun _ S3 hS3 => ?_)
        have wS3 : WT D S3.2.2 := by rw [hS3]; exact wS1
        clear hS3
        refine OD_nm (fun x5 => ?_)
        exact ih v0 kv0 v1 v3 v4 v5 x5 S3 wS3
      · exact OD_some
set_option maxRecDepth 20000 in
theorem o_X9_near {D : Nat → Prop} (v0 : Nat) (kv0 : KA D v0 (0, 9)) (v1 : Int32) (v2 : Int32) (v3 : Int32) (S : St) (w : WT D S.2.2) : OD D (f_X9_near v0 v1 v2 v3 S) S := by
  unfold f_X9_near
  refine OD_bd (o_X9_isMermaid v0 kv0 v1 S w) (fun r2 S1 hS1 => ?_)
  have wS1 : WT D S1.2.2 := by rw [hS1]; exact w
  clear hS1
  refine OD_ite ?_ ?_
  · exact OD_some
  · refine OD_bd (o_X9_isPerson v0 kv0 v2 S1 wS1) (fun r4 S3 hS3 => ?_)
    have wS3 : WT D S3.2.2 := by rw [hS3]; exact wS1
    clear hS3
    refine OD_ite ?_ ?_
    · exact OD_some
    · refine OD_bd (o_X9_isWithin v3 (0 : Int32) (9 : Int32) S3 wS3) (fun r6 S5 hS5 => ?_)
      have wS5 : WT D S5.2.2 := by rw [hS5]; exact wS3
      clear hS5
      refine OD_ite ?_ ?_
      · exact OD_some
      · refine OD_ix (fun j7 => ?_)
        refine OD_nm (fun x8 => ?_)
        refine OD_ix (fun j9 => ?_)
        refine OD_nm (fun x10 => ?_)
        refine OD_bd (o_X5_copyFrom (S5.2.2 v0 6) (wS5.1 _ _ kv0 6 _ rfl) (S5.2.2 v0 5) (wS5.1 _ _ kv0 5 _ rfl) S5 wS5) (fun _ S11 hS11 => ?_)
        have wS11 : WT D S11.2.2 := by rw [hS11]; exact wS5
        clear hS11
        exact ob_X9_near_70 FU v0 kv0 v1 v3 x8 x10 (0 : Int32) S11 wS11
set_option maxRecDepth 20000 in
theorem ob_X9_passing_47 {D : Nat → Prop} : ∀ (fu : Nat) (v0 : Nat) (kv0 : KA D v0 (0, 9)) (v1 : Int32) (v2 : Int32) (v3 : Int32) (v4 : Int32) (S : St), WT D S.2.2 → OD D (b_X9_passing_47 fu v0 v1 v2 v3 v4 S) S := by
  intro fu
  induction fu with
  | zero => intro v0 kv0 v1 v2 v3 v4 S w; exact OD_none
  | succ fu ih =>
    intro v0 kv0 v1 v2 v3 v4 S w
    rw [b_X9_passing_47]
    refine OD_ite ?_ ?_
    · exact OD_some
    · refine OD_ix (fun j1 => ?_)
      refine OD_nm (fun x2 => ?_)
      refine OD_ix (fun j3 => ?_)
      refine OD_nm (fun x4 => ?_)
      refine OD_bd (o_X5_farOf (S.2.2 v0 6) (w.1 _ _ kv0 6 _ rfl) v1 x2 x4 S w) (fun r6 S5 hS5 => ?_)
      have wS5 : WT D S5.2.2 := by rw [hS5]; exact w
      clear hS5
      refine OD_ite ?_ ?_
      · refine OD_bd (o_X5_swim (S5.2.2 v0 6) (wS5.1 _ _ kv0 6 _ rfl) v1 S5 wS5) (fun _ S7 hS7 => ?_)
        have wS7 : WT D S7.2.2 := by rw [hS7]; exact wS5
        clear hS7
        refine OD_bd (o_X5_swim (S7.2.2 v0 6) (wS7.1 _ _ kv0 6 _ rfl) v2 S7 wS7) (fun _ S9 hS9 => ?_)
        have wS9 : WT D S9.2.2 := by rw [hS9]; exact wS7
        clear hS9
        refine OD_nm (fun x11 => ?_)
        exact ih v0 kv0 v1 v2 v3 x11 S9 wS9
      · exact OD_some
set_option maxRecDepth 20000 in
theorem o_X9_passing {D : Nat → Prop} (v0 : Nat) (kv0 : KA D v0 (0, 9)) (v1 : Int32) (v2 : Int32) (v3 : Int32) (S : St) (w : WT D S.2.2) : OD D (f_X9_passing v0 v1 v2 v3 S) S := by
  unfold f_X9_passing
  refine OD_bd (o_X9_isMermaid v0 kv0 v1 S w) (fun r2 S1 hS1 => ?_)
  have wS1 : WT D S1.2.2 := by rw [hS1]; exact w
  clear hS1
  refine OD_ite ?_ ?_
  · exact OD_some
  · refine OD_bd (o_X9_isMermaid v0 kv0 v2 S1 wS1) (fun r4 S3 hS3 => ?_)
    have wS3 : WT D S3.2.2 := by rw [hS3]; exact wS1
    clear hS3
    refine OD_ite ?_ ?_
    · exact OD_some
    · refine OD_ite ?_ ?_
      · exact OD_some
      · refine OD_bd (o_X9_isWithin v3 (0 : Int32) (9 : Int32) S3 wS3) (fun r6 S5 hS5 => ?_)
        have wS5 : WT D S5.2.2 := by rw [hS5]; exact wS3
        clear hS5
        refine OD_ite ?_ ?_
        · exact OD_some
        · refine OD_bd (o_X5_copyFrom (S5.2.2 v0 6) (wS5.1 _ _ kv0 6 _ rfl) (S5.2.2 v0 5) (wS5.1 _ _ kv0 5 _ rfl) S5 wS5) (fun _ S7 hS7 => ?_)
          have wS7 : WT D S7.2.2 := by rw [hS7]; exact wS5
          clear hS7
          exact ob_X9_passing_47 FU v0 kv0 v1 v2 v3 (0 : Int32) S7 wS7
set_option maxRecDepth 20000 in
theorem ob_X9_again_23 {D : Nat → Prop} : ∀ (fu : Nat) (v0 : Nat) (kv0 : KA D v0 (0, 9)) (v1 : Int32) (v2 : Int32) (S : St), WT D S.2.2 → OD D (b_X9_again_23 fu v0 v1 v2 S) S := by
  intro fu
  induction fu with
  | zero => intro v0 kv0 v1 v2 S w; exact OD_none
  | succ fu ih =>
    intro v0 kv0 v1 v2 S w
    rw [b_X9_again_23]
    refine OD_ite ?_ ?_
    · exact OD_some
    · refine OD_bd (o_X5_swim (S.2.2 v0 6) (w.1 _ _ kv0 6 _ rfl) v1 S w) (fun _ S1 hS1 => ?_)
      have wS1 : WT D S1.2.2 := by rw [hS1]; exact w
      clear hS1
      refine OD_bd (o_X5_swimsLike (S1.2.2 v0 6) (wS1.1 _ _ kv0 6 _ rfl) (S1.2.2 v0 5) (wS1.1 _ _ kv0 5 _ rfl) v1 S1 wS1) (fun r4 S3 hS3 => ?_)
      have wS3 : WT D S3.2.2 := by rw [hS3]; exact wS1
      clear hS3
      refine OD_ite ?_ ?_
      · refine OD_nm (fun x5 => ?_)
        exact ih v0 kv0 v1 x5 S3 wS3
      · exact OD_some
set_option maxRecDepth 20000 in
theorem o_X9_again {D : Nat → Prop} (v0 : Nat) (kv0 : KA D v0 (0, 9)) (v1 : Int32) (S : St) (w : WT D S.2.2) : OD D (f_X9_again v0 v1 S) S := by
  unfold f_X9_again
  refine OD_bd (o_X9_isMermaid v0 kv0 v1 S w) (fun r2 S1 hS1 => ?_)
  have wS1 : WT D S1.2.2 := by rw [hS1]; exact w
  clear hS1
  refine OD_ite ?_ ?_
  · exact OD_some
  · refine OD_bd (o_X5_copyFrom (S1.2.2 v0 6) (wS1.1 _ _ kv0 6 _ rfl) (S1.2.2 v0 5) (wS1.1 _ _ kv0 5 _ rfl) S1 wS1) (fun _ S3 hS3 => ?_)
    have wS3 : WT D S3.2.2 := by rw [hS3]; exact wS1
    clear hS3
    exact ob_X9_again_23 FU v0 kv0 v1 (1 : Int32) S3 wS3
set_option maxRecDepth 20000 in
theorem ob_X9_turns_88 {D : Nat → Prop} {q36 : Nat → Int32 → Int32 → Int32 → Int32 → St → Option (Int32 × St)} (oq36 : ∀ (v0 : Nat) (kv0 : KA D v0 (0, 9)) (v1 : Int32) (v2 : Int32) (v3 : Int32) (v4 : Int32) (S : St), WT D S.2.2 → OD D (q36 v0 v1 v2 v3 v4 S) S) (v0 : Nat) (kv0 : KA D v0 (0, 9)) (v1 : Int32) (v2 : Int32) (v3 : Int32) (v4 : Int32) (S : St) (w : WT D S.2.2) : OD D (b_X9_turns_88 q36 v0 v1 v2 v3 v4 S) S := by
  unfold b_X9_turns_88
  refine OD_bd (o_X8_goMonth (S.2.2 v0 8) (w.1 _ _ kv0 8 _ rfl) v1 (v1 + (1 : Int32)) (0 : Int32) S w) (fun _ S1 hS1 => ?_)
  have wS1 : WT D S1.2.2 := by rw [hS1]; exact w
  clear hS1
  refine OD_nm (fun x3 => ?_)
  exact oq36 v0 kv0 v1 v2 v3 x3 S1 wS1
set_option maxRecDepth 20000 in
theorem ob_X9_turns_36 {D : Nat → Prop} : ∀ (fu : Nat) (v0 : Nat) (kv0 : KA D v0 (0, 9)) (v1 : Int32) (v2 : Int32) (v3 : Int32) (v4 : Int32) (S : St), WT D S.2.2 → OD D (b_X9_turns_36 fu v0 v1 v2 v3 v4 S) S := by
  intro fu
  induction fu with
  | zero => intro v0 kv0 v1 v2 v3 v4 S w; exact OD_none
  | succ fu ih =>
    intro v0 kv0 v1 v2 v3 v4 S w
    rw [b_X9_turns_36]
    refine OD_ite ?_ ?_
    · exact OD_some
    · refine OD_ix (fun j1 => ?_)
      refine OD_nm (fun x2 => ?_)
      refine OD_ix (fun j3 => ?_)
      refine OD_nm (fun x4 => ?_)
      refine OD_bd (o_X8_isMovedAt (S.2.2 v0 8) (w.1 _ _ kv0 8 _ rfl) v1 x2 x4 S w) (fun r6 S5 hS5 => ?_)
      have wS5 : WT D S5.2.2 := by rw [hS5]; exact w
      clear hS5
      refine OD_ite ?_ ?_
      · exact ob_X9_turns_88 ih v0 kv0 v1 v2 v3 v4 S5 wS5
      · refine OD_nm (fun x7 => ?_)
        exact ob_X9_turns_88 ih v0 kv0 v1 v2 x7 v4 S5 wS5
set_option maxRecDepth 20000 in
theorem o_X9_turns {D : Nat → Prop} (v0 : Nat) (kv0 : KA D v0 (0, 9)) (v1 : Int32) (v2 : Int32) (S : St) (w : WT D S.2.2) : OD D (f_X9_turns v0 v1 v2 S) S := by
  unfold f_X9_turns
  refine OD_bd (o_X9_isPerson v0 kv0 v1 S w) (fun r2 S1 hS1 => ?_)
  have wS1 : WT D S1.2.2 := by rw [hS1]; exact w
  clear hS1
  refine OD_ite ?_ ?_
  · exact OD_some
  · refine OD_bd (o_X9_isWithin v2 (0 : Int32) (60 : Int32) S1 wS1) (fun r4 S3 hS3 => ?_)
    have wS3 : WT D S3.2.2 := by rw [hS3]; exact wS1
    clear hS3
    refine OD_ite ?_ ?_
    · exact OD_some
    · refine OD_bd (o_X5_copyFrom (S3.2.2 v0 6) (wS3.1 _ _ kv0 6 _ rfl) (S3.2.2 v0 5) (wS3.1 _ _ kv0 5 _ rfl) S3 wS3) (fun _ S5 hS5 => ?_)
      have wS5 : WT D S5.2.2 := by rw [hS5]; exact wS3
      clear hS5
      exact ob_X9_turns_36 FU v0 kv0 v1 v2 (0 : Int32) (0 : Int32) S5 wS5

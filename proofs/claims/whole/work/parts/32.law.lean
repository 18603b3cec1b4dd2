/-! the law's loop -/
def DA : Nat → Prop := fun a => 0 ≤ a ∧ a < 187
theorem hD0 {K : KK} (hD : kDn K = DA) : KA (kDn K) 0 (0, 9) := by rw [hD]; exact ⟨by decide, by decide, by decide⟩
theorem hD140 {K : KK} (hD : kDn K = DA) : KA (kDn K) 140 (0, 10) := by rw [hD]; exact ⟨by decide, by decide, by decide⟩
theorem hRl {K : KK} {d' maxL : Nat} (hR : kR K = room_1) (h : d' ≤ 100) (hm : maxL ≤ 11) : d' + 1 ≤ (kR K).frames ∧ 8 + (maxL + 11) + 30 * d' ≤ (kR K).locals := by
  rw [hR]
  exact ⟨by show _ ≤ 2048; omega, by show _ ≤ 84000; omega⟩
theorem hkl {K : KK} (hR : kR K = room_1) : 187 ≤ (kR K).cells ∧ 18397 ≤ (kR K).slots := by
  rw [hR]
  exact ⟨by show _ ≤ 600000; omega, by show _ ≤ 7302250; omega⟩
def XA (K : KK) (L : Nat) (xs : Nat → Int32) : Prop := va_X (kK K 40) L xs (ks K) (kS0 K).heap ∧ kK K 40 < (kS0 K).heap.size ∧ ¬ (kB K ≤ kK K 40)
section LW
variable {K : KK} {ρ : Type} {Zr : ρ → State → Prop} {cc : ByteArray} {nL : Nat} {own : String} {rt : Option FieldType} {pc : Nat} {ls : List (Option Value)} {st : List Value} {M : Mm} {n k w : Nat} {e : Option ρ} {L : Nat} {xs : Nat → Int32}
theorem Z_sld (X : CX K cc nL own rt) (hX : XA K L xs) {i : Int32} {f : Nat → Option ρ} (hd : decode cc pc = .ok (.iaload, 1)) (h : ∀ j, JX K Zr (pc + 1) ls (.int (xs j) :: st) M n k w (f j)) : JX K Zr pc ls (.int i :: .retAddr 40 :: st) M n k w ((ix i L).bind f) := by
  intro r hr H la locs hE hL
  obtain ⟨j, hj, hf⟩ := Option.bind_eq_some_iff.mp hr
  obtain ⟨g1, g2⟩ := ix_in hj
  have hp := h j r hf H la locs hE hL
  subst g2
  exact va_sld X.1 X.2.1 hX.1 hX.2.1 hX.2.2 hE.2.1 g1 hd hp
theorem Z_slen (X : CX K cc nL own rt) (hX : XA K L xs) (hd : decode cc pc = .ok (.arraylength, 1)) (h : JX K Zr (pc + 1) ls (.int (Int32.ofNat L) :: st) M n k w e) : JX K Zr pc ls (.retAddr 40 :: st) M n k w e :=
  fun r hr H la locs hE hL => va_slen X.1 X.2.1 hX.1 hX.2.1 hX.2.2 hE.2.1 hd (h r hr H la locs hE hL)
end LW
def Zl (K : KK) (_ : Unit × St) : State → Prop := lw_Z (kbe K) (kar K) (ks K)
theorem L_ret {K : KK} {pc : Nat} {ls : List (Option Value)} {S : St} {n : Nat} {N : Nat → Nat → Bool} (X : CX K code 4 RL ret) (hR : kR K = room_1) (hA : kar K = #[Value.ref (kK K 40)]) (hS0 : (ks K).heap.size = kB K) (hd : decode code pc = .ok (.ireturn, 1)) : JX K (Zl K) pc ls [.int 1] (rwN N S) n 187 18397 (some ((), S)) := by
  intro r hr H la locs hE hL
  refine va_forget (fun q hq => by rw [hS0]; exact hE.2.1.2.2 q hq) ?_
  refine W.widen (k := 600000) (n := 7302250) (by decide) (by decide) ?_
  have h1 := lw_ret (p := kp K) (l := kl K) (e := ke K) (s := ks K) (m := km K) (below := kbe K) (meth := kme K) (c := kc K) (b := kK K 40) (pc := pc) (H := H) (ls := la) X.1 X.2.1 X.2.2.2.2.2.2.2.2.1 X.2.2.2.2.2.2.1 hd
  rw [← hA, ← hR] at h1
  exact h1
set_option maxRecDepth 20000 in
def b_law (L : Nat) (xs : Nat → Int32) : Nat → Int32 → St → Option (Unit × St)
  | 0, _, _ => none
  | fu + 1, i, S => if (Int32.ofNat L - (6 : Int32)) < i then (some ((), S)) else ((ix i L).bind fun j0 => nm (xs j0 &&& (63 : Int32)) fun x => if x = (0 : Int32) then ((ix (i + (1 : Int32)) L).bind fun j1 => (ix (i + (2 : Int32)) L).bind fun j2 => (ix (i + (3 : Int32)) L).bind fun j3 => (ix (i + (4 : Int32)) L).bind fun j4 => (ix (i + (5 : Int32)) L).bind fun j5 => bd (f_X9_feed 0 (xs j1) (xs j2) (xs j3) (xs j4) (xs j5) S) fun r6 S6 => (ix (i + (1 : Int32)) L).bind fun j7 => (ix (i + (2 : Int32)) L).bind fun j8 => (ix (i + (3 : Int32)) L).bind fun j9 => (ix (i + (4 : Int32)) L).bind fun j10 => (ix (i + (5 : Int32)) L).bind fun j11 => bd (f_X10_feed 140 (xs j7) (xs j8) (xs j9) (xs j10) (xs j11) S6) fun r12 S12 => if r6 = r12 then (nm (i + (6 : Int32)) fun i2 => b_law L xs fu i2 S12) else none) else if x = (1 : Int32) then ((ix (i + (1 : Int32)) L).bind fun j1 => bd (f_X9_back 0 (xs j1) S) fun r2 S2 => (ix (i + (1 : Int32)) L).bind fun j3 => bd (f_X10_back 140 (xs j3) S2) fun r4 S4 => if r2 = r4 then (nm (i + (6 : Int32)) fun i2 => b_law L xs fu i2 S4) else none) else if x = (2 : Int32) then (bd (f_X9_read 0 S) fun r1 S1 => bd (f_X10_read 140 S1) fun r2 S2 => if r1 = r2 then (nm (i + (6 : Int32)) fun i2 => b_law L xs fu i2 S2) else none) else if x = (3 : Int32) then (bd (f_X9_place 0 S) fun r1 S1 => bd (f_X10_place 140 S1) fun r2 S2 => if r1 = r2 then (nm (i + (6 : Int32)) fun i2 => b_law L xs fu i2 S2) else none) else if x = (4 : Int32) then ((ix (i + (1 : Int32)) L).bind fun j1 => (ix (i + (2 : Int32)) L).bind fun j2 => bd (f_X9_mermaid 0 (xs j1) (xs j2) S) fun r3 S3 => (ix (i + (1 : Int32)) L).bind fun j4 => (ix (i + (2 : Int32)) L).bind fun j5 => bd (f_X10_mermaid 140 (xs j4) (xs j5) S3) fun r6 S6 => if r3 = r6 then (nm (i + (6 : Int32)) fun i2 => b_law L xs fu i2 S6) else none) else if x = (5 : Int32) then ((ix (i + (1 : Int32)) L).bind fun j1 => (ix (i + (2 : Int32)) L).bind fun j2 => bd (f_X9_person 0 (xs j1) (xs j2) S) fun r3 S3 => (ix (i + (1 : Int32)) L).bind fun j4 => (ix (i + (2 : Int32)) L).bind fun j5 => bd (f_X10_person 140 (xs j4) (xs j5) S3) fun r6 S6 => if r3 = r6 then (nm (i + (6 : Int32)) fun i2 => b_law L xs fu i2 S6) else none) else if x = (6 : Int32) then ((ix (i + (1 : Int32)) L).bind fun j1 => (ix (i + (2 : Int32)) L).bind fun j2 => bd (f_X9_strand 0 (xs j1) (xs j2) S) fun r3 S3 => (ix (i + (1 : Int32)) L).bind fun j4 => (ix (i + (2 : Int32)) L).bind fun j5 => bd (f_X10_strand 140 (xs j4) (xs j5) S3) fun r6 S6 => if r3 = r6 then (nm (i + (6 : Int32)) fun i2 => b_law L xs fu i2 S6) else none) else if x = (7 : Int32) then ((ix (i + (1 : Int32)) L).bind fun j1 => (ix (i + (2 : Int32)) L).bind fun j2 => bd (f_X9_hand 0 (xs j1) (xs j2) S) fun r3 S3 => (ix (i + (1 : Int32)) L).bind fun j4 => (ix (i + (2 : Int32)) L).bind fun j5 => bd (f_X10_hand 140 (xs j4) (xs j5) S3) fun r6 S6 => if r3 = r6 then (nm (i + (6 : Int32)) fun i2 => b_law L xs fu i2 S6) else none) else if x = (8 : Int32) then ((ix (i + (1 : Int32)) L).bind fun j1 => bd (f_X9_cut 0 (xs j1) S) fun r2 S2 => (ix (i + (1 : Int32)) L).bind fun j3 => bd (f_X10_cut 140 (xs j3) S2) fun r4 S4 => if r2 = r4 then (nm (i + (6 : Int32)) fun i2 => b_law L xs fu i2 S4) else none) else if x = (9 : Int32) then ((ix (i + (1 : Int32)) L).bind fun j1 => bd (f_X9_die 0 (xs j1) S) fun r2 S2 => (ix (i + (1 : Int32)) L).bind fun j3 => bd (f_X10_die 140 (xs j3) S2) fun r4 S4 => if r2 = r4 then (nm (i + (6 : Int32)) fun i2 => b_law L xs fu i2 S4) else none) else if x = (10 : Int32) then ((ix (i + (1 : Int32)) L).bind fun j1 => bd (f_X9_months 0 (xs j1) S) fun r2 S2 => (ix (i + (1 : Int32)) L).bind fun j3 => bd (f_X10_months 140 (xs j3) S2) fun r4 S4 => if r2 = r4 then (nm (i + (6 : Int32)) fun i2 => b_law L xs fu i2 S4) else none) else if x = (11 : Int32) then (bd (f_X9_undo 0 S) fun r1 S1 => bd (f_X10_undo 140 S1) fun r2 S2 => if r1 = r2 then (nm (i + (6 : Int32)) fun i2 => b_law L xs fu i2 S2) else none) else if x = (12 : Int32) then ((ix (i + (1 : Int32)) L).bind fun j1 => (ix (i + (2 : Int32)) L).bind fun j2 => (ix (i + (3 : Int32)) L).bind fun j3 => bd (f_X9_then 0 (xs j1) (xs j2) (xs j3) S) fun r4 S4 => (ix (i + (1 : Int32)) L).bind fun j5 => (ix (i + (2 : Int32)) L).bind fun j6 => (ix (i + (3 : Int32)) L).bind fun j7 => bd (f_X10_then 140 (xs j5) (xs j6) (xs j7) S4) fun r8 S8 => if r4 = r8 then (nm (i + (6 : Int32)) fun i2 => b_law L xs fu i2 S8) else none) else if x = (13 : Int32) then ((ix (i + (1 : Int32)) L).bind fun j1 => (ix (i + (2 : Int32)) L).bind fun j2 => (ix (i + (3 : Int32)) L).bind fun j3 => bd (f_X9_swims 0 (xs j1) (xs j2) (xs j3) S) fun r4 S4 => (ix (i + (1 : Int32)) L).bind fun j5 => (ix (i + (2 : Int32)) L).bind fun j6 => (ix (i + (3 : Int32)) L).bind fun j7 => bd (f_X10_swims 140 (xs j5) (xs j6) (xs j7) S4) fun r8 S8 => if r4 = r8 then (nm (i + (6 : Int32)) fun i2 => b_law L xs fu i2 S8) else none) else if x = (14 : Int32) then ((ix (i + (1 : Int32)) L).bind fun j1 => bd (f_X9_first 0 (xs j1) S) fun r2 S2 => (ix (i + (1 : Int32)) L).bind fun j3 => bd (f_X10_first 140 (xs j3) S2) fun r4 S4 => if r2 = r4 then (nm (i + (6 : Int32)) fun i2 => b_law L xs fu i2 S4) else none) else if x = (15 : Int32) then ((ix (i + (1 : Int32)) L).bind fun j1 => (ix (i + (2 : Int32)) L).bind fun j2 => (ix (i + (3 : Int32)) L).bind fun j3 => bd (f_X9_near 0 (xs j1) (xs j2) (xs j3) S) fun r4 S4 => (ix (i + (1 : Int32)) L).bind fun j5 => (ix (i + (2 : Int32)) L).bind fun j6 => (ix (i + (3 : Int32)) L).bind fun j7 => bd (f_X10_near 140 (xs j5) (xs j6) (xs j7) S4) fun r8 S8 => if r4 = r8 then (nm (i + (6 : Int32)) fun i2 => b_law L xs fu i2 S8) else none) else if x = (16 : Int32) then ((ix (i + (1 : Int32)) L).bind fun j1 => (ix (i + (2 : Int32)) L).bind fun j2 => (ix (i + (3 : Int32)) L).bind fun j3 => (ix (i + (4 : Int32)) L).bind fun j4 => bd (f_X9_plait 0 (xs j1) (xs j2) (xs j3) (xs j4) S) fun r5 S5 => (ix (i + (1 : Int32)) L).bind fun j6 => (ix (i + (2 : Int32)) L).bind fun j7 => (ix (i + (3 : Int32)) L).bind fun j8 => (ix (i + (4 : Int32)) L).bind fun j9 => bd (f_X10_plait 140 (xs j6) (xs j7) (xs j8) (xs j9) S5) fun r10 S10 => if r5 = r10 then (nm (i + (6 : Int32)) fun i2 => b_law L xs fu i2 S10) else none) else if x = (17 : Int32) then ((ix (i + (1 : Int32)) L).bind fun j1 => (ix (i + (2 : Int32)) L).bind fun j2 => bd (f_X9_turns 0 (xs j1) (xs j2) S) fun r3 S3 => (ix (i + (1 : Int32)) L).bind fun j4 => (ix (i + (2 : Int32)) L).bind fun j5 => bd (f_X10_turns 140 (xs j4) (xs j5) S3) fun r6 S6 => if r3 = r6 then (nm (i + (6 : Int32)) fun i2 => b_law L xs fu i2 S6) else none) else if x = (18 : Int32) then ((ix (i + (1 : Int32)) L).bind fun j1 => (ix (i + (2 : Int32)) L).bind fun j2 => bd (f_X9_strongest 0 (xs j1) (xs j2) S) fun r3 S3 => (ix (i + (1 : Int32)) L).bind fun j4 => (ix (i + (2 : Int32)) L).bind fun j5 => bd (f_X10_strongest 140 (xs j4) (xs j5) S3) fun r6 S6 => if r3 = r6 then (nm (i + (6 : Int32)) fun i2 => b_law L xs fu i2 S6) else none) else if x = (19 : Int32) then ((ix (i + (1 : Int32)) L).bind fun j1 => bd (f_X9_again 0 (xs j1) S) fun r2 S2 => (ix (i + (1 : Int32)) L).bind fun j3 => bd (f_X10_again 140 (xs j3) S2) fun r4 S4 => if r2 = r4 then (nm (i + (6 : Int32)) fun i2 => b_law L xs fu i2 S4) else none) else if x = (20 : Int32) then ((ix (i + (1 : Int32)) L).bind fun j1 => (ix (i + (2 : Int32)) L).bind fun j2 => (ix (i + (3 : Int32)) L).bind fun j3 => bd (f_X9_passing 0 (xs j1) (xs j2) (xs j3) S) fun r4 S4 => (ix (i + (1 : Int32)) L).bind fun j5 => (ix (i + (2 : Int32)) L).bind fun j6 => (ix (i + (3 : Int32)) L).bind fun j7 => bd (f_X10_passing 140 (xs j5) (xs j6) (xs j7) S4) fun r8 S8 => if r4 = r8 then (nm (i + (6 : Int32)) fun i2 => b_law L xs fu i2 S8) else none) else if x = (21 : Int32) then ((ix (i + (1 : Int32)) L).bind fun j1 => bd (f_X9_even 0 (xs j1) S) fun r2 S2 => (ix (i + (1 : Int32)) L).bind fun j3 => bd (f_X10_even 140 (xs j3) S2) fun r4 S4 => if r2 = r4 then (nm (i + (6 : Int32)) fun i2 => b_law L xs fu i2 S4) else none) else if x = (22 : Int32) then ((ix (i + (1 : Int32)) L).bind fun j1 => bd (f_X9_market 0 (xs j1) S) fun r2 S2 => (ix (i + (1 : Int32)) L).bind fun j3 => bd (f_X10_market 140 (xs j3) S2) fun r4 S4 => if r2 = r4 then (nm (i + (6 : Int32)) fun i2 => b_law L xs fu i2 S4) else none) else if x = (23 : Int32) then ((ix (i + (1 : Int32)) L).bind fun j1 => (ix (i + (2 : Int32)) L).bind fun j2 => bd (f_X9_nothing 0 (xs j1) (xs j2) S) fun r3 S3 => (ix (i + (1 : Int32)) L).bind fun j4 => (ix (i + (2 : Int32)) L).bind fun j5 => bd (f_X10_nothing 140 (xs j4) (xs j5) S3) fun r6 S6 => if r3 = r6 then (nm (i + (6 : Int32)) fun i2 => b_law L xs fu i2 S6) else none) else if x = (24 : Int32) then ((ix (i + (1 : Int32)) L).bind fun j1 => (ix (i + (2 : Int32)) L).bind fun j2 => bd (f_X9_safe 0 (xs j1) (xs j2) S) fun r3 S3 => (ix (i + (1 : Int32)) L).bind fun j4 => (ix (i + (2 : Int32)) L).bind fun j5 => bd (f_X10_safe 140 (xs j4) (xs j5) S3) fun r6 S6 => if r3 = r6 then (nm (i + (6 : Int32)) fun i2 => b_law L xs fu i2 S6) else none) else if x = (25 : Int32) then (bd (f_X9_cutBest 0 S) fun r1 S1 => bd (f_X10_cutBest 140 S1) fun r2 S2 => if r1 = r2 then (nm (i + (6 : Int32)) fun i2 => b_law L xs fu i2 S2) else none) else if x = (26 : Int32) then ((ix (i + (1 : Int32)) L).bind fun j1 => bd (f_X9_worth 0 (xs j1) S) fun r2 S2 => (ix (i + (1 : Int32)) L).bind fun j3 => bd (f_X10_worth 140 (xs j3) S2) fun r4 S4 => if r2 = r4 then (nm (i + (6 : Int32)) fun i2 => b_law L xs fu i2 S4) else none) else if x = (27 : Int32) then ((ix (i + (1 : Int32)) L).bind fun j1 => bd (f_X9_give 0 (xs j1) S) fun r2 S2 => (ix (i + (1 : Int32)) L).bind fun j3 => bd (f_X10_give 140 (xs j3) S2) fun r4 S4 => if r2 = r4 then (nm (i + (6 : Int32)) fun i2 => b_law L xs fu i2 S4) else none) else if x = (28 : Int32) then ((ix (i + (1 : Int32)) L).bind fun j1 => (ix (i + (2 : Int32)) L).bind fun j2 => (ix (i + (3 : Int32)) L).bind fun j3 => bd (f_X9_year 0 (xs j1) (xs j2) (xs j3) S) fun r4 S4 => (ix (i + (1 : Int32)) L).bind fun j5 => (ix (i + (2 : Int32)) L).bind fun j6 => (ix (i + (3 : Int32)) L).bind fun j7 => bd (f_X10_year 140 (xs j5) (xs j6) (xs j7) S4) fun r8 S8 => if r4 = r8 then (nm (i + (6 : Int32)) fun i2 => b_law L xs fu i2 S8) else none) else if x = (29 : Int32) then ((ix (i + (1 : Int32)) L).bind fun j1 => (ix (i + (2 : Int32)) L).bind fun j2 => (ix (i + (3 : Int32)) L).bind fun j3 => (ix (i + (4 : Int32)) L).bind fun j4 => bd (f_X9_tell 0 (xs j1) (xs j2) (xs j3) (xs j4) S) fun r5 S5 => (ix (i + (1 : Int32)) L).bind fun j6 => (ix (i + (2 : Int32)) L).bind fun j7 => (ix (i + (3 : Int32)) L).bind fun j8 => (ix (i + (4 : Int32)) L).bind fun j9 => bd (f_X10_tell 140 (xs j6) (xs j7) (xs j8) (xs j9) S5) fun r10 S10 => if r5 = r10 then (nm (i + (6 : Int32)) fun i2 => b_law L xs fu i2 S10) else none) else if x = (30 : Int32) then (bd (f_X9_forget 0 S) fun r1 S1 => bd (f_X10_forget 140 S1) fun r2 S2 => if r1 = r2 then (nm (i + (6 : Int32)) fun i2 => b_law L xs fu i2 S2) else none) else if x = (31 : Int32) then ((ix (i + (1 : Int32)) L).bind fun j1 => bd (f_X9_where 0 (xs j1) S) fun r2 S2 => (ix (i + (1 : Int32)) L).bind fun j3 => bd (f_X10_where 140 (xs j3) S2) fun r4 S4 => if r2 = r4 then (nm (i + (6 : Int32)) fun i2 => b_law L xs fu i2 S4) else none) else if x = (32 : Int32) then ((ix (i + (1 : Int32)) L).bind fun j1 => bd (f_X9_surest 0 (xs j1) S) fun r2 S2 => (ix (i + (1 : Int32)) L).bind fun j3 => bd (f_X10_surest 140 (xs j3) S2) fun r4 S4 => if r2 = r4 then (nm (i + (6 : Int32)) fun i2 => b_law L xs fu i2 S4) else none) else if x = (33 : Int32) then ((ix (i + (1 : Int32)) L).bind fun j1 => bd (f_X9_holdNext 0 (xs j1) S) fun r2 S2 => (ix (i + (1 : Int32)) L).bind fun j3 => bd (f_X10_holdNext 140 (xs j3) S2) fun r4 S4 => if r2 = r4 then (nm (i + (6 : Int32)) fun i2 => b_law L xs fu i2 S4) else none) else if x = (34 : Int32) then ((ix (i + (1 : Int32)) L).bind fun j1 => bd (f_X9_hold 0 (xs j1) S) fun r2 S2 => (ix (i + (1 : Int32)) L).bind fun j3 => bd (f_X10_hold 140 (xs j3) S2) fun r4 S4 => if r2 = r4 then (nm (i + (6 : Int32)) fun i2 => b_law L xs fu i2 S4) else none) else if x = (35 : Int32) then ((ix (i + (1 : Int32)) L).bind fun j1 => bd (f_X9_restore 0 (xs j1) S) fun r2 S2 => (ix (i + (1 : Int32)) L).bind fun j3 => bd (f_X10_restore 140 (xs j3) S2) fun r4 S4 => if r2 = r4 then (nm (i + (6 : Int32)) fun i2 => b_law L xs fu i2 S4) else none) else if x = (36 : Int32) then ((ix (i + (1 : Int32)) L).bind fun j1 => bd (f_X9_count 0 (xs j1) S) fun r2 S2 => (ix (i + (1 : Int32)) L).bind fun j3 => bd (f_X10_count 140 (xs j3) S2) fun r4 S4 => if r2 = r4 then (nm (i + (6 : Int32)) fun i2 => b_law L xs fu i2 S4) else none) else (nm (i + (6 : Int32)) fun i2 => b_law L xs fu i2 S))
set_option maxRecDepth 20000 in
set_option maxHeartbeats 8000000 in
theorem t_law_18 {K : KK} (X : CX K cL_law 4 RL ret) (hR : kR K = room_1) (hA : kar K = #[Value.ref (kK K 40)]) (hS0 : (ks K).heap.size = kB K) (hD : kDn K = DA) {L : Nat} {xs : Nat → Int32} (hX : XA K L xs) : ∀ (fu : Nat) (i : Int32) (S : St), WT (kDn K) S.2.2 → JX K (Zl K) 18 [some (.retAddr 40), some (.ref 0), some (.ref 140), some (.int i)] [] (rwN (kN K) S) (kn K) 187 18397 (b_law L xs fu i S) := by
  intro fu
  induction fu with
  | zero => intro i S w; exact J_none
  | succ fu ih =>
    intro i S w
    rw [b_law]
    refine J_iload_n X dL_law_18 (i := 3) rfl rfl ?_
    refine Z_aload_n X dL_law_19 (i := 0) rfl rfl ?_
    refine Z_slen X hX dL_law_20 ?_
    refine J_bipush X (v := (6 : Int32)) dL_law_21 (by decide) ?_
    refine J_isub X dL_law_23 ?_
    refine J_icmp_gt X (tgt := 1283) dL_law_24 (by decide) ?_ ?_
    · refine J_iconst X (v := (1 : Int32)) dL_law_1283 (by decide) ?_
      exact L_ret X hR hA hS0 dL_law_1284
    · refine Z_aload_n X dL_law_27 (i := 0) rfl rfl ?_
      refine J_iload_n X dL_law_28 (i := 3) rfl rfl ?_
      refine Z_sld X hX dL_law_29 (fun j0 => ?_)
      refine J_bipush X (v := (63 : Int32)) dL_law_30 (by decide) ?_
      refine J_iand X dL_law_32 ?_
      refine J_nmi (fun x => ?_)
      refine J_ite (fun h0 => ?_) (fun h0 => ?_)
      · refine J_tabIn X (v := (0 : Int32)) (off := 163) (tgt := 196) h0 dL_law_33 (by decide) (by decide) (by decide) (by decide) ?_
        refine J_aload_n X dL_law_196 (i := 1) rfl rfl ?_
        refine Z_aload_n X dL_law_197 (i := 0) rfl rfl ?_
        refine J_iload_n X dL_law_198 (i := 3) rfl rfl ?_
        refine J_iconst X (v := (1 : Int32)) dL_law_199 (by decide) ?_
        refine J_iadd X dL_law_200 ?_
        refine Z_sld X hX dL_law_201 (fun j1 => ?_)
        refine Z_aload_n X dL_law_202 (i := 0) rfl rfl ?_
        refine J_iload_n X dL_law_203 (i := 3) rfl rfl ?_
        refine J_iconst X (v := (2 : Int32)) dL_law_204 (by decide) ?_
        refine J_iadd X dL_law_205 ?_
        refine Z_sld X hX dL_law_206 (fun j2 => ?_)
        refine Z_aload_n X dL_law_207 (i := 0) rfl rfl ?_
        refine J_iload_n X dL_law_208 (i := 3) rfl rfl ?_
        refine J_iconst X (v := (3 : Int32)) dL_law_209 (by decide) ?_
        refine J_iadd X dL_law_210 ?_
        refine Z_sld X hX dL_law_211 (fun j3 => ?_)
        refine Z_aload_n X dL_law_212 (i := 0) rfl rfl ?_
        refine J_iload_n X dL_law_213 (i := 3) rfl rfl ?_
        refine J_iconst X (v := (4 : Int32)) dL_law_214 (by decide) ?_
        refine J_iadd X dL_law_215 ?_
        refine Z_sld X hX dL_law_216 (fun j4 => ?_)
        refine Z_aload_n X dL_law_217 (i := 0) rfl rfl ?_
        refine J_iload_n X dL_law_218 (i := 3) rfl rfl ?_
        refine J_iconst X (v := (5 : Int32)) dL_law_219 (by decide) ?_
        refine J_iadd X dL_law_220 ?_
        refine Z_sld X hX dL_law_221 (fun j5 => ?_)
        refine T_callVk (As := [.int (xs j1), .int (xs j2), .int (xs j3), .int (xs j4), .int (xs j5)]) w X (C_X9_feed (kG K) 0 (hD0 hD) (xs j1) (xs j2) (xs j3) (xs j4) (xs j5) S) cb9 (hD0 hD) ml_L_13 in_yX9_feed se_yX9_feed ii_RX9 co_yX9_feed hy_X9_feed (hRl hR (by decide) (by decide)) rfl (hkl hR) (Nat.le_of_ble_eq_true rfl) dL_law_222 (fun r6 S6 _ wS6 => ?_)
        refine J_aload_n X dL_law_225 (i := 2) rfl rfl ?_
        refine Z_aload_n X dL_law_226 (i := 0) rfl rfl ?_
        refine J_iload_n X dL_law_227 (i := 3) rfl rfl ?_
        refine J_iconst X (v := (1 : Int32)) dL_law_228 (by decide) ?_
        refine J_iadd X dL_law_229 ?_
        refine Z_sld X hX dL_law_230 (fun j7 => ?_)
        refine Z_aload_n X dL_law_231 (i := 0) rfl rfl ?_
        refine J_iload_n X dL_law_232 (i := 3) rfl rfl ?_
        refine J_iconst X (v := (2 : Int32)) dL_law_233 (by decide) ?_
        refine J_iadd X dL_law_234 ?_
        refine Z_sld X hX dL_law_235 (fun j8 => ?_)
        refine Z_aload_n X dL_law_236 (i := 0) rfl rfl ?_
        refine J_iload_n X dL_law_237 (i := 3) rfl rfl ?_
        refine J_iconst X (v := (3 : Int32)) dL_law_238 (by decide) ?_
        refine J_iadd X dL_law_239 ?_
        refine Z_sld X hX dL_law_240 (fun j9 => ?_)
        refine Z_aload_n X dL_law_241 (i := 0) rfl rfl ?_
        refine J_iload_n X dL_law_242 (i := 3) rfl rfl ?_
        refine J_iconst X (v := (4 : Int32)) dL_law_243 (by decide) ?_
        refine J_iadd X dL_law_244 ?_
        refine Z_sld X hX dL_law_245 (fun j10 => ?_)
        refine Z_aload_n X dL_law_246 (i := 0) rfl rfl ?_
        refine J_iload_n X dL_law_247 (i := 3) rfl rfl ?_
        refine J_iconst X (v := (5 : Int32)) dL_law_248 (by decide) ?_
        refine J_iadd X dL_law_249 ?_
        refine Z_sld X hX dL_law_250 (fun j11 => ?_)
        refine T_callVk (As := [.int (xs j7), .int (xs j8), .int (xs j9), .int (xs j10), .int (xs j11)]) wS6 X (C_X10_feed (kG K) 140 (hD140 hD) (xs j7) (xs j8) (xs j9) (xs j10) (xs j11) S6) cb10 (hD140 hD) ml_L_17 in_yX10_feed se_yX10_feed ii_RX10 co_yX10_feed hy_X10_feed (hRl hR (by decide) (by decide)) rfl (hkl hR) (Nat.le_of_ble_eq_true rfl) dL_law_251 (fun r12 S12 _ wS12 => ?_)
        refine J_icmp_eq X (tgt := 1277) dL_law_254 (by decide) ?_ J_none
        refine J_nmv (i + (6 : Int32)) (fun i2 ei2 => ?_)
        refine J_iinc X (v := i2) (ls' := [some (.retAddr 40), some (.ref 0), some (.ref 140), some (.int i2)]) dL_law_1277 (by decide) rfl (by rw [ei2]; rfl) rfl ?_
        refine J_goto X (tgt := 18) dL_law_1280 (by decide) ?_
        exact ih i2 S12 wS12
      refine J_ite (fun h1 => ?_) (fun h1 => ?_)
      · refine J_tabIn X (v := (1 : Int32)) (off := 226) (tgt := 259) h1 dL_law_33 (by decide) (by decide) (by decide) (by decide) ?_
        refine J_aload_n X dL_law_259 (i := 1) rfl rfl ?_
        refine Z_aload_n X dL_law_260 (i := 0) rfl rfl ?_
        refine J_iload_n X dL_law_261 (i := 3) rfl rfl ?_
        refine J_iconst X (v := (1 : Int32)) dL_law_262 (by decide) ?_
        refine J_iadd X dL_law_263 ?_
        refine Z_sld X hX dL_law_264 (fun j1 => ?_)
        refine T_callVk (As := [.int (xs j1)]) w X (C_X9_back (kG K) 0 (hD0 hD) (xs j1) S) cb9 (hD0 hD) ml_L_18 in_yX9_back se_yX9_back ii_RX9 co_yX9_back hy_X9_back (hRl hR (by decide) (by decide)) rfl (hkl hR) (Nat.le_of_ble_eq_true rfl) dL_law_265 (fun r2 S2 _ wS2 => ?_)
        refine J_aload_n X dL_law_268 (i := 2) rfl rfl ?_
        refine Z_aload_n X dL_law_269 (i := 0) rfl rfl ?_
        refine J_iload_n X dL_law_270 (i := 3) rfl rfl ?_
        refine J_iconst X (v := (1 : Int32)) dL_law_271 (by decide) ?_
        refine J_iadd X dL_law_272 ?_
        refine Z_sld X hX dL_law_273 (fun j3 => ?_)
        refine T_callVk (As := [.int (xs j3)]) wS2 X (C_X10_back (kG K) 140 (hD140 hD) (xs j3) S2) cb10 (hD140 hD) ml_L_22 in_yX10_back se_yX10_back ii_RX10 co_yX10_back hy_X10_back (hRl hR (by decide) (by decide)) rfl (hkl hR) (Nat.le_of_ble_eq_true rfl) dL_law_274 (fun r4 S4 _ wS4 => ?_)
        refine J_icmp_eq X (tgt := 1277) dL_law_277 (by decide) ?_ J_none
        refine J_nmv (i + (6 : Int32)) (fun i2 ei2 => ?_)
        refine J_iinc X (v := i2) (ls' := [some (.retAddr 40), some (.ref 0), some (.ref 140), some (.int i2)]) dL_law_1277 (by decide) rfl (by rw [ei2]; rfl) rfl ?_
        refine J_goto X (tgt := 18) dL_law_1280 (by decide) ?_
        exact ih i2 S4 wS4
      refine J_ite (fun h2 => ?_) (fun h2 => ?_)
      · refine J_tabIn X (v := (2 : Int32)) (off := 249) (tgt := 282) h2 dL_law_33 (by decide) (by decide) (by decide) (by decide) ?_
        refine J_aload_n X dL_law_282 (i := 1) rfl rfl ?_
        refine T_callVk (As := []) w X (C_X9_read (kG K) 0 (hD0 hD) S) cb9 (hD0 hD) ml_L_23 in_yX9_read se_yX9_read ii_RX9 co_yX9_read hy_X9_read (hRl hR (by decide) (by decide)) rfl (hkl hR) (Nat.le_of_ble_eq_true rfl) dL_law_283 (fun r1 S1 _ wS1 => ?_)
        refine J_aload_n X dL_law_286 (i := 2) rfl rfl ?_
        refine T_callVk (As := []) wS1 X (C_X10_read (kG K) 140 (hD140 hD) S1) cb10 (hD140 hD) ml_L_27 in_yX10_read se_yX10_read ii_RX10 co_yX10_read hy_X10_read (hRl hR (by decide) (by decide)) rfl (hkl hR) (Nat.le_of_ble_eq_true rfl) dL_law_287 (fun r2 S2 _ wS2 => ?_)
        refine J_icmp_eq X (tgt := 1277) dL_law_290 (by decide) ?_ J_none
        refine J_nmv (i + (6 : Int32)) (fun i2 ei2 => ?_)
        refine J_iinc X (v := i2) (ls' := [some (.retAddr 40), some (.ref 0), some (.ref 140), some (.int i2)]) dL_law_1277 (by decide) rfl (by rw [ei2]; rfl) rfl ?_
        refine J_goto X (tgt := 18) dL_law_1280 (by decide) ?_
        exact ih i2 S2 wS2
      refine J_ite (fun h3 => ?_) (fun h3 => ?_)
      · refine J_tabIn X (v := (3 : Int32)) (off := 262) (tgt := 295) h3 dL_law_33 (by decide) (by decide) (by decide) (by decide) ?_
        refine J_aload_n X dL_law_295 (i := 1) rfl rfl ?_
        refine T_callVk (As := []) w X (C_X9_place (kG K) 0 (hD0 hD) S) cb9 (hD0 hD) ml_L_28 in_yX9_place se_yX9_place ii_RX9 co_yX9_place hy_X9_place (hRl hR (by decide) (by decide)) rfl (hkl hR) (Nat.le_of_ble_eq_true rfl) dL_law_296 (fun r1 S1 _ wS1 => ?_)
        refine J_aload_n X dL_law_299 (i := 2) rfl rfl ?_
        refine T_callVk (As := []) wS1 X (C_X10_place (kG K) 140 (hD140 hD) S1) cb10 (hD140 hD) ml_L_31 in_yX10_place se_yX10_place ii_RX10 co_yX10_place hy_X10_place (hRl hR (by decide) (by decide)) rfl (hkl hR) (Nat.le_of_ble_eq_true rfl) dL_law_300 (fun r2 S2 _ wS2 => ?_)
        refine J_icmp_eq X (tgt := 1277) dL_law_303 (by decide) ?_ J_none
        refine J_nmv (i + (6 : Int32)) (fun i2 ei2 => ?_)
        refine J_iinc X (v := i2) (ls' := [some (.retAddr 40), some (.ref 0), some (.ref 140), some (.int i2)]) dL_law_1277 (by decide) rfl (by rw [ei2]; rfl) rfl ?_
        refine J_goto X (tgt := 18) dL_law_1280 (by decide) ?_
        exact ih i2 S2 wS2
      refine J_ite (fun h4 => ?_) (fun h4 => ?_)
      · refine J_tabIn X (v := (4 : Int32)) (off := 275) (tgt := 308) h4 dL_law_33 (by decide) (by decide) (by decide) (by decide) ?_
        refine J_aload_n X dL_law_308 (i := 1) rfl rfl ?_
        refine Z_aload_n X dL_law_309 (i := 0) rfl rfl ?_
        refine J_iload_n X dL_law_310 (i := 3) rfl rfl ?_
        refine J_iconst X (v := (1 : Int32)) dL_law_311 (by decide) ?_
        refine J_iadd X dL_law_312 ?_
        refine Z_sld X hX dL_law_313 (fun j1 => ?_)
        refine Z_aload_n X dL_law_314 (i := 0) rfl rfl ?_
        refine J_iload_n X dL_law_315 (i := 3) rfl rfl ?_
        refine J_iconst X (v := (2 : Int32)) dL_law_316 (by decide) ?_
        refine J_iadd X dL_law_317 ?_
        refine Z_sld X hX dL_law_318 (fun j2 => ?_)
        refine T_callVk (As := [.int (xs j1), .int (xs j2)]) w X (C_X9_mermaid (kG K) 0 (hD0 hD) (xs j1) (xs j2) S) cb9 (hD0 hD) ml_L_32 in_yX9_mermaid se_yX9_mermaid ii_RX9 co_yX9_mermaid hy_X9_mermaid (hRl hR (by decide) (by decide)) rfl (hkl hR) (Nat.le_of_ble_eq_true rfl) dL_law_319 (fun r3 S3 _ wS3 => ?_)
        refine J_aload_n X dL_law_322 (i := 2) rfl rfl ?_
        refine Z_aload_n X dL_law_323 (i := 0) rfl rfl ?_
        refine J_iload_n X dL_law_324 (i := 3) rfl rfl ?_
        refine J_iconst X (v := (1 : Int32)) dL_law_325 (by decide) ?_
        refine J_iadd X dL_law_326 ?_
        refine Z_sld X hX dL_law_327 (fun j4 => ?_)
        refine Z_aload_n X dL_law_328 (i := 0) rfl rfl ?_
        refine J_iload_n X dL_law_329 (i := 3) rfl rfl ?_
        refine J_iconst X (v := (2 : Int32)) dL_law_330 (by decide) ?_
        refine J_iadd X dL_law_331 ?_
        refine Z_sld X hX dL_law_332 (fun j5 => ?_)
        refine T_callVk (As := [.int (xs j4), .int (xs j5)]) wS3 X (C_X10_mermaid (kG K) 140 (hD140 hD) (xs j4) (xs j5) S3) cb10 (hD140 hD) ml_L_36 in_yX10_mermaid se_yX10_mermaid ii_RX10 co_yX10_mermaid hy_X10_mermaid (hRl hR (by decide) (by decide)) rfl (hkl hR) (Nat.le_of_ble_eq_true rfl) dL_law_333 (fun r6 S6 _ wS6 => ?_)
        refine J_icmp_eq X (tgt := 1277) dL_law_336 (by decide) ?_ J_none
        refine J_nmv (i + (6 : Int32)) (fun i2 ei2 => ?_)
        refine J_iinc X (v := i2) (ls' := [some (.retAddr 40), some (.ref 0), some (.ref 140), some (.int i2)]) dL_law_1277 (by decide) rfl (by rw [ei2]; rfl) rfl ?_
        refine J_goto X (tgt := 18) dL_law_1280 (by decide) ?_
        exact ih i2 S6 wS6
      refine J_ite (fun h5 => ?_) (fun h5 => ?_)
      · refine J_tabIn X (v := (5 : Int32)) (off := 308) (tgt := 341) h5 dL_law_33 (by decide) (by decide) (by decide) (by decide) ?_
        refine J_aload_n X dL_law_341 (i := 1) rfl rfl ?_
        refine Z_aload_n X dL_law_342 (i := 0) rfl rfl ?_
        refine J_iload_n X dL_law_343 (i := 3) rfl rfl ?_
        refine J_iconst X (v := (1 : Int32)) dL_law_344 (by decide) ?_
        refine J_iadd X dL_law_345 ?_
        refine Z_sld X hX dL_law_346 (fun j1 => ?_)
        refine Z_aload_n X dL_law_347 (i := 0) rfl rfl ?_
        refine J_iload_n X dL_law_348 (i := 3) rfl rfl ?_
        refine J_iconst X (v := (2 : Int32)) dL_law_349 (by decide) ?_
        refine J_iadd X dL_law_350 ?_
        refine Z_sld X hX dL_law_351 (fun j2 => ?_)
        refine T_callVk (As := [.int (xs j1), .int (xs j2)]) w X (C_X9_person (kG K) 0 (hD0 hD) (xs j1) (xs j2) S) cb9 (hD0 hD) ml_L_37 in_yX9_person se_yX9_person ii_RX9 co_yX9_person hy_X9_person (hRl hR (by decide) (by decide)) rfl (hkl hR) (Nat.le_of_ble_eq_true rfl) dL_law_352 (fun r3 S3 _ wS3 => ?_)
        refine J_aload_n X dL_law_355 (i := 2) rfl rfl ?_
        refine Z_aload_n X dL_law_356 (i := 0) rfl rfl ?_
        refine J_iload_n X dL_law_357 (i := 3) rfl rfl ?_
        refine J_iconst X (v := (1 : Int32)) dL_law_358 (by decide) ?_
        refine J_iadd X dL_law_359 ?_
        refine Z_sld X hX dL_law_360 (fun j4 => ?_)
        refine Z_aload_n X dL_law_361 (i := 0) rfl rfl ?_
        refine J_iload_n X dL_law_362 (i := 3) rfl rfl ?_
        refine J_iconst X (v := (2 : Int32)) dL_law_363 (by decide) ?_
        refine J_iadd X dL_law_364 ?_
        refine Z_sld X hX dL_law_365 (fun j5 => ?_)
        refine T_callVk (As := [.int (xs j4), .int (xs j5)]) wS3 X (C_X10_person (kG K) 140 (hD140 hD) (xs j4) (xs j5) S3) cb10 (hD140 hD) ml_L_40 in_yX10_person se_yX10_person ii_RX10 co_yX10_person hy_X10_person (hRl hR (by decide) (by decide)) rfl (hkl hR) (Nat.le_of_ble_eq_true rfl) dL_law_366 (fun r6 S6 _ wS6 => ?_)
        refine J_icmp_eq X (tgt := 1277) dL_law_369 (by decide) ?_ J_none
        refine J_nmv (i + (6 : Int32)) (fun i2 ei2 => ?_)
        refine J_iinc X (v := i2) (ls' := [some (.retAddr 40), some (.ref 0), some (.ref 140), some (.int i2)]) dL_law_1277 (by decide) rfl (by rw [ei2]; rfl) rfl ?_
        refine J_goto X (tgt := 18) dL_law_1280 (by decide) ?_
        exact ih i2 S6 wS6
      refine J_ite (fun h6 => ?_) (fun h6 => ?_)
      · refine J_tabIn X (v := (6 : Int32)) (off := 341) (tgt := 374) h6 dL_law_33 (by decide) (by decide) (by decide) (by decide) ?_
        refine J_aload_n X dL_law_374 (i := 1) rfl rfl ?_
        refine Z_aload_n X dL_law_375 (i := 0) rfl rfl ?_
        refine J_iload_n X dL_law_376 (i := 3) rfl rfl ?_
        refine J_iconst X (v := (1 : Int32)) dL_law_377 (by decide) ?_
        refine J_iadd X dL_law_378 ?_
        refine Z_sld X hX dL_law_379 (fun j1 => ?_)
        refine Z_aload_n X dL_law_380 (i := 0) rfl rfl ?_
        refine J_iload_n X dL_law_381 (i := 3) rfl rfl ?_
        refine J_iconst X (v := (2 : Int32)) dL_law_382 (by decide) ?_
        refine J_iadd X dL_law_383 ?_
        refine Z_sld X hX dL_law_384 (fun j2 => ?_)
        refine T_callVk (As := [.int (xs j1), .int (xs j2)]) w X (C_X9_strand (kG K) 0 (hD0 hD) (xs j1) (xs j2) S) cb9 (hD0 hD) ml_L_41 in_yX9_strand se_yX9_strand ii_RX9 co_yX9_strand hy_X9_strand (hRl hR (by decide) (by decide)) rfl (hkl hR) (Nat.le_of_ble_eq_true rfl) dL_law_385 (fun r3 S3 _ wS3 => ?_)
        refine J_aload_n X dL_law_388 (i := 2) rfl rfl ?_
        refine Z_aload_n X dL_law_389 (i := 0) rfl rfl ?_
        refine J_iload_n X dL_law_390 (i := 3) rfl rfl ?_
        refine J_iconst X (v := (1 : Int32)) dL_law_391 (by decide) ?_
        refine J_iadd X dL_law_392 ?_
        refine Z_sld X hX dL_law_393 (fun j4 => ?_)
        refine Z_aload_n X dL_law_394 (i := 0) rfl rfl ?_
        refine J_iload_n X dL_law_395 (i := 3) rfl rfl ?_
        refine J_iconst X (v := (2 : Int32)) dL_law_396 (by decide) ?_
        refine J_iadd X dL_law_397 ?_
        refine Z_sld X hX dL_law_398 (fun j5 => ?_)
        refine T_callVk (As := [.int (xs j4), .int (xs j5)]) wS3 X (C_X10_strand (kG K) 140 (hD140 hD) (xs j4) (xs j5) S3) cb10 (hD140 hD) ml_L_44 in_yX10_strand se_yX10_strand ii_RX10 co_yX10_strand hy_X10_strand (hRl hR (by decide) (by decide)) rfl (hkl hR) (Nat.le_of_ble_eq_true rfl) dL_law_399 (fun r6 S6 _ wS6 => ?_)
        refine J_icmp_eq X (tgt := 1277) dL_law_402 (by decide) ?_ J_none
        refine J_nmv (i + (6 : Int32)) (fun i2 ei2 => ?_)
        refine J_iinc X (v := i2) (ls' := [some (.retAddr 40), some (.ref 0), some (.ref 140), some (.int i2)]) dL_law_1277 (by decide) rfl (by rw [ei2]; rfl) rfl ?_
        refine J_goto X (tgt := 18) dL_law_1280 (by decide) ?_
        exact ih i2 S6 wS6
      refine J_ite (fun h7 => ?_) (fun h7 => ?_)
      · refine J_tabIn X (v := (7 : Int32)) (off := 374) (tgt := 407) h7 dL_law_33 (by decide) (by decide) (by decide) (by decide) ?_
        refine J_aload_n X dL_law_407 (i := 1) rfl rfl ?_
        refine Z_aload_n X dL_law_408 (i := 0) rfl rfl ?_
        refine J_iload_n X dL_law_409 (i := 3) rfl rfl ?_
        refine J_iconst X (v := (1 : Int32)) dL_law_410 (by decide) ?_
        refine J_iadd X dL_law_411 ?_
        refine Z_sld X hX dL_law_412 (fun j1 => ?_)
        refine Z_aload_n X dL_law_413 (i := 0) rfl rfl ?_
        refine J_iload_n X dL_law_414 (i := 3) rfl rfl ?_
        refine J_iconst X (v := (2 : Int32)) dL_law_415 (by decide) ?_
        refine J_iadd X dL_law_416 ?_
        refine Z_sld X hX dL_law_417 (fun j2 => ?_)
        refine T_callVk (As := [.int (xs j1), .int (xs j2)]) w X (C_X9_hand (kG K) 0 (hD0 hD) (xs j1) (xs j2) S) cb9 (hD0 hD) ml_L_45 in_yX9_hand se_yX9_hand ii_RX9 co_yX9_hand hy_X9_hand (hRl hR (by decide) (by decide)) rfl (hkl hR) (Nat.le_of_ble_eq_true rfl) dL_law_418 (fun r3 S3 _ wS3 => ?_)
        refine J_aload_n X dL_law_421 (i := 2) rfl rfl ?_
        refine Z_aload_n X dL_law_422 (i := 0) rfl rfl ?_
        refine J_iload_n X dL_law_423 (i := 3) rfl rfl ?_
        refine J_iconst X (v := (1 : Int32)) dL_law_424 (by decide) ?_
        refine J_iadd X dL_law_425 ?_
        refine Z_sld X hX dL_law_426 (fun j4 => ?_)
        refine Z_aload_n X dL_law_427 (i := 0) rfl rfl ?_
        refine J_iload_n X dL_law_428 (i := 3) rfl rfl ?_
        refine J_iconst X (v := (2 : Int32)) dL_law_429 (by decide) ?_
        refine J_iadd X dL_law_430 ?_
        refine Z_sld X hX dL_law_431 (fun j5 => ?_)
        refine T_callVk (As := [.int (xs j4), .int (xs j5)]) wS3 X (C_X10_hand (kG K) 140 (hD140 hD) (xs j4) (xs j5) S3) cb10 (hD140 hD) ml_L_49 in_yX10_hand se_yX10_hand ii_RX10 co_yX10_hand hy_X10_hand (hRl hR (by decide) (by decide)) rfl (hkl hR) (Nat.le_of_ble_eq_true rfl) dL_law_432 (fun r6 S6 _ wS6 => ?_)
        refine J_icmp_eq X (tgt := 1277) dL_law_435 (by decide) ?_ J_none
        refine J_nmv (i + (6 : Int32)) (fun i2 ei2 => ?_)
        refine J_iinc X (v := i2) (ls' := [some (.retAddr 40), some (.ref 0), some (.ref 140), some (.int i2)]) dL_law_1277 (by decide) rfl (by rw [ei2]; rfl) rfl ?_
        refine J_goto X (tgt := 18) dL_law_1280 (by decide) ?_
        exact ih i2 S6 wS6
      refine J_ite (fun h8 => ?_) (fun h8 => ?_)
      · refine J_tabIn X (v := (8 : Int32)) (off := 407) (tgt := 440) h8 dL_law_33 (by decide) (by decide) (by decide) (by decide) ?_
        refine J_aload_n X dL_law_440 (i := 1) rfl rfl ?_
        refine Z_aload_n X dL_law_441 (i := 0) rfl rfl ?_
        refine J_iload_n X dL_law_442 (i := 3) rfl rfl ?_
        refine J_iconst X (v := (1 : Int32)) dL_law_443 (by decide) ?_
        refine J_iadd X dL_law_444 ?_
        refine Z_sld X hX dL_law_445 (fun j1 => ?_)
        refine T_callVk (As := [.int (xs j1)]) w X (C_X9_cut (kG K) 0 (hD0 hD) (xs j1) S) cb9 (hD0 hD) ml_L_50 in_yX9_cut se_yX9_cut ii_RX9 co_yX9_cut hy_X9_cut (hRl hR (by decide) (by decide)) rfl (hkl hR) (Nat.le_of_ble_eq_true rfl) dL_law_446 (fun r2 S2 _ wS2 => ?_)
        refine J_aload_n X dL_law_449 (i := 2) rfl rfl ?_
        refine Z_aload_n X dL_law_450 (i := 0) rfl rfl ?_
        refine J_iload_n X dL_law_451 (i := 3) rfl rfl ?_
        refine J_iconst X (v := (1 : Int32)) dL_law_452 (by decide) ?_
        refine J_iadd X dL_law_453 ?_
        refine Z_sld X hX dL_law_454 (fun j3 => ?_)
        refine T_callVk (As := [.int (xs j3)]) wS2 X (C_X10_cut (kG K) 140 (hD140 hD) (xs j3) S2) cb10 (hD140 hD) ml_L_54 in_yX10_cut se_yX10_cut ii_RX10 co_yX10_cut hy_X10_cut (hRl hR (by decide) (by decide)) rfl (hkl hR) (Nat.le_of_ble_eq_true rfl) dL_law_455 (fun r4 S4 _ wS4 => ?_)
        refine J_icmp_eq X (tgt := 1277) dL_law_458 (by decide) ?_ J_none
        refine J_nmv (i + (6 : Int32)) (fun i2 ei2 => ?_)
        refine J_iinc X (v := i2) (ls' := [some (.retAddr 40), some (.ref 0), some (.ref 140), some (.int i2)]) dL_law_1277 (by decide) rfl (by rw [ei2]; rfl) rfl ?_
        refine J_goto X (tgt := 18) dL_law_1280 (by decide) ?_
        exact ih i2 S4 wS4
      refine J_ite (fun h9 => ?_) (fun h9 => ?_)
      · refine J_tabIn X (v := (9 : Int32)) (off := 430) (tgt := 463) h9 dL_law_33 (by decide) (by decide) (by decide) (by decide) ?_
        refine J_aload_n X dL_law_463 (i := 1) rfl rfl ?_
        refine Z_aload_n X dL_law_464 (i := 0) rfl rfl ?_
        refine J_iload_n X dL_law_465 (i := 3) rfl rfl ?_
        refine J_iconst X (v := (1 : Int32)) dL_law_466 (by decide) ?_
        refine J_iadd X dL_law_467 ?_
        refine Z_sld X hX dL_law_468 (fun j1 => ?_)
        refine T_callVk (As := [.int (xs j1)]) w X (C_X9_die (kG K) 0 (hD0 hD) (xs j1) S) cb9 (hD0 hD) ml_L_55 in_yX9_die se_yX9_die ii_RX9 co_yX9_die hy_X9_die (hRl hR (by decide) (by decide)) rfl (hkl hR) (Nat.le_of_ble_eq_true rfl) dL_law_469 (fun r2 S2 _ wS2 => ?_)
        refine J_aload_n X dL_law_472 (i := 2) rfl rfl ?_
        refine Z_aload_n X dL_law_473 (i := 0) rfl rfl ?_
        refine J_iload_n X dL_law_474 (i := 3) rfl rfl ?_
        refine J_iconst X (v := (1 : Int32)) dL_law_475 (by decide) ?_
        refine J_iadd X dL_law_476 ?_
        refine Z_sld X hX dL_law_477 (fun j3 => ?_)
        refine T_callVk (As := [.int (xs j3)]) wS2 X (C_X10_die (kG K) 140 (hD140 hD) (xs j3) S2) cb10 (hD140 hD) ml_L_58 in_yX10_die se_yX10_die ii_RX10 co_yX10_die hy_X10_die (hRl hR (by decide) (by decide)) rfl (hkl hR) (Nat.le_of_ble_eq_true rfl) dL_law_478 (fun r4 S4 _ wS4 => ?_)
        refine J_icmp_eq X (tgt := 1277) dL_law_481 (by decide) ?_ J_none
        refine J_nmv (i + (6 : Int32)) (fun i2 ei2 => ?_)
        refine J_iinc X (v := i2) (ls' := [some (.retAddr 40), some (.ref 0), some (.ref 140), some (.int i2)]) dL_law_1277 (by decide) rfl (by rw [ei2]; rfl) rfl ?_
        refine J_goto X (tgt := 18) dL_law_1280 (by decide) ?_
        exact ih i2 S4 wS4
      refine J_ite (fun h10 => ?_) (fun h10 => ?_)
      · refine J_tabIn X (v := (10 : Int32)) (off := 453) (tgt := 486) h10 dL_law_33 (by decide) (by decide) (by decide) (by decide) ?_
        refine J_aload_n X dL_law_486 (i := 1) rfl rfl ?_
        refine Z_aload_n X dL_law_487 (i := 0) rfl rfl ?_
        refine J_iload_n X dL_law_488 (i := 3) rfl rfl ?_
        refine J_iconst X (v := (1 : Int32)) dL_law_489 (by decide) ?_
        refine J_iadd X dL_law_490 ?_
        refine Z_sld X hX dL_law_491 (fun j1 => ?_)
        refine T_callVk (As := [.int (xs j1)]) w X (C_X9_months (kG K) 0 (hD0 hD) (xs j1) S) cb9 (hD0 hD) ml_L_59 in_yX9_months se_yX9_months ii_RX9 co_yX9_months hy_X9_months (hRl hR (by decide) (by decide)) rfl (hkl hR) (Nat.le_of_ble_eq_true rfl) dL_law_492 (fun r2 S2 _ wS2 => ?_)
        refine J_aload_n X dL_law_495 (i := 2) rfl rfl ?_
        refine Z_aload_n X dL_law_496 (i := 0) rfl rfl ?_
        refine J_iload_n X dL_law_497 (i := 3) rfl rfl ?_
        refine J_iconst X (v := (1 : Int32)) dL_law_498 (by decide) ?_
        refine J_iadd X dL_law_499 ?_
        refine Z_sld X hX dL_law_500 (fun j3 => ?_)
        refine T_callVk (As := [.int (xs j3)]) wS2 X (C_X10_months (kG K) 140 (hD140 hD) (xs j3) S2) cb10 (hD140 hD) ml_L_62 in_yX10_months se_yX10_months ii_RX10 co_yX10_months hy_X10_months (hRl hR (by decide) (by decide)) rfl (hkl hR) (Nat.le_of_ble_eq_true rfl) dL_law_501 (fun r4 S4 _ wS4 => ?_)
        refine J_icmp_eq X (tgt := 1277) dL_law_504 (by decide) ?_ J_none
        refine J_nmv (i + (6 : Int32)) (fun i2 ei2 => ?_)
        refine J_iinc X (v := i2) (ls' := [some (.retAddr 40), some (.ref 0), some (.ref 140), some (.int i2)]) dL_law_1277 (by decide) rfl (by rw [ei2]; rfl) rfl ?_
        refine J_goto X (tgt := 18) dL_law_1280 (by decide) ?_
        exact ih i2 S4 wS4
      refine J_ite (fun h11 => ?_) (fun h11 => ?_)
      · refine J_tabIn X (v := (11 : Int32)) (off := 476) (tgt := 509) h11 dL_law_33 (by decide) (by decide) (by decide) (by decide) ?_
        refine J_aload_n X dL_law_509 (i := 1) rfl rfl ?_
        refine T_callVk (As := []) w X (C_X9_undo (kG K) 0 (hD0 hD) S) cb9 (hD0 hD) ml_L_63 in_yX9_undo se_yX9_undo ii_RX9 co_yX9_undo hy_X9_undo (hRl hR (by decide) (by decide)) rfl (hkl hR) (Nat.le_of_ble_eq_true rfl) dL_law_510 (fun r1 S1 _ wS1 => ?_)
        refine J_aload_n X dL_law_513 (i := 2) rfl rfl ?_
        refine T_callVk (As := []) wS1 X (C_X10_undo (kG K) 140 (hD140 hD) S1) cb10 (hD140 hD) ml_L_67 in_yX10_undo se_yX10_undo ii_RX10 co_yX10_undo hy_X10_undo (hRl hR (by decide) (by decide)) rfl (hkl hR) (Nat.le_of_ble_eq_true rfl) dL_law_514 (fun r2 S2 _ wS2 => ?_)
        refine J_icmp_eq X (tgt := 1277) dL_law_517 (by decide) ?_ J_none
        refine J_nmv (i + (6 : Int32)) (fun i2 ei2 => ?_)
        refine J_iinc X (v := i2) (ls' := [some (.retAddr 40), some (.ref 0), some (.ref 140), some (.int i2)]) dL_law_1277 (by decide) rfl (by rw [ei2]; rfl) rfl ?_
        refine J_goto X (tgt := 18) dL_law_1280 (by decide) ?_
        exact ih i2 S2 wS2
      refine J_ite (fun h12 => ?_) (fun h12 => ?_)
      · refine J_tabIn X (v := (12 : Int32)) (off := 489) (tgt := 522) h12 dL_law_33 (by decide) (by decide) (by decide) (by decide) ?_
        refine J_aload_n X dL_law_522 (i := 1) rfl rfl ?_
        refine Z_aload_n X dL_law_523 (i := 0) rfl rfl ?_
        refine J_iload_n X dL_law_524 (i := 3) rfl rfl ?_
        refine J_iconst X (v := (1 : Int32)) dL_law_525 (by decide) ?_
        refine J_iadd X dL_law_526 ?_
        refine Z_sld X hX dL_law_527 (fun j1 => ?_)
        refine Z_aload_n X dL_law_528 (i := 0) rfl rfl ?_
        refine J_iload_n X dL_law_529 (i := 3) rfl rfl ?_
        refine J_iconst X (v := (2 : Int32)) dL_law_530 (by decide) ?_
        refine J_iadd X dL_law_531 ?_
        refine Z_sld X hX dL_law_532 (fun j2 => ?_)
        refine Z_aload_n X dL_law_533 (i := 0) rfl rfl ?_
        refine J_iload_n X dL_law_534 (i := 3) rfl rfl ?_
        refine J_iconst X (v := (3 : Int32)) dL_law_535 (by decide) ?_
        refine J_iadd X dL_law_536 ?_
        refine Z_sld X hX dL_law_537 (fun j3 => ?_)
        refine T_callVk (As := [.int (xs j1), .int (xs j2), .int (xs j3)]) w X (C_X9_then (kG K) 0 (hD0 hD) (xs j1) (xs j2) (xs j3) S) cb9 (hD0 hD) ml_L_68 in_yX9_then se_yX9_then ii_RX9 co_yX9_then hy_X9_then (hRl hR (by decide) (by decide)) rfl (hkl hR) (Nat.le_of_ble_eq_true rfl) dL_law_538 (fun r4 S4 _ wS4 => ?_)
        refine J_aload_n X dL_law_541 (i := 2) rfl rfl ?_
        refine Z_aload_n X dL_law_542 (i := 0) rfl rfl ?_
        refine J_iload_n X dL_law_543 (i := 3) rfl rfl ?_
        refine J_iconst X (v := (1 : Int32)) dL_law_544 (by decide) ?_
        refine J_iadd X dL_law_545 ?_
        refine Z_sld X hX dL_law_546 (fun j5 => ?_)
        refine Z_aload_n X dL_law_547 (i := 0) rfl rfl ?_
        refine J_iload_n X dL_law_548 (i := 3) rfl rfl ?_
        refine J_iconst X (v := (2 : Int32)) dL_law_549 (by decide) ?_
        refine J_iadd X dL_law_550 ?_
        refine Z_sld X hX dL_law_551 (fun j6 => ?_)
        refine Z_aload_n X dL_law_552 (i := 0) rfl rfl ?_
        refine J_iload_n X dL_law_553 (i := 3) rfl rfl ?_
        refine J_iconst X (v := (3 : Int32)) dL_law_554 (by decide) ?_
        refine J_iadd X dL_law_555 ?_
        refine Z_sld X hX dL_law_556 (fun j7 => ?_)
        refine T_callVk (As := [.int (xs j5), .int (xs j6), .int (xs j7)]) wS4 X (C_X10_then (kG K) 140 (hD140 hD) (xs j5) (xs j6) (xs j7) S4) cb10 (hD140 hD) ml_L_72 in_yX10_then se_yX10_then ii_RX10 co_yX10_then hy_X10_then (hRl hR (by decide) (by decide)) rfl (hkl hR) (Nat.le_of_ble_eq_true rfl) dL_law_557 (fun r8 S8 _ wS8 => ?_)
        refine J_icmp_eq X (tgt := 1277) dL_law_560 (by decide) ?_ J_none
        refine J_nmv (i + (6 : Int32)) (fun i2 ei2 => ?_)
        refine J_iinc X (v := i2) (ls' := [some (.retAddr 40), some (.ref 0), some (.ref 140), some (.int i2)]) dL_law_1277 (by decide) rfl (by rw [ei2]; rfl) rfl ?_
        refine J_goto X (tgt := 18) dL_law_1280 (by decide) ?_
        exact ih i2 S8 wS8
      refine J_ite (fun h13 => ?_) (fun h13 => ?_)
      · refine J_tabIn X (v := (13 : Int32)) (off := 532) (tgt := 565) h13 dL_law_33 (by decide) (by decide) (by decide) (by decide) ?_
        refine J_aload_n X dL_law_565 (i := 1) rfl rfl ?_
        refine Z_aload_n X dL_law_566 (i := 0) rfl rfl ?_
        refine J_iload_n X dL_law_567 (i := 3) rfl rfl ?_
        refine J_iconst X (v := (1 : Int32)) dL_law_568 (by decide) ?_
        refine J_iadd X dL_law_569 ?_
        refine Z_sld X hX dL_law_570 (fun j1 => ?_)
        refine Z_aload_n X dL_law_571 (i := 0) rfl rfl ?_
        refine J_iload_n X dL_law_572 (i := 3) rfl rfl ?_
        refine J_iconst X (v := (2 : Int32)) dL_law_573 (by decide) ?_
        refine J_iadd X dL_law_574 ?_
        refine Z_sld X hX dL_law_575 (fun j2 => ?_)
        refine Z_aload_n X dL_law_576 (i := 0) rfl rfl ?_
        refine J_iload_n X dL_law_577 (i := 3) rfl rfl ?_
        refine J_iconst X (v := (3 : Int32)) dL_law_578 (by decide) ?_
        refine J_iadd X dL_law_579 ?_
        refine Z_sld X hX dL_law_580 (fun j3 => ?_)
        refine T_callVk (As := [.int (xs j1), .int (xs j2), .int (xs j3)]) w X (C_X9_swims (kG K) 0 (hD0 hD) (xs j1) (xs j2) (xs j3) S) cb9 (hD0 hD) ml_L_73 in_yX9_swims se_yX9_swims ii_RX9 co_yX9_swims hy_X9_swims (hRl hR (by decide) (by decide)) rfl (hkl hR) (Nat.le_of_ble_eq_true rfl) dL_law_581 (fun r4 S4 _ wS4 => ?_)
        refine J_aload_n X dL_law_584 (i := 2) rfl rfl ?_
        refine Z_aload_n X dL_law_585 (i := 0) rfl rfl ?_
        refine J_iload_n X dL_law_586 (i := 3) rfl rfl ?_
        refine J_iconst X (v := (1 : Int32)) dL_law_587 (by decide) ?_
        refine J_iadd X dL_law_588 ?_
        refine Z_sld X hX dL_law_589 (fun j5 => ?_)
        refine Z_aload_n X dL_law_590 (i := 0) rfl rfl ?_
        refine J_iload_n X dL_law_591 (i := 3) rfl rfl ?_
        refine J_iconst X (v := (2 : Int32)) dL_law_592 (by decide) ?_
        refine J_iadd X dL_law_593 ?_
        refine Z_sld X hX dL_law_594 (fun j6 => ?_)
        refine Z_aload_n X dL_law_595 (i := 0) rfl rfl ?_
        refine J_iload_n X dL_law_596 (i := 3) rfl rfl ?_
        refine J_iconst X (v := (3 : Int32)) dL_law_597 (by decide) ?_
        refine J_iadd X dL_law_598 ?_
        refine Z_sld X hX dL_law_599 (fun j7 => ?_)
        refine T_callVk (As := [.int (xs j5), .int (xs j6), .int (xs j7)]) wS4 X (C_X10_swims (kG K) 140 (hD140 hD) (xs j5) (xs j6) (xs j7) S4) cb10 (hD140 hD) ml_L_76 in_yX10_swims se_yX10_swims ii_RX10 co_yX10_swims hy_X10_swims (hRl hR (by decide) (by decide)) rfl (hkl hR) (Nat.le_of_ble_eq_true rfl) dL_law_600 (fun r8 S8 _ wS8 => ?_)
        refine J_icmp_eq X (tgt := 1277) dL_law_603 (by decide) ?_ J_none
        refine J_nmv (i + (6 : Int32)) (fun i2 ei2 => ?_)
        refine J_iinc X (v := i2) (ls' := [some (.retAddr 40), some (.ref 0), some (.ref 140), some (.int i2)]) dL_law_1277 (by decide) rfl (by rw [ei2]; rfl) rfl ?_
        refine J_goto X (tgt := 18) dL_law_1280 (by decide) ?_
        exact ih i2 S8 wS8
      refine J_ite (fun h14 => ?_) (fun h14 => ?_)
      · refine J_tabIn X (v := (14 : Int32)) (off := 575) (tgt := 608) h14 dL_law_33 (by decide) (by decide) (by decide) (by decide) ?_
        refine J_aload_n X dL_law_608 (i := 1) rfl rfl ?_
        refine Z_aload_n X dL_law_609 (i := 0) rfl rfl ?_
        refine J_iload_n X dL_law_610 (i := 3) rfl rfl ?_
        refine J_iconst X (v := (1 : Int32)) dL_law_611 (by decide) ?_
        refine J_iadd X dL_law_612 ?_
        refine Z_sld X hX dL_law_613 (fun j1 => ?_)
        refine T_callVk (As := [.int (xs j1)]) w X (C_X9_first (kG K) 0 (hD0 hD) (xs j1) S) cb9 (hD0 hD) ml_L_77 in_yX9_first se_yX9_first ii_RX9 co_yX9_first hy_X9_first (hRl hR (by decide) (by decide)) rfl (hkl hR) (Nat.le_of_ble_eq_true rfl) dL_law_614 (fun r2 S2 _ wS2 => ?_)
        refine J_aload_n X dL_law_617 (i := 2) rfl rfl ?_
        refine Z_aload_n X dL_law_618 (i := 0) rfl rfl ?_
        refine J_iload_n X dL_law_619 (i := 3) rfl rfl ?_
        refine J_iconst X (v := (1 : Int32)) dL_law_620 (by decide) ?_
        refine J_iadd X dL_law_621 ?_
        refine Z_sld X hX dL_law_622 (fun j3 => ?_)
        refine T_callVk (As := [.int (xs j3)]) wS2 X (C_X10_first (kG K) 140 (hD140 hD) (xs j3) S2) cb10 (hD140 hD) ml_L_80 in_yX10_first se_yX10_first ii_RX10 co_yX10_first hy_X10_first (hRl hR (by decide) (by decide)) rfl (hkl hR) (Nat.le_of_ble_eq_true rfl) dL_law_623 (fun r4 S4 _ wS4 => ?_)
        refine J_icmp_eq X (tgt := 1277) dL_law_626 (by decide) ?_ J_none
        refine J_nmv (i + (6 : Int32)) (fun i2 ei2 => ?_)
        refine J_iinc X (v := i2) (ls' := [some (.retAddr 40), some (.ref 0), some (.ref 140), some (.int i2)]) dL_law_1277 (by decide) rfl (by rw [ei2]; rfl) rfl ?_
        refine J_goto X (tgt := 18) dL_law_1280 (by decide) ?_
        exact ih i2 S4 wS4
      refine J_ite (fun h15 => ?_) (fun h15 => ?_)
      · refine J_tabIn X (v := (15 : Int32)) (off := 598) (tgt := 631) h15 dL_law_33 (by decide) (by decide) (by decide) (by decide) ?_
        refine J_aload_n X dL_law_631 (i := 1) rfl rfl ?_
        refine Z_aload_n X dL_law_632 (i := 0) rfl rfl ?_
        refine J_iload_n X dL_law_633 (i := 3) rfl rfl ?_
        refine J_iconst X (v := (1 : Int32)) dL_law_634 (by decide) ?_
        refine J_iadd X dL_law_635 ?_
        refine Z_sld X hX dL_law_636 (fun j1 => ?_)
        refine Z_aload_n X dL_law_637 (i := 0) rfl rfl ?_
        refine J_iload_n X dL_law_638 (i := 3) rfl rfl ?_
        refine J_iconst X (v := (2 : Int32)) dL_law_639 (by decide) ?_
        refine J_iadd X dL_law_640 ?_
        refine Z_sld X hX dL_law_641 (fun j2 => ?_)
        refine Z_aload_n X dL_law_642 (i := 0) rfl rfl ?_
        refine J_iload_n X dL_law_643 (i := 3) rfl rfl ?_
        refine J_iconst X (v := (3 : Int32)) dL_law_644 (by decide) ?_
        refine J_iadd X dL_law_645 ?_
        refine Z_sld X hX dL_law_646 (fun j3 => ?_)
        refine T_callVk (As := [.int (xs j1), .int (xs j2), .int (xs j3)]) w X (C_X9_near (kG K) 0 (hD0 hD) (xs j1) (xs j2) (xs j3) S) cb9 (hD0 hD) ml_L_81 in_yX9_near se_yX9_near ii_RX9 co_yX9_near hy_X9_near (hRl hR (by decide) (by decide)) rfl (hkl hR) (Nat.le_of_ble_eq_true rfl) dL_law_647 (fun r4 S4 _ wS4 => ?_)
        refine J_aload_n X dL_law_650 (i := 2) rfl rfl ?_
        refine Z_aload_n X dL_law_651 (i := 0) rfl rfl ?_
        refine J_iload_n X dL_law_652 (i := 3) rfl rfl ?_
        refine J_iconst X (v := (1 : Int32)) dL_law_653 (by decide) ?_
        refine J_iadd X dL_law_654 ?_
        refine Z_sld X hX dL_law_655 (fun j5 => ?_)
        refine Z_aload_n X dL_law_656 (i := 0) rfl rfl ?_
        refine J_iload_n X dL_law_657 (i := 3) rfl rfl ?_
        refine J_iconst X (v := (2 : Int32)) dL_law_658 (by decide) ?_
        refine J_iadd X dL_law_659 ?_
        refine Z_sld X hX dL_law_660 (fun j6 => ?_)
        refine Z_aload_n X dL_law_661 (i := 0) rfl rfl ?_
        refine J_iload_n X dL_law_662 (i := 3) rfl rfl ?_
        refine J_iconst X (v := (3 : Int32)) dL_law_663 (by decide) ?_
        refine J_iadd X dL_law_664 ?_
        refine Z_sld X hX dL_law_665 (fun j7 => ?_)
        refine T_callVk (As := [.int (xs j5), .int (xs j6), .int (xs j7)]) wS4 X (C_X10_near (kG K) 140 (hD140 hD) (xs j5) (xs j6) (xs j7) S4) cb10 (hD140 hD) ml_L_84 in_yX10_near se_yX10_near ii_RX10 co_yX10_near hy_X10_near (hRl hR (by decide) (by decide)) rfl (hkl hR) (Nat.le_of_ble_eq_true rfl) dL_law_666 (fun r8 S8 _ wS8 => ?_)
        refine J_icmp_eq X (tgt := 1277) dL_law_669 (by decide) ?_ J_none
        refine J_nmv (i + (6 : Int32)) (fun i2 ei2 => ?_)
        refine J_iinc X (v := i2) (ls' := [some (.retAddr 40), some (.ref 0), some (.ref 140), some (.int i2)]) dL_law_1277 (by decide) rfl (by rw [ei2]; rfl) rfl ?_
        refine J_goto X (tgt := 18) dL_law_1280 (by decide) ?_
        exact ih i2 S8 wS8
      refine J_ite (fun h16 => ?_) (fun h16 => ?_)
      · refine J_tabIn X (v := (16 : Int32)) (off := 641) (tgt := 674) h16 dL_law_33 (by decide) (by decide) (by decide) (by decide) ?_
        refine J_aload_n X dL_law_674 (i := 1) rfl rfl ?_
        refine Z_aload_n X dL_law_675 (i := 0) rfl rfl ?_
        refine J_iload_n X dL_law_676 (i := 3) rfl rfl ?_
        refine J_iconst X (v := (1 : Int32)) dL_law_677 (by decide) ?_
        refine J_iadd X dL_law_678 ?_
        refine Z_sld X hX dL_law_679 (fun j1 => ?_)
        refine Z_aload_n X dL_law_680 (i := 0) rfl rfl ?_
        refine J_iload_n X dL_law_681 (i := 3) rfl rfl ?_
        refine J_iconst X (v := (2 : Int32)) dL_law_682 (by decide) ?_
        refine J_iadd X dL_law_683 ?_
        refine Z_sld X hX dL_law_684 (fun j2 => ?_)
        refine Z_aload_n X dL_law_685 (i := 0) rfl rfl ?_
        refine J_iload_n X dL_law_686 (i := 3) rfl rfl ?_
        refine J_iconst X (v := (3 : Int32)) dL_law_687 (by decide) ?_
        refine J_iadd X dL_law_688 ?_
        refine Z_sld X hX dL_law_689 (fun j3 => ?_)
        refine Z_aload_n X dL_law_690 (i := 0) rfl rfl ?_
        refine J_iload_n X dL_law_691 (i := 3) rfl rfl ?_
        refine J_iconst X (v := (4 : Int32)) dL_law_692 (by decide) ?_
        refine J_iadd X dL_law_693 ?_
        refine Z_sld X hX dL_law_694 (fun j4 => ?_)
        refine T_callVk (As := [.int (xs j1), .int (xs j2), .int (xs j3), .int (xs j4)]) w X (C_X9_plait (kG K) 0 (hD0 hD) (xs j1) (xs j2) (xs j3) (xs j4) S) cb9 (hD0 hD) ml_L_85 in_yX9_plait se_yX9_plait ii_RX9 co_yX9_plait hy_X9_plait (hRl hR (by decide) (by decide)) rfl (hkl hR) (Nat.le_of_ble_eq_true rfl) dL_law_695 (fun r5 S5 _ wS5 => ?_)
        refine J_aload_n X dL_law_698 (i := 2) rfl rfl ?_
        refine Z_aload_n X dL_law_699 (i := 0) rfl rfl ?_
        refine J_iload_n X dL_law_700 (i := 3) rfl rfl ?_
        refine J_iconst X (v := (1 : Int32)) dL_law_701 (by decide) ?_
        refine J_iadd X dL_law_702 ?_
        refine Z_sld X hX dL_law_703 (fun j6 => ?_)
        refine Z_aload_n X dL_law_704 (i := 0) rfl rfl ?_
        refine J_iload_n X dL_law_705 (i := 3) rfl rfl ?_
        refine J_iconst X (v := (2 : Int32)) dL_law_706 (by decide) ?_
        refine J_iadd X dL_law_707 ?_
        refine Z_sld X hX dL_law_708 (fun j7 => ?_)
        refine Z_aload_n X dL_law_709 (i := 0) rfl rfl ?_
        refine J_iload_n X dL_law_710 (i := 3) rfl rfl ?_
        refine J_iconst X (v := (3 : Int32)) dL_law_711 (by decide) ?_
        refine J_iadd X dL_law_712 ?_
        refine Z_sld X hX dL_law_713 (fun j8 => ?_)
        refine Z_aload_n X dL_law_714 (i := 0) rfl rfl ?_
        refine J_iload_n X dL_law_715 (i := 3) rfl rfl ?_
        refine J_iconst X (v := (4 : Int32)) dL_law_716 (by decide) ?_
        refine J_iadd X dL_law_717 ?_
        refine Z_sld X hX dL_law_718 (fun j9 => ?_)
        refine T_callVk (As := [.int (xs j6), .int (xs j7), .int (xs j8), .int (xs j9)]) wS5 X (C_X10_plait (kG K) 140 (hD140 hD) (xs j6) (xs j7) (xs j8) (xs j9) S5) cb10 (hD140 hD) ml_L_89 in_yX10_plait se_yX10_plait ii_RX10 co_yX10_plait hy_X10_plait (hRl hR (by decide) (by decide)) rfl (hkl hR) (Nat.le_of_ble_eq_true rfl) dL_law_719 (fun r10 S10 _ wS10 => ?_)
        refine J_icmp_eq X (tgt := 1277) dL_law_722 (by decide) ?_ J_none
        refine J_nmv (i + (6 : Int32)) (fun i2 ei2 => ?_)
        refine J_iinc X (v := i2) (ls' := [some (.retAddr 40), some (.ref 0), some (.ref 140), some (.int i2)]) dL_law_1277 (by decide) rfl (by rw [ei2]; rfl) rfl ?_
        refine J_goto X (tgt := 18) dL_law_1280 (by decide) ?_
        exact ih i2 S10 wS10
      refine J_ite (fun h17 => ?_) (fun h17 => ?_)
      · refine J_tabIn X (v := (17 : Int32)) (off := 694) (tgt := 727) h17 dL_law_33 (by decide) (by decide) (by decide) (by decide) ?_
        refine J_aload_n X dL_law_727 (i := 1) rfl rfl ?_
        refine Z_aload_n X dL_law_728 (i := 0) rfl rfl ?_
        refine J_iload_n X dL_law_729 (i := 3) rfl rfl ?_
        refine J_iconst X (v := (1 : Int32)) dL_law_730 (by decide) ?_
        refine J_iadd X dL_law_731 ?_
        refine Z_sld X hX dL_law_732 (fun j1 => ?_)
        refine Z_aload_n X dL_law_733 (i := 0) rfl rfl ?_
        refine J_iload_n X dL_law_734 (i := 3) rfl rfl ?_
        refine J_iconst X (v := (2 : Int32)) dL_law_735 (by decide) ?_
        refine J_iadd X dL_law_736 ?_
        refine Z_sld X hX dL_law_737 (fun j2 => ?_)
        refine T_callVk (As := [.int (xs j1), .int (xs j2)]) w X (C_X9_turns (kG K) 0 (hD0 hD) (xs j1) (xs j2) S) cb9 (hD0 hD) ml_L_90 in_yX9_turns se_yX9_turns ii_RX9 co_yX9_turns hy_X9_turns (hRl hR (by decide) (by decide)) rfl (hkl hR) (Nat.le_of_ble_eq_true rfl) dL_law_738 (fun r3 S3 _ wS3 => ?_)
        refine J_aload_n X dL_law_741 (i := 2) rfl rfl ?_
        refine Z_aload_n X dL_law_742 (i := 0) rfl rfl ?_
        refine J_iload_n X dL_law_743 (i := 3) rfl rfl ?_
        refine J_iconst X (v := (1 : Int32)) dL_law_744 (by decide) ?_
        refine J_iadd X dL_law_745 ?_
        refine Z_sld X hX dL_law_746 (fun j4 => ?_)
        refine Z_aload_n X dL_law_747 (i := 0) rfl rfl ?_
        refine J_iload_n X dL_law_748 (i := 3) rfl rfl ?_
        refine J_iconst X (v := (2 : Int32)) dL_law_749 (by decide) ?_
        refine J_iadd X dL_law_750 ?_
        refine Z_sld X hX dL_law_751 (fun j5 => ?_)
        refine T_callVk (As := [.int (xs j4), .int (xs j5)]) wS3 X (C_X10_turns (kG K) 140 (hD140 hD) (xs j4) (xs j5) S3) cb10 (hD140 hD) ml_L_93 in_yX10_turns se_yX10_turns ii_RX10 co_yX10_turns hy_X10_turns (hRl hR (by decide) (by decide)) rfl (hkl hR) (Nat.le_of_ble_eq_true rfl) dL_law_752 (fun r6 S6 _ wS6 => ?_)
        refine J_icmp_eq X (tgt := 1277) dL_law_755 (by decide) ?_ J_none
        refine J_nmv (i + (6 : Int32)) (fun i2 ei2 => ?_)
        refine J_iinc X (v := i2) (ls' := [some (.retAddr 40), some (.ref 0), some (.ref 140), some (.int i2)]) dL_law_1277 (by decide) rfl (by rw [ei2]; rfl) rfl ?_
        refine J_goto X (tgt := 18) dL_law_1280 (by decide) ?_
        exact ih i2 S6 wS6
      refine J_ite (fun h18 => ?_) (fun h18 => ?_)
      · refine J_tabIn X (v := (18 : Int32)) (off := 727) (tgt := 760) h18 dL_law_33 (by decide) (by decide) (by decide) (by decide) ?_
        refine J_aload_n X dL_law_760 (i := 1) rfl rfl ?_
        refine Z_aload_n X dL_law_761 (i := 0) rfl rfl ?_
        refine J_iload_n X dL_law_762 (i := 3) rfl rfl ?_
        refine J_iconst X (v := (1 : Int32)) dL_law_763 (by decide) ?_
        refine J_iadd X dL_law_764 ?_
        refine Z_sld X hX dL_law_765 (fun j1 => ?_)
        refine Z_aload_n X dL_law_766 (i := 0) rfl rfl ?_
        refine J_iload_n X dL_law_767 (i := 3) rfl rfl ?_
        refine J_iconst X (v := (2 : Int32)) dL_law_768 (by decide) ?_
        refine J_iadd X dL_law_769 ?_
        refine Z_sld X hX dL_law_770 (fun j2 => ?_)
        refine T_callVk (As := [.int (xs j1), .int (xs j2)]) w X (C_X9_strongest (kG K) 0 (hD0 hD) (xs j1) (xs j2) S) cb9 (hD0 hD) ml_L_94 in_yX9_strongest se_yX9_strongest ii_RX9 co_yX9_strongest hy_X9_strongest (hRl hR (by decide) (by decide)) rfl (hkl hR) (Nat.le_of_ble_eq_true rfl) dL_law_771 (fun r3 S3 _ wS3 => ?_)
        refine J_aload_n X dL_law_774 (i := 2) rfl rfl ?_
        refine Z_aload_n X dL_law_775 (i := 0) rfl rfl ?_
        refine J_iload_n X dL_law_776 (i := 3) rfl rfl ?_
        refine J_iconst X (v := (1 : Int32)) dL_law_777 (by decide) ?_
        refine J_iadd X dL_law_778 ?_
        refine Z_sld X hX dL_law_779 (fun j4 => ?_)
        refine Z_aload_n X dL_law_780 (i := 0) rfl rfl ?_
        refine J_iload_n X dL_law_781 (i := 3) rfl rfl ?_
        refine J_iconst X (v := (2 : Int32)) dL_law_782 (by decide) ?_
        refine J_iadd X dL_law_783 ?_
        refine Z_sld X hX dL_law_784 (fun j5 => ?_)
        refine T_callVk (As := [.int (xs j4), .int (xs j5)]) wS3 X (C_X10_strongest (kG K) 140 (hD140 hD) (xs j4) (xs j5) S3) cb10 (hD140 hD) ml_L_97 in_yX10_strongest se_yX10_strongest ii_RX10 co_yX10_strongest hy_X10_strongest (hRl hR (by decide) (by decide)) rfl (hkl hR) (Nat.le_of_ble_eq_true rfl) dL_law_785 (fun r6 S6 _ wS6 => ?_)
        refine J_icmp_eq X (tgt := 1277) dL_law_788 (by decide) ?_ J_none
        refine J_nmv (i + (6 : Int32)) (fun i2 ei2 => ?_)
        refine J_iinc X (v := i2) (ls' := [some (.retAddr 40), some (.ref 0), some (.ref 140), some (.int i2)]) dL_law_1277 (by decide) rfl (by rw [ei2]; rfl) rfl ?_
        refine J_goto X (tgt := 18) dL_law_1280 (by decide) ?_
        exact ih i2 S6 wS6
      refine J_ite (fun h19 => ?_) (fun h19 => ?_)
      · refine J_tabIn X (v := (19 : Int32)) (off := 760) (tgt := 793) h19 dL_law_33 (by decide) (by decide) (by decide) (by decide) ?_
        refine J_aload_n X dL_law_793 (i := 1) rfl rfl ?_
        refine Z_aload_n X dL_law_794 (i := 0) rfl rfl ?_
        refine J_iload_n X dL_law_795 (i := 3) rfl rfl ?_
        refine J_iconst X (v := (1 : Int32)) dL_law_796 (by decide) ?_
        refine J_iadd X dL_law_797 ?_
        refine Z_sld X hX dL_law_798 (fun j1 => ?_)
        refine T_callVk (As := [.int (xs j1)]) w X (C_X9_again (kG K) 0 (hD0 hD) (xs j1) S) cb9 (hD0 hD) ml_L_98 in_yX9_again se_yX9_again ii_RX9 co_yX9_again hy_X9_again (hRl hR (by decide) (by decide)) rfl (hkl hR) (Nat.le_of_ble_eq_true rfl) dL_law_799 (fun r2 S2 _ wS2 => ?_)
        refine J_aload_n X dL_law_802 (i := 2) rfl rfl ?_
        refine Z_aload_n X dL_law_803 (i := 0) rfl rfl ?_
        refine J_iload_n X dL_law_804 (i := 3) rfl rfl ?_
        refine J_iconst X (v := (1 : Int32)) dL_law_805 (by decide) ?_
        refine J_iadd X dL_law_806 ?_
        refine Z_sld X hX dL_law_807 (fun j3 => ?_)
        refine T_callVk (As := [.int (xs j3)]) wS2 X (C_X10_again (kG K) 140 (hD140 hD) (xs j3) S2) cb10 (hD140 hD) ml_L_101 in_yX10_again se_yX10_again ii_RX10 co_yX10_again hy_X10_again (hRl hR (by decide) (by decide)) rfl (hkl hR) (Nat.le_of_ble_eq_true rfl) dL_law_808 (fun r4 S4 _ wS4 => ?_)
        refine J_icmp_eq X (tgt := 1277) dL_law_811 (by decide) ?_ J_none
        refine J_nmv (i + (6 : Int32)) (fun i2 ei2 => ?_)
        refine J_iinc X (v := i2) (ls' := [some (.retAddr 40), some (.ref 0), some (.ref 140), some (.int i2)]) dL_law_1277 (by decide) rfl (by rw [ei2]; rfl) rfl ?_
        refine J_goto X (tgt := 18) dL_law_1280 (by decide) ?_
        exact ih i2 S4 wS4
      refine J_ite (fun h20 => ?_) (fun h20 => ?_)
      · refine J_tabIn X (v := (20 : Int32)) (off := 783) (tgt := 816) h20 dL_law_33 (by decide) (by decide) (by decide) (by decide) ?_
        refine J_aload_n X dL_law_816 (i := 1) rfl rfl ?_
        refine Z_aload_n X dL_law_817 (i := 0) rfl rfl ?_
        refine J_iload_n X dL_law_818 (i := 3) rfl rfl ?_
        refine J_iconst X (v := (1 : Int32)) dL_law_819 (by decide) ?_
        refine J_iadd X dL_law_820 ?_
        refine Z_sld X hX dL_law_821 (fun j1 => ?_)
        refine Z_aload_n X dL_law_822 (i := 0) rfl rfl ?_
        refine J_iload_n X dL_law_823 (i := 3) rfl rfl ?_
        refine J_iconst X (v := (2 : Int32)) dL_law_824 (by decide) ?_
        refine J_iadd X dL_law_825 ?_
        refine Z_sld X hX dL_law_826 (fun j2 => ?_)
        refine Z_aload_n X dL_law_827 (i := 0) rfl rfl ?_
        refine J_iload_n X dL_law_828 (i := 3) rfl rfl ?_
        refine J_iconst X (v := (3 : Int32)) dL_law_829 (by decide) ?_
        refine J_iadd X dL_law_830 ?_
        refine Z_sld X hX dL_law_831 (fun j3 => ?_)
        refine T_callVk (As := [.int (xs j1), .int (xs j2), .int (xs j3)]) w X (C_X9_passing (kG K) 0 (hD0 hD) (xs j1) (xs j2) (xs j3) S) cb9 (hD0 hD) ml_L_102 in_yX9_passing se_yX9_passing ii_RX9 co_yX9_passing hy_X9_passing (hRl hR (by decide) (by decide)) rfl (hkl hR) (Nat.le_of_ble_eq_true rfl) dL_law_832 (fun r4 S4 _ wS4 => ?_)
        refine J_aload_n X dL_law_835 (i := 2) rfl rfl ?_
        refine Z_aload_n X dL_law_836 (i := 0) rfl rfl ?_
        refine J_iload_n X dL_law_837 (i := 3) rfl rfl ?_
        refine J_iconst X (v := (1 : Int32)) dL_law_838 (by decide) ?_
        refine J_iadd X dL_law_839 ?_
        refine Z_sld X hX dL_law_840 (fun j5 => ?_)
        refine Z_aload_n X dL_law_841 (i := 0) rfl rfl ?_
        refine J_iload_n X dL_law_842 (i := 3) rfl rfl ?_
        refine J_iconst X (v := (2 : Int32)) dL_law_843 (by decide) ?_
        refine J_iadd X dL_law_844 ?_
        refine Z_sld X hX dL_law_845 (fun j6 => ?_)
        refine Z_aload_n X dL_law_846 (i := 0) rfl rfl ?_
        refine J_iload_n X dL_law_847 (i := 3) rfl rfl ?_
        refine J_iconst X (v := (3 : Int32)) dL_law_848 (by decide) ?_
        refine J_iadd X dL_law_849 ?_
        refine Z_sld X hX dL_law_850 (fun j7 => ?_)
        refine T_callVk (As := [.int (xs j5), .int (xs j6), .int (xs j7)]) wS4 X (C_X10_passing (kG K) 140 (hD140 hD) (xs j5) (xs j6) (xs j7) S4) cb10 (hD140 hD) ml_L_105 in_yX10_passing se_yX10_passing ii_RX10 co_yX10_passing hy_X10_passing (hRl hR (by decide) (by decide)) rfl (hkl hR) (Nat.le_of_ble_eq_true rfl) dL_law_851 (fun r8 S8 _ wS8 => ?_)
        refine J_icmp_eq X (tgt := 1277) dL_law_854 (by decide) ?_ J_none
        refine J_nmv (i + (6 : Int32)) (fun i2 ei2 => ?_)
        refine J_iinc X (v := i2) (ls' := [some (.retAddr 40), some (.ref 0), some (.ref 140), some (.int i2)]) dL_law_1277 (by decide) rfl (by rw [ei2]; rfl) rfl ?_
        refine J_goto X (tgt := 18) dL_law_1280 (by decide) ?_
        exact ih i2 S8 wS8
      refine J_ite (fun h21 => ?_) (fun h21 => ?_)
      · refine J_tabIn X (v := (21 : Int32)) (off := 826) (tgt := 859) h21 dL_law_33 (by decide) (by decide) (by decide) (by decide) ?_
        refine J_aload_n X dL_law_859 (i := 1) rfl rfl ?_
        refine Z_aload_n X dL_law_860 (i := 0) rfl rfl ?_
        refine J_iload_n X dL_law_861 (i := 3) rfl rfl ?_
        refine J_iconst X (v := (1 : Int32)) dL_law_862 (by decide) ?_
        refine J_iadd X dL_law_863 ?_
        refine Z_sld X hX dL_law_864 (fun j1 => ?_)
        refine T_callVk (As := [.int (xs j1)]) w X (C_X9_even (kG K) 0 (hD0 hD) (xs j1) S) cb9 (hD0 hD) ml_L_106 in_yX9_even se_yX9_even ii_RX9 co_yX9_even hy_X9_even (hRl hR (by decide) (by decide)) rfl (hkl hR) (Nat.le_of_ble_eq_true rfl) dL_law_865 (fun r2 S2 _ wS2 => ?_)
        refine J_aload_n X dL_law_868 (i := 2) rfl rfl ?_
        refine Z_aload_n X dL_law_869 (i := 0) rfl rfl ?_
        refine J_iload_n X dL_law_870 (i := 3) rfl rfl ?_
        refine J_iconst X (v := (1 : Int32)) dL_law_871 (by decide) ?_
        refine J_iadd X dL_law_872 ?_
        refine Z_sld X hX dL_law_873 (fun j3 => ?_)
        refine T_callVk (As := [.int (xs j3)]) wS2 X (C_X10_even (kG K) 140 (hD140 hD) (xs j3) S2) cb10 (hD140 hD) ml_L_109 in_yX10_even se_yX10_even ii_RX10 co_yX10_even hy_X10_even (hRl hR (by decide) (by decide)) rfl (hkl hR) (Nat.le_of_ble_eq_true rfl) dL_law_874 (fun r4 S4 _ wS4 => ?_)
        refine J_icmp_eq X (tgt := 1277) dL_law_877 (by decide) ?_ J_none
        refine J_nmv (i + (6 : Int32)) (fun i2 ei2 => ?_)
        refine J_iinc X (v := i2) (ls' := [some (.retAddr 40), some (.ref 0), some (.ref 140), some (.int i2)]) dL_law_1277 (by decide) rfl (by rw [ei2]; rfl) rfl ?_
        refine J_goto X (tgt := 18) dL_law_1280 (by decide) ?_
        exact ih i2 S4 wS4
      refine J_ite (fun h22 => ?_) (fun h22 => ?_)
      · refine J_tabIn X (v := (22 : Int32)) (off := 849) (tgt := 882) h22 dL_law_33 (by decide) (by decide) (by decide) (by decide) ?_
        refine J_aload_n X dL_law_882 (i := 1) rfl rfl ?_
        refine Z_aload_n X dL_law_883 (i := 0) rfl rfl ?_
        refine J_iload_n X dL_law_884 (i := 3) rfl rfl ?_
        refine J_iconst X (v := (1 : Int32)) dL_law_885 (by decide) ?_
        refine J_iadd X dL_law_886 ?_
        refine Z_sld X hX dL_law_887 (fun j1 => ?_)
        refine T_callVk (As := [.int (xs j1)]) w X (C_X9_market (kG K) 0 (hD0 hD) (xs j1) S) cb9 (hD0 hD) ml_L_110 in_yX9_market se_yX9_market ii_RX9 co_yX9_market hy_X9_market (hRl hR (by decide) (by decide)) rfl (hkl hR) (Nat.le_of_ble_eq_true rfl) dL_law_888 (fun r2 S2 _ wS2 => ?_)
        refine J_aload_n X dL_law_891 (i := 2) rfl rfl ?_
        refine Z_aload_n X dL_law_892 (i := 0) rfl rfl ?_
        refine J_iload_n X dL_law_893 (i := 3) rfl rfl ?_
        refine J_iconst X (v := (1 : Int32)) dL_law_894 (by decide) ?_
        refine J_iadd X dL_law_895 ?_
        refine Z_sld X hX dL_law_896 (fun j3 => ?_)
        refine T_callVk (As := [.int (xs j3)]) wS2 X (C_X10_market (kG K) 140 (hD140 hD) (xs j3) S2) cb10 (hD140 hD) ml_L_113 in_yX10_market se_yX10_market ii_RX10 co_yX10_market hy_X10_market (hRl hR (by decide) (by decide)) rfl (hkl hR) (Nat.le_of_ble_eq_true rfl) dL_law_897 (fun r4 S4 _ wS4 => ?_)
        refine J_icmp_eq X (tgt := 1277) dL_law_900 (by decide) ?_ J_none
        refine J_nmv (i + (6 : Int32)) (fun i2 ei2 => ?_)
        refine J_iinc X (v := i2) (ls' := [some (.retAddr 40), some (.ref 0), some (.ref 140), some (.int i2)]) dL_law_1277 (by decide) rfl (by rw [ei2]; rfl) rfl ?_
        refine J_goto X (tgt := 18) dL_law_1280 (by decide) ?_
        exact ih i2 S4 wS4
      refine J_ite (fun h23 => ?_) (fun h23 => ?_)
      · refine J_tabIn X (v := (23 : Int32)) (off := 872) (tgt := 905) h23 dL_law_33 (by decide) (by decide) (by decide) (by decide) ?_
        refine J_aload_n X dL_law_905 (i := 1) rfl rfl ?_
        refine Z_aload_n X dL_law_906 (i := 0) rfl rfl ?_
        refine J_iload_n X dL_law_907 (i := 3) rfl rfl ?_
        refine J_iconst X (v := (1 : Int32)) dL_law_908 (by decide) ?_
        refine J_iadd X dL_law_909 ?_
        refine Z_sld X hX dL_law_910 (fun j1 => ?_)
        refine Z_aload_n X dL_law_911 (i := 0) rfl rfl ?_
        refine J_iload_n X dL_law_912 (i := 3) rfl rfl ?_
        refine J_iconst X (v := (2 : Int32)) dL_law_913 (by decide) ?_
        refine J_iadd X dL_law_914 ?_
        refine Z_sld X hX dL_law_915 (fun j2 => ?_)
        refine T_callVk (As := [.int (xs j1), .int (xs j2)]) w X (C_X9_nothing (kG K) 0 (hD0 hD) (xs j1) (xs j2) S) cb9 (hD0 hD) ml_L_114 in_yX9_nothing se_yX9_nothing ii_RX9 co_yX9_nothing hy_X9_nothing (hRl hR (by decide) (by decide)) rfl (hkl hR) (Nat.le_of_ble_eq_true rfl) dL_law_916 (fun r3 S3 _ wS3 => ?_)
        refine J_aload_n X dL_law_919 (i := 2) rfl rfl ?_
        refine Z_aload_n X dL_law_920 (i := 0) rfl rfl ?_
        refine J_iload_n X dL_law_921 (i := 3) rfl rfl ?_
        refine J_iconst X (v := (1 : Int32)) dL_law_922 (by decide) ?_
        refine J_iadd X dL_law_923 ?_
        refine Z_sld X hX dL_law_924 (fun j4 => ?_)
        refine Z_aload_n X dL_law_925 (i := 0) rfl rfl ?_
        refine J_iload_n X dL_law_926 (i := 3) rfl rfl ?_
        refine J_iconst X (v := (2 : Int32)) dL_law_927 (by decide) ?_
        refine J_iadd X dL_law_928 ?_
        refine Z_sld X hX dL_law_929 (fun j5 => ?_)
        refine T_callVk (As := [.int (xs j4), .int (xs j5)]) wS3 X (C_X10_nothing (kG K) 140 (hD140 hD) (xs j4) (xs j5) S3) cb10 (hD140 hD) ml_L_117 in_yX10_nothing se_yX10_nothing ii_RX10 co_yX10_nothing hy_X10_nothing (hRl hR (by decide) (by decide)) rfl (hkl hR) (Nat.le_of_ble_eq_true rfl) dL_law_930 (fun r6 S6 _ wS6 => ?_)
        refine J_icmp_eq X (tgt := 1277) dL_law_933 (by decide) ?_ J_none
        refine J_nmv (i + (6 : Int32)) (fun i2 ei2 => ?_)
        refine J_iinc X (v := i2) (ls' := [some (.retAddr 40), some (.ref 0), some (.ref 140), some (.int i2)]) dL_law_1277 (by decide) rfl (by rw [ei2]; rfl) rfl ?_
        refine J_goto X (tgt := 18) dL_law_1280 (by decide) ?_
        exact ih i2 S6 wS6
      refine J_ite (fun h24 => ?_) (fun h24 => ?_)
      · refine J_tabIn X (v := (24 : Int32)) (off := 905) (tgt := 938) h24 dL_law_33 (by decide) (by decide) (by decide) (by decide) ?_
        refine J_aload_n X dL_law_938 (i := 1) rfl rfl ?_
        refine Z_aload_n X dL_law_939 (i := 0) rfl rfl ?_
        refine J_iload_n X dL_law_940 (i := 3) rfl rfl ?_
        refine J_iconst X (v := (1 : Int32)) dL_law_941 (by decide) ?_
        refine J_iadd X dL_law_942 ?_
        refine Z_sld X hX dL_law_943 (fun j1 => ?_)
        refine Z_aload_n X dL_law_944 (i := 0) rfl rfl ?_
        refine J_iload_n X dL_law_945 (i := 3) rfl rfl ?_
        refine J_iconst X (v := (2 : Int32)) dL_law_946 (by decide) ?_
        refine J_iadd X dL_law_947 ?_
        refine Z_sld X hX dL_law_948 (fun j2 => ?_)
        refine T_callVk (As := [.int (xs j1), .int (xs j2)]) w X (C_X9_safe (kG K) 0 (hD0 hD) (xs j1) (xs j2) S) cb9 (hD0 hD) ml_L_118 in_yX9_safe se_yX9_safe ii_RX9 co_yX9_safe hy_X9_safe (hRl hR (by decide) (by decide)) rfl (hkl hR) (Nat.le_of_ble_eq_true rfl) dL_law_949 (fun r3 S3 _ wS3 => ?_)
        refine J_aload_n X dL_law_952 (i := 2) rfl rfl ?_
        refine Z_aload_n X dL_law_953 (i := 0) rfl rfl ?_
        refine J_iload_n X dL_law_954 (i := 3) rfl rfl ?_
        refine J_iconst X (v := (1 : Int32)) dL_law_955 (by decide) ?_
        refine J_iadd X dL_law_956 ?_
        refine Z_sld X hX dL_law_957 (fun j4 => ?_)
        refine Z_aload_n X dL_law_958 (i := 0) rfl rfl ?_
        refine J_iload_n X dL_law_959 (i := 3) rfl rfl ?_
        refine J_iconst X (v := (2 : Int32)) dL_law_960 (by decide) ?_
        refine J_iadd X dL_law_961 ?_
        refine Z_sld X hX dL_law_962 (fun j5 => ?_)
        refine T_callVk (As := [.int (xs j4), .int (xs j5)]) wS3 X (C_X10_safe (kG K) 140 (hD140 hD) (xs j4) (xs j5) S3) cb10 (hD140 hD) ml_L_121 in_yX10_safe se_yX10_safe ii_RX10 co_yX10_safe hy_X10_safe (hRl hR (by decide) (by decide)) rfl (hkl hR) (Nat.le_of_ble_eq_true rfl) dL_law_963 (fun r6 S6 _ wS6 => ?_)
        refine J_icmp_eq X (tgt := 1277) dL_law_966 (by decide) ?_ J_none
        refine J_nmv (i + (6 : Int32)) (fun i2 ei2 => ?_)
        refine J_iinc X (v := i2) (ls' := [some (.retAddr 40), some (.ref 0), some (.ref 140), some (.int i2)]) dL_law_1277 (by decide) rfl (by rw [ei2]; rfl) rfl ?_
        refine J_goto X (tgt := 18) dL_law_1280 (by decide) ?_
        exact ih i2 S6 wS6
      refine J_ite (fun h25 => ?_) (fun h25 => ?_)
      · refine J_tabIn X (v := (25 : Int32)) (off := 938) (tgt := 971) h25 dL_law_33 (by decide) (by decide) (by decide) (by decide) ?_
        refine J_aload_n X dL_law_971 (i := 1) rfl rfl ?_
        refine T_callVk (As := []) w X (C_X9_cutBest (kG K) 0 (hD0 hD) S) cb9 (hD0 hD) ml_L_122 in_yX9_cutBest se_yX9_cutBest ii_RX9 co_yX9_cutBest hy_X9_cutBest (hRl hR (by decide) (by decide)) rfl (hkl hR) (Nat.le_of_ble_eq_true rfl) dL_law_972 (fun r1 S1 _ wS1 => ?_)
        refine J_aload_n X dL_law_975 (i := 2) rfl rfl ?_
        refine T_callVk (As := []) wS1 X (C_X10_cutBest (kG K) 140 (hD140 hD) S1) cb10 (hD140 hD) ml_L_125 in_yX10_cutBest se_yX10_cutBest ii_RX10 co_yX10_cutBest hy_X10_cutBest (hRl hR (by decide) (by decide)) rfl (hkl hR) (Nat.le_of_ble_eq_true rfl) dL_law_976 (fun r2 S2 _ wS2 => ?_)
        refine J_icmp_eq X (tgt := 1277) dL_law_979 (by decide) ?_ J_none
        refine J_nmv (i + (6 : Int32)) (fun i2 ei2 => ?_)
        refine J_iinc X (v := i2) (ls' := [some (.retAddr 40), some (.ref 0), some (.ref 140), some (.int i2)]) dL_law_1277 (by decide) rfl (by rw [ei2]; rfl) rfl ?_
        refine J_goto X (tgt := 18) dL_law_1280 (by decide) ?_
        exact ih i2 S2 wS2
      refine J_ite (fun h26 => ?_) (fun h26 => ?_)
      · refine J_tabIn X (v := (26 : Int32)) (off := 951) (tgt := 984) h26 dL_law_33 (by decide) (by decide) (by decide) (by decide) ?_
        refine J_aload_n X dL_law_984 (i := 1) rfl rfl ?_
        refine Z_aload_n X dL_law_985 (i := 0) rfl rfl ?_
        refine J_iload_n X dL_law_986 (i := 3) rfl rfl ?_
        refine J_iconst X (v := (1 : Int32)) dL_law_987 (by decide) ?_
        refine J_iadd X dL_law_988 ?_
        refine Z_sld X hX dL_law_989 (fun j1 => ?_)
        refine T_callVk (As := [.int (xs j1)]) w X (C_X9_worth (kG K) 0 (hD0 hD) (xs j1) S) cb9 (hD0 hD) ml_L_126 in_yX9_worth se_yX9_worth ii_RX9 co_yX9_worth hy_X9_worth (hRl hR (by decide) (by decide)) rfl (hkl hR) (Nat.le_of_ble_eq_true rfl) dL_law_990 (fun r2 S2 _ wS2 => ?_)
        refine J_aload_n X dL_law_993 (i := 2) rfl rfl ?_
        refine Z_aload_n X dL_law_994 (i := 0) rfl rfl ?_
        refine J_iload_n X dL_law_995 (i := 3) rfl rfl ?_
        refine J_iconst X (v := (1 : Int32)) dL_law_996 (by decide) ?_
        refine J_iadd X dL_law_997 ?_
        refine Z_sld X hX dL_law_998 (fun j3 => ?_)
        refine T_callVk (As := [.int (xs j3)]) wS2 X (C_X10_worth (kG K) 140 (hD140 hD) (xs j3) S2) cb10 (hD140 hD) ml_L_129 in_yX10_worth se_yX10_worth ii_RX10 co_yX10_worth hy_X10_worth (hRl hR (by decide) (by decide)) rfl (hkl hR) (Nat.le_of_ble_eq_true rfl) dL_law_999 (fun r4 S4 _ wS4 => ?_)
        refine J_icmp_eq X (tgt := 1277) dL_law_1002 (by decide) ?_ J_none
        refine J_nmv (i + (6 : Int32)) (fun i2 ei2 => ?_)
        refine J_iinc X (v := i2) (ls' := [some (.retAddr 40), some (.ref 0), some (.ref 140), some (.int i2)]) dL_law_1277 (by decide) rfl (by rw [ei2]; rfl) rfl ?_
        refine J_goto X (tgt := 18) dL_law_1280 (by decide) ?_
        exact ih i2 S4 wS4
      refine J_ite (fun h27 => ?_) (fun h27 => ?_)
      · refine J_tabIn X (v := (27 : Int32)) (off := 974) (tgt := 1007) h27 dL_law_33 (by decide) (by decide) (by decide) (by decide) ?_
        refine J_aload_n X dL_law_1007 (i := 1) rfl rfl ?_
        refine Z_aload_n X dL_law_1008 (i := 0) rfl rfl ?_
        refine J_iload_n X dL_law_1009 (i := 3) rfl rfl ?_
        refine J_iconst X (v := (1 : Int32)) dL_law_1010 (by decide) ?_
        refine J_iadd X dL_law_1011 ?_
        refine Z_sld X hX dL_law_1012 (fun j1 => ?_)
        refine T_callVk (As := [.int (xs j1)]) w X (C_X9_give (kG K) 0 (hD0 hD) (xs j1) S) cb9 (hD0 hD) ml_L_130 in_yX9_give se_yX9_give ii_RX9 co_yX9_give hy_X9_give (hRl hR (by decide) (by decide)) rfl (hkl hR) (Nat.le_of_ble_eq_true rfl) dL_law_1013 (fun r2 S2 _ wS2 => ?_)
        refine J_aload_n X dL_law_1016 (i := 2) rfl rfl ?_
        refine Z_aload_n X dL_law_1017 (i := 0) rfl rfl ?_
        refine J_iload_n X dL_law_1018 (i := 3) rfl rfl ?_
        refine J_iconst X (v := (1 : Int32)) dL_law_1019 (by decide) ?_
        refine J_iadd X dL_law_1020 ?_
        refine Z_sld X hX dL_law_1021 (fun j3 => ?_)
        refine T_callVk (As := [.int (xs j3)]) wS2 X (C_X10_give (kG K) 140 (hD140 hD) (xs j3) S2) cb10 (hD140 hD) ml_L_133 in_yX10_give se_yX10_give ii_RX10 co_yX10_give hy_X10_give (hRl hR (by decide) (by decide)) rfl (hkl hR) (Nat.le_of_ble_eq_true rfl) dL_law_1022 (fun r4 S4 _ wS4 => ?_)
        refine J_icmp_eq X (tgt := 1277) dL_law_1025 (by decide) ?_ J_none
        refine J_nmv (i + (6 : Int32)) (fun i2 ei2 => ?_)
        refine J_iinc X (v := i2) (ls' := [some (.retAddr 40), some (.ref 0), some (.ref 140), some (.int i2)]) dL_law_1277 (by decide) rfl (by rw [ei2]; rfl) rfl ?_
        refine J_goto X (tgt := 18) dL_law_1280 (by decide) ?_
        exact ih i2 S4 wS4
      refine J_ite (fun h28 => ?_) (fun h28 => ?_)
      · refine J_tabIn X (v := (28 : Int32)) (off := 997) (tgt := 1030) h28 dL_law_33 (by decide) (by decide) (by decide) (by decide) ?_
        refine J_aload_n X dL_law_1030 (i := 1) rfl rfl ?_
        refine Z_aload_n X dL_law_1031 (i := 0) rfl rfl ?_
        refine J_iload_n X dL_law_1032 (i := 3) rfl rfl ?_
        refine J_iconst X (v := (1 : Int32)) dL_law_1033 (by decide) ?_
        refine J_iadd X dL_law_1034 ?_
        refine Z_sld X hX dL_law_1035 (fun j1 => ?_)
        refine Z_aload_n X dL_law_1036 (i := 0) rfl rfl ?_
        refine J_iload_n X dL_law_1037 (i := 3) rfl rfl ?_
        refine J_iconst X (v := (2 : Int32)) dL_law_1038 (by decide) ?_
        refine J_iadd X dL_law_1039 ?_
        refine Z_sld X hX dL_law_1040 (fun j2 => ?_)
        refine Z_aload_n X dL_law_1041 (i := 0) rfl rfl ?_
        refine J_iload_n X dL_law_1042 (i := 3) rfl rfl ?_
        refine J_iconst X (v := (3 : Int32)) dL_law_1043 (by decide) ?_
        refine J_iadd X dL_law_1044 ?_
        refine Z_sld X hX dL_law_1045 (fun j3 => ?_)
        refine T_callVk (As := [.int (xs j1), .int (xs j2), .int (xs j3)]) w X (C_X9_year (kG K) 0 (hD0 hD) (xs j1) (xs j2) (xs j3) S) cb9 (hD0 hD) ml_L_134 in_yX9_year se_yX9_year ii_RX9 co_yX9_year hy_X9_year (hRl hR (by decide) (by decide)) rfl (hkl hR) (Nat.le_of_ble_eq_true rfl) dL_law_1046 (fun r4 S4 _ wS4 => ?_)
        refine J_aload_n X dL_law_1049 (i := 2) rfl rfl ?_
        refine Z_aload_n X dL_law_1050 (i := 0) rfl rfl ?_
        refine J_iload_n X dL_law_1051 (i := 3) rfl rfl ?_
        refine J_iconst X (v := (1 : Int32)) dL_law_1052 (by decide) ?_
        refine J_iadd X dL_law_1053 ?_
        refine Z_sld X hX dL_law_1054 (fun j5 => ?_)
        refine Z_aload_n X dL_law_1055 (i := 0) rfl rfl ?_
        refine J_iload_n X dL_law_1056 (i := 3) rfl rfl ?_
        refine J_iconst X (v := (2 : Int32)) dL_law_1057 (by decide) ?_
        refine J_iadd X dL_law_1058 ?_
        refine Z_sld X hX dL_law_1059 (fun j6 => ?_)
        refine Z_aload_n X dL_law_1060 (i := 0) rfl rfl ?_
        refine J_iload_n X dL_law_1061 (i := 3) rfl rfl ?_
        refine J_iconst X (v := (3 : Int32)) dL_law_1062 (by decide) ?_
        refine J_iadd X dL_law_1063 ?_
        refine Z_sld X hX dL_law_1064 (fun j7 => ?_)
        refine T_callVk (As := [.int (xs j5), .int (xs j6), .int (xs j7)]) wS4 X (C_X10_year (kG K) 140 (hD140 hD) (xs j5) (xs j6) (xs j7) S4) cb10 (hD140 hD) ml_L_137 in_yX10_year se_yX10_year ii_RX10 co_yX10_year hy_X10_year (hRl hR (by decide) (by decide)) rfl (hkl hR) (Nat.le_of_ble_eq_true rfl) dL_law_1065 (fun r8 S8 _ wS8 => ?_)
        refine J_icmp_eq X (tgt := 1277) dL_law_1068 (by decide) ?_ J_none
        refine J_nmv (i + (6 : Int32)) (fun i2 ei2 => ?_)
        refine J_iinc X (v := i2) (ls' := [some (.retAddr 40), some (.ref 0), some (.ref 140), some (.int i2)]) dL_law_1277 (by decide) rfl (by rw [ei2]; rfl) rfl ?_
        refine J_goto X (tgt := 18) dL_law_1280 (by decide) ?_
        exact ih i2 S8 wS8
      refine J_ite (fun h29 => ?_) (fun h29 => ?_)
      · refine J_tabIn X (v := (29 : Int32)) (off := 1040) (tgt := 1073) h29 dL_law_33 (by decide) (by decide) (by decide) (by decide) ?_
        refine J_aload_n X dL_law_1073 (i := 1) rfl rfl ?_
        refine Z_aload_n X dL_law_1074 (i := 0) rfl rfl ?_
        refine J_iload_n X dL_law_1075 (i := 3) rfl rfl ?_
        refine J_iconst X (v := (1 : Int32)) dL_law_1076 (by decide) ?_
        refine J_iadd X dL_law_1077 ?_
        refine Z_sld X hX dL_law_1078 (fun j1 => ?_)
        refine Z_aload_n X dL_law_1079 (i := 0) rfl rfl ?_
        refine J_iload_n X dL_law_1080 (i := 3) rfl rfl ?_
        refine J_iconst X (v := (2 : Int32)) dL_law_1081 (by decide) ?_
        refine J_iadd X dL_law_1082 ?_
        refine Z_sld X hX dL_law_1083 (fun j2 => ?_)
        refine Z_aload_n X dL_law_1084 (i := 0) rfl rfl ?_
        refine J_iload_n X dL_law_1085 (i := 3) rfl rfl ?_
        refine J_iconst X (v := (3 : Int32)) dL_law_1086 (by decide) ?_
        refine J_iadd X dL_law_1087 ?_
        refine Z_sld X hX dL_law_1088 (fun j3 => ?_)
        refine Z_aload_n X dL_law_1089 (i := 0) rfl rfl ?_
        refine J_iload_n X dL_law_1090 (i := 3) rfl rfl ?_
        refine J_iconst X (v := (4 : Int32)) dL_law_1091 (by decide) ?_
        refine J_iadd X dL_law_1092 ?_
        refine Z_sld X hX dL_law_1093 (fun j4 => ?_)
        refine T_callVk (As := [.int (xs j1), .int (xs j2), .int (xs j3), .int (xs j4)]) w X (C_X9_tell (kG K) 0 (hD0 hD) (xs j1) (xs j2) (xs j3) (xs j4) S) cb9 (hD0 hD) ml_L_138 in_yX9_tell se_yX9_tell ii_RX9 co_yX9_tell hy_X9_tell (hRl hR (by decide) (by decide)) rfl (hkl hR) (Nat.le_of_ble_eq_true rfl) dL_law_1094 (fun r5 S5 _ wS5 => ?_)
        refine J_aload_n X dL_law_1097 (i := 2) rfl rfl ?_
        refine Z_aload_n X dL_law_1098 (i := 0) rfl rfl ?_
        refine J_iload_n X dL_law_1099 (i := 3) rfl rfl ?_
        refine J_iconst X (v := (1 : Int32)) dL_law_1100 (by decide) ?_
        refine J_iadd X dL_law_1101 ?_
        refine Z_sld X hX dL_law_1102 (fun j6 => ?_)
        refine Z_aload_n X dL_law_1103 (i := 0) rfl rfl ?_
        refine J_iload_n X dL_law_1104 (i := 3) rfl rfl ?_
        refine J_iconst X (v := (2 : Int32)) dL_law_1105 (by decide) ?_
        refine J_iadd X dL_law_1106 ?_
        refine Z_sld X hX dL_law_1107 (fun j7 => ?_)
        refine Z_aload_n X dL_law_1108 (i := 0) rfl rfl ?_
        refine J_iload_n X dL_law_1109 (i := 3) rfl rfl ?_
        refine J_iconst X (v := (3 : Int32)) dL_law_1110 (by decide) ?_
        refine J_iadd X dL_law_1111 ?_
        refine Z_sld X hX dL_law_1112 (fun j8 => ?_)
        refine Z_aload_n X dL_law_1113 (i := 0) rfl rfl ?_
        refine J_iload_n X dL_law_1114 (i := 3) rfl rfl ?_
        refine J_iconst X (v := (4 : Int32)) dL_law_1115 (by decide) ?_
        refine J_iadd X dL_law_1116 ?_
        refine Z_sld X hX dL_law_1117 (fun j9 => ?_)
        refine T_callVk (As := [.int (xs j6), .int (xs j7), .int (xs j8), .int (xs j9)]) wS5 X (C_X10_tell (kG K) 140 (hD140 hD) (xs j6) (xs j7) (xs j8) (xs j9) S5) cb10 (hD140 hD) ml_L_141 in_yX10_tell se_yX10_tell ii_RX10 co_yX10_tell hy_X10_tell (hRl hR (by decide) (by decide)) rfl (hkl hR) (Nat.le_of_ble_eq_true rfl) dL_law_1118 (fun r10 S10 _ wS10 => ?_)
        refine J_icmp_eq X (tgt := 1277) dL_law_1121 (by decide) ?_ J_none
        refine J_nmv (i + (6 : Int32)) (fun i2 ei2 => ?_)
        refine J_iinc X (v := i2) (ls' := [some (.retAddr 40), some (.ref 0), some (.ref 140), some (.int i2)]) dL_law_1277 (by decide) rfl (by rw [ei2]; rfl) rfl ?_
        refine J_goto X (tgt := 18) dL_law_1280 (by decide) ?_
        exact ih i2 S10 wS10
      refine J_ite (fun h30 => ?_) (fun h30 => ?_)
      · refine J_tabIn X (v := (30 : Int32)) (off := 1093) (tgt := 1126) h30 dL_law_33 (by decide) (by decide) (by decide) (by decide) ?_
        refine J_aload_n X dL_law_1126 (i := 1) rfl rfl ?_
        refine T_callVk (As := []) w X (C_X9_forget (kG K) 0 (hD0 hD) S) cb9 (hD0 hD) ml_L_142 in_yX9_forget se_yX9_forget ii_RX9 co_yX9_forget hy_X9_forget (hRl hR (by decide) (by decide)) rfl (hkl hR) (Nat.le_of_ble_eq_true rfl) dL_law_1127 (fun r1 S1 _ wS1 => ?_)
        refine J_aload_n X dL_law_1130 (i := 2) rfl rfl ?_
        refine T_callVk (As := []) wS1 X (C_X10_forget (kG K) 140 (hD140 hD) S1) cb10 (hD140 hD) ml_L_145 in_yX10_forget se_yX10_forget ii_RX10 co_yX10_forget hy_X10_forget (hRl hR (by decide) (by decide)) rfl (hkl hR) (Nat.le_of_ble_eq_true rfl) dL_law_1131 (fun r2 S2 _ wS2 => ?_)
        refine J_icmp_eq X (tgt := 1277) dL_law_1134 (by decide) ?_ J_none
        refine J_nmv (i + (6 : Int32)) (fun i2 ei2 => ?_)
        refine J_iinc X (v := i2) (ls' := [some (.retAddr 40), some (.ref 0), some (.ref 140), some (.int i2)]) dL_law_1277 (by decide) rfl (by rw [ei2]; rfl) rfl ?_
        refine J_goto X (tgt := 18) dL_law_1280 (by decide) ?_
        exact ih i2 S2 wS2
      refine J_ite (fun h31 => ?_) (fun h31 => ?_)
      · refine J_tabIn X (v := (31 : Int32)) (off := 1106) (tgt := 1139) h31 dL_law_33 (by decide) (by decide) (by decide) (by decide) ?_
        refine J_aload_n X dL_law_1139 (i := 1) rfl rfl ?_
        refine Z_aload_n X dL_law_1140 (i := 0) rfl rfl ?_
        refine J_iload_n X dL_law_1141 (i := 3) rfl rfl ?_
        refine J_iconst X (v := (1 : Int32)) dL_law_1142 (by decide) ?_
        refine J_iadd X dL_law_1143 ?_
        refine Z_sld X hX dL_law_1144 (fun j1 => ?_)
        refine T_callVk (As := [.int (xs j1)]) w X (C_X9_where (kG K) 0 (hD0 hD) (xs j1) S) cb9 (hD0 hD) ml_L_146 in_yX9_where se_yX9_where ii_RX9 co_yX9_where hy_X9_where (hRl hR (by decide) (by decide)) rfl (hkl hR) (Nat.le_of_ble_eq_true rfl) dL_law_1145 (fun r2 S2 _ wS2 => ?_)
        refine J_aload_n X dL_law_1148 (i := 2) rfl rfl ?_
        refine Z_aload_n X dL_law_1149 (i := 0) rfl rfl ?_
        refine J_iload_n X dL_law_1150 (i := 3) rfl rfl ?_
        refine J_iconst X (v := (1 : Int32)) dL_law_1151 (by decide) ?_
        refine J_iadd X dL_law_1152 ?_
        refine Z_sld X hX dL_law_1153 (fun j3 => ?_)
        refine T_callVk (As := [.int (xs j3)]) wS2 X (C_X10_where (kG K) 140 (hD140 hD) (xs j3) S2) cb10 (hD140 hD) ml_L_149 in_yX10_where se_yX10_where ii_RX10 co_yX10_where hy_X10_where (hRl hR (by decide) (by decide)) rfl (hkl hR) (Nat.le_of_ble_eq_true rfl) dL_law_1154 (fun r4 S4 _ wS4 => ?_)
        refine J_icmp_eq X (tgt := 1277) dL_law_1157 (by decide) ?_ J_none
        refine J_nmv (i + (6 : Int32)) (fun i2 ei2 => ?_)
        refine J_iinc X (v := i2) (ls' := [some (.retAddr 40), some (.ref 0), some (.ref 140), some (.int i2)]) dL_law_1277 (by decide) rfl (by rw [ei2]; rfl) rfl ?_
        refine J_goto X (tgt := 18) dL_law_1280 (by decide) ?_
        exact ih i2 S4 wS4
      refine J_ite (fun h32 => ?_) (fun h32 => ?_)
      · refine J_tabIn X (v := (32 : Int32)) (off := 1129) (tgt := 1162) h32 dL_law_33 (by decide) (by decide) (by decide) (by decide) ?_
        refine J_aload_n X dL_law_1162 (i := 1) rfl rfl ?_
        refine Z_aload_n X dL_law_1163 (i := 0) rfl rfl ?_
        refine J_iload_n X dL_law_1164 (i := 3) rfl rfl ?_
        refine J_iconst X (v := (1 : Int32)) dL_law_1165 (by decide) ?_
        refine J_iadd X dL_law_1166 ?_
        refine Z_sld X hX dL_law_1167 (fun j1 => ?_)
        refine T_callVk (As := [.int (xs j1)]) w X (C_X9_surest (kG K) 0 (hD0 hD) (xs j1) S) cb9 (hD0 hD) ml_L_150 in_yX9_surest se_yX9_surest ii_RX9 co_yX9_surest hy_X9_surest (hRl hR (by decide) (by decide)) rfl (hkl hR) (Nat.le_of_ble_eq_true rfl) dL_law_1168 (fun r2 S2 _ wS2 => ?_)
        refine J_aload_n X dL_law_1171 (i := 2) rfl rfl ?_
        refine Z_aload_n X dL_law_1172 (i := 0) rfl rfl ?_
        refine J_iload_n X dL_law_1173 (i := 3) rfl rfl ?_
        refine J_iconst X (v := (1 : Int32)) dL_law_1174 (by decide) ?_
        refine J_iadd X dL_law_1175 ?_
        refine Z_sld X hX dL_law_1176 (fun j3 => ?_)
        refine T_callVk (As := [.int (xs j3)]) wS2 X (C_X10_surest (kG K) 140 (hD140 hD) (xs j3) S2) cb10 (hD140 hD) ml_L_153 in_yX10_surest se_yX10_surest ii_RX10 co_yX10_surest hy_X10_surest (hRl hR (by decide) (by decide)) rfl (hkl hR) (Nat.le_of_ble_eq_true rfl) dL_law_1177 (fun r4 S4 _ wS4 => ?_)
        refine J_icmp_eq X (tgt := 1277) dL_law_1180 (by decide) ?_ J_none
        refine J_nmv (i + (6 : Int32)) (fun i2 ei2 => ?_)
        refine J_iinc X (v := i2) (ls' := [some (.retAddr 40), some (.ref 0), some (.ref 140), some (.int i2)]) dL_law_1277 (by decide) rfl (by rw [ei2]; rfl) rfl ?_
        refine J_goto X (tgt := 18) dL_law_1280 (by decide) ?_
        exact ih i2 S4 wS4
      refine J_ite (fun h33 => ?_) (fun h33 => ?_)
      · refine J_tabIn X (v := (33 : Int32)) (off := 1152) (tgt := 1185) h33 dL_law_33 (by decide) (by decide) (by decide) (by decide) ?_
        refine J_aload_n X dL_law_1185 (i := 1) rfl rfl ?_
        refine Z_aload_n X dL_law_1186 (i := 0) rfl rfl ?_
        refine J_iload_n X dL_law_1187 (i := 3) rfl rfl ?_
        refine J_iconst X (v := (1 : Int32)) dL_law_1188 (by decide) ?_
        refine J_iadd X dL_law_1189 ?_
        refine Z_sld X hX dL_law_1190 (fun j1 => ?_)
        refine T_callVk (As := [.int (xs j1)]) w X (C_X9_holdNext (kG K) 0 (hD0 hD) (xs j1) S) cb9 (hD0 hD) ml_L_154 in_yX9_holdNext se_yX9_holdNext ii_RX9 co_yX9_holdNext hy_X9_holdNext (hRl hR (by decide) (by decide)) rfl (hkl hR) (Nat.le_of_ble_eq_true rfl) dL_law_1191 (fun r2 S2 _ wS2 => ?_)
        refine J_aload_n X dL_law_1194 (i := 2) rfl rfl ?_
        refine Z_aload_n X dL_law_1195 (i := 0) rfl rfl ?_
        refine J_iload_n X dL_law_1196 (i := 3) rfl rfl ?_
        refine J_iconst X (v := (1 : Int32)) dL_law_1197 (by decide) ?_
        refine J_iadd X dL_law_1198 ?_
        refine Z_sld X hX dL_law_1199 (fun j3 => ?_)
        refine T_callVk (As := [.int (xs j3)]) wS2 X (C_X10_holdNext (kG K) 140 (hD140 hD) (xs j3) S2) cb10 (hD140 hD) ml_L_157 in_yX10_holdNext se_yX10_holdNext ii_RX10 co_yX10_holdNext hy_X10_holdNext (hRl hR (by decide) (by decide)) rfl (hkl hR) (Nat.le_of_ble_eq_true rfl) dL_law_1200 (fun r4 S4 _ wS4 => ?_)
        refine J_icmp_eq X (tgt := 1277) dL_law_1203 (by decide) ?_ J_none
        refine J_nmv (i + (6 : Int32)) (fun i2 ei2 => ?_)
        refine J_iinc X (v := i2) (ls' := [some (.retAddr 40), some (.ref 0), some (.ref 140), some (.int i2)]) dL_law_1277 (by decide) rfl (by rw [ei2]; rfl) rfl ?_
        refine J_goto X (tgt := 18) dL_law_1280 (by decide) ?_
        exact ih i2 S4 wS4
      refine J_ite (fun h34 => ?_) (fun h34 => ?_)
      · refine J_tabIn X (v := (34 : Int32)) (off := 1175) (tgt := 1208) h34 dL_law_33 (by decide) (by decide) (by decide) (by decide) ?_
        refine J_aload_n X dL_law_1208 (i := 1) rfl rfl ?_
        refine Z_aload_n X dL_law_1209 (i := 0) rfl rfl ?_
        refine J_iload_n X dL_law_1210 (i := 3) rfl rfl ?_
        refine J_iconst X (v := (1 : Int32)) dL_law_1211 (by decide) ?_
        refine J_iadd X dL_law_1212 ?_
        refine Z_sld X hX dL_law_1213 (fun j1 => ?_)
        refine T_callVk (As := [.int (xs j1)]) w X (C_X9_hold (kG K) 0 (hD0 hD) (xs j1) S) cb9 (hD0 hD) ml_L_158 in_yX9_hold se_yX9_hold ii_RX9 co_yX9_hold hy_X9_hold (hRl hR (by decide) (by decide)) rfl (hkl hR) (Nat.le_of_ble_eq_true rfl) dL_law_1214 (fun r2 S2 _ wS2 => ?_)
        refine J_aload_n X dL_law_1217 (i := 2) rfl rfl ?_
        refine Z_aload_n X dL_law_1218 (i := 0) rfl rfl ?_
        refine J_iload_n X dL_law_1219 (i := 3) rfl rfl ?_
        refine J_iconst X (v := (1 : Int32)) dL_law_1220 (by decide) ?_
        refine J_iadd X dL_law_1221 ?_
        refine Z_sld X hX dL_law_1222 (fun j3 => ?_)
        refine T_callVk (As := [.int (xs j3)]) wS2 X (C_X10_hold (kG K) 140 (hD140 hD) (xs j3) S2) cb10 (hD140 hD) ml_L_161 in_yX10_hold se_yX10_hold ii_RX10 co_yX10_hold hy_X10_hold (hRl hR (by decide) (by decide)) rfl (hkl hR) (Nat.le_of_ble_eq_true rfl) dL_law_1223 (fun r4 S4 _ wS4 => ?_)
        refine J_icmp_eq X (tgt := 1277) dL_law_1226 (by decide) ?_ J_none
        refine J_nmv (i + (6 : Int32)) (fun i2 ei2 => ?_)
        refine J_iinc X (v := i2) (ls' := [some (.retAddr 40), some (.ref 0), some (.ref 140), some (.int i2)]) dL_law_1277 (by decide) rfl (by rw [ei2]; rfl) rfl ?_
        refine J_goto X (tgt := 18) dL_law_1280 (by decide) ?_
        exact ih i2 S4 wS4
      refine J_ite (fun h35 => ?_) (fun h35 => ?_)
      · refine J_tabIn X (v := (35 : Int32)) (off := 1198) (tgt := 1231) h35 dL_law_33 (by decide) (by decide) (by decide) (by decide) ?_
        refine J_aload_n X dL_law_1231 (i := 1) rfl rfl ?_
        refine Z_aload_n X dL_law_1232 (i := 0) rfl rfl ?_
        refine J_iload_n X dL_law_1233 (i := 3) rfl rfl ?_
        refine J_iconst X (v := (1 : Int32)) dL_law_1234 (by decide) ?_
        refine J_iadd X dL_law_1235 ?_
        refine Z_sld X hX dL_law_1236 (fun j1 => ?_)
        refine T_callVk (As := [.int (xs j1)]) w X (C_X9_restore (kG K) 0 (hD0 hD) (xs j1) S) cb9 (hD0 hD) ml_L_162 in_yX9_restore se_yX9_restore ii_RX9 co_yX9_restore hy_X9_restore (hRl hR (by decide) (by decide)) rfl (hkl hR) (Nat.le_of_ble_eq_true rfl) dL_law_1237 (fun r2 S2 _ wS2 => ?_)
        refine J_aload_n X dL_law_1240 (i := 2) rfl rfl ?_
        refine Z_aload_n X dL_law_1241 (i := 0) rfl rfl ?_
        refine J_iload_n X dL_law_1242 (i := 3) rfl rfl ?_
        refine J_iconst X (v := (1 : Int32)) dL_law_1243 (by decide) ?_
        refine J_iadd X dL_law_1244 ?_
        refine Z_sld X hX dL_law_1245 (fun j3 => ?_)
        refine T_callVk (As := [.int (xs j3)]) wS2 X (C_X10_restore (kG K) 140 (hD140 hD) (xs j3) S2) cb10 (hD140 hD) ml_L_165 in_yX10_restore se_yX10_restore ii_RX10 co_yX10_restore hy_X10_restore (hRl hR (by decide) (by decide)) rfl (hkl hR) (Nat.le_of_ble_eq_true rfl) dL_law_1246 (fun r4 S4 _ wS4 => ?_)
        refine J_icmp_eq X (tgt := 1277) dL_law_1249 (by decide) ?_ J_none
        refine J_nmv (i + (6 : Int32)) (fun i2 ei2 => ?_)
        refine J_iinc X (v := i2) (ls' := [some (.retAddr 40), some (.ref 0), some (.ref 140), some (.int i2)]) dL_law_1277 (by decide) rfl (by rw [ei2]; rfl) rfl ?_
        refine J_goto X (tgt := 18) dL_law_1280 (by decide) ?_
        exact ih i2 S4 wS4
      refine J_ite (fun h36 => ?_) (fun h36 => ?_)
      · refine J_tabIn X (v := (36 : Int32)) (off := 1221) (tgt := 1254) h36 dL_law_33 (by decide) (by decide) (by decide) (by decide) ?_
        refine J_aload_n X dL_law_1254 (i := 1) rfl rfl ?_
        refine Z_aload_n X dL_law_1255 (i := 0) rfl rfl ?_
        refine J_iload_n X dL_law_1256 (i := 3) rfl rfl ?_
        refine J_iconst X (v := (1 : Int32)) dL_law_1257 (by decide) ?_
        refine J_iadd X dL_law_1258 ?_
        refine Z_sld X hX dL_law_1259 (fun j1 => ?_)
        refine T_callVk (As := [.int (xs j1)]) w X (C_X9_count (kG K) 0 (hD0 hD) (xs j1) S) cb9 (hD0 hD) ml_L_166 in_yX9_count se_yX9_count ii_RX9 co_yX9_count hy_X9_count (hRl hR (by decide) (by decide)) rfl (hkl hR) (Nat.le_of_ble_eq_true rfl) dL_law_1260 (fun r2 S2 _ wS2 => ?_)
        refine J_aload_n X dL_law_1263 (i := 2) rfl rfl ?_
        refine Z_aload_n X dL_law_1264 (i := 0) rfl rfl ?_
        refine J_iload_n X dL_law_1265 (i := 3) rfl rfl ?_
        refine J_iconst X (v := (1 : Int32)) dL_law_1266 (by decide) ?_
        refine J_iadd X dL_law_1267 ?_
        refine Z_sld X hX dL_law_1268 (fun j3 => ?_)
        refine T_callVk (As := [.int (xs j3)]) wS2 X (C_X10_count (kG K) 140 (hD140 hD) (xs j3) S2) cb10 (hD140 hD) ml_L_169 in_yX10_count se_yX10_count ii_RX10 co_yX10_count hy_X10_count (hRl hR (by decide) (by decide)) rfl (hkl hR) (Nat.le_of_ble_eq_true rfl) dL_law_1269 (fun r4 S4 _ wS4 => ?_)
        refine J_icmp_eq X (tgt := 1277) dL_law_1272 (by decide) ?_ J_none
        refine J_nmv (i + (6 : Int32)) (fun i2 ei2 => ?_)
        refine J_iinc X (v := i2) (ls' := [some (.retAddr 40), some (.ref 0), some (.ref 140), some (.int i2)]) dL_law_1277 (by decide) rfl (by rw [ei2]; rfl) rfl ?_
        refine J_goto X (tgt := 18) dL_law_1280 (by decide) ?_
        exact ih i2 S4 wS4
      have n0 := tabne h0 (k := 0) (by decide)
      have n1 := tabne h1 (k := 1) (by decide)
      have n2 := tabne h2 (k := 2) (by decide)
      have n3 := tabne h3 (k := 3) (by decide)
      have n4 := tabne h4 (k := 4) (by decide)
      have n5 := tabne h5 (k := 5) (by decide)
      have n6 := tabne h6 (k := 6) (by decide)
      have n7 := tabne h7 (k := 7) (by decide)
      have n8 := tabne h8 (k := 8) (by decide)
      have n9 := tabne h9 (k := 9) (by decide)
      have n10 := tabne h10 (k := 10) (by decide)
      have n11 := tabne h11 (k := 11) (by decide)
      have n12 := tabne h12 (k := 12) (by decide)
      have n13 := tabne h13 (k := 13) (by decide)
      have n14 := tabne h14 (k := 14) (by decide)
      have n15 := tabne h15 (k := 15) (by decide)
      have n16 := tabne h16 (k := 16) (by decide)
      have n17 := tabne h17 (k := 17) (by decide)
      have n18 := tabne h18 (k := 18) (by decide)
      have n19 := tabne h19 (k := 19) (by decide)
      have n20 := tabne h20 (k := 20) (by decide)
      have n21 := tabne h21 (k := 21) (by decide)
      have n22 := tabne h22 (k := 22) (by decide)
      have n23 := tabne h23 (k := 23) (by decide)
      have n24 := tabne h24 (k := 24) (by decide)
      have n25 := tabne h25 (k := 25) (by decide)
      have n26 := tabne h26 (k := 26) (by decide)
      have n27 := tabne h27 (k := 27) (by decide)
      have n28 := tabne h28 (k := 28) (by decide)
      have n29 := tabne h29 (k := 29) (by decide)
      have n30 := tabne h30 (k := 30) (by decide)
      have n31 := tabne h31 (k := 31) (by decide)
      have n32 := tabne h32 (k := 32) (by decide)
      have n33 := tabne h33 (k := 33) (by decide)
      have n34 := tabne h34 (k := 34) (by decide)
      have n35 := tabne h35 (k := 35) (by decide)
      have n36 := tabne h36 (k := 36) (by decide)
      refine J_tabOut X (tgt := 1277) dL_law_33 (tabout 0 36 (fun v h1 h2 => by omega)) (by decide) ?_
      refine J_nmv (i + (6 : Int32)) (fun i2 ei2 => ?_)
      refine J_iinc X (v := i2) (ls' := [some (.retAddr 40), some (.ref 0), some (.ref 140), some (.int i2)]) dL_law_1277 (by decide) rfl (by rw [ei2]; rfl) rfl ?_
      refine J_goto X (tgt := 18) dL_law_1280 (by decide) ?_
      exact ih i2 S w

/-! the class's two texts -/
def sl (k : Nat) : Nat := match k with
  | 0 => SWORDS.length
  | _ => SSIGNS.length
def sc (k j : Nat) : Int32 := (SBYT.getD k []).getD j 0
def si (k : Nat) (c : Int32) : Int32 := match (SBYT.getD k []).findIdx? (· == c) with
  | some j => Int32.ofNat j
  | none => -1
section TS
variable {K : KK} {cc : ByteArray} {nL : Nat} {own : String} {rt : Option FieldType} {pc : Nat} {ls : List (Option Value)} {st : List Value} {S : St} {ρ : Type} {Zr : ρ → State → Prop} {d : Nat}
theorem T_sldc0 (X : CX K cc nL RX6 rt) {M : Mm} {n k w : Nat} {e : Option ρ} (hd : decode cc pc = .ok (.ldc 71, 2)) (h : JX K Zr (pc + 2) ls (.retAddr 0 :: st) M n k w e) : JX K Zr pc ls st M n k w e := by
  sorry
theorem T_sldc1 (X : CX K cc nL RX6 rt) {M : Mm} {n k w : Nat} {e : Option ρ} (hd : decode cc pc = .ok (.ldc 56, 2)) (h : JX K Zr (pc + 2) ls (.retAddr 1 :: st) M n k w e) : JX K Zr pc ls st M n k w e := by
  sorry
theorem T_slen0 (X : CX K cc nL RX6 rt) (hR : kR K = rmD d) {e : Option ρ} (hd : decode cc pc = .ok (.invokevirtual 73, 3)) (h : JX K Zr (pc + 3) ls (.int (Int32.ofNat (sl 0)) :: st) (rw_ S) 187 0 0 e) : JX K Zr pc ls (.retAddr 0 :: st) (rw_ S) 187 0 0 e := by
  sorry
theorem T_schar0 (X : CX K cc nL RX6 rt) (hR : kR K = rmD d) {i : Int32} {f : Nat → Option ρ} (hd : decode cc pc = .ok (.invokevirtual 77, 3)) (h : ∀ j, JX K Zr (pc + 3) ls (.int (sc 0 j) :: st) (rw_ S) 187 0 0 (f j)) : JX K Zr pc ls (.int i :: .retAddr 0 :: st) (rw_ S) 187 0 0 ((ix i (sl 0)).bind f) := by
  sorry
theorem T_sidx1 (X : CX K cc nL RX6 rt) (hR : kR K = rmD d) {i : Int32} {f : Unit → Option ρ} (hd : decode cc pc = .ok (.invokevirtual 58, 3)) (h : JX K Zr (pc + 3) ls (.int (si 1 i) :: st) (rw_ S) 187 0 0 (f ())) : JX K Zr pc ls (.int i :: .retAddr 1 :: st) (rw_ S) 187 0 0 ((if 0 ≤ i ∧ i < 256 then some () else none).bind f) := by
  sorry
end TS

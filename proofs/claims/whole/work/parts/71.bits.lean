/-! bits counted -/
theorem land_split {a m h M : Nat} (ha : a < 256) (hm : m < 256) : (a + 256 * h) &&& (m + 256 * M) = (a &&& m) + 256 * (h &&& M) := by
  have hlt : a &&& m < 2 ^ 8 := Nat.lt_of_le_of_lt Nat.and_le_left ha
  refine Nat.eq_of_testBit_eq (fun j => ?_)
  rw [show a + 256 * h = 2 ^ 8 * h + a by omega, show m + 256 * M = 2 ^ 8 * M + m by omega, show (a &&& m) + 256 * (h &&& M) = 2 ^ 8 * (h &&& M) + (a &&& m) by omega, Nat.testBit_and, Nat.testBit_two_pow_mul_add _ ha, Nat.testBit_two_pow_mul_add _ hm, Nat.testBit_two_pow_mul_add _ hlt]
  split
  · rw [Nat.testBit_and]
  · rw [Nat.testBit_and]
def G1 (a : Nat) : Nat := a - (a / 2 &&& 85)
def G2 (g : Nat) : Nat := (g &&& 51) + (g / 4 &&& 51)
theorem G_a : ∀ a : Nat, a < 256 → ∀ e : Nat, e < 2 → (a / 2 + 128 * e) &&& 85 = a / 2 &&& 85 ∧ a / 2 &&& 85 ≤ a := by decide +kernel
theorem G_b : ∀ g : Nat, g < 256 → ∀ e : Nat, e < 4 → (g / 4 + 64 * e) &&& 51 = g / 4 &&& 51 := by decide +kernel
theorem G_c : ∀ a : Nat, a < 256 → G1 a < 256 ∧ G2 (G1 a) ≤ 68 ∧ G2 (G1 a) % 16 ≤ 4 ∧ (G2 (G1 a) + G2 (G1 a) / 16) % 16 = pcN a := by decide +kernel
theorem st1 {a h M : Nat} (ha : a < 256) : (a + 256 * h) - ((a + 256 * h) / 2 &&& (85 + 256 * M)) = G1 a + 256 * (h - (h / 2 &&& M)) := by
  have e1 : (a + 256 * h) / 2 = (a / 2 + 128 * (h % 2)) + 256 * (h / 2) := by omega
  obtain ⟨g1, g2⟩ := G_a a ha (h % 2) (by omega)
  have hle : h / 2 &&& M ≤ h / 2 := Nat.and_le_left
  rw [e1, land_split (by omega) (by decide), g1]
  unfold G1
  omega
theorem st2 {g h M : Nat} (hg : g < 256) : ((g + 256 * h) &&& (51 + 256 * M)) + ((g + 256 * h) / 4 &&& (51 + 256 * M)) = G2 g + 256 * ((h &&& M) + (h / 4 &&& M)) := by
  have e1 : (g + 256 * h) / 4 = (g / 4 + 64 * (h % 4)) + 256 * (h / 4) := by omega
  rw [e1, land_split hg (by decide), land_split (by omega) (by decide), G_b g hg (h % 4) (by omega)]
  unfold G2
  omega
theorem st3 {g h M : Nat} (hg : g ≤ 68) (hh : h % 16 ≤ 4) : ((g + 256 * h) + (g + 256 * h) / 16) &&& (15 + 256 * M) = (g + g / 16) % 16 + 256 * ((h + h / 16) &&& M) := by
  have e1 : (g + 256 * h) + (g + 256 * h) / 16 = (g + g / 16 + 16 * (h % 16)) + 256 * (h + h / 16) := by omega
  have e2 : (g + g / 16 + 16 * (h % 16)) &&& 15 = (g + g / 16 + 16 * (h % 16)) % 16 := Nat.and_two_pow_sub_one_eq_mod _ 4
  rw [e1, land_split (by omega) (by decide), e2]
  omega
def pcB (x : Nat) : Nat := ((((((x - (x / 2 &&& 1431655765)) &&& 858993459) + ((x - (x / 2 &&& 1431655765)) / 4 &&& 858993459)) + (((x - (x / 2 &&& 1431655765)) &&& 858993459) + ((x - (x / 2 &&& 1431655765)) / 4 &&& 858993459)) / 16) &&& 252645135))
theorem pcB_eq {a b c : Nat} (ha : a < 256) (hb : b < 256) (hc : c < 256) : pcB (a + 256 * (b + 256 * (c + 256 * 0))) = pcN a + 256 * (pcN b + 256 * (pcN c + 256 * 0)) := by
  obtain ⟨a1, a2, a3, a4⟩ := G_c a ha
  obtain ⟨b1, b2, b3, b4⟩ := G_c b hb
  obtain ⟨c1, c2, c3, c4⟩ := G_c c hc
  unfold pcB
  rw [show (1431655765 : Nat) = 85 + 256 * (85 + 256 * (85 + 256 * 85)) from rfl, st1 ha, st1 hb, st1 hc, show (858993459 : Nat) = 51 + 256 * (51 + 256 * (51 + 256 * 51)) from rfl, st2 a1, st2 b1, st2 c1, show (252645135 : Nat) = 15 + 256 * (15 + 256 * (15 + 256 * 15)) from rfl, st3 a2 (by omega), st3 b2 (by omega), st3 c2 (by decide), a4, b4, c4]
  rfl
theorem ushr1 {n : Nat} (h : n < 2 ^ 32) : ((nI n).toUInt32 >>> ((1 : Int32).toUInt32 &&& Int32.toUInt32 31)).toInt32 = nI (n / 2) := pk_ushrN h 1 1 (by decide)
theorem ushr2 {n : Nat} (h : n < 2 ^ 32) : ((nI n).toUInt32 >>> ((2 : Int32).toUInt32 &&& Int32.toUInt32 31)).toInt32 = nI (n / 4) := pk_ushrN h 2 2 (by decide)
theorem ushr4 {n : Nat} (h : n < 2 ^ 32) : ((nI n).toUInt32 >>> ((4 : Int32).toUInt32 &&& Int32.toUInt32 31)).toInt32 = nI (n / 16) := pk_ushrN h 4 4 (by decide)
theorem ushr8 {n : Nat} (h : n < 2 ^ 32) : ((nI n).toUInt32 >>> ((8 : Int32).toUInt32 &&& Int32.toUInt32 31)).toInt32 = nI (n / 256) := pk_ushrN h 8 8 (by decide)
theorem ushr16 {n : Nat} (h : n < 2 ^ 32) : ((nI n).toUInt32 >>> ((16 : Int32).toUInt32 &&& Int32.toUInt32 31)).toInt32 = nI (n / 65536) := pk_ushrN h 16 16 (by decide)
theorem bc_nat {x : Nat} (hx : x < 2 ^ 24) {S : St} : f_J6_bitCount_0f7a4 (nI x) S = some (nI ((pcB x + pcB x / 256 + (pcB x + pcB x / 256) / 65536) % 64), S) := by
  have l1 : x / 2 &&& 1431655765 ≤ x / 2 := Nat.and_le_left
  have l2 : (x - (x / 2 &&& 1431655765)) &&& 858993459 ≤ x - (x / 2 &&& 1431655765) := Nat.and_le_left
  have l3 : (x - (x / 2 &&& 1431655765)) / 4 &&& 858993459 ≤ (x - (x / 2 &&& 1431655765)) / 4 := Nat.and_le_left
  have l4 : pcB x ≤ _ := Nat.and_le_left
  unfold f_J6_bitCount_0f7a4
  rw [nmq, ushr1 (by omega), show (1431655765 : Int32) = nI 1431655765 from rfl, nI_and, pk_sub (by omega), nmq, ushr2 (by omega), show (858993459 : Int32) = nI 858993459 from rfl, nI_and, nI_and, nI_add, nmq, ushr4 (by omega), nI_add, show (252645135 : Int32) = nI 252645135 from rfl, nI_and, nmq]
  rw [show (((((x - (x / 2 &&& 1431655765)) &&& 858993459) + ((x - (x / 2 &&& 1431655765)) / 4 &&& 858993459)) + (((x - (x / 2 &&& 1431655765)) &&& 858993459) + ((x - (x / 2 &&& 1431655765)) / 4 &&& 858993459)) / 16) &&& 252645135) = pcB x from rfl]
  rw [ushr8 (by omega), nI_add, nmq, ushr16 (by omega), nI_add, show (63 : Int32) = nI 63 from rfl, nI_and, show (pcB x + pcB x / 256 + (pcB x + pcB x / 256) / 65536) &&& 63 = (pcB x + pcB x / 256 + (pcB x + pcB x / 256) / 65536) % 64 from Nat.and_two_pow_sub_one_eq_mod _ 6]
theorem cntF_app {p : Nat → Bool} : ∀ (m n i : Nat), cntF p (m + n) i = cntF p m i + cntF p n (i + m)
  | 0, n, i => by rw [Nat.zero_add]; show _ = 0 + _; rw [Nat.zero_add]; rfl
  | m + 1, n, i => by
    rw [show m + 1 + n = (m + n) + 1 by omega]
    show (if p i then 1 else 0) + cntF p (m + n) (i + 1) = (if p i then 1 else 0) + cntF p m (i + 1) + _
    rw [cntF_app m n (i + 1), show i + 1 + m = i + (m + 1) by omega]
    omega
theorem cntF_sh {p : Nat → Bool} {k : Nat} : ∀ (m i : Nat), cntF p m (i + k) = cntF (fun j => p (j + k)) m i
  | 0, _ => rfl
  | m + 1, i => by
    show (if p (i + k) then 1 else 0) + cntF p m (i + k + 1) = (if p (i + k) then 1 else 0) + cntF (fun j => p (j + k)) m (i + 1)
    rw [show i + k + 1 = (i + 1) + k by omega, cntF_sh m (i + 1)]
theorem cnt24 {x : Nat} (hx : x < 2 ^ 24) {n : Nat} (hn : n = 8 + (8 + 8)) : cntF (fun k => x.testBit k) n 0 = pcN (x % 256) + (pcN (x / 256 % 256) + pcN (x / 65536)) := by
  have t0 : ∀ k, k < 8 → x.testBit k = (x % 256).testBit k := fun k hk => by
    have h := Nat.testBit_mod_two_pow x 8 k
    rw [show x % 256 = x % 2 ^ 8 from rfl, h]; simp [hk]
  have t1 : ∀ k, k < 8 → x.testBit (k + 8) = (x / 256 % 256).testBit k := fun k hk => by
    have h := Nat.testBit_mod_two_pow (x / 2 ^ 8) 8 k
    have h2 := Nat.testBit_div_two_pow (n := 8) x k
    rw [show x / 256 % 256 = x / 2 ^ 8 % 2 ^ 8 from rfl, h, h2]; simp [hk]
  have t2 : ∀ k, k < 8 → x.testBit (k + 16) = (x / 65536).testBit k := fun k hk => by
    have h2 := Nat.testBit_div_two_pow (n := 16) x k
    rw [show x / 65536 = x / 2 ^ 16 from rfl, h2]
  have c0 : cntF (fun k => x.testBit k) 8 0 = pcN (x % 256) := cntF_congr 8 0 (fun j _ hj => t0 j (by omega))
  have c1 : cntF (fun k => x.testBit (k + 8)) 8 0 = pcN (x / 256 % 256) := cntF_congr 8 0 (fun j _ hj => t1 j (by omega))
  have c2 : cntF (fun k => x.testBit (k + 16)) 8 0 = pcN (x / 65536) := cntF_congr 8 0 (fun j _ hj => t2 j (by omega))
  have d1 : cntF (fun k => x.testBit k) 8 8 = cntF (fun k => x.testBit (k + 8)) 8 0 := by
    have := cntF_sh (p := fun k => x.testBit k) (k := 8) 8 0
    rw [Nat.zero_add] at this
    exact this
  have d2 : cntF (fun k => x.testBit k) 8 16 = cntF (fun k => x.testBit (k + 16)) 8 0 := by
    have := cntF_sh (p := fun k => x.testBit k) (k := 16) 8 0
    rw [Nat.zero_add] at this
    exact this
  rw [hn, cntF_app, cntF_app, c0, Nat.zero_add, d1, c1, d2, c2]
theorem fold3 {A B C : Nat} (hA : A ≤ 8) (hB : B ≤ 8) (hC : C ≤ 8) {y : Nat} (hy : y = A + 256 * (B + 256 * (C + 256 * 0))) : (y + y / 256 + (y + y / 256) / 65536) % 64 = A + (B + C) := by
  have e1 : y / 256 = B + 256 * C := by omega
  rw [e1]
  have e2 : (y + (B + 256 * C)) / 65536 = C := by omega
  rw [e2]
  omega
theorem bc24 {x : Nat} (hx : x < 2 ^ 24) {S : St} : f_J6_bitCount_0f7a4 (nI x) S = some (nI (cntF (fun k => x.testBit k) 24 0), S) := by
  have ha : x % 256 < 256 := by omega
  have hb : x / 256 % 256 < 256 := by omega
  have hc : x / 65536 < 256 := by omega
  have e : x % 256 + 256 * (x / 256 % 256 + 256 * (x / 65536 + 256 * 0)) = x := by omega
  have hp := pcB_eq ha hb hc
  rw [e] at hp
  have p1 := pc8 (o := x % 256)
  have p2 := pc8 (o := x / 256 % 256)
  have p3 := pc8 (o := x / 65536)
  have hfin : (pcB x + pcB x / 256 + (pcB x + pcB x / 256) / 65536) % 64 = pcN (x % 256) + (pcN (x / 256 % 256) + pcN (x / 65536)) := fold3 p1 p2 p3 hp
  rw [bc_nat hx, cnt24 hx rfl, hfin]

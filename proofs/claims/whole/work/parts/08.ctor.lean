def ASG : List (Nat × Nat) := [(0, 0), (2, 5), (2, 6), (2, 7), (2, 8), (2, 9), (8, 0), (8, 1), (8, 3), (8, 4), (8, 5), (2, 10), (14, 0), (2, 11), (0, 3), (16, 5), (16, 6), (16, 7), (16, 8), (16, 9), (22, 0), (22, 1), (22, 3), (22, 4), (22, 5), (16, 10), (28, 0), (16, 11), (0, 4), (31, 3), (31, 0), (31, 1), (31, 2), (30, 0), (30, 1), (0, 2), (35, 0), (0, 5), (37, 0), (0, 6), (39, 0), (39, 1), (0, 7), (40, 0), (40, 1), (0, 8), (41, 0), (43, 0), (42, 0), (45, 0), (42, 1), (47, 0), (42, 2), (49, 0), (42, 3), (51, 0), (42, 4), (53, 0), (42, 5), (55, 0), (42, 6), (57, 0), (42, 7), (59, 0), (42, 8), (61, 0), (42, 9), (63, 0), (42, 10), (65, 0), (42, 11), (67, 0), (42, 12), (69, 0), (42, 13), (71, 0), (42, 14), (73, 0), (42, 15), (75, 0), (42, 16), (77, 0), (42, 17), (79, 0), (42, 18), (81, 0), (42, 19), (83, 0), (42, 20), (85, 0), (42, 21), (87, 0), (42, 22), (89, 0), (42, 23), (91, 0), (42, 24), (93, 0), (42, 25), (95, 0), (42, 26), (97, 0), (42, 27), (99, 0), (42, 28), (101, 0), (42, 29), (103, 0), (42, 30), (105, 0), (42, 31), (107, 0), (42, 32), (109, 0), (42, 33), (111, 0), (42, 34), (113, 0), (42, 35), (115, 0), (42, 36), (117, 0), (42, 37), (119, 0), (42, 38), (121, 0), (42, 39), (0, 9), (0, 10), (124, 0), (123, 0), (126, 0), (123, 1), (128, 0), (123, 2), (130, 0), (130, 1), (0, 12), (133, 0), (133, 1), (133, 2), (133, 3), (133, 5), (133, 6), (0, 13), (140, 1), (140, 3), (140, 5), (140, 6), (140, 7), (140, 8), (140, 9), (140, 21), (140, 22), (140, 23), (140, 24), (140, 25), (140, 26), (140, 27), (140, 28), (140, 29), (140, 30), (140, 31), (140, 32), (140, 33), (140, 34), (140, 35), (140, 36), (140, 38), (140, 39), (140, 40), (140, 41), (140, 42), (140, 44), (140, 45), (140, 46), (140, 48), (140, 49), (140, 51), (140, 52), (140, 57), (140, 58), (140, 59), (140, 60), (140, 62), (140, 65), (140, 66), (140, 67), (140, 68), (140, 69), (140, 70)]
def RHL : List ((Nat × Nat) × Nat) := [((0, 0), 1), ((2, 5), 3), ((2, 6), 4), ((2, 7), 5), ((2, 8), 6), ((2, 9), 7), ((8, 0), 9), ((8, 1), 10), ((8, 3), 11), ((8, 4), 12), ((8, 5), 13), ((2, 10), 8), ((14, 0), 15), ((2, 11), 14), ((0, 3), 2), ((16, 5), 17), ((16, 6), 18), ((16, 7), 19), ((16, 8), 20), ((16, 9), 21), ((22, 0), 23), ((22, 1), 24), ((22, 3), 25), ((22, 4), 26), ((22, 5), 27), ((16, 10), 22), ((28, 0), 29), ((16, 11), 28), ((0, 4), 16), ((31, 3), 1), ((31, 0), 32), ((31, 1), 33), ((31, 2), 34), ((30, 0), 31), ((30, 1), 16), ((0, 2), 30), ((35, 0), 36), ((0, 5), 35), ((37, 0), 38), ((0, 6), 37), ((39, 0), 2), ((39, 1), 35), ((0, 7), 39), ((40, 0), 2), ((40, 1), 37), ((0, 8), 40), ((41, 0), 42), ((43, 0), 44), ((42, 0), 43), ((45, 0), 46), ((42, 1), 45), ((47, 0), 48), ((42, 2), 47), ((49, 0), 50), ((42, 3), 49), ((51, 0), 52), ((42, 4), 51), ((53, 0), 54), ((42, 5), 53), ((55, 0), 56), ((42, 6), 55), ((57, 0), 58), ((42, 7), 57), ((59, 0), 60), ((42, 8), 59), ((61, 0), 62), ((42, 9), 61), ((63, 0), 64), ((42, 10), 63), ((65, 0), 66), ((42, 11), 65), ((67, 0), 68), ((42, 12), 67), ((69, 0), 70), ((42, 13), 69), ((71, 0), 72), ((42, 14), 71), ((73, 0), 74), ((42, 15), 73), ((75, 0), 76), ((42, 16), 75), ((77, 0), 78), ((42, 17), 77), ((79, 0), 80), ((42, 18), 79), ((81, 0), 82), ((42, 19), 81), ((83, 0), 84), ((42, 20), 83), ((85, 0), 86), ((42, 21), 85), ((87, 0), 88), ((42, 22), 87), ((89, 0), 90), ((42, 23), 89), ((91, 0), 92), ((42, 24), 91), ((93, 0), 94), ((42, 25), 93), ((95, 0), 96), ((42, 26), 95), ((97, 0), 98), ((42, 27), 97), ((99, 0), 100), ((42, 28), 99), ((101, 0), 102), ((42, 29), 101), ((103, 0), 104), ((42, 30), 103), ((105, 0), 106), ((42, 31), 105), ((107, 0), 108), ((42, 32), 107), ((109, 0), 110), ((42, 33), 109), ((111, 0), 112), ((42, 34), 111), ((113, 0), 114), ((42, 35), 113), ((115, 0), 116), ((42, 36), 115), ((117, 0), 118), ((42, 37), 117), ((119, 0), 120), ((42, 38), 119), ((121, 0), 122), ((42, 39), 121), ((0, 9), 41), ((0, 10), 123), ((124, 0), 125), ((123, 0), 124), ((126, 0), 127), ((123, 1), 126), ((128, 0), 129), ((123, 2), 128), ((130, 0), 131), ((130, 1), 132), ((0, 12), 130), ((133, 0), 134), ((133, 1), 135), ((133, 2), 136), ((133, 3), 137), ((133, 5), 138), ((133, 6), 139), ((0, 13), 133), ((140, 1), 141), ((140, 3), 142), ((140, 5), 143), ((140, 6), 144), ((140, 7), 145), ((140, 8), 146), ((140, 9), 147), ((140, 21), 148), ((140, 22), 149), ((140, 23), 150), ((140, 24), 151), ((140, 25), 152), ((140, 26), 153), ((140, 27), 154), ((140, 28), 155), ((140, 29), 156), ((140, 30), 157), ((140, 31), 158), ((140, 32), 159), ((140, 33), 160), ((140, 34), 161), ((140, 35), 162), ((140, 36), 163), ((140, 38), 164), ((140, 39), 165), ((140, 40), 166), ((140, 41), 167), ((140, 42), 168), ((140, 44), 169), ((140, 45), 170), ((140, 46), 171), ((140, 48), 172), ((140, 49), 173), ((140, 51), 174), ((140, 52), 175), ((140, 57), 176), ((140, 58), 177), ((140, 59), 178), ((140, 60), 179), ((140, 62), 180), ((140, 65), 181), ((140, 66), 182), ((140, 67), 183), ((140, 68), 184), ((140, 69), 185), ((140, 70), 186)]
/-! constructors: stages of the references (ASG: in which order they are set, RHO: to what), rules -/
def isR (a k : Nat) : Bool := match KD a with
  | (0, ci) => (FK ci k).isSome
  | (5, len) => decide (k < len)
  | _ => false
def NT (t : Nat) (a k : Nat) : Bool := isR a k && !((ASG.take t).contains (a, k))
def RHO (a k : Nat) : Nat := ((RHL.find? (fun q => q.1 == (a, k))).map (fun q => q.2)).getD 0
def zI (S : St) (n : Nat) : St := (fun b => if b = n then fun _ => 0 else S.1 b, fun b => if b = n then fun _ => 0 else S.2.1 b, S.2.2)
theorem NT_set {S : St} {t a kf q : Nat} (ht : ASG[t]? = some (a, kf)) (hq : S.2.2 a kf = q) : setR (rwN (NT t) S) a kf (some q) = rwN (NT (t + 1)) S := by
  refine Prod.ext rfl (Prod.ext rfl ?_)
  have htl : t < ASG.length := (List.getElem?_eq_some_iff.mp ht).1
  have htk : ASG.take (t + 1) = ASG.take t ++ [(a, kf)] := by
    rw [List.take_succ, ht]
    rfl
  funext b j
  simp only [setR, rwN, uu]
  by_cases hb : b = a
  · rw [if_pos hb]
    by_cases hj : j = kf
    · rw [if_pos hj]
      subst hb; subst hj
      simp [NT, htk, hq]
    · rw [if_neg hj]
      have : NT (t + 1) b j = NT t b j := by
        simp [NT, htk, hj]
      rw [this]
  · rw [if_neg hb]
    have : NT (t + 1) b j = NT t b j := by
      simp [NT, htk, hb]
    rw [this]
theorem ce_zI {b : Nat} {cA : Nat → ClassId} {N : Nat → Nat → Bool} {S : St} {n c : Nat} (h : c ≠ n) : ce b cA (rwN N (zI S n)) c = ce b cA (rwN N S) c := ce_congr (by simp [rwN, zI, h]) (by simp [rwN, zI, h]) rfl
theorem wz_congr {b : Nat} {cA : Nat → ClassId} {M M' : Mm} {n : Nat} (h : ∀ c, c < n → ce b cA M' c = ce b cA M c) : wz b cA M' n = wz b cA M n := by
  simp only [wz]
  exact List.map_congr_left (fun a ha => by rw [h a (List.mem_range.mp ha)])
theorem wz_zI {b : Nat} {cA : Nat → ClassId} {N : Nat → Nat → Bool} {S : St} {n : Nat} : wz b cA (rwN N (zI S n)) (n + 1) = wz b cA (rwN N S) n ++ [(b + n, ce b cA (rwN N (zI S n)) n)] := by
  rw [← wz_push, wz_congr (M := rwN N S) (fun c hc => ce_zI (Nat.ne_of_lt hc))]
section CR
variable {K : KK} {ρ : Type} {Zr : ρ → State → Prop} {cc : ByteArray} {nL : Nat} {own : String} {rt : Option FieldType} {pc : Nat} {ls : List (Option Value)} {st : List Value} {S : St} {n k w t : Nat} {e : Option ρ} {f : St → Option ρ}
theorem new_at {b : Nat} {cA : Nat → ClassId} {M : Mm} {H1 : Heap} {q : Nat} {v : va_E} {D : va_G} (p1 : va_P D vwCl (wz b cA M n ++ [(q, v)]) H1) (d1 : va_D (fun q => b ≤ q) (wz b cA M n ++ [(q, v)])) (hs : H1.size ≤ b + n + 1) : q = b + n := by
  have e1 : (wz b cA M n ++ [(q, v)])[n]? = some (q, v) := by
    rw [List.getElem?_append_right (by rw [wz_len]; omega), wz_len]
    simp
  have h1 := (p1 n _ e1).lt
  have h2 := d1.2 n _ e1
  have h1' : q < H1.size := h1
  have h2' : b ≤ q := h2
  rcases Nat.lt_or_ge q (b + n) with g | g
  · exfalso
    have hlt : q - b < n := by omega
    have e2 : (wz b cA M n ++ [(q, v)])[q - b]? = some (b + (q - b), ce b cA M (q - b)) := by
      rw [List.getElem?_append_left (by rw [wz_len]; omega), wz_at hlt]
    have := d1.1 (q - b) n _ _ e2 e1 (show b + (q - b) = q by omega)
    omega
  · omega
theorem C_new (X : CX K cc nL own rt) {ci idx N : Nat} {C : String} {T : u_T} (B : CB ci C T N) (hKD : KD n = (0, ci)) (hz : (ks K).heap.size + k = kB K + n) (hcl : Cond.classLink own idx C ∈ TT) (hit : Cond.instantiable C N ∈ TT) (hii : Cond.initialized C ∈ TT) (hdf : ∀ (b : Nat) (S : St) (j : Nat), j < N → defaultValue (tyC ci j) = fv b (rwN (NT t) (zI S n)) n j (tyC ci j)) (hR : k + 1 ≤ (kR K).cells ∧ w + N ≤ (kR K).slots) (hd : decode cc pc = .ok (.new idx, 3))
    (h : ∀ S1, S1 = zI S n → JX K Zr (pc + 3) ls (.ref n :: st) (rwN (NT t) S1) (n + 1) (k + 1) (w + N) (f S1)) : JX K Zr pc ls st (rwN (NT t) S) n k w (nm (zI S n) f) := by
  intro r hr H la locs hE hL
  refine va_new (fs := fl (kB K) (rwN (NT t) (zI S n)) n ci) X.1 X.2.1 X.2.2.2.2.1 B.1 (tyC ci) B.2.1 X.2.2.2.1 (X.2.2.2.2.1 _ hcl) (X.2.2.2.2.1 _ hit) (X.2.2.2.2.1 _ hii) X.2.2.2.2.2.1 hE.1 wz_D (S_rf hE.2.1) (fun q hq => Nat.le_trans (Nat.le_trans (Nat.le_add_right _ _) hE.2.2) hq) B.2.2.2.1 (fun j hj => ?_) hR.1 hR.2 hd (fun q H1 p1 d1 s1 => ?_)
  · rw [hdf (kB K) S j hj]
    unfold vp_V
    rw [List.getD, fl_get (by rw [B.2.2.2.2]; exact hj)]
    rfl
  · intro T' hT XX
    have hs : H1.size ≤ kB K + n + 1 := by
      have h1 := XX.same.2.2.1
      have h2 : (T'.setVm (ks K).vm).heap = T'.heap := rfl
      rw [h2, hT] at h1
      omega
    have hq := new_at p1 d1 hs
    subst hq
    refine h _ rfl r hr H1 la locs ⟨?_, S_tr hE.2.1 s1, ?_⟩ hL T' hT XX
    · rw [wz_zI, ce_obj hKD]
      exact p1
    · have e1 : (wz (kB K) (kA K) (rwN (NT t) S) n ++ [(kB K + n, Sum.inr (ci, fl (kB K) (rwN (NT t) (zI S n)) n ci))])[n]? = some (kB K + n, Sum.inr (ci, fl (kB K) (rwN (NT t) (zI S n)) n ci)) := by
        rw [List.getElem?_append_right (by rw [wz_len]; omega), wz_len]
        simp
      have h1 : kB K + n < H1.size := (p1 n _ e1).lt
      omega
theorem C_newa (X : CX K cc nL own rt) {atype : ArrayType} {ty : FieldType} {c len : Nat} {ni : Int32} {a0 : vp_A} (hz : (ks K).heap.size + k = kB K + n) (hc : ∀ cA : Nat → ClassId, (tyl cA)[c]? = some (cA (c + 1), ty)) (hRA : ∀ (U : State) (c1 c2 : ClassId), va_RA U c1 ty → va_RA U c2 ty → c1 = c2) (hce : ∀ (b : Nat) (cA : Nat → ClassId) (S : St), ce b cA (rwN (NT t) (zI S n)) n = .inl (cA (c + 1), a0)) (harr : Cond.arrayClass (newarray.typeOf atype) ∈ TT) (hty : newarray.typeOf atype = ty) (ha : ∀ cA : ClassId, vp_cell cA a0 = arrV cA len (fun _ => defaultValue ty)) (hn : ¬ ni < 0) (hN : ni.toNatClampNeg = len) (hbytes : len * componentBytes ty ≤ 536870912) (hR : k + 1 ≤ (kR K).cells ∧ w + len ≤ (kR K).slots) (hd : decode cc pc = .ok (.newarray atype, 2))
    (h : ∀ S1, S1 = zI S n → JX K Zr (pc + 2) ls (.ref n :: st) (rwN (NT t) S1) (n + 1) (k + 1) (w + len) (f S1)) : JX K Zr pc ls (.int ni :: st) (rwN (NT t) S) n k w (nm (zI S n) f) := by
  intro r hr H la locs hE hL
  refine va_newa X.1 X.2.1 (X.2.2.2.2.1 _ harr) hty X.2.2.2.2.2.1 hE.1 wz_D (S_rf hE.2.1) (fun q hq => Nat.le_trans (Nat.le_trans (Nat.le_add_right _ _) hE.2.2) hq) ha hn hN hbytes hR.1 hR.2 hd (fun q cA H1 hK1 p1 d1 s1 => ?_)
  intro T' hT XX
  have hs : H1.size ≤ kB K + n + 1 := by
    have h1 := XX.same.2.2.1
    have h2 : (T'.setVm (ks K).vm).heap = T'.heap := rfl
    rw [h2, hT] at h1
    omega
  have hq := new_at p1 d1 hs
  subst hq
  have hcA : cA = kA K (c + 1) := by
    have g1 := (hK1.2 5 (cA, ty) rfl).2
    have g2 := (X.2.2.2.2.2.1.2 c _ (hc (kA K))).2
    exact hRA _ _ _ g1 g2
  subst hcA
  have e1 : (wz (kB K) (kA K) (rwN (NT t) S) n ++ [(kB K + n, (Sum.inl (kA K (c + 1), a0) : va_E))])[n]? = some (kB K + n, Sum.inl (kA K (c + 1), a0)) := by
    rw [List.getElem?_append_right (by rw [wz_len]; omega), wz_len]
    simp
  have h1 : kB K + n < H1.size := (p1 n _ e1).lt
  refine h _ rfl r hr H1 la locs ⟨?_, S_tr hE.2.1 s1, by omega⟩ hL T' hT XX
  rw [wz_zI, hce]
  exact p1
theorem C_newq (X : CX K cc nL own rt) {idx len : Nat} {ni : Int32} (hz : (ks K).heap.size + k = kB K + n) (hKD : KD n = (5, len)) (hnul : ∀ i, i < len → NT t n i = true) (hcl : Cond.classLink own idx "SeaHair$Sea" ∈ TT) (hn : ¬ ni < 0) (hN : ni.toNatClampNeg = len) (hbytes : len * 4 ≤ 536870912) (hR : k + 1 ≤ (kR K).cells ∧ w + len ≤ (kR K).slots) (hd : decode cc pc = .ok (.anewarray idx, 3))
    (h : ∀ S1, S1 = zI S n → JX K Zr (pc + 3) ls (.ref n :: st) (rwN (NT t) S1) (n + 1) (k + 1) (w + len) (f S1)) : JX K Zr pc ls (.int ni :: st) (rwN (NT t) S) n k w (nm (zI S n) f) := by
  intro r hr H la locs hE hL
  refine va_newq X.1 X.2.1 X.2.2.2.1 (X.2.2.2.2.1 _ hcl) X.2.2.2.2.2.2.2.2.2.1.2.2.2.2.2.2 X.2.2.2.2.2.1 hE.1 wz_D (S_rf hE.2.1) (fun q hq => Nat.le_trans (Nat.le_trans (Nat.le_add_right _ _) hE.2.2) hq) hn hN hbytes hR.1 hR.2 hd (fun q cA H1 hK1 p1 d1 s1 => ?_)
  intro T' hT XX
  have hs : H1.size ≤ kB K + n + 1 := by
    have h1 := XX.same.2.2.1
    have h2 : (T'.setVm (ks K).vm).heap = T'.heap := rfl
    rw [h2, hT] at h1
    omega
  have hq := new_at p1 d1 hs
  subst hq
  have hcA : cA = kA K 5 := by
    obtain ⟨_, _, -, -, -, g1⟩ := (hK1.2 5 (cA, .object "SeaHair$Sea") rfl).2
    obtain ⟨_, _, -, -, -, g2⟩ := (X.2.2.2.2.2.1.2 4 (kA K 5, .object "SeaHair$Sea") rfl).2
    rw [g2] at g1
    exact (Option.some.inj g1).symm
  subst hcA
  have e1 : (wz (kB K) (kA K) (rwN (NT t) S) n ++ [(kB K + n, (Sum.inl (kA K 5, len, Sum.inr (Sum.inr (Sum.inr (Sum.inr (fun _ => none))))) : va_E))])[n]? = some (kB K + n, Sum.inl (kA K 5, len, Sum.inr (Sum.inr (Sum.inr (Sum.inr (fun _ => none)))))) := by
    rw [List.getElem?_append_right (by rw [wz_len]; omega), wz_len]
    simp
  have h1 : kB K + n < H1.size := (p1 n _ e1).lt
  refine h _ rfl r hr H1 la locs ⟨?_, S_tr hE.2.1 s1, by omega⟩ hL T' hT XX
  rw [wz_zI]
  intro j x hx
  rcases Nat.lt_or_ge j n with g | g
  · rw [List.getElem?_append_left (by rw [wz_len]; omega)] at hx
    exact p1 j x (by rw [List.getElem?_append_left (by rw [wz_len]; omega)]; exact hx)
  · have hj : j = n := by
      have := (List.getElem?_eq_some_iff.mp hx).1
      rw [List.length_append, wz_len] at this
      simp at this
      omega
    subst hj
    rw [List.getElem?_append_right (by rw [wz_len]; omega), wz_len] at hx
    simp at hx
    subst hx
    have h9 := p1 j _ e1
    show va_at _ _ (kB K + j, ce (kB K) (kA K) (rwN (NT t) (zI S j)) j) H1
    rw [ce_5 hKD]
    have h10 : H1[kB K + j]? = some (vp_cell (kA K 5) (len, Sum.inr (Sum.inr (Sum.inr (Sum.inr (fun _ => none)))))) := h9
    show H1[kB K + j]? = some (vp_cell (kA K 5) (len, _))
    rw [h10]
    congr 1
    simp only [vp_cell, arrV]
    congr 1
    apply Array.ext
    · simp
    · intro i hi1 hi2
      simp only [Array.getElem_ofFn]
      simp at hi1
      simp [rwN, hnul i hi1]
theorem C_putF (X : CX K cc nL own rt) {ci a kf idx N q : Nat} {C : String} {T : u_T} (B : CB ci C T N) (ha : KD a = (0, ci)) (hn : a < n) (ht : ASG[t]? = some (a, kf)) (hq : S.2.2 a kf = q) (hk : kf < N) (hl : Cond.fieldLink own idx (T kf).1 (T kf).2.1 (T kf).2.2.1 ∈ TT) (hv : ∀ (b : Nat) (M : Mm) (a : Nat), fv b M a kf (tyC ci kf) = va_rf ((M.2.2 a kf).map (fun x => b + x))) (hfin : (T kf).2.2.2 = true) (hin : (kme K).name = "<init>") (hdecl : (T kf).1 = own) (hnar : ∀ z, narrow (tyC ci kf) (.ref z) = .ref z) (hfit : ∀ z, fits (tyC ci kf) (.ref z) = true) (hd : decode cc pc = .ok (.putfield idx, 3)) (h : JX K Zr (pc + 3) ls st (rwN (NT (t + 1)) S) n k w e) : JX K Zr pc ls (.ref q :: .ref a :: st) (rwN (NT t) S) n k w e :=
  J_putF X B ha hn hk hl hv hfin hin hdecl hnar hfit hd (by rw [NT_set ht hq]; exact h)
theorem C_putR (X : CX K cc nL own rt) {ci a kf idx N q : Nat} {C : String} {T : u_T} (B : CB ci C T N) (ha : KD a = (0, ci)) (hn : a < n) (ht : ASG[t]? = some (a, kf)) (hq : S.2.2 a kf = q) (hk : kf < N) (hl : Cond.fieldLink own idx (T kf).1 (T kf).2.1 (T kf).2.2.1 ∈ TT) (hv : ∀ (b : Nat) (M : Mm) (a : Nat), fv b M a kf (tyC ci kf) = va_rf ((M.2.2 a kf).map (fun x => b + x))) (hfin : (T kf).2.2.2 = false) (hnar : ∀ z, narrow (tyC ci kf) (.ref z) = .ref z) (hfit : ∀ z, fits (tyC ci kf) (.ref z) = true) (hd : decode cc pc = .ok (.putfield idx, 3)) (h : JX K Zr (pc + 3) ls st (rwN (NT (t + 1)) S) n k w e) : JX K Zr pc ls (.ref q :: .ref a :: st) (rwN (NT t) S) n k w e :=
  J_putR X B ha hn hk hl hv hfin hnar hfit hd (by rw [NT_set ht hq]; exact h)
theorem C_putI (X : CX K cc nL own rt) {ci a kf idx N : Nat} {x : Int32} {C : String} {T : u_T} (B : CB ci C T N) (ha : KD a = (0, ci)) (hn : a < n) (hk : kf < N) (hl : Cond.fieldLink own idx (T kf).1 (T kf).2.1 (T kf).2.2.1 ∈ TT) (hv : ∀ (b : Nat) (M : Mm) (a : Nat), fv b M a kf (tyC ci kf) = .int (M.1 a kf)) (hfin : (T kf).2.2.2 = false) (hnar : narrow (tyC ci kf) (.int x) = .int x) (hfit : fits (tyC ci kf) (.int x) = true) (hd : decode cc pc = .ok (.putfield idx, 3)) (h : ∀ S1 : St, S1 = sI S a kf x → JX K Zr (pc + 3) ls st (rwN (NT t) S1) n k w (f S1)) : JX K Zr pc ls (.int x :: .ref a :: st) (rwN (NT t) S) n k w (nm (sI S a kf x) f) :=
  J_putI X B ha hn hk hl hv hfin hnar hfit hd (h _ rfl)
theorem C_getR (X : CX K cc nL own rt) {ci a kf idx N q : Nat} {C : String} {T : u_T} (B : CB ci C T N) (ha : KD a = (0, ci)) (hn : a < n) (hk : kf < N) (hl : Cond.fieldLink own idx (T kf).1 (T kf).2.1 (T kf).2.2.1 ∈ TT) (hv : ∀ (b : Nat) (M : Mm) (a : Nat), fv b M a kf (tyC ci kf) = va_rf ((M.2.2 a kf).map (fun x => b + x))) (hnt : NT t a kf = false) (hq : S.2.2 a kf = q) (hd : decode cc pc = .ok (.getfield idx, 3)) (h : JX K Zr (pc + 3) ls (.ref q :: st) (rwN (NT t) S) n k w e) : JX K Zr pc ls (.ref a :: st) (rwN (NT t) S) n k w e :=
  J_getR X B ha hn hk hl hv (by simp [rwN, hnt, hq]) hd h
theorem C_aast (X : CX K cc nL own rt) {i : Int32} {a len v j : Nat} (ha : KD a = (5, len)) (hn : a < n) (hv : KD v = (0, 5)) (hvn : v < n) (hij : i.toNatClampNeg = j) (hin : vp_in i len) (ht : ASG[t]? = some (a, j)) (hq : S.2.2 a j = v) (hd : decode cc pc = .ok (.aastore, 1)) (h : JX K Zr (pc + 1) ls st (rwN (NT (t + 1)) S) n k w e) : JX K Zr pc ls (.ref v :: .int i :: .ref a :: st) (rwN (NT t) S) n k w e := by
  intro r hr H la locs hE hL
  subst hij
  refine va_astq X.1 X.2.1 X.2.2.2.2.2.1 hE.1 wz_D (S_rf hE.2.1) a 4 v 5 (r := (RX5, TX5, 5)) ((wz_at hn).trans (by rw [ce_5 ha])) rfl ((wz_at hvn).trans (by rw [ce_obj hv])) rfl hin hd (fun H1 locs1 p1 d1 s1 => ?_)
  refine h r hr H1 la locs1 ⟨?_, S_tr hE.2.1 s1, Nat.le_trans hE.2.2 s1.1⟩ hL
  rw [← NT_set ht hq]
  rw [wz_set (M' := setR (rwN (NT t) S) a i.toNatClampNeg (some v)) hn ?_ (fun c hc => ce_setR hc)] at p1
  · exact p1
  · rw [ce_5 ha]
    congr 7
    funext j
    by_cases hj : j = i.toNatClampNeg <;> simp [setR, uu, va_up, hj]
theorem C_obj (X : CX K cc nL own rt) {idx a : Nat} (hl : Cond.methodLink own idx objectInit ∈ TT) (hst : (st.map fun v => v.category).sum ≤ 8) (hR : 1 ≤ (kR K).frames ∧ 30 ≤ (kR K).locals) (hd : decode cc pc = .ok (.invokespecial idx, 3)) (h : JX K Zr (pc + 3) ls st (rwN (NT t) S) n k w e) : JX K Zr pc ls (.ref a :: st) (rwN (NT t) S) n k w e := by
  intro r hr H la locs hE hL
  refine W.objInit X.1 X.2.1 X.2.2.2.1 (X.2.2.2.2.1 _ hl) (X.2.2.2.2.1 _ in_objectInit) (X.2.2.2.2.1 _ co_objectInit) (g := F0 (km K) pc la _) rfl hL.1 rfl hd hR.1 ?_ (h r hr H la locs hE hL)
  have h1 := lv_room (m := km K) (pc := pc) (ls := la) (rest := ([] : List Value)) (st := st.map (tv K)) (by rw [tsum]; exact hst)
  have h2 := hR.2
  have h3 : (F0 (km K) pc la (List.map (tv K) (Value.ref a :: st))).monitorRoom = (F0 (km K) pc la ([] : List Value)).monitorRoom := rfl
  rw [h3]
  omega
end CR

section CK
variable {K : KK} {cc : ByteArray} {nL : Nat} {own : String} {rt : Option FieldType} {pc : Nat} {ls : List (Option Value)} {st : List Value} {S : St} {ρ : Type}
variable {α : Type} {vr : α → Option Value} {e1 : Option (α × St)} {f : α → St → Option ρ} {Zr : ρ → State → Prop}
theorem T_callVk {k w : Nat} (w0 : WT (kDn K) S.2.2) (X : CX K cc nL own rt) {y : MethodName} {bytes : ByteArray} {maxL d idx ci a N : Nat} {T : u_T} {ret : Option FieldType} {As : List Value} {st0 : List Value} (hM : CM (kG K) y bytes maxL ret d (.ref a :: As) S vr e1) (B : CB ci y.cls T N) (ha : KA (kDn K) a (0, ci)) (hl : Cond.methodLink own idx y ∈ TT) (hin : Cond.instanceMethod y ∈ TT) (hse : Cond.selects y.cls y y ∈ TT) (hini : Cond.initialized y.cls ∈ TT) (hco : Cond.code y bytes maxL ret ∈ TT)
    (hy : y.cls ≠ "java/lang/invoke/MethodHandle" ∧ y.cls ≠ "java/lang/invoke/VarHandle" ∧ (parseMethodDescriptor y.desc).map (fun d => d.parameters.length) = some As.length) (hR : d + 1 ≤ (kR K).frames ∧ 8 + (maxL + 11) + 30 * d ≤ (kR K).locals) (hst0 : st0 = As.reverse ++ .ref a :: st) (hkw : k ≤ (kR K).cells ∧ w ≤ (kR K).slots) (hsum : (st.map fun v => v.category).sum ≤ 8) (hd : decode cc pc = .ok (.invokevirtual idx, 3))
    (h : ∀ (r : α) (S' : St), e1 = some (r, S') → WT (kDn K) S'.2.2 → JX K Zr (pc + 3) ls ((vr r).toList ++ st) (rwN (kN K) S') (kn K) k w (f r S')) : JX K Zr pc ls st0 (rwN (kN K) S) (kn K) k w (bd e1 f) := by
  subst hst0
  intro r hr H la locs hE hL
  obtain ⟨⟨x, S'⟩, hx, hf⟩ := Option.bind_eq_some_iff.mp hr
  refine run_to (rest := st.map (tv K)) (va_runV (As := As.map (tv K)) (Ts := TT) (nL := nL) (C := y.cls) (b := kB K + a) ⟨X.1, X.2.1, X.2.2.1, X.2.2.2.1, X.2.2.2.2.1⟩ (hM _ hx) ⟨callB_of As.length X.2.2.2.2.1 (GoodTT hco) rfl rfl rfl (X.2.2.2.2.1 _ hini) (X.2.2.2.2.1 _ hl) hy hR, X.2.2.2.2.1 _ hin, X.2.2.2.2.1 _ hse⟩ ⟨PreM_blind, va_recv X.2.2.2.2.2.1 hE.1 B.2.2.2.1 ((wz_at (ltn X ha)).trans (by rw [ce_obj ha.1])), fun U hU hW => ⟨rfl, PreM_at X w0 hE U hU hW⟩⟩ rfl (by simp) (hL.1.trans X.2.2.1) (by simp [F0]; rfl) (lv_room (by rw [tsum]; exact hsum)) hd ⟨hkw.1, hkw.2⟩) ?_
  intro v st₀ t L hL' hq
  obtain ⟨hv, hq⟩ := hq
  cases hv
  have := h x S' hx hq.2.2.2.2.2.2.2 r hf t.heap la (locs ++ L) (Em_back (v := none) hE hL' hq) hL
  have hst : (((vr x).toList ++ st).map (tv K)) = ((vr x).map (tg (kG K))).toList ++ st.map (tv K) := by
    cases vr x <;> simp
  rw [hst] at this
  exact this
theorem T_callSk {k w : Nat} (w0 : WT (kDn K) S.2.2) (X : CX K cc nL own rt) {y : MethodName} {bytes : ByteArray} {maxL d idx : Nat} {ret : Option FieldType} {As : List Value} {st0 : List Value} (hM : CM (kG K) y bytes maxL ret d As S vr e1) (hl : Cond.methodLink own idx y ∈ TT) (hst : Cond.static y ∈ TT) (hini : Cond.initialized y.cls ∈ TT) (hco : Cond.code y bytes maxL ret ∈ TT)
    (hy : y.cls ≠ "java/lang/invoke/MethodHandle" ∧ y.cls ≠ "java/lang/invoke/VarHandle" ∧ (parseMethodDescriptor y.desc).map (fun d => d.parameters.length) = some As.length) (hR : d + 1 ≤ (kR K).frames ∧ 8 + (maxL + 11) + 30 * d ≤ (kR K).locals) (hst0 : st0 = As.reverse ++ st) (hkw : k ≤ (kR K).cells ∧ w ≤ (kR K).slots) (hsum : (st.map fun v => v.category).sum ≤ 8) (hd : decode cc pc = .ok (.invokestatic idx, 3))
    (h : ∀ (r : α) (S' : St), e1 = some (r, S') → WT (kDn K) S'.2.2 → JX K Zr (pc + 3) ls ((vr r).toList ++ st) (rwN (kN K) S') (kn K) k w (f r S')) : JX K Zr pc ls st0 (rwN (kN K) S) (kn K) k w (bd e1 f) := by
  subst hst0
  intro r hr H la locs hE hL
  obtain ⟨⟨x, S'⟩, hx, hf⟩ := Option.bind_eq_some_iff.mp hr
  refine run_to (rest := st.map (tv K)) (va_runS (As := As.map (tv K)) (Ts := TT) (nL := nL) ⟨X.1, X.2.1, X.2.2.1, X.2.2.2.1, X.2.2.2.2.1⟩ (hM _ hx) ⟨callB_of As.length X.2.2.2.2.1 (GoodTT hco) rfl rfl rfl (X.2.2.2.2.1 _ hini) (X.2.2.2.2.1 _ hl) hy hR, X.2.2.2.2.1 _ hst⟩ ⟨PreM_blind, fun U hU hW => ⟨rfl, PreM_at X w0 hE U hU hW⟩⟩ rfl (by simp) (hL.1.trans X.2.2.1) (by simp [F0]) (lv_room (by rw [tsum]; exact hsum)) hd ⟨hkw.1, hkw.2⟩) ?_
  intro v st₀ t L hL' hq
  obtain ⟨hv, hq⟩ := hq
  cases hv
  have := h x S' hx hq.2.2.2.2.2.2.2 r hf t.heap la (locs ++ L) (Em_back (v := none) hE hL' hq) hL
  have hst : (((vr x).toList ++ st).map (tv K)) = ((vr x).map (tg (kG K))).toList ++ st.map (tv K) := by
    cases vr x <;> simp
  rw [hst] at this
  exact this
end CK
def PreC (G : GG) (t n : Nat) (S : St) (U : State) : Prop := va_P G.2.2.1 vwCl (wz G.2.1 G.2.2.2.1 (rwN (NT t) S) n) U.heap ∧ va_S (fun q => G.2.1 ≤ q) G.1.heap U.heap [] ∧ U.heap.size = G.2.1 + n ∧ va_K G.2.2.1 vwCl (tyl G.2.2.2.1) U ∧ G.1.heap.size = G.2.1 ∧ SF G.1 G.2.1 G.2.2.2.2.1.1 G.2.2.2.2.1.2.1 U ∧ S.2.2 = RHO
def rmC (d mc ms : Nat) : Room := { frames := d, cells := mc, slots := ms, locals := 30 * d }
def QcC (G : GG) (t n : Nat) (S' : St) : Array Value → State → Outcome → State → Prop := fun _ _ o u => o = .returned none ∧ PreC G t n S' u
def CI (G : GG) (y : MethodName) (cc : ByteArray) (nL d mc ms : Nat) (args : List Value) (t n : Nat) (S : St) (t' n' : Nat) (e : Option (Unit × St)) : Prop :=
  ∀ r, e = some r → Met G.2.2.2.2.2 y (.code y cc nL none :: TT) (rmC d mc ms) (va_Pc (args.map (tg G)) (PreC G t n S)) (QcC G t' n' r.2) mc ms (fun q => G.2.1 ≤ q)
def Zc (K : KK) (t n mc ms : Nat) (r : Unit × St) : State → Prop := MQ (kbe K) (QcC (kG K) t n r.2) (kar K) (ks K) mc ms (fun q => kB K ≤ q)
theorem CI_of {G : GG} {y : MethodName} {cc : ByteArray} {nL d mc ms : Nat} {args : List Value} {t n t' n' : Nat} {S : St} {e : Option (Unit × St)} {ls : List (Option Value)} (hDG : ∀ a, gD G a → False) (hy : plainName y.cls = true) (hyn : y.name = "<init>") (hn : (enl args).length ≤ nL) (hls : en nL args = ls)
    (h : ∀ K : KK, kG K = G → CX K cc nL y.cls none → kR K = rmC d mc ms → (kme K).name = "<init>" → (ks K).heap.size = kB K + n → S.2.2 = RHO → JX K (Zc K t' n' mc ms) 0 ls [] (rwN (NT t) S) n 0 0 e) : CI G y cc nL d mc ms args t n S t' n' e := by
  intro r hr
  refine Met.ofW (cc := cc) (maxL := nL) (ret := none) hy rfl ?_
  intro p en_ s m args' below meth c s₁ B hml hv
  obtain ⟨rfl, hP, hS, hz, hK, h0, hF, hρ⟩ := hv
  have hts := atoms_spec (ws := Cond.code y cc nL none :: TT) B.pre
  have hl := lv_entry (args.map (tg G)) (n := nL) (by rw [enl_len]; exact hn)
  have hin : meth.name = "<init>" := by rw [(name_of_methodNamed B.named B.method).1]; exact hyn
  rw [lg_entry_eq]
  exact h (G.1, G.2.1, G.2.2.1, G.2.2.2.1, G.2.2.2.2.1, p, G.2.2.2.2.2, en_, rmC d mc ms, s, m, _, below, meth, c) rfl
    ⟨B.exec, B.bytes, hml, findClass_of_methodNamed B.named, fun w hw => hts w (List.mem_cons_of_mem _ hw), hK, B.notSynchronized, h0, B.returns, hF, fun a ha => (hDG a ha).elim⟩ rfl hin hz hρ r hr s.heap _ [] ⟨hP, hS, by rw [hz]; exact Nat.le_refl _⟩
    ⟨by rw [hml]; exact hl.1, hl.2.1, fun i v hi => by
      have h2 : (enl args)[i]? = some (some v) := by
        rw [← hls] at hi
        unfold en at hi
        rcases Nat.lt_or_ge i (enl args).length with g | g
        · rwa [List.getElem?_append_left g] at hi
        · rw [List.getElem?_append_right g] at hi
          simp [List.getElem?_replicate] at hi
      have := enl_mem (b := G.2.1) (sk := G.2.2.2.2.1.1) args 0 i v h2
      rw [Nat.zero_add] at this
      exact hl.2.2 _ this⟩
section CV
variable {K : KK} {ρ : Type} {Zr : ρ → State → Prop} {cc : ByteArray} {nL : Nat} {own : String} {rt : Option FieldType} {pc : Nat} {ls : List (Option Value)} {st : List Value} {S : St} {n k w t : Nat} {e : Option ρ}
theorem size_eq {H : Heap} {locs : List Loc} {M : Mm} {T : State} (hz : (ks K).heap.size + k = kB K + n) (hE : Em K M n H locs) (hT : T.heap = H) (XX : Stand (kp K) (kl K) (ke K) (kR K) (ks K) (km K) (kar K) (kbe K) (kme K) (kc K) T locs k w) : H.size = kB K + n := by
  have h1 := XX.same.2.2.1
  have h2 : (T.setVm (ks K).vm).heap = T.heap := rfl
  rw [h2, hT] at h1
  have := hE.2.2
  omega
theorem PreC_at {H : Heap} {locs : List Loc} (X : CX K cc nL own rt) (hE : Em K (rwN (NT t) S) n H locs) (hs : H.size = kB K + n) (hρ : S.2.2 = RHO) {u : State} (ht : u.heap = H) (hW : (ks K).WarmedH u.vm) : PreC (kG K) t n S u := by
  obtain ⟨-, -, -, -, -, hK, -, h0, -, hF, -⟩ := X
  refine ⟨by rw [ht]; exact hE.1, ?_, by rw [ht]; exact hs, va_K.moved hW.alike hK, h0, hF.warm hW, hρ⟩
  rw [ht]
  exact ⟨hE.2.1.1, hE.2.1.2.1, fun l h => by simp at h⟩
theorem C_vret (X : CX K cc nL own none) (hz : (ks K).heap.size + k = kB K + n) (hρ : S.2.2 = RHO) (hd : decode cc pc = .ok (.return_, 1)) : JX K (Zc K t n k w) pc ls [] (rwN (NT t) S) n k w (some ((), S)) := by
  intro r hr H la locs hE hL T hT XX
  cases hr
  have hs := size_eq hz hE hT XX
  exact W.vret X.1 X.2.1 X.2.2.2.2.2.2.2.2.1 (fun u hu hW => ⟨rfl, PreC_at X hE hs hρ hu hW⟩) hE.2.1.2.2 hd (hlocks := X.2.2.2.2.2.2.1) T hT XX
theorem run_toC {p : Program} {l : Launch} {e : Env} {R : Room} {s : State} {m : MethodId} {args : Array Value} {below : List Frame} {meth : Method} {c : Code} {H : Heap} {locs : List Loc} {k w mc ms : Nat} {g : JFrame} {rest : List Value} {Qa : State → Outcome → State → Prop} {free : Addr → Prop} {Q : State → Prop}
    (hr : va_Run p l e R s m args below meth c H locs k w mc ms g rest Qa free) (hk : ∀ (v : Option Value) (st₀ t : State) (L : List Loc), (∀ q ∈ L, free q.base) → Qa st₀ (.returned v) t → W p l e R s m args below meth c t.heap (locs ++ L) (k + mc) (w + ms) Q { g with pc := g.pc + 3, stack := v.toList ++ rest }) : W p l e R s m args below meth c H locs k w Q g := by
  intro T hT X
  obtain ⟨v, st₀, t, T', L, h0, X', hL, e1, e2, hq, st⟩ := hr T hT X
  obtain ⟨t2, a1, b1⟩ := hk v st₀ t L hL hq T' e1 X'
  exact ⟨t2, st t2 a1, b1⟩
theorem PreC_blind {G : GG} {av : List Value} : FrameBlind (va_Pc av (PreC G t n S)) := by
  intro a U g mk q
  obtain ⟨q0, q1, q2, q3, q4, q5, q6, q7⟩ := q
  exact ⟨q0, q1, q2, q3, va_K.moved (u := U) (U := U.calling g mk a) (Vm.Alike.refl U.vm) q4, q5, q6.same rfl, q7⟩
theorem C_callI (X : CX K cc nL own rt) {y : MethodName} {bytes : ByteArray} {maxL d idx a mc ms t' n' : Nat} {As st0 : List Value} {e1 : Option (Unit × St)} {f : St → Option ρ} (hM : CI (kG K) y bytes maxL d mc ms (.ref a :: As) t n S t' n' e1) (hl : Cond.methodLink own idx y ∈ TT) (hin : Cond.instanceMethod y ∈ TT) (hini : Cond.initialized y.cls ∈ TT) (hco : Cond.code y bytes maxL none ∈ TT) (hyn : y.name = "<init>")
    (hy : y.cls ≠ "java/lang/invoke/MethodHandle" ∧ y.cls ≠ "java/lang/invoke/VarHandle" ∧ (parseMethodDescriptor y.desc).map (fun d => d.parameters.length) = some As.length) (hR : d + 1 ≤ (kR K).frames ∧ 8 + (maxL + 11) + 30 * d ≤ (kR K).locals) (hf : k + mc ≤ (kR K).cells ∧ w + ms ≤ (kR K).slots) (hz : (ks K).heap.size + k = kB K + n) (hρ : S.2.2 = RHO) (hst0 : st0 = As.reverse ++ .ref a :: st) (hsum : (st.map fun v => v.category).sum ≤ 8) (hd : decode cc pc = .ok (.invokespecial idx, 3))
    (h : ∀ S' : St, S'.2.2 = RHO → JX K Zr (pc + 3) ls st (rwN (NT t') S') n' (k + mc) (w + ms) (f S')) : JX K Zr pc ls st0 (rwN (NT t) S) n k w (bd e1 (fun _ => f)) := by
  subst hst0
  intro r hr H la locs hE hL T hT XX
  obtain ⟨⟨x, S'⟩, hx, hf'⟩ := Option.bind_eq_some_iff.mp hr
  have hs := size_eq hz hE hT XX
  refine run_toC (rest := st.map (tv K)) (va_runI (As := As.map (tv K)) (Ts := TT) (nL := nL) (b := kB K + a) ⟨X.1, X.2.1, X.2.2.1, X.2.2.2.1, X.2.2.2.2.1⟩ (hM _ hx) ⟨callB_of As.length X.2.2.2.2.1 (GoodTT hco) rfl rfl rfl (X.2.2.2.2.1 _ hini) (X.2.2.2.2.1 _ hl) hy hR, hyn, X.2.2.2.2.1 _ hin⟩ ⟨PreC_blind, fun U hU hW => ⟨rfl, PreC_at X hE hs hρ hU hW⟩⟩ rfl (by simp) (hL.1.trans X.2.2.1) (by simp [F0]; rfl) (lv_room (by rw [tsum]; exact hsum)) hd hf) ?_ T hT XX
  intro v st₀ u L hL' hq
  obtain ⟨hv, hq⟩ := hq
  cases hv
  exact h S' hq.2.2.2.2.2.2 r hf' u.heap la (locs ++ L) ⟨hq.1, ⟨hq.2.1.1, hq.2.1.2.1, fun q h => (List.mem_append.mp h).elim (hE.2.1.2.2 q) (hL' q)⟩, by rw [hq.2.2.1]; exact Nat.le_refl _⟩ hL
theorem C_ge_t (X : CX K cc nL own rt) {x y : Int32} {off : Int} {tgt : Nat} {M : Mm} (hc : y ≤ x) (hd : decode cc pc = .ok (.if_icmp .ge off, 3)) (ht : (pc : Int) + off = (tgt : Int)) (h : JX K Zr tgt ls st M n k w e) : JX K Zr pc ls (.int y :: .int x :: st) M n k w e :=
  fun r hr H la locs hE hL => lv_icmp_ge X.1 X.2.1 hd ht (fun _ => h r hr H la locs hE hL) (fun q => absurd hc q)
theorem C_ge_f (X : CX K cc nL own rt) {x y : Int32} {off : Int} {tgt : Nat} {M : Mm} (hc : ¬ y ≤ x) (hd : decode cc pc = .ok (.if_icmp .ge off, 3)) (ht : (pc : Int) + off = (tgt : Int)) (h : JX K Zr (pc + 3) ls st M n k w e) : JX K Zr pc ls (.int y :: .int x :: st) M n k w e :=
  fun r hr H la locs hE hL => lv_icmp_ge X.1 X.2.1 hd ht (fun q => absurd q hc) (fun _ => h r hr H la locs hE hL)
end CV
def ksw (K : KK) (N : Nat → Nat → Bool) (n : Nat) (D : Nat → Prop) : KK := (kS0 K, kB K, kD K, kA K, (kK K, kV K, N, n, D), kp K, kl K, ke K, kR K, ks K, km K, kar K, kbe K, kme K, kc K)
theorem CX_sw {K : KK} {cc : ByteArray} {nL : Nat} {own : String} {rt : Option FieldType} (X : CX K cc nL own rt) {N : Nat → Nat → Bool} {n : Nat} {D : Nat → Prop} (h : ∀ a, D a → a < n ∧ ∀ k, N a k = false) : CX (ksw K N n D) cc nL own rt := ⟨X.1, X.2.1, X.2.2.1, X.2.2.2.1, X.2.2.2.2.1, X.2.2.2.2.2.1, X.2.2.2.2.2.2.1, X.2.2.2.2.2.2.2.1, X.2.2.2.2.2.2.2.2.1, X.2.2.2.2.2.2.2.2.2.1, h⟩
def gsw (G : GG) (N : Nat → Nat → Bool) (n : Nat) (D : Nat → Prop) : GG := (G.1, G.2.1, G.2.2.1, G.2.2.2.1, (G.2.2.2.2.1.1, G.2.2.2.2.1.2.1, N, n, D), G.2.2.2.2.2)
/-- the cells lo .. hi - 1 are done at stage t: a check by program -/
def dnok (t lo hi : Nat) (g : Nat → Nat → Nat) : Bool := (List.range (hi - lo)).all (fun i => match KD (lo + i) with
  | (0, ci) => (List.range 71).all (fun k => match FK ci k with
    | some d => decide (KD (g (lo + i) k) = d) && decide (lo ≤ g (lo + i) k) && decide (g (lo + i) k < hi) && !(NT t (lo + i) k)
    | none => true)
  | (5, len) => (List.range len).all (fun k => decide (KD (g (lo + i) k) = (0, 5)) && decide (lo ≤ g (lo + i) k) && decide (g (lo + i) k < hi) && !(NT t (lo + i) k))
  | _ => true)
theorem FK_lt {ci k : Nat} {d : Nat × Nat} (h : FK ci k = some d) : k < 71 := by
  unfold FK at h
  split at h <;> first | omega | cases h
theorem dn_WT {t lo hi : Nat} {g : Nat → Nat → Nat} (h : dnok t lo hi g = true) : WT (fun a => lo ≤ a ∧ a < hi) g := by
  unfold dnok at h
  rw [List.all_eq_true] at h
  refine ⟨fun a ci ha k d hk => ?_, fun a len ha i hi' => ?_⟩
  · obtain ⟨h1, h2, h3⟩ := ha
    have := h (a - lo) (List.mem_range.mpr (by omega))
    rw [show lo + (a - lo) = a by omega, h1] at this
    simp only [List.all_eq_true] at this
    have := this k (List.mem_range.mpr (FK_lt hk))
    rw [hk] at this
    simp only [Bool.and_eq_true, decide_eq_true_eq] at this
    exact ⟨this.1.1.1, this.1.1.2, this.1.2⟩
  · obtain ⟨h1, h2, h3⟩ := ha
    have := h (a - lo) (List.mem_range.mpr (by omega))
    rw [show lo + (a - lo) = a by omega, h1] at this
    simp only [List.all_eq_true] at this
    have := this i (List.mem_range.mpr hi')
    simp only [Bool.and_eq_true, decide_eq_true_eq] at this
    exact ⟨this.1.1.1, this.1.1.2, this.1.2⟩
theorem dn_N {t lo hi : Nat} {g : Nat → Nat → Nat} (h : dnok t lo hi g = true) {n : Nat} (hn : hi ≤ n) : ∀ a, (lo ≤ a ∧ a < hi) → a < n ∧ ∀ k, NT t a k = false := by
  unfold dnok at h
  rw [List.all_eq_true] at h
  intro a ⟨h2, h3⟩
  refine ⟨by omega, fun k => ?_⟩
  have := h (a - lo) (List.mem_range.mpr (by omega))
  rw [show lo + (a - lo) = a by omega] at this
  cases hr : isR a k with
  | false => simp [NT, hr]
  | true =>
    unfold isR at hr
    split at hr
    next ci hk =>
      rw [hk] at this
      simp only [List.all_eq_true] at this
      cases hf : FK ci k with
      | none => rw [hf] at hr; cases hr
      | some d =>
        have := this k (List.mem_range.mpr (FK_lt hf))
        rw [hf] at this
        simp only [Bool.and_eq_true, Bool.not_eq_true'] at this
        exact this.2
    next len hk =>
      rw [hk] at this
      simp only [List.all_eq_true] at this
      have := this k (List.mem_range.mpr (by simpa using hr))
      simp only [Bool.and_eq_true, Bool.not_eq_true'] at this
      exact this.2
    next => cases hr

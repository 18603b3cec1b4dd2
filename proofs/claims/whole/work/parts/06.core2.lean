def FK (ci k : Nat) : Option (Nat × Nat) := match ci, k with
  | 0, 5 => some (4, 4)
  | 0, 6 => some (4, 6)
  | 0, 7 => some (1, 6)
  | 0, 8 => some (1, 8)
  | 0, 9 => some (1, 8)
  | 0, 10 => some (0, 2)
  | 0, 11 => some (0, 5)
  | 1, 0 => some (5, 40)
  | 2, 0 => some (1, 9)
  | 2, 1 => some (1, 404)
  | 2, 3 => some (1, 56)
  | 2, 4 => some (1, 4)
  | 2, 5 => some (1, 15)
  | 3, 0 => some (1, 8)
  | 3, 1 => some (1, 8)
  | 4, 0 => some (0, 6)
  | 4, 1 => some (0, 0)
  | 5, 0 => some (1, 36)
  | 6, 0 => some (1, 401)
  | 6, 1 => some (1, 401)
  | 6, 2 => some (4, 401)
  | 6, 3 => some (2, 2000)
  | 7, 0 => some (1, 20)
  | 7, 1 => some (1, 20)
  | 7, 2 => some (1, 20)
  | 7, 3 => some (1, 20)
  | 7, 5 => some (3, 100)
  | 7, 6 => some (1, 9)
  | 8, 0 => some (0, 0)
  | 8, 1 => some (0, 5)
  | 9, 0 => some (2, 2000)
  | 9, 2 => some (0, 4)
  | 9, 3 => some (0, 0)
  | 9, 4 => some (0, 0)
  | 9, 5 => some (0, 5)
  | 9, 6 => some (0, 5)
  | 9, 7 => some (0, 8)
  | 9, 8 => some (0, 8)
  | 9, 9 => some (0, 1)
  | 9, 10 => some (5, 3)
  | 9, 12 => some (0, 3)
  | 9, 13 => some (0, 7)
  | 10, 1 => some (2, 2000)
  | 10, 3 => some (2, 2000)
  | 10, 5 => some (1, 403)
  | 10, 6 => some (1, 403)
  | 10, 7 => some (1, 403)
  | 10, 8 => some (4, 403)
  | 10, 9 => some (4, 21)
  | 10, 21 => some (4, 10)
  | 10, 22 => some (1, 10)
  | 10, 23 => some (1, 2)
  | 10, 24 => some (1, 32)
  | 10, 25 => some (1, 2)
  | 10, 26 => some (1, 12)
  | 10, 27 => some (1, 12)
  | 10, 28 => some (1, 12)
  | 10, 29 => some (1, 2)
  | 10, 30 => some (1, 16)
  | 10, 31 => some (1, 16)
  | 10, 32 => some (1, 16)
  | 10, 33 => some (1, 2)
  | 10, 34 => some (1, 2)
  | 10, 35 => some (1, 8)
  | 10, 36 => some (1, 8)
  | 10, 38 => some (3, 260)
  | 10, 39 => some (1, 260)
  | 10, 40 => some (1, 260)
  | 10, 41 => some (1, 260)
  | 10, 42 => some (1, 260)
  | 10, 44 => some (1, 840)
  | 10, 45 => some (1, 840)
  | 10, 46 => some (1, 64)
  | 10, 48 => some (1, 9)
  | 10, 49 => some (1, 400)
  | 10, 51 => some (1, 55)
  | 10, 52 => some (1, 55)
  | 10, 57 => some (3, 6)
  | 10, 58 => some (1, 6)
  | 10, 59 => some (1, 6)
  | 10, 60 => some (3, 6)
  | 10, 62 => some (1, 2200)
  | 10, 65 => some (1, 20)
  | 10, 66 => some (1, 20)
  | 10, 67 => some (1, 20)
  | 10, 68 => some (1, 9)
  | 10, 69 => some (3, 3)
  | 10, 70 => some (1, 165)
  | _, _ => none
/-! core 2: typed states (all references set), contracts, returns, calls -/
abbrev St : Type := (Nat → Nat → Int32) × (Nat → Nat → Int64) × (Nat → Nat → Nat)
def rwN (N : Nat → Nat → Bool) (S : St) : Mm := (S.1, S.2.1, fun a k => if N a k then none else some (S.2.2 a k))
/-- of a kind, and done: its references are all set -/
def KA (D : Nat → Prop) (a : Nat) (d : Nat × Nat) : Prop := KD a = d ∧ D a
def sI (S : St) (a i : Nat) (v : Int32) : St := (uu S.1 a i v, S.2.1, S.2.2)
def sL (S : St) (a i : Nat) (v : Int64) : St := (S.1, uu S.2.1 a i v, S.2.2)
def sR (S : St) (a i : Nat) (v : Nat) : St := (S.1, S.2.1, uu S.2.2 a i v)
theorem rw_sR {N : Nat → Nat → Bool} {S : St} {a i v : Nat} (h : N a i = false) : setR (rwN N S) a i (some v) = rwN N (sR S a i v) := by
  refine Prod.ext rfl (Prod.ext rfl ?_)
  funext b j
  simp only [setR, rwN, sR, uu]
  split
  next hb =>
    subst hb
    split
    next hj => subst hj; simp [h]
    next => rfl
  next => rfl
/-- what the references of a typed state point to: by class and field (FK) -/
def WT (D : Nat → Prop) (g : Nat → Nat → Nat) : Prop := (∀ a ci, KA D a (0, ci) → ∀ k d, FK ci k = some d → KA D (g a k) d) ∧ ∀ a len, KA D a (5, len) → ∀ i, i < len → KA D (g a i) (0, 5)
theorem WT.set {D : Nat → Prop} {g : Nat → Nat → Nat} (h : WT D g) {a ci k q : Nat} {d : Nat × Nat} (ha : KA D a (0, ci)) (hk : FK ci k = some d) (hq : KA D q d) : WT D (uu g a k q) := by
  refine ⟨fun b cj hb j d' hj => ?_, fun b len hb i hi => ?_⟩
  · by_cases hba : b = a
    · subst hba
      rw [uu_at]
      by_cases hjk : j = k
      · subst hjk
        have e := ha.1.symm.trans hb.1
        cases e
        rw [hk] at hj
        cases hj
        simp only [if_true]
        exact hq
      · simp only [if_neg hjk]
        exact h.1 b cj hb j d' hj
    · rw [uu_ne hba]
      exact h.1 b cj hb j d' hj
  · have hba : b ≠ a := fun q => by
      subst q
      have e := ha.1.symm.trans hb.1
      cases e
    rw [uu_ne hba]
    exact h.2 b len hb i hi
theorem ltn {K : KK} {cc : ByteArray} {nL : Nat} {own : String} {rt : Option FieldType} (X : CX K cc nL own rt) {a : Nat} {d : Nat × Nat} (h : KA (kDn K) a d) : a < kn K := (X.2.2.2.2.2.2.2.2.2.2 a h.2).1
theorem nfn {K : KK} {cc : ByteArray} {nL : Nat} {own : String} {rt : Option FieldType} (X : CX K cc nL own rt) {a : Nat} {d : Nat × Nat} (h : KA (kDn K) a d) (k : Nat) : kN K a k = false := (X.2.2.2.2.2.2.2.2.2.2 a h.2).2 k
abbrev GG : Type := State × Nat × va_G × (Nat → ClassId) × ((Nat → Nat) × (Nat → Nat) × (Nat → Nat → Bool) × Nat × (Nat → Prop)) × Launch
abbrev kG (K : KK) : GG := (kS0 K, kB K, kD K, kA K, (kK K, kV K, kN K, kn K, kDn K), kl K)
abbrev gN (G : GG) : Nat → Nat → Bool := G.2.2.2.2.1.2.2.1
abbrev gn (G : GG) : Nat := G.2.2.2.2.1.2.2.2.1
abbrev gD (G : GG) : Nat → Prop := G.2.2.2.2.1.2.2.2.2
def PreM (G : GG) (S : St) (U : State) : Prop := va_P G.2.2.1 vwCl (wz G.2.1 G.2.2.2.1 (rwN (gN G) S) (gn G)) U.heap ∧ va_S (fun q => G.2.1 ≤ q) G.1.heap U.heap [] ∧ G.2.1 + gn G ≤ U.heap.size ∧ va_K G.2.2.1 vwCl (tyl G.2.2.2.1) U ∧ G.1.heap.size = G.2.1 ∧ SF G.1 G.2.1 G.2.2.2.2.1.1 G.2.2.2.2.1.2.1 U ∧ (∀ a, gD G a → a < gn G ∧ ∀ k, gN G a k = false) ∧ WT (gD G) S.2.2
def rmD (d : Nat) : Room := { frames := d, cells := 0, slots := 0, locals := 30 * d }
abbrev tg (G : GG) (v : Value) : Value := tw G.2.1 G.2.2.2.2.1.1 v
def QcM (G : GG) (v : Option Value) (S' : St) : Array Value → State → Outcome → State → Prop := fun _ _ o t => o = .returned (v.map (tg G)) ∧ PreM G S' t
def CM (G : GG) (y : MethodName) (cc : ByteArray) (nL : Nat) (ret : Option FieldType) (d : Nat) (args : List Value) (S : St) {α : Type} (vr : α → Option Value) (e : Option (α × St)) : Prop :=
  ∀ r, e = some r → Met G.2.2.2.2.2 y (.code y cc nL ret :: TT) (rmD d) (va_Pc (args.map (tg G)) (PreM G S)) (QcM G (vr r.1) r.2) 0 0 (fun q => G.2.1 ≤ q)
def Zm (K : KK) {α : Type} (vr : α → Option Value) (r : α × St) : State → Prop := MQ (kbe K) (QcM (kG K) (vr r.1) r.2) (kar K) (ks K) 0 0 (fun q => kB K ≤ q)
def enl : List Value → List (Option Value)
  | [] => []
  | v :: t => if v.category = 2 then some v :: none :: enl t else some v :: enl t
theorem enl_mem {b : Nat} {sk : Nat → Nat} : ∀ (vs : List Value) (o i : Nat) (v : Value), (enl vs)[i]? = some (some v) → (o + i, tw b sk v) ∈ lv_args o (vs.map (tw b sk))
  | [], _, _, _, h => by simp [enl] at h
  | u :: t, o, i, v, h => by
    have hcat : (tw b sk u).category = u.category := by cases u <;> rfl
    simp only [List.map_cons, lv_args, hcat]
    by_cases hc : u.category = 2
    · simp only [enl, if_pos hc] at h ⊢
      match i, h with
      | 0, h => simp at h; subst h; exact List.mem_cons_self
      | 1, h => simp at h
      | i + 2, h =>
        have := enl_mem (b := b) (sk := sk) t (o + 2) i v (by simpa using h)
        rw [show o + (i + 2) = o + 2 + i by omega]
        exact List.mem_cons_of_mem _ this
    · simp only [enl, if_neg hc] at h ⊢
      match i, h with
      | 0, h => simp at h; subst h; exact List.mem_cons_self
      | i + 1, h =>
        have := enl_mem (b := b) (sk := sk) t (o + 1) i v (by simpa using h)
        rw [show o + (i + 1) = o + 1 + i by omega]
        exact List.mem_cons_of_mem _ this
theorem enl_len {b : Nat} {sk : Nat → Nat} : ∀ vs : List Value, (lg_sl (vs.map (tw b sk))).length = (enl vs).length
  | [] => rfl
  | u :: t => by
    have hcat : (tw b sk u).category = u.category := by cases u <;> rfl
    have := enl_len (b := b) (sk := sk) t
    by_cases hc : u.category = 2
    · simp [lg_sl, enl, hc, hcat] at this ⊢
      omega
    · simp [lg_sl, enl, hc, hcat] at this ⊢
      omega
def en (nL : Nat) (vs : List Value) : List (Option Value) := enl vs ++ List.replicate (nL - (enl vs).length) none
theorem CM_of {G : GG} {y : MethodName} {cc : ByteArray} {nL : Nat} {ret : Option FieldType} {d : Nat} {args : List Value} {S : St} {α : Type} {vr : α → Option Value} {e : Option (α × St)} {ls : List (Option Value)} (hy : plainName y.cls = true) (hn : (enl args).length ≤ nL) (hls : en nL args = ls)
    (h : ∀ K : KK, kG K = G → CX K cc nL y.cls ret → kR K = rmD d → WT (gD G) S.2.2 → JX K (Zm K vr) 0 ls [] (rwN (kN K) S) (kn K) 0 0 e) : CM G y cc nL ret d args S vr e := by
  intro r hr
  refine Met.ofW (cc := cc) (maxL := nL) (ret := ret) hy rfl ?_
  intro p en_ s m args' below meth c s₁ B hml hv
  obtain ⟨rfl, hP, hS, hz, hK, h0, hF, hDn, hWT⟩ := hv
  have hts := atoms_spec (ws := Cond.code y cc nL ret :: TT) B.pre
  have hl := lv_entry (args.map (tg G)) (n := nL) (by rw [enl_len]; exact hn)
  rw [lg_entry_eq]
  exact h (G.1, G.2.1, G.2.2.1, G.2.2.2.1, G.2.2.2.2.1, p, G.2.2.2.2.2, en_, rmD d, s, m, _, below, meth, c) rfl
    ⟨B.exec, B.bytes, hml, findClass_of_methodNamed B.named, fun w hw => hts w (List.mem_cons_of_mem _ hw), hK, B.notSynchronized, h0, B.returns, hF, hDn⟩ rfl hWT r hr s.heap _ [] ⟨hP, hS, hz⟩
    ⟨by rw [hml]; exact hl.1, hl.2.1, fun i v hi => by
      have h2 : (enl args)[i]? = some (some v) := by
        rw [← hls] at hi
        unfold en at hi
        rcases Nat.lt_or_ge i (enl args).length with g | g
        · rwa [List.getElem?_append_left g] at hi
        · rw [List.getElem?_append_right g] at hi
          simp [List.getElem?_replicate] at hi
      have := enl_mem (b := G.2.1) (sk := G.2.2.2.2.1.1) args 0 i v h2
      rw [Nat.zero_add] at this
      exact hl.2.2 _ this⟩
def bd {α ρ : Type} (e : Option (α × St)) (f : α → St → Option ρ) : Option ρ := e.bind (fun q => f q.1 q.2)
theorem hRd {K : KK} {d d' maxL : Nat} (hR : kR K = rmD d) (h : d' + 1 ≤ d) (hm : maxL ≤ 11) : d' + 1 ≤ (kR K).frames ∧ 8 + (maxL + 11) + 30 * d' ≤ (kR K).locals := by
  rw [hR]
  exact ⟨h, by show _ ≤ 30 * d; omega⟩
def FU : Nat := 5000
def RF : Nat := 9
theorem J_nmv {K : KK} {ρ : Type} {Zr : ρ → State → Prop} {pc : Nat} {ls : List (Option Value)} {st : List Value} {M : Mm} {n k w : Nat} (x : Int32) {f : Int32 → Option ρ} (h : ∀ y : Int32, y = x → JX K Zr pc ls st M n k w (f y)) : JX K Zr pc ls st M n k w (nm x f) := h x rfl
theorem tabout {x : Int32} (lo hi : Int) (h : ∀ v : Int, lo ≤ v → v ≤ hi → x.toInt ≠ v) : x.toInt < lo ∨ hi < x.toInt := by
  rcases Int.lt_or_le x.toInt lo with g | g
  · exact Or.inl g
  · rcases Int.lt_or_le hi x.toInt with g2 | g2
    · exact Or.inr g2
    · exact absurd rfl (h _ g g2)
theorem tabne {x v : Int32} {k : Int} (h : ¬ x = v) (hk : v.toInt = k) : x.toInt ≠ k := fun q => h (Int32.toInt_inj.mp (q.trans hk.symm))
def mxI (x y : Int32) : Int32 := if x < y then y else x
def mnI (x y : Int32) : Int32 := if y < x then y else x
def abI (x : Int32) : Int32 := if 0 ≤ x then x else 0 - x
section TR
variable {K : KK} {cc : ByteArray} {nL : Nat} {own : String} {rt : Option FieldType} {pc : Nat} {ls : List (Option Value)} {st : List Value} {S : St} {ρ : Type}
theorem PreM_end {H : Heap} {locs : List Loc} (X : CX K cc nL own rt) (w : WT (kDn K) S.2.2) (hE : Em K (rwN (kN K) S) (kn K) H locs) {t : State} (ht : t.heap = H) (hW : (ks K).WarmedH t.vm) : PreM (kG K) S t := by
  obtain ⟨-, -, -, -, -, hK, -, h0, -, hF, hDn⟩ := X
  refine ⟨by rw [ht]; exact hE.1, ?_, by rw [ht]; exact hE.2.2, va_K.moved hW.alike hK, h0, hF.warm hW, hDn, w⟩
  rw [ht]
  exact ⟨hE.2.1.1, hE.2.1.2.1, fun l h => by simp at h⟩
theorem T_iret (w : WT (kDn K) S.2.2) {v : Int32} (X : CX K cc nL own (some .int)) (hd : decode cc pc = .ok (.ireturn, 1)) : JX K (Zm K (fun v : Int32 => some (.int v))) pc ls [.int v] (rwN (kN K) S) (kn K) 0 0 (some (v, S)) := by
  intro r hr H la locs hE hL
  cases hr
  exact W.iret (v := v) X.1 X.2.1 X.2.2.2.2.2.2.2.2.1 (fun t ht hW => ⟨rfl, PreM_end X w hE ht hW⟩) hE.2.1.2.2 hd (hlocks := X.2.2.2.2.2.2.1)
theorem T_zret (w : WT (kDn K) S.2.2) {v : Int32} {ty : FieldType} (X : CX K cc nL own (some ty)) (hn : narrow ty (.int v) = .int v) (hd : decode cc pc = .ok (.ireturn, 1)) : JX K (Zm K (fun v : Int32 => some (.int v))) pc ls [.int v] (rwN (kN K) S) (kn K) 0 0 (some (v, S)) := by
  intro r hr H la locs hE hL
  cases hr
  exact W.zret (v := v) X.1 X.2.1 X.2.2.2.2.2.2.2.2.1 hn (fun t ht hW => ⟨rfl, PreM_end X w hE ht hW⟩) hE.2.1.2.2 hd (hlocks := X.2.2.2.2.2.2.1)
def gb (v : Int32) : Option Int32 := if v = 0 ∨ v = 1 then some v else none
theorem T_gret (w : WT (kDn K) S.2.2) {v : Int32} (X : CX K cc nL own (some .boolean)) (hd : decode cc pc = .ok (.ireturn, 1)) : JX K (Zm K (fun v : Int32 => some (.int v))) pc ls [.int v] (rwN (kN K) S) (kn K) 0 0 ((gb v).bind fun v => some (v, S)) := by
  intro r hr H la locs hE hL
  obtain ⟨u, hu, hr⟩ := Option.bind_eq_some_iff.mp hr
  unfold gb at hu
  split at hu
  next hc =>
    cases hu
    refine T_zret w X ?_ hd r hr H la locs hE hL
    rcases hc with rfl | rfl <;> rfl
  next => cases hu
theorem T_lret (w : WT (kDn K) S.2.2) {v : Int64} (X : CX K cc nL own (some .long)) (hd : decode cc pc = .ok (.lreturn, 1)) : JX K (Zm K (fun v : Int64 => some (.long v))) pc ls [.long v] (rwN (kN K) S) (kn K) 0 0 (some (v, S)) := by
  intro r hr H la locs hE hL
  cases hr
  exact W.lret (v := v) X.1 X.2.1 X.2.2.2.2.2.2.2.2.1 (fun t ht hW => ⟨rfl, PreM_end X w hE ht hW⟩) hE.2.1.2.2 hd (hlocks := X.2.2.2.2.2.2.1)
theorem T_vret (w : WT (kDn K) S.2.2) (X : CX K cc nL own none) (hd : decode cc pc = .ok (.return_, 1)) : JX K (Zm K (fun _ : Unit => none)) pc ls [] (rwN (kN K) S) (kn K) 0 0 (some ((), S)) := by
  intro r hr H la locs hE hL
  cases hr
  exact W.vret X.1 X.2.1 X.2.2.2.2.2.2.2.2.1 (fun t ht hW => ⟨rfl, PreM_end X w hE ht hW⟩) hE.2.1.2.2 hd (hlocks := X.2.2.2.2.2.2.1)
theorem T_aret (w : WT (kDn K) S.2.2) {v : Nat} {ty : FieldType} (X : CX K cc nL own (some ty)) (hrt : (∃ n, ty = .object n) ∨ ∃ t, ty = .array t) (hd : decode cc pc = .ok (.areturn, 1)) : JX K (Zm K (fun v : Nat => some (.ref v))) pc ls [.ref v] (rwN (kN K) S) (kn K) 0 0 (some (v, S)) := by
  intro r hr H la locs hE hL
  cases hr
  exact W.aret (v := .ref (kB K + v)) X.1 X.2.1 X.2.2.2.2.2.2.2.2.1 hrt (Or.inr ⟨_, rfl⟩) (fun t ht hW => ⟨rfl, PreM_end X w hE ht hW⟩) hE.2.1.2.2 hd (hlocks := X.2.2.2.2.2.2.1)
theorem run_to {p : Program} {l : Launch} {e : Env} {R : Room} {s : State} {m : MethodId} {args : Array Value} {below : List Frame} {meth : Method} {c : Code} {H : Heap} {locs : List Loc} {k w : Nat} {g : JFrame} {rest : List Value} {Qa : State → Outcome → State → Prop} {free : Addr → Prop} {Q : State → Prop}
    (hr : va_Run p l e R s m args below meth c H locs k w 0 0 g rest Qa free) (hk : ∀ (v : Option Value) (st₀ t : State) (L : List Loc), (∀ q ∈ L, free q.base) → Qa st₀ (.returned v) t → W p l e R s m args below meth c t.heap (locs ++ L) k w Q { g with pc := g.pc + 3, stack := v.toList ++ rest }) : W p l e R s m args below meth c H locs k w Q g := by
  intro T hT X
  obtain ⟨v, st₀, t, T', L, h0, X', hL, e1, e2, hq, st⟩ := hr T hT X
  obtain ⟨t2, a1, b1⟩ := hk v st₀ t L hL hq T' e1 X'
  exact ⟨t2, st t2 a1, b1⟩
theorem PreM_blind {G : GG} {av : List Value} : FrameBlind (va_Pc av (PreM G S)) := by
  intro a U g mk q
  obtain ⟨q0, q1, q2, q3, q4, q5, q6, q7, q8⟩ := q
  exact ⟨q0, q1, q2, q3, va_K.moved (u := U) (U := U.calling g mk a) (Vm.Alike.refl U.vm) q4, q5, q6.same rfl, q7, q8⟩
theorem PreM_at {H : Heap} {locs : List Loc} (X : CX K cc nL own rt) (w : WT (kDn K) S.2.2) (hE : Em K (rwN (kN K) S) (kn K) H locs) (U : State) (hU : U.heap = H) (hW : (ks K).WarmedH U.vm) : PreM (kG K) S U := PreM_end X w hE hU hW
theorem GoodTT {y : MethodName} {bytes : ByteArray} {maxL : Nat} {ret : Option FieldType} (hco : Cond.code y bytes maxL ret ∈ TT) : GoodIn TT (Cond.code y bytes maxL ret :: TT) := fun w h => by
  rcases List.mem_cons.mp h with rfl | h
  · exact ⟨hco, TT_good hco⟩
  · exact ⟨h, TT_good h⟩
theorem tsum {b : Nat} {sk : Nat → Nat} : ∀ st : List Value, ((st.map (tw b sk)).map fun v => v.category).sum = (st.map fun v => v.category).sum
  | [] => rfl
  | v :: t => by
    have hcat : (tw b sk v).category = v.category := by cases v <;> rfl
    simp only [List.map_cons, List.sum_cons, hcat, tsum t]
variable {α : Type} {vr : α → Option Value} {e1 : Option (α × St)} {f : α → St → Option ρ} {Zr : ρ → State → Prop}
/-- behind a call: the world of what came back -/
theorem Em_back {H : Heap} {locs L : List Loc} {S' : St} {t : State} {v : Option Value} (hE : Em K (rwN (kN K) S) (kn K) H locs) (hL : ∀ q ∈ L, kB K ≤ q.base) (hq : PreM (kG K) S' t) : Em K (rwN (kN K) S') (kn K) t.heap (locs ++ L) :=
  ⟨hq.1, ⟨hq.2.1.1, hq.2.1.2.1, fun q h => (List.mem_append.mp h).elim (hE.2.1.2.2 q) (hL q)⟩, hq.2.2.1⟩
theorem T_callS (w : WT (kDn K) S.2.2) (X : CX K cc nL own rt) {y : MethodName} {bytes : ByteArray} {maxL d idx : Nat} {ret : Option FieldType} {As : List Value} {st0 : List Value} (hM : CM (kG K) y bytes maxL ret d As S vr e1) (hl : Cond.methodLink own idx y ∈ TT) (hst : Cond.static y ∈ TT) (hini : Cond.initialized y.cls ∈ TT) (hco : Cond.code y bytes maxL ret ∈ TT)
    (hy : y.cls ≠ "java/lang/invoke/MethodHandle" ∧ y.cls ≠ "java/lang/invoke/VarHandle" ∧ (parseMethodDescriptor y.desc).map (fun d => d.parameters.length) = some As.length) (hR : d + 1 ≤ (kR K).frames ∧ 8 + (maxL + 11) + 30 * d ≤ (kR K).locals) (hst0 : st0 = As.reverse ++ st) (hsum : (st.map fun v => v.category).sum ≤ 8) (hd : decode cc pc = .ok (.invokestatic idx, 3))
    (h : ∀ (r : α) (S' : St), e1 = some (r, S') → WT (kDn K) S'.2.2 → JX K Zr (pc + 3) ls ((vr r).toList ++ st) (rwN (kN K) S') (kn K) 0 0 (f r S')) : JX K Zr pc ls st0 (rwN (kN K) S) (kn K) 0 0 (bd e1 f) := by
  subst hst0
  intro r hr H la locs hE hL
  obtain ⟨⟨x, S'⟩, hx, hf⟩ := Option.bind_eq_some_iff.mp hr
  refine run_to (rest := st.map (tv K)) (va_runS (As := As.map (tv K)) (Ts := TT) (nL := nL) ⟨X.1, X.2.1, X.2.2.1, X.2.2.2.1, X.2.2.2.2.1⟩ (hM _ hx) ⟨callB_of As.length X.2.2.2.2.1 (GoodTT hco) rfl rfl rfl (X.2.2.2.2.1 _ hini) (X.2.2.2.2.1 _ hl) hy hR, X.2.2.2.2.1 _ hst⟩ ⟨PreM_blind, fun U hU hW => ⟨rfl, PreM_at X w hE U hU hW⟩⟩ rfl (by simp) (hL.1.trans X.2.2.1) (by simp [F0]) (lv_room (by rw [tsum]; exact hsum)) hd ⟨Nat.zero_le _, Nat.zero_le _⟩) ?_
  intro v st₀ t L hL' hq
  obtain ⟨hv, hq⟩ := hq
  cases hv
  have := h x S' hx hq.2.2.2.2.2.2.2 r hf t.heap la (locs ++ L) (Em_back (v := none) hE hL' hq) hL
  have hst : (((vr x).toList ++ st).map (tv K)) = ((vr x).map (tg (kG K))).toList ++ st.map (tv K) := by
    cases vr x <;> simp
  rw [hst] at this
  exact this
theorem T_callN (w : WT (kDn K) S.2.2) (X : CX K cc nL own rt) {y : MethodName} {bytes : ByteArray} {maxL d idx : Nat} {ret : Option FieldType} {As : List Value} {st0 : List Value} (hM : CM (kG K) y bytes maxL ret d As S vr e1) (hl : (own, idx, y) ∈ NWL) (hst : Cond.static y ∈ TT) (hini : Cond.initialized y.cls ∈ TT) (hco : Cond.code y bytes maxL ret ∈ TT)
    (hy : y.cls ≠ "java/lang/invoke/MethodHandle" ∧ y.cls ≠ "java/lang/invoke/VarHandle" ∧ (parseMethodDescriptor y.desc).map (fun d => d.parameters.length) = some As.length) (hR : d + 1 ≤ (kR K).frames ∧ 8 + (maxL + 11) + 30 * d ≤ (kR K).locals) (hst0 : st0 = As.reverse ++ st) (hsum : (st.map fun v => v.category).sum ≤ 8) (hd : decode cc pc = .ok (.invokestatic idx, 3))
    (h : ∀ (r : α) (S' : St), e1 = some (r, S') → WT (kDn K) S'.2.2 → JX K Zr (pc + 3) ls ((vr r).toList ++ st) (rwN (kN K) S') (kn K) 0 0 (f r S')) : JX K Zr pc ls st0 (rwN (kN K) S) (kn K) 0 0 (bd e1 f) := by
  subst hst0
  intro r hr H la locs hE hL
  obtain ⟨⟨x, S'⟩, hx, hf⟩ := Option.bind_eq_some_iff.mp hr
  refine run_to (rest := st.map (tv K)) (va_runSN (host := "SeaHair") (As := As.map (tv K)) (Ts := TT) (nL := nL) ⟨X.1, X.2.1, X.2.2.1, X.2.2.2.1, X.2.2.2.2.1⟩ (hM _ hx) ⟨va_cnB As.length X.2.2.2.2.1 (GoodTT hco) rfl rfl rfl (X.2.2.2.2.2.2.2.2.2.1.2.2.2.2.1 _ hl) (X.2.2.2.2.1 _ hini) hy hR, X.2.2.2.2.1 _ hst, trivial⟩ ⟨PreM_blind, fun U hU hW => ⟨rfl, PreM_at X w hE U hU hW⟩⟩ rfl (by simp) (hL.1.trans X.2.2.1) (by simp [F0]) (lv_room (by rw [tsum]; exact hsum)) hd ⟨Nat.zero_le _, Nat.zero_le _⟩) ?_
  intro v st₀ t L hL' hq
  obtain ⟨hv, hq⟩ := hq
  cases hv
  have := h x S' hx hq.2.2.2.2.2.2.2 r hf t.heap la (locs ++ L) (Em_back (v := none) hE hL' hq) hL
  have hst : (((vr x).toList ++ st).map (tv K)) = ((vr x).map (tg (kG K))).toList ++ st.map (tv K) := by
    cases vr x <;> simp
  rw [hst] at this
  exact this
theorem T_callV (w : WT (kDn K) S.2.2) (X : CX K cc nL own rt) {y : MethodName} {bytes : ByteArray} {maxL d idx ci a N : Nat} {T : u_T} {ret : Option FieldType} {As : List Value} {st0 : List Value} (hM : CM (kG K) y bytes maxL ret d (.ref a :: As) S vr e1) (B : CB ci y.cls T N) (ha : KA (kDn K) a (0, ci)) (hl : Cond.methodLink own idx y ∈ TT) (hin : Cond.instanceMethod y ∈ TT) (hse : Cond.selects y.cls y y ∈ TT) (hini : Cond.initialized y.cls ∈ TT) (hco : Cond.code y bytes maxL ret ∈ TT)
    (hy : y.cls ≠ "java/lang/invoke/MethodHandle" ∧ y.cls ≠ "java/lang/invoke/VarHandle" ∧ (parseMethodDescriptor y.desc).map (fun d => d.parameters.length) = some As.length) (hR : d + 1 ≤ (kR K).frames ∧ 8 + (maxL + 11) + 30 * d ≤ (kR K).locals) (hst0 : st0 = As.reverse ++ .ref a :: st) (hsum : (st.map fun v => v.category).sum ≤ 8) (hd : decode cc pc = .ok (.invokevirtual idx, 3))
    (h : ∀ (r : α) (S' : St), e1 = some (r, S') → WT (kDn K) S'.2.2 → JX K Zr (pc + 3) ls ((vr r).toList ++ st) (rwN (kN K) S') (kn K) 0 0 (f r S')) : JX K Zr pc ls st0 (rwN (kN K) S) (kn K) 0 0 (bd e1 f) := by
  subst hst0
  intro r hr H la locs hE hL
  obtain ⟨⟨x, S'⟩, hx, hf⟩ := Option.bind_eq_some_iff.mp hr
  refine run_to (rest := st.map (tv K)) (va_runV (As := As.map (tv K)) (Ts := TT) (nL := nL) (C := y.cls) (b := kB K + a) ⟨X.1, X.2.1, X.2.2.1, X.2.2.2.1, X.2.2.2.2.1⟩ (hM _ hx) ⟨callB_of As.length X.2.2.2.2.1 (GoodTT hco) rfl rfl rfl (X.2.2.2.2.1 _ hini) (X.2.2.2.2.1 _ hl) hy hR, X.2.2.2.2.1 _ hin, X.2.2.2.2.1 _ hse⟩ ⟨PreM_blind, va_recv X.2.2.2.2.2.1 hE.1 B.2.2.2.1 ((wz_at (ltn X ha)).trans (by rw [ce_obj ha.1])), fun U hU hW => ⟨rfl, PreM_at X w hE U hU hW⟩⟩ rfl (by simp) (hL.1.trans X.2.2.1) (by simp [F0]; rfl) (lv_room (by rw [tsum]; exact hsum)) hd ⟨Nat.zero_le _, Nat.zero_le _⟩) ?_
  intro v st₀ t L hL' hq
  obtain ⟨hv, hq⟩ := hq
  cases hv
  have := h x S' hx hq.2.2.2.2.2.2.2 r hf t.heap la (locs ++ L) (Em_back (v := none) hE hL' hq) hL
  have hst : (((vr x).toList ++ st).map (tv K)) = ((vr x).map (tg (kG K))).toList ++ st.map (tv K) := by
    cases vr x <;> simp
  rw [hst] at this
  exact this
theorem T_putI (X : CX K cc nL own rt) {ci a kf idx N : Nat} {x : Int32} {C : String} {T : u_T} {f : St → Option ρ} (B : CB ci C T N) (ha : KA (kDn K) a (0, ci)) (hk : kf < N) (hl : Cond.fieldLink own idx (T kf).1 (T kf).2.1 (T kf).2.2.1 ∈ TT) (hv : ∀ (b : Nat) (M : Mm) (a : Nat), fv b M a kf (tyC ci kf) = .int (M.1 a kf)) (hfin : (T kf).2.2.2 = false) (hnar : narrow (tyC ci kf) (.int x) = .int x) (hfit : fits (tyC ci kf) (.int x) = true) (hd : decode cc pc = .ok (.putfield idx, 3)) (h : ∀ S1 : St, S1 = sI S a kf x → JX K Zr (pc + 3) ls st (rwN (kN K) S1) (kn K) 0 0 (f S1)) : JX K Zr pc ls (.int x :: .ref a :: st) (rwN (kN K) S) (kn K) 0 0 (nm (sI S a kf x) f) :=
  J_putI X B ha.1 (ltn X ha) hk hl hv hfin hnar hfit hd (h _ rfl)
theorem T_putR (X : CX K cc nL own rt) {ci a kf idx N q : Nat} {C : String} {T : u_T} {f : St → Option ρ} (B : CB ci C T N) (ha : KA (kDn K) a (0, ci)) (hk : kf < N) (hl : Cond.fieldLink own idx (T kf).1 (T kf).2.1 (T kf).2.2.1 ∈ TT) (hv : ∀ (b : Nat) (M : Mm) (a : Nat), fv b M a kf (tyC ci kf) = va_rf ((M.2.2 a kf).map (fun x => b + x))) (hfin : (T kf).2.2.2 = false) (hnar : ∀ z, narrow (tyC ci kf) (.ref z) = .ref z) (hfit : ∀ z, fits (tyC ci kf) (.ref z) = true) (hd : decode cc pc = .ok (.putfield idx, 3)) (h : ∀ S1 : St, S1 = sR S a kf q → JX K Zr (pc + 3) ls st (rwN (kN K) S1) (kn K) 0 0 (f S1)) : JX K Zr pc ls (.ref q :: .ref a :: st) (rwN (kN K) S) (kn K) 0 0 (nm (sR S a kf q) f) :=
  J_putR X B ha.1 (ltn X ha) hk hl hv hfin hnar hfit hd (by rw [rw_sR (nfn X ha kf)]; exact h _ rfl)
theorem T_getI (X : CX K cc nL own rt) {ci a kf idx N : Nat} {C : String} {T : u_T} {e : Option ρ} (B : CB ci C T N) (ha : KA (kDn K) a (0, ci)) (hk : kf < N) (hl : Cond.fieldLink own idx (T kf).1 (T kf).2.1 (T kf).2.2.1 ∈ TT) (hv : ∀ (b : Nat) (M : Mm) (a : Nat), fv b M a kf (tyC ci kf) = .int (M.1 a kf)) (hd : decode cc pc = .ok (.getfield idx, 3)) (h : JX K Zr (pc + 3) ls (.int (S.1 a kf) :: st) (rwN (kN K) S) (kn K) 0 0 e) : JX K Zr pc ls (.ref a :: st) (rwN (kN K) S) (kn K) 0 0 e :=
  J_getI X B ha.1 (ltn X ha) hk hl hv hd h
theorem T_getR (X : CX K cc nL own rt) {ci a kf idx N : Nat} {C : String} {T : u_T} {e : Option ρ} (B : CB ci C T N) (ha : KA (kDn K) a (0, ci)) (hk : kf < N) (hl : Cond.fieldLink own idx (T kf).1 (T kf).2.1 (T kf).2.2.1 ∈ TT) (hv : ∀ (b : Nat) (M : Mm) (a : Nat), fv b M a kf (tyC ci kf) = va_rf ((M.2.2 a kf).map (fun x => b + x))) (hd : decode cc pc = .ok (.getfield idx, 3)) (h : JX K Zr (pc + 3) ls (.ref (S.2.2 a kf) :: st) (rwN (kN K) S) (kn K) 0 0 e) : JX K Zr pc ls (.ref a :: st) (rwN (kN K) S) (kn K) 0 0 e :=
  J_getR X B ha.1 (ltn X ha) hk hl hv (by simp [rwN, nfn X ha kf]) hd h
theorem T_iald (X : CX K cc nL own rt) {i : Int32} {a len : Nat} {f : Nat → Option ρ} (ha : KA (kDn K) a (1, len)) (hd : decode cc pc = .ok (.iaload, 1)) (h : ∀ j, JX K Zr (pc + 1) ls (.int (S.1 a j) :: st) (rwN (kN K) S) (kn K) 0 0 (f j)) : JX K Zr pc ls (.int i :: .ref a :: st) (rwN (kN K) S) (kn K) 0 0 ((ix i len).bind f) := J_iald X ha.1 (ltn X ha) hd (fun j _ => h j)
theorem T_bald (X : CX K cc nL own rt) {i : Int32} {a len : Nat} {f : Nat → Option ρ} (ha : KA (kDn K) a (2, len)) (hd : decode cc pc = .ok (.baload, 1)) (h : ∀ j, JX K Zr (pc + 1) ls (.int (S.1 a j) :: st) (rwN (kN K) S) (kn K) 0 0 (f j)) : JX K Zr pc ls (.int i :: .ref a :: st) (rwN (kN K) S) (kn K) 0 0 ((ix i len).bind f) := J_bald X ha.1 (ltn X ha) hd (fun j _ => h j)
theorem T_zald (X : CX K cc nL own rt) {i : Int32} {a len : Nat} {f : Nat → Option ρ} (ha : KA (kDn K) a (3, len)) (hd : decode cc pc = .ok (.baload, 1)) (h : ∀ j, JX K Zr (pc + 1) ls (.int (S.1 a j) :: st) (rwN (kN K) S) (kn K) 0 0 (f j)) : JX K Zr pc ls (.int i :: .ref a :: st) (rwN (kN K) S) (kn K) 0 0 ((ix i len).bind f) := J_zald X ha.1 (ltn X ha) hd (fun j _ => h j)
theorem T_lald (X : CX K cc nL own rt) {i : Int32} {a len : Nat} {f : Nat → Option ρ} (ha : KA (kDn K) a (4, len)) (hd : decode cc pc = .ok (.laload, 1)) (h : ∀ j, JX K Zr (pc + 1) ls (.long (S.2.1 a j) :: st) (rwN (kN K) S) (kn K) 0 0 (f j)) : JX K Zr pc ls (.int i :: .ref a :: st) (rwN (kN K) S) (kn K) 0 0 ((ix i len).bind f) := J_lald X ha.1 (ltn X ha) hd (fun j _ => h j)
theorem T_aald (w : WT (kDn K) S.2.2) (X : CX K cc nL own rt) {i : Int32} {a len : Nat} {f : Nat → Option ρ} (ha : KA (kDn K) a (5, len)) (hd : decode cc pc = .ok (.aaload, 1)) (h : ∀ j, KA (kDn K) (S.2.2 a j) (0, 5) → JX K Zr (pc + 1) ls (.ref (S.2.2 a j) :: st) (rwN (kN K) S) (kn K) 0 0 (f j)) : JX K Zr pc ls (.int i :: .ref a :: st) (rwN (kN K) S) (kn K) 0 0 ((ix i len).bind f) := by
  refine J_aldq X ha.1 (ltn X ha) (fun j => S.2.2 a j) (fun j _ => by simp [rwN, nfn X ha j]) hd (fun j hj => h j ?_)
  have h1 := ix_in hj
  have h2 := vp_in_iff.mp h1.1
  have h3 : i.toInt.toNat = j := h1.2
  exact w.2 a len ha j (by omega)
theorem T_iast (X : CX K cc nL own rt) {i x : Int32} {a len : Nat} {f : Nat → St → Option ρ} (ha : KA (kDn K) a (1, len)) (hd : decode cc pc = .ok (.iastore, 1)) (h : ∀ (j : Nat) (S1 : St), S1 = sI S a j x → JX K Zr (pc + 1) ls st (rwN (kN K) S1) (kn K) 0 0 (f j S1)) : JX K Zr pc ls (.int x :: .int i :: .ref a :: st) (rwN (kN K) S) (kn K) 0 0 ((ix i len).bind (fun j => nm (sI S a j x) (f j))) := J_iast X ha.1 (ltn X ha) hd (fun j _ => h j _ rfl)
theorem T_bast (X : CX K cc nL own rt) {i x : Int32} {a len : Nat} {f : Nat → St → Option ρ} (ha : KA (kDn K) a (2, len)) (hd : decode cc pc = .ok (.bastore, 1)) (h : ∀ (j : Nat) (S1 : St), S1 = sI S a j (vp_nar .byte x) → JX K Zr (pc + 1) ls st (rwN (kN K) S1) (kn K) 0 0 (f j S1)) : JX K Zr pc ls (.int x :: .int i :: .ref a :: st) (rwN (kN K) S) (kn K) 0 0 ((ix i len).bind (fun j => nm (sI S a j (vp_nar .byte x)) (f j))) := J_bast X ha.1 (ltn X ha) hd (fun j _ => h j _ rfl)
theorem T_zast (X : CX K cc nL own rt) {i x : Int32} {a len : Nat} {f : Nat → St → Option ρ} (ha : KA (kDn K) a (3, len)) (hd : decode cc pc = .ok (.bastore, 1)) (h : ∀ (j : Nat) (S1 : St), S1 = sI S a j (vp_nar .boolean x) → JX K Zr (pc + 1) ls st (rwN (kN K) S1) (kn K) 0 0 (f j S1)) : JX K Zr pc ls (.int x :: .int i :: .ref a :: st) (rwN (kN K) S) (kn K) 0 0 ((ix i len).bind (fun j => nm (sI S a j (vp_nar .boolean x)) (f j))) := J_zast X ha.1 (ltn X ha) hd (fun j _ => h j _ rfl)
theorem T_last (X : CX K cc nL own rt) {i : Int32} {x : Int64} {a len : Nat} {f : Nat → St → Option ρ} (ha : KA (kDn K) a (4, len)) (hd : decode cc pc = .ok (.lastore, 1)) (h : ∀ (j : Nat) (S1 : St), S1 = sL S a j x → JX K Zr (pc + 1) ls st (rwN (kN K) S1) (kn K) 0 0 (f j S1)) : JX K Zr pc ls (.long x :: .int i :: .ref a :: st) (rwN (kN K) S) (kn K) 0 0 ((ix i len).bind (fun j => nm (sL S a j x) (f j))) := J_last X ha.1 (ltn X ha) hd (fun j _ => h j _ rfl)
theorem T_alen1 (X : CX K cc nL own rt) {a len : Nat} {e : Option ρ} (ha : KA (kDn K) a (1, len)) (hd : decode cc pc = .ok (.arraylength, 1)) (h : JX K Zr (pc + 1) ls (.int (Int32.ofNat len) :: st) (rwN (kN K) S) (kn K) 0 0 e) : JX K Zr pc ls (.ref a :: st) (rwN (kN K) S) (kn K) 0 0 e :=
  J_alen (t := 0) (ty := .int) X (fun b cA M => ⟨_, ce_1 ha.1, rfl⟩) (fun _ => rfl) (ltn X ha) rfl hd h
theorem T_alen2 (X : CX K cc nL own rt) {a len : Nat} {e : Option ρ} (ha : KA (kDn K) a (2, len)) (hd : decode cc pc = .ok (.arraylength, 1)) (h : JX K Zr (pc + 1) ls (.int (Int32.ofNat len) :: st) (rwN (kN K) S) (kn K) 0 0 e) : JX K Zr pc ls (.ref a :: st) (rwN (kN K) S) (kn K) 0 0 e :=
  J_alen (t := 1) (ty := .byte) X (fun b cA M => ⟨_, ce_2 ha.1, rfl⟩) (fun _ => rfl) (ltn X ha) rfl hd h
theorem T_alen4 (X : CX K cc nL own rt) {a len : Nat} {e : Option ρ} (ha : KA (kDn K) a (4, len)) (hd : decode cc pc = .ok (.arraylength, 1)) (h : JX K Zr (pc + 1) ls (.int (Int32.ofNat len) :: st) (rwN (kN K) S) (kn K) 0 0 e) : JX K Zr pc ls (.ref a :: st) (rwN (kN K) S) (kn K) 0 0 e :=
  J_alen (t := 3) (ty := .long) X (fun b cA M => ⟨_, ce_4 ha.1, rfl⟩) (fun _ => rfl) (ltn X ha) rfl hd h
def mk (bs : List Bool) (ls : List (Option Value)) : List (Option Value) := List.zipWith (fun b w => if b then w else none) bs ls
theorem J_mask {M : Mm} {n k w : Nat} {e : Option ρ} (bs : List Bool) (h : JX K Zr pc (mk bs ls) st M n k w e) : JX K Zr pc ls st M n k w e := by
  intro r hr H la locs hE hL
  refine h r hr H la locs hE ⟨hL.1, hL.2.1, fun i v hi => hL.2.2 i v ?_⟩
  simp only [mk, List.getElem?_zipWith] at hi
  cases hb : bs[i]? with
  | none => simp [hb] at hi
  | some b =>
    cases hl : ls[i]? with
    | none => simp [hb, hl] at hi
    | some u =>
      simp [hb, hl] at hi
      exact congrArg some hi.2
theorem J_grd {M : Mm} {n k w : Nat} {e : Option ρ} {c : Prop} [Decidable c] (h : c → JX K Zr pc ls st M n k w e) : JX K Zr pc ls st M n k w (if c then e else none) := by
  by_cases hc : c
  · rw [if_pos hc]; exact h hc
  · rw [if_neg hc]; intro r hr; cases hr
theorem J_none {M : Mm} {n k w : Nat} : JX K Zr pc ls st M n k w (none : Option ρ) := by intro r hr; cases hr
theorem T_mmax (X : CX K cc nL own rt) {x y : Int32} {idx : Nat} {e : Option ρ} (hl : Cond.methodLink own idx Lib.Math.max.name ∈ TT) (hst : Cond.static Lib.Math.max.name ∈ TT) (hini : Cond.initialized "java/lang/Math" ∈ TT) (hco : Cond.code Lib.Math.max.name Lib.Math.max.code 2 (some .int) ∈ TT) (hR : 1 ≤ (kR K).frames ∧ 30 ≤ (kR K).locals) (hsum : (st.map fun v => v.category).sum ≤ 8) (hd : decode cc pc = .ok (.invokestatic idx, 3)) (h : JX K Zr (pc + 3) ls (.int (mxI x y) :: st) (rwN (kN K) S) (kn K) 0 0 e) : JX K Zr pc ls (.int y :: .int x :: st) (rwN (kN K) S) (kn K) 0 0 e := by
  intro r hr H la locs hE hL
  refine va_mmax X.1 X.2.1 hL.1.symm X.2.2.2.1 (X.2.2.2.2.1 _ hl) (X.2.2.2.2.1 _ hst) (X.2.2.2.2.1 _ hini) (X.2.2.2.2.1 _ hco) hR.1 (by rw [tsum]; have := hR.2; omega) (Nat.zero_le _) (Nat.zero_le _) hd (h r hr H la locs hE hL)
theorem T_mmin (X : CX K cc nL own rt) {x y : Int32} {idx : Nat} {e : Option ρ} (hl : Cond.methodLink own idx Lib.Math.min.name ∈ TT) (hst : Cond.static Lib.Math.min.name ∈ TT) (hini : Cond.initialized "java/lang/Math" ∈ TT) (hco : Cond.code Lib.Math.min.name Lib.Math.min.code 2 (some .int) ∈ TT) (hR : 1 ≤ (kR K).frames ∧ 30 ≤ (kR K).locals) (hsum : (st.map fun v => v.category).sum ≤ 8) (hd : decode cc pc = .ok (.invokestatic idx, 3)) (h : JX K Zr (pc + 3) ls (.int (mnI x y) :: st) (rwN (kN K) S) (kn K) 0 0 e) : JX K Zr pc ls (.int y :: .int x :: st) (rwN (kN K) S) (kn K) 0 0 e := by
  intro r hr H la locs hE hL
  refine va_mmin X.1 X.2.1 hL.1.symm X.2.2.2.1 (X.2.2.2.2.1 _ hl) (X.2.2.2.2.1 _ hst) (X.2.2.2.2.1 _ hini) (X.2.2.2.2.1 _ hco) hR.1 (by rw [tsum]; have := hR.2; omega) (Nat.zero_le _) (Nat.zero_le _) hd (h r hr H la locs hE hL)
theorem T_mabs (X : CX K cc nL own rt) {x : Int32} {idx : Nat} {e : Option ρ} (hl : Cond.methodLink own idx Lib.Math.abs.name ∈ TT) (hst : Cond.static Lib.Math.abs.name ∈ TT) (hini : Cond.initialized "java/lang/Math" ∈ TT) (hco : Cond.code Lib.Math.abs.name Lib.Math.abs.code 1 (some .int) ∈ TT) (hR : 1 ≤ (kR K).frames ∧ 30 ≤ (kR K).locals) (hsum : (st.map fun v => v.category).sum ≤ 8) (hd : decode cc pc = .ok (.invokestatic idx, 3)) (h : JX K Zr (pc + 3) ls (.int (abI x) :: st) (rwN (kN K) S) (kn K) 0 0 e) : JX K Zr pc ls (.int x :: st) (rwN (kN K) S) (kn K) 0 0 e := by
  intro r hr H la locs hE hL
  refine va_mabs X.1 X.2.1 hL.1.symm X.2.2.2.1 (X.2.2.2.2.1 _ hl) (X.2.2.2.2.1 _ hst) (X.2.2.2.2.1 _ hini) (X.2.2.2.2.1 _ hco) hR.1 (by rw [tsum]; have := hR.2; omega) (Nat.zero_le _) (Nat.zero_le _) hd (h r hr H la locs hE hL)
/-- the first m of an array of ints come into another -/
def cpI (S : St) (a0 a1 m : Nat) : St := (fun b => if b = a1 then (fun j => if j < m then S.1 a0 j else S.1 b j) else S.1 b, S.2.1, S.2.2)
theorem T_acopy (X : CX K cc nL own rt) {idx a0 a1 n0 n1 m : Nat} {mi : Int32} {f : St → Option ρ} (h0 : KA (kDn K) a0 (1, n0)) (h1 : KA (kDn K) a1 (1, n1)) (hl : Cond.methodLink own idx arraycopyName ∈ TT) (hnat : Cond.native arraycopyName ∈ TT) (hst : Cond.static arraycopyName ∈ TT) (hini : Cond.initialized "java/lang/System" ∈ TT) (hm : mi.toNatClampNeg = m) (hm0 : ¬ mi < 0) (hn0 : m ≤ n0) (hn1 : m ≤ n1) (hR : 1 ≤ (kR K).frames ∧ 30 ≤ (kR K).locals) (hsum : (st.map fun v => v.category).sum ≤ 2) (hd : decode cc pc = .ok (.invokestatic idx, 3)) (h : ∀ S1 : St, S1 = cpI S a0 a1 m → JX K Zr (pc + 3) ls st (rwN (kN K) S1) (kn K) 0 0 (f S1)) : JX K Zr pc ls (.int mi :: .int 0 :: .ref a1 :: .int 0 :: .ref a0 :: st) (rwN (kN K) S) (kn K) 0 0 (nm (cpI S a0 a1 m) f) := by
  intro r hr H la locs hE hL
  subst hm
  refine va_copyi X.1 X.2.1 hL.1.symm X.2.2.2.1 (X.2.2.2.2.1 _ hl) (X.2.2.2.2.1 _ hnat) (X.2.2.2.2.1 _ hst) (X.2.2.2.2.1 _ hini) X.2.2.2.2.2.1 hE.1 wz_D (S_rf hE.2.1) a0 a1 0 0 ((wz_at (ltn X h0)).trans (by rw [ce_1 h0.1])) ((wz_at (ltn X h1)).trans (by rw [ce_1 h1.1])) rfl rfl rfl (by decide) (by decide) hm0 (by simpa using hn0) (by simpa using hn1) (fun _ _ => rfl) hR.1 (by rw [tsum]; have := hR.2; have e : nativeFrameWords "java/lang/System" "arraycopy" 5 + 11 ≤ 28 := (by decide); omega) hd (fun H1 locs1 p1 d1 s1 => ?_)
  refine h _ rfl r hr H1 la locs1 ⟨?_, S_tr hE.2.1 s1, Nat.le_trans hE.2.2 s1.1⟩ hL
  rw [wz_set (M' := rwN (kN K) (cpI S a0 a1 mi.toNatClampNeg)) (ltn X h1) ?_ ?_] at p1
  · exact p1
  · rw [ce_1 h1.1]
    simp only [cpI, rwN, if_true]
    congr 4
    funext j
    simp [va_cpy]
  · intro c hc
    exact ce_congr (by funext j; simp [rwN, cpI, hc]) rfl rfl
end TR


def KDL : List (Nat × Nat) := [(0, 9), (2, 2000), (0, 0), (4, 4), (4, 6), (1, 6), (1, 8), (1, 8), (0, 2), (1, 9), (1, 404), (1, 56), (1, 4), (1, 15), (0, 5), (1, 36), (0, 0), (4, 4), (4, 6), (1, 6), (1, 8), (1, 8), (0, 2), (1, 9), (1, 404), (1, 56), (1, 4), (1, 15), (0, 5), (1, 36), (0, 4), (0, 6), (1, 401), (1, 401), (4, 401), (0, 5), (1, 36), (0, 5), (1, 36), (0, 8), (0, 8), (0, 1), (5, 40), (0, 5), (1, 36), (0, 5), (1, 36), (0, 5), (1, 36), (0, 5), (1, 36), (0, 5), (1, 36), (0, 5), (1, 36), (0, 5), (1, 36), (0, 5), (1, 36), (0, 5), (1, 36), (0, 5), (1, 36), (0, 5), (1, 36), (0, 5), (1, 36), (0, 5), (1, 36), (0, 5), (1, 36), (0, 5), (1, 36), (0, 5), (1, 36), (0, 5), (1, 36), (0, 5), (1, 36), (0, 5), (1, 36), (0, 5), (1, 36), (0, 5), (1, 36), (0, 5), (1, 36), (0, 5), (1, 36), (0, 5), (1, 36), (0, 5), (1, 36), (0, 5), (1, 36), (0, 5), (1, 36), (0, 5), (1, 36), (0, 5), (1, 36), (0, 5), (1, 36), (0, 5), (1, 36), (0, 5), (1, 36), (0, 5), (1, 36), (0, 5), (1, 36), (0, 5), (1, 36), (0, 5), (1, 36), (0, 5), (1, 36), (0, 5), (1, 36), (0, 5), (1, 36), (0, 5), (1, 36), (5, 3), (0, 5), (1, 36), (0, 5), (1, 36), (0, 5), (1, 36), (0, 3), (1, 8), (1, 8), (0, 7), (1, 20), (1, 20), (1, 20), (1, 20), (3, 100), (1, 9), (0, 10), (2, 2000), (2, 2000), (1, 403), (1, 403), (1, 403), (4, 403), (4, 21), (4, 10), (1, 10), (1, 2), (1, 32), (1, 2), (1, 12), (1, 12), (1, 12), (1, 2), (1, 16), (1, 16), (1, 16), (1, 2), (1, 2), (1, 8), (1, 8), (3, 260), (1, 260), (1, 260), (1, 260), (1, 260), (1, 840), (1, 840), (1, 64), (1, 9), (1, 400), (1, 55), (1, 55), (3, 6), (1, 6), (1, 6), (3, 6), (1, 2200), (1, 20), (1, 20), (1, 20), (1, 9), (3, 3), (1, 165)]
def tyC (ci : Nat) : Nat → FieldType := match ci with
  | 0 => tyX0
  | 1 => tyX1
  | 2 => tyX2
  | 3 => tyX3
  | 4 => tyX4
  | 5 => tyX5
  | 6 => tyX6
  | 7 => tyX7
  | 8 => tyX8
  | 9 => tyX9
  | _ => tyX10
def NC (ci : Nat) : Nat := match ci with
  | 0 => 12
  | 1 => 3
  | 2 => 7
  | 3 => 6
  | 4 => 7
  | 5 => 5
  | 6 => 5
  | 7 => 8
  | 8 => 4
  | 9 => 14
  | _ => 71
/-! core: the memory of the system by positions, its embedding in the heap, the judgement JX -/
abbrev Mm : Type := (Nat → Nat → Int32) × (Nat → Nat → Int64) × (Nat → Nat → Option Nat)
def uu {α : Type} (f : Nat → Nat → α) (a i : Nat) (v : α) : Nat → Nat → α := fun b j => if b = a then (if j = i then v else f b j) else f b j
theorem uu_ne {α : Type} {f : Nat → Nat → α} {a i b : Nat} {v : α} (h : b ≠ a) : uu f a i v b = f b := by
  funext j; simp [uu, h]
theorem uu_at {α : Type} {f : Nat → Nat → α} {a i : Nat} {v : α} : uu f a i v a = fun j => if j = i then v else f a j := by
  funext j; simp [uu]
def KD (a : Nat) : Nat × Nat := KDL.getD a (9, 0)
theorem KD_lt {a : Nat} {q : Nat × Nat} (h : KD a = q) (hq : q.1 ≠ 9) : a < KDL.length := by
  rcases Nat.lt_or_ge a KDL.length with g | g
  · exact g
  · exfalso; apply hq; rw [← h]; simp [KD, List.getD, List.getElem?_eq_none g]
def fv (b : Nat) (M : Mm) (a j : Nat) (t : FieldType) : Value := match t with
  | .long => .long (M.2.1 a j)
  | .object _ => va_rf ((M.2.2 a j).map (fun x => b + x))
  | .array _ => va_rf ((M.2.2 a j).map (fun x => b + x))
  | _ => .int (M.1 a j)
def fl (b : Nat) (M : Mm) (a ci : Nat) : List Value := (List.range (NC ci)).map (fun j => fv b M a j (tyC ci j))
def ce (b : Nat) (cA : Nat → ClassId) (M : Mm) (a : Nat) : va_E := match KD a with
  | (0, ci) => .inr (ci, fl b M a ci)
  | (4, n) => .inl (cA 4, n, .inr (.inl (M.2.1 a)))
  | (5, n) => .inl (cA 5, n, .inr (.inr (.inr (.inr (fun i => (M.2.2 a i).map (fun x => b + x))))))
  | (k, n) => .inl (cA k, n, .inl (M.1 a))
theorem ce_obj {b : Nat} {cA : Nat → ClassId} {M : Mm} {a ci : Nat} (h : KD a = (0, ci)) : ce b cA M a = .inr (ci, fl b M a ci) := by unfold ce; rw [h]; rfl
theorem ce_1 {b : Nat} {cA : Nat → ClassId} {M : Mm} {a n : Nat} (h : KD a = (1, n)) : ce b cA M a = .inl (cA 1, n, .inl (M.1 a)) := by unfold ce; rw [h]; rfl
theorem ce_2 {b : Nat} {cA : Nat → ClassId} {M : Mm} {a n : Nat} (h : KD a = (2, n)) : ce b cA M a = .inl (cA 2, n, .inl (M.1 a)) := by unfold ce; rw [h]; rfl
theorem ce_3 {b : Nat} {cA : Nat → ClassId} {M : Mm} {a n : Nat} (h : KD a = (3, n)) : ce b cA M a = .inl (cA 3, n, .inl (M.1 a)) := by unfold ce; rw [h]; rfl
theorem ce_4 {b : Nat} {cA : Nat → ClassId} {M : Mm} {a n : Nat} (h : KD a = (4, n)) : ce b cA M a = .inl (cA 4, n, .inr (.inl (M.2.1 a))) := by unfold ce; rw [h]; rfl
theorem ce_5 {b : Nat} {cA : Nat → ClassId} {M : Mm} {a n : Nat} (h : KD a = (5, n)) : ce b cA M a = .inl (cA 5, n, .inr (.inr (.inr (.inr (fun i => (M.2.2 a i).map (fun x => b + x)))))) := by unfold ce; rw [h]; rfl
theorem ce_congr {b : Nat} {cA : Nat → ClassId} {M M' : Mm} {a : Nat} (h1 : M.1 a = M'.1 a) (h2 : M.2.1 a = M'.2.1 a) (h3 : M.2.2 a = M'.2.2 a) : ce b cA M a = ce b cA M' a := by
  simp only [ce, fl, fv, h1, h2, h3]
theorem fl_get {b : Nat} {M : Mm} {a ci k : Nat} (hk : k < NC ci) : (fl b M a ci)[k]? = some (fv b M a k (tyC ci k)) := by simp [fl, hk]
theorem fl_len {b : Nat} {M : Mm} {a ci : Nat} : (fl b M a ci).length = NC ci := by simp [fl]
theorem fl_set {b : Nat} {M M' : Mm} {a ci k : Nat} {v : Value} (hk : k < NC ci) (hv : fv b M' a k (tyC ci k) = v) (ho : ∀ j, j ≠ k → fv b M' a j (tyC ci j) = fv b M a j (tyC ci j)) : (fl b M a ci).set k v = fl b M' a ci := by
  apply List.ext_getElem?
  intro j
  rw [List.getElem?_set]
  by_cases h : k = j
  · subst h
    rw [if_pos rfl, fl_len, if_pos hk, fl_get hk, hv]
  · rw [if_neg h]
    by_cases hj : j < NC ci
    · rw [fl_get hj, fl_get hj, ho j (fun q => h q.symm)]
    · rw [List.getElem?_eq_none (by rw [fl_len]; omega), List.getElem?_eq_none (by rw [fl_len]; omega)]
def wz (b : Nat) (cA : Nat → ClassId) (M : Mm) (n : Nat) : va_W := (List.range n).map (fun a => (b + a, ce b cA M a))
theorem wz_at {b : Nat} {cA : Nat → ClassId} {M : Mm} {n a : Nat} (h : a < n) : (wz b cA M n)[a]? = some (b + a, ce b cA M a) := by simp [wz, h]
theorem wz_len {b : Nat} {cA : Nat → ClassId} {M : Mm} {n : Nat} : (wz b cA M n).length = n := by simp [wz]
theorem wz_set {b : Nat} {cA : Nat → ClassId} {M M' : Mm} {n a : Nat} {v : va_E} (h : a < n) (hv : ce b cA M' a = v) (ho : ∀ c, c ≠ a → ce b cA M' c = ce b cA M c) : (wz b cA M n).set a (b + a, v) = wz b cA M' n := by
  apply List.ext_getElem?
  intro j
  rw [List.getElem?_set]
  by_cases q : a = j
  · subst q
    rw [if_pos rfl, wz_len, if_pos h, wz_at h, hv]
  · rw [if_neg q]
    by_cases hj : j < n
    · rw [wz_at hj, wz_at hj, ho j (fun q' => q q'.symm)]
    · rw [List.getElem?_eq_none (by rw [wz_len]; omega), List.getElem?_eq_none (by rw [wz_len]; omega)]
theorem wz_push {b : Nat} {cA : Nat → ClassId} {M : Mm} {n : Nat} : wz b cA M n ++ [(b + n, ce b cA M n)] = wz b cA M (n + 1) := by simp [wz, List.range_succ]
theorem wz_D {b : Nat} {cA : Nat → ClassId} {M : Mm} {n : Nat} : va_D (fun q => b ≤ q) (wz b cA M n) := by
  refine ⟨fun i j p q hi hj he => ?_, fun k q hk => ?_⟩
  · have h1 : i < n := by have := (List.getElem?_eq_some_iff.mp hi).1; rwa [wz_len] at this
    have h2 : j < n := by have := (List.getElem?_eq_some_iff.mp hj).1; rwa [wz_len] at this
    rw [wz_at h1] at hi
    rw [wz_at h2] at hj
    cases hi; cases hj
    have he : b + i = b + j := he
    omega
  · have h1 : k < n := by have := (List.getElem?_eq_some_iff.mp hk).1; rwa [wz_len] at this
    rw [wz_at h1] at hk
    cases hk
    exact Nat.le_add_right b k
def tyl (cA : Nat → ClassId) : List (ClassId × FieldType) := [(cA 1, .int), (cA 2, .byte), (cA 3, .boolean), (cA 4, .long), (cA 5, .object "SeaHair$Sea")]
/-- the context of a running method -/
abbrev KK : Type := State × Nat × va_G × (Nat → ClassId) × ((Nat → Nat) × (Nat → Nat) × (Nat → Nat → Bool) × Nat × (Nat → Prop)) × Program × Launch × Env × Room × State × MethodId × Array Value × List Frame × Method × Code
abbrev kS0 (K : KK) : State := K.1
abbrev kB (K : KK) : Nat := K.2.1
abbrev kD (K : KK) : va_G := K.2.2.1
abbrev kA (K : KK) : Nat → ClassId := K.2.2.2.1
abbrev kK (K : KK) : Nat → Nat := K.2.2.2.2.1.1
abbrev kV (K : KK) : Nat → Nat := K.2.2.2.2.1.2.1
abbrev kN (K : KK) : Nat → Nat → Bool := K.2.2.2.2.1.2.2.1
abbrev kn (K : KK) : Nat := K.2.2.2.2.1.2.2.2.1
abbrev kDn (K : KK) : Nat → Prop := K.2.2.2.2.1.2.2.2.2
abbrev kp (K : KK) : Program := K.2.2.2.2.2.1
abbrev kl (K : KK) : Launch := K.2.2.2.2.2.2.1
abbrev ke (K : KK) : Env := K.2.2.2.2.2.2.2.1
abbrev kR (K : KK) : Room := K.2.2.2.2.2.2.2.2.1
abbrev ks (K : KK) : State := K.2.2.2.2.2.2.2.2.2.1
abbrev km (K : KK) : MethodId := K.2.2.2.2.2.2.2.2.2.2.1
abbrev kar (K : KK) : Array Value := K.2.2.2.2.2.2.2.2.2.2.2.1
abbrev kbe (K : KK) : List Frame := K.2.2.2.2.2.2.2.2.2.2.2.2.1
abbrev kme (K : KK) : Method := K.2.2.2.2.2.2.2.2.2.2.2.2.2.1
abbrev kc (K : KK) : Code := K.2.2.2.2.2.2.2.2.2.2.2.2.2.2
def SWORDS : String := "mermaid person strand pull stands price storm pier seed if then else length far moon month weight across down which wears "
def SSIGNS : String := ";=+-*/<()"
def SBYT : List (List Int32) := [SWORDS.toList.map (fun c => Int32.ofNat c.toNat), SSIGNS.toList.map (fun c => Int32.ofNat c.toNat)]
def tw (b : Nat) (sk : Nat → Nat) (v : Value) : Value := match v with
  | .ref a => .ref (b + a)
  | .retAddr i => .ref (sk i)
  | w => w
def zf (sk : Nat → Nat) : Value := if sk 30 = 0 then .null else .retAddr 20
def NWL : List (String × Nat × MethodName) := [(RX5, 54, yX9_farApart), (RX2, 56, yX9_heldTo), (RX8, 84, yX9_wayTo), (RX8, 145, yX9_heldTo), (RX7, 42, yX9_wayTo)]
/-- the two texts of the class, and what its JDK methods read, in a state whose tables are U's and whose old heap is s0's -/
def SF (s0 : State) (b0 : Nat) (sk sv : Nat → Nat) (U : State) : Prop := vk_S 2 [SWORDS.length, SSIGNS.length] SBYT sk (fun i => sk (10 + i)) (fun q => b0 ≤ q) U s0.heap ∧ va_Z "java/lang/String" "COMPACT_STRINGS" "Z" (.int 1) (fun q => b0 ≤ q) U s0.heap ∧ vk_R "SeaHair$Tokens" 71 SWORDS (sk 0) U ∧ vk_R "SeaHair$Tokens" 56 SSIGNS (sk 1) U ∧ (∀ q ∈ NWL, va_Nw (.methodLinkNest q.1 q.2.1 q.2.2 "SeaHair") U) ∧ va_Z "jdk/internal/util/Preconditions" "SIOOBE_FORMATTER" "Ljava/util/function/BiFunction;" (tw b0 sk (zf sk)) (fun q => b0 ≤ q) U s0.heap ∧ va_AO "SeaHair$Sea" U
theorem SF.warm {s0 : State} {b0 : Nat} {sk sv : Nat → Nat} {s U : State} (hW : s.WarmedH U.vm) (h : SF s0 b0 sk sv s) : SF s0 b0 sk sv U := ⟨h.1.moved hW.alike, h.2.1.moved hW.alike, h.2.2.1.warm hW, h.2.2.2.1.warm hW, fun q hq => (h.2.2.2.2.1 q hq).warmM hW, h.2.2.2.2.2.1.moved hW.alike, h.2.2.2.2.2.2.moved hW.alike⟩
theorem SF.same {s0 : State} {b0 : Nat} {sk sv : Nat → Nat} {s U : State} (hv : U.vm = s.vm) (h : SF s0 b0 sk sv s) : SF s0 b0 sk sv U := ⟨h.1.moved (hv ▸ Vm.Alike.refl _), h.2.1.moved (hv ▸ Vm.Alike.refl _), h.2.2.1.same hv, h.2.2.2.1.same hv, fun q hq => (h.2.2.2.2.1 q hq).same rfl hv.symm, h.2.2.2.2.2.1.moved (hv ▸ Vm.Alike.refl _), h.2.2.2.2.2.2.moved (hv ▸ Vm.Alike.refl _)⟩
def Em (K : KK) (M : Mm) (n : Nat) (H : Heap) (locs : List Loc) : Prop := va_P (kD K) vwCl (wz (kB K) (kA K) M n) H ∧ va_S (fun q => kB K ≤ q) (kS0 K).heap H locs ∧ kB K + n ≤ H.size
abbrev tv (K : KK) (v : Value) : Value := tw (kB K) (kK K) v
def Lh (K : KK) (la : Array Slot) (ls : List (Option Value)) : Prop := la.size = (kc K).maxLocals ∧ lv_wf la ∧ ∀ (i : Nat) (v : Value), ls[i]? = some (some v) → la[i]? = some (.val (tv K v))
def CX (K : KK) (cc : ByteArray) (nL : Nat) (own : String) (rt : Option FieldType) : Prop :=
  (kp K).tables.exec = Jvm.exec ∧ (kc K).code = cc ∧ (kc K).maxLocals = nL ∧ (ks K).vm.findClass own = some (km K).cls ∧ (∀ w ∈ TT, w.before (kar K) (ks K) = true) ∧ va_K (kD K) vwCl (tyl (kA K)) (ks K) ∧ (kme K).locks = false ∧ (kS0 K).heap.size = kB K ∧ (kme K).sig.returnType = rt ∧ SF (kS0 K) (kB K) (kK K) (kV K) (ks K) ∧ ∀ a, kDn K a → a < kn K ∧ ∀ k, kN K a k = false
def JX (K : KK) {ρ : Type} (Zr : ρ → State → Prop) (pc : Nat) (ls : List (Option Value)) (st : List Value) (M : Mm) (n k w : Nat) (e : Option ρ) : Prop :=
  ∀ r : ρ, e = some r → ∀ (H : Heap) (la : Array Slot) (locs : List Loc), Em K M n H locs → Lh K la ls → W (kp K) (kl K) (ke K) (kR K) (ks K) (km K) (kar K) (kbe K) (kme K) (kc K) H locs k w (Zr r) (F0 (km K) pc la (st.map (tv K)))

def CB (ci : Nat) (C : String) (T : u_T) (N : Nat) : Prop := (∀ w ∈ u_ws C T N, w ∈ TT) ∧ (∀ k, k < N → parseFieldDescriptor (T k).2.2.1 = some (tyC ci k)) ∧ (∀ a, a < N → ∀ b, b < N → a ≠ b → (T a).2.1 ≠ (T b).2.1) ∧ vwCl[ci]? = some (C, T, N) ∧ NC ci = N
theorem cb0 : CB 0 RX0 TX0 12 := ⟨inlX0, tyX0_ok, nmX0, rfl, rfl⟩
theorem cb1 : CB 1 RX1 TX1 3 := ⟨inlX1, tyX1_ok, nmX1, rfl, rfl⟩
theorem cb2 : CB 2 RX2 TX2 7 := ⟨inlX2, tyX2_ok, nmX2, rfl, rfl⟩
theorem cb3 : CB 3 RX3 TX3 6 := ⟨inlX3, tyX3_ok, nmX3, rfl, rfl⟩
theorem cb4 : CB 4 RX4 TX4 7 := ⟨inlX4, tyX4_ok, nmX4, rfl, rfl⟩
theorem cb5 : CB 5 RX5 TX5 5 := ⟨inlX5, tyX5_ok, nmX5, rfl, rfl⟩
theorem cb6 : CB 6 RX6 TX6 5 := ⟨inlX6, tyX6_ok, nmX6, rfl, rfl⟩
theorem cb7 : CB 7 RX7 TX7 8 := ⟨inlX7, tyX7_ok, nmX7, rfl, rfl⟩
theorem cb8 : CB 8 RX8 TX8 4 := ⟨inlX8, tyX8_ok, nmX8, rfl, rfl⟩
theorem cb9 : CB 9 RX9 TX9 14 := ⟨inlX9, tyX9_ok, nmX9, rfl, rfl⟩
theorem cb10 : CB 10 RX10 TX10 71 := ⟨inlX10, tyX10_ok, nmX10, rfl, rfl⟩
section JR
variable {K : KK} {ρ : Type} {Zr : ρ → State → Prop} {cc : ByteArray} {nL : Nat} {own : String} {rt : Option FieldType} {pc : Nat} {ls : List (Option Value)} {st : List Value} {M : Mm} {n k w : Nat} {e e1 e2 : Option ρ}
theorem J_iadd (X : CX K cc nL own rt) {x y : Int32} (hd : decode cc pc = .ok (.iadd, 1)) (h : JX K Zr (pc + 1) ls (.int (x + y) :: st) M n k w e) : JX K Zr pc ls (.int y :: .int x :: st) M n k w e :=
  fun r hr H la locs hE hL => lv_iadd X.1 X.2.1 hd (h r hr H la locs hE hL)
theorem J_isub (X : CX K cc nL own rt) {x y : Int32} (hd : decode cc pc = .ok (.isub, 1)) (h : JX K Zr (pc + 1) ls (.int (x - y) :: st) M n k w e) : JX K Zr pc ls (.int y :: .int x :: st) M n k w e :=
  fun r hr H la locs hE hL => lv_isub X.1 X.2.1 hd (h r hr H la locs hE hL)
theorem J_imul (X : CX K cc nL own rt) {x y : Int32} (hd : decode cc pc = .ok (.imul, 1)) (h : JX K Zr (pc + 1) ls (.int (x * y) :: st) M n k w e) : JX K Zr pc ls (.int y :: .int x :: st) M n k w e :=
  fun r hr H la locs hE hL => lv_imul X.1 X.2.1 hd (h r hr H la locs hE hL)
theorem J_iand (X : CX K cc nL own rt) {x y : Int32} (hd : decode cc pc = .ok (.iand, 1)) (h : JX K Zr (pc + 1) ls (.int (x &&& y) :: st) M n k w e) : JX K Zr pc ls (.int y :: .int x :: st) M n k w e :=
  fun r hr H la locs hE hL => lv_iand X.1 X.2.1 hd (h r hr H la locs hE hL)
theorem J_ior (X : CX K cc nL own rt) {x y : Int32} (hd : decode cc pc = .ok (.ior, 1)) (h : JX K Zr (pc + 1) ls (.int (x ||| y) :: st) M n k w e) : JX K Zr pc ls (.int y :: .int x :: st) M n k w e :=
  fun r hr H la locs hE hL => lv_ior X.1 X.2.1 hd (h r hr H la locs hE hL)
theorem J_ixor (X : CX K cc nL own rt) {x y : Int32} (hd : decode cc pc = .ok (.ixor, 1)) (h : JX K Zr (pc + 1) ls (.int (x ^^^ y) :: st) M n k w e) : JX K Zr pc ls (.int y :: .int x :: st) M n k w e :=
  fun r hr H la locs hE hL => lv_ixor X.1 X.2.1 hd (h r hr H la locs hE hL)
theorem J_ishl (X : CX K cc nL own rt) {x y : Int32} (hd : decode cc pc = .ok (.ishl, 1)) (h : JX K Zr (pc + 1) ls (.int (x <<< (y &&& 31)) :: st) M n k w e) : JX K Zr pc ls (.int y :: .int x :: st) M n k w e :=
  fun r hr H la locs hE hL => lv_ishl X.1 X.2.1 hd (h r hr H la locs hE hL)
theorem J_ishr (X : CX K cc nL own rt) {x y : Int32} (hd : decode cc pc = .ok (.ishr, 1)) (h : JX K Zr (pc + 1) ls (.int (x >>> (y &&& 31)) :: st) M n k w e) : JX K Zr pc ls (.int y :: .int x :: st) M n k w e :=
  fun r hr H la locs hE hL => lv_ishr X.1 X.2.1 hd (h r hr H la locs hE hL)
theorem J_iushr (X : CX K cc nL own rt) {x y : Int32} (hd : decode cc pc = .ok (.iushr, 1)) (h : JX K Zr (pc + 1) ls (.int ((x.toUInt32 >>> (y.toUInt32 &&& Int32.toUInt32 31)).toInt32) :: st) M n k w e) : JX K Zr pc ls (.int y :: .int x :: st) M n k w e :=
  fun r hr H la locs hE hL => lv_iushr X.1 X.2.1 hd rfl (h r hr H la locs hE hL)
theorem J_ineg (X : CX K cc nL own rt) {x : Int32} (hd : decode cc pc = .ok (.ineg, 1)) (h : JX K Zr (pc + 1) ls (.int (-x) :: st) M n k w e) : JX K Zr pc ls (.int x :: st) M n k w e :=
  fun r hr H la locs hE hL => lv_ineg X.1 X.2.1 hd (h r hr H la locs hE hL)
theorem J_ladd (X : CX K cc nL own rt) {x y : Int64} (hd : decode cc pc = .ok (.ladd, 1)) (h : JX K Zr (pc + 1) ls (.long (x + y) :: st) M n k w e) : JX K Zr pc ls (.long y :: .long x :: st) M n k w e :=
  fun r hr H la locs hE hL => lv_ladd X.1 X.2.1 hd (h r hr H la locs hE hL)
theorem J_lmul (X : CX K cc nL own rt) {x y : Int64} (hd : decode cc pc = .ok (.lmul, 1)) (h : JX K Zr (pc + 1) ls (.long (x * y) :: st) M n k w e) : JX K Zr pc ls (.long y :: .long x :: st) M n k w e :=
  fun r hr H la locs hE hL => lv_lmul X.1 X.2.1 hd (h r hr H la locs hE hL)
theorem J_i2l (X : CX K cc nL own rt) {x : Int32} (hd : decode cc pc = .ok (.i2l, 1)) (h : JX K Zr (pc + 1) ls (.long x.toInt64 :: st) M n k w e) : JX K Zr pc ls (.int x :: st) M n k w e :=
  fun r hr H la locs hE hL => lv_i2l X.1 X.2.1 hd rfl (h r hr H la locs hE hL)
theorem J_l2i (X : CX K cc nL own rt) {x : Int64} (hd : decode cc pc = .ok (.l2i, 1)) (h : JX K Zr (pc + 1) ls (.int x.toInt32 :: st) M n k w e) : JX K Zr pc ls (.long x :: st) M n k w e :=
  fun r hr H la locs hE hL => lv_l2i X.1 X.2.1 hd rfl (h r hr H la locs hE hL)
theorem J_i2b (X : CX K cc nL own rt) {x : Int32} (hd : decode cc pc = .ok (.i2b, 1)) (h : JX K Zr (pc + 1) ls (.int x.toInt8.toInt32 :: st) M n k w e) : JX K Zr pc ls (.int x :: st) M n k w e :=
  fun r hr H la locs hE hL => lv_i2b X.1 X.2.1 hd rfl (h r hr H la locs hE hL)
theorem J_i2c (X : CX K cc nL own rt) {x : Int32} (hd : decode cc pc = .ok (.i2c, 1)) (h : JX K Zr (pc + 1) ls (.int (x.toUInt32 % 65536).toInt32 :: st) M n k w e) : JX K Zr pc ls (.int x :: st) M n k w e :=
  fun r hr H la locs hE hL => lv_i2c X.1 X.2.1 hd rfl (h r hr H la locs hE hL)
theorem J_idivc (X : CX K cc nL own rt) {x y : Int32} (hd : decode cc pc = .ok (.idiv, 1)) (hne : ¬ y = 0) (h : JX K Zr (pc + 1) ls (.int (x / y) :: st) M n k w e) : JX K Zr pc ls (.int y :: .int x :: st) M n k w e :=
  fun r hr H la locs hE hL => lv_idiv X.1 X.2.1 hd hne (h r hr H la locs hE hL)
theorem J_iremc (X : CX K cc nL own rt) {x y : Int32} (hd : decode cc pc = .ok (.irem, 1)) (hne : ¬ y = 0) (h : JX K Zr (pc + 1) ls (.int (x - x / y * y) :: st) M n k w e) : JX K Zr pc ls (.int y :: .int x :: st) M n k w e :=
  fun r hr H la locs hE hL => lv_irem X.1 X.2.1 hd hne (h r hr H la locs hE hL)
theorem J_iconst (X : CX K cc nL own rt) {c : Int} {v : Int32} (hd : decode cc pc = .ok (.iconst c, 1)) (hv : Int32.ofInt c = v) (h : JX K Zr (pc + 1) ls (.int v :: st) M n k w e) : JX K Zr pc ls (st) M n k w e :=
  fun r hr H la locs hE hL => lv_iconst X.1 X.2.1 hd hv (h r hr H la locs hE hL)
theorem J_bipush (X : CX K cc nL own rt) {c : Int} {v : Int32} (hd : decode cc pc = .ok (.bipush c, 2)) (hv : (Int8.ofInt c).toInt32 = v) (h : JX K Zr (pc + 2) ls (.int v :: st) M n k w e) : JX K Zr pc ls (st) M n k w e :=
  fun r hr H la locs hE hL => lv_bipush X.1 X.2.1 hd hv (h r hr H la locs hE hL)
theorem J_sipush (X : CX K cc nL own rt) {c : Int} {v : Int32} (hd : decode cc pc = .ok (.sipush c, 3)) (hv : (Int16.ofInt c).toInt32 = v) (h : JX K Zr (pc + 3) ls (.int v :: st) M n k w e) : JX K Zr pc ls (st) M n k w e :=
  fun r hr H la locs hE hL => lv_sipush X.1 X.2.1 hd hv (h r hr H la locs hE hL)
theorem J_lconst (X : CX K cc nL own rt) {c : Fin 2} {v : Int64} (hd : decode cc pc = .ok (.lconst c, 1)) (hv : Int64.ofNat (c : Nat) = v) (h : JX K Zr (pc + 1) ls (.long v :: st) M n k w e) : JX K Zr pc ls (st) M n k w e :=
  fun r hr H la locs hE hL => lv_lconst X.1 X.2.1 hd hv (h r hr H la locs hE hL)
theorem J_ldc (X : CX K cc nL own rt) {c : Nat} {v : Int32} (hw : Cond.constant own c v ∈ TT) (hd : decode cc pc = .ok (.ldc c, 2)) (h : JX K Zr (pc + 2) ls (.int v :: st) M n k w e) : JX K Zr pc ls st M n k w e :=
  fun r hr H la locs hE hL => lv_ldc X.1 X.2.1 X.2.2.2.1 (X.2.2.2.2.1 _ hw) hd (h r hr H la locs hE hL)
theorem J_ldcw (X : CX K cc nL own rt) {c : Nat} {v : Int32} (hw : Cond.constant own c v ∈ TT) (hd : decode cc pc = .ok (.ldc_w c, 3)) (h : JX K Zr (pc + 3) ls (.int v :: st) M n k w e) : JX K Zr pc ls st M n k w e :=
  fun r hr H la locs hE hL => lv_ldcw X.1 X.2.1 X.2.2.2.1 (X.2.2.2.2.1 _ hw) hd (h r hr H la locs hE hL)
theorem J_ldc2 (X : CX K cc nL own rt) {c : Nat} {v : Int64} (hw : Cond.constantLong own c v ∈ TT) (hd : decode cc pc = .ok (.ldc2_w c, 3)) (h : JX K Zr (pc + 3) ls (.long v :: st) M n k w e) : JX K Zr pc ls st M n k w e :=
  fun r hr H la locs hE hL => lv_ldc2 X.1 X.2.1 X.2.2.2.1 (X.2.2.2.2.1 _ hw) hd (h r hr H la locs hE hL)
theorem J_lcmp (X : CX K cc nL own rt) {x y : Int64} (hd : decode cc pc = .ok (.lcmp, 1)) (h : JX K Zr (pc + 1) ls (.int (lg_cmp x y) :: st) M n k w e) : JX K Zr pc ls (.long y :: .long x :: st) M n k w e :=
  fun r hr H la locs hE hL => W.lcmp X.1 X.2.1 hd (h r hr H la locs hE hL)
theorem J_iload_n (X : CX K cc nL own rt) {q : Fin 4} {i : Nat} {x : Int32} (hd : decode cc pc = .ok (.iload_n q, 1)) (hi : (q : Nat) = i) (hl : ls[i]? = some (some (.int x))) (h : JX K Zr (pc + 1) ls (.int x :: st) M n k w e) : JX K Zr pc ls st M n k w e :=
  fun r hr H la locs hE hL => lv_iload_n X.1 X.2.1 hd hi (hL.2.2 _ _ hl) (h r hr H la locs hE hL)
theorem J_iload (X : CX K cc nL own rt) {i : Nat} {x : Int32} (hd : decode cc pc = .ok (.iload i, 2)) (hl : ls[i]? = some (some (.int x))) (h : JX K Zr (pc + 2) ls (.int x :: st) M n k w e) : JX K Zr pc ls st M n k w e :=
  fun r hr H la locs hE hL => lv_iload X.1 X.2.1 hd (hL.2.2 _ _ hl) (h r hr H la locs hE hL)
theorem J_lload_n (X : CX K cc nL own rt) {q : Fin 4} {i : Nat} {x : Int64} (hd : decode cc pc = .ok (.lload_n q, 1)) (hi : (q : Nat) = i) (hl : ls[i]? = some (some (.long x))) (h : JX K Zr (pc + 1) ls (.long x :: st) M n k w e) : JX K Zr pc ls st M n k w e :=
  fun r hr H la locs hE hL => lv_lload_n X.1 X.2.1 hd hi (hL.2.2 _ _ hl) (h r hr H la locs hE hL)
theorem J_lload (X : CX K cc nL own rt) {i : Nat} {x : Int64} (hd : decode cc pc = .ok (.lload i, 2)) (hl : ls[i]? = some (some (.long x))) (h : JX K Zr (pc + 2) ls (.long x :: st) M n k w e) : JX K Zr pc ls st M n k w e :=
  fun r hr H la locs hE hL => lv_lload X.1 X.2.1 hd (hL.2.2 _ _ hl) (h r hr H la locs hE hL)
theorem J_aload_n (X : CX K cc nL own rt) {q : Fin 4} {i : Nat} {x : Nat} (hd : decode cc pc = .ok (.aload_n q, 1)) (hi : (q : Nat) = i) (hl : ls[i]? = some (some (.ref x))) (h : JX K Zr (pc + 1) ls (.ref x :: st) M n k w e) : JX K Zr pc ls st M n k w e :=
  fun r hr H la locs hE hL => lv_aload_n X.1 X.2.1 hd hi (hL.2.2 _ _ hl) (h r hr H la locs hE hL)
theorem J_aload (X : CX K cc nL own rt) {i : Nat} {x : Nat} (hd : decode cc pc = .ok (.aload i, 2)) (hl : ls[i]? = some (some (.ref x))) (h : JX K Zr (pc + 2) ls (.ref x :: st) M n k w e) : JX K Zr pc ls st M n k w e :=
  fun r hr H la locs hE hL => lv_aload X.1 X.2.1 hd (hL.2.2 _ _ hl) (h r hr H la locs hE hL)
def setl (ls : List (Option Value)) (i : Nat) (v : Value) : List (Option Value) := ls.mapIdx (fun j w => if j = i then some v else match w with
  | some (.long x) => if j + 1 = i then none else some (.long x)
  | some (.double x) => if j + 1 = i then none else some (.double x)
  | w => if v.category = 2 ∧ j = i + 1 then none else w)
def lvk (K : KK) (ls : List (Option Value)) : List (Nat × Value) := (List.range ls.length).filterMap (fun j => (ls[j]?.getD none).map (fun v => (j, tv K v)))
theorem lvk_mem {K : KK} {ls : List (Option Value)} {j : Nat} {v : Value} (h : ls[j]? = some (some v)) : (j, tv K v) ∈ lvk K ls := by
  refine List.mem_filterMap.mpr ⟨j, List.mem_range.mpr (List.getElem?_eq_some_iff.mp h).1, ?_⟩
  simp [h]
theorem lvk_has {K : KK} {la : Array Slot} {ls : List (Option Value)} (h : Lh K la ls) : lv_has la (kc K).maxLocals (lvk K ls) := by
  refine ⟨h.1, h.2.1, fun q hq => ?_⟩
  obtain ⟨j, -, hj⟩ := List.mem_filterMap.mp hq
  obtain ⟨v, hv, rfl⟩ := Option.map_eq_some_iff.mp hj
  refine h.2.2 j v ?_
  cases hh : ls[j]? with
  | none => rw [hh] at hv; cases hv
  | some u => rw [hh] at hv; simpa using hv
theorem tv_cat {K : KK} {v : Value} : (tv K v).category = v.category := by cases v <;> rfl
theorem Lh_set1 {K : KK} {la' : Array Slot} {ls : List (Option Value)} {i : Nat} {v : Value} (hc : v.category = 1) (h : lv_has la' (kc K).maxLocals ((i, tv K v) :: (lvk K ls).filter (fun q => !(q.1 == i) && !(q.1 + 1 == i && q.2.category == 2)))) : Lh K la' (setl ls i v) := by
  refine ⟨h.1, h.2.1, fun j u hj => ?_⟩
  simp only [setl, List.getElem?_mapIdx, Option.map_eq_some_iff] at hj
  obtain ⟨a, ha, hu⟩ := hj
  by_cases hji : j = i
  · rw [if_pos hji] at hu
    cases hu
    exact h.2.2 (j, tv K v) (by rw [hji]; exact List.mem_cons_self)
  · rw [if_neg hji] at hu
    have hu' : a = some u ∧ ¬ (j + 1 = i ∧ u.category = 2) := by
      rcases a with _ | a
      · simp [hc] at hu
      · cases a <;> simp [hc] at hu <;> first | (subst hu; exact ⟨rfl, fun q => by simp [Value.category] at q⟩) | (obtain ⟨h1, rfl⟩ := hu; exact ⟨rfl, fun q => h1 q.1⟩)
    obtain ⟨rfl, hn⟩ := hu'
    refine h.2.2 (j, tv K u) (List.mem_cons_of_mem _ (List.mem_filter.mpr ⟨lvk_mem ha, ?_⟩))
    simp only [tv_cat, Bool.and_eq_true, Bool.not_eq_true', beq_eq_false_iff_ne, ne_eq, Bool.and_eq_false_iff]
    refine ⟨hji, ?_⟩
    by_cases h1 : j + 1 = i
    · right; exact fun q => hn ⟨h1, q⟩
    · left; exact h1
theorem Lh_set2 {K : KK} {la' : Array Slot} {ls : List (Option Value)} {i : Nat} {v : Value} (hc : v.category = 2) (h : lv_has la' (kc K).maxLocals ((i, tv K v) :: (lvk K ls).filter (fun q => !(q.1 == i) && (!(q.1 == i + 1) && !(q.1 + 1 == i && q.2.category == 2))))) (hl2 : ls[i + 1]?.getD none = none) : Lh K la' (setl ls i v) := by
  refine ⟨h.1, h.2.1, fun j u hj => ?_⟩
  simp only [setl, List.getElem?_mapIdx, Option.map_eq_some_iff] at hj
  obtain ⟨a, ha, hu⟩ := hj
  by_cases hji : j = i
  · rw [if_pos hji] at hu
    cases hu
    exact h.2.2 (j, tv K v) (by rw [hji]; exact List.mem_cons_self)
  · rw [if_neg hji] at hu
    have hu' : a = some u ∧ ¬ (j + 1 = i ∧ u.category = 2) ∧ j ≠ i + 1 := by
      rcases a with _ | a
      · simp [hc] at hu
      · by_cases h2 : j = i + 1
        · exfalso
          subst h2
          rw [ha] at hl2; cases hl2
        · cases a <;> simp [hc, h2] at hu <;> first | (subst hu; exact ⟨rfl, fun q => by simp [Value.category] at q, h2⟩) | (obtain ⟨h1, rfl⟩ := hu; exact ⟨rfl, fun q => h1 q.1, h2⟩)
    obtain ⟨rfl, hn, h2⟩ := hu'
    refine h.2.2 (j, tv K u) (List.mem_cons_of_mem _ (List.mem_filter.mpr ⟨lvk_mem ha, ?_⟩))
    simp only [tv_cat, Bool.and_eq_true, Bool.not_eq_true', beq_eq_false_iff_ne, ne_eq, Bool.and_eq_false_iff]
    refine ⟨hji, h2, ?_⟩
    by_cases h1 : j + 1 = i
    · right; exact fun q => hn ⟨h1, q⟩
    · left; exact h1
theorem J_istore_n (X : CX K cc nL own rt) {q : Fin 4} {i : Nat} {x : Int32} {ls' : List (Option Value)} (hd : decode cc pc = .ok (.istore_n q, 1)) (hi : (q : Nat) = i) (hn : i < nL) (hl : setl ls i (.int x) = ls') (h : JX K Zr (pc + 1) ls' st M n k w e) : JX K Zr pc ls (.int x :: st) M n k w e :=
  fun r hr H la locs hE hL => lv_istore_n X.1 X.2.1 hd hi (lvk_has hL) (by rw [X.2.2.1]; exact hn) rfl (fun la' h' => h r hr H la' locs hE (by rw [← hl]; exact Lh_set1 rfl h'))
theorem J_istore (X : CX K cc nL own rt) {i : Nat} {x : Int32} {ls' : List (Option Value)} (hd : decode cc pc = .ok (.istore i, 2)) (hn : i < nL) (hl : setl ls i (.int x) = ls') (h : JX K Zr (pc + 2) ls' st M n k w e) : JX K Zr pc ls (.int x :: st) M n k w e :=
  fun r hr H la locs hE hL => lv_istore X.1 X.2.1 hd (lvk_has hL) (by rw [X.2.2.1]; exact hn) rfl (fun la' h' => h r hr H la' locs hE (by rw [← hl]; exact Lh_set1 rfl h'))
theorem J_astore_n (X : CX K cc nL own rt) {q : Fin 4} {i : Nat} {x : Nat} {ls' : List (Option Value)} (hd : decode cc pc = .ok (.astore_n q, 1)) (hi : (q : Nat) = i) (hn : i < nL) (hl : setl ls i (.ref x) = ls') (h : JX K Zr (pc + 1) ls' st M n k w e) : JX K Zr pc ls (.ref x :: st) M n k w e :=
  fun r hr H la locs hE hL => lv_astore_n X.1 X.2.1 hd hi (lvk_has hL) (by rw [X.2.2.1]; exact hn) rfl (fun la' h' => h r hr H la' locs hE (by rw [← hl]; exact Lh_set1 rfl h'))
theorem J_astore (X : CX K cc nL own rt) {i : Nat} {x : Nat} {ls' : List (Option Value)} (hd : decode cc pc = .ok (.astore i, 2)) (hn : i < nL) (hl : setl ls i (.ref x) = ls') (h : JX K Zr (pc + 2) ls' st M n k w e) : JX K Zr pc ls (.ref x :: st) M n k w e :=
  fun r hr H la locs hE hL => lv_astore X.1 X.2.1 hd (lvk_has hL) (by rw [X.2.2.1]; exact hn) rfl (fun la' h' => h r hr H la' locs hE (by rw [← hl]; exact Lh_set1 rfl h'))
theorem J_lstore_n (X : CX K cc nL own rt) {q : Fin 4} {i : Nat} {x : Int64} {ls' : List (Option Value)} (hd : decode cc pc = .ok (.lstore_n q, 1)) (hi : (q : Nat) = i) (hn : i + 1 < nL) (hl2 : ls[i + 1]?.getD none = none) (hl : setl ls i (.long x) = ls') (h : JX K Zr (pc + 1) ls' st M n k w e) : JX K Zr pc ls (.long x :: st) M n k w e :=
  fun r hr H la locs hE hL => lv_lstore_n X.1 X.2.1 hd hi (lvk_has hL) (by rw [X.2.2.1]; exact hn) rfl (fun la' h' => h r hr H la' locs hE (by rw [← hl]; exact Lh_set2 rfl h' hl2))
theorem J_lstore (X : CX K cc nL own rt) {i : Nat} {x : Int64} {ls' : List (Option Value)} (hd : decode cc pc = .ok (.lstore i, 2)) (hn : i + 1 < nL) (hl2 : ls[i + 1]?.getD none = none) (hl : setl ls i (.long x) = ls') (h : JX K Zr (pc + 2) ls' st M n k w e) : JX K Zr pc ls (.long x :: st) M n k w e :=
  fun r hr H la locs hE hL => lv_lstore X.1 X.2.1 hd (lvk_has hL) (by rw [X.2.2.1]; exact hn) rfl (fun la' h' => h r hr H la' locs hE (by rw [← hl]; exact Lh_set2 rfl h' hl2))
theorem J_iinc (X : CX K cc nL own rt) {i : Nat} {c : Int} {x v : Int32} {ls' : List (Option Value)} (hd : decode cc pc = .ok (.iinc i c, 3)) (hn : i < nL) (hx : ls[i]? = some (some (.int x))) (hv : x + Int32.ofInt c = v) (hl : setl ls i (.int v) = ls') (h : JX K Zr (pc + 3) ls' st M n k w e) : JX K Zr pc ls st M n k w e := by
  intro r hr H la locs hE hL
  have hm := lvk_mem (K := K) hx
  obtain ⟨q, hq⟩ := List.getElem?_of_mem hm
  exact lv_iinc X.1 X.2.1 hd (lvk_has hL) hq hv (by rw [X.2.2.1]; exact hn) rfl (fun la' h' => h r hr H la' locs hE (by rw [← hl]; exact Lh_set1 rfl h'))
theorem J_pop (X : CX K cc nL own rt) {v : Value} (hd : decode cc pc = .ok (.pop, 1)) (hc : v.category = 1) (h : JX K Zr (pc + 1) ls st M n k w e) : JX K Zr pc ls (v :: st) M n k w e :=
  fun r hr H la locs hE hL => lv_pop X.1 X.2.1 hd (tv_cat.trans hc) (h r hr H la locs hE hL)
theorem J_dup (X : CX K cc nL own rt) {v : Value} (hd : decode cc pc = .ok (.dup, 1)) (hc : v.category = 1) (h : JX K Zr (pc + 1) ls (v :: v :: st) M n k w e) : JX K Zr pc ls (v :: st) M n k w e :=
  fun r hr H la locs hE hL => lv_dup X.1 X.2.1 hd (tv_cat.trans hc) (h r hr H la locs hE hL)
theorem J_dup2 (X : CX K cc nL own rt) {v u : Value} (hd : decode cc pc = .ok (.dup2, 1)) (hc : v.category = 1) (hc2 : u.category = 1) (h : JX K Zr (pc + 1) ls (v :: u :: v :: u :: st) M n k w e) : JX K Zr pc ls (v :: u :: st) M n k w e :=
  fun r hr H la locs hE hL => lv_dup2_11 X.1 X.2.1 hd (tv_cat.trans hc) (tv_cat.trans hc2) (h r hr H la locs hE hL)
theorem J_goto (X : CX K cc nL own rt) {off : Int} {tgt : Nat} (hd : decode cc pc = .ok (.goto off, 3)) (ht : (pc : Int) + off = (tgt : Int)) (h : JX K Zr tgt ls st M n k w e) : JX K Zr pc ls st M n k w e :=
  fun r hr H la locs hE hL => lv_goto X.1 X.2.1 hd ht (h r hr H la locs hE hL)
theorem J_tabIn (X : CX K cc nL own rt) {dflt lo hi : Int} {offs : Array Int} {len : Nat} {x v : Int32} {off : Int} {tgt : Nat} (hx : x = v) (hd : decode cc pc = .ok (.tableswitch dflt lo hi offs, len)) (h1 : ¬ v.toInt < lo) (h2 : ¬ hi < v.toInt) (ho : offs[(v.toInt - lo).toNat]? = some off) (ht : (pc : Int) + off = (tgt : Int)) (h : JX K Zr tgt ls st M n k w e) : JX K Zr pc ls (.int x :: st) M n k w e := by
  subst hx
  exact fun r hr H la locs hE hL => lv_tableIn X.1 X.2.1 hd h1 h2 ho ht (h r hr H la locs hE hL)
theorem J_tabOut (X : CX K cc nL own rt) {dflt lo hi : Int} {offs : Array Int} {len : Nat} {x : Int32} {tgt : Nat} (hd : decode cc pc = .ok (.tableswitch dflt lo hi offs, len)) (hx : x.toInt < lo ∨ hi < x.toInt) (ht : (pc : Int) + dflt = (tgt : Int)) (h : JX K Zr tgt ls st M n k w e) : JX K Zr pc ls (.int x :: st) M n k w e :=
  fun r hr H la locs hE hL => lv_tableOut X.1 X.2.1 hd hx ht (h r hr H la locs hE hL)
theorem J_ite {c : Prop} [Decidable c] (h1 : c → JX K Zr pc ls st M n k w e1) (h2 : ¬ c → JX K Zr pc ls st M n k w e2) : JX K Zr pc ls st M n k w (if c then e1 else e2) := by
  by_cases hc : c
  · rw [if_pos hc]; exact h1 hc
  · rw [if_neg hc]; exact h2 hc
def nm {α β : Type} (v : α) (f : α → β) : β := f v
theorem J_nmi {x : Int32} {f : Int32 → Option ρ} (h : ∀ y : Int32, JX K Zr pc ls (.int y :: st) M n k w (f y)) : JX K Zr pc ls (.int x :: st) M n k w (nm x f) := h x
theorem J_nml {x : Int64} {f : Int64 → Option ρ} (h : ∀ y : Int64, JX K Zr pc ls (.long y :: st) M n k w (f y)) : JX K Zr pc ls (.long x :: st) M n k w (nm x f) := h x
theorem J_icmp_eq (X : CX K cc nL own rt) {x y : Int32} {off : Int} {tgt : Nat} (hd : decode cc pc = .ok (.if_icmp .eq off, 3)) (ht : (pc : Int) + off = (tgt : Int)) (hT : JX K Zr tgt ls st M n k w e1) (hF : JX K Zr (pc + 3) ls st M n k w e2) : JX K Zr pc ls (.int y :: .int x :: st) M n k w (if x = y then e1 else e2) :=
  fun r hr H la locs hE hL => lv_icmp_eq X.1 X.2.1 hd ht (fun hc => hT r (by rw [if_pos hc] at hr; exact hr) H la locs hE hL) (fun hc => hF r (by rw [if_neg hc] at hr; exact hr) H la locs hE hL)
theorem J_if_eq (X : CX K cc nL own rt) {x : Int32} {off : Int} {tgt : Nat} (hd : decode cc pc = .ok (.ifCond .eq off, 3)) (ht : (pc : Int) + off = (tgt : Int)) (hT : JX K Zr tgt ls st M n k w e1) (hF : JX K Zr (pc + 3) ls st M n k w e2) : JX K Zr pc ls (.int x :: st) M n k w (if x = 0 then e1 else e2) :=
  fun r hr H la locs hE hL => lv_if_eq X.1 X.2.1 hd ht (fun hc => hT r (by rw [if_pos hc] at hr; exact hr) H la locs hE hL) (fun hc => hF r (by rw [if_neg hc] at hr; exact hr) H la locs hE hL)
theorem J_icmp_ne (X : CX K cc nL own rt) {x y : Int32} {off : Int} {tgt : Nat} (hd : decode cc pc = .ok (.if_icmp .ne off, 3)) (ht : (pc : Int) + off = (tgt : Int)) (hT : JX K Zr (pc + 3) ls st M n k w e1) (hF : JX K Zr tgt ls st M n k w e2) : JX K Zr pc ls (.int y :: .int x :: st) M n k w (if x = y then e1 else e2) :=
  fun r hr H la locs hE hL => lv_icmp_ne X.1 X.2.1 hd ht (fun hc => hF r (by rw [if_neg hc] at hr; exact hr) H la locs hE hL) (fun hc => hT r (by rw [if_pos hc] at hr; exact hr) H la locs hE hL)
theorem J_if_ne (X : CX K cc nL own rt) {x : Int32} {off : Int} {tgt : Nat} (hd : decode cc pc = .ok (.ifCond .ne off, 3)) (ht : (pc : Int) + off = (tgt : Int)) (hT : JX K Zr (pc + 3) ls st M n k w e1) (hF : JX K Zr tgt ls st M n k w e2) : JX K Zr pc ls (.int x :: st) M n k w (if x = 0 then e1 else e2) :=
  fun r hr H la locs hE hL => lv_if_ne X.1 X.2.1 hd ht (fun hc => hF r (by rw [if_neg hc] at hr; exact hr) H la locs hE hL) (fun hc => hT r (by rw [if_pos hc] at hr; exact hr) H la locs hE hL)
theorem J_icmp_lt (X : CX K cc nL own rt) {x y : Int32} {off : Int} {tgt : Nat} (hd : decode cc pc = .ok (.if_icmp .lt off, 3)) (ht : (pc : Int) + off = (tgt : Int)) (hT : JX K Zr tgt ls st M n k w e1) (hF : JX K Zr (pc + 3) ls st M n k w e2) : JX K Zr pc ls (.int y :: .int x :: st) M n k w (if x < y then e1 else e2) :=
  fun r hr H la locs hE hL => lv_icmp_lt X.1 X.2.1 hd ht (fun hc => hT r (by rw [if_pos hc] at hr; exact hr) H la locs hE hL) (fun hc => hF r (by rw [if_neg hc] at hr; exact hr) H la locs hE hL)
theorem J_if_lt (X : CX K cc nL own rt) {x : Int32} {off : Int} {tgt : Nat} (hd : decode cc pc = .ok (.ifCond .lt off, 3)) (ht : (pc : Int) + off = (tgt : Int)) (hT : JX K Zr tgt ls st M n k w e1) (hF : JX K Zr (pc + 3) ls st M n k w e2) : JX K Zr pc ls (.int x :: st) M n k w (if x < 0 then e1 else e2) :=
  fun r hr H la locs hE hL => lv_if_lt X.1 X.2.1 hd ht (fun hc => hT r (by rw [if_pos hc] at hr; exact hr) H la locs hE hL) (fun hc => hF r (by rw [if_neg hc] at hr; exact hr) H la locs hE hL)
theorem J_icmp_ge (X : CX K cc nL own rt) {x y : Int32} {off : Int} {tgt : Nat} (hd : decode cc pc = .ok (.if_icmp .ge off, 3)) (ht : (pc : Int) + off = (tgt : Int)) (hT : JX K Zr tgt ls st M n k w e1) (hF : JX K Zr (pc + 3) ls st M n k w e2) : JX K Zr pc ls (.int y :: .int x :: st) M n k w (if y ≤ x then e1 else e2) :=
  fun r hr H la locs hE hL => lv_icmp_ge X.1 X.2.1 hd ht (fun hc => hT r (by rw [if_pos hc] at hr; exact hr) H la locs hE hL) (fun hc => hF r (by rw [if_neg hc] at hr; exact hr) H la locs hE hL)
theorem J_if_ge (X : CX K cc nL own rt) {x : Int32} {off : Int} {tgt : Nat} (hd : decode cc pc = .ok (.ifCond .ge off, 3)) (ht : (pc : Int) + off = (tgt : Int)) (hT : JX K Zr tgt ls st M n k w e1) (hF : JX K Zr (pc + 3) ls st M n k w e2) : JX K Zr pc ls (.int x :: st) M n k w (if 0 ≤ x then e1 else e2) :=
  fun r hr H la locs hE hL => lv_if_ge X.1 X.2.1 hd ht (fun hc => hT r (by rw [if_pos hc] at hr; exact hr) H la locs hE hL) (fun hc => hF r (by rw [if_neg hc] at hr; exact hr) H la locs hE hL)
theorem J_icmp_gt (X : CX K cc nL own rt) {x y : Int32} {off : Int} {tgt : Nat} (hd : decode cc pc = .ok (.if_icmp .gt off, 3)) (ht : (pc : Int) + off = (tgt : Int)) (hT : JX K Zr tgt ls st M n k w e1) (hF : JX K Zr (pc + 3) ls st M n k w e2) : JX K Zr pc ls (.int y :: .int x :: st) M n k w (if y < x then e1 else e2) :=
  fun r hr H la locs hE hL => lv_icmp_gt X.1 X.2.1 hd ht (fun hc => hT r (by rw [if_pos hc] at hr; exact hr) H la locs hE hL) (fun hc => hF r (by rw [if_neg hc] at hr; exact hr) H la locs hE hL)
theorem J_if_gt (X : CX K cc nL own rt) {x : Int32} {off : Int} {tgt : Nat} (hd : decode cc pc = .ok (.ifCond .gt off, 3)) (ht : (pc : Int) + off = (tgt : Int)) (hT : JX K Zr tgt ls st M n k w e1) (hF : JX K Zr (pc + 3) ls st M n k w e2) : JX K Zr pc ls (.int x :: st) M n k w (if 0 < x then e1 else e2) :=
  fun r hr H la locs hE hL => lv_if_gt X.1 X.2.1 hd ht (fun hc => hT r (by rw [if_pos hc] at hr; exact hr) H la locs hE hL) (fun hc => hF r (by rw [if_neg hc] at hr; exact hr) H la locs hE hL)
theorem J_icmp_le (X : CX K cc nL own rt) {x y : Int32} {off : Int} {tgt : Nat} (hd : decode cc pc = .ok (.if_icmp .le off, 3)) (ht : (pc : Int) + off = (tgt : Int)) (hT : JX K Zr tgt ls st M n k w e1) (hF : JX K Zr (pc + 3) ls st M n k w e2) : JX K Zr pc ls (.int y :: .int x :: st) M n k w (if x ≤ y then e1 else e2) :=
  fun r hr H la locs hE hL => lv_icmp_le X.1 X.2.1 hd ht (fun hc => hT r (by rw [if_pos hc] at hr; exact hr) H la locs hE hL) (fun hc => hF r (by rw [if_neg hc] at hr; exact hr) H la locs hE hL)
theorem J_if_le (X : CX K cc nL own rt) {x : Int32} {off : Int} {tgt : Nat} (hd : decode cc pc = .ok (.ifCond .le off, 3)) (ht : (pc : Int) + off = (tgt : Int)) (hT : JX K Zr tgt ls st M n k w e1) (hF : JX K Zr (pc + 3) ls st M n k w e2) : JX K Zr pc ls (.int x :: st) M n k w (if x ≤ 0 then e1 else e2) :=
  fun r hr H la locs hE hL => lv_if_le X.1 X.2.1 hd ht (fun hc => hT r (by rw [if_pos hc] at hr; exact hr) H la locs hE hL) (fun hc => hF r (by rw [if_neg hc] at hr; exact hr) H la locs hE hL)
theorem J_idiv (X : CX K cc nL own rt) {x y : Int32} (hd : decode cc pc = .ok (.idiv, 1)) (h : JX K Zr (pc + 1) ls (.int (x / y) :: st) M n k w e) : JX K Zr pc ls (.int y :: .int x :: st) M n k w (if y = 0 then none else e) := by
  intro r hr H la locs hE hL
  by_cases hy : y = 0
  · rw [if_pos hy] at hr; cases hr
  · rw [if_neg hy] at hr
    exact lv_idiv X.1 X.2.1 hd hy (h r hr H la locs hE hL)
def ix (i : Int32) (n : Nat) : Option Nat := if 0 ≤ i.toInt ∧ i.toInt < (n : Int) then some i.toInt.toNat else none
theorem ix_in {i : Int32} {n j : Nat} (h : ix i n = some j) : vp_in i n ∧ i.toNatClampNeg = j := by
  unfold ix at h
  by_cases hc : 0 ≤ i.toInt ∧ i.toInt < (n : Int)
  · rw [if_pos hc] at h
    cases h
    exact ⟨vp_in_iff.mpr hc, rfl⟩
  · rw [if_neg hc] at h; cases h
theorem upd_eq {f : Nat → Int32} {i : Nat} {x : Int32} : upd f i x = fun j => if j = i then x else f j := by funext j; rfl
def setI (M : Mm) (a i : Nat) (v : Int32) : Mm := (uu M.1 a i v, M.2.1, M.2.2)
def setL (M : Mm) (a i : Nat) (v : Int64) : Mm := (M.1, uu M.2.1 a i v, M.2.2)
def setR (M : Mm) (a i : Nat) (v : Option Nat) : Mm := (M.1, M.2.1, uu M.2.2 a i v)
theorem ce_setI {b : Nat} {cA : Nat → ClassId} {a i c : Nat} {v : Int32} (h : c ≠ a) : ce b cA (setI M a i v) c = ce b cA M c := ce_congr (uu_ne h) rfl rfl
theorem ce_setL {b : Nat} {cA : Nat → ClassId} {a i c : Nat} {v : Int64} (h : c ≠ a) : ce b cA (setL M a i v) c = ce b cA M c := ce_congr rfl (uu_ne h) rfl
theorem ce_setR {b : Nat} {cA : Nat → ClassId} {a i c : Nat} {v : Option Nat} (h : c ≠ a) : ce b cA (setR M a i v) c = ce b cA M c := ce_congr rfl rfl (uu_ne h)
theorem J_iald (X : CX K cc nL own rt) {i : Int32} {a len : Nat} {f : Nat → Option ρ} (ha : KD a = (1, len)) (hn : a < n) (hd : decode cc pc = .ok (.iaload, 1)) (h : ∀ j, ix i len = some j → JX K Zr (pc + 1) ls (.int (M.1 a j) :: st) M n k w (f j)) : JX K Zr pc ls (.int i :: .ref a :: st) M n k w ((ix i len).bind f) := by
  intro r hr H la locs hE hL
  obtain ⟨j, hj, hf⟩ := Option.bind_eq_some_iff.mp hr
  have hp := h j hj r hf H la locs hE hL
  obtain ⟨h1, h2⟩ := ix_in hj
  subst h2
  exact va_iald X.1 X.2.1 X.2.2.2.2.2.1 hE.1 a 0 ((wz_at hn).trans (by rw [ce_1 ha])) rfl h1 hd hp
theorem J_bald (X : CX K cc nL own rt) {i : Int32} {a len : Nat} {f : Nat → Option ρ} (ha : KD a = (2, len)) (hn : a < n) (hd : decode cc pc = .ok (.baload, 1)) (h : ∀ j, ix i len = some j → JX K Zr (pc + 1) ls (.int (M.1 a j) :: st) M n k w (f j)) : JX K Zr pc ls (.int i :: .ref a :: st) M n k w ((ix i len).bind f) := by
  intro r hr H la locs hE hL
  obtain ⟨j, hj, hf⟩ := Option.bind_eq_some_iff.mp hr
  have hp := h j hj r hf H la locs hE hL
  obtain ⟨h1, h2⟩ := ix_in hj
  subst h2
  exact va_bald X.1 X.2.1 X.2.2.2.2.2.1 hE.1 a 1 ((wz_at hn).trans (by rw [ce_2 ha])) rfl h1 hd hp
theorem J_zald (X : CX K cc nL own rt) {i : Int32} {a len : Nat} {f : Nat → Option ρ} (ha : KD a = (3, len)) (hn : a < n) (hd : decode cc pc = .ok (.baload, 1)) (h : ∀ j, ix i len = some j → JX K Zr (pc + 1) ls (.int (M.1 a j) :: st) M n k w (f j)) : JX K Zr pc ls (.int i :: .ref a :: st) M n k w ((ix i len).bind f) := by
  intro r hr H la locs hE hL
  obtain ⟨j, hj, hf⟩ := Option.bind_eq_some_iff.mp hr
  have hp := h j hj r hf H la locs hE hL
  obtain ⟨h1, h2⟩ := ix_in hj
  subst h2
  exact va_zald X.1 X.2.1 X.2.2.2.2.2.1 hE.1 a 2 ((wz_at hn).trans (by rw [ce_3 ha])) rfl h1 hd hp
theorem J_lald (X : CX K cc nL own rt) {i : Int32} {a len : Nat} {f : Nat → Option ρ} (ha : KD a = (4, len)) (hn : a < n) (hd : decode cc pc = .ok (.laload, 1)) (h : ∀ j, ix i len = some j → JX K Zr (pc + 1) ls (.long (M.2.1 a j) :: st) M n k w (f j)) : JX K Zr pc ls (.int i :: .ref a :: st) M n k w ((ix i len).bind f) := by
  intro r hr H la locs hE hL
  obtain ⟨j, hj, hf⟩ := Option.bind_eq_some_iff.mp hr
  have hp := h j hj r hf H la locs hE hL
  obtain ⟨h1, h2⟩ := ix_in hj
  subst h2
  exact va_lald X.1 X.2.1 X.2.2.2.2.2.1 hE.1 a 3 ((wz_at hn).trans (by rw [ce_4 ha])) rfl h1 hd hp
theorem S_tr {A : Nat → Prop} {H0 H H1 : Heap} {l0 l1 : List Loc} (h : va_S A H0 H l0) (g : va_S A H H1 l1) : va_S A H0 H1 l1 :=
  ⟨Nat.le_trans h.1 g.1, fun q hq hA => (g.2.1 q (Nat.lt_of_lt_of_le hq h.1) hA).trans (h.2.1 q hq hA), g.2.2⟩
theorem S_rf {A : Nat → Prop} {H0 H : Heap} {l0 : List Loc} (h : va_S A H0 H l0) : va_S A H H l0 := ⟨Nat.le_refl _, fun _ _ _ => rfl, h.2.2⟩
theorem J_iast (X : CX K cc nL own rt) {i : Int32} {x : Int32} {a len : Nat} {f : Nat → Option ρ} (ha : KD a = (1, len)) (hn : a < n) (hd : decode cc pc = .ok (.iastore, 1)) (h : ∀ j, ix i len = some j → JX K Zr (pc + 1) ls st (setI M a j x) n k w (f j)) : JX K Zr pc ls (.int x :: .int i :: .ref a :: st) M n k w ((ix i len).bind f) := by
  intro r hr H la locs hE hL
  obtain ⟨j, hj, hf⟩ := Option.bind_eq_some_iff.mp hr
  obtain ⟨h1, h2⟩ := ix_in hj
  subst h2
  refine va_iast X.1 X.2.1 X.2.2.2.2.2.1 hE.1 wz_D (S_rf hE.2.1) a 0 ((wz_at hn).trans (by rw [ce_1 ha])) rfl h1 hd (fun H1 locs1 p1 d1 s1 => ?_)
  refine h _ hj r hf H1 la locs1 ⟨?_, S_tr hE.2.1 s1, Nat.le_trans hE.2.2 s1.1⟩ hL
  rw [wz_set (M' := setI M a i.toNatClampNeg x) hn (by rw [ce_1 ha]; simp only [setI, uu_at]; rfl) (fun c hc => ce_setI hc)] at p1
  exact p1
theorem J_bast (X : CX K cc nL own rt) {i : Int32} {x : Int32} {a len : Nat} {f : Nat → Option ρ} (ha : KD a = (2, len)) (hn : a < n) (hd : decode cc pc = .ok (.bastore, 1)) (h : ∀ j, ix i len = some j → JX K Zr (pc + 1) ls st (setI M a j (vp_nar .byte x)) n k w (f j)) : JX K Zr pc ls (.int x :: .int i :: .ref a :: st) M n k w ((ix i len).bind f) := by
  intro r hr H la locs hE hL
  obtain ⟨j, hj, hf⟩ := Option.bind_eq_some_iff.mp hr
  obtain ⟨h1, h2⟩ := ix_in hj
  subst h2
  refine va_bast X.1 X.2.1 X.2.2.2.2.2.1 hE.1 wz_D (S_rf hE.2.1) a 1 ((wz_at hn).trans (by rw [ce_2 ha])) rfl h1 hd (fun H1 locs1 p1 d1 s1 => ?_)
  refine h _ hj r hf H1 la locs1 ⟨?_, S_tr hE.2.1 s1, Nat.le_trans hE.2.2 s1.1⟩ hL
  rw [wz_set (M' := setI M a i.toNatClampNeg (vp_nar .byte x)) hn (by rw [ce_2 ha]; simp only [setI, uu_at]; rfl) (fun c hc => ce_setI hc)] at p1
  exact p1
theorem J_zast (X : CX K cc nL own rt) {i : Int32} {x : Int32} {a len : Nat} {f : Nat → Option ρ} (ha : KD a = (3, len)) (hn : a < n) (hd : decode cc pc = .ok (.bastore, 1)) (h : ∀ j, ix i len = some j → JX K Zr (pc + 1) ls st (setI M a j (vp_nar .boolean x)) n k w (f j)) : JX K Zr pc ls (.int x :: .int i :: .ref a :: st) M n k w ((ix i len).bind f) := by
  intro r hr H la locs hE hL
  obtain ⟨j, hj, hf⟩ := Option.bind_eq_some_iff.mp hr
  obtain ⟨h1, h2⟩ := ix_in hj
  subst h2
  refine va_zast X.1 X.2.1 X.2.2.2.2.2.1 hE.1 wz_D (S_rf hE.2.1) a 2 ((wz_at hn).trans (by rw [ce_3 ha])) rfl h1 hd (fun H1 locs1 p1 d1 s1 => ?_)
  refine h _ hj r hf H1 la locs1 ⟨?_, S_tr hE.2.1 s1, Nat.le_trans hE.2.2 s1.1⟩ hL
  rw [wz_set (M' := setI M a i.toNatClampNeg (vp_nar .boolean x)) hn (by rw [ce_3 ha]; simp only [setI, uu_at]; rfl) (fun c hc => ce_setI hc)] at p1
  exact p1
theorem J_last (X : CX K cc nL own rt) {i : Int32} {x : Int64} {a len : Nat} {f : Nat → Option ρ} (ha : KD a = (4, len)) (hn : a < n) (hd : decode cc pc = .ok (.lastore, 1)) (h : ∀ j, ix i len = some j → JX K Zr (pc + 1) ls st (setL M a j x) n k w (f j)) : JX K Zr pc ls (.long x :: .int i :: .ref a :: st) M n k w ((ix i len).bind f) := by
  intro r hr H la locs hE hL
  obtain ⟨j, hj, hf⟩ := Option.bind_eq_some_iff.mp hr
  obtain ⟨h1, h2⟩ := ix_in hj
  subst h2
  refine va_last X.1 X.2.1 X.2.2.2.2.2.1 hE.1 wz_D (S_rf hE.2.1) a 3 ((wz_at hn).trans (by rw [ce_4 ha])) rfl h1 hd (fun H1 locs1 p1 d1 s1 => ?_)
  refine h _ hj r hf H1 la locs1 ⟨?_, S_tr hE.2.1 s1, Nat.le_trans hE.2.2 s1.1⟩ hL
  rw [wz_set (M' := setL M a i.toNatClampNeg x) hn (by rw [ce_4 ha]; simp only [setL, uu_at]; rfl) (fun c hc => ce_setL hc)] at p1
  exact p1
theorem J_getI (X : CX K cc nL own rt) {ci a kf idx N : Nat} {C : String} {T : u_T} (B : CB ci C T N) (ha : KD a = (0, ci)) (hn : a < n) (hk : kf < N) (hl : Cond.fieldLink own idx (T kf).1 (T kf).2.1 (T kf).2.2.1 ∈ TT) (hv : ∀ (b : Nat) (M : Mm) (a : Nat), fv b M a kf (tyC ci kf) = .int (M.1 a kf)) (hd : decode cc pc = .ok (.getfield idx, 3)) (h : JX K Zr (pc + 3) ls (.int (M.1 a kf) :: st) M n k w e) : JX K Zr pc ls (.ref a :: st) M n k w e :=
  fun r hr H la locs hE hL => va_get X.1 X.2.1 X.2.2.2.2.1 B.1 X.2.2.2.1 X.2.2.2.2.2.1 hE.1 a ((wz_at hn).trans (by rw [ce_obj ha])) B.2.2.2.1 kf hk (X.2.2.2.2.1 _ hl) (fun _ q => q) ((fl_get (by rw [B.2.2.2.2]; exact hk)).trans (by rw [hv]; rfl)) hd (h r hr H la locs hE hL)
theorem J_getL (X : CX K cc nL own rt) {ci a kf idx N : Nat} {C : String} {T : u_T} (B : CB ci C T N) (ha : KD a = (0, ci)) (hn : a < n) (hk : kf < N) (hl : Cond.fieldLink own idx (T kf).1 (T kf).2.1 (T kf).2.2.1 ∈ TT) (hv : ∀ (b : Nat) (M : Mm) (a : Nat), fv b M a kf (tyC ci kf) = .long (M.2.1 a kf)) (hd : decode cc pc = .ok (.getfield idx, 3)) (h : JX K Zr (pc + 3) ls (.long (M.2.1 a kf) :: st) M n k w e) : JX K Zr pc ls (.ref a :: st) M n k w e :=
  fun r hr H la locs hE hL => va_get X.1 X.2.1 X.2.2.2.2.1 B.1 X.2.2.2.1 X.2.2.2.2.2.1 hE.1 a ((wz_at hn).trans (by rw [ce_obj ha])) B.2.2.2.1 kf hk (X.2.2.2.2.1 _ hl) (fun _ q => q) ((fl_get (by rw [B.2.2.2.2]; exact hk)).trans (by rw [hv]; rfl)) hd (h r hr H la locs hE hL)
theorem J_getR (X : CX K cc nL own rt) {ci a kf idx N q : Nat} {C : String} {T : u_T} (B : CB ci C T N) (ha : KD a = (0, ci)) (hn : a < n) (hk : kf < N) (hl : Cond.fieldLink own idx (T kf).1 (T kf).2.1 (T kf).2.2.1 ∈ TT) (hv : ∀ (b : Nat) (M : Mm) (a : Nat), fv b M a kf (tyC ci kf) = va_rf ((M.2.2 a kf).map (fun x => b + x))) (hq : M.2.2 a kf = some q) (hd : decode cc pc = .ok (.getfield idx, 3)) (h : JX K Zr (pc + 3) ls (.ref q :: st) M n k w e) : JX K Zr pc ls (.ref a :: st) M n k w e :=
  fun r hr H la locs hE hL => va_get X.1 X.2.1 X.2.2.2.2.1 B.1 X.2.2.2.1 X.2.2.2.2.2.1 hE.1 a ((wz_at hn).trans (by rw [ce_obj ha])) B.2.2.2.1 kf hk (X.2.2.2.2.1 _ hl) (fun _ q => q) ((fl_get (by rw [B.2.2.2.2]; exact hk)).trans (by rw [hv, hq]; rfl)) hd (h r hr H la locs hE hL)
theorem J_putI (X : CX K cc nL own rt) {ci a kf idx N : Nat} {x : Int32} {C : String} {T : u_T} (B : CB ci C T N) (ha : KD a = (0, ci)) (hn : a < n) (hk : kf < N) (hl : Cond.fieldLink own idx (T kf).1 (T kf).2.1 (T kf).2.2.1 ∈ TT) (hv : ∀ (b : Nat) (M : Mm) (a : Nat), fv b M a kf (tyC ci kf) = .int (M.1 a kf)) (hfin : (T kf).2.2.2 = false) (hnar : narrow (tyC ci kf) (.int x) = .int x) (hfit : fits (tyC ci kf) (.int x) = true) (hd : decode cc pc = .ok (.putfield idx, 3)) (h : JX K Zr (pc + 3) ls st (setI M a kf x) n k w e) : JX K Zr pc ls (.int x :: .ref a :: st) M n k w e := by
  intro r hr H la locs hE hL
  have hkN : kf < NC ci := by rw [B.2.2.2.2]; exact hk
  refine va_put X.1 X.2.1 X.2.2.2.2.1 B.1 (tyC ci) B.2.1 B.2.2.1 X.2.2.2.1 X.2.2.2.2.2.1 hE.1 wz_D (S_rf hE.2.1) a ((wz_at hn).trans (by rw [ce_obj ha])) B.2.2.2.1 kf hk (X.2.2.2.2.1 _ hl) (fun _ q => q) hfin (B.2.1 kf hk) hnar hfit (by rw [fl_len]; exact hkN) hd (fun H1 locs1 p1 d1 s1 => ?_)
  refine h r hr H1 la locs1 ⟨?_, S_tr hE.2.1 s1, Nat.le_trans hE.2.2 s1.1⟩ hL
  rw [wz_set (M' := setI M a kf x) hn (by rw [ce_obj ha, fl_set (M := M) (M' := setI M a kf x) hkN (by rw [hv]; simp [setI, uu]; rfl) (fun j hj => by simp only [fv, setI, uu, if_true, if_neg hj])]) (fun c hc => ce_setI hc)] at p1
  exact p1
theorem J_putL (X : CX K cc nL own rt) {ci a kf idx N : Nat} {x : Int64} {C : String} {T : u_T} (B : CB ci C T N) (ha : KD a = (0, ci)) (hn : a < n) (hk : kf < N) (hl : Cond.fieldLink own idx (T kf).1 (T kf).2.1 (T kf).2.2.1 ∈ TT) (hv : ∀ (b : Nat) (M : Mm) (a : Nat), fv b M a kf (tyC ci kf) = .long (M.2.1 a kf)) (hfin : (T kf).2.2.2 = false) (hnar : narrow (tyC ci kf) (.long x) = .long x) (hfit : fits (tyC ci kf) (.long x) = true) (hd : decode cc pc = .ok (.putfield idx, 3)) (h : JX K Zr (pc + 3) ls st (setL M a kf x) n k w e) : JX K Zr pc ls (.long x :: .ref a :: st) M n k w e := by
  intro r hr H la locs hE hL
  have hkN : kf < NC ci := by rw [B.2.2.2.2]; exact hk
  refine va_put X.1 X.2.1 X.2.2.2.2.1 B.1 (tyC ci) B.2.1 B.2.2.1 X.2.2.2.1 X.2.2.2.2.2.1 hE.1 wz_D (S_rf hE.2.1) a ((wz_at hn).trans (by rw [ce_obj ha])) B.2.2.2.1 kf hk (X.2.2.2.2.1 _ hl) (fun _ q => q) hfin (B.2.1 kf hk) hnar hfit (by rw [fl_len]; exact hkN) hd (fun H1 locs1 p1 d1 s1 => ?_)
  refine h r hr H1 la locs1 ⟨?_, S_tr hE.2.1 s1, Nat.le_trans hE.2.2 s1.1⟩ hL
  rw [wz_set (M' := setL M a kf x) hn (by rw [ce_obj ha, fl_set (M := M) (M' := setL M a kf x) hkN (by rw [hv]; simp [setL, uu]; rfl) (fun j hj => by simp only [fv, setL, uu, if_true, if_neg hj])]) (fun c hc => ce_setL hc)] at p1
  exact p1
theorem J_putR (X : CX K cc nL own rt) {ci a kf idx N q : Nat} {C : String} {T : u_T} (B : CB ci C T N) (ha : KD a = (0, ci)) (hn : a < n) (hk : kf < N) (hl : Cond.fieldLink own idx (T kf).1 (T kf).2.1 (T kf).2.2.1 ∈ TT) (hv : ∀ (b : Nat) (M : Mm) (a : Nat), fv b M a kf (tyC ci kf) = va_rf ((M.2.2 a kf).map (fun x => b + x))) (hfin : (T kf).2.2.2 = false) (hnar : ∀ z, narrow (tyC ci kf) (.ref z) = .ref z) (hfit : ∀ z, fits (tyC ci kf) (.ref z) = true) (hd : decode cc pc = .ok (.putfield idx, 3)) (h : JX K Zr (pc + 3) ls st (setR M a kf (some q)) n k w e) : JX K Zr pc ls (.ref q :: .ref a :: st) M n k w e := by
  intro r hr H la locs hE hL
  have hkN : kf < NC ci := by rw [B.2.2.2.2]; exact hk
  refine va_put X.1 X.2.1 X.2.2.2.2.1 B.1 (tyC ci) B.2.1 B.2.2.1 X.2.2.2.1 X.2.2.2.2.2.1 hE.1 wz_D (S_rf hE.2.1) a ((wz_at hn).trans (by rw [ce_obj ha])) B.2.2.2.1 kf hk (X.2.2.2.2.1 _ hl) (fun _ q => q) hfin (B.2.1 kf hk) (hnar _) (hfit _) (by rw [fl_len]; exact hkN) hd (fun H1 locs1 p1 d1 s1 => ?_)
  refine h r hr H1 la locs1 ⟨?_, S_tr hE.2.1 s1, Nat.le_trans hE.2.2 s1.1⟩ hL
  rw [wz_set (M' := setR M a kf (some q)) hn (by rw [ce_obj ha, fl_set (M := M) (M' := setR M a kf (some q)) hkN (by rw [hv]; simp [setR, uu]; rfl) (fun j hj => by simp only [fv, setR, uu, if_true, if_neg hj])]) (fun c hc => ce_setR hc)] at p1
  exact p1
theorem J_putF (X : CX K cc nL own rt) {ci a kf idx N q : Nat} {C : String} {T : u_T} (B : CB ci C T N) (ha : KD a = (0, ci)) (hn : a < n) (hk : kf < N) (hl : Cond.fieldLink own idx (T kf).1 (T kf).2.1 (T kf).2.2.1 ∈ TT) (hv : ∀ (b : Nat) (M : Mm) (a : Nat), fv b M a kf (tyC ci kf) = va_rf ((M.2.2 a kf).map (fun x => b + x))) (hfin : (T kf).2.2.2 = true) (hin : (kme K).name = "<init>") (hdecl : (T kf).1 = own) (hnar : ∀ z, narrow (tyC ci kf) (.ref z) = .ref z) (hfit : ∀ z, fits (tyC ci kf) (.ref z) = true) (hd : decode cc pc = .ok (.putfield idx, 3)) (h : JX K Zr (pc + 3) ls st (setR M a kf (some q)) n k w e) : JX K Zr pc ls (.ref q :: .ref a :: st) M n k w e := by
  intro r hr H la locs hE hL
  have hkN : kf < NC ci := by rw [B.2.2.2.2]; exact hk
  refine va_putF X.1 X.2.1 X.2.2.2.2.1 B.1 (tyC ci) B.2.1 B.2.2.1 X.2.2.2.1 X.2.2.2.2.2.1 hE.1 wz_D (S_rf hE.2.1) a ((wz_at hn).trans (by rw [ce_obj ha])) B.2.2.2.1 kf hk (X.2.2.2.2.1 _ hl) (fun _ q => q) hfin hin hdecl (B.2.1 kf hk) (hnar _) (hfit _) (by rw [fl_len]; exact hkN) hd (fun H1 locs1 p1 d1 s1 => ?_)
  refine h r hr H1 la locs1 ⟨?_, S_tr hE.2.1 s1, Nat.le_trans hE.2.2 s1.1⟩ hL
  rw [wz_set (M' := setR M a kf (some q)) hn (by rw [ce_obj ha, fl_set (M := M) (M' := setR M a kf (some q)) hkN (by rw [hv]; simp [setR, uu]; rfl) (fun j hj => by simp only [fv, setR, uu, if_true, if_neg hj])]) (fun c hc => ce_setR hc)] at p1
  exact p1
theorem J_alen (X : CX K cc nL own rt) {a len t : Nat} {v : Int32} {ty : FieldType} (hc : ∀ (b : Nat) (cA : Nat → ClassId) (M : Mm), ∃ x : vp_A, ce b cA M a = .inl (cA (t + 1), x) ∧ x.1 = len) (ht : ∀ cA : Nat → ClassId, (tyl cA)[t]? = some (cA (t + 1), ty)) (hn : a < n) (hv : Int32.ofNat len = v) (hd : decode cc pc = .ok (.arraylength, 1)) (h : JX K Zr (pc + 1) ls (.int v :: st) M n k w e) : JX K Zr pc ls (.ref a :: st) M n k w e := by
  intro r hr H la locs hE hL
  obtain ⟨x, hx, hl⟩ := hc (kB K) (kA K) M
  exact va_alen X.1 X.2.1 X.2.2.2.2.2.1 hE.1 a t ((wz_at hn).trans (by rw [hx])) (ht _) (by rw [hl]; exact hv) hd (h r hr H la locs hE hL)
theorem J_aldq (X : CX K cc nL own rt) {i : Int32} {a len : Nat} {f : Nat → Option ρ} (ha : KD a = (5, len)) (hn : a < n) (q : Nat → Nat) (hq : ∀ j, j < len → M.2.2 a j = some (q j)) (hd : decode cc pc = .ok (.aaload, 1)) (h : ∀ j, ix i len = some j → JX K Zr (pc + 1) ls (.ref (q j) :: st) M n k w (f j)) : JX K Zr pc ls (.int i :: .ref a :: st) M n k w ((ix i len).bind f) := by
  intro r hr H la locs hE hL
  obtain ⟨j, hj, hf⟩ := Option.bind_eq_some_iff.mp hr
  have hp := h j hj r hf H la locs hE hL
  obtain ⟨h1, h2⟩ := ix_in hj
  have hjl : j < len := by
    have := (vp_in_iff.mp h1).2
    have h0 := (vp_in_iff.mp h1).1
    have : i.toInt.toNat = j := h2
    omega
  subst h2
  refine va_aldq X.1 X.2.1 X.2.2.2.2.2.1 hE.1 a 4 ((wz_at hn).trans (by rw [ce_5 ha])) rfl h1 hd ?_
  rw [hq _ hjl]
  exact hp
end JR

/-! ===== the judgement Ev: a walk of one method over a heap whose cells have numbers (cell k lies at base + k) ===== -/
def lw_good : List Cond := lw_tbl.filter goodWord
theorem lg_mem {w : Cond} (i : Nat) (h : lw_tbl[i]? = some w) (g : goodWord w = true) : w ∈ lw_good := List.mem_filter.mpr ⟨List.mem_of_getElem? h, g⟩
theorem lg_all (ws : List Cond) (ps : List Nat) (hp : ws = ps.filterMap (fun i => lw_tbl[i]?)) (hg : ws.all goodWord = true) : ∀ w ∈ ws, w ∈ lw_good := by
  intro w hw
  have h1 := List.all_eq_true.mp hg w hw
  rw [hp] at hw
  obtain ⟨i, -, hi⟩ := List.mem_filterMap.mp hw
  exact lg_mem i hi h1
/-- launch; classes and slots; the classes of int[], boolean[], Watch[]; the base -/
abbrev GX : Type := Launch × va_G × (ClassId × ClassId × ClassId) × Nat
def gL (γ : GX) : Launch := γ.1
def gD (γ : GX) : va_G := γ.2.1
def gI (γ : GX) : ClassId := γ.2.2.1.1
def gZ (γ : GX) : ClassId := γ.2.2.1.2.1
def gW (γ : GX) : ClassId := γ.2.2.1.2.2
def gB (γ : GX) : Nat := γ.2.2.2
def gT (γ : GX) : List (ClassId × FieldType) := [(gI γ, .int), (gZ γ, .boolean), (gW γ, .object RX5)]
abbrev HP : Type := Nat → va_E
abbrev FN : Type := Nat → Int32
def up (h : HP) (k : Nat) (e : va_E) : HP := fun j => if j = k then e else h j
def wl (B n : Nat) (h : HP) : va_W := (List.range n).map (fun k => (B + k, h k))
theorem wl_len (B n : Nat) (h : HP) : (wl B n h).length = n := by simp [wl]
theorem wl_get {B n : Nat} {h : HP} {k : Nat} (hk : k < n) : (wl B n h)[k]? = some (B + k, h k) := by
  simp [wl, List.getElem?_map, hk]
theorem wl_of {B n : Nat} {h : HP} {k : Nat} {q : Nat × va_E} (hq : (wl B n h)[k]? = some q) : k < n ∧ q = (B + k, h k) := by
  have hk : k < n := by
    have := (List.getElem?_eq_some_iff.mp hq).1
    rwa [wl_len] at this
  refine ⟨hk, ?_⟩
  rw [wl_get hk] at hq
  exact (Option.some.inj hq).symm
theorem wl_set {B n : Nat} {h : HP} {k : Nat} {e : va_E} (hk : k < n) : (wl B n h).set k (B + k, e) = wl B n (up h k e) := by
  apply List.ext_getElem?
  intro i
  by_cases hi : i < n
  · by_cases hik : i = k
    · subst hik
      rw [List.getElem?_set_self (by rw [wl_len]; exact hi), wl_get hi]
      simp [up]
    · rw [List.getElem?_set_ne (Ne.symm hik), wl_get hi, wl_get hi]
      simp [up, hik]
  · rw [List.getElem?_eq_none (by simp [wl_len]; omega), List.getElem?_eq_none (by rw [wl_len]; omega)]
theorem wl_push {B n : Nat} {h : HP} {e : va_E} : wl B n h ++ [(B + n, e)] = wl B (n + 1) (up h n e) := by
  unfold wl
  rw [List.range_succ, List.map_append]
  congr 1
  · apply List.map_congr_left
    intro k hk
    have : k < n := List.mem_range.mp hk
    have : ¬ k = n := by omega
    simp [up, this]
  · simp [up]
theorem wl_D (B n : Nat) (h : HP) : va_D (fun q => B ≤ q) (wl B n h) := by
  refine ⟨fun i j p q hi hj hpq => ?_, fun k q hk => ?_⟩
  · obtain ⟨_, rfl⟩ := wl_of hi
    obtain ⟨_, rfl⟩ := wl_of hj
    dsimp only at hpq
    omega
  · obtain ⟨_, rfl⟩ := wl_of hk
    exact Nat.le_add_right _ _
/-- a method: its name, bytes, locals, answer's type, whether it is a constructor, its depth, the cells and slots that it makes -/
abbrev MI : Type := MethodName × ByteArray × Nat × Option FieldType × Bool × Nat × Nat × Nat
abbrev mY (μ : MI) : MethodName := μ.1
abbrev mC (μ : MI) : ByteArray := μ.2.1
abbrev mL (μ : MI) : Nat := μ.2.2.1
abbrev mR (μ : MI) : Option FieldType := μ.2.2.2.1
abbrev mN (μ : MI) : Bool := μ.2.2.2.2.1
abbrev mD (μ : MI) : Nat := μ.2.2.2.2.2.1
abbrev mK (μ : MI) : Nat := μ.2.2.2.2.2.2.1
abbrev mS (μ : MI) : Nat := μ.2.2.2.2.2.2.2
def rmD (μ : MI) : Room := { frames := mD μ, cells := mK μ, slots := mS μ, locals := 40 * mD μ + 60 }
def Cx (γ : GX) (μ : MI) (p : Program) (R : Room) (s : State) (m : MethodId) (args : Array Value) (meth : Method) (c : Code) : Prop :=
  p.tables.exec = Jvm.exec ∧ c.code = mC μ ∧ c.maxLocals = mL μ ∧ s.vm.findClass (mY μ).cls = some m.cls ∧ (∀ w ∈ lw_good, w.before args s = true) ∧ meth.locks = false ∧ meth.sig.returnType = mR μ ∧ mD μ ≤ R.frames ∧ 40 * mD μ + 60 ≤ R.locals ∧ va_K (gD γ) vwCl (gT γ) s ∧ (mN μ = true → meth.name = "<init>") ∧ mK μ ≤ R.cells ∧ mS μ ≤ R.slots
def Sz (γ : GX) (μ : MI) (s : State) (u : Nat × Nat) (n : Nat) : Prop := s.heap.size + u.1 = gB γ + n ∧ gB γ ≤ s.heap.size ∧ u.1 ≤ mK μ ∧ u.2 ≤ mS μ
def Rk (μ : MI) (pc : Nat) (v : Option Value) : Prop :=
  (mR μ = some .int ∧ decode (mC μ) pc = .ok (.ireturn, 1) ∧ ∃ x, v = some (.int x)) ∨ (mR μ = some .boolean ∧ decode (mC μ) pc = .ok (.ireturn, 1) ∧ ∃ x : Int32, v = some (.int x) ∧ x &&& 1 = x) ∨ (mR μ = some .long ∧ decode (mC μ) pc = .ok (.lreturn, 1) ∧ ∃ x, v = some (.long x)) ∨ (mR μ = none ∧ decode (mC μ) pc = .ok (.return_, 1) ∧ v = none)
abbrev PS : Type := Option Value → Nat → HP → Prop
def Ev (γ : GX) (μ : MI) (u : Nat × Nat) (n : Nat) (h : HP) (lv : List (Nat × Value)) (pc : Nat) (st : List Value) (Ψ : PS) : Prop :=
  ∀ (p : Program) (e : Env) (R : Room) (s : State) (m : MethodId) (args : Array Value) (below : List Frame) (meth : Method) (c : Code) (Q : State → Prop) (H : Heap) (locs : List Loc) (ls : Array Slot),
    Cx γ μ p R s m args meth c → Sz γ μ s u n → va_P (gD γ) vwCl (wl (gB γ) n h) H → va_S (fun q => gB γ ≤ q) s.heap H locs → lv_has ls (mL μ) lv →
    (∀ (v : Option Value) (n' : Nat) (h' : HP) (u' : Nat × Nat) (H' : Heap) (locs' : List Loc) (pc' : Nat) (ls' : Array Slot), Ψ v n' h' → Rk μ pc' v → Sz γ μ s u' n' → va_P (gD γ) vwCl (wl (gB γ) n' h') H' → va_S (fun q => gB γ ≤ q) s.heap H' locs' → W p (gL γ) e R s m args below meth c H' locs' u'.1 u'.2 Q (F0 m pc' ls' v.toList)) →
    W p (gL γ) e R s m args below meth c H locs u.1 u.2 Q (F0 m pc ls st)
/-- a method's contract over the heap h of n cells -/
def Ct (γ : GX) (μ : MI) (n : Nat) (h : HP) (as : List Value) (Ψ : PS) : Prop :=
  Met (gL γ) (mY μ) (.code (mY μ) (mC μ) (mL μ) (mR μ) :: lw_good) (rmD μ)
    (va_Pc as (fun U => U.heap.size = gB γ + n ∧ va_P (gD γ) vwCl (wl (gB γ) n h) U.heap ∧ va_K (gD γ) vwCl (gT γ) U))
    (fun _ st oc t => (∃ (v : Option Value) (n' : Nat) (h' : HP), oc = .returned v ∧ Ψ v n' h' ∧ va_P (gD γ) vwCl (wl (gB γ) n' h') t.heap) ∧ va_F (fun q => gB γ ≤ q) st t) (mK μ) (mS μ) (fun q => gB γ ≤ q)
/-- the end of a method that is a function: its answer, the cells that it made, the heap behind it -/
def Done (v0 : Option Value) (n0 : Nat) (h0 : HP) : PS := fun v n' h' => v = v0 ∧ n' = n0 ∧ h' = h0
theorem Ct.heap {γ : GX} {μ : MI} {n : Nat} {h h1 : HP} {as : List Value} {Ψ : PS} (e : h1 = h) (k : Ct γ μ n h as Ψ) : Ct γ μ n h1 as Ψ := by rw [e]; exact k
section EV
variable {γ : GX} {μ : MI} {u : Nat × Nat} {n : Nat} {h : HP} {lv : List (Nat × Value)} {pc q : Nat} {st rest : List Value} {Ψ : PS}
theorem Ev.heap {h1 : HP} (e : h1 = h) (k : Ev γ μ u n h lv pc st Ψ) : Ev γ μ u n h1 lv pc st Ψ := by rw [e]; exact k
theorem W_size {p : Program} {l : Launch} {e : Env} {R : Room} {s : State} {m : MethodId} {args : Array Value} {below : List Frame} {meth : Method} {c : Code} {H : Heap} {locs : List Loc} {cells slots : Nat} {Q : State → Prop} {g : JFrame}
    (k : H.size ≤ s.heap.size + cells → W p l e R s m args below meth c H locs cells slots Q g) : W p l e R s m args below meth c H locs cells slots Q g := by
  intro T hT X
  refine k ?_ T hT X
  have h1 := X.same.2.2.1
  rw [← hT]
  exact h1
theorem sz_eq {D : va_G} {H : Heap} {s : State} {A : Nat → Prop} {locs : List Loc} (hP : va_P D vwCl (wl (gB γ) n h) H) (hS : va_S A s.heap H locs) (z : Sz γ μ s u n) (hsz : H.size ≤ s.heap.size + u.1) : H.size = gB γ + n := by
  have h1 := hS.1
  obtain ⟨z1, z2, -⟩ := z
  by_cases hn : n = 0
  · omega
  · have h2 := (hP (n - 1) _ (wl_get (by omega))).lt
    dsimp only at h2
    omega
theorem Ct_of_Ev {as : List Value} (hy : plainName (mY μ).cls = true) (hi : mN μ = true → (mY μ).name = "<init>") (hlen : (lg_sl as).length ≤ mL μ) (k : Ev γ μ (0, 0) n h (lv_args 0 as) 0 [] Ψ) : Ct γ μ n h as Ψ := by
  refine Met.ofW (cc := mC μ) (maxL := mL μ) (ret := mR μ) hy rfl ?_
  intro p e s m args below meth c s₁ B hml hv
  obtain ⟨rfl, hsz, hP, hK⟩ := hv
  have hts := atoms_spec (ws := .code (mY μ) (mC μ) (mL μ) (mR μ) :: lw_good) B.pre
  have hl := lv_entry as (n := mL μ) hlen
  rw [lg_entry_eq]
  refine k p e (rmD μ) s m as.toArray below meth c _ s.heap [] _ ⟨B.exec, B.bytes, hml, findClass_of_methodNamed B.named, fun w hw => hts w (List.mem_cons_of_mem _ hw), B.notSynchronized, B.returns, Nat.le_refl _, Nat.le_refl _, hK, fun hz => (name_of_methodNamed B.named B.method).1.trans (hi hz), Nat.le_refl _, Nat.le_refl _⟩ ⟨hsz, by omega, Nat.zero_le _, Nat.zero_le _⟩ hP va_S.rf hl ?_
  intro v n' h' u' H' locs' pc' ls' hΨ hR hz hP' hS'
  refine W.widen hz.2.2.1 hz.2.2.2 ?_
  have hlocks := B.notSynchronized
  rcases hR with ⟨h1, hd, x, rfl⟩ | ⟨h1, hd, x, rfl, h2⟩ | ⟨h1, hd, x, rfl⟩ | ⟨h1, hd, rfl⟩
  · exact W.iret B.exec B.bytes (B.returns.trans h1) (fun t ht hw => ⟨⟨_, n', h', rfl, hΨ, by rw [ht]; exact hP'⟩, hS'.F ht⟩) (fun q hq => hS'.2.2 q hq) hd
  · exact W.zret B.exec B.bytes (B.returns.trans h1) (by show Value.int (x &&& 1) = _; rw [h2]) (fun t ht hw => ⟨⟨_, n', h', rfl, hΨ, by rw [ht]; exact hP'⟩, hS'.F ht⟩) (fun q hq => hS'.2.2 q hq) hd
  · exact W.lret B.exec B.bytes (B.returns.trans h1) (fun t ht hw => ⟨⟨_, n', h', rfl, hΨ, by rw [ht]; exact hP'⟩, hS'.F ht⟩) (fun q hq => hS'.2.2 q hq) hd
  · exact W.vret B.exec B.bytes (B.returns.trans h1) (fun t ht hw => ⟨⟨_, n', h', rfl, hΨ, by rw [ht]; exact hP'⟩, hS'.F ht⟩) (fun q hq => hS'.2.2 q hq) hd
/-- ends -/
theorem E_iret {x : Int32} (hd : decode (mC μ) pc = .ok (.ireturn, 1)) (hr : mR μ = some .int) (hp : Ψ (some (.int x)) n h) : Ev γ μ u n h lv pc [.int x] Ψ := by
  intro p e R s m args below meth c Q H locs ls C z P S L r
  exact r _ n h u H locs pc ls hp (Or.inl ⟨hr, hd, x, rfl⟩) z P S
theorem E_zret {x : Int32} (hd : decode (mC μ) pc = .ok (.ireturn, 1)) (hr : mR μ = some .boolean) (hx : x &&& 1 = x) (hp : Ψ (some (.int x)) n h) : Ev γ μ u n h lv pc [.int x] Ψ := by
  intro p e R s m args below meth c Q H locs ls C z P S L r
  exact r _ n h u H locs pc ls hp (Or.inr (Or.inl ⟨hr, hd, x, rfl, hx⟩)) z P S
theorem E_lret {x : Int64} (hd : decode (mC μ) pc = .ok (.lreturn, 1)) (hr : mR μ = some .long) (hp : Ψ (some (.long x)) n h) : Ev γ μ u n h lv pc [.long x] Ψ := by
  intro p e R s m args below meth c Q H locs ls C z P S L r
  exact r _ n h u H locs pc ls hp (Or.inr (Or.inr (Or.inl ⟨hr, hd, x, rfl⟩))) z P S
theorem E_vret (hd : decode (mC μ) pc = .ok (.return_, 1)) (hr : mR μ = none) (hp : Ψ none n h) : Ev γ μ u n h lv pc [] Ψ := by
  intro p e R s m args below meth c Q H locs ls C z P S L r
  exact r _ n h u H locs pc ls hp (Or.inr (Or.inr (Or.inr ⟨hr, hd, rfl⟩))) z P S
/-- fewer locals -/
theorem E_sub (ks : List Nat) {lv' : List (Nat × Value)} (hl : lv_pick lv ks = lv') (k : Ev γ μ u n h lv' pc st Ψ) : Ev γ μ u n h lv pc st Ψ := by
  intro p e R s m args below meth c Q H locs ls C z P S L r
  exact k p e R s m args below meth c Q H locs ls C z P S (lv_sub L ks hl) r
theorem E_iconst {i : Int} {x : Int32} (hd : decode (mC μ) pc = .ok (.iconst i, 1)) (hq : pc + 1 = q) (hv : Int32.ofInt i = x) (k : Ev γ μ u n h lv q (.int x :: rest) Ψ) : Ev γ μ u n h lv pc (rest) Ψ := by
  subst hq
  intro p e R s m args below meth c Q H locs ls C z P S L r
  exact lv_iconst C.1 C.2.1 hd hv (k p e R s m args below meth c Q H locs ls C z P S L r)
theorem E_bipush {i : Int} {x : Int32} (hd : decode (mC μ) pc = .ok (.bipush i, 2)) (hq : pc + 2 = q) (hv : (Int8.ofInt i).toInt32 = x) (k : Ev γ μ u n h lv q (.int x :: rest) Ψ) : Ev γ μ u n h lv pc (rest) Ψ := by
  subst hq
  intro p e R s m args below meth c Q H locs ls C z P S L r
  exact lv_bipush C.1 C.2.1 hd hv (k p e R s m args below meth c Q H locs ls C z P S L r)
theorem E_sipush {i : Int} {x : Int32} (hd : decode (mC μ) pc = .ok (.sipush i, 3)) (hq : pc + 3 = q) (hv : (Int16.ofInt i).toInt32 = x) (k : Ev γ μ u n h lv q (.int x :: rest) Ψ) : Ev γ μ u n h lv pc (rest) Ψ := by
  subst hq
  intro p e R s m args below meth c Q H locs ls C z P S L r
  exact lv_sipush C.1 C.2.1 hd hv (k p e R s m args below meth c Q H locs ls C z P S L r)
theorem E_lconst {i : Fin 2} {x : Int64} (hd : decode (mC μ) pc = .ok (.lconst i, 1)) (hq : pc + 1 = q) (hv : Int64.ofNat (i : Nat) = x) (k : Ev γ μ u n h lv q (.long x :: rest) Ψ) : Ev γ μ u n h lv pc (rest) Ψ := by
  subst hq
  intro p e R s m args below meth c Q H locs ls C z P S L r
  exact lv_lconst C.1 C.2.1 hd hv (k p e R s m args below meth c Q H locs ls C z P S L r)
theorem E_iadd {x y : Int32} (hd : decode (mC μ) pc = .ok (.iadd, 1)) (hq : pc + 1 = q) (k : Ev γ μ u n h lv q (.int (x + y) :: rest) Ψ) : Ev γ μ u n h lv pc (.int y :: .int x :: rest) Ψ := by
  subst hq
  intro p e R s m args below meth c Q H locs ls C z P S L r
  exact lv_iadd C.1 C.2.1 hd  (k p e R s m args below meth c Q H locs ls C z P S L r)
theorem E_isub {x y : Int32} (hd : decode (mC μ) pc = .ok (.isub, 1)) (hq : pc + 1 = q) (k : Ev γ μ u n h lv q (.int (x - y) :: rest) Ψ) : Ev γ μ u n h lv pc (.int y :: .int x :: rest) Ψ := by
  subst hq
  intro p e R s m args below meth c Q H locs ls C z P S L r
  exact lv_isub C.1 C.2.1 hd  (k p e R s m args below meth c Q H locs ls C z P S L r)
theorem E_imul {x y : Int32} (hd : decode (mC μ) pc = .ok (.imul, 1)) (hq : pc + 1 = q) (k : Ev γ μ u n h lv q (.int (x * y) :: rest) Ψ) : Ev γ μ u n h lv pc (.int y :: .int x :: rest) Ψ := by
  subst hq
  intro p e R s m args below meth c Q H locs ls C z P S L r
  exact lv_imul C.1 C.2.1 hd  (k p e R s m args below meth c Q H locs ls C z P S L r)
theorem E_iand {x y : Int32} (hd : decode (mC μ) pc = .ok (.iand, 1)) (hq : pc + 1 = q) (k : Ev γ μ u n h lv q (.int (x &&& y) :: rest) Ψ) : Ev γ μ u n h lv pc (.int y :: .int x :: rest) Ψ := by
  subst hq
  intro p e R s m args below meth c Q H locs ls C z P S L r
  exact lv_iand C.1 C.2.1 hd  (k p e R s m args below meth c Q H locs ls C z P S L r)
theorem E_ior {x y : Int32} (hd : decode (mC μ) pc = .ok (.ior, 1)) (hq : pc + 1 = q) (k : Ev γ μ u n h lv q (.int (x ||| y) :: rest) Ψ) : Ev γ μ u n h lv pc (.int y :: .int x :: rest) Ψ := by
  subst hq
  intro p e R s m args below meth c Q H locs ls C z P S L r
  exact lv_ior C.1 C.2.1 hd  (k p e R s m args below meth c Q H locs ls C z P S L r)
theorem E_ixor {x y : Int32} (hd : decode (mC μ) pc = .ok (.ixor, 1)) (hq : pc + 1 = q) (k : Ev γ μ u n h lv q (.int (x ^^^ y) :: rest) Ψ) : Ev γ μ u n h lv pc (.int y :: .int x :: rest) Ψ := by
  subst hq
  intro p e R s m args below meth c Q H locs ls C z P S L r
  exact lv_ixor C.1 C.2.1 hd  (k p e R s m args below meth c Q H locs ls C z P S L r)
theorem E_ishl {x y : Int32} (hd : decode (mC μ) pc = .ok (.ishl, 1)) (hq : pc + 1 = q) (k : Ev γ μ u n h lv q (.int (x <<< (y &&& 31)) :: rest) Ψ) : Ev γ μ u n h lv pc (.int y :: .int x :: rest) Ψ := by
  subst hq
  intro p e R s m args below meth c Q H locs ls C z P S L r
  exact lv_ishl C.1 C.2.1 hd  (k p e R s m args below meth c Q H locs ls C z P S L r)
theorem E_ishr {x y : Int32} (hd : decode (mC μ) pc = .ok (.ishr, 1)) (hq : pc + 1 = q) (k : Ev γ μ u n h lv q (.int (x >>> (y &&& 31)) :: rest) Ψ) : Ev γ μ u n h lv pc (.int y :: .int x :: rest) Ψ := by
  subst hq
  intro p e R s m args below meth c Q H locs ls C z P S L r
  exact lv_ishr C.1 C.2.1 hd  (k p e R s m args below meth c Q H locs ls C z P S L r)
theorem E_iushr {x y : Int32} (hd : decode (mC μ) pc = .ok (.iushr, 1)) (hq : pc + 1 = q) (k : Ev γ μ u n h lv q (.int ((x.toUInt32 >>> (y.toUInt32 &&& Int32.toUInt32 31)).toInt32) :: rest) Ψ) : Ev γ μ u n h lv pc (.int y :: .int x :: rest) Ψ := by
  subst hq
  intro p e R s m args below meth c Q H locs ls C z P S L r
  exact lv_iushr C.1 C.2.1 hd rfl (k p e R s m args below meth c Q H locs ls C z P S L r)
theorem E_idiv {x y : Int32} (hd : decode (mC μ) pc = .ok (.idiv, 1)) (hq : pc + 1 = q) (hne : ¬ y = 0) (k : Ev γ μ u n h lv q (.int (x / y) :: rest) Ψ) : Ev γ μ u n h lv pc (.int y :: .int x :: rest) Ψ := by
  subst hq
  intro p e R s m args below meth c Q H locs ls C z P S L r
  exact lv_idiv C.1 C.2.1 hd hne (k p e R s m args below meth c Q H locs ls C z P S L r)
theorem E_irem {x y : Int32} (hd : decode (mC μ) pc = .ok (.irem, 1)) (hq : pc + 1 = q) (hne : ¬ y = 0) (k : Ev γ μ u n h lv q (.int (x % y) :: rest) Ψ) : Ev γ μ u n h lv pc (.int y :: .int x :: rest) Ψ := by
  subst hq
  intro p e R s m args below meth c Q H locs ls C z P S L r
  refine lv_irem C.1 C.2.1 hd hne ?_
  rw [irem_eq_mod]
  exact k p e R s m args below meth c Q H locs ls C z P S L r
theorem E_ladd {x y : Int64} (hd : decode (mC μ) pc = .ok (.ladd, 1)) (hq : pc + 1 = q) (k : Ev γ μ u n h lv q (.long (x + y) :: rest) Ψ) : Ev γ μ u n h lv pc (.long y :: .long x :: rest) Ψ := by
  subst hq
  intro p e R s m args below meth c Q H locs ls C z P S L r
  exact lv_ladd C.1 C.2.1 hd  (k p e R s m args below meth c Q H locs ls C z P S L r)
theorem E_dup {v : Value} (hd : decode (mC μ) pc = .ok (.dup, 1)) (hq : pc + 1 = q) (hv : v.category = 1) (k : Ev γ μ u n h lv q (v :: v :: rest) Ψ) : Ev γ μ u n h lv pc (v :: rest) Ψ := by
  subst hq
  intro p e R s m args below meth c Q H locs ls C z P S L r
  exact lv_dup C.1 C.2.1 hd hv (k p e R s m args below meth c Q H locs ls C z P S L r)
theorem E_pop {v : Value} (hd : decode (mC μ) pc = .ok (.pop, 1)) (hq : pc + 1 = q) (hv : v.category = 1) (k : Ev γ μ u n h lv q (rest) Ψ) : Ev γ μ u n h lv pc (v :: rest) Ψ := by
  subst hq
  intro p e R s m args below meth c Q H locs ls C z P S L r
  exact lv_pop C.1 C.2.1 hd hv (k p e R s m args below meth c Q H locs ls C z P S L r)
theorem E_dup2 {v w : Value} (hd : decode (mC μ) pc = .ok (.dup2, 1)) (hq : pc + 1 = q) (hv : v.category = 1) (hw : w.category = 1) (k : Ev γ μ u n h lv q (v :: w :: v :: w :: rest) Ψ) : Ev γ μ u n h lv pc (v :: w :: rest) Ψ := by
  subst hq
  intro p e R s m args below meth c Q H locs ls C z P S L r
  exact lv_dup2_11 C.1 C.2.1 hd hv hw (k p e R s m args below meth c Q H locs ls C z P S L r)
theorem E_lcmp {x y : Int64} (hd : decode (mC μ) pc = .ok (.lcmp, 1)) (hq : pc + 1 = q) (k : Ev γ μ u n h lv q (.int (lg_cmp x y) :: rest) Ψ) : Ev γ μ u n h lv pc (.long y :: .long x :: rest) Ψ := by
  subst hq
  intro p e R s m args below meth c Q H locs ls C z P S L r
  exact W.lcmp C.1 C.2.1 hd (k p e R s m args below meth c Q H locs ls C z P S L r)
theorem E_iload_n (j : Nat) {i : Fin 4} {i' : Nat} {x : Int32} (hd : decode (mC μ) pc = .ok (.iload_n i, 1)) (hq : pc + 1 = q) (hi : (i : Nat) = i') (hj : lv[j]? = some (i', .int x)) (k : Ev γ μ u n h lv q (.int x :: rest) Ψ) : Ev γ μ u n h lv pc rest Ψ := by
  subst hq
  intro p e R s m args below meth c Q H locs ls C z P S L r
  exact lv_iload_n C.1 C.2.1 hd hi (lv_at L j hj) (k p e R s m args below meth c Q H locs ls C z P S L r)
theorem E_iload (j : Nat) {i : Nat} {x : Int32} (hd : decode (mC μ) pc = .ok (.iload i, 2)) (hq : pc + 2 = q) (hj : lv[j]? = some (i, .int x)) (k : Ev γ μ u n h lv q (.int x :: rest) Ψ) : Ev γ μ u n h lv pc rest Ψ := by
  subst hq
  intro p e R s m args below meth c Q H locs ls C z P S L r
  exact lv_iload C.1 C.2.1 hd (lv_at L j hj) (k p e R s m args below meth c Q H locs ls C z P S L r)
theorem E_aload_n (j : Nat) {i : Fin 4} {i' : Nat} {x : Nat} (hd : decode (mC μ) pc = .ok (.aload_n i, 1)) (hq : pc + 1 = q) (hi : (i : Nat) = i') (hj : lv[j]? = some (i', .ref x)) (k : Ev γ μ u n h lv q (.ref x :: rest) Ψ) : Ev γ μ u n h lv pc rest Ψ := by
  subst hq
  intro p e R s m args below meth c Q H locs ls C z P S L r
  exact lv_aload_n C.1 C.2.1 hd hi (lv_at L j hj) (k p e R s m args below meth c Q H locs ls C z P S L r)
theorem E_aload (j : Nat) {i : Nat} {x : Nat} (hd : decode (mC μ) pc = .ok (.aload i, 2)) (hq : pc + 2 = q) (hj : lv[j]? = some (i, .ref x)) (k : Ev γ μ u n h lv q (.ref x :: rest) Ψ) : Ev γ μ u n h lv pc rest Ψ := by
  subst hq
  intro p e R s m args below meth c Q H locs ls C z P S L r
  exact lv_aload C.1 C.2.1 hd (lv_at L j hj) (k p e R s m args below meth c Q H locs ls C z P S L r)
/-- a local is written: it stands first then -/
def lvw (lv : List (Nat × Value)) (i : Nat) (v : Value) : List (Nat × Value) := (i, v) :: lv.filter (fun q => !(q.1 == i) && !(q.1 + 1 == i && q.2.category == 2))
theorem E_istore_n {i : Fin 4} {i' : Nat} {x : Int32} (lv' : List (Nat × Value)) (hd : decode (mC μ) pc = .ok (.istore_n i, 1)) (hq : pc + 1 = q) (hi : (i : Nat) = i') (hn : i' < mL μ) (hl : lvw lv i' (.int x) = lv') (k : Ev γ μ u n h lv' q rest Ψ) : Ev γ μ u n h lv pc (.int x :: rest) Ψ := by
  subst hq
  intro p e R s m args below meth c Q H locs ls C z P S L r
  exact lv_istore_n C.1 C.2.1 hd hi L hn hl (fun ls' L' => k p e R s m args below meth c Q H locs ls' C z P S L' r)
theorem E_istore {i : Nat} {x : Int32} (lv' : List (Nat × Value)) (hd : decode (mC μ) pc = .ok (.istore i, 2)) (hq : pc + 2 = q) (hn : i < mL μ) (hl : lvw lv i (.int x) = lv') (k : Ev γ μ u n h lv' q rest Ψ) : Ev γ μ u n h lv pc (.int x :: rest) Ψ := by
  subst hq
  intro p e R s m args below meth c Q H locs ls C z P S L r
  exact lv_istore C.1 C.2.1 hd L hn hl (fun ls' L' => k p e R s m args below meth c Q H locs ls' C z P S L' r)
theorem E_astore_n {i : Fin 4} {i' : Nat} {x : Nat} (lv' : List (Nat × Value)) (hd : decode (mC μ) pc = .ok (.astore_n i, 1)) (hq : pc + 1 = q) (hi : (i : Nat) = i') (hn : i' < mL μ) (hl : lvw lv i' (.ref x) = lv') (k : Ev γ μ u n h lv' q rest Ψ) : Ev γ μ u n h lv pc (.ref x :: rest) Ψ := by
  subst hq
  intro p e R s m args below meth c Q H locs ls C z P S L r
  exact lv_astore_n C.1 C.2.1 hd hi L hn hl (fun ls' L' => k p e R s m args below meth c Q H locs ls' C z P S L' r)
theorem E_iinc (j : Nat) {i : Nat} {d : Int} {x v : Int32} (lv' : List (Nat × Value)) (hd : decode (mC μ) pc = .ok (.iinc i d, 3)) (hq : pc + 3 = q) (hj : lv[j]? = some (i, .int x)) (hv : x + Int32.ofInt d = v) (hn : i < mL μ) (hl : lvw lv i (.int v) = lv') (k : Ev γ μ u n h lv' q st Ψ) : Ev γ μ u n h lv pc st Ψ := by
  subst hq
  intro p e R s m args below meth c Q H locs ls C z P S L r
  exact lv_iinc C.1 C.2.1 hd L hj hv hn hl (fun ls' L' => k p e R s m args below meth c Q H locs ls' C z P S L' r)
theorem E_goto {o : Int} (hd : decode (mC μ) pc = .ok (.goto o, 3)) (ht : (pc : Int) + o = (q : Int)) (k : Ev γ μ u n h lv q st Ψ) : Ev γ μ u n h lv pc st Ψ := by
  intro p e R s m args below meth c Q H locs ls C z P S L r
  exact lv_goto C.1 C.2.1 hd ht (k p e R s m args below meth c Q H locs ls C z P S L r)
theorem E_if_eq {x : Int32} {o : Int} {t : Nat} (hd : decode (mC μ) pc = .ok (.ifCond .eq o, 3)) (ht : (pc : Int) + o = (t : Int)) (hq : pc + 3 = q) (kt : x = 0 → Ev γ μ u n h lv t rest Ψ) (kf : ¬ (x = 0) → Ev γ μ u n h lv q rest Ψ) : Ev γ μ u n h lv pc (.int x :: rest) Ψ := by
  subst hq
  intro p e R s m args below meth c Q H locs ls C z P S L r
  exact lv_if_eq C.1 C.2.1 hd ht (fun g => kt g p e R s m args below meth c Q H locs ls C z P S L r) (fun g => kf g p e R s m args below meth c Q H locs ls C z P S L r)
theorem E_icmp_eq {x y : Int32} {o : Int} {t : Nat} (hd : decode (mC μ) pc = .ok (.if_icmp .eq o, 3)) (ht : (pc : Int) + o = (t : Int)) (hq : pc + 3 = q) (kt : x = y → Ev γ μ u n h lv t rest Ψ) (kf : ¬ (x = y) → Ev γ μ u n h lv q rest Ψ) : Ev γ μ u n h lv pc (.int y :: .int x :: rest) Ψ := by
  subst hq
  intro p e R s m args below meth c Q H locs ls C z P S L r
  exact lv_icmp_eq C.1 C.2.1 hd ht (fun g => kt g p e R s m args below meth c Q H locs ls C z P S L r) (fun g => kf g p e R s m args below meth c Q H locs ls C z P S L r)
theorem E_if_ne {x : Int32} {o : Int} {t : Nat} (hd : decode (mC μ) pc = .ok (.ifCond .ne o, 3)) (ht : (pc : Int) + o = (t : Int)) (hq : pc + 3 = q) (kt : ¬ x = 0 → Ev γ μ u n h lv t rest Ψ) (kf : x = 0 → Ev γ μ u n h lv q rest Ψ) : Ev γ μ u n h lv pc (.int x :: rest) Ψ := by
  subst hq
  intro p e R s m args below meth c Q H locs ls C z P S L r
  exact lv_if_ne C.1 C.2.1 hd ht (fun g => kt g p e R s m args below meth c Q H locs ls C z P S L r) (fun g => kf g p e R s m args below meth c Q H locs ls C z P S L r)
theorem E_icmp_ne {x y : Int32} {o : Int} {t : Nat} (hd : decode (mC μ) pc = .ok (.if_icmp .ne o, 3)) (ht : (pc : Int) + o = (t : Int)) (hq : pc + 3 = q) (kt : ¬ x = y → Ev γ μ u n h lv t rest Ψ) (kf : x = y → Ev γ μ u n h lv q rest Ψ) : Ev γ μ u n h lv pc (.int y :: .int x :: rest) Ψ := by
  subst hq
  intro p e R s m args below meth c Q H locs ls C z P S L r
  exact lv_icmp_ne C.1 C.2.1 hd ht (fun g => kt g p e R s m args below meth c Q H locs ls C z P S L r) (fun g => kf g p e R s m args below meth c Q H locs ls C z P S L r)
theorem E_if_lt {x : Int32} {o : Int} {t : Nat} (hd : decode (mC μ) pc = .ok (.ifCond .lt o, 3)) (ht : (pc : Int) + o = (t : Int)) (hq : pc + 3 = q) (kt : x < 0 → Ev γ μ u n h lv t rest Ψ) (kf : ¬ (x < 0) → Ev γ μ u n h lv q rest Ψ) : Ev γ μ u n h lv pc (.int x :: rest) Ψ := by
  subst hq
  intro p e R s m args below meth c Q H locs ls C z P S L r
  exact lv_if_lt C.1 C.2.1 hd ht (fun g => kt g p e R s m args below meth c Q H locs ls C z P S L r) (fun g => kf g p e R s m args below meth c Q H locs ls C z P S L r)
theorem E_icmp_lt {x y : Int32} {o : Int} {t : Nat} (hd : decode (mC μ) pc = .ok (.if_icmp .lt o, 3)) (ht : (pc : Int) + o = (t : Int)) (hq : pc + 3 = q) (kt : x < y → Ev γ μ u n h lv t rest Ψ) (kf : ¬ (x < y) → Ev γ μ u n h lv q rest Ψ) : Ev γ μ u n h lv pc (.int y :: .int x :: rest) Ψ := by
  subst hq
  intro p e R s m args below meth c Q H locs ls C z P S L r
  exact lv_icmp_lt C.1 C.2.1 hd ht (fun g => kt g p e R s m args below meth c Q H locs ls C z P S L r) (fun g => kf g p e R s m args below meth c Q H locs ls C z P S L r)
theorem E_if_ge {x : Int32} {o : Int} {t : Nat} (hd : decode (mC μ) pc = .ok (.ifCond .ge o, 3)) (ht : (pc : Int) + o = (t : Int)) (hq : pc + 3 = q) (kt : 0 ≤ x → Ev γ μ u n h lv t rest Ψ) (kf : ¬ (0 ≤ x) → Ev γ μ u n h lv q rest Ψ) : Ev γ μ u n h lv pc (.int x :: rest) Ψ := by
  subst hq
  intro p e R s m args below meth c Q H locs ls C z P S L r
  exact lv_if_ge C.1 C.2.1 hd ht (fun g => kt g p e R s m args below meth c Q H locs ls C z P S L r) (fun g => kf g p e R s m args below meth c Q H locs ls C z P S L r)
theorem E_icmp_ge {x y : Int32} {o : Int} {t : Nat} (hd : decode (mC μ) pc = .ok (.if_icmp .ge o, 3)) (ht : (pc : Int) + o = (t : Int)) (hq : pc + 3 = q) (kt : y ≤ x → Ev γ μ u n h lv t rest Ψ) (kf : ¬ (y ≤ x) → Ev γ μ u n h lv q rest Ψ) : Ev γ μ u n h lv pc (.int y :: .int x :: rest) Ψ := by
  subst hq
  intro p e R s m args below meth c Q H locs ls C z P S L r
  exact lv_icmp_ge C.1 C.2.1 hd ht (fun g => kt g p e R s m args below meth c Q H locs ls C z P S L r) (fun g => kf g p e R s m args below meth c Q H locs ls C z P S L r)
theorem E_if_gt {x : Int32} {o : Int} {t : Nat} (hd : decode (mC μ) pc = .ok (.ifCond .gt o, 3)) (ht : (pc : Int) + o = (t : Int)) (hq : pc + 3 = q) (kt : 0 < x → Ev γ μ u n h lv t rest Ψ) (kf : ¬ (0 < x) → Ev γ μ u n h lv q rest Ψ) : Ev γ μ u n h lv pc (.int x :: rest) Ψ := by
  subst hq
  intro p e R s m args below meth c Q H locs ls C z P S L r
  exact lv_if_gt C.1 C.2.1 hd ht (fun g => kt g p e R s m args below meth c Q H locs ls C z P S L r) (fun g => kf g p e R s m args below meth c Q H locs ls C z P S L r)
theorem E_icmp_gt {x y : Int32} {o : Int} {t : Nat} (hd : decode (mC μ) pc = .ok (.if_icmp .gt o, 3)) (ht : (pc : Int) + o = (t : Int)) (hq : pc + 3 = q) (kt : y < x → Ev γ μ u n h lv t rest Ψ) (kf : ¬ (y < x) → Ev γ μ u n h lv q rest Ψ) : Ev γ μ u n h lv pc (.int y :: .int x :: rest) Ψ := by
  subst hq
  intro p e R s m args below meth c Q H locs ls C z P S L r
  exact lv_icmp_gt C.1 C.2.1 hd ht (fun g => kt g p e R s m args below meth c Q H locs ls C z P S L r) (fun g => kf g p e R s m args below meth c Q H locs ls C z P S L r)
theorem E_if_le {x : Int32} {o : Int} {t : Nat} (hd : decode (mC μ) pc = .ok (.ifCond .le o, 3)) (ht : (pc : Int) + o = (t : Int)) (hq : pc + 3 = q) (kt : x ≤ 0 → Ev γ μ u n h lv t rest Ψ) (kf : ¬ (x ≤ 0) → Ev γ μ u n h lv q rest Ψ) : Ev γ μ u n h lv pc (.int x :: rest) Ψ := by
  subst hq
  intro p e R s m args below meth c Q H locs ls C z P S L r
  exact lv_if_le C.1 C.2.1 hd ht (fun g => kt g p e R s m args below meth c Q H locs ls C z P S L r) (fun g => kf g p e R s m args below meth c Q H locs ls C z P S L r)
theorem E_icmp_le {x y : Int32} {o : Int} {t : Nat} (hd : decode (mC μ) pc = .ok (.if_icmp .le o, 3)) (ht : (pc : Int) + o = (t : Int)) (hq : pc + 3 = q) (kt : x ≤ y → Ev γ μ u n h lv t rest Ψ) (kf : ¬ (x ≤ y) → Ev γ μ u n h lv q rest Ψ) : Ev γ μ u n h lv pc (.int y :: .int x :: rest) Ψ := by
  subst hq
  intro p e R s m args below meth c Q H locs ls C z P S L r
  exact lv_icmp_le C.1 C.2.1 hd ht (fun g => kt g p e R s m args below meth c Q H locs ls C z P S L r) (fun g => kf g p e R s m args below meth c Q H locs ls C z P S L r)
theorem E_tabIn {dflt lo hi : Int} {offs : Array Int} {len t : Nat} {x : Int32} {o : Int} (hd : decode (mC μ) pc = .ok (.tableswitch dflt lo hi offs, len)) (h1 : ¬ x.toInt < lo) (h2 : ¬ hi < x.toInt) (ho : offs[(x.toInt - lo).toNat]? = some o) (ht : (pc : Int) + o = (t : Int)) (k : Ev γ μ u n h lv t rest Ψ) : Ev γ μ u n h lv pc (.int x :: rest) Ψ := by
  intro p e R s m args below meth c Q H locs ls C z P S L r
  exact lv_tableIn C.1 C.2.1 hd h1 h2 ho ht (k p e R s m args below meth c Q H locs ls C z P S L r)
theorem E_tabOut {dflt lo hi : Int} {offs : Array Int} {len t : Nat} {x : Int32} (hd : decode (mC μ) pc = .ok (.tableswitch dflt lo hi offs, len)) (h1 : x.toInt < lo ∨ hi < x.toInt) (ht : (pc : Int) + dflt = (t : Int)) (k : Ev γ μ u n h lv t rest Ψ) : Ev γ μ u n h lv pc (.int x :: rest) Ψ := by
  intro p e R s m args below meth c Q H locs ls C z P S L r
  exact lv_tableOut C.1 C.2.1 hd h1 ht (k p e R s m args below meth c Q H locs ls C z P S L r)
theorem E_ldc {idx : Nat} {x : Int32} (hd : decode (mC μ) pc = .ok (.ldc idx, 2)) (hq : pc + 2 = q) (hw : Cond.constant (mY μ).cls idx x ∈ lw_good) (k : Ev γ μ u n h lv q (.int x :: rest) Ψ) : Ev γ μ u n h lv pc rest Ψ := by
  subst hq
  intro p e R s m args below meth c Q H locs ls C z P S L r
  exact lv_ldc C.1 C.2.1 C.2.2.2.1 (C.2.2.2.2.1 _ hw) hd (k p e R s m args below meth c Q H locs ls C z P S L r)
theorem E_ldc2 {idx : Nat} {x : Int64} (hd : decode (mC μ) pc = .ok (.ldc2_w idx, 3)) (hq : pc + 3 = q) (hw : Cond.constantLong (mY μ).cls idx x ∈ lw_good) (k : Ev γ μ u n h lv q (.long x :: rest) Ψ) : Ev γ μ u n h lv pc rest Ψ := by
  subst hq
  intro p e R s m args below meth c Q H locs ls C z P S L r
  exact lv_ldc2 C.1 C.2.1 C.2.2.2.1 (C.2.2.2.2.1 _ hw) hd (k p e R s m args below meth c Q H locs ls C z P S L r)
end EV

/-! ===== the judgement Eo: as Ev, where the class of Watch[] is known too (for the constructors that make such rows) ===== -/
/-- what the constructors need beyond the good words: the class of Watch[], and four links into nested classes -/
def AO5 (s : State) : Prop := va_AO RX5 s ∧ va_Nw (.methodLinkNest RX6 9 yX4_init "PostRelief") s ∧ va_Nw (.methodLinkNest RX6 18 yX0_init "PostRelief") s ∧ va_Nw (.methodLinkNest RX6 53 yX1_init "PostRelief") s ∧ va_Nw (.methodLinkNest RX6 60 yX3_init "PostRelief") s
theorem AO5.calling {U : State} {g : JFrame} {mk : MethodId} {a : Array Value} (q : AO5 U) : AO5 (U.calling g mk a) := ⟨va_AO.moved (u := U) (U := U.calling g mk a) (Vm.Alike.refl U.vm) q.1, va_Nw.same (u := U) (U := U.calling g mk a) rfl rfl q.2.1, va_Nw.same (u := U) (U := U.calling g mk a) rfl rfl q.2.2.1, va_Nw.same (u := U) (U := U.calling g mk a) rfl rfl q.2.2.2.1, va_Nw.same (u := U) (U := U.calling g mk a) rfl rfl q.2.2.2.2⟩
theorem AO5.warm {s U : State} (hW : s.WarmedH U.vm) (q : AO5 s) : AO5 U := ⟨va_AO.moved hW.alike q.1, va_Nw.warmM hW q.2.1, va_Nw.warmM hW q.2.2.1, va_Nw.warmM hW q.2.2.2.1, va_Nw.warmM hW q.2.2.2.2⟩
def Cy (γ : GX) (μ : MI) (p : Program) (R : Room) (s : State) (m : MethodId) (args : Array Value) (meth : Method) (c : Code) : Prop :=
  p.tables.exec = Jvm.exec ∧ c.code = mC μ ∧ c.maxLocals = mL μ ∧ s.vm.findClass (mY μ).cls = some m.cls ∧ (∀ w ∈ lw_good, w.before args s = true) ∧ meth.locks = false ∧ meth.sig.returnType = mR μ ∧ mD μ ≤ R.frames ∧ 40 * mD μ + 60 ≤ R.locals ∧ va_K (gD γ) vwCl (gT γ) s ∧ (mN μ = true → meth.name = "<init>") ∧ mK μ ≤ R.cells ∧ (mS μ ≤ R.slots ∧ AO5 s)
def Eo (γ : GX) (μ : MI) (u : Nat × Nat) (n : Nat) (h : HP) (lv : List (Nat × Value)) (pc : Nat) (st : List Value) (Ψ : PS) : Prop :=
  ∀ (p : Program) (e : Env) (R : Room) (s : State) (m : MethodId) (args : Array Value) (below : List Frame) (meth : Method) (c : Code) (Q : State → Prop) (H : Heap) (locs : List Loc) (ls : Array Slot),
    Cy γ μ p R s m args meth c → Sz γ μ s u n → va_P (gD γ) vwCl (wl (gB γ) n h) H → va_S (fun q => gB γ ≤ q) s.heap H locs → lv_has ls (mL μ) lv →
    (∀ (v : Option Value) (n' : Nat) (h' : HP) (u' : Nat × Nat) (H' : Heap) (locs' : List Loc) (pc' : Nat) (ls' : Array Slot), Ψ v n' h' → Rk μ pc' v → Sz γ μ s u' n' → va_P (gD γ) vwCl (wl (gB γ) n' h') H' → va_S (fun q => gB γ ≤ q) s.heap H' locs' → W p (gL γ) e R s m args below meth c H' locs' u'.1 u'.2 Q (F0 m pc' ls' v.toList)) →
    W p (gL γ) e R s m args below meth c H locs u.1 u.2 Q (F0 m pc ls st)
def Cu (γ : GX) (μ : MI) (n : Nat) (h : HP) (as : List Value) (Ψ : PS) : Prop :=
  Met (gL γ) (mY μ) (.code (mY μ) (mC μ) (mL μ) (mR μ) :: lw_good) (rmD μ)
    (va_Pc as (fun U => U.heap.size = gB γ + n ∧ va_P (gD γ) vwCl (wl (gB γ) n h) U.heap ∧ va_K (gD γ) vwCl (gT γ) U ∧ AO5 U))
    (fun _ st oc t => (∃ (v : Option Value) (n' : Nat) (h' : HP), oc = .returned v ∧ Ψ v n' h' ∧ va_P (gD γ) vwCl (wl (gB γ) n' h') t.heap) ∧ va_F (fun q => gB γ ≤ q) st t) (mK μ) (mS μ) (fun q => gB γ ≤ q)
section EOV
variable {γ : GX} {μ : MI} {u : Nat × Nat} {n : Nat} {h : HP} {lv : List (Nat × Value)} {pc q : Nat} {st rest : List Value} {Ψ : PS}
theorem Cu_of_Eo {as : List Value} (hy : plainName (mY μ).cls = true) (hi : mN μ = true → (mY μ).name = "<init>") (hlen : (lg_sl as).length ≤ mL μ) (k : Eo γ μ (0, 0) n h (lv_args 0 as) 0 [] Ψ) : Cu γ μ n h as Ψ := by
  refine Met.ofW (cc := mC μ) (maxL := mL μ) (ret := mR μ) hy rfl ?_
  intro p e s m args below meth c s₁ B hml hv
  obtain ⟨rfl, hsz, hP, hK, hAO⟩ := hv
  have hts := atoms_spec (ws := .code (mY μ) (mC μ) (mL μ) (mR μ) :: lw_good) B.pre
  have hl := lv_entry as (n := mL μ) hlen
  rw [lg_entry_eq]
  refine k p e (rmD μ) s m as.toArray below meth c _ s.heap [] _ ⟨B.exec, B.bytes, hml, findClass_of_methodNamed B.named, fun w hw => hts w (List.mem_cons_of_mem _ hw), B.notSynchronized, B.returns, Nat.le_refl _, Nat.le_refl _, hK, fun hz => (name_of_methodNamed B.named B.method).1.trans (hi hz), Nat.le_refl _, Nat.le_refl _, hAO⟩ ⟨hsz, by omega, Nat.zero_le _, Nat.zero_le _⟩ hP va_S.rf hl ?_
  intro v n' h' u' H' locs' pc' ls' hΨ hR hz hP' hS'
  refine W.widen hz.2.2.1 hz.2.2.2 ?_
  have hlocks := B.notSynchronized
  rcases hR with ⟨h1, hd, x, rfl⟩ | ⟨h1, hd, x, rfl, h2⟩ | ⟨h1, hd, x, rfl⟩ | ⟨h1, hd, rfl⟩
  · exact W.iret B.exec B.bytes (B.returns.trans h1) (fun t ht hw => ⟨⟨_, n', h', rfl, hΨ, by rw [ht]; exact hP'⟩, hS'.F ht⟩) (fun q hq => hS'.2.2 q hq) hd
  · exact W.zret B.exec B.bytes (B.returns.trans h1) (by show Value.int (x &&& 1) = _; rw [h2]) (fun t ht hw => ⟨⟨_, n', h', rfl, hΨ, by rw [ht]; exact hP'⟩, hS'.F ht⟩) (fun q hq => hS'.2.2 q hq) hd
  · exact W.lret B.exec B.bytes (B.returns.trans h1) (fun t ht hw => ⟨⟨_, n', h', rfl, hΨ, by rw [ht]; exact hP'⟩, hS'.F ht⟩) (fun q hq => hS'.2.2 q hq) hd
  · exact W.vret B.exec B.bytes (B.returns.trans h1) (fun t ht hw => ⟨⟨_, n', h', rfl, hΨ, by rw [ht]; exact hP'⟩, hS'.F ht⟩) (fun q hq => hS'.2.2 q hq) hd
theorem O_vret (hd : decode (mC μ) pc = .ok (.return_, 1)) (hr : mR μ = none) (hp : Ψ none n h) : Eo γ μ u n h lv pc [] Ψ := by
  intro p e R s m args below meth c Q H locs ls C z P S L r
  exact r _ n h u H locs pc ls hp (Or.inr (Or.inr (Or.inr ⟨hr, hd, rfl⟩))) z P S
theorem O_sub (ks : List Nat) {lv' : List (Nat × Value)} (hl : lv_pick lv ks = lv') (k : Eo γ μ u n h lv' pc st Ψ) : Eo γ μ u n h lv pc st Ψ := by
  intro p e R s m args below meth c Q H locs ls C z P S L r
  exact k p e R s m args below meth c Q H locs ls C z P S (lv_sub L ks hl) r
theorem O_iconst {i : Int} {x : Int32} (hd : decode (mC μ) pc = .ok (.iconst i, 1)) (hq : pc + 1 = q) (hv : Int32.ofInt i = x) (k : Eo γ μ u n h lv q (.int x :: rest) Ψ) : Eo γ μ u n h lv pc (rest) Ψ := by
  subst hq
  intro p e R s m args below meth c Q H locs ls C z P S L r
  exact lv_iconst C.1 C.2.1 hd hv (k p e R s m args below meth c Q H locs ls C z P S L r)
theorem O_bipush {i : Int} {x : Int32} (hd : decode (mC μ) pc = .ok (.bipush i, 2)) (hq : pc + 2 = q) (hv : (Int8.ofInt i).toInt32 = x) (k : Eo γ μ u n h lv q (.int x :: rest) Ψ) : Eo γ μ u n h lv pc (rest) Ψ := by
  subst hq
  intro p e R s m args below meth c Q H locs ls C z P S L r
  exact lv_bipush C.1 C.2.1 hd hv (k p e R s m args below meth c Q H locs ls C z P S L r)
theorem O_dup {v : Value} (hd : decode (mC μ) pc = .ok (.dup, 1)) (hq : pc + 1 = q) (hv : v.category = 1) (k : Eo γ μ u n h lv q (v :: v :: rest) Ψ) : Eo γ μ u n h lv pc (v :: rest) Ψ := by
  subst hq
  intro p e R s m args below meth c Q H locs ls C z P S L r
  exact lv_dup C.1 C.2.1 hd hv (k p e R s m args below meth c Q H locs ls C z P S L r)
theorem O_iload_n (j : Nat) {i : Fin 4} {i' : Nat} {x : Int32} (hd : decode (mC μ) pc = .ok (.iload_n i, 1)) (hq : pc + 1 = q) (hi : (i : Nat) = i') (hj : lv[j]? = some (i', .int x)) (k : Eo γ μ u n h lv q (.int x :: rest) Ψ) : Eo γ μ u n h lv pc rest Ψ := by
  subst hq
  intro p e R s m args below meth c Q H locs ls C z P S L r
  exact lv_iload_n C.1 C.2.1 hd hi (lv_at L j hj) (k p e R s m args below meth c Q H locs ls C z P S L r)
theorem O_aload_n (j : Nat) {i : Fin 4} {i' : Nat} {x : Nat} (hd : decode (mC μ) pc = .ok (.aload_n i, 1)) (hq : pc + 1 = q) (hi : (i : Nat) = i') (hj : lv[j]? = some (i', .ref x)) (k : Eo γ μ u n h lv q (.ref x :: rest) Ψ) : Eo γ μ u n h lv pc rest Ψ := by
  subst hq
  intro p e R s m args below meth c Q H locs ls C z P S L r
  exact lv_aload_n C.1 C.2.1 hd hi (lv_at L j hj) (k p e R s m args below meth c Q H locs ls C z P S L r)
theorem O_istore_n {i : Fin 4} {i' : Nat} {x : Int32} (lv' : List (Nat × Value)) (hd : decode (mC μ) pc = .ok (.istore_n i, 1)) (hq : pc + 1 = q) (hi : (i : Nat) = i') (hn : i' < mL μ) (hl : lvw lv i' (.int x) = lv') (k : Eo γ μ u n h lv' q rest Ψ) : Eo γ μ u n h lv pc (.int x :: rest) Ψ := by
  subst hq
  intro p e R s m args below meth c Q H locs ls C z P S L r
  exact lv_istore_n C.1 C.2.1 hd hi L hn hl (fun ls' L' => k p e R s m args below meth c Q H locs ls' C z P S L' r)
theorem O_iinc (j : Nat) {i : Nat} {d : Int} {x v : Int32} (lv' : List (Nat × Value)) (hd : decode (mC μ) pc = .ok (.iinc i d, 3)) (hq : pc + 3 = q) (hj : lv[j]? = some (i, .int x)) (hv : x + Int32.ofInt d = v) (hn : i < mL μ) (hl : lvw lv i (.int v) = lv') (k : Eo γ μ u n h lv' q st Ψ) : Eo γ μ u n h lv pc st Ψ := by
  subst hq
  intro p e R s m args below meth c Q H locs ls C z P S L r
  exact lv_iinc C.1 C.2.1 hd L hj hv hn hl (fun ls' L' => k p e R s m args below meth c Q H locs ls' C z P S L' r)
theorem O_goto {o : Int} (hd : decode (mC μ) pc = .ok (.goto o, 3)) (ht : (pc : Int) + o = (q : Int)) (k : Eo γ μ u n h lv q st Ψ) : Eo γ μ u n h lv pc st Ψ := by
  intro p e R s m args below meth c Q H locs ls C z P S L r
  exact lv_goto C.1 C.2.1 hd ht (k p e R s m args below meth c Q H locs ls C z P S L r)
theorem O_icmp_ge {x y : Int32} {o : Int} {t : Nat} (hd : decode (mC μ) pc = .ok (.if_icmp .ge o, 3)) (ht : (pc : Int) + o = (t : Int)) (hq : pc + 3 = q) (kt : y ≤ x → Eo γ μ u n h lv t rest Ψ) (kf : ¬ (y ≤ x) → Eo γ μ u n h lv q rest Ψ) : Eo γ μ u n h lv pc (.int y :: .int x :: rest) Ψ := by
  subst hq
  intro p e R s m args below meth c Q H locs ls C z P S L r
  exact lv_icmp_ge C.1 C.2.1 hd ht (fun g => kt g p e R s m args below meth c Q H locs ls C z P S L r) (fun g => kf g p e R s m args below meth c Q H locs ls C z P S L r)
end EOV
section EOH
variable {γ : GX} {μ : MI} {u : Nat × Nat} {n : Nat} {h h' : HP} {lv : List (Nat × Value)} {pc q : Nat} {st rest : List Value} {Ψ : PS}
theorem O_get {c0 : Nat} {C : String} {T : u_T} {N : Nat} {ty : Nat → FieldType} {fs : List Value} {v : Value} {a idx : Nat} (k : Nat) (hd : decode (mC μ) pc = .ok (.getfield idx, 3)) (hq : pc + 3 = q) (ck : CKx c0 C T N ty) (hk : k < N) (hl : Cond.fieldLink (mY μ).cls idx (T k).1 (T k).2.1 (T k).2.2.1 ∈ lw_good)
    (hc : h a = .inr (c0, fs)) (ha : a < n) (hv : fs[k]? = some v) (kk : Eo γ μ u n h lv q (v :: rest) Ψ) : Eo γ μ u n h lv pc (.ref (gB γ + a) :: rest) Ψ := by
  subst hq
  intro p e R s m args below meth c Q H locs ls C0 z P S L r
  exact va_get C0.1 C0.2.1 C0.2.2.2.2.1 ck.2.1 C0.2.2.2.1 C0.2.2.2.2.2.2.2.2.2.1 P a (by rw [wl_get ha, hc]) ck.1 k hk (C0.2.2.2.2.1 _ hl) (fun x hx => hx) hv hd (kk p e R s m args below meth c Q H locs ls C0 z P S L r)
theorem O_putF {c0 : Nat} {C : String} {T : u_T} {N : Nat} {ty : Nat → FieldType} {fs : List Value} {v : Value} {a idx : Nat} (k : Nat) (hd : decode (mC μ) pc = .ok (.putfield idx, 3)) (hq : pc + 3 = q) (ck : CKx c0 C T N ty) (hk : k < N) (hl : Cond.fieldLink (mY μ).cls idx (T k).1 (T k).2.1 (T k).2.2.1 ∈ lw_good) (hfin : (T k).2.2.2 = true) (hini : mN μ = true) (hdecl : (T k).1 = (mY μ).cls) (hn : narrow (ty k) v = v) (hft : fits (ty k) v = true)
    (hc : h a = .inr (c0, fs)) (ha : a < n) (hv : k < fs.length) (hh : up h a (.inr (c0, fs.set k v)) = h') (kk : Eo γ μ u n h' lv q rest Ψ) : Eo γ μ u n h lv pc (v :: .ref (gB γ + a) :: rest) Ψ := by
  subst hq
  intro p e R s m args below meth c Q H locs ls C0 z P S L r
  refine va_putF C0.1 C0.2.1 C0.2.2.2.2.1 ck.2.1 ty ck.2.2.1 ck.2.2.2 C0.2.2.2.1 C0.2.2.2.2.2.2.2.2.2.1 P (wl_D _ _ _) S a (by rw [wl_get ha, hc]) ck.1 k hk (C0.2.2.2.2.1 _ hl) (fun x hx => hx) hfin (C0.2.2.2.2.2.2.2.2.2.2.1 hini) hdecl (ck.2.2.1 k hk) hn hft hv hd (fun H1 locs1 P1 _ S1 => ?_)
  rw [wl_set ha, hh] at P1
  exact kk p e R s m args below meth c Q H1 locs1 ls C0 z P1 S1 L r
theorem O_wast {f : Nat → Option Nat} {fs : List Value} {i : Int32} {a b len : Nat} (hd : decode (mC μ) pc = .ok (.aastore, 1)) (hq : pc + 1 = q) (hc : h a = WA γ len f) (ha : a < n) (hb : h b = .inr (5, fs)) (hbn : b < n) (hi : ix i len = true) (hh : up h a (WA γ len (va_up f (ci i) (some (gB γ + b)))) = h') (kk : Eo γ μ u n h' lv q rest Ψ) : Eo γ μ u n h lv pc (.ref (gB γ + b) :: .int i :: .ref (gB γ + a) :: rest) Ψ := by
  subst hq
  intro p e R s m args below meth c Q H locs ls C0 z P S L r
  refine va_astq C0.1 C0.2.1 C0.2.2.2.2.2.2.2.2.2.1 P (wl_D _ _ _) S a 2 b 5 (r := (RX5, TX5, 5)) (by rw [wl_get ha, hc]) rfl (by rw [wl_get hbn, hb]) rfl (ix_in hi) hd (fun H1 locs1 P1 _ S1 => ?_)
  rw [wl_set ha, hh] at P1
  exact kk p e R s m args below meth c Q H1 locs1 ls C0 z P1 S1 L r
theorem O_newz {x : Int32} {len : Nat} (hd : decode (mC μ) pc = .ok (.newarray .boolean, 2)) (hq : pc + 2 = q) (hw : Cond.arrayClass .boolean ∈ lw_good) (hx : ¬ x < 0) (hN : x.toNatClampNeg = len) (hb : len ≤ 1000) (hu : u.1 + 1 ≤ mK μ ∧ u.2 + len ≤ mS μ) (hh : up h n (ZA γ len (fun _ => 0)) = h') (kk : Eo γ μ (u.1 + 1, u.2 + len) (n + 1) h' lv q (.ref (gB γ + n) :: rest) Ψ) : Eo γ μ u n h lv pc (.int x :: rest) Ψ := by
  subst hq
  intro p e R s m args below meth c Q H locs ls C0 z P S L r
  have hK := C0.2.2.2.2.2.2.2.2.2.1
  refine va_newa (a0 := (len, .inl (fun _ => 0))) (atype := .boolean) C0.1 C0.2.1 (C0.2.2.2.2.1 _ hw) rfl hK P (wl_D _ _ _) S (fun q hq => Nat.le_trans z.2.1 hq) (fun cA => rfl) hx hN (by show len * 1 ≤ 536870912; omega) (Nat.le_trans hu.1 C0.2.2.2.2.2.2.2.2.2.2.2.1) (Nat.le_trans hu.2 C0.2.2.2.2.2.2.2.2.2.2.2.2.1) hd (fun q0 cA H1 K1 P1 D1 S1 => ?_)
  refine W_size fun hsz => ?_
  have hcA : cA = gZ γ := by
    have a1 : va_RA s cA .boolean := (K1.2 3 (cA, .boolean) rfl).2
    have a2 : va_RA s (gZ γ) .boolean := (hK.2 1 (gZ γ, .boolean) rfl).2
    exact Option.some.inj (a1.symm.trans a2)
  subst hcA
  have hz1 := z.1
  have hq0 : q0 = gB γ + n := new_at P1 D1 (by omega)
  subst hq0
  rw [wl_push, hh] at P1
  refine kk p e R s m args below meth c Q H1 locs ls C0 ⟨?_, z.2.1, hu.1, hu.2⟩ P1 S1 L r
  show s.heap.size + (u.1 + 1) = gB γ + (n + 1)
  omega
theorem O_new {c0 idx : Nat} {C : String} {T : u_T} {N : Nat} {ty : Nat → FieldType} {fs : List Value} (hd : decode (mC μ) pc = .ok (.new idx, 3)) (hq : pc + 3 = q) (ck : CKx c0 C T N ty) (hl : Cond.classLink (mY μ).cls idx C ∈ lw_good) (hi : Cond.instantiable C N ∈ lw_good) (hini : Cond.initialized C ∈ lw_good) (hfs : ∀ j, j < N → defaultValue (ty j) = vp_V fs j) (hu : u.1 + 1 ≤ mK μ ∧ u.2 + N ≤ mS μ) (hh : up h n (.inr (c0, fs)) = h') (kk : Eo γ μ (u.1 + 1, u.2 + N) (n + 1) h' lv q (.ref (gB γ + n) :: rest) Ψ) : Eo γ μ u n h lv pc rest Ψ := by
  subst hq
  intro p e R s m args below meth c Q H locs ls C0 z P S L r
  have hK := C0.2.2.2.2.2.2.2.2.2.1
  refine va_new C0.1 C0.2.1 C0.2.2.2.2.1 ck.2.1 ty ck.2.2.1 C0.2.2.2.1 (C0.2.2.2.2.1 _ hl) (C0.2.2.2.2.1 _ hi) (C0.2.2.2.2.1 _ hini) hK P (wl_D _ _ _) S (fun q hq => Nat.le_trans z.2.1 hq) ck.1 hfs (Nat.le_trans hu.1 C0.2.2.2.2.2.2.2.2.2.2.2.1) (Nat.le_trans hu.2 C0.2.2.2.2.2.2.2.2.2.2.2.2.1) hd (fun q0 H1 P1 D1 S1 => ?_)
  refine W_size fun hsz => ?_
  have hz1 := z.1
  have hq0 : q0 = gB γ + n := new_at P1 D1 (by omega)
  subst hq0
  rw [wl_push, hh] at P1
  refine kk p e R s m args below meth c Q H1 locs ls C0 ⟨?_, z.2.1, hu.1, hu.2⟩ P1 S1 L r
  show s.heap.size + (u.1 + 1) = gB γ + (n + 1)
  omega
theorem O_objInit {idx a : Nat} (hd : decode (mC μ) pc = .ok (.invokespecial idx, 3)) (hq : pc + 3 = q) (hl : Cond.methodLink (mY μ).cls idx Lib.objectInit ∈ lw_good) (hi : Cond.instanceMethod Lib.objectInit ∈ lw_good) (hc : Cond.code Lib.objectInit ⟨#[0xb1]⟩ 1 none ∈ lw_good) (hdp : 1 ≤ mD μ) (hr : (rest.map fun v => v.category).sum ≤ 8) (kk : Eo γ μ u n h lv q rest Ψ) : Eo γ μ u n h lv pc (.ref a :: rest) Ψ := by
  subst hq
  intro p e R s m args below meth c Q H locs ls C0 z P S L r
  refine W.objInit C0.1 C0.2.1 C0.2.2.2.1 (C0.2.2.2.2.1 _ hl) (C0.2.2.2.2.1 _ hi) (C0.2.2.2.2.1 _ hc) rfl (by rw [C0.2.2.1]; exact L.1) (a := a) (rest := rest) rfl hd (Nat.le_trans hdp C0.2.2.2.2.2.2.2.1) ?_ (kk p e R s m args below meth c Q H locs ls C0 z P S L r)
  have h1 := C0.2.2.2.2.2.2.2.2.1
  have h2 := lv_room (m := m) (pc := pc) (ls := ls) (rest := .ref a :: rest) hr
  omega
theorem O_neww {x : Int32} {len idx : Nat} (hd : decode (mC μ) pc = .ok (.anewarray idx, 3)) (hq : pc + 3 = q) (hl : Cond.classLink (mY μ).cls idx RX5 ∈ lw_good) (hx : ¬ x < 0) (hN : x.toNatClampNeg = len) (hb : len ≤ 1000) (hu : u.1 + 1 ≤ mK μ ∧ u.2 + len ≤ mS μ) (hh : up h n (WA γ len (fun _ => none)) = h') (kk : Eo γ μ (u.1 + 1, u.2 + len) (n + 1) h' lv q (.ref (gB γ + n) :: rest) Ψ) : Eo γ μ u n h lv pc (.int x :: rest) Ψ := by
  subst hq
  intro p e R s m args below meth c Q H locs ls C0 z P S L r
  have hK := C0.2.2.2.2.2.2.2.2.2.1
  refine va_newq C0.1 C0.2.1 C0.2.2.2.1 (C0.2.2.2.2.1 _ hl) C0.2.2.2.2.2.2.2.2.2.2.2.2.2.1 hK P (wl_D _ _ _) S (fun q hq => Nat.le_trans z.2.1 hq) hx hN (by omega) (Nat.le_trans hu.1 C0.2.2.2.2.2.2.2.2.2.2.2.1) (Nat.le_trans hu.2 C0.2.2.2.2.2.2.2.2.2.2.2.2.1) hd (fun q0 cA H1 K1 P1 D1 S1 => ?_)
  refine W_size fun hsz => ?_
  have hcA : cA = gW γ := by
    obtain ⟨_, _, _, _, _, a1⟩ := (K1.2 3 (cA, .object RX5) rfl).2
    obtain ⟨_, _, _, _, _, a2⟩ := (hK.2 2 (gW γ, .object RX5) rfl).2
    exact Option.some.inj (a1.symm.trans a2)
  subst hcA
  have hz1 := z.1
  have hq0 : q0 = gB γ + n := new_at P1 D1 (by omega)
  subst hq0
  rw [wl_push, hh] at P1
  refine kk p e R s m args below meth c Q H1 locs ls C0 ⟨?_, z.2.1, hu.1, hu.2⟩ P1 S1 L r
  show s.heap.size + (u.1 + 1) = gB γ + (n + 1)
  omega
end EOH
section EOC
variable {γ : GX} {μ μ' : MI} {u : Nat × Nat} {n : Nat} {h h' : HP} {lv : List (Nat × Value)} {pc q : Nat} {st rest as : List Value} {Ψ Φ : PS}
theorem O_callI {a idx np : Nat} (hd : decode (mC μ) pc = .ok (.invokespecial idx, 3)) (hq : pc + 3 = q) (hm : LkM μ' np) (hl : LkI (mY μ).cls idx μ') (hrt : mR μ' = none) (hdp : mD μ' + 1 ≤ mD μ) (hu : u.1 + mK μ' ≤ mK μ ∧ u.2 + mS μ' ≤ mS μ) (hr : (rest.map fun v => v.category).sum ≤ 8) (hst : st = as.reverse ++ .ref a :: rest) (hnp : as.length = np)
    (hc : Ct γ μ' n h (.ref a :: as) Φ) (hn : ∀ v n' h', Φ v n' h' → n' = n + mK μ') (kk : ∀ v n' h', Φ v n' h' → Eo γ μ (u.1 + mK μ', u.2 + mS μ') n' h' lv q (v.toList ++ rest) Ψ) : Eo γ μ u n h lv pc st Ψ := by
  subst hq
  intro p e R s m args below meth c Q H locs ls C z P S L r
  have hK := C.2.2.2.2.2.2.2.2.2.1
  refine W_size fun hsz => ?_
  have hsz := sz_eq P S z hsz
  have hfr := C.2.2.2.2.2.2.2.1
  have hlo := C.2.2.2.2.2.2.2.2.1
  have hmL := hm.2.2.2
  have hw := C.2.2.2.2.1
  refine ev_back (mc := mK μ') (ms := mS μ') (va_runI (bytes := mC μ') (maxL := mL μ') ⟨C.1, C.2.1, C.2.2.1, C.2.2.2.1, hw⟩ hc (n := np) ⟨callB_of np hw (lg_code hm) (by rw [hrt]) rfl rfl (hw _ hm.1) (hw _ hl.1) hm.2.2.1 ⟨by show mD μ' + 1 ≤ R.frames; omega, by show 8 + (mL μ' + 11) + (40 * mD μ' + 60) ≤ R.locals; omega⟩, hl.2.2, hw _ hl.2.1⟩ ⟨ct_blind, fun U hU hW => ⟨rfl, by rw [hU]; exact hsz, by rw [hU]; exact P, va_K.moved hW.alike hK⟩⟩ rfl hnp L.1 hst (lv_room hr) hd ⟨Nat.le_trans hu.1 C.2.2.2.2.2.2.2.2.2.2.2.1, Nat.le_trans hu.2 C.2.2.2.2.2.2.2.2.2.2.2.2.1⟩) S ?_
  intro v n' h' H' locs' hp P' S'
  have hz := z.1
  have hn' := hn v n' h' hp
  exact kk v n' h' hp p e R s m args below meth c Q H' locs' ls C ⟨by show s.heap.size + (u.1 + mK μ') = _; omega, z.2.1, hu.1, hu.2⟩ P' S' L r
theorem O_callN {a idx np : Nat} {host : String} (hd : decode (mC μ) pc = .ok (.invokespecial idx, 3)) (hq : pc + 3 = q) (hm : LkM μ' np) (hl : (∀ s, AO5 s → va_Nw (.methodLinkNest (mY μ).cls idx (mY μ') host) s) ∧ Cond.instanceMethod (mY μ') ∈ lw_good ∧ (mY μ').name = "<init>") (hrt : mR μ' = none) (hdp : mD μ' + 1 ≤ mD μ) (hu : u.1 + mK μ' ≤ mK μ ∧ u.2 + mS μ' ≤ mS μ) (hr : (rest.map fun v => v.category).sum ≤ 8) (hst : st = as.reverse ++ .ref a :: rest) (hnp : as.length = np)
    (hc : Ct γ μ' n h (.ref a :: as) Φ) (hn : ∀ v n' h', Φ v n' h' → n' = n + mK μ') (kk : ∀ v n' h', Φ v n' h' → Eo γ μ (u.1 + mK μ', u.2 + mS μ') n' h' lv q (v.toList ++ rest) Ψ) : Eo γ μ u n h lv pc st Ψ := by
  subst hq
  intro p e R s m args below meth c Q H locs ls C z P S L r
  have hK := C.2.2.2.2.2.2.2.2.2.1
  refine W_size fun hsz => ?_
  have hsz := sz_eq P S z hsz
  have hfr := C.2.2.2.2.2.2.2.1
  have hlo := C.2.2.2.2.2.2.2.2.1
  have hmL := hm.2.2.2
  have hw := C.2.2.2.2.1
  have hnest : va_Nw (.methodLinkNest (mY μ).cls idx (mY μ') host) s := hl.1 s C.2.2.2.2.2.2.2.2.2.2.2.2.2
  refine ev_back (mc := mK μ') (ms := mS μ') (va_runIN (bytes := mC μ') (maxL := mL μ') ⟨C.1, C.2.1, C.2.2.1, C.2.2.2.1, hw⟩ hc (n := np) ⟨va_cnB np hw (lg_code hm) (by rw [hrt]) rfl rfl hnest (hw _ hm.1) hm.2.2.1 ⟨by show mD μ' + 1 ≤ R.frames; omega, by show 8 + (mL μ' + 11) + (40 * mD μ' + 60) ≤ R.locals; omega⟩, hl.2.2, hw _ hl.2.1⟩ ⟨ct_blind, fun U hU hW => ⟨rfl, by rw [hU]; exact hsz, by rw [hU]; exact P, va_K.moved hW.alike hK⟩⟩ rfl hnp L.1 hst (lv_room hr) hd ⟨Nat.le_trans hu.1 C.2.2.2.2.2.2.2.2.2.2.2.1, Nat.le_trans hu.2 C.2.2.2.2.2.2.2.2.2.2.2.2.1⟩) S ?_
  intro v n' h' H' locs' hp P' S'
  have hz := z.1
  have hn' := hn v n' h' hp
  exact kk v n' h' hp p e R s m args below meth c Q H' locs' ls C ⟨by show s.heap.size + (u.1 + mK μ') = _; omega, z.2.1, hu.1, hu.2⟩ P' S' L r
theorem cu_blind {av : List Value} : FrameBlind (va_Pc av (fun U => U.heap.size = gB γ + n ∧ va_P (gD γ) vwCl (wl (gB γ) n h) U.heap ∧ va_K (gD γ) vwCl (gT γ) U ∧ AO5 U)) := by
  intro a U g mk q
  obtain ⟨q1, q2, q3, q4, q5⟩ := q
  exact ⟨q1, q2, q3, va_K.moved (u := U) (U := U.calling g mk a) (Vm.Alike.refl U.vm) q4, AO5.calling q5⟩
theorem O_callU {a idx np : Nat} (hd : decode (mC μ) pc = .ok (.invokespecial idx, 3)) (hq : pc + 3 = q) (hm : LkM μ' np) (hl : LkI (mY μ).cls idx μ') (hrt : mR μ' = none) (hdp : mD μ' + 1 ≤ mD μ) (hu : u.1 + mK μ' ≤ mK μ ∧ u.2 + mS μ' ≤ mS μ) (hr : (rest.map fun v => v.category).sum ≤ 8) (hst : st = as.reverse ++ .ref a :: rest) (hnp : as.length = np)
    (hc : Cu γ μ' n h (.ref a :: as) Φ) (hn : ∀ v n' h', Φ v n' h' → n' = n + mK μ') (kk : ∀ v n' h', Φ v n' h' → Eo γ μ (u.1 + mK μ', u.2 + mS μ') n' h' lv q (v.toList ++ rest) Ψ) : Eo γ μ u n h lv pc st Ψ := by
  subst hq
  intro p e R s m args below meth c Q H locs ls C z P S L r
  have hK := C.2.2.2.2.2.2.2.2.2.1
  refine W_size fun hsz => ?_
  have hsz := sz_eq P S z hsz
  have hfr := C.2.2.2.2.2.2.2.1
  have hlo := C.2.2.2.2.2.2.2.2.1
  have hmL := hm.2.2.2
  have hw := C.2.2.2.2.1
  refine ev_back (mc := mK μ') (ms := mS μ') (va_runI (bytes := mC μ') (maxL := mL μ') ⟨C.1, C.2.1, C.2.2.1, C.2.2.2.1, hw⟩ hc (n := np) ⟨callB_of np hw (lg_code hm) (by rw [hrt]) rfl rfl (hw _ hm.1) (hw _ hl.1) hm.2.2.1 ⟨by show mD μ' + 1 ≤ R.frames; omega, by show 8 + (mL μ' + 11) + (40 * mD μ' + 60) ≤ R.locals; omega⟩, hl.2.2, hw _ hl.2.1⟩ ⟨cu_blind, fun U hU hW => ⟨rfl, by rw [hU]; exact hsz, by rw [hU]; exact P, va_K.moved hW.alike hK, AO5.warm hW C.2.2.2.2.2.2.2.2.2.2.2.2.2⟩⟩ rfl hnp L.1 hst (lv_room hr) hd ⟨Nat.le_trans hu.1 C.2.2.2.2.2.2.2.2.2.2.2.1, Nat.le_trans hu.2 C.2.2.2.2.2.2.2.2.2.2.2.2.1⟩) S ?_
  intro v n' h' H' locs' hp P' S'
  have hz := z.1
  have hn' := hn v n' h' hp
  exact kk v n' h' hp p e R s m args below meth c Q H' locs' ls C ⟨by show s.heap.size + (u.1 + mK μ') = _; omega, z.2.1, hu.1, hu.2⟩ P' S' L r
end EOC
theorem Eo.u {γ : GX} {μ : MI} {u u' : Nat × Nat} {n : Nat} {h : HP} {lv : List (Nat × Value)} {pc : Nat} {st : List Value} {Ψ : PS} (e : u = u') (k : Eo γ μ u' n h lv pc st Ψ) : Eo γ μ u n h lv pc st Ψ := by rw [e]; exact k
theorem Eo.nn {γ : GX} {μ : MI} {u : Nat × Nat} {n n' : Nat} {h : HP} {lv : List (Nat × Value)} {pc : Nat} {st : List Value} {Ψ : PS} (e : n = n') (k : Eo γ μ u n' h lv pc st Ψ) : Eo γ μ u n h lv pc st Ψ := by rw [e]; exact k
theorem cell_ext {cA : ClassId} {m : Nat} {f g : Nat → Option Nat} (h : ∀ j, j < m → f j = g j) : vp_cell cA (m, .inr (.inr (.inr (.inr f)))) = vp_cell cA (m, .inr (.inr (.inr (.inr g)))) := by
  show arrV cA m (fun j => va_rf (f j)) = arrV cA m (fun j => va_rf (g j))
  unfold arrV
  congr 1
  congr 1
  funext j
  dsimp only
  rw [h j.val j.isLt]
/-- what stands behind an array's end doesn't matter -/
theorem O_ext {γ : GX} {μ : MI} {u : Nat × Nat} {n : Nat} {h : HP} {lv : List (Nat × Value)} {pc : Nat} {st : List Value} {Ψ : PS} {k m : Nat} {f g : Nat → Option Nat} (hc : h k = WA γ m f) (hfg : ∀ j, j < m → f j = g j) (kk : Eo γ μ u n (up h k (WA γ m g)) lv pc st Ψ) : Eo γ μ u n h lv pc st Ψ := by
  intro p e R s m' args below meth c Q H locs ls C z P S L r
  refine kk p e R s m' args below meth c Q H locs ls C z ?_ S L r
  intro j q hq
  obtain ⟨hj, rfl⟩ := wl_of hq
  have hP := P j _ (wl_get hj)
  by_cases e : j = k
  · subst e
    rw [hc] at hP
    rw [up_same]
    show H[gB γ + j]? = some (vp_cell (gW γ) (m, .inr (.inr (.inr (.inr g)))))
    rw [← cell_ext hfg]
    exact hP
  · rw [up_ne e]
    exact hP
theorem has_app {n k : Nat} {cs ds : List va_E} {h : HP} {m : Nat} (hm : k + cs.length = m) (h1 : Has n k cs h) (h2 : Has n m ds h) : Has n k (cs ++ ds) h := by
  subst hm
  refine ⟨?_, fun i c hc => ?_⟩
  · have := h2.1
    rw [List.length_append]; omega
  · by_cases hi : i < cs.length
    · rw [List.getElem?_append_left hi] at hc
      exact h1.2 i c hc
    · rw [List.getElem?_append_right (by omega)] at hc
      have := h2.2 (i - cs.length) c hc
      rw [show k + i = k + cs.length + (i - cs.length) by omega]
      exact this
theorem Has.mono {n n' k : Nat} {cs : List va_E} {h h' : HP} (hh : Has n k cs h) (hn : n ≤ n') (he : ∀ j, k ≤ j → j < k + cs.length → h' j = h j) : Has n' k cs h' := by
  refine ⟨Nat.le_trans hh.1 hn, fun i c hc => ?_⟩
  have hi : i < cs.length := (List.getElem?_eq_some_iff.mp hc).1
  rw [he _ (by omega) (by omega)]
  exact hh.2 i c hc
def w0 : WtT := (0, fun _ => 0, fillF (fun _ => 0) 5 (-9), fun _ => 0, fun _ => 0)
def M_X2_init : MI := (yX2_init, cX2_init, 2, none, true, 3, 51, 520)
theorem lkm_X2_init : LkM M_X2_init 0 := ⟨(lg_mem 55 (by decide +kernel) rfl), (lg_mem 188 (by decide +kernel) rfl), ⟨by decide, by decide, by decide +kernel⟩, (Nat.le_of_ble_eq_true rfl)⟩
theorem oi_X2 : Cond.methodLink RX2 3 Lib.objectInit ∈ lw_good := (lg_mem 189 (by decide +kernel) rfl)
theorem fl_iX2_11 : Cond.fieldLink RX2 11 (TX2 0).1 (TX2 0).2.1 (TX2 0).2.2.1 ∈ lw_good := (lg_mem 193 (by decide +kernel) rfl)
theorem cl_iX2_9 : Cond.classLink RX2 9 RX5 ∈ lw_good := (lg_mem 190 (by decide +kernel) rfl)
theorem in_w : Cond.instantiable RX5 5 ∈ lw_good := (lg_mem 153 (by decide +kernel) rfl)
theorem iz_w : Cond.initialized RX5 ∈ lw_good := (lg_mem 53 (by decide +kernel) rfl)
theorem lki_iX2_17 : LkI RX2 17 M_X5_init := ⟨(lg_mem 192 (by decide +kernel) rfl), (lg_mem 155 (by decide +kernel) rfl), rfl⟩
set_option maxHeartbeats 4000000 in
set_option maxRecDepth 100000 in
theorem past_loop {γ : GX} {h0 : HP} : ∀ (r i : Nat), i + r = 10 → ∀ (h : HP) (F : Nat → Option Nat), h 21 = .inr (2, [.ref (gB γ + 22), .int 0, .int 0]) → h 22 = WA γ 10 F → (∀ j, j < i → F j = some (gB γ + (23 + 5 * j))) → Has (23 + 5 * i) 23 (famB γ 23 (fun _ => w0) i) h → (∀ j, j < 21 → h j = h0 j) →
    Eo γ M_X2_init (1 + 5 * i, 10 + 51 * i) (23 + 5 * i) h [(0, .ref (gB γ + 21)), (1, .int (nI i))] 15 [] (fun v n' h' => v = none ∧ n' = 73 ∧ Has n' 21 (paB γ 21 0 0) h' ∧ Has n' 23 (pwB γ 23 (fun _ => w0)) h' ∧ ∀ j, j < 21 → h' j = h0 j) := by
  intro r
  induction r with
  | zero =>
    intro i hi h F c1 c2 hF hfam hfr
    have hi : i = 10 := by omega
    subst hi
    refine O_ext (g := fun j => some (gB γ + (23 + 5 * j))) c2 hF ?_
    refine O_iload_n 1 dX2_init_15 (q := 16) rfl rfl rfl ?_
    refine O_bipush (x := 10) dX2_init_16 (q := 18) rfl (by decide) ?_
    refine O_icmp_ge dX2_init_18 (t := 40) (by decide) (q := 21) rfl (fun _ => ?_) (fun c => absurd (show (10 : Int32) ≤ nI 10 by decide) c)
    refine O_vret dX2_init_40 rfl ⟨rfl, rfl, ⟨by show 21 + 2 ≤ 23 + 5 * 10; omega, fun i c hc => ?_⟩, has_up_out hfam (Or.inl (by omega)), fun j hj => by rw [up_ne (by omega)]; exact hfr j hj⟩
    match i, hc with
    | 0, hc => cases hc; rw [up_ne (by omega)]; exact c1
    | 1, hc => cases hc; exact up_same
    | i + 2, hc => cases hc
  | succ r ih =>
    intro i hi h F c1 c2 hF hfam hfr
    have hi10 : i < 10 := by omega
    refine O_iload_n 1 dX2_init_15 (q := 16) rfl rfl rfl ?_
    refine O_bipush (x := 10) dX2_init_16 (q := 18) rfl (by decide) ?_
    refine O_icmp_ge dX2_init_18 (t := 40) (by decide) (q := 21) rfl (fun c => absurd c (nI_ge (b := 10) hi10 (by omega))) (fun _ => ?_)
    refine O_aload_n 0 dX2_init_21 (q := 22) rfl rfl rfl ?_
    refine O_get 0 dX2_init_22 (q := 25) rfl ckX2 (Nat.le_of_ble_eq_true rfl) fl_iX2_11 c1 (by omega) rfl ?_
    refine O_iload_n 1 dX2_init_25 (q := 26) rfl rfl rfl ?_
    obtain ⟨h1, e1⟩ : ∃ h', up h (23 + 5 * i) (.inr (5, [.int 0, .null, .null, .null, .null])) = h' := ⟨_, rfl⟩
    refine O_new (fs := [.int 0, .null, .null, .null, .null]) dX2_init_26 (q := 29) rfl ckX5 cl_iX2_9 in_w iz_w (fun j hj => by rcases (show j = 0 ∨ j = 1 ∨ j = 2 ∨ j = 3 ∨ j = 4 by omega) with rfl | rfl | rfl | rfl | rfl <;> rfl) ⟨by show 1 + 5 * i + 1 ≤ 51; omega, by show 10 + 51 * i + 5 ≤ 520; omega⟩ e1 ?_
    refine O_dup dX2_init_29 (q := 30) rfl rfl ?_
    have o1 : h1 (23 + 5 * i) = .inr (5, [.int 0, .null, .null, .null, .null]) := by rw [← e1]; exact up_same
    refine O_callI (as := []) (a := gB γ + (23 + 5 * i)) (rest := [.ref (gB γ + (23 + 5 * i)), .int (nI i), .ref (gB γ + 22)]) dX2_init_30 (q := 33) rfl lkm_X5_init lki_iX2_17 rfl (Nat.le_of_ble_eq_true rfl) ⟨by show 1 + 5 * i + 1 + 4 ≤ 51; omega, by show 10 + 51 * i + 5 + 46 ≤ 520; omega⟩ (Nat.le_of_ble_eq_true rfl) rfl rfl (i_X5 (k := 23 + 5 * i) o1) (fun v n' h' hp => hp.2.1) ?_
    rintro v n' h2 ⟨rfl, rfl, hw, hf2⟩
    refine Eo.u (u' := (1 + 5 * (i + 1), 10 + 51 * (i + 1))) (by show (1 + 5 * i + 1 + 4, 10 + 51 * i + 5 + 46) = _; rw [show 1 + 5 * i + 1 + 4 = 1 + 5 * (i + 1) by omega, show 10 + 51 * i + 5 + 46 = 10 + 51 * (i + 1) by omega]) ?_
    have k1 : h2 21 = .inr (2, [.ref (gB γ + 22), .int 0, .int 0]) := by rw [hf2 21 (by omega), ← e1, up_ne (by omega)]; exact c1
    have k2 : h2 22 = WA γ 10 F := by rw [hf2 22 (by omega), ← e1, up_ne (by omega)]; exact c2
    obtain ⟨h3, e3⟩ : ∃ h', up h2 22 (WA γ 10 (va_up F (ci (nI i)) (some (gB γ + (23 + 5 * i))))) = h' := ⟨_, rfl⟩
    refine O_wast dX2_init_33 (q := 34) rfl k2 (by omega) (hw.at 0 rfl) (by omega) (ix_nI hi10 (by omega)) e3 ?_
    refine O_iinc (v := nI (i + 1)) 1 [(1, .int (nI (i + 1))), (0, .ref (gB γ + 21))] dX2_init_34 (q := 37) rfl rfl (nI_1 i) (Nat.le_of_ble_eq_true rfl) rfl ?_
    refine O_goto (q := 15) dX2_init_37 (by decide) ?_
    refine O_sub [1, 0] rfl ?_
    refine Eo.nn (n' := 23 + 5 * (i + 1)) (by omega) ?_
    refine ih (i + 1) (by omega) h3 (va_up F (ci (nI i)) (some (gB γ + (23 + 5 * i)))) (by rw [← e3, up_ne (by omega)]; exact k1) (by rw [← e3]; exact up_same) (fun j hj => ?_) ?_ (fun j hj => by rw [← e3, up_ne (by omega), hf2 j (by omega), ← e1, up_ne (by omega)]; exact hfr j hj)
    · rw [show ci (nI i) = i from nI_clamp (by omega)]
      by_cases e : j = i
      · subst e; exact va_up_self _ _ _
      · rw [va_up_ne _ _ e]; exact hF j (by omega)
    · refine has_app (m := 23 + 5 * i) (by rw [fam_len]) ?_ ?_
      · refine hfam.mono (by omega) (fun j j1 j2 => ?_)
        rw [fam_len] at j2
        rw [← e3, up_ne (by omega), hf2 j (by omega), ← e1, up_ne (by omega)]
      · refine Has.mono (n := 23 + 5 * i + 5) hw (by omega) (fun j j1 j2 => ?_)
        rw [← e3, up_ne (by omega)]
set_option maxHeartbeats 4000000 in
set_option maxRecDepth 100000 in
theorem i_X2 {γ : GX} {h : HP} (hc : h 21 = .inr (2, [.null, .int 0, .int 0])) : Cu γ M_X2_init 22 h [.ref (gB γ + 21)] (fun v n' h' => v = none ∧ n' = 73 ∧ Has n' 21 (paB γ 21 0 0) h' ∧ Has n' 23 (pwB γ 23 (fun _ => w0)) h' ∧ ∀ j, j < 21 → h' j = h j) := by
  refine Cu_of_Eo (by decide) (fun _ => rfl) (Nat.le_of_ble_eq_true rfl) ?_
  show Eo γ M_X2_init (0, 0) 22 h [(0, .ref (gB γ + 21))] 0 [] _
  refine O_aload_n 0 dX2_init_0 (q := 1) rfl rfl rfl ?_
  refine O_objInit dX2_init_1 (q := 4) rfl oi_X2 oi_im oi_co (Nat.le_of_ble_eq_true rfl) (Nat.le_of_ble_eq_true rfl) ?_
  refine O_aload_n 0 dX2_init_4 (q := 5) rfl rfl rfl ?_
  refine O_bipush (x := 10) dX2_init_5 (q := 7) rfl (by decide) ?_
  obtain ⟨h1, e1⟩ : ∃ h', up h 22 (WA γ 10 (fun _ => none)) = h' := ⟨_, rfl⟩
  refine O_neww (len := 10) dX2_init_7 (q := 10) rfl cl_iX2_9 (by decide) (by decide) (Nat.le_of_ble_eq_true rfl) ⟨(Nat.le_of_ble_eq_true rfl), (Nat.le_of_ble_eq_true rfl)⟩ e1 ?_
  obtain ⟨h2, e2⟩ : ∃ h', up h1 21 (.inr (2, [.ref (gB γ + 22), .int 0, .int 0])) = h' := ⟨_, rfl⟩
  have k1 : h1 21 = .inr (2, [.null, .int 0, .int 0]) := by rw [← e1, up_ne (by omega)]; exact hc
  refine O_putF 0 dX2_init_10 (q := 13) rfl ckX2 (Nat.le_of_ble_eq_true rfl) fl_iX2_11 rfl rfl rfl rfl rfl k1 (by omega) (Nat.le_of_ble_eq_true rfl) e2 ?_
  refine O_iconst (x := 0) dX2_init_13 (q := 14) rfl (by decide) ?_
  refine O_istore_n [(1, .int 0), (0, .ref (gB γ + 21))] dX2_init_14 (q := 15) rfl rfl (Nat.le_of_ble_eq_true rfl) rfl ?_
  refine O_sub [1, 0] rfl ?_
  refine past_loop 10 0 (by omega) h2 (fun _ => none) (by rw [← e2]; exact up_same) (by rw [← e2, up_ne (by omega), ← e1]; exact up_same) (fun j hj => by omega) ⟨Nat.le_refl _, fun i c hc => by cases hc⟩ (fun j hj => by rw [← e2, up_ne (by omega), ← e1, up_ne (by omega)])

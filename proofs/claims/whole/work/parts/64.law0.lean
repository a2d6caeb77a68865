/-! ===== the judgement El: as Eo, where the script lies at the cell b, of L ints xs ===== -/
abbrev BX : Type := Nat × Nat × (Nat → Int32)
def LX (γ : GX) (bx : BX) (s : State) : Prop := AO5 s ∧ va_X bx.1 bx.2.1 bx.2.2 s s.heap ∧ bx.1 < s.heap.size ∧ ¬ gB γ ≤ bx.1
def Cz (γ : GX) (bx : BX) (μ : MI) (p : Program) (R : Room) (s : State) (m : MethodId) (args : Array Value) (meth : Method) (c : Code) : Prop :=
  p.tables.exec = Jvm.exec ∧ c.code = mC μ ∧ c.maxLocals = mL μ ∧ s.vm.findClass (mY μ).cls = some m.cls ∧ (∀ w ∈ lw_good, w.before args s = true) ∧ meth.locks = false ∧ meth.sig.returnType = mR μ ∧ mD μ ≤ R.frames ∧ 40 * mD μ + 60 ≤ R.locals ∧ va_K (gD γ) vwCl (gT γ) s ∧ (mN μ = true → meth.name = "<init>") ∧ mK μ ≤ R.cells ∧ (mS μ ≤ R.slots ∧ LX γ bx s)
def El (γ : GX) (bx : BX) (μ : MI) (u : Nat × Nat) (n : Nat) (h : HP) (lv : List (Nat × Value)) (pc : Nat) (st : List Value) (Ψ : PS) : Prop :=
  ∀ (p : Program) (e : Env) (R : Room) (s : State) (m : MethodId) (args : Array Value) (below : List Frame) (meth : Method) (c : Code) (Q : State → Prop) (H : Heap) (locs : List Loc) (ls : Array Slot),
    Cz γ bx μ p R s m args meth c → Sz γ μ s u n → va_P (gD γ) vwCl (wl (gB γ) n h) H → va_S (fun q => gB γ ≤ q) s.heap H locs → lv_has ls (mL μ) lv →
    (∀ (v : Option Value) (n' : Nat) (h' : HP) (u' : Nat × Nat) (H' : Heap) (locs' : List Loc) (pc' : Nat) (ls' : Array Slot), Ψ v n' h' → Rk μ pc' v → Sz γ μ s u' n' → va_P (gD γ) vwCl (wl (gB γ) n' h') H' → va_S (fun q => gB γ ≤ q) s.heap H' locs' → W p (gL γ) e R s m args below meth c H' locs' u'.1 u'.2 Q (F0 m pc' ls' v.toList)) →
    W p (gL γ) e R s m args below meth c H locs u.1 u.2 Q (F0 m pc ls st)
section ELV
variable {bx : BX} {γ : GX} {μ : MI} {u : Nat × Nat} {n : Nat} {h : HP} {lv : List (Nat × Value)} {pc q : Nat} {st rest : List Value} {Ψ : PS}
theorem L_zret {x : Int32} (hd : decode (mC μ) pc = .ok (.ireturn, 1)) (hr : mR μ = some .boolean) (hx : x &&& 1 = x) (hp : Ψ (some (.int x)) n h) : El γ bx μ u n h lv pc [.int x] Ψ := by
  intro p e R s m args below meth c Q H locs ls C z P S L r
  exact r _ n h u H locs pc ls hp (Or.inr (Or.inl ⟨hr, hd, x, rfl, hx⟩)) z P S
theorem L_sub (ks : List Nat) {lv' : List (Nat × Value)} (hl : lv_pick lv ks = lv') (k : El γ bx μ u n h lv' pc st Ψ) : El γ bx μ u n h lv pc st Ψ := by
  intro p e R s m args below meth c Q H locs ls C z P S L r
  exact k p e R s m args below meth c Q H locs ls C z P S (lv_sub L ks hl) r
theorem L_iconst {i : Int} {x : Int32} (hd : decode (mC μ) pc = .ok (.iconst i, 1)) (hq : pc + 1 = q) (hv : Int32.ofInt i = x) (k : El γ bx μ u n h lv q (.int x :: rest) Ψ) : El γ bx μ u n h lv pc (rest) Ψ := by
  subst hq
  intro p e R s m args below meth c Q H locs ls C z P S L r
  exact lv_iconst C.1 C.2.1 hd hv (k p e R s m args below meth c Q H locs ls C z P S L r)
theorem L_bipush {i : Int} {x : Int32} (hd : decode (mC μ) pc = .ok (.bipush i, 2)) (hq : pc + 2 = q) (hv : (Int8.ofInt i).toInt32 = x) (k : El γ bx μ u n h lv q (.int x :: rest) Ψ) : El γ bx μ u n h lv pc (rest) Ψ := by
  subst hq
  intro p e R s m args below meth c Q H locs ls C z P S L r
  exact lv_bipush C.1 C.2.1 hd hv (k p e R s m args below meth c Q H locs ls C z P S L r)
theorem L_dup {v : Value} (hd : decode (mC μ) pc = .ok (.dup, 1)) (hq : pc + 1 = q) (hv : v.category = 1) (k : El γ bx μ u n h lv q (v :: v :: rest) Ψ) : El γ bx μ u n h lv pc (v :: rest) Ψ := by
  subst hq
  intro p e R s m args below meth c Q H locs ls C z P S L r
  exact lv_dup C.1 C.2.1 hd hv (k p e R s m args below meth c Q H locs ls C z P S L r)
theorem L_iload_n (j : Nat) {i : Fin 4} {i' : Nat} {x : Int32} (hd : decode (mC μ) pc = .ok (.iload_n i, 1)) (hq : pc + 1 = q) (hi : (i : Nat) = i') (hj : lv[j]? = some (i', .int x)) (k : El γ bx μ u n h lv q (.int x :: rest) Ψ) : El γ bx μ u n h lv pc rest Ψ := by
  subst hq
  intro p e R s m args below meth c Q H locs ls C z P S L r
  exact lv_iload_n C.1 C.2.1 hd hi (lv_at L j hj) (k p e R s m args below meth c Q H locs ls C z P S L r)
theorem L_aload_n (j : Nat) {i : Fin 4} {i' : Nat} {x : Nat} (hd : decode (mC μ) pc = .ok (.aload_n i, 1)) (hq : pc + 1 = q) (hi : (i : Nat) = i') (hj : lv[j]? = some (i', .ref x)) (k : El γ bx μ u n h lv q (.ref x :: rest) Ψ) : El γ bx μ u n h lv pc rest Ψ := by
  subst hq
  intro p e R s m args below meth c Q H locs ls C z P S L r
  exact lv_aload_n C.1 C.2.1 hd hi (lv_at L j hj) (k p e R s m args below meth c Q H locs ls C z P S L r)
theorem L_istore_n {i : Fin 4} {i' : Nat} {x : Int32} (lv' : List (Nat × Value)) (hd : decode (mC μ) pc = .ok (.istore_n i, 1)) (hq : pc + 1 = q) (hi : (i : Nat) = i') (hn : i' < mL μ) (hl : lvw lv i' (.int x) = lv') (k : El γ bx μ u n h lv' q rest Ψ) : El γ bx μ u n h lv pc (.int x :: rest) Ψ := by
  subst hq
  intro p e R s m args below meth c Q H locs ls C z P S L r
  exact lv_istore_n C.1 C.2.1 hd hi L hn hl (fun ls' L' => k p e R s m args below meth c Q H locs ls' C z P S L' r)
theorem L_astore_n {i : Fin 4} {i' : Nat} {x : Nat} (lv' : List (Nat × Value)) (hd : decode (mC μ) pc = .ok (.astore_n i, 1)) (hq : pc + 1 = q) (hi : (i : Nat) = i') (hn : i' < mL μ) (hl : lvw lv i' (.ref x) = lv') (k : El γ bx μ u n h lv' q rest Ψ) : El γ bx μ u n h lv pc (.ref x :: rest) Ψ := by
  subst hq
  intro p e R s m args below meth c Q H locs ls C z P S L r
  exact lv_astore_n C.1 C.2.1 hd hi L hn hl (fun ls' L' => k p e R s m args below meth c Q H locs ls' C z P S L' r)
theorem L_iinc (j : Nat) {i : Nat} {d : Int} {x v : Int32} (lv' : List (Nat × Value)) (hd : decode (mC μ) pc = .ok (.iinc i d, 3)) (hq : pc + 3 = q) (hj : lv[j]? = some (i, .int x)) (hv : x + Int32.ofInt d = v) (hn : i < mL μ) (hl : lvw lv i (.int v) = lv') (k : El γ bx μ u n h lv' q st Ψ) : El γ bx μ u n h lv pc st Ψ := by
  subst hq
  intro p e R s m args below meth c Q H locs ls C z P S L r
  exact lv_iinc C.1 C.2.1 hd L hj hv hn hl (fun ls' L' => k p e R s m args below meth c Q H locs ls' C z P S L' r)
theorem L_goto {o : Int} (hd : decode (mC μ) pc = .ok (.goto o, 3)) (ht : (pc : Int) + o = (q : Int)) (k : El γ bx μ u n h lv q st Ψ) : El γ bx μ u n h lv pc st Ψ := by
  intro p e R s m args below meth c Q H locs ls C z P S L r
  exact lv_goto C.1 C.2.1 hd ht (k p e R s m args below meth c Q H locs ls C z P S L r)
theorem L_icmp_gt {x y : Int32} {o : Int} {t : Nat} (hd : decode (mC μ) pc = .ok (.if_icmp .gt o, 3)) (ht : (pc : Int) + o = (t : Int)) (hq : pc + 3 = q) (kt : y < x → El γ bx μ u n h lv t rest Ψ) (kf : ¬ (y < x) → El γ bx μ u n h lv q rest Ψ) : El γ bx μ u n h lv pc (.int y :: .int x :: rest) Ψ := by
  subst hq
  intro p e R s m args below meth c Q H locs ls C z P S L r
  exact lv_icmp_gt C.1 C.2.1 hd ht (fun g => kt g p e R s m args below meth c Q H locs ls C z P S L r) (fun g => kf g p e R s m args below meth c Q H locs ls C z P S L r)
theorem L_icmp_eq {x y : Int32} {o : Int} {t : Nat} (hd : decode (mC μ) pc = .ok (.if_icmp .eq o, 3)) (ht : (pc : Int) + o = (t : Int)) (hq : pc + 3 = q) (kt : x = y → El γ bx μ u n h lv t rest Ψ) (kf : ¬ (x = y) → El γ bx μ u n h lv q rest Ψ) : El γ bx μ u n h lv pc (.int y :: .int x :: rest) Ψ := by
  subst hq
  intro p e R s m args below meth c Q H locs ls C z P S L r
  exact lv_icmp_eq C.1 C.2.1 hd ht (fun g => kt g p e R s m args below meth c Q H locs ls C z P S L r) (fun g => kf g p e R s m args below meth c Q H locs ls C z P S L r)
theorem L_if_eq {x : Int32} {o : Int} {t : Nat} (hd : decode (mC μ) pc = .ok (.ifCond .eq o, 3)) (ht : (pc : Int) + o = (t : Int)) (hq : pc + 3 = q) (kt : x = 0 → El γ bx μ u n h lv t rest Ψ) (kf : ¬ (x = 0) → El γ bx μ u n h lv q rest Ψ) : El γ bx μ u n h lv pc (.int x :: rest) Ψ := by
  subst hq
  intro p e R s m args below meth c Q H locs ls C z P S L r
  exact lv_if_eq C.1 C.2.1 hd ht (fun g => kt g p e R s m args below meth c Q H locs ls C z P S L r) (fun g => kf g p e R s m args below meth c Q H locs ls C z P S L r)
theorem L_lcmp {x y : Int64} (hd : decode (mC μ) pc = .ok (.lcmp, 1)) (hq : pc + 1 = q) (k : El γ bx μ u n h lv q (.int (lg_cmp x y) :: rest) Ψ) : El γ bx μ u n h lv pc (.long y :: .long x :: rest) Ψ := by
  subst hq
  intro p e R s m args below meth c Q H locs ls C z P S L r
  exact W.lcmp C.1 C.2.1 hd (k p e R s m args below meth c Q H locs ls C z P S L r)
theorem L_iadd {x y : Int32} (hd : decode (mC μ) pc = .ok (.iadd, 1)) (hq : pc + 1 = q) (k : El γ bx μ u n h lv q (.int (x + y) :: rest) Ψ) : El γ bx μ u n h lv pc (.int y :: .int x :: rest) Ψ := by
  subst hq
  intro p e R s m args below meth c Q H locs ls C z P S L r
  exact lv_iadd C.1 C.2.1 hd  (k p e R s m args below meth c Q H locs ls C z P S L r)
theorem L_isub {x y : Int32} (hd : decode (mC μ) pc = .ok (.isub, 1)) (hq : pc + 1 = q) (k : El γ bx μ u n h lv q (.int (x - y) :: rest) Ψ) : El γ bx μ u n h lv pc (.int y :: .int x :: rest) Ψ := by
  subst hq
  intro p e R s m args below meth c Q H locs ls C z P S L r
  exact lv_isub C.1 C.2.1 hd  (k p e R s m args below meth c Q H locs ls C z P S L r)
theorem L_iand {x y : Int32} (hd : decode (mC μ) pc = .ok (.iand, 1)) (hq : pc + 1 = q) (k : El γ bx μ u n h lv q (.int (x &&& y) :: rest) Ψ) : El γ bx μ u n h lv pc (.int y :: .int x :: rest) Ψ := by
  subst hq
  intro p e R s m args below meth c Q H locs ls C z P S L r
  exact lv_iand C.1 C.2.1 hd  (k p e R s m args below meth c Q H locs ls C z P S L r)
theorem L_tabIn {dflt lo hi : Int} {offs : Array Int} {len t : Nat} {x : Int32} {o : Int} (hd : decode (mC μ) pc = .ok (.tableswitch dflt lo hi offs, len)) (h1 : ¬ x.toInt < lo) (h2 : ¬ hi < x.toInt) (ho : offs[(x.toInt - lo).toNat]? = some o) (ht : (pc : Int) + o = (t : Int)) (k : El γ bx μ u n h lv t rest Ψ) : El γ bx μ u n h lv pc (.int x :: rest) Ψ := by
  intro p e R s m args below meth c Q H locs ls C z P S L r
  exact lv_tableIn C.1 C.2.1 hd h1 h2 ho ht (k p e R s m args below meth c Q H locs ls C z P S L r)
theorem L_tabOut {dflt lo hi : Int} {offs : Array Int} {len t : Nat} {x : Int32} (hd : decode (mC μ) pc = .ok (.tableswitch dflt lo hi offs, len)) (h1 : x.toInt < lo ∨ hi < x.toInt) (ht : (pc : Int) + dflt = (t : Int)) (k : El γ bx μ u n h lv t rest Ψ) : El γ bx μ u n h lv pc (.int x :: rest) Ψ := by
  intro p e R s m args below meth c Q H locs ls C z P S L r
  exact lv_tableOut C.1 C.2.1 hd h1 ht (k p e R s m args below meth c Q H locs ls C z P S L r)
theorem L_slen (hd : decode (mC μ) pc = .ok (.arraylength, 1)) (hq : pc + 1 = q) (k : El γ bx μ u n h lv q (.int (nI bx.2.1) :: rest) Ψ) : El γ bx μ u n h lv pc (.ref bx.1 :: rest) Ψ := by
  subst hq
  intro p e R s m args below meth c Q H locs ls C z P S L r
  have X := C.2.2.2.2.2.2.2.2.2.2.2.2.2.2
  exact va_slen C.1 C.2.1 X.1 X.2.1 X.2.2 S hd (k p e R s m args below meth c Q H locs ls C z P S L r)
theorem L_sld {i : Int32} (hin : vp_in i bx.2.1) (hd : decode (mC μ) pc = .ok (.iaload, 1)) (hq : pc + 1 = q) (k : El γ bx μ u n h lv q (.int (bx.2.2 i.toNatClampNeg) :: rest) Ψ) : El γ bx μ u n h lv pc (.int i :: .ref bx.1 :: rest) Ψ := by
  subst hq
  intro p e R s m args below meth c Q H locs ls C z P S L r
  have X := C.2.2.2.2.2.2.2.2.2.2.2.2.2.2
  exact va_sld C.1 C.2.1 X.1 X.2.1 X.2.2 S hin hd (k p e R s m args below meth c Q H locs ls C z P S L r)
end ELV
section ELH
variable {bx : BX} {γ : GX} {μ : MI} {u : Nat × Nat} {n : Nat} {h h' : HP} {lv : List (Nat × Value)} {pc q : Nat} {st rest : List Value} {Ψ : PS}
theorem L_new {c0 idx : Nat} {C : String} {T : u_T} {N : Nat} {ty : Nat → FieldType} {fs : List Value} (hd : decode (mC μ) pc = .ok (.new idx, 3)) (hq : pc + 3 = q) (ck : CKx c0 C T N ty) (hl : Cond.classLink (mY μ).cls idx C ∈ lw_good) (hi : Cond.instantiable C N ∈ lw_good) (hini : Cond.initialized C ∈ lw_good) (hfs : ∀ j, j < N → defaultValue (ty j) = vp_V fs j) (hu : u.1 + 1 ≤ mK μ ∧ u.2 + N ≤ mS μ) (hh : up h n (.inr (c0, fs)) = h') (kk : El γ bx μ (u.1 + 1, u.2 + N) (n + 1) h' lv q (.ref (gB γ + n) :: rest) Ψ) : El γ bx μ u n h lv pc rest Ψ := by
  subst hq
  intro p e R s m args below meth c Q H locs ls C0 z P S L r
  have hK := C0.2.2.2.2.2.2.2.2.2.1
  refine va_new C0.1 C0.2.1 C0.2.2.2.2.1 ck.2.1 ty ck.2.2.1 C0.2.2.2.1 (C0.2.2.2.2.1 _ hl) (C0.2.2.2.2.1 _ hi) (C0.2.2.2.2.1 _ hini) hK P (wl_D _ _ _) S (fun q hq => Nat.le_trans z.2.1 hq) ck.1 hfs (Nat.le_trans hu.1 C0.2.2.2.2.2.2.2.2.2.2.2.1) (Nat.le_trans hu.2 C0.2.2.2.2.2.2.2.2.2.2.2.2.1) hd (fun q0 H1 P1 D1 S1 => ?_)
  refine W_size fun hsz => ?_
  have hz1 := z.1
  have hq0 : q0 = gB γ + n := new_at P1 D1 (by omega)
  subst hq0
  rw [wl_push, hh] at P1
  refine kk p e R s m args below meth c Q H1 locs ls C0 ⟨?_, z.2.1, hu.1, hu.2⟩ P1 S1 L r
  show s.heap.size + (u.1 + 1) = gB γ + (n + 1)
  omega
end ELH
section ELC
variable {bx : BX} {γ : GX} {μ μ' : MI} {u : Nat × Nat} {n : Nat} {h h' : HP} {lv : List (Nat × Value)} {pc q : Nat} {st rest as : List Value} {Ψ Φ : PS}
theorem L_callV {k idx c0 np : Nat} {fs : List Value} {T : u_T} {N : Nat} {ty : Nat → FieldType} (hd : decode (mC μ) pc = .ok (.invokevirtual idx, 3)) (hq : pc + 3 = q) (hm : LkM μ' np) (hl : LkV (mY μ).cls idx μ') (hdp : mD μ' + 1 ≤ mD μ) (ck : CKx c0 (mY μ').cls T N ty) (hcell : h k = .inr (c0, fs)) (hk : k < n) (hu : u.1 + mK μ' ≤ mK μ ∧ u.2 + mS μ' ≤ mS μ) (hr : (rest.map fun v => v.category).sum ≤ 8) (hst : st = as.reverse ++ .ref (gB γ + k) :: rest) (hnp : as.length = np)
    (hc : Ct γ μ' n h (.ref (gB γ + k) :: as) Φ) (hn : ∀ v n' h', Φ v n' h' → n' = n + mK μ') (kk : ∀ v n' h', Φ v n' h' → El γ bx μ (u.1 + mK μ', u.2 + mS μ') n' h' lv q (v.toList ++ rest) Ψ) : El γ bx μ u n h lv pc st Ψ := by
  subst hq
  intro p e R s m args below meth c Q H locs ls C z P S L r
  have hK := C.2.2.2.2.2.2.2.2.2.1
  refine W_size fun hsz => ?_
  have hsz := sz_eq P S z hsz
  have hfr := C.2.2.2.2.2.2.2.1
  have hlo := C.2.2.2.2.2.2.2.2.1
  have hmL := hm.2.2.2
  have hw := C.2.2.2.2.1
  refine ev_back (mc := mK μ') (ms := mS μ') (va_runV ⟨C.1, C.2.1, C.2.2.1, C.2.2.2.1, hw⟩ hc (n := np) (C := (mY μ').cls) ⟨callB_of np hw (lg_code hm) rfl rfl rfl (hw _ hm.1) (hw _ hl.1) hm.2.2.1 ⟨by show mD μ' + 1 ≤ R.frames; omega, by show 8 + (mL μ' + 11) + (40 * mD μ' + 60) ≤ R.locals; omega⟩, hw _ hl.2.1, hw _ hl.2.2⟩ ⟨ct_blind, va_recv hK P ck.1 (by rw [wl_get hk, hcell]), fun U hU hW => ⟨rfl, by rw [hU]; exact hsz, by rw [hU]; exact P, va_K.moved hW.alike hK⟩⟩ rfl hnp L.1 hst (lv_room hr) hd ⟨Nat.le_trans hu.1 C.2.2.2.2.2.2.2.2.2.2.2.1, Nat.le_trans hu.2 C.2.2.2.2.2.2.2.2.2.2.2.2.1⟩) S ?_
  intro v n' h' H' locs' hp P' S'
  have hz := z.1
  have hn' := hn v n' h' hp
  exact kk v n' h' hp p e R s m args below meth c Q H' locs' ls C ⟨by show s.heap.size + (u.1 + mK μ') = _; omega, z.2.1, hu.1, hu.2⟩ P' S' L r
theorem L_cV {k idx c0 np : Nat} {fs : List Value} {T : u_T} {N n1 : Nat} {ty : Nat → FieldType} {v : Option Value} {u' : Nat × Nat} {st' : List Value} (hd : decode (mC μ) pc = .ok (.invokevirtual idx, 3)) (hq : pc + 3 = q) (hm : LkM μ' np) (hl : LkV (mY μ).cls idx μ') (hdp : mD μ' + 1 ≤ mD μ) (ck : CKx c0 (mY μ').cls T N ty) (hcell : h k = .inr (c0, fs)) (hk : k < n) (hu : u.1 + mK μ' ≤ mK μ ∧ u.2 + mS μ' ≤ mS μ) (hr : (rest.map fun v => v.category).sum ≤ 8) (hst : st = as.reverse ++ .ref (gB γ + k) :: rest) (hnp : as.length = np)
    (hc : Ct γ μ' n h (.ref (gB γ + k) :: as) (Done v n1 h')) (hn : n1 = n + mK μ') (hu' : (u.1 + mK μ', u.2 + mS μ') = u') (hs' : v.toList ++ rest = st') (kk : El γ bx μ u' n1 h' lv q st' Ψ) : El γ bx μ u n h lv pc st Ψ := by
  subst hu'; subst hs'
  refine L_callV hd hq hm hl hdp ck hcell hk hu hr hst hnp hc (fun v n' h' hp => hp.2.1.trans hn) (fun v' n' h' hp => ?_)
  obtain ⟨rfl, rfl, rfl⟩ := hp
  exact kk
theorem L_callI {a idx np : Nat} (hd : decode (mC μ) pc = .ok (.invokespecial idx, 3)) (hq : pc + 3 = q) (hm : LkM μ' np) (hl : LkI (mY μ).cls idx μ') (hrt : mR μ' = none) (hdp : mD μ' + 1 ≤ mD μ) (hu : u.1 + mK μ' ≤ mK μ ∧ u.2 + mS μ' ≤ mS μ) (hr : (rest.map fun v => v.category).sum ≤ 8) (hst : st = as.reverse ++ .ref a :: rest) (hnp : as.length = np)
    (hc : Ct γ μ' n h (.ref a :: as) Φ) (hn : ∀ v n' h', Φ v n' h' → n' = n + mK μ') (kk : ∀ v n' h', Φ v n' h' → El γ bx μ (u.1 + mK μ', u.2 + mS μ') n' h' lv q (v.toList ++ rest) Ψ) : El γ bx μ u n h lv pc st Ψ := by
  subst hq
  intro p e R s m args below meth c Q H locs ls C z P S L r
  have hK := C.2.2.2.2.2.2.2.2.2.1
  refine W_size fun hsz => ?_
  have hsz := sz_eq P S z hsz
  have hfr := C.2.2.2.2.2.2.2.1
  have hlo := C.2.2.2.2.2.2.2.2.1
  have hmL := hm.2.2.2
  have hw := C.2.2.2.2.1
  refine ev_back (mc := mK μ') (ms := mS μ') (va_runI (bytes := mC μ') (maxL := mL μ') ⟨C.1, C.2.1, C.2.2.1, C.2.2.2.1, hw⟩ hc (n := np) ⟨callB_of np hw (lg_code hm) (by rw [hrt]) rfl rfl (hw _ hm.1) (hw _ hl.1) hm.2.2.1 ⟨by show mD μ' + 1 ≤ R.frames; omega, by show 8 + (mL μ' + 11) + (40 * mD μ' + 60) ≤ R.locals; omega⟩, hl.2.2, hw _ hl.2.1⟩ ⟨ct_blind, fun U hU hW => ⟨rfl, by rw [hU]; exact hsz, by rw [hU]; exact P, va_K.moved hW.alike hK⟩⟩ rfl hnp L.1 hst (lv_room hr) hd ⟨Nat.le_trans hu.1 C.2.2.2.2.2.2.2.2.2.2.2.1, Nat.le_trans hu.2 C.2.2.2.2.2.2.2.2.2.2.2.2.1⟩) S ?_
  intro v n' h' H' locs' hp P' S'
  have hz := z.1
  have hn' := hn v n' h' hp
  exact kk v n' h' hp p e R s m args below meth c Q H' locs' ls C ⟨by show s.heap.size + (u.1 + mK μ') = _; omega, z.2.1, hu.1, hu.2⟩ P' S' L r
theorem L_callU {a idx np : Nat} (hd : decode (mC μ) pc = .ok (.invokespecial idx, 3)) (hq : pc + 3 = q) (hm : LkM μ' np) (hl : LkI (mY μ).cls idx μ') (hrt : mR μ' = none) (hdp : mD μ' + 1 ≤ mD μ) (hu : u.1 + mK μ' ≤ mK μ ∧ u.2 + mS μ' ≤ mS μ) (hr : (rest.map fun v => v.category).sum ≤ 8) (hst : st = as.reverse ++ .ref a :: rest) (hnp : as.length = np)
    (hc : Cu γ μ' n h (.ref a :: as) Φ) (hn : ∀ v n' h', Φ v n' h' → n' = n + mK μ') (kk : ∀ v n' h', Φ v n' h' → El γ bx μ (u.1 + mK μ', u.2 + mS μ') n' h' lv q (v.toList ++ rest) Ψ) : El γ bx μ u n h lv pc st Ψ := by
  subst hq
  intro p e R s m args below meth c Q H locs ls C z P S L r
  have hK := C.2.2.2.2.2.2.2.2.2.1
  refine W_size fun hsz => ?_
  have hsz := sz_eq P S z hsz
  have hfr := C.2.2.2.2.2.2.2.1
  have hlo := C.2.2.2.2.2.2.2.2.1
  have hmL := hm.2.2.2
  have hw := C.2.2.2.2.1
  refine ev_back (mc := mK μ') (ms := mS μ') (va_runI (bytes := mC μ') (maxL := mL μ') ⟨C.1, C.2.1, C.2.2.1, C.2.2.2.1, hw⟩ hc (n := np) ⟨callB_of np hw (lg_code hm) (by rw [hrt]) rfl rfl (hw _ hm.1) (hw _ hl.1) hm.2.2.1 ⟨by show mD μ' + 1 ≤ R.frames; omega, by show 8 + (mL μ' + 11) + (40 * mD μ' + 60) ≤ R.locals; omega⟩, hl.2.2, hw _ hl.2.1⟩ ⟨cu_blind, fun U hU hW => ⟨rfl, by rw [hU]; exact hsz, by rw [hU]; exact P, va_K.moved hW.alike hK, AO5.warm hW C.2.2.2.2.2.2.2.2.2.2.2.2.2.1⟩⟩ rfl hnp L.1 hst (lv_room hr) hd ⟨Nat.le_trans hu.1 C.2.2.2.2.2.2.2.2.2.2.2.1, Nat.le_trans hu.2 C.2.2.2.2.2.2.2.2.2.2.2.2.1⟩) S ?_
  intro v n' h' H' locs' hp P' S'
  have hz := z.1
  have hn' := hn v n' h' hp
  exact kk v n' h' hp p e R s m args below meth c Q H' locs' ls C ⟨by show s.heap.size + (u.1 + mK μ') = _; omega, z.2.1, hu.1, hu.2⟩ P' S' L r
end ELC
theorem el_u {γ : GX} {bx : BX} {μ : MI} {u u' : Nat × Nat} {n : Nat} {h : HP} {lv : List (Nat × Value)} {pc : Nat} {st : List Value} {Ψ : PS} (e : u = u') (k : El γ bx μ u' n h lv pc st Ψ) : El γ bx μ u n h lv pc st Ψ := by rw [e]; exact k
theorem has_keep {n n' k : Nat} {cs : List va_E} {h h' : HP} (H : Has n k cs h) (hn : n ≤ n') (fr : ∀ j, j < n → h' j = h j) : Has n' k cs h' := H.mono hn (fun j _ hj => fr j (Nat.lt_of_lt_of_le hj H.1))
theorem ws0 : WS 0 0 0 (fun _ => 0) (fillF (fun _ => 0) 5 (-9)) (fun _ => 0) (fun _ => 0) (fun _ => 0) := by
  refine ⟨0, fun _ => 0, fun _ => 0, fun _ => none, fun _ => 0, fun _ => 0, ⟨rfl, fun m hm => absurd hm (by omega), fun p hp => ?_, fun p hp => rfl, fun m hm => absurd hm (by omega)⟩, ⟨rfl, fun m hm => absurd hm (by omega), fun m hm => absurd hm (by omega), fun p hp => rfl, fun m hm => absurd hm (by omega)⟩, ⟨by omega, by omega, by omega, fun m hm => absurd hm (by omega), fun m hm => absurd hm (by omega), fun p hp m => ⟨fun q => (by cases q), fun q => absurd q.1 (by omega)⟩, fun p hp => Nat.zero_le _, fun m hm => absurd hm (by omega)⟩, by omega⟩
  rw [fillF, if_pos hp]
  rfl
theorem inv0 {γ : GX} {h h' : HP} (c : CWI γ h) (hm : Has 109 93 (mdB γ 93 0 0 (fun _ => 0) 0 0 0 0 0 0 (upd (upd (fun _ => 0) (ci 2) 2) (ci 3) 3) (fun _ => 0) (fun _ => 0) (fun _ => 0) 0 (fun _ => 0) (fun _ => 0) (fun _ => 0) (fun _ => 0) (fun _ => 0) 0 (fun _ => 0) (fun _ => 0) (fun _ => 0) 0 (fun _ => 0) (fun _ => 0)) h') (fr : ∀ j, j < 93 → h' j = h j) : INV γ h' := by
  obtain ⟨h0, h1, h3, h7, h11, h16, h21, h23, h73, h74, h75, h79, h83⟩ := c
  exact ⟨0, (_, _, _, _, _, _, _, _), (_, _, _, _, _, _, _), (_, _, _, _, _, _, _), (_, _, _, _, _), (_, _, _, _, _), (_, _), _, _, (_, _, _, _), (_, _, _, _), _, (_, _, _, _, _, _, _, _, _, _, _, _, _, _, _, _, _, _, _, _, _, _, _, _, _), 0, 0, 2, 3, fun _ => 0, has_keep h0 (by omega) fr, has_keep h1 (by omega) fr, has_keep h3 (by omega) fr, has_keep h7 (by omega) fr, has_keep h11 (by omega) fr, has_keep h16 (by omega) fr, has_keep h21 (by omega) fr, has_keep h23 (by omega) fr, has_keep h73 (by omega) fr, has_keep h74 (by omega) fr, has_keep h75 (by omega) fr, has_keep h79 (by omega) fr, has_keep h83 (by omega) fr, hm,
    ⟨0, by omega, rfl, rfl, fun j hj => absurd hj (by omega)⟩, ⟨⟨rfl, rfl, rfl, rfl⟩, ⟨rfl, rfl, rfl, rfl⟩, ⟨by omega, by omega, by omega, by omega⟩, fun p hp => absurd hp (by omega), fun p hp => absurd hp (by omega)⟩, ws0, ⟨0, 0, rfl, by omega, rfl, by omega, rfl, fun i hi => absurd hi (by omega)⟩, fun i hi => Or.inl ⟨rfl, rfl⟩, ⟨0, by omega, rfl, rfl, fun j hj => absurd hj (by omega)⟩⟩
theorem inv_x {γ : GX} {h : HP} (I : INV γ h) : ∃ fs, h 0 = .inr (6, fs) := by
  obtain ⟨tr, bt, bd, bg, bw, ba, bp, bP, bkp, bf, bl, bI, bm, P, M, ON, ST, CO, H_x, -⟩ := I
  exact ⟨_, H_x.at 0 rfl⟩
theorem and31 (x : Int32) : ∃ k, k < 32 ∧ x &&& 31 = nI k := by
  refine ⟨(x &&& 31).toBitVec.toNat, ?_, ?_⟩
  · have e1 : (x &&& 31).toBitVec = x.toBitVec &&& 31#32 := rfl
    rw [e1, BitVec.toNat_and]
    have e2 := Nat.and_le_right (n := x.toBitVec.toNat) (m := (31#32).toNat)
    have e : (31#32).toNat = 31 := rfl
    omega
  · apply Int32.toBitVec_inj.mp
    show _ = BitVec.ofNat 32 _
    simp
theorem lt_four : ∀ L, L < 4 → ∀ i, i < 4 → nI L - 4 < nI i := by decide
theorem law_more {i L : Nat} (hi : i ≤ L) (hL : L ≤ 2048) (c : ¬ nI L - 4 < nI i) : i + 4 ≤ L := by
  rcases Nat.lt_or_ge L 4 with q | q
  · exact absurd (lt_four L q i (by omega)) c
  · obtain ⟨k, rfl⟩ : ∃ k, L = k + 4 := ⟨L - 4, by omega⟩
    have e : nI (k + 4) - 4 = nI k := by
      rw [← nI_add]
      show nI k + 4 - 4 = nI k
      exact Int32.add_sub_cancel _ _
    rw [e, nI_ltI (by omega) (by omega)] at c
    omega
theorem vin {i L k : Nat} (hi : i + 4 ≤ L) (hL : L ≤ 2048) (hk : k < 4) : vp_in (nI i + nI k) L := by
  rw [nI_add]
  exact vp_in_nI (by omega) (by omega)

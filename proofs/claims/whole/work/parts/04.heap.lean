/-! ===== the heap: blocks of cells; fields, arrays, new cells ===== -/
def put (k : Nat) (cs : List va_E) (h : HP) : HP := fun j => if j < k then h j else (cs[j - k]?).getD (h j)
def Has (n k : Nat) (cs : List va_E) (h : HP) : Prop := k + cs.length ≤ n ∧ ∀ (i : Nat) (c : va_E), cs[i]? = some c → h (k + i) = c
theorem put_at {k i : Nat} {cs : List va_E} {h : HP} {c : va_E} (hc : cs[i]? = some c) : put k cs h (k + i) = c := by
  have : ¬ k + i < k := by omega
  simp [put, this, hc]
theorem put_out {k j : Nat} {cs : List va_E} {h : HP} (hj : j < k ∨ k + cs.length ≤ j) : put k cs h j = h j := by
  by_cases h1 : j < k
  · simp [put, h1]
  · have : cs[j - k]? = none := List.getElem?_eq_none (by omega)
    simp [put, h1, this]
theorem up_same {h : HP} {k : Nat} {e : va_E} : up h k e k = e := by simp [up]
theorem up_ne {h : HP} {k j : Nat} {e : va_E} (hj : ¬ j = k) : up h k e j = h j := by simp [up, hj]
theorem up_put {k i : Nat} {cs cs' : List va_E} {h : HP} {c : va_E} (hi : i < cs.length) (e : cs.set i c = cs') : up (put k cs h) (k + i) c = put k cs' h := by
  subst e
  funext j
  by_cases hj : j = k + i
  · subst hj
    rw [up_same, put_at (List.getElem?_set_self hi)]
  · rw [up_ne hj]
    by_cases h1 : j < k
    · rw [put_out (Or.inl h1), put_out (Or.inl h1)]
    · have : i ≠ j - k := by omega
      simp [put, h1, List.getElem?_set_ne this]
theorem up_put_out {k j : Nat} {cs : List va_E} {h : HP} {c : va_E} (hj : j < k ∨ k + cs.length ≤ j) : up (put k cs h) j c = put k cs (up h j c) := by
  funext x
  by_cases hx : x = j
  · subst hx
    rw [up_same, put_out hj, up_same]
  · rw [up_ne hx]
    by_cases h1 : x < k
    · rw [put_out (Or.inl h1), put_out (Or.inl h1), up_ne hx]
    · simp [put, h1, up_ne hx]
theorem put_put {k : Nat} {cs cs' : List va_E} {h : HP} (hl : cs.length = cs'.length) : put k cs' (put k cs h) = put k cs' h := by
  funext j
  by_cases h1 : j < k
  · simp [put, h1]
  · by_cases h2 : k + cs'.length ≤ j
    · rw [put_out (Or.inr h2), put_out (Or.inr h2), put_out (Or.inr (by omega))]
    · have : j - k < cs'.length := by omega
      simp [put, h1, this]
theorem put_comm {k k' : Nat} {cs cs' : List va_E} {h : HP} (hd : k + cs.length ≤ k' ∨ k' + cs'.length ≤ k) : put k cs (put k' cs' h) = put k' cs' (put k cs h) := by
  funext j
  by_cases h1 : j < k ∨ k + cs.length ≤ j
  · rw [put_out h1]
    by_cases h2 : j < k' ∨ k' + cs'.length ≤ j
    · rw [put_out h2, put_out h2, put_out h1]
    · have g1 : ¬ j < k' := by omega
      have : j - k' < cs'.length := by omega
      simp [put, g1, this]
  · have h2 : j < k' ∨ k' + cs'.length ≤ j := by omega
    rw [put_out h2]
    have g1 : ¬ j < k := by omega
    have : j - k < cs.length := by omega
    simp [put, g1, this]
theorem put_self {n k : Nat} {cs : List va_E} {h : HP} (hh : Has n k cs h) : put k cs h = h := by
  funext j
  by_cases h1 : j < k ∨ k + cs.length ≤ j
  · exact put_out h1
  · obtain ⟨i, rfl⟩ : ∃ i, j = k + i := ⟨j - k, by omega⟩
    have hi : i < cs.length := by omega
    rw [put_at (List.getElem?_eq_getElem hi), hh.2 i _ (List.getElem?_eq_getElem hi)]
theorem has_put {n k : Nat} {cs : List va_E} {h : HP} (hn : k + cs.length ≤ n) : Has n k cs (put k cs h) := ⟨hn, fun _ _ hc => put_at hc⟩
theorem has_out {n k k' : Nat} {cs cs' : List va_E} {h : HP} (hh : Has n k cs h) (hd : k + cs.length ≤ k' ∨ k' + cs'.length ≤ k) : Has n k cs (put k' cs' h) := by
  refine ⟨hh.1, fun i c hc => ?_⟩
  have hi : i < cs.length := (List.getElem?_eq_some_iff.mp hc).1
  rw [put_out (by omega)]
  exact hh.2 i c hc
theorem has_up_out {n k j : Nat} {cs : List va_E} {h : HP} {e : va_E} (hh : Has n k cs h) (hd : j < k ∨ k + cs.length ≤ j) : Has n k cs (up h j e) := by
  refine ⟨hh.1, fun i c hc => ?_⟩
  have hi : i < cs.length := (List.getElem?_eq_some_iff.mp hc).1
  rw [up_ne (by omega)]
  exact hh.2 i c hc
theorem Has.at {n k : Nat} {cs : List va_E} {h : HP} (hh : Has n k cs h) (i : Nat) {c : va_E} (hc : cs[i]? = some c) : h (k + i) = c := hh.2 i c hc
theorem Has.lt {n k : Nat} {cs : List va_E} {h : HP} (hh : Has n k cs h) (i : Nat) (hi : i < cs.length) : k + i < n := by have := hh.1; omega
abbrev IA (γ : GX) (n : Nat) (f : FN) : va_E := .inl (gI γ, n, .inl f)
abbrev ZA (γ : GX) (n : Nat) (f : FN) : va_E := .inl (gZ γ, n, .inl f)
abbrev WA (γ : GX) (n : Nat) (f : Nat → Option Nat) : va_E := .inl (gW γ, n, .inr (.inr (.inr (.inr f))))
abbrev ci (i : Int32) : Nat := i.toNatClampNeg
def ix (i : Int32) (n : Nat) : Bool := decide (¬ i < 0) && decide (i.toNatClampNeg < n)
theorem ix_in {i : Int32} {n : Nat} (hi : ix i n = true) : vp_in i n := by
  simp only [ix, Bool.and_eq_true, decide_eq_true_eq] at hi
  intro h
  rcases h with h | h
  · exact hi.1 h
  · omega
def CKx (ci : Nat) (C : String) (T : u_T) (N : Nat) (ty : Nat → FieldType) : Prop := vwCl[ci]? = some (C, T, N) ∧ (∀ w ∈ u_ws C T N, w ∈ lw_good) ∧ (∀ k, k < N → parseFieldDescriptor (T k).2.2.1 = some (ty k)) ∧ (∀ a, a < N → ∀ b, b < N → a ≠ b → (T a).2.1 ≠ (T b).2.1)
section EH
variable {γ : GX} {μ : MI} {u : Nat × Nat} {n : Nat} {h h' : HP} {lv : List (Nat × Value)} {pc q : Nat} {st rest : List Value} {Ψ : PS}
theorem E_get {c0 : Nat} {C : String} {T : u_T} {N : Nat} {ty : Nat → FieldType} {fs : List Value} {v : Value} {a idx : Nat} (k : Nat) (hd : decode (mC μ) pc = .ok (.getfield idx, 3)) (hq : pc + 3 = q) (ck : CKx c0 C T N ty) (hk : k < N) (hl : Cond.fieldLink (mY μ).cls idx (T k).1 (T k).2.1 (T k).2.2.1 ∈ lw_good)
    (hc : h a = .inr (c0, fs)) (ha : a < n) (hv : fs[k]? = some v) (kk : Ev γ μ u n h lv q (v :: rest) Ψ) : Ev γ μ u n h lv pc (.ref (gB γ + a) :: rest) Ψ := by
  subst hq
  intro p e R s m args below meth c Q H locs ls C0 z P S L r
  exact va_get C0.1 C0.2.1 C0.2.2.2.2.1 ck.2.1 C0.2.2.2.1 C0.2.2.2.2.2.2.2.2.2.1 P a (by rw [wl_get ha, hc]) ck.1 k hk (C0.2.2.2.2.1 _ hl) (fun x hx => hx) hv hd (kk p e R s m args below meth c Q H locs ls C0 z P S L r)
theorem E_put {c0 : Nat} {C : String} {T : u_T} {N : Nat} {ty : Nat → FieldType} {fs : List Value} {v : Value} {a idx : Nat} (k : Nat) (hd : decode (mC μ) pc = .ok (.putfield idx, 3)) (hq : pc + 3 = q) (ck : CKx c0 C T N ty) (hk : k < N) (hl : Cond.fieldLink (mY μ).cls idx (T k).1 (T k).2.1 (T k).2.2.1 ∈ lw_good) (hfin : (T k).2.2.2 = false) (hn : narrow (ty k) v = v) (hft : fits (ty k) v = true)
    (hc : h a = .inr (c0, fs)) (ha : a < n) (hv : k < fs.length) (hh : up h a (.inr (c0, fs.set k v)) = h') (kk : Ev γ μ u n h' lv q rest Ψ) : Ev γ μ u n h lv pc (v :: .ref (gB γ + a) :: rest) Ψ := by
  subst hq
  intro p e R s m args below meth c Q H locs ls C0 z P S L r
  refine va_put C0.1 C0.2.1 C0.2.2.2.2.1 ck.2.1 ty ck.2.2.1 ck.2.2.2 C0.2.2.2.1 C0.2.2.2.2.2.2.2.2.2.1 P (wl_D _ _ _) S a (by rw [wl_get ha, hc]) ck.1 k hk (C0.2.2.2.2.1 _ hl) (fun x hx => hx) hfin (ck.2.2.1 k hk) hn hft hv hd (fun H1 locs1 P1 _ S1 => ?_)
  rw [wl_set ha, hh] at P1
  exact kk p e R s m args below meth c Q H1 locs1 ls C0 z P1 S1 L r
theorem E_putF {c0 : Nat} {C : String} {T : u_T} {N : Nat} {ty : Nat → FieldType} {fs : List Value} {v : Value} {a idx : Nat} (k : Nat) (hd : decode (mC μ) pc = .ok (.putfield idx, 3)) (hq : pc + 3 = q) (ck : CKx c0 C T N ty) (hk : k < N) (hl : Cond.fieldLink (mY μ).cls idx (T k).1 (T k).2.1 (T k).2.2.1 ∈ lw_good) (hfin : (T k).2.2.2 = true) (hini : mN μ = true) (hdecl : (T k).1 = (mY μ).cls) (hn : narrow (ty k) v = v) (hft : fits (ty k) v = true)
    (hc : h a = .inr (c0, fs)) (ha : a < n) (hv : k < fs.length) (hh : up h a (.inr (c0, fs.set k v)) = h') (kk : Ev γ μ u n h' lv q rest Ψ) : Ev γ μ u n h lv pc (v :: .ref (gB γ + a) :: rest) Ψ := by
  subst hq
  intro p e R s m args below meth c Q H locs ls C0 z P S L r
  refine va_putF C0.1 C0.2.1 C0.2.2.2.2.1 ck.2.1 ty ck.2.2.1 ck.2.2.2 C0.2.2.2.1 C0.2.2.2.2.2.2.2.2.2.1 P (wl_D _ _ _) S a (by rw [wl_get ha, hc]) ck.1 k hk (C0.2.2.2.2.1 _ hl) (fun x hx => hx) hfin (C0.2.2.2.2.2.2.2.2.2.2.1 hini) hdecl (ck.2.2.1 k hk) hn hft hv hd (fun H1 locs1 P1 _ S1 => ?_)
  rw [wl_set ha, hh] at P1
  exact kk p e R s m args below meth c Q H1 locs1 ls C0 z P1 S1 L r
theorem E_iald {f : FN} {i : Int32} {a len : Nat} (hd : decode (mC μ) pc = .ok (.iaload, 1)) (hq : pc + 1 = q) (hc : h a = IA γ len f) (ha : a < n) (hi : ix i len = true) (kk : Ev γ μ u n h lv q (.int (f (ci i)) :: rest) Ψ) : Ev γ μ u n h lv pc (.int i :: .ref (gB γ + a) :: rest) Ψ := by
  subst hq
  intro p e R s m args below meth c Q H locs ls C0 z P S L r
  exact va_iald C0.1 C0.2.1 C0.2.2.2.2.2.2.2.2.2.1 P a 0 (by rw [wl_get ha, hc]) rfl (ix_in hi) hd (kk p e R s m args below meth c Q H locs ls C0 z P S L r)
theorem E_zald {f : FN} {i : Int32} {a len : Nat} (hd : decode (mC μ) pc = .ok (.baload, 1)) (hq : pc + 1 = q) (hc : h a = ZA γ len f) (ha : a < n) (hi : ix i len = true) (kk : Ev γ μ u n h lv q (.int (f (ci i)) :: rest) Ψ) : Ev γ μ u n h lv pc (.int i :: .ref (gB γ + a) :: rest) Ψ := by
  subst hq
  intro p e R s m args below meth c Q H locs ls C0 z P S L r
  exact va_zald C0.1 C0.2.1 C0.2.2.2.2.2.2.2.2.2.1 P a 1 (by rw [wl_get ha, hc]) rfl (ix_in hi) hd (kk p e R s m args below meth c Q H locs ls C0 z P S L r)
theorem E_wald {f : Nat → Option Nat} {i : Int32} {a len : Nat} {v : Value} (hd : decode (mC μ) pc = .ok (.aaload, 1)) (hq : pc + 1 = q) (hc : h a = WA γ len f) (ha : a < n) (hi : ix i len = true) (hv : va_rf (f (ci i)) = v) (kk : Ev γ μ u n h lv q (v :: rest) Ψ) : Ev γ μ u n h lv pc (.int i :: .ref (gB γ + a) :: rest) Ψ := by
  subst hq
  subst hv
  intro p e R s m args below meth c Q H locs ls C0 z P S L r
  exact va_aldq C0.1 C0.2.1 C0.2.2.2.2.2.2.2.2.2.1 P a 2 (by rw [wl_get ha, hc]) rfl (ix_in hi) hd (kk p e R s m args below meth c Q H locs ls C0 z P S L r)
theorem E_iast {f : FN} {i x : Int32} {a len : Nat} (hd : decode (mC μ) pc = .ok (.iastore, 1)) (hq : pc + 1 = q) (hc : h a = IA γ len f) (ha : a < n) (hi : ix i len = true) (hh : up h a (IA γ len (upd f (ci i) x)) = h') (kk : Ev γ μ u n h' lv q rest Ψ) : Ev γ μ u n h lv pc (.int x :: .int i :: .ref (gB γ + a) :: rest) Ψ := by
  subst hq
  intro p e R s m args below meth c Q H locs ls C0 z P S L r
  refine va_iast C0.1 C0.2.1 C0.2.2.2.2.2.2.2.2.2.1 P (wl_D _ _ _) S a 0 (by rw [wl_get ha, hc]) rfl (ix_in hi) hd (fun H1 locs1 P1 _ S1 => ?_)
  rw [wl_set ha, hh] at P1
  exact kk p e R s m args below meth c Q H1 locs1 ls C0 z P1 S1 L r
theorem E_zast {f : FN} {i x : Int32} {a len : Nat} (hd : decode (mC μ) pc = .ok (.bastore, 1)) (hq : pc + 1 = q) (hc : h a = ZA γ len f) (ha : a < n) (hi : ix i len = true) (hx : x &&& 1 = x) (hh : up h a (ZA γ len (upd f (ci i) x)) = h') (kk : Ev γ μ u n h' lv q rest Ψ) : Ev γ μ u n h lv pc (.int x :: .int i :: .ref (gB γ + a) :: rest) Ψ := by
  subst hq
  intro p e R s m args below meth c Q H locs ls C0 z P S L r
  refine va_zast C0.1 C0.2.1 C0.2.2.2.2.2.2.2.2.2.1 P (wl_D _ _ _) S a 1 (by rw [wl_get ha, hc]) rfl (ix_in hi) hd (fun H1 locs1 P1 _ S1 => ?_)
  rw [show vp_nar .boolean x = x from hx, wl_set ha, hh] at P1
  exact kk p e R s m args below meth c Q H1 locs1 ls C0 z P1 S1 L r
theorem E_wast {f : Nat → Option Nat} {fs : List Value} {i : Int32} {a b len : Nat} (hd : decode (mC μ) pc = .ok (.aastore, 1)) (hq : pc + 1 = q) (hc : h a = WA γ len f) (ha : a < n) (hb : h b = .inr (5, fs)) (hbn : b < n) (hi : ix i len = true) (hh : up h a (WA γ len (va_up f (ci i) (some (gB γ + b)))) = h') (kk : Ev γ μ u n h' lv q rest Ψ) : Ev γ μ u n h lv pc (.ref (gB γ + b) :: .int i :: .ref (gB γ + a) :: rest) Ψ := by
  subst hq
  intro p e R s m args below meth c Q H locs ls C0 z P S L r
  refine va_astq C0.1 C0.2.1 C0.2.2.2.2.2.2.2.2.2.1 P (wl_D _ _ _) S a 2 b 5 (r := (RX5, TX5, 5)) (by rw [wl_get ha, hc]) rfl (by rw [wl_get hbn, hb]) rfl (ix_in hi) hd (fun H1 locs1 P1 _ S1 => ?_)
  rw [wl_set ha, hh] at P1
  exact kk p e R s m args below meth c Q H1 locs1 ls C0 z P1 S1 L r
theorem E_alen {a len : Nat} {x : Int32} {f : FN} (hd : decode (mC μ) pc = .ok (.arraylength, 1)) (hq : pc + 1 = q) (hc : h a = IA γ len f) (ha : a < n) (hx : Int32.ofNat len = x) (kk : Ev γ μ u n h lv q (.int x :: rest) Ψ) : Ev γ μ u n h lv pc (.ref (gB γ + a) :: rest) Ψ := by
  subst hq
  intro p e R s m args below meth c Q H locs ls C0 z P S L r
  exact va_alen C0.1 C0.2.1 C0.2.2.2.2.2.2.2.2.2.1 P a 0 (by rw [wl_get ha, hc]) (ty := .int) rfl hx hd (kk p e R s m args below meth c Q H locs ls C0 z P S L r)
theorem new_at {D : va_G} {H1 : Heap} {B q n : Nat} {h : HP} {e0 : va_E} (P : va_P D vwCl (wl B n h ++ [(q, e0)]) H1) (hD : va_D (fun q => B ≤ q) (wl B n h ++ [(q, e0)])) (hz : H1.size ≤ B + n + 1) : q = B + n := by
  have g1 : (wl B n h ++ [(q, e0)])[n]? = some (q, e0) := by
    rw [List.getElem?_append_right (by rw [wl_len]; exact Nat.le_refl _), wl_len, Nat.sub_self]; rfl
  have g2 := (P n _ g1).lt
  have g3 := hD.2 n _ g1
  dsimp only at g2 g3
  by_cases hq : q = B + n
  · exact hq
  · exfalso
    have hk : q - B < n := by omega
    have g4 : (wl B n h ++ [(q, e0)])[q - B]? = some (B + (q - B), h (q - B)) := by
      rw [List.getElem?_append_left (by rw [wl_len]; exact hk), wl_get hk]
    have := hD.1 n (q - B) _ _ g1 g4 (by dsimp only; omega)
    omega
theorem E_newa {x : Int32} {len : Nat} (hd : decode (mC μ) pc = .ok (.newarray .int, 2)) (hq : pc + 2 = q) (hw : Cond.arrayClass .int ∈ lw_good) (hx : ¬ x < 0) (hN : x.toNatClampNeg = len) (hb : len ≤ 1000) (hu : u.1 + 1 ≤ mK μ ∧ u.2 + len ≤ mS μ) (hh : up h n (IA γ len (fun _ => 0)) = h') (kk : Ev γ μ (u.1 + 1, u.2 + len) (n + 1) h' lv q (.ref (gB γ + n) :: rest) Ψ) : Ev γ μ u n h lv pc (.int x :: rest) Ψ := by
  subst hq
  intro p e R s m args below meth c Q H locs ls C0 z P S L r
  have hK := C0.2.2.2.2.2.2.2.2.2.1
  refine va_newa (a0 := (len, .inl (fun _ => 0))) (atype := .int) C0.1 C0.2.1 (C0.2.2.2.2.1 _ hw) rfl hK P (wl_D _ _ _) S (fun q hq => Nat.le_trans z.2.1 hq) (fun cA => rfl) hx hN (by show len * 4 ≤ 536870912; omega) (Nat.le_trans hu.1 C0.2.2.2.2.2.2.2.2.2.2.2.1) (Nat.le_trans hu.2 C0.2.2.2.2.2.2.2.2.2.2.2.2) hd (fun q0 cA H1 K1 P1 D1 S1 => ?_)
  refine W_size fun hsz => ?_
  have hcA : cA = gI γ := by
    have a1 : va_RA s cA .int := (K1.2 3 (cA, .int) rfl).2
    have a2 : va_RA s (gI γ) .int := (hK.2 0 (gI γ, .int) rfl).2
    exact Option.some.inj (a1.symm.trans a2)
  subst hcA
  have hz1 := z.1
  have hq0 : q0 = gB γ + n := new_at P1 D1 (by omega)
  subst hq0
  rw [wl_push, hh] at P1
  refine kk p e R s m args below meth c Q H1 locs ls C0 ⟨?_, z.2.1, hu.1, hu.2⟩ P1 S1 L r
  show s.heap.size + (u.1 + 1) = gB γ + (n + 1)
  omega
theorem E_newz {x : Int32} {len : Nat} (hd : decode (mC μ) pc = .ok (.newarray .boolean, 2)) (hq : pc + 2 = q) (hw : Cond.arrayClass .boolean ∈ lw_good) (hx : ¬ x < 0) (hN : x.toNatClampNeg = len) (hb : len ≤ 1000) (hu : u.1 + 1 ≤ mK μ ∧ u.2 + len ≤ mS μ) (hh : up h n (ZA γ len (fun _ => 0)) = h') (kk : Ev γ μ (u.1 + 1, u.2 + len) (n + 1) h' lv q (.ref (gB γ + n) :: rest) Ψ) : Ev γ μ u n h lv pc (.int x :: rest) Ψ := by
  subst hq
  intro p e R s m args below meth c Q H locs ls C0 z P S L r
  have hK := C0.2.2.2.2.2.2.2.2.2.1
  refine va_newa (a0 := (len, .inl (fun _ => 0))) (atype := .boolean) C0.1 C0.2.1 (C0.2.2.2.2.1 _ hw) rfl hK P (wl_D _ _ _) S (fun q hq => Nat.le_trans z.2.1 hq) (fun cA => rfl) hx hN (by show len * 1 ≤ 536870912; omega) (Nat.le_trans hu.1 C0.2.2.2.2.2.2.2.2.2.2.2.1) (Nat.le_trans hu.2 C0.2.2.2.2.2.2.2.2.2.2.2.2) hd (fun q0 cA H1 K1 P1 D1 S1 => ?_)
  refine W_size fun hsz => ?_
  have hcA : cA = gZ γ := by
    have a1 : va_RA s cA .boolean := (K1.2 3 (cA, .boolean) rfl).2
    have a2 : va_RA s (gZ γ) .boolean := (hK.2 1 (gZ γ, .boolean) rfl).2
    exact Option.some.inj (a1.symm.trans a2)
  subst hcA
  have hz1 := z.1
  have hq0 : q0 = gB γ + n := new_at P1 D1 (by omega)
  subst hq0
  rw [wl_push, hh] at P1
  refine kk p e R s m args below meth c Q H1 locs ls C0 ⟨?_, z.2.1, hu.1, hu.2⟩ P1 S1 L r
  show s.heap.size + (u.1 + 1) = gB γ + (n + 1)
  omega
theorem E_neww {x : Int32} {len idx : Nat} (hd : decode (mC μ) pc = .ok (.anewarray idx, 3)) (hq : pc + 3 = q) (hl : Cond.classLink (mY μ).cls idx RX5 ∈ lw_good) (hov : Cond.arrayOver (.object RX5) ∈ lw_good) (hx : ¬ x < 0) (hN : x.toNatClampNeg = len) (hb : len ≤ 1000) (hu : u.1 + 1 ≤ mK μ ∧ u.2 + len ≤ mS μ) (hh : up h n (WA γ len (fun _ => none)) = h') (kk : Ev γ μ (u.1 + 1, u.2 + len) (n + 1) h' lv q (.ref (gB γ + n) :: rest) Ψ) : Ev γ μ u n h lv pc (.int x :: rest) Ψ := by
  subst hq
  intro p e R s m args below meth c Q H locs ls C0 z P S L r
  have hK := C0.2.2.2.2.2.2.2.2.2.1
  refine va_newq C0.1 C0.2.1 C0.2.2.2.1 (C0.2.2.2.2.1 _ hl) (by have := C0.2.2.2.2.1 _ hov; exact this) hK P (wl_D _ _ _) S (fun q hq => Nat.le_trans z.2.1 hq) hx hN (by omega) (Nat.le_trans hu.1 C0.2.2.2.2.2.2.2.2.2.2.2.1) (Nat.le_trans hu.2 C0.2.2.2.2.2.2.2.2.2.2.2.2) hd (fun q0 cA H1 K1 P1 D1 S1 => ?_)
  refine W_size fun hsz => ?_
  have hcA : cA = gW γ := by
    obtain ⟨_, _, _, _, _, a1⟩ := (K1.2 3 (cA, .object RX5) rfl).2
    obtain ⟨_, _, _, _, _, a2⟩ := (hK.2 2 (gW γ, .object RX5) rfl).2
    exact Option.some.inj (a1.symm.trans a2)
  subst hcA
  have hz1 := z.1
  have hq0 : q0 = gB γ + n := new_at P1 D1 (by omega)
  subst hq0
  rw [wl_push, hh] at P1
  refine kk p e R s m args below meth c Q H1 locs ls C0 ⟨?_, z.2.1, hu.1, hu.2⟩ P1 S1 L r
  show s.heap.size + (u.1 + 1) = gB γ + (n + 1)
  omega
theorem E_new {c0 idx : Nat} {C : String} {T : u_T} {N : Nat} {ty : Nat → FieldType} {fs : List Value} (hd : decode (mC μ) pc = .ok (.new idx, 3)) (hq : pc + 3 = q) (ck : CKx c0 C T N ty) (hl : Cond.classLink (mY μ).cls idx C ∈ lw_good) (hi : Cond.instantiable C N ∈ lw_good) (hini : Cond.initialized C ∈ lw_good) (hfs : ∀ j, j < N → defaultValue (ty j) = vp_V fs j) (hu : u.1 + 1 ≤ mK μ ∧ u.2 + N ≤ mS μ) (hh : up h n (.inr (c0, fs)) = h') (kk : Ev γ μ (u.1 + 1, u.2 + N) (n + 1) h' lv q (.ref (gB γ + n) :: rest) Ψ) : Ev γ μ u n h lv pc rest Ψ := by
  subst hq
  intro p e R s m args below meth c Q H locs ls C0 z P S L r
  have hK := C0.2.2.2.2.2.2.2.2.2.1
  refine va_new C0.1 C0.2.1 C0.2.2.2.2.1 ck.2.1 ty ck.2.2.1 C0.2.2.2.1 (C0.2.2.2.2.1 _ hl) (C0.2.2.2.2.1 _ hi) (C0.2.2.2.2.1 _ hini) hK P (wl_D _ _ _) S (fun q hq => Nat.le_trans z.2.1 hq) ck.1 hfs (Nat.le_trans hu.1 C0.2.2.2.2.2.2.2.2.2.2.2.1) (Nat.le_trans hu.2 C0.2.2.2.2.2.2.2.2.2.2.2.2) hd (fun q0 H1 P1 D1 S1 => ?_)
  refine W_size fun hsz => ?_
  have hz1 := z.1
  have hq0 : q0 = gB γ + n := new_at P1 D1 (by omega)
  subst hq0
  rw [wl_push, hh] at P1
  refine kk p e R s m args below meth c Q H1 locs ls C0 ⟨?_, z.2.1, hu.1, hu.2⟩ P1 S1 L r
  show s.heap.size + (u.1 + 1) = gB γ + (n + 1)
  omega
theorem E_objInit {idx a : Nat} (hd : decode (mC μ) pc = .ok (.invokespecial idx, 3)) (hq : pc + 3 = q) (hl : Cond.methodLink (mY μ).cls idx Lib.objectInit ∈ lw_good) (hi : Cond.instanceMethod Lib.objectInit ∈ lw_good) (hc : Cond.code Lib.objectInit ⟨#[0xb1]⟩ 1 none ∈ lw_good) (hdp : 1 ≤ mD μ) (hr : (rest.map fun v => v.category).sum ≤ 8) (kk : Ev γ μ u n h lv q rest Ψ) : Ev γ μ u n h lv pc (.ref a :: rest) Ψ := by
  subst hq
  intro p e R s m args below meth c Q H locs ls C0 z P S L r
  refine W.objInit C0.1 C0.2.1 C0.2.2.2.1 (C0.2.2.2.2.1 _ hl) (C0.2.2.2.2.1 _ hi) (C0.2.2.2.2.1 _ hc) rfl (by rw [C0.2.2.1]; exact L.1) (a := a) (rest := rest) rfl hd (Nat.le_trans hdp C0.2.2.2.2.2.2.2.1) ?_ (kk p e R s m args below meth c Q H locs ls C0 z P S L r)
  have h1 := C0.2.2.2.2.2.2.2.2.1
  have h2 := lv_room (m := m) (pc := pc) (ls := ls) (rest := .ref a :: rest) hr
  omega
theorem E_max {idx : Nat} {x y : Int32} (hd : decode (mC μ) pc = .ok (.invokestatic idx, 3)) (hq : pc + 3 = q) (hl : Cond.methodLink (mY μ).cls idx Lib.Math.max.name ∈ lw_good) (hs : Cond.static Lib.Math.max.name ∈ lw_good) (hi : Cond.initialized "java/lang/Math" ∈ lw_good) (hc : Cond.code Lib.Math.max.name Lib.Math.max.code 2 (some .int) ∈ lw_good) (hdp : 1 ≤ mD μ) (hr : (rest.map fun v => v.category).sum ≤ 8) (kk : Ev γ μ u n h lv q (.int (if x < y then y else x) :: rest) Ψ) : Ev γ μ u n h lv pc (.int y :: .int x :: rest) Ψ := by
  subst hq
  intro p e R s m args below meth c Q H locs ls C0 z P S L r
  have h1 := C0.2.2.2.2.2.2.2.2.1
  exact va_mmax C0.1 C0.2.1 (by rw [C0.2.2.1]; exact L.1.symm) C0.2.2.2.1 (C0.2.2.2.2.1 _ hl) (C0.2.2.2.2.1 _ hs) (C0.2.2.2.2.1 _ hi) (C0.2.2.2.2.1 _ hc) (Nat.le_trans hdp C0.2.2.2.2.2.2.2.1) (by omega) (Nat.le_trans z.2.2.1 C0.2.2.2.2.2.2.2.2.2.2.2.1) (Nat.le_trans z.2.2.2 C0.2.2.2.2.2.2.2.2.2.2.2.2) hd (kk p e R s m args below meth c Q H locs ls C0 z P S L r)
theorem E_min {idx : Nat} {x y : Int32} (hd : decode (mC μ) pc = .ok (.invokestatic idx, 3)) (hq : pc + 3 = q) (hl : Cond.methodLink (mY μ).cls idx Lib.Math.min.name ∈ lw_good) (hs : Cond.static Lib.Math.min.name ∈ lw_good) (hi : Cond.initialized "java/lang/Math" ∈ lw_good) (hc : Cond.code Lib.Math.min.name Lib.Math.min.code 2 (some .int) ∈ lw_good) (hdp : 1 ≤ mD μ) (hr : (rest.map fun v => v.category).sum ≤ 8) (kk : Ev γ μ u n h lv q (.int (if x < y then x else y) :: rest) Ψ) : Ev γ μ u n h lv pc (.int y :: .int x :: rest) Ψ := by
  subst hq
  intro p e R s m args below meth c Q H locs ls C0 z P S L r
  have h1 := C0.2.2.2.2.2.2.2.2.1
  refine va_mmin C0.1 C0.2.1 (by rw [C0.2.2.1]; exact L.1.symm) C0.2.2.2.1 (C0.2.2.2.2.1 _ hl) (C0.2.2.2.2.1 _ hs) (C0.2.2.2.2.1 _ hi) (C0.2.2.2.2.1 _ hc) (Nat.le_trans hdp C0.2.2.2.2.2.2.2.1) (by omega) (Nat.le_trans z.2.2.1 C0.2.2.2.2.2.2.2.2.2.2.2.1) (Nat.le_trans z.2.2.2 C0.2.2.2.2.2.2.2.2.2.2.2.2) hd ?_
  have e1 := kk p e R s m args below meth c Q H locs ls C0 z P S L r
  first
    | exact e1
    | (have e2 : (if y < x then y else x) = (if x < y then x else y) := by
         by_cases g1 : x < y
         · have g2 : ¬ y < x := fun g => Int32.lt_irrefl (Int32.lt_trans g1 g)
           simp [g1, g2]
         · by_cases g2 : y < x
           · simp [g1, g2]
           · have : x = y := Int32.le_antisymm (Int32.not_lt.mp g2) (Int32.not_lt.mp g1)
             simp [this]
       rw [e2]
       exact e1)
theorem E_copy {idx a a0 n0 n1 : Nat} {f g : FN} {sp dp x : Int32} (hd : decode (mC μ) pc = .ok (.invokestatic idx, 3)) (hq : pc + 3 = q) (hl : Cond.methodLink (mY μ).cls idx arraycopyName ∈ lw_good) (hnt : Cond.native arraycopyName ∈ lw_good) (hs : Cond.static arraycopyName ∈ lw_good) (hi : Cond.initialized "java/lang/System" ∈ lw_good) (hc0 : h a0 = IA γ n0 f) (ha0 : a0 < n) (hc1 : h a = IA γ n1 g) (ha : a < n)
    (h1 : ¬ sp < 0) (h2 : ¬ dp < 0) (h3 : ¬ x < 0) (h4 : sp.toNatClampNeg + x.toNatClampNeg ≤ n0) (h5 : dp.toNatClampNeg + x.toNatClampNeg ≤ n1) (hdp : 1 ≤ mD μ) (hr : (rest.map fun v => v.category).sum ≤ 8) (hh : up h a (IA γ n1 (va_cpy f g sp.toNatClampNeg dp.toNatClampNeg x.toNatClampNeg)) = h')
    (kk : Ev γ μ u n h' lv q rest Ψ) : Ev γ μ u n h lv pc (.int x :: .int dp :: .ref (gB γ + a) :: .int sp :: .ref (gB γ + a0) :: rest) Ψ := by
  subst hq
  intro p e R s m args below meth c Q H locs ls C0 z P S L r
  have hK := C0.2.2.2.2.2.2.2.2.2.1
  refine va_copyi C0.1 C0.2.1 (by rw [C0.2.2.1]; exact L.1.symm) C0.2.2.2.1 (C0.2.2.2.2.1 _ hl) (C0.2.2.2.2.1 _ hnt) (C0.2.2.2.2.1 _ hs) (C0.2.2.2.2.1 _ hi) hK P (wl_D _ _ _) S a0 a 0 0 (by rw [wl_get ha0, hc0]) (by rw [wl_get ha, hc1]) (ty := .int) rfl rfl rfl h1 h2 h3 h4 h5 (fun i hi => rfl) (Nat.le_trans hdp C0.2.2.2.2.2.2.2.1) ?_ hd (fun H1 locs1 P1 _ S1 => ?_)
  · have h6 := C0.2.2.2.2.2.2.2.2.1
    have h7 : nativeFrameWords "java/lang/System" "arraycopy" 5 ≤ 60 := by decide
    omega
  · rw [wl_set ha, hh] at P1
    exact kk p e R s m args below meth c Q H1 locs1 ls C0 z P1 S1 L r
end EH

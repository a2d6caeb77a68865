def M_J7_fill : MI := (yJ7_fill_53178, cJ7_fill_53178, 4, none, false, 1, 0, 0)
theorem lkm_J7_fill : LkM M_J7_fill 2 := ⟨(lg_mem 54 (by decide +kernel) rfl), (lg_mem 160 (by decide +kernel) rfl), ⟨by decide, by decide, by decide +kernel⟩, (Nat.le_of_ble_eq_true rfl)⟩
def fillF (f : FN) (len : Nat) (x : Int32) : FN := fun j => if j < len then x else f j
theorem ix_nI {i n : Nat} (h : i < n) (hn : n < 2 ^ 31) : ix (nI i) n = true := by
  have h1 : ¬ nI i < 0 := nI_pos (by omega)
  have h2 : (nI i).toNatClampNeg = i := nI_clamp (by omega)
  simp [ix, h1, h2, h]
theorem up_up {h : HP} {k : Nat} {e e' : va_E} : up (up h k e) k e' = up h k e' := by
  funext j
  by_cases hj : j = k
  · subst hj; rw [up_same, up_same]
  · rw [up_ne hj, up_ne hj, up_ne hj]
theorem fill_step (f : FN) (i : Nat) (x : Int32) : upd (fillF f i x) i x = fillF f (i + 1) x := by
  funext j
  unfold upd fillF
  by_cases h1 : j = i
  · subst h1; simp
  · by_cases h2 : j < i
    · have : j < i + 1 := by omega
      simp [h1, h2, this]
    · have : ¬ j < i + 1 := by omega
      simp [h1, h2, this]
theorem fill_0 (f : FN) (x : Int32) : fillF f 0 x = f := by funext j; simp [fillF]
theorem up_id {h : HP} {k : Nat} {e : va_E} (he : h k = e) : up h k e = h := by
  funext j
  by_cases hj : j = k
  · subst hj; rw [up_same, he]
  · rw [up_ne hj]
set_option maxRecDepth 100000 in
theorem L_J7_fill {γ : GX} {n : Nat} {h : HP} {a len : Nat} {f : FN} {x : Int32} (ha : a < n) (hl : len < 2 ^ 31) : ∀ (r i : Nat), i + r = len → Ev γ M_J7_fill (0, 0) n (up h a (IA γ len (fillF f i x))) [(0, .ref (gB γ + a)), (1, .int x), (2, .int (nI i)), (3, .int (nI len))] 5 [] (Done none n (up h a (IA γ len (fillF f len x)))) := by
  intro r
  induction r with
  | zero =>
    intro i hi
    have hi : i = len := by omega
    subst hi
    refine E_iload_n 2 dJ7_fill_53178_5 (q := 6) rfl rfl rfl ?_
    refine E_iload_n 3 dJ7_fill_53178_6 (q := 7) rfl rfl rfl ?_
    refine E_icmp_ge dJ7_fill_53178_7 (t := 20) (by decide) (q := 10) rfl (fun c1 => ?_) (fun c1 => absurd (nI_le (Nat.le_refl i) hl) c1)
    exact E_vret dJ7_fill_53178_20 rfl ⟨rfl, rfl, rfl⟩
  | succ r ih =>
    intro i hi
    refine E_iload_n 2 dJ7_fill_53178_5 (q := 6) rfl rfl rfl ?_
    refine E_iload_n 3 dJ7_fill_53178_6 (q := 7) rfl rfl rfl ?_
    refine E_icmp_ge dJ7_fill_53178_7 (t := 20) (by decide) (q := 10) rfl (fun c1 => absurd c1 (nI_ge (by omega) hl)) (fun c1 => ?_)
    refine E_aload_n 0 dJ7_fill_53178_10 (q := 11) rfl rfl rfl ?_
    refine E_iload_n 2 dJ7_fill_53178_11 (q := 12) rfl rfl rfl ?_
    refine E_iload_n 1 dJ7_fill_53178_12 (q := 13) rfl rfl rfl ?_
    have e1 : up (up h a (IA γ len (fillF f i x))) a (IA γ len (upd (fillF f i x) (ci (nI i)) x)) = up h a (IA γ len (fillF f (i + 1) x)) := by
      rw [up_up, show ci (nI i) = i from nI_clamp (by omega), fill_step]
    refine E_iast dJ7_fill_53178_13 (q := 14) rfl up_same ha (ix_nI (by omega) hl) e1 ?_
    refine E_iinc (v := nI (i + 1)) 2 [(2, .int (nI (i + 1))), (0, .ref (gB γ + a)), (1, .int x), (3, .int (nI len))] dJ7_fill_53178_14 (q := 17) rfl rfl (nI_1 i) (Nat.le_of_ble_eq_true rfl) rfl ?_
    refine E_goto (q := 5) dJ7_fill_53178_17 (by decide) ?_
    exact E_sub [1, 2, 0, 3] rfl (ih (i + 1) (by omega))
set_option maxRecDepth 100000 in
theorem m_J7_fill {γ : GX} {n : Nat} {h : HP} {a len : Nat} {f : FN} {x : Int32} (hc : h a = IA γ len f) (ha : a < n) (hl : len ≤ 1000) : Ct γ M_J7_fill n h [.ref (gB γ + a), .int x] (Done none n (up h a (IA γ len (fillF f len x)))) := by
  refine Ct_of_Ev (by decide) (fun h => by cases h) (Nat.le_of_ble_eq_true rfl) ?_
  show Ev γ M_J7_fill (0, 0) n h [(0, .ref (gB γ + a)), (1, .int x)] 0 [] _
  refine E_iconst (x := 0) dJ7_fill_53178_0 (q := 1) rfl (by decide) ?_
  refine E_istore_n [(2, .int 0), (0, .ref (gB γ + a)), (1, .int x)] dJ7_fill_53178_1 (q := 2) rfl rfl (Nat.le_of_ble_eq_true rfl) rfl ?_
  refine E_aload_n 1 dJ7_fill_53178_2 (q := 3) rfl rfl rfl ?_
  refine E_alen (x := nI len) dJ7_fill_53178_3 (q := 4) rfl hc ha rfl ?_
  refine E_istore_n [(3, .int (nI len)), (2, .int 0), (0, .ref (gB γ + a)), (1, .int x)] dJ7_fill_53178_4 (q := 5) rfl rfl (Nat.le_of_ble_eq_true rfl) rfl ?_
  refine Ev.heap (h := up h a (IA γ len (fillF f 0 x))) (by rw [fill_0, up_id hc]) ?_
  exact E_sub [2, 3, 1, 0] rfl (L_J7_fill ha (by omega) len 0 (by omega))
theorem E_fill {γ : GX} {μ : MI} {u : Nat × Nat} {n : Nat} {h h' : HP} {lv : List (Nat × Value)} {pc q : Nat} {rest : List Value} {Ψ : PS} {a len idx : Nat} {f : FN} {x : Int32} (hd : decode (mC μ) pc = .ok (.invokestatic idx, 3)) (hq : pc + 3 = q) (hl : LkS (mY μ).cls idx M_J7_fill) (hdp : 2 ≤ mD μ) (hu : u.1 ≤ mK μ ∧ u.2 ≤ mS μ) (hr : (rest.map fun v => v.category).sum ≤ 8) (hc : h a = IA γ len f) (ha : a < n) (hlen : len ≤ 1000) (hh : up h a (IA γ len (fillF f len x)) = h') (kk : Ev γ μ u n h' lv q rest Ψ) : Ev γ μ u n h lv pc (.int x :: .ref (gB γ + a) :: rest) Ψ := by
  subst hh
  exact E_cS (as := [.ref (gB γ + a), .int x]) (rest := rest) (u' := u) (st' := rest) hd hq lkm_J7_fill hl hdp hu hr rfl rfl (m_J7_fill hc ha hlen) rfl rfl rfl kk

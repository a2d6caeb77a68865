/-! ===== the law from its entry to its loop ===== -/
theorem in_X6 : Cond.instantiable RX6 11 ∈ lw_good := (lg_mem 63 (by decide +kernel) rfl)
theorem in_X7 : Cond.instantiable RX7 26 ∈ lw_good := (lg_mem 673 (by decide +kernel) rfl)
theorem iz_X6 : Cond.initialized RX6 ∈ lw_good := (lg_mem 50 (by decide +kernel) rfl)
theorem iz_X7 : Cond.initialized RX7 ∈ lw_good := (lg_mem 58 (by decide +kernel) rfl)
theorem cl_L_7 : Cond.classLink RL 7 RX6 ∈ lw_good := (lg_mem 62 (by decide +kernel) rfl)
theorem cl_L_10 : Cond.classLink RL 10 RX7 ∈ lw_good := (lg_mem 672 (by decide +kernel) rfl)
theorem lki_L_9 : LkI RL 9 M_X6_init := ⟨(lg_mem 64 (by decide +kernel) rfl), (lg_mem 65 (by decide +kernel) rfl), rfl⟩
theorem lki_L_12 : LkI RL 12 M_X7_init := ⟨(lg_mem 674 (by decide +kernel) rfl), (lg_mem 675 (by decide +kernel) rfl), rfl⟩
theorem law_start {γ : GX} {bx : BX} {h : HP} {Ψ : PS} (hL : bx.2.1 ≤ 2048) (hΨ : ∀ h, Ψ (some (.int 1)) 109 h) : El γ bx M_law (0, 0) 0 h [(0, .ref bx.1)] 0 [] Ψ := by
  obtain ⟨h1, e1⟩ : ∃ h', up h 0 (.inr (6, [.null, .null, .null, .null, .null, .null, .null, .null, .null, .null, .long 0])) = h' := ⟨_, rfl⟩
  refine L_new (fs := [.null, .null, .null, .null, .null, .null, .null, .null, .null, .null, .long 0]) dL_law_0 (q := 3) rfl ckX6 cl_L_7 in_X6 iz_X6 (fun j hj => by rcases (show j = 0 ∨ j = 1 ∨ j = 2 ∨ j = 3 ∨ j = 4 ∨ j = 5 ∨ j = 6 ∨ j = 7 ∨ j = 8 ∨ j = 9 ∨ j = 10 by omega) with rfl | rfl | rfl | rfl | rfl | rfl | rfl | rfl | rfl | rfl | rfl <;> rfl) ⟨(Nat.le_of_ble_eq_true rfl), (Nat.le_of_ble_eq_true rfl)⟩ e1 ?_
  refine L_dup dL_law_3 (q := 4) rfl rfl ?_
  have o1 : h1 0 = .inr (6, [.null, .null, .null, .null, .null, .null, .null, .null, .null, .null, .long 0]) := by rw [← e1]; exact up_same
  refine L_callU (as := []) (a := gB γ + 0) (rest := [.ref (gB γ + 0)]) dL_law_4 (q := 7) rfl lkm_X6_init lki_L_9 rfl (Nat.le_of_ble_eq_true rfl) ⟨(Nat.le_of_ble_eq_true rfl), (Nat.le_of_ble_eq_true rfl)⟩ (Nat.le_of_ble_eq_true rfl) rfl rfl (i_X6 o1) (fun v n' h' hp => hp.2.1) ?_
  rintro v n' h2 ⟨rfl, rfl, cw⟩
  show El γ bx M_law (93, 1062) 93 h2 [(0, .ref bx.1)] 7 [.ref (gB γ + 0)] Ψ
  refine L_astore_n [(1, .ref (gB γ + 0)), (0, .ref bx.1)] dL_law_7 (q := 8) rfl rfl (Nat.le_of_ble_eq_true rfl) rfl ?_
  obtain ⟨h3, e3⟩ : ∃ h', up h2 93 (.inr (7, [.int 0, .long 0, .null, .int 0, .int 0, .int 0, .int 0, .int 0, .int 0, .null, .null, .null, .null, .int 0, .null, .null, .null, .null, .null, .int 0, .null, .null, .null, .int 0, .null, .null])) = h' := ⟨_, rfl⟩
  refine L_new (fs := [.int 0, .long 0, .null, .int 0, .int 0, .int 0, .int 0, .int 0, .int 0, .null, .null, .null, .null, .int 0, .null, .null, .null, .null, .null, .int 0, .null, .null, .null, .int 0, .null, .null]) dL_law_8 (q := 11) rfl ckX7 cl_L_10 in_X7 iz_X7 (fun j hj => by rcases (show j = 0 ∨ j = 1 ∨ j = 2 ∨ j = 3 ∨ j = 4 ∨ j = 5 ∨ j = 6 ∨ j = 7 ∨ j = 8 ∨ j = 9 ∨ j = 10 ∨ j = 11 ∨ j = 12 ∨ j = 13 ∨ j = 14 ∨ j = 15 ∨ j = 16 ∨ j = 17 ∨ j = 18 ∨ j = 19 ∨ j = 20 ∨ j = 21 ∨ j = 22 ∨ j = 23 ∨ j = 24 ∨ j = 25 by omega) with rfl | rfl | rfl | rfl | rfl | rfl | rfl | rfl | rfl | rfl | rfl | rfl | rfl | rfl | rfl | rfl | rfl | rfl | rfl | rfl | rfl | rfl | rfl | rfl | rfl | rfl <;> rfl) ⟨(Nat.le_of_ble_eq_true rfl), (Nat.le_of_ble_eq_true rfl)⟩ e3 ?_
  refine L_dup dL_law_11 (q := 12) rfl rfl ?_
  have o3 : h3 93 = .inr (7, [.int 0, .long 0, .null, .int 0, .int 0, .int 0, .int 0, .int 0, .int 0, .null, .null, .null, .null, .int 0, .null, .null, .null, .null, .null, .int 0, .null, .null, .null, .int 0, .null, .null]) := by rw [← e3]; exact up_same
  refine L_callI (as := []) (a := gB γ + 93) (rest := [.ref (gB γ + 93)]) dL_law_12 (q := 15) rfl lkm_X7_init lki_L_12 rfl (Nat.le_of_ble_eq_true rfl) ⟨(Nat.le_of_ble_eq_true rfl), (Nat.le_of_ble_eq_true rfl)⟩ (Nat.le_of_ble_eq_true rfl) rfl rfl (i_X7 (k := 93) o3) (fun v n' h' hp => hp.2.1) ?_
  rintro v n' h4 ⟨rfl, rfl, Hm, fr⟩
  show El γ bx M_law (109, 2030) 109 h4 [(1, .ref (gB γ + 0)), (0, .ref bx.1)] 15 [.ref (gB γ + 93)] Ψ
  refine L_astore_n [(2, .ref (gB γ + 93)), (1, .ref (gB γ + 0)), (0, .ref bx.1)] dL_law_15 (q := 16) rfl rfl (Nat.le_of_ble_eq_true rfl) rfl ?_
  refine L_iconst (x := 0) dL_law_16 (q := 17) rfl (by decide) ?_
  refine L_istore_n (lvL γ bx 0) dL_law_17 (q := 18) rfl rfl (Nat.le_of_ble_eq_true rfl) rfl ?_
  have I : INV γ h4 := inv0 cw Hm (fun j hj => by rw [fr j hj, ← e3, up_ne (by omega)])
  exact law_loop hL hΨ (bx.2.1 + 1) 0 h4 (by omega) (by omega) I
theorem known_all {s : State} {A : Array Value} (hw : ∀ w ∈ lw_good, w.before A s = true) : ∃ (dC : Nat → ClassId) (dI : Nat → Nat → Nat), ∀ (k : Nat) (q : vw_C), vwCl[k]? = some q → u_Kn s q.1 q.2.1 q.2.2 (dC k) (dI k) := by
  obtain ⟨c0, i0, k0⟩ := u_known (C := RX0) (T := TX0) (N := 7) (n := 7) hw ckX0.2.1 (hw _ in_X0)
  obtain ⟨c1, i1, k1⟩ := u_known (C := RX1) (T := TX1) (N := 4) (n := 4) hw ckX1.2.1 (hw _ in_X1)
  obtain ⟨c2, i2, k2⟩ := u_known (C := RX2) (T := TX2) (N := 3) (n := 3) hw ckX2.2.1 (hw _ in_X2)
  obtain ⟨c3, i3, k3⟩ := u_known (C := RX3) (T := TX3) (N := 4) (n := 4) hw ckX3.2.1 (hw _ in_X3)
  obtain ⟨c4, i4, k4⟩ := u_known (C := RX4) (T := TX4) (N := 8) (n := 8) hw ckX4.2.1 (hw _ in_X4)
  obtain ⟨c5, i5, k5⟩ := u_known (C := RX5) (T := TX5) (N := 5) (n := 5) hw ckX5.2.1 (hw _ in_w)
  obtain ⟨c6, i6, k6⟩ := u_known (C := RX6) (T := TX6) (N := 11) (n := 11) hw ckX6.2.1 (hw _ in_X6)
  obtain ⟨c7, i7, k7⟩ := u_known (C := RX7) (T := TX7) (N := 26) (n := 26) hw ckX7.2.1 (hw _ in_X7)
  refine ⟨fun k => match k with | 0 => c0 | 1 => c1 | 2 => c2 | 3 => c3 | 4 => c4 | 5 => c5 | 6 => c6 | _ => c7, fun k => match k with | 0 => i0 | 1 => i1 | 2 => i2 | 3 => i3 | 4 => i4 | 5 => i5 | 6 => i6 | _ => i7, ?_⟩
  intro k q hq
  match k, hq with
  | 0, hq => cases hq; exact k0
  | 1, hq => cases hq; exact k1
  | 2, hq => cases hq; exact k2
  | 3, hq => cases hq; exact k3
  | 4, hq => cases hq; exact k4
  | 5, hq => cases hq; exact k5
  | 6, hq => cases hq; exact k6
  | 7, hq => cases hq; exact k7
  | k + 8, hq => simp [vwCl] at hq
theorem known_gt {s : State} {A : Array Value} (hw : ∀ w ∈ lw_good, w.before A s = true) (hAO : va_AO RX5 s) : ∃ cI cZ cW : ClassId, ∀ (k : Nat) (q : ClassId × FieldType), [(cI, FieldType.int), (cZ, FieldType.boolean), (cW, FieldType.object RX5)][k]? = some q → ArrOfT s q.1 q.2 ∧ va_RA s q.1 q.2 := by
  obtain ⟨cI, kI, compI, a1, a2, a3⟩ := Cond.arrayClass_spec (hw _ ai_int)
  obtain ⟨cZ, kZ, compZ, b1, b2, b3⟩ := Cond.arrayClass_spec (hw _ ai_bool)
  obtain ⟨comp, cW, kW, w1, w2, w3, w4, w5⟩ := Cond.arrayOver_spec hAO
  refine ⟨cI, cZ, cW, ?_⟩
  intro k q hq
  match k, hq with
  | 0, hq => cases hq; exact ⟨fun n z => ⟨fun k h => (by cases h), kI, a2, compI, a3⟩, a1⟩
  | 1, hq => cases hq; exact ⟨fun n z => ⟨fun k h => (by cases h), kZ, b2, compZ, b3⟩, b1⟩
  | 2, hq => cases hq; exact ⟨fun n z => ⟨fun k h => (by cases h), kW, w3, comp, w4⟩, kW, comp, w3, w4, w1, w5⟩
  | k + 3, hq => simp at hq
theorem ao5_of {s : State} {A : Array Value} (ht : ∀ w ∈ lw_tbl, w.before A s = true) : AO5 s := ⟨va_AO.of (ht _ (List.mem_of_getElem? (i := 191) (by decide +kernel))), va_Nw.of rfl (ht _ (List.mem_of_getElem? (i := 72) (by decide +kernel))), va_Nw.of rfl (ht _ (List.mem_of_getElem? (i := 105) (by decide +kernel))), va_Nw.of rfl (ht _ (List.mem_of_getElem? (i := 206) (by decide +kernel))), va_Nw.of rfl (ht _ (List.mem_of_getElem? (i := 227) (by decide +kernel)))⟩

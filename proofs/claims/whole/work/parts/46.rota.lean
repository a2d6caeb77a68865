/-! ===== pure side: the reference's rows; rota ===== -/
section RT
variable {N : Nat} {P M ON ST H : Nat} {CO : Nat → Nat} {D W S V : Nat → Nat} {G : Nat → Option Nat} {hr dposts dmen don dstove th : Int32} {db gu sd sv s dsees dcold many sees cold : FN}
def ndB (e : Nat → Nat) (i : Nat) : Bool := !(anyB i (fun b => anyB b (fun a => decide (e a = e b))))
theorem ndB_succ (e : Nat → Nat) (i : Nat) : ndB e (i + 1) = (ndB e i && !(anyB i (fun a => decide (e a = e i)))) := by
  unfold ndB
  rw [anyB, Bool.not_or]
theorem ndB_row {way : Nat} : ndB (fun q => dg M P way (P - 1 - q)) P = rowB M P way := by
  rw [Bool.eq_iff_iff, rowB_iff]
  unfold ndB
  rw [Bool.not_eq_true', ← Bool.not_eq_true, anyB_iff]
  constructor
  · intro h a b h1 h2 h3
    refine h ⟨P - 1 - a, by omega, anyB_iff.mpr ⟨P - 1 - b, by omega, ?_⟩⟩
    show decide (dg M P way (P - 1 - (P - 1 - b)) = dg M P way (P - 1 - (P - 1 - a))) = true
    rw [show P - 1 - (P - 1 - b) = b by omega, show P - 1 - (P - 1 - a) = a by omega, h3]
    simp
  · rintro h ⟨b, h2, h3⟩
    obtain ⟨a, h1, h4⟩ := anyB_iff.mp h3
    exact h (P - 1 - b) (P - 1 - a) (by omega) (by omega) (by simpa using (by simpa using h4 : dg M P way (P - 1 - a) = dg M P way (P - 1 - b)).symm)
theorem add_m1 (a : Nat) : nI a + (-nI 1) = nI a - nI 1 := (Int32.sub_eq_add_neg _ _).symm
theorem pow_le (hP : P ≤ 5) (hM : M ≤ 6) : M ^ P ≤ 7776 := by
  have h1 : M ^ P ≤ 6 ^ P := Nat.pow_le_pow_left hM P
  have h2 : 6 ^ P ≤ 6 ^ 5 := Nat.pow_le_pow_right (by omega) hP
  have h3 : 6 ^ 5 = 7776 := by decide
  omega
set_option maxHeartbeats 1000000 in
theorem isRow_eq (hN : 8000 < N) (hP : P ≤ 5) (hP0 : 0 < P) (hM : M ≤ 6) (hM0 : 0 < M) (dm0 : many 0 = nI P) (dm1 : many 1 = nI M) {way : Nat} (hw : way < 7776) (row : FN) : ∃ row', f_X7_isRow N (nI way) many row = some (if rowB M P way then nI 1 else nI 0, row') ∧ ∀ j, j < P → row' j = nI (dg M P way j) := by
  unfold f_X7_isRow
  obtain ⟨t, h1, h2, h3⟩ := lp_inv (body := fun x : Int32 × Int32 × Int32 × Int32 × FN => b_X7_isRow_1 N many x.1 x.2.1 x.2.2.1 x.2.2.2.1 x.2.2.2.2) (Q := fun t => t.1 = (if rowB M P way then nI 1 else nI 0) ∧ ∀ j, j < P → t.2 j = nI (dg M P way j))
    (fun i x => x.1 = nI (way / M ^ i) ∧ (∃ met, met < 64 ∧ x.2.1 = nI met ∧ ∀ v, v < M → met.testBit v = anyB i (fun q => decide (dg M P way (P - 1 - q) = v))) ∧ x.2.2.1 = (if ndB (fun q => dg M P way (P - 1 - q)) i then nI 1 else nI 0) ∧ x.2.2.2.1 = nI (P - i) - nI 1 ∧ ∀ j, P - i ≤ j → j < P → x.2.2.2.2 j = nI (dg M P way j)) P (nI way, 0, 1, many (ci 0) - 1, row) N (by
      rintro i ⟨x1, x2, x3, x4, x5⟩ hi ⟨g1, ⟨met, gm1, gm2, gm3⟩, g3, g4, g5⟩
      dsimp only at g1 gm2 g3 g4 g5 ⊢
      subst g1 gm2 g4
      have hdiv : way / M ^ i ≤ way := Nat.div_le_self _ _
      have hdv : way / M ^ i / M ≤ way / M ^ i := Nat.div_le_self _ _
      have ed : way / M ^ i % M = dg M P way (P - 1 - i) := by unfold dg; rw [show P - 1 - (P - 1 - i) = i by omega]
      have er : way / M ^ i / M = way / M ^ (i + 1) := by rw [Nat.div_div_eq_div_mul, Nat.pow_succ]
      have hdl : dg M P way (P - 1 - i) < M := dg_lt hM0
      have n1 : ¬ P - i < 1 := by omega
      have n2 : ¬ M = 0 := by omega
      have n3 : P - i - 1 < 5 := by omega
      have n4 : P - i - 1 = P - (i + 1) := by omega
      have hb := shr_bit (a := met) (k := dg M P way (P - 1 - i)) (by omega) (by omega)
      rw [gm3 _ hdl] at hb
      have hs := shl_one (dg M P way (P - 1 - i)) (by omega)
      have hcond : (nI (P - (i + 1)) < nI 0) = False := nI_lt0 (by omega)
      have hv5 : nI (P - i) - nI 1 = nI (P - (i + 1)) := by rw [pk_sub (by omega), n4]
      have n5 : P - (i + 1) < 5 := by omega
      have hnd := ndB_succ (fun q => dg M P way (P - 1 - q)) i
      have z : ¬ nI 1 = nI 0 := by decide
      have hmet : met ||| 2 ^ dg M P way (P - 1 - i) < 64 := Nat.or_lt_two_pow (n := 6) gm1 (Nat.pow_lt_pow_right (by omega) (by omega))
      have hbits : ∀ v, v < M → (met ||| 2 ^ dg M P way (P - 1 - i)).testBit v = anyB (i + 1) (fun q => decide (dg M P way (P - 1 - q) = v)) := by
        intro v hv
        rw [Nat.testBit_or, Nat.testBit_two_pow, gm3 v hv, anyB]
      have hrow : ∀ j, P - (i + 1) ≤ j → j < P → upd x5 (P - (i + 1)) (nI (dg M P way (P - 1 - i))) j = nI (dg M P way j) := by
        intro j j1 j2
        by_cases e : j = P - (i + 1)
        · subst e; rw [upd_same, show P - 1 - i = P - (i + 1) by omega]
        · rw [upd_ne e]; exact g5 j (by omega) j2
      refine Or.inl ?_
      simp (disch := omega) only [b_X7_isRow_1, fa_lit, dm1, ci_nI, hcond, ↓reduceIte, nI_eq, n2, not_false_eq_true, hv5, ix_iff, n5, irem_nI, pk_div, ed, er, upd_same, hs, fa_or, hb, ob, add_m1]
      by_cases c0 : ndB (fun q => dg M P way (P - 1 - q)) i = true
      · rw [if_pos c0] at g3
        subst g3
        by_cases c1 : anyB i (fun q => decide (dg M P way (P - 1 - q) = dg M P way (P - 1 - i))) = true
        · simp only [z, c1, ↓reduceIte, Bool.false_eq_true]
          refine ⟨_, rfl, ?_, ?_, ?_, ?_, ?_⟩
          · rfl
          · exact ⟨_, hmet, rfl, hbits⟩
          · rw [hnd, c0, c1]; rfl
          · rfl
          · exact hrow
        · simp only [z, c1, ↓reduceIte, Bool.false_eq_true]
          refine ⟨_, rfl, ?_, ?_, ?_, ?_, ?_⟩
          · rfl
          · exact ⟨_, hmet, rfl, hbits⟩
          · have c1 : anyB i (fun q => decide (dg M P way (P - 1 - q) = dg M P way (P - 1 - i))) = false := by simpa using c1
            rw [hnd, c0, c1]; rfl
          · rfl
          · exact hrow
      · rw [if_neg c0] at g3
        subst g3
        simp only [↓reduceIte]
        refine ⟨_, rfl, ?_, ?_, ?_, ?_, ?_⟩
        · rfl
        · exact ⟨_, hmet, rfl, hbits⟩
        · have c0 : ndB (fun q => dg M P way (P - 1 - q)) i = false := by simpa using c0
          rw [hnd, c0]; rfl
        · rfl
        · exact hrow) (by
      rintro ⟨x1, x2, x3, x4, x5⟩ ⟨g1, -, g3, g4, g5⟩
      dsimp only at g1 g3 g4 g5 ⊢
      subst g4
      have hcond : ((nI (P - P) - nI 1) < nI 0) = True := by rw [nI_sub_neg (by omega) (by omega)]; exact eq_true (by omega)
      refine ⟨(x3, x5), ?_, ?_, fun j hj => g5 j (by omega) hj⟩
      · simp only [b_X7_isRow_1, fa_lit, hcond, ↓reduceIte]
      · dsimp only
        rw [g3, ndB_row]) (by omega) ⟨by rw [Nat.pow_zero, Nat.div_one], ⟨0, by omega, rfl, fun v hv => by simp [anyB]⟩, rfl, (by show many 0 - 1 = _; rw [dm0]; rfl), fun j j1 j2 => by omega⟩
  obtain ⟨t1, t2⟩ := t
  dsimp only at h2 h3
  refine ⟨t2, ?_, h3⟩
  rw [show lp (fun x : Int32 × Int32 × Int32 × Int32 × FN => b_X7_isRow_1 N many x.1 x.2.1 x.2.2.1 x.2.2.2.1 x.2.2.2.2) N (nI way, 0, 1, many (ci 0) - 1, row) = _ from h1, Option.bind_some]
  dsimp only
  rw [h2]
  split <;> rfl
/-- where each man stands, by a row -/
def w2 (d : Nat → Nat) : Nat → Nat → Nat
  | 0 => fun _ => 0
  | i + 1 => updN (w2 d i) (d i) (i + 1)
theorem w2_at {d : Nat → Nat} : ∀ n, (∀ a b, a < b → b < n → d a ≠ d b) → ∀ p, p < n → w2 d n (d p) = p + 1 := by
  intro n
  induction n with
  | zero => intro _ p hp; omega
  | succ n ih =>
    intro h p hp
    rw [w2]
    by_cases e : p = n
    · subst e; exact updN_same
    · rw [updN_ne (h p n (by omega) (by omega))]
      exact ih (fun a b h1 h2 => h a b h1 (by omega)) p (by omega)
theorem w2_no {d : Nat → Nat} {m : Nat} : ∀ n, (∀ p, p < n → d p ≠ m) → w2 d n m = 0 := by
  intro n
  induction n with
  | zero => intro _; rfl
  | succ n ih =>
    intro h
    rw [w2, updN_ne (fun e => h n (by omega) e.symm)]
    exact ih (fun p hp => h p (by omega))
theorem w2_le {d : Nat → Nat} (m : Nat) : ∀ n, w2 d n m ≤ n := by
  intro n
  induction n with
  | zero => exact Nat.le_refl _
  | succ n ih =>
    rw [w2]
    by_cases e : m = d n
    · rw [e, updN_same]; exact Nat.le_refl _
    · rw [updN_ne e]; omega
def wi (t : FN) (d : Nat → Nat) : Nat → FN
  | 0 => t
  | i + 1 => upd (wi t d i) (7 + d i) (nI (i + 1))
set_option maxHeartbeats 1000000 in
theorem greatest_eq (hN : 8000 < N) (dr : DR P M ON ST CO dposts dsees dcold dmen don dstove many sees cold) (iv : IV P M H D W G S V) (hH : H ≤ 200) (rs : RS M s H D W S V) (hM0 : 0 < M) {way : Nat} (hr : rowB M P way = true) (row w : FN) (hrow : ∀ j, j < P → row j = nI (dg M P way j)) : ∃ w', f_X7_greatest N many cold s w row = some (nI (cst M P (dtN H ON CO D) way), w') := by
  obtain ⟨⟨e1, e2, e3, e4⟩, ⟨dm0, dm1, dm2, dm3⟩, ⟨dP, dM, dON, dST⟩, dco, dse⟩ := id dr
  obtain ⟨hP, hM, hH9, hD, hW, lk, hS, hV⟩ := id iv
  rw [rowB_iff] at hr
  have hdl : ∀ j, dg M P way j < M := fun j => dg_lt hM0
  unfold f_X7_greatest
  rw [asNow_eq hN, Option.bind_some]
  -- nobody stands
  have l1 : lp (fun x : Int32 × FN => b_X7_greatest_1 N many x.1 x.2) N (0, rowF s w 0 48) = some (rowF (fun _ => nI 0) (rowF s w 0 48) 7 M) := by
    have h := lp_seq (body := fun x : Int32 × FN => b_X7_greatest_1 N many x.1 x.2) (t := rowF (fun _ => nI 0) (rowF s w 0 48) 7 M) (fun i => (nI i, rowF (fun _ => nI 0) (rowF s w 0 48) 7 i)) M (N := N) (by
      intro i hi
      have n1 : ¬ M ≤ i := by omega
      have n2 : 7 + i < 48 := by omega
      simp (disch := omega) only [b_X7_greatest_1, fa_lit, dm1, nI_leI, n1, ↓reduceIte, nI_add, ix_iff, ci_nI, n2]
      rw [rowF_step (fun _ => nI 0) (rowF s w 0 48) 7 i]) (by simp (disch := omega) only [b_X7_greatest_1, fa_lit, dm1, ci_nI, nI_leI, Nat.le_refl, ↓reduceIte]) (by omega)
    rw [rowF_0] at h
    exact h
  rw [show lp (fun x : Int32 × FN => b_X7_greatest_1 N many x.1 x.2) N (0, rowF s w 0 48) = _ from l1, Option.bind_some]
  -- the row stands
  have l2 : lp (fun x : Int32 × FN => b_X7_greatest_2 N many row x.1 x.2) N (0, rowF (fun _ => nI 0) (rowF s w 0 48) 7 M) = some (wi (rowF (fun _ => nI 0) (rowF s w 0 48) 7 M) (dg M P way) P) := by
    exact lp_seq (body := fun x : Int32 × FN => b_X7_greatest_2 N many row x.1 x.2) (t := wi (rowF (fun _ => nI 0) (rowF s w 0 48) 7 M) (dg M P way) P) (fun i => (nI i, wi (rowF (fun _ => nI 0) (rowF s w 0 48) 7 M) (dg M P way) i)) P (N := N) (by
      intro i hi
      have n1 : ¬ P ≤ i := by omega
      have n2 : i < 5 := by omega
      have := hdl i
      have n3 : 7 + dg M P way i < 48 := by omega
      simp (disch := omega) only [b_X7_greatest_2, fa_lit, dm0, nI_leI, n1, ↓reduceIte, nI_add, ix_iff, ci_nI, n2, n3, hrow i hi]
      rfl) (by simp (disch := omega) only [b_X7_greatest_2, fa_lit, dm0, ci_nI, nI_leI, Nat.le_refl, ↓reduceIte]) (by omega)
  rw [show lp (fun x : Int32 × FN => b_X7_greatest_2 N many row x.1 x.2) N (0, rowF (fun _ => nI 0) (rowF s w 0 48) 7 M) = _ from l2, Option.bind_some]
  generalize hT : rowF (fun _ => nI 0) (rowF s w 0 48) 7 M = T at *
  have hTw : ∀ m, m < M → T (7 + m) = nI 0 := fun m hm => by rw [← hT]; exact rowF_in hm
  have hTo : ∀ j, j < 48 → ¬ (7 ≤ j ∧ j < 7 + M) → T j = s j := fun j hj hn => by rw [← hT, rowF_out hn]; exact rowF48 _ _ j hj
  have wi_w : ∀ i m, m < M → wi T (dg M P way) i (7 + m) = nI (w2 (dg M P way) i m) := by
    intro i
    induction i with
    | zero => intro m hm; exact hTw m hm
    | succ i ih =>
      intro m hm
      rw [wi, w2]
      by_cases e : m = dg M P way i
      · rw [e, upd_same, updN_same]
      · rw [upd_ne (by omega), updN_ne e]; exact ih m hm
  have wi_o : ∀ i j, j < 48 → ¬ (7 ≤ j ∧ j < 7 + M) → wi T (dg M P way) i j = s j := by
    intro i
    induction i with
    | zero => intro j hj hn; exact hTo j hj hn
    | succ i ih =>
      intro j hj hn
      have := hdl i
      rw [wi, upd_ne (by omega)]
      exact ih j hj hn
  have lk2 : LK M (w2 (dg M P way) P) (fun p => if p < P then some (dg M P way p) else none) := by
    intro p hp m
    constructor
    · intro h
      by_cases hpP : p < P
      · simp only [hpP, ↓reduceIte, Option.some.injEq] at h
        subst h
        exact ⟨hdl p, w2_at P hr p hpP⟩
      · simp only [hpP, ↓reduceIte] at h; cases h
    · rintro ⟨h1, h2⟩
      by_cases hex : ∃ q, q < P ∧ dg M P way q = m
      · obtain ⟨q, q1, rfl⟩ := hex
        rw [w2_at P hr q q1] at h2
        have : q = p := by omega
        subst this
        simp only [q1, ↓reduceIte]
      · rw [w2_no P (fun q hq e => hex ⟨q, hq, e⟩)] at h2
        omega
  have rs2 : RS M (wi T (dg M P way) P) H D (w2 (dg M P way) P) S V := by
    refine ⟨by rw [wi_o P 0 (by omega) (by omega)]; exact rs.1, fun m hm => by rw [wi_o P _ (by omega) (by omega)]; exact rs.2.1 m hm, fun m hm => wi_w P m hm, fun p hp => by rw [wi_o P _ (by omega) (by omega)]; exact rs.2.2.2.1 p hp, fun m hm p hp => by rw [wi_o P _ (by omega) (by omega)]; exact rs.2.2.2.2 m hm p hp⟩
  have iv2 : IV P M H D (w2 (dg M P way) P) (fun p => if p < P then some (dg M P way p) else none) S V := ⟨hP, hM, hH9, hD, fun m hm => w2_le m P, lk2, hS, hV⟩
  -- the hours
  obtain ⟨t, h3, D', S', V', r1, r2, r3⟩ := lp_inv (body := fun x : Int32 × FN => b_X7_greatest_3 N many cold x.1 x.2) (Q := fun t => ∃ D' S' V', RS M t (H + ON) D' (w2 (dg M P way) P) S' V' ∧ IV P M (H + ON) D' (w2 (dg M P way) P) (fun p => if p < P then some (dg M P way p) else none) S' V' ∧ ∀ p, p < P → D' (dg M P way p) = min 60 (D (dg M P way p) + grk H (CO p) ON)) (fun j x => x.1 = nI j ∧ ∃ D' S' V', RS M x.2 (H + j) D' (w2 (dg M P way) P) S' V' ∧ IV P M (H + j) D' (w2 (dg M P way) P) (fun p => if p < P then some (dg M P way p) else none) S' V' ∧ ∀ p, p < P → D' (dg M P way p) = min 60 (D (dg M P way p) + grk H (CO p) j)) ON (0, wi T (dg M P way) P) N (by
      rintro j ⟨y1, y2⟩ hj ⟨hy1, D1, S1, V1, g1, g2, g3⟩
      dsimp only at hy1 g1 ⊢
      subst hy1
      have n4 : ¬ ON ≤ j := by omega
      obtain ⟨s', D2, S2, V2, t1, t2, t3, t4⟩ := goes_ref hN dr g2 (by omega) g1
      refine Or.inl ⟨(nI (j + 1), s'), ?_, rfl, D2, S2, V2, t2, t3, fun p hp => ?_⟩
      · simp (disch := omega) only [b_X7_greatest_3, fa_lit, dm2, ci_nI, nI_leI, n4, ↓reduceIte, t1, ob, nI_add]
      · rw [t4 _ (hdl p), g3 p hp, w2_at P hr p hp, stD, if_neg (by omega), Nat.add_sub_cancel]
        show _ = min 60 (D (dg M P way p) + (sumN j _ + bur (CO p) (H + j)))
        unfold grk
        omega) (by
      rintro ⟨y1, y2⟩ ⟨hy1, hq⟩
      dsimp only at hy1 hq ⊢
      subst hy1
      refine ⟨y2, ?_, hq⟩
      simp (disch := omega) only [b_X7_greatest_3, fa_lit, dm2, ci_nI, nI_leI, Nat.le_refl, ↓reduceIte]) (by omega) ⟨rfl, D, S, V, rs2, iv2, fun p hp => by
        have := hD _ (hdl p)
        show _ = min 60 (D (dg M P way p) + 0)
        omega⟩
  rw [show lp (fun x : Int32 × FN => b_X7_greatest_3 N many cold x.1 x.2) N (0, wi T (dg M P way) P) = _ from h3, Option.bind_some]
  -- the greatest
  have hb : ∀ i, mxN i (fun j => dtN H ON CO D (dg M P way j) j) ≤ 60 := fun i => mxN_le (fun j _ => Nat.min_le_left _ _)
  have l4 : lp (fun x : Int32 × Int32 => b_X7_greatest_4 N many t row x.1 x.2) N (0, 0) = some (nI (mxN P (fun j => dtN H ON CO D (dg M P way j) j))) := by
    exact lp_seq (body := fun x : Int32 × Int32 => b_X7_greatest_4 N many t row x.1 x.2) (t := nI (mxN P (fun j => dtN H ON CO D (dg M P way j) j))) (fun i => (nI (mxN i (fun j => dtN H ON CO D (dg M P way j) j)), nI i)) P (N := N) (by
      intro i hi
      have n1 : ¬ P ≤ i := by omega
      have n2 : i < 5 := by omega
      have h7 := hdl i
      have n3 : 1 + dg M P way i < 48 := by omega
      have e5 : t (1 + dg M P way i) = nI (dtN H ON CO D (dg M P way i) i) := by rw [r1.2.1 _ h7, r3 i hi]; rfl
      have b1 := hb i
      have b2 : dtN H ON CO D (dg M P way i) i ≤ 60 := Nat.min_le_left _ _
      simp (disch := omega) only [b_X7_greatest_4, fa_lit, dm0, nI_leI, n1, ↓reduceIte, nI_add, ix_iff, ci_nI, n2, n3, hrow i hi, e5]
      rw [mxN]
      by_cases hc : dtN H ON CO D (dg M P way i) i ≤ mxN i (fun j => dtN H ON CO D (dg M P way j) j)
      · rw [if_pos hc, Nat.max_eq_left hc]
      · rw [if_neg hc, Nat.max_eq_right (by omega)]) (by simp (disch := omega) only [b_X7_greatest_4, fa_lit, dm0, ci_nI, nI_leI, Nat.le_refl, ↓reduceIte]) (by omega)
  rw [show lp (fun x : Int32 × Int32 => b_X7_greatest_4 N many t row x.1 x.2) N (0, 0) = _ from l4, Option.bind_some]
  exact ⟨t, rfl⟩
def lR (M P : Nat) (dt : Nat → Nat → Nat) : Option Nat → Int32
  | none => nI 1000000
  | some b => nI (cst M P dt b)
theorem best_eq (hN : 8000 < N) (hP : P ≤ 5) (dm0 : many 0 = nI P) (row best : FN) (p1 p2 p3 p4 : Int32) : lp (fun x : Int32 × FN => b_X7_rota_3 N p1 p2 p3 p4 many row x.1 x.2) N (0, best) = some (rowF row best 0 P) := by
  have h := lp_seq (body := fun x : Int32 × FN => b_X7_rota_3 N p1 p2 p3 p4 many row x.1 x.2) (t := rowF row best 0 P) (fun i => (nI i, rowF row best 0 i)) P (N := N) (by
    intro i hi
    have n1 : ¬ P ≤ i := by omega
    have n2 : i < 5 := by omega
    simp (disch := omega) only [b_X7_rota_3, fa_lit, dm0, nI_leI, n1, ↓reduceIte, ix_iff, ci_nI, n2, nI_add]
    have := rowF_step row best 0 i
    rw [Nat.zero_add] at this
    rw [this]) (by simp (disch := omega) only [b_X7_rota_3, fa_lit, dm0, ci_nI, nI_leI, Nat.le_refl, ↓reduceIte]) (by omega)
  rw [rowF_0] at h
  exact h
set_option maxHeartbeats 1000000 in
theorem rota_ref (hN : 8000 < N) (dr : DR P M ON ST CO dposts dsees dcold dmen don dstove many sees cold) (iv : IV P M H D W G S V) (hH : H ≤ 200) (rs : RS M s H D W S V) (hP0 : 0 < P) (hM0 : 0 < M) (p1 : Int32) (w row best : FN) : ∃ t, lp (fun x : Int32 × Int32 × FN × FN × FN => b_X7_rota_2 N p1 (nI (M ^ P)) many cold s x.1 x.2.1 x.2.2.1 x.2.2.2.1 x.2.2.2.2) N (1000000, 0, w, row, best) = some t ∧ t.1 = lR M P (dtN H ON CO D) (FB M P (dtN H ON CO D) (M ^ P)) ∧ ∀ b, FB M P (dtN H ON CO D) (M ^ P) = some b → ∀ j, j < P → t.2.2.2 j = nI (dg M P b j) := by
  obtain ⟨⟨e1, e2, e3, e4⟩, ⟨dm0, dm1, dm2, dm3⟩, ⟨dP, dM, dON, dST⟩, dco, dse⟩ := id dr
  have hpw := pow_le dP dM
  have hcle : ∀ way, cst M P (dtN H ON CO D) way ≤ 60 := fun way => mxN_le (fun j _ => Nat.min_le_left _ _)
  obtain ⟨t, h1, h2, h3⟩ := lp_inv (body := fun x : Int32 × Int32 × FN × FN × FN => b_X7_rota_2 N p1 (nI (M ^ P)) many cold s x.1 x.2.1 x.2.2.1 x.2.2.2.1 x.2.2.2.2) (Q := fun t => t.1 = lR M P (dtN H ON CO D) (FB M P (dtN H ON CO D) (M ^ P)) ∧ ∀ b, FB M P (dtN H ON CO D) (M ^ P) = some b → ∀ j, j < P → t.2.2.2 j = nI (dg M P b j))
    (fun n x => x.1 = lR M P (dtN H ON CO D) (FB M P (dtN H ON CO D) n) ∧ x.2.1 = nI n ∧ ∀ b, FB M P (dtN H ON CO D) n = some b → ∀ j, j < P → x.2.2.2.2 j = nI (dg M P b j)) (M ^ P) (1000000, 0, w, row, best) N (by
      rintro n ⟨x1, x2, x3, x4, x5⟩ hn ⟨g1, g2, g3⟩
      dsimp only at g1 g2 g3 ⊢
      subst g1 g2
      have n1 : ¬ M ^ P ≤ n := by omega
      obtain ⟨row', k1, k2⟩ := isRow_eq (N := N) hN dP hP0 dM hM0 dm0 dm1 (way := n) (by omega) x4
      have z : ¬ nI 1 = nI 0 := by decide
      refine Or.inl ?_
      by_cases hr : rowB M P n = true
      · rw [if_pos hr] at k1
        obtain ⟨w', k3⟩ := greatest_eq hN dr iv hH rs hM0 hr row' x3 k2
        have hc := hcle n
        by_cases hlt : cst M P (dtN H ON CO D) n < lst M P (dtN H ON CO D) (FB M P (dtN H ON CO D) n)
        · have hfb := FB_take hr hlt
          have hnle : ¬ lR M P (dtN H ON CO D) (FB M P (dtN H ON CO D) n) ≤ nI (cst M P (dtN H ON CO D) n) := by
            cases hf : FB M P (dtN H ON CO D) n with
            | none => exact nI_ge (by omega) (by omega)
            | some b =>
              rw [hf] at hlt
              have := hcle b
              exact nI_ge hlt (by omega)
          have hbest := best_eq (N := N) hN dP dm0 row' x5 p1 (nI (M ^ P)) (nI (cst M P (dtN H ON CO D) n)) (nI n)
          simp (disch := omega) only [b_X7_rota_2, fa_lit, nI_leI, n1, ↓reduceIte, k1, ob, z, k3, hnle, nI_add]
          rw [show lp (fun x : Int32 × FN => b_X7_rota_3 N p1 (nI (M ^ P)) (nI (cst M P (dtN H ON CO D) n)) (nI n) many row' x.1 x.2) N (nI 0, x5) = _ from hbest]
          simp only [ob]
          refine ⟨_, rfl, ?_, rfl, fun b hb j hj => ?_⟩
          · rw [hfb]; rfl
          · rw [hfb] at hb
            cases hb
            have := rowF_in (f := row') (g := x5) (a := 0) (n := P) (j := j) hj
            rw [Nat.zero_add] at this
            dsimp only
            rw [this]
            exact k2 j hj
        · have hfb : FB M P (dtN H ON CO D) (n + 1) = FB M P (dtN H ON CO D) n := by rw [FB]; simp [hlt]
          have hle : lR M P (dtN H ON CO D) (FB M P (dtN H ON CO D) n) ≤ nI (cst M P (dtN H ON CO D) n) := by
            cases hf : FB M P (dtN H ON CO D) n with
            | none => rw [hf] at hlt; exact absurd (show _ < 61 by omega) hlt
            | some b =>
              rw [hf] at hlt
              exact nI_le (Nat.le_of_not_lt hlt) (by omega)
          simp (disch := omega) only [b_X7_rota_2, fa_lit, nI_leI, n1, ↓reduceIte, k1, ob, z, k3, hle, nI_add]
          refine ⟨_, rfl, ?_, rfl, ?_⟩
          · rw [hfb]
          · rw [hfb]; exact g3
      · rw [if_neg hr] at k1
        have hfb : FB M P (dtN H ON CO D) (n + 1) = FB M P (dtN H ON CO D) n := by rw [FB]; simp [hr]
        simp (disch := omega) only [b_X7_rota_2, fa_lit, nI_leI, n1, ↓reduceIte, k1, ob, nI_add]
        refine ⟨_, rfl, ?_, rfl, ?_⟩
        · rw [hfb]
        · rw [hfb]; exact g3) (by
      rintro ⟨x1, x2, x3, x4, x5⟩ ⟨g1, g2, g3⟩
      dsimp only at g1 g2 g3 ⊢
      subst g2
      refine ⟨(x1, x3, x4, x5), ?_, g1, g3⟩
      simp (disch := omega) only [b_X7_rota_2, nI_leI, Nat.le_refl, ↓reduceIte]) (by omega) ⟨rfl, rfl, fun b hb => by cases hb⟩
  exact ⟨t, h1, h2, h3⟩
theorem all_pow (hN : 8000 < N) (hP : P ≤ 5) (hM : M ≤ 6) (dm0 : many 0 = nI P) (dm1 : many 1 = nI M) (p1 : Int32) : lp (fun x : Int32 × Int32 => b_X7_rota_1 N p1 many x.1 x.2) N (1, 0) = some (nI (M ^ P)) := by
  exact lp_seq (body := fun x : Int32 × Int32 => b_X7_rota_1 N p1 many x.1 x.2) (t := nI (M ^ P)) (fun i => (nI (M ^ i), nI i)) P (N := N) (by
    intro i hi
    have n1 : ¬ P ≤ i := by omega
    simp (disch := omega) only [b_X7_rota_1, fa_lit, dm0, dm1, ci_nI, nI_leI, n1, ↓reduceIte, pk_mul, nI_add, Nat.pow_succ]) (by simp (disch := omega) only [b_X7_rota_1, fa_lit, dm0, ci_nI, nI_leI, Nat.le_refl, ↓reduceIte]) (by omega)
variable {le : Int32} {ch tl dth w row best : FN}
set_option maxHeartbeats 1000000 in
theorem c_rota (hN : 8000 < N) (dr : DR P M ON ST CO dposts dsees dcold dmen don dstove many sees cold) (ws : WS P M hr db gu sd sv s) (a1 : Int32) : ∃ v b1 b2 b3 b4 w' row' best', f_X6_rota N a1 dposts dcold dmen don hr db le ch tl dth = some (v, b1, b2, b3, b4) ∧ f_X7_rota N a1 th many cold s w row best = some (v, 0, w', row', best') := by
  obtain ⟨⟨e1, e2, e3, e4⟩, ⟨dm0, dm1, dm2, dm3⟩, ⟨dP, dM, dON, dST⟩, dco, dse⟩ := id dr
  obtain ⟨H, D, W, G, S, V, rw, rs, iv, hh⟩ := ws
  have hm0 : many (ci 0) = nI P := dm0
  have hm1 : many (ci 1) = nI M := dm1
  have z0 : ¬ nI 1 = (0 : Int32) := by decide
  have zz : nI 0 = (0 : Int32) := rfl
  unfold f_X6_rota f_X7_rota
  rw [e1, e2, e3, rw.1, hm0, hm1]
  have hleI : (nI P ≤ nI M) = (P ≤ M) := propext (nI_leI (by omega) (by omega))
  by_cases hP0 : P = 0
  · subst hP0
    rw [if_pos zz, if_pos zz, if_pos zz, if_pos zz]
    by_cases ha : a1 = -1
    · rw [if_pos ha, if_pos ha]
      exact ⟨-9, _, _, _, _, _, _, _, rfl, rfl⟩
    · rw [if_neg ha, if_neg ha]
      rcases post_cases (N := N) (many := many) a1 dP dm0 with ⟨h1, h2⟩ | ⟨p, hp, rfl, h1, h2⟩
      · rw [h1, h2, Option.bind_some, Option.bind_some, if_pos zz, if_pos zz]
        exact ⟨-1, _, _, _, _, _, _, _, rfl, rfl⟩
      · omega
  have zp : ¬ nI P = (0 : Int32) := nI_ne0 (by omega) (by omega)
  by_cases hPM : P ≤ M
  · have hle : nI P ≤ nI M := nI_le hPM (by omega)
    obtain ⟨least, chosen, trial, l, s1, s2⟩ := search_eq (N := N) (ON := ON) (CO := CO) hN dP dM (by omega) dON hh (fun p hp => ⟨(dco p hp).1, (dco p hp).2.2⟩) rw.2.1 iv.2.2.2.1 le ch tl dth
    obtain ⟨t, r1, r2, r3⟩ := rota_ref hN dr iv hh rs (by omega) (by omega) a1 w row best
    have ha := all_pow (N := N) (many := many) hN dP dM dm0 dm1 a1
    obtain ⟨wk1, wk2⟩ := wit_ok dP dM hPM
    obtain ⟨b, hb⟩ := FB_some (dt := dtN H ON CO D) (fun way => mxN_le (fun j _ => Nat.min_le_left _ _)) wk1 (M ^ P) wk2
    rw [hb] at r2 s2
    have s3 : least = nI (cst M P (dtN H ON CO D) b) := s2.1
    rw [if_neg zp, if_neg zp, if_neg zp, if_neg zp, if_pos hle, if_pos hle, if_pos hle, if_pos hle, s1, Option.bind_some, Option.bind_some, show lp (fun x : Int32 × Int32 => b_X7_rota_1 N a1 many x.1 x.2) N (1, 0) = _ from ha, show lp (fun x : Int32 × Int32 => b_X7_rota_4 N a1 many x.1 x.2) N (1, 0) = _ from ha, Option.bind_some, Option.bind_some, show lp (fun x : Int32 × Int32 × FN × FN × FN => b_X7_rota_2 N a1 (nI (M ^ P)) many cold s x.1 x.2.1 x.2.2.1 x.2.2.2.1 x.2.2.2.2) N (1000000, 0, w, row, best) = _ from r1, show lp (fun x : Int32 × Int32 × FN × FN × FN => b_X7_rota_5 N a1 (nI (M ^ P)) many cold s x.1 x.2.1 x.2.2.1 x.2.2.2.1 x.2.2.2.2) N (1000000, 0, w, row, best) = _ from r1, Option.bind_some, Option.bind_some]
    by_cases ha : a1 = -1
    · rw [if_pos ha, if_pos ha, s3, r2]
      exact ⟨_, _, _, _, _, _, _, _, rfl, rfl⟩
    · rw [if_neg ha, if_neg ha]
      rcases post_cases (N := N) (many := many) a1 dP dm0 with ⟨h1, h2⟩ | ⟨p, hp, rfl, h1, h2⟩
      · rw [h1, h2, Option.bind_some, Option.bind_some, if_pos zz, if_pos zz]
        exact ⟨-1, _, _, _, _, _, _, _, rfl, rfl⟩
      · have hx : ix (nI p) 5 = true := (ix_iff (by omega)).mpr (by omega)
        rw [h1, h2, Option.bind_some, Option.bind_some, if_neg z0, if_neg z0, if_pos hx, if_pos hx, ci_nI (by omega)]
        dsimp only
        rw [s2.2 b rfl p hp, r3 b hb p hp]
        exact ⟨_, _, _, _, _, _, _, _, rfl, rfl⟩
  · have hle : ¬ nI P ≤ nI M := by rw [hleI]; exact hPM
    rw [if_neg zp, if_neg zp, if_neg zp, if_neg zp, if_neg hle, if_neg hle, if_neg hle, if_neg hle]
    by_cases ha : a1 = -1
    · rw [if_pos ha, if_pos ha]
      exact ⟨-9, _, _, _, _, _, _, _, rfl, rfl⟩
    · rw [if_neg ha, if_neg ha]
      rcases post_cases (N := N) (many := many) a1 dP dm0 with ⟨h1, h2⟩ | ⟨p, hp, rfl, h1, h2⟩
      · rw [h1, h2, Option.bind_some, Option.bind_some, if_pos zz, if_pos zz]
        exact ⟨-1, _, _, _, _, _, _, _, rfl, rfl⟩
      · rw [h1, h2, Option.bind_some, Option.bind_some, if_neg z0, if_neg z0]
        exact ⟨-9, _, _, _, _, _, _, _, rfl, rfl⟩
end RT

/-! ===== pure side: the class's search ===== -/
def grk (H : Nat) (c : Nat) (k : Nat) : Nat := sumN k (fun i => bur c (H + i))
def dtN (H ON : Nat) (CO D : Nat → Nat) (m p : Nat) : Nat := min 60 (D m + grk H (CO p) ON)
section PN
variable {N : Nat} {P M ON ST H : Nat} {CO : Nat → Nat} {D W S V : Nat → Nat} {db dcold : FN}
theorem grk_le {c : Nat} (hc : c ≤ 9) {k : Nat} (hk : k ≤ 9) : grk H c k ≤ 81 := by
  have := sum_le (f := fun i => bur c (H + i)) (c := 9) (n := k) (fun i _ => bur_le hc)
  unfold grk
  omega
theorem weigh2_eq (hN : 8000 < N) (hON : ON ≤ 9) (hH : H ≤ 200) {p : Nat} (hp : p < 5) (hc : dcold p = nI (CO p)) (hc9 : CO p ≤ 9) : lp (fun x : Int32 × Int32 => b_X3_weighAll_2 N (nI p) dcold (nI ON) (nI H) x.1 x.2) N (0, 0) = some (nI (grk H (CO p) ON)) := by
  exact lp_seq (body := fun x : Int32 × Int32 => b_X3_weighAll_2 N (nI p) dcold (nI ON) (nI H) x.1 x.2) (t := nI (grk H (CO p) ON)) (fun i => (nI (grk H (CO p) i), nI i)) ON (N := N) (by
    intro i hi
    have n1 : ¬ ON ≤ i := by omega
    have hb := burden_eq (N := N) (p := p) (h := H + i) (dcold := dcold) hp (by omega) hc hc9
    simp (disch := omega) only [b_X3_weighAll_2, fa_lit, nI_leI, n1, ↓reduceIte, nI_add, hb, ob]
    rfl) (by simp (disch := omega) only [b_X3_weighAll_2, nI_leI, Nat.le_refl, ↓reduceIte]) (by omega)
theorem weighAll_eq (hN : 8000 < N) (hP : P ≤ 5) (hM : M ≤ 6) (hON : ON ≤ 9) (hH : H ≤ 200) (hco : ∀ p, p < P → dcold p = nI (CO p) ∧ CO p ≤ 9) (hdb : ∀ m, m < M → db m = nI (D m)) (hD : ∀ m, m < M → D m ≤ 60) (l0 : FN) : ∃ l, f_X3_weighAll N (nI P) dcold (nI M) (nI ON) (nI H) db l0 = some l ∧ ∀ m, m < M → ∀ p, p < P → l (5 * m + p) = nI (dtN H ON CO D m p) := by
  unfold f_X3_weighAll
  obtain ⟨t, h1, h2⟩ := lp_inv (body := fun x : Int32 × FN => b_X3_weighAll_1 N (nI P) dcold (nI M) (nI ON) (nI H) db x.1 x.2) (Q := fun l => ∀ m, m < M → ∀ p, p < P → l (5 * m + p) = nI (dtN H ON CO D m p)) (fun i x => x.1 = nI i ∧ ∀ m, m < M → ∀ p, p < i → x.2 (5 * m + p) = nI (dtN H ON CO D m p)) P (0, l0) N (by
    rintro i ⟨x1, x2⟩ hi ⟨hx1, hx2⟩
    dsimp only at hx1 hx2 ⊢
    subst hx1
    obtain ⟨c1, c2⟩ := hco i hi
    have n1 : ¬ P ≤ i := by omega
    have e2 := weigh2_eq (N := N) (ON := ON) (H := H) (CO := CO) hN hON hH (p := i) (by omega) c1 c2
    have hg := grk_le (H := H) c2 hON
    obtain ⟨t, g1, g2⟩ := lp_inv (body := fun x : Int32 × FN => b_X3_weighAll_3 N (nI i) (nI (grk H (CO i) ON)) (nI M) db x.1 x.2) (Q := fun l => ∀ m, m < M → ∀ p, p < i + 1 → l (5 * m + p) = nI (dtN H ON CO D m p)) (fun j x => x.1 = nI j ∧ (∀ m, m < M → ∀ p, p < i → x.2 (5 * m + p) = nI (dtN H ON CO D m p)) ∧ ∀ m, m < j → x.2 (5 * m + i) = nI (dtN H ON CO D m i)) M (0, x2) N (by
      rintro j ⟨y1, y2⟩ hj ⟨hy1, hy2, hy3⟩
      dsimp only at hy1 hy2 hy3 ⊢
      subst hy1
      have m1 : ¬ M ≤ j := by omega
      have m2 : j < 6 := by omega
      have m3 : j * 5 + i < 30 := by omega
      have d1 := hD j hj
      have e3 : (if 60 < D j + grk H (CO i) ON then nI 60 else nI (D j + grk H (CO i) ON)) = nI (dtN H ON CO D j i) := by
        unfold dtN
        by_cases h : 60 < D j + grk H (CO i) ON
        · rw [if_pos h, Nat.min_eq_left (by omega)]
        · rw [if_neg h, Nat.min_eq_right (by omega)]
      refine Or.inl ⟨(nI (j + 1), upd y2 (5 * j + i) (nI (dtN H ON CO D j i))), ?_, rfl, ?_, ?_⟩
      · simp (disch := omega) only [b_X3_weighAll_3, fa_lit, nI_leI, m1, ↓reduceIte, ix_iff, ci_nI, m2, pk_mul, nI_add, m3, hdb j hj, nI_ltI, e3]
        rw [show j * 5 + i = 5 * j + i by omega]
      · intro m hm p hp
        dsimp only
        rw [upd_ne (by omega)]
        exact hy2 m hm p hp
      · intro m hm
        by_cases e : m = j
        · subst e; exact upd_same
        · dsimp only
          rw [upd_ne (by omega)]
          exact hy3 m (by omega)) (by
      rintro ⟨y1, y2⟩ ⟨hy1, hy2, hy3⟩
      dsimp only at hy1 hy2 hy3 ⊢
      subst hy1
      refine ⟨y2, ?_, fun m hm p hp => ?_⟩
      · simp (disch := omega) only [b_X3_weighAll_3, nI_leI, Nat.le_refl, ↓reduceIte]
      · by_cases e : p = i
        · subst e; exact hy3 m hm
        · exact hy2 m hm p (by omega)) (by omega) ⟨rfl, hx2, fun m hm => by omega⟩
    refine Or.inl ⟨(nI (i + 1), t), ?_, rfl, g2⟩
    simp (disch := omega) only [b_X3_weighAll_1, nI_leI, n1, ↓reduceIte]
    rw [e2, Option.bind_some, show lp (fun x : Int32 × FN => b_X3_weighAll_3 N (nI i) (nI (grk H (CO i) ON)) (nI M) db x.1 x.2) N (0, x2) = _ from g1, Option.bind_some]
    simp only [fa_lit, nI_add]) (by
    rintro ⟨x1, x2⟩ ⟨hx1, hx2⟩
    dsimp only at hx1 hx2 ⊢
    subst hx1
    refine ⟨x2, ?_, hx2⟩
    simp (disch := omega) only [b_X3_weighAll_1, nI_leI, Nat.le_refl, ↓reduceIte]) (by omega) ⟨rfl, fun m hm p hp => by omega⟩
  refine ⟨t, ?_, h2⟩
  rw [show lp (fun x : Int32 × FN => b_X3_weighAll_1 N (nI P) dcold (nI M) (nI ON) (nI H) db x.1 x.2) N (0, l0) = _ from h1]; rfl
/-- what the search knows -/
def ENC (M P : Nat) (dt : Nat → Nat → Nat) (least : Int32) (chosen : FN) (o : Option Nat) : Prop := least = nI (lst M P dt o) ∧ ∀ b, o = some b → ∀ j, j < P → chosen j = nI (dg M P b j)
variable {dt : Nat → Nat → Nat} {l : FN}
set_option maxHeartbeats 1000000 in
theorem try_eq (hN : 8000 < N) (hP : P ≤ 5) (hM : M ≤ 6) (hM0 : 0 < M) (hdt : ∀ m p, dt m p ≤ 60) (hl : ∀ m, m < M → ∀ p, p < P → l (5 * m + p) = nI (dt m p)) : ∀ (k p rr pv sent : Nat) (least : Int32) (chosen trial : FN), p + k = P → k < rr → rowB M p pv = true → sent < 64 → (∀ m, m < M → sent.testBit m = anyB p (fun j => decide (dg M p pv j = m))) → (∀ j, j < p → trial j = nI (dg M p pv j)) → ENC M P dt least chosen (FB M P dt (pv * M ^ k)) →
    ∃ least' chosen' trial', f_X3_tryFrom N rr (nI p) (nI sent) (nI (mxN p (fun j => dt (dg M p pv j) j))) (nI P) (nI M) least chosen trial l = some (least', chosen', trial') ∧ ENC M P dt least' chosen' (FB M P dt ((pv + 1) * M ^ k)) ∧ ∀ j, j < p → trial' j = trial j := by
  have hcle : ∀ way, cst M P dt way ≤ 60 := fun way => mxN_le (fun j _ => hdt _ _)
  have hlst : ∀ o, lst M P dt o ≤ 61 := by
    intro o
    cases o with
    | none => exact Nat.le_refl _
    | some b => have := hcle b; show cst M P dt b ≤ 61; omega
  intro k
  induction k with
  | zero =>
    intro p rr pv sent least chosen trial hpk hrr hrow hsent hbit htr henc
    obtain ⟨rr, rfl⟩ : ∃ r, rr = r + 1 := ⟨rr - 1, by omega⟩
    have hpP : p = P := by omega
    subst hpP
    rw [Nat.pow_zero, Nat.mul_one] at henc ⊢
    have hg : mxN p (fun j => dt (dg M p pv j) j) ≤ 60 := hcle pv
    have hll := hlst (FB M p dt pv)
    show ∃ least' chosen' trial', g_X3_tryFrom N (f_X3_tryFrom N rr) (nI p) (nI sent) _ (nI p) (nI M) least chosen trial l = _ ∧ _
    unfold g_X3_tryFrom
    rw [henc.1]
    by_cases hlt : mxN p (fun j => dt (dg M p pv j) j) < lst M p dt (FB M p dt pv)
    · rw [if_pos (nI_lt hlt (by omega)), if_neg (nI_nlt (Nat.le_refl _) (by omega))]
      refine ⟨_, _, _, rfl, ?_, fun j _ => rfl⟩
      rw [FB_take hrow hlt]
      refine ⟨rfl, fun b hb j hj => ?_⟩
      cases hb
      rw [show va_cpy trial chosen (ci 0) (ci 0) (ci 5) j = trial j from cpy_in (n := 5) (by omega)]
      exact htr j hj
    · rw [if_neg (nI_nlt (by omega) (by omega))]
      refine ⟨_, _, _, rfl, ?_, fun j _ => rfl⟩
      rw [FB_skip (a := pv) (pv + 1) (by omega) (fun way h1 h2 h3 => by
        have : way = pv := by omega
        subst this
        show _ ≤ mxN p _
        omega)]
      exact ⟨rfl, henc.2⟩
  | succ k ih =>
    intro p rr pv sent least chosen trial hpk hrr hrow hsent hbit htr henc
    obtain ⟨rr, rfl⟩ : ∃ r, rr = r + 1 := ⟨rr - 1, by omega⟩
    have hg : mxN p (fun j => dt (dg M p pv j) j) ≤ 60 := mxN_le (fun j _ => hdt _ _)
    have hll := hlst (FB M P dt (pv * M ^ (k + 1)))
    show ∃ least' chosen' trial', g_X3_tryFrom N (f_X3_tryFrom N rr) (nI p) (nI sent) _ (nI P) (nI M) least chosen trial l = _ ∧ _
    unfold g_X3_tryFrom
    rw [henc.1]
    by_cases hlt : mxN p (fun j => dt (dg M p pv j) j) < lst M P dt (FB M P dt (pv * M ^ (k + 1)))
    · rw [if_pos (nI_lt hlt (by omega)), if_pos (nI_lt (show p < P by omega) (by omega))]
      obtain ⟨t, h1, h2, h3⟩ := lp_inv (body := fun x : Int32 × Int32 × FN × FN => b_X3_tryFrom_1 N (f_X3_tryFrom N rr) (nI p) (nI sent) (nI (mxN p (fun j => dt (dg M p pv j) j))) (nI P) (nI M) l x.1 x.2.1 x.2.2.1 x.2.2.2)
        (Q := fun t => ENC M P dt t.1 t.2.1 (FB M P dt ((pv + 1) * M ^ (k + 1))) ∧ ∀ j, j < p → t.2.2 j = trial j)
        (fun m x => x.1 = nI m ∧ ENC M P dt x.2.1 x.2.2.1 (FB M P dt ((pv * M + m) * M ^ k)) ∧ ∀ j, j < p → x.2.2.2 j = trial j) M (0, nI (lst M P dt (FB M P dt (pv * M ^ (k + 1)))), chosen, trial) N (by
          rintro m ⟨x1, x2, x3, x4⟩ hm ⟨g1, g2, g3⟩
          dsimp only at g1 g2 g3 ⊢
          subst g1
          have n1 : ¬ M ≤ m := by omega
          have n2 : p < 5 := by omega
          have n3 : m * 5 + p < 30 := by omega
          have hb := shr_bit (a := sent) (k := m) (by omega) (by omega)
          rw [hbit m hm] at hb
          have hl2 : l (m * 5 + p) = nI (dt m p) := by rw [show m * 5 + p = 5 * m + p by omega]; exact hl m hm p (by omega)
          have hd2 := hdt m p
          refine Or.inl ?_
          by_cases hin : anyB p (fun j => decide (dg M p pv j = m)) = true
          · rw [if_pos hin] at hb
            have z : ¬ nI 1 = nI 0 := by decide
            refine ⟨(nI (m + 1), x2, x3, x4), ?_, rfl, ?_, g3⟩
            · simp (disch := omega) only [b_X3_tryFrom_1, fa_lit, nI_leI, n1, ↓reduceIte, hb, z, nI_add]
            · rw [show pv * M + (m + 1) = (pv * M + m) + 1 by omega, FB_skip (a := (pv * M + m) * M ^ k) ((pv * M + m + 1) * M ^ k) (Nat.mul_le_mul_right _ (by omega)) (fun way w1 w2 w3 => by
                exfalso
                have hw := blk_div hM0 w1 w2
                have hr := rowB_pre (p := p + 1) (k := k) (P := P) (by omega) hw w3
                rw [rowB_iff] at hr
                obtain ⟨j, j1, j2⟩ := anyB_iff.mp hin
                have j2 : dg M p pv j = m := by simpa using j2
                exact hr j p j1 (by omega) (by rw [dg_front hm j1, dg_last hm, j2]))]
              exact g2
          · rw [if_neg hin] at hb
            have hrow' : rowB M (p + 1) (pv * M + m) = true := by
              rw [rowB_iff] at hrow ⊢
              intro a b hab hbp
              by_cases e : b = p
              · subst e
                rw [dg_last hm, dg_front hm hab]
                intro h
                exact hin (anyB_iff.mpr ⟨a, hab, by simpa using h⟩)
              · rw [dg_front hm (by omega), dg_front hm (by omega)]
                exact hrow a b hab (by omega)
            have hmx : mxN (p + 1) (fun j => dt (dg M (p + 1) (pv * M + m) j) j) = max (mxN p (fun j => dt (dg M p pv j) j)) (dt m p) := by
              rw [mxN, dg_last hm, mxN_cong (f := fun j => dt (dg M (p + 1) (pv * M + m) j) j) (g := fun j => dt (dg M p pv j) j) (fun j hj => by rw [dg_front hm hj])]
            obtain ⟨l1, c1, t1, r1, r2, r3⟩ := ih (p + 1) rr (pv * M + m) (sent ||| 2 ^ m) x2 x3 (upd x4 p (nI m)) (by omega) (by omega) hrow' (Nat.or_lt_two_pow (n := 6) hsent (Nat.pow_lt_pow_right (by omega) (by omega))) (fun q hq => by
                rw [Nat.testBit_or, Nat.testBit_two_pow, hbit q hq]
                rw [Bool.eq_iff_iff, Bool.or_eq_true, anyB_iff, anyB_iff]
                constructor
                · rintro (⟨j, j1, j2⟩ | h)
                  · exact ⟨j, by omega, by rw [dg_front hm j1]; exact j2⟩
                  · exact ⟨p, by omega, by rw [dg_last hm]; exact h⟩
                · rintro ⟨j, j1, j2⟩
                  by_cases e : j = p
                  · subst e; rw [dg_last hm] at j2; exact Or.inr j2
                  · rw [dg_front hm (by omega)] at j2; exact Or.inl ⟨j, by omega, j2⟩) (fun j hj => by
                by_cases e : j = p
                · subst e; rw [upd_same, dg_last hm]
                · rw [upd_ne e, g3 j (by omega), dg_front hm (by omega)]
                  exact htr j (by omega)) g2
            rw [hmx] at r1
            have e1 : (if mxN p (fun j => dt (dg M p pv j) j) < dt m p then nI (dt m p) else nI (mxN p (fun j => dt (dg M p pv j) j))) = nI (max (mxN p (fun j => dt (dg M p pv j) j)) (dt m p)) := by
              by_cases h : mxN p (fun j => dt (dg M p pv j) j) < dt m p
              · rw [if_pos h, Nat.max_eq_right (by omega)]
              · rw [if_neg h, Nat.max_eq_left (by omega)]
            refine ⟨(nI (m + 1), l1, c1, t1), ?_, rfl, ?_, fun j hj => ?_⟩
            · simp (disch := omega) only [b_X3_tryFrom_1, fa_lit, nI_leI, n1, ↓reduceIte, hb, ix_iff, ci_nI, n2, pk_mul, nI_add, n3, hl2, nI_ltI, shl_one m (by omega), fa_or, e1, r1, ob]
            · rw [show pv * M + (m + 1) = (pv * M + m) + 1 by omega]
              exact r2
            · dsimp only
              rw [r3 j (by omega), upd_ne (by omega)]
              exact g3 j hj) (by
          rintro ⟨x1, x2, x3, x4⟩ ⟨g1, g2, g3⟩
          dsimp only at g1 g2 g3 ⊢
          subst g1
          refine ⟨(x2, x3, x4), ?_, ?_, g3⟩
          · simp (disch := omega) only [b_X3_tryFrom_1, nI_leI, Nat.le_refl, ↓reduceIte]
          · rw [show (pv + 1) * M ^ (k + 1) = (pv * M + M) * M ^ k by rw [Nat.pow_succ, Nat.mul_comm (M ^ k) M, ← Nat.mul_assoc, Nat.succ_mul]]
            exact g2) (by omega) ⟨rfl, (by
          have e : (pv * M + 0) * M ^ k = pv * M ^ (k + 1) := by rw [Nat.add_zero, Nat.pow_succ, Nat.mul_comm (M ^ k) M, ← Nat.mul_assoc]
          show ENC M P dt _ chosen (FB M P dt ((pv * M + 0) * M ^ k))
          rw [e]
          exact ⟨rfl, henc.2⟩), fun j _ => rfl⟩
      rw [show lp (fun x : Int32 × Int32 × FN × FN => b_X3_tryFrom_1 N (f_X3_tryFrom N rr) (nI p) (nI sent) (nI (mxN p (fun j => dt (dg M p pv j) j))) (nI P) (nI M) l x.1 x.2.1 x.2.2.1 x.2.2.2) N (0, nI (lst M P dt (FB M P dt (pv * M ^ (k + 1)))), chosen, trial) = _ from h1, Option.bind_some]
      exact ⟨_, _, _, rfl, h2, h3⟩
    · rw [if_neg (nI_nlt (by omega) (by omega))]
      refine ⟨_, _, _, rfl, ?_, fun j _ => rfl⟩
      rw [FB_skip (a := pv * M ^ (k + 1)) ((pv + 1) * M ^ (k + 1)) (Nat.mul_le_mul_right _ (by omega)) (fun way w1 w2 w3 => by
        have hw := blk_div hM0 w1 w2
        have := cst_pre (dt := dt) (p := p) (k := k + 1) (P := P) (by omega) hw
        omega)]
      exact ⟨rfl, henc.2⟩
theorem search_eq (hN : 8000 < N) (hP : P ≤ 5) (hM : M ≤ 6) (hM0 : 0 < M) (hON : ON ≤ 9) (hH : H ≤ 200) (hco : ∀ p, p < P → dcold p = nI (CO p) ∧ CO p ≤ 9) (hdb : ∀ m, m < M → db m = nI (D m)) (hD : ∀ m, m < M → D m ≤ 60) (le : Int32) (ch tr l0 : FN) : ∃ least chosen trial l, f_X3_search N (nI P) dcold (nI M) (nI ON) (nI H) db le ch tr l0 = some (least, chosen, trial, l) ∧ ENC M P (dtN H ON CO D) least chosen (FB M P (dtN H ON CO D) (M ^ P)) := by
  obtain ⟨l, h1, h2⟩ := weighAll_eq (N := N) (M := M) (db := db) hN hP hM hON hH hco hdb hD l0
  obtain ⟨least, chosen, trial, h3, h4, -⟩ := try_eq (N := N) (dt := dtN H ON CO D) hN hP hM hM0 (fun m p => Nat.min_le_left _ _) h2 P 0 8 0 0 61 ch tr (by omega) (by omega) rfl (by omega) (fun m hm => by simp [anyB]) (fun j hj => by omega) (by
    rw [Nat.zero_mul]
    exact ⟨rfl, fun b hb => by cases hb⟩)
  rw [Nat.zero_add, Nat.one_mul] at h4
  refine ⟨least, chosen, trial, l, ?_, h4⟩
  unfold f_X3_search
  rw [h1, Option.bind_some, show f_X3_tryFrom N 8 0 0 0 (nI P) (nI M) 61 ch tr l = _ from h3]
  rfl
end PN

/-! ===== pure side: tokens, on both sides ===== -/
section LX
variable {N : Nat} {n : Nat} {C : Nat → Nat} {lets text : FN}
def TXT (n : Nat) (C : Nat → Nat) (lets text : FN) : Prop := n ≤ 200 ∧ ∀ j, j < n → lets j = nI (C j) ∧ text j = nI (C j) ∧ C j < 256
/-- a token, as the class and as the reference have it -/
def TK (n a a' st : Nat) (tC vC tR vR : Int32) : Prop := a ≤ st ∧ st ≤ a' ∧ a' ≤ n ∧ ((st = n ∧ a' = n ∧ tC = -nI 2 ∧ tR = nI 0) ∨ (a < a' ∧ ∃ v, v ≤ 60 ∧ tC = -nI 1 ∧ tR = nI 2 ∧ vC = nI v ∧ vR = nI v) ∨ (a < a' ∧ tC = -nI 3 ∧ tR = nI 4) ∨ (a < a' ∧ ∃ c, c < 256 ∧ tC = nI c ∧ vR = nI c ∧ tR = nI (if c = 59 then 3 else if c = 112 ∨ c = 109 ∨ c = 111 ∨ c = 115 then 1 else 4)))
theorem isDigit_eq {c : Nat} (hc : c < 256) : f_X4_isDigit N (nI c) = some (if 48 ≤ c ∧ c ≤ 57 then nI 1 else nI 0) := by
  have h := within_eq (N := N) (nI c) (nI 48) (nI 57)
  rw [show f_X4_isDigit N (nI c) = f_X6_within N (nI c) (nI 48) (nI 57) from rfl, h]
  simp (disch := omega) only [nI_leI]
theorem inDigit_eq {c : Nat} (hc : c < 256) : f_X7_in N (nI c) (nI 48) (nI 57) = some (if 48 ≤ c ∧ c ≤ 57 then nI 1 else nI 0) := isDigit_eq (N := N) hc
theorem letterAt_in (tx : TXT n C lets text) {j : Nat} (hj : j < n) : f_X7_letterAt N (nI j) text (nI n) = some (nI (C j)) := by
  have n1 : ¬ n ≤ j := by omega
  have n2 : j < 200 := by have := tx.1; omega
  have := tx.1
  simp (disch := omega) only [f_X7_letterAt, nI_leI, n1, ↓reduceIte, ix_iff, ci_nI, n2, (tx.2 j hj).2.1]
theorem letterAt_end (tx : TXT n C lets text) : f_X7_letterAt N (nI n) text (nI n) = some (-nI 1) := by
  have := tx.1
  simp (disch := omega) only [f_X7_letterAt, fa_lit, nI_leI, Nat.le_refl, ↓reduceIte]
theorem blanks_two (hN : 8000 < N) (tx : TXT n C lets text) {a : Nat} (ha : a ≤ n) : ∃ j, a ≤ j ∧ j ≤ n ∧ (j < n → C j ≠ 32) ∧ lp (fun x : Int32 => b_X4_nextToken_1 N lets (nI n) x) N (nI a) = some (nI j) ∧ lp (fun x : Int32 => b_X7_advances_1 N text (nI n) x) N (nI a) = some (nI j) := by
  have hn := tx.1
  obtain ⟨t, t', h1, h2, j, j1, j2, j3, rfl, rfl⟩ := lp_two (b1 := fun x : Int32 => b_X4_nextToken_1 N lets (nI n) x) (b2 := fun x : Int32 => b_X7_advances_1 N text (nI n) x) (Q := fun t t' => ∃ j, a ≤ j ∧ j ≤ n ∧ (j < n → C j ≠ 32) ∧ t = nI j ∧ t' = nI j) (n - a) (fun i x y => x = nI (a + i) ∧ y = nI (a + i)) (nI a) (nI a) N (by
      rintro i x y hi ⟨rfl, rfl⟩
      have n1 : ¬ n ≤ a + i := by omega
      have n2 : a + i < 200 := by omega
      obtain ⟨c1, c2, c3⟩ := tx.2 (a + i) (by omega)
      have e1 := letterAt_in (N := N) tx (j := a + i) (by omega)
      simp (disch := omega) only [b_X4_nextToken_1, b_X7_advances_1, fa_lit, nI_leI, n1, ↓reduceIte, ix_iff, ci_nI, n2, c1, e1, ob, nI_eq, nI_add]
      by_cases h : C (a + i) = 32
      · simp only [h, ↓reduceIte]
        exact Or.inl ⟨_, _, rfl, rfl, by rw [Nat.add_assoc], by rw [Nat.add_assoc]⟩
      · simp only [h, ↓reduceIte]
        exact Or.inr ⟨_, _, rfl, rfl, a + i, by omega, by omega, fun _ => h, rfl, rfl⟩) (by
      rintro x y ⟨rfl, rfl⟩
      have e0 : a + (n - a) = n := by omega
      rw [e0]
      have e1 := letterAt_end (N := N) tx
      have e2 : ¬ (-nI 1 = nI 32) := by rw [neg_ne_nI (by omega) (by omega) (by omega)]; exact fun h => h
      simp (disch := omega) only [b_X4_nextToken_1, b_X7_advances_1, fa_lit, nI_leI, Nat.le_refl, ↓reduceIte, e1, ob, e2]
      exact ⟨_, _, rfl, rfl, n, ha, by omega, fun h => by omega, rfl, rfl⟩) (by omega) ⟨rfl, rfl⟩
  exact ⟨j, j1, j2, j3, h1, h2⟩
/-- numbers as they grow: the same while they are small, both too great else -/
def NV (x y : Int32) : Prop := (∃ v, v ≤ 60 ∧ x = nI v ∧ y = nI v) ∨ (x = nI 61 ∧ ∃ r, 60 < r ∧ r ≤ 700 ∧ y = nI r)
theorem digits_two (hN : 8000 < N) (tx : TXT n C lets text) {a : Nat} (ha : a < n) (hd : 48 ≤ C a ∧ C a ≤ 57) (p1 : Int32) : ∃ e x y, a < e ∧ e ≤ n ∧ NV x y ∧ lp (fun s : Int32 × Int32 => b_X4_takeNumber_1 N lets (nI n) s.1 s.2) N (nI a, 0) = some (nI e, x) ∧ lp (fun s : Int32 × Int32 => b_X7_advances_2 N p1 text (nI n) s.1 s.2) N (nI a, 0) = some (nI e, y) := by
  have hn := tx.1
  obtain ⟨t, t', h1, h2, e, x, y, j1, j2, j3, rfl, rfl⟩ := lp_two (b1 := fun s : Int32 × Int32 => b_X4_takeNumber_1 N lets (nI n) s.1 s.2) (b2 := fun s : Int32 × Int32 => b_X7_advances_2 N p1 text (nI n) s.1 s.2) (Q := fun t t' => ∃ e x y, a < e ∧ e ≤ n ∧ NV x y ∧ t = (nI e, x) ∧ t' = (nI e, y)) (n - a) (fun i x y => x.1 = nI (a + i) ∧ y.1 = nI (a + i) ∧ NV x.2 y.2) (nI a, 0) (nI a, 0) N (by
      rintro i ⟨x1, x2⟩ ⟨y1, y2⟩ hi ⟨g1, g2, g3⟩
      dsimp only at g1 g2 g3 ⊢
      subst g1 g2
      have n1 : ¬ n ≤ a + i := by omega
      have n2 : a + i < 200 := by omega
      obtain ⟨c1, c2, c3⟩ := tx.2 (a + i) (by omega)
      have e1 := letterAt_in (N := N) tx (j := a + i) (by omega)
      have e2 := isDigit_eq (N := N) c3
      have e3 := inDigit_eq (N := N) c3
      have z : ¬ nI 1 = nI 0 := by decide
      by_cases h : 48 ≤ C (a + i) ∧ C (a + i) ≤ 57
      · rw [if_pos h] at e2 e3
        refine Or.inl ?_
        rcases g3 with ⟨v, hv, rfl, rfl⟩ | ⟨rfl, r, r1, r2, rfl⟩
        · have n3 : v ≤ 60 := hv
          simp (disch := omega) only [b_X4_takeNumber_1, b_X7_advances_2, fa_lit, nI_leI, n1, n3, ↓reduceIte, ix_iff, ci_nI, n2, c1, e1, e2, e3, ob, z, pk_mul, nI_add, pk_sub, nI_ltI]
          refine ⟨_, _, rfl, rfl, by rw [Nat.add_assoc], by rw [Nat.add_assoc], ?_⟩
          dsimp only
          by_cases hb : 61 < v * 10 + C (a + i) - 48
          · rw [if_pos hb]
            exact Or.inr ⟨rfl, 10 * v + C (a + i) - 48, by omega, by omega, rfl⟩
          · rw [if_neg hb]
            by_cases hc : v * 10 + C (a + i) - 48 ≤ 60
            · exact Or.inl ⟨_, hc, rfl, by rw [Nat.mul_comm]⟩
            · exact Or.inr ⟨by rw [show v * 10 + C (a + i) - 48 = 61 by omega], 10 * v + C (a + i) - 48, by omega, by omega, rfl⟩
        · have n3 : ¬ r ≤ 60 := by omega
          have n4 : 61 < 61 * 10 + C (a + i) - 48 := by omega
          simp (disch := omega) only [b_X4_takeNumber_1, b_X7_advances_2, fa_lit, nI_leI, n1, n3, ↓reduceIte, ix_iff, ci_nI, n2, c1, e1, e2, e3, ob, z, pk_mul, nI_add, pk_sub, nI_ltI, n4]
          exact ⟨_, _, rfl, rfl, by rw [Nat.add_assoc], by rw [Nat.add_assoc], Or.inr ⟨rfl, r, r1, r2, rfl⟩⟩
      · rw [if_neg h] at e2 e3
        refine Or.inr ?_
        have hi0 : i ≠ 0 := by rintro rfl; exact h hd
        simp (disch := omega) only [b_X4_takeNumber_1, b_X7_advances_2, fa_lit, nI_leI, n1, ↓reduceIte, ix_iff, ci_nI, n2, c1, e1, e2, e3, ob]
        exact ⟨_, _, rfl, rfl, a + i, x2, y2, by omega, by omega, g3, rfl, rfl⟩) (by
      rintro ⟨x1, x2⟩ ⟨y1, y2⟩ ⟨g1, g2, g3⟩
      dsimp only at g1 g2 g3 ⊢
      have e0 : a + (n - a) = n := by omega
      rw [e0] at g1 g2
      subst g1 g2
      have e1 := letterAt_end (N := N) tx
      have e2 : f_X7_in N (-nI 1) (nI 48) (nI 57) = some (nI 0) := by rw [in_eq, if_neg (by decide)]
      simp (disch := omega) only [b_X4_takeNumber_1, b_X7_advances_2, fa_lit, nI_leI, Nat.le_refl, ↓reduceIte, e1, ob, e2]
      exact ⟨_, _, rfl, rfl, n, x2, y2, by omega, by omega, g3, rfl, rfl⟩) (by omega) ⟨rfl, rfl, Or.inl ⟨0, by omega, rfl, rfl⟩⟩
  exact ⟨e, x, y, j1, j2, j3, h1, h2⟩
set_option maxHeartbeats 1000000 in
theorem tok_two (hN : 8000 < N) (tx : TXT n C lets text) {a : Nat} (ha : a ≤ n) (s0 t0 v0 k0 p0 w0 : Int32) : ∃ a' st tC vC tR vR, f_X4_nextToken N lets (nI n) (nI a) s0 t0 v0 = some (nI a', nI st, tC, vC) ∧ f_X7_advances N text (nI n) (nI a) k0 p0 w0 = some (nI a', tR, nI st, vR) ∧ TK n a a' st tC vC tR vR := by
  have hn := tx.1
  obtain ⟨j, j1, j2, j3, b1, b2⟩ := blanks_two (N := N) hN tx ha
  unfold f_X4_nextToken f_X7_advances
  rw [b1, b2, Option.bind_some, Option.bind_some]
  have z : ¬ nI 1 = nI 0 := by decide
  by_cases hj : j = n
  · subst hj
    have e1 := letterAt_end (N := N) tx
    have n1 : ¬ j < j := by omega
    have n2 : ¬ nI 0 ≤ -nI 1 := by decide
    simp (disch := omega) only [fa_lit, nI_ltI, n1, ↓reduceIte, e1, ob, n2]
    exact ⟨j, j, _, _, _, _, rfl, rfl, j1, Nat.le_refl _, Nat.le_refl _, Or.inl ⟨rfl, rfl, rfl, rfl⟩⟩
  · have n1 : j < n := by omega
    have n2 : j < 200 := by omega
    obtain ⟨c1, c2, c3⟩ := tx.2 j n1
    have e1 := letterAt_in (N := N) tx n1
    have e2 := isDigit_eq (N := N) c3
    have e3 := inDigit_eq (N := N) c3
    have n3 : 0 ≤ C j := Nat.zero_le _
    by_cases h : 48 ≤ C j ∧ C j ≤ 57
    · rw [if_pos h] at e2 e3
      obtain ⟨e, x, y, d1, d2, d3, d4, d5⟩ := digits_two (N := N) hN tx n1 h (nI (C j))
      simp (disch := omega) only [fa_lit, nI_ltI, n1, ↓reduceIte, ix_iff, ci_nI, n2, c1, e1, e2, e3, ob, z, nI_leI, n3, f_X4_takeNumber]
      rw [show lp (fun s : Int32 × Int32 => b_X4_takeNumber_1 N lets (nI n) s.1 s.2) N (nI j, nI 0) = _ from d4, show lp (fun s : Int32 × Int32 => b_X7_advances_2 N (nI (C j)) text (nI n) s.1 s.2) N (nI j, nI 0) = _ from d5]
      have hle : (nI e - nI j ≤ nI 1) = (e - j ≤ 1) := by rw [pk_sub (by omega)]; exact propext (nI_leI (by omega) (by omega))
      simp (disch := omega) only [ob, nI_eq, hle]
      rcases d3 with ⟨v, hv, rfl, rfl⟩ | ⟨rfl, r, r1, r2, rfl⟩
      · have m1 : ¬ 60 < v := by omega
        have m2 : v ≤ 60 := hv
        simp (disch := omega) only [nI_ltI, nI_leI, m1, m2, ↓reduceIte]
        by_cases h48 : C j = 48
        · by_cases h1 : e - j ≤ 1
          · simp only [h48, h1, ↓reduceIte, ob]
            exact ⟨e, j, _, _, _, _, rfl, rfl, j1, by omega, d2, Or.inr (Or.inl ⟨by omega, v, hv, rfl, rfl, rfl, rfl⟩)⟩
          · simp only [h48, h1, ↓reduceIte, ob]
            exact ⟨e, j, _, _, _, _, rfl, rfl, j1, by omega, d2, Or.inr (Or.inr (Or.inl ⟨by omega, rfl, rfl⟩))⟩
        · simp only [h48, ↓reduceIte, ob]
          exact ⟨e, j, _, _, _, _, rfl, rfl, j1, by omega, d2, Or.inr (Or.inl ⟨by omega, v, hv, rfl, rfl, rfl, rfl⟩)⟩
      · have m1 : 60 < r := r1
        have m2 : ¬ 61 ≤ 60 := by omega
        simp (disch := omega) only [nI_ltI, nI_leI, m1, m2, ↓reduceIte]
        by_cases h48 : C j = 48
        · by_cases h1 : e - j ≤ 1
          · simp only [h48, h1, ↓reduceIte, ob]
            exact ⟨e, j, _, _, _, _, rfl, rfl, j1, by omega, d2, Or.inr (Or.inr (Or.inl ⟨by omega, rfl, rfl⟩))⟩
          · simp only [h48, h1, ↓reduceIte, ob]
            exact ⟨e, j, _, _, _, _, rfl, rfl, j1, by omega, d2, Or.inr (Or.inr (Or.inl ⟨by omega, rfl, rfl⟩))⟩
        · simp only [h48, ↓reduceIte, ob]
          exact ⟨e, j, _, _, _, _, rfl, rfl, j1, by omega, d2, Or.inr (Or.inr (Or.inl ⟨by omega, rfl, rfl⟩))⟩
    · rw [if_neg h] at e2 e3
      simp (disch := omega) only [fa_lit, nI_ltI, n1, ↓reduceIte, ix_iff, ci_nI, n2, c1, e1, e2, e3, ob, nI_leI, n3, nI_add, nI_eq]
      have fin : ∀ k, k = (if C j = 59 then 3 else if C j = 112 ∨ C j = 109 ∨ C j = 111 ∨ C j = 115 then 1 else 4) → TK n a (j + 1) j (nI (C j)) v0 (nI k) (nI (C j)) := by
        rintro k rfl
        exact ⟨j1, by omega, by omega, Or.inr (Or.inr (Or.inr ⟨by omega, C j, c3, rfl, rfl, rfl⟩))⟩
      by_cases k1 : C j = 59
      · simp only [k1, ↓reduceIte]
        exact ⟨j + 1, j, _, _, _, _, rfl, rfl, by have := fin 3 (by simp [k1]); rw [k1] at this; exact this⟩
      · by_cases k2 : C j = 112
        · simp only [k2, ↓reduceIte, Nat.reduceEqDiff]
          exact ⟨j + 1, j, _, _, _, _, rfl, rfl, by have := fin 1 (by simp [k2]); rw [k2] at this; exact this⟩
        · by_cases k3 : C j = 109
          · simp only [k3, ↓reduceIte, Nat.reduceEqDiff]
            exact ⟨j + 1, j, _, _, _, _, rfl, rfl, by have := fin 1 (by simp [k3]); rw [k3] at this; exact this⟩
          · by_cases k4 : C j = 111
            · simp only [k4, ↓reduceIte, Nat.reduceEqDiff]
              exact ⟨j + 1, j, _, _, _, _, rfl, rfl, by have := fin 1 (by simp [k4]); rw [k4] at this; exact this⟩
            · by_cases k5 : C j = 115
              · simp only [k5, ↓reduceIte, Nat.reduceEqDiff]
                exact ⟨j + 1, j, _, _, _, _, rfl, rfl, by have := fin 1 (by simp [k5]); rw [k5] at this; exact this⟩
              · simp only [k1, k2, k3, k4, k5, ↓reduceIte]
                exact ⟨j + 1, j, _, _, _, _, rfl, rfl, fin 4 (by simp [k1, k2, k3, k4, k5])⟩
/-- the reference looks ahead from a -/
def LA (N n : Nat) (text : FN) (a : Nat) (nx tk pc vl : Int32) : Prop := a ≤ n ∧ ∃ k0 p0 w0, f_X7_advances N text (nI n) (nI a) k0 p0 w0 = some (nx, tk, pc, vl)
theorem LA.tok {a : Nat} {nx tk pc vl : Int32} (hN : 8000 < N) (tx : TXT n C lets text) (la : LA N n text a nx tk pc vl) (s0 t0 v0 : Int32) : ∃ a' st tC vC, f_X4_nextToken N lets (nI n) (nI a) s0 t0 v0 = some (nI a', nI st, tC, vC) ∧ nx = nI a' ∧ pc = nI st ∧ TK n a a' st tC vC tk vl := by
  obtain ⟨ha, k0, p0, w0, h⟩ := la
  obtain ⟨a', st, tC, vC, tR, vR, h1, h2, h3⟩ := tok_two (N := N) hN tx ha s0 t0 v0 k0 p0 w0
  rw [h] at h2
  cases h2
  exact ⟨a', st, tC, vC, h1, rfl, rfl, h3⟩
theorem LA.next (hN : 8000 < N) (tx : TXT n C lets text) {a' : Nat} (ha : a' ≤ n) (k0 p0 w0 : Int32) : ∃ nx tk pc vl, f_X7_advances N text (nI n) (nI a') k0 p0 w0 = some (nx, tk, pc, vl) ∧ LA N n text a' nx tk pc vl := by
  obtain ⟨a2, st, tC, vC, tR, vR, h1, h2, h3⟩ := tok_two (N := N) hN tx ha 0 0 0 k0 p0 w0
  exact ⟨_, _, _, _, h2, ha, k0, p0, w0, h2⟩
end LX

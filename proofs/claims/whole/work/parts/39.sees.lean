/-! ===== pure side: who sees whom; fractions ===== -/
theorem fa_or (a b : Nat) : nI a ||| nI b = nI (a ||| b) := by
  apply Int32.toBitVec_inj.1
  show BitVec.ofNat 32 a ||| BitVec.ofNat 32 b = BitVec.ofNat 32 (a ||| b)
  apply BitVec.eq_of_getLsbD_eq
  intro i hi
  simp [hi]
theorem xor_m1 (a : Int32) : a ^^^ (-nI 1) = ~~~a := Int32.xor_neg_one
theorem not_or32 (a b : Int32) : ~~~(a ||| b) = ~~~a &&& ~~~b := by
  apply Int32.toBitVec_inj.1
  show ~~~(a.toBitVec ||| b.toBitVec) = ~~~a.toBitVec &&& ~~~b.toBitVec
  apply BitVec.eq_of_getLsbD_eq
  intro i hi
  simp [hi]
section SE
variable {N : Nat} {P M ON ST H : Nat} {CO : Nat → Nat} {D W S V : Nat → Nat} {G : Nat → Option Nat} {hr dposts dmen don dstove th : Int32} {db gu sd sv s dsees dcold many sees cold : FN}
theorem all_eq (hP : P ≤ 5) : (nI 1 <<< (nI P &&& nI 31)) - nI 1 = nI (2 ^ P - 1) := by
  have key : ∀ p : Fin 6, (nI 1 <<< (nI p.val &&& nI 31)) - nI 1 = nI (2 ^ p.val - 1) := by decide +kernel
  exact key ⟨P, by omega⟩
theorem two_pow_le (hP : P ≤ 5) : 2 ^ P ≤ 32 := by
  rcases (show P = 0 ∨ P = 1 ∨ P = 2 ∨ P = 3 ∨ P = 4 ∨ P = 5 by omega) with rfl | rfl | rfl | rfl | rfl | rfl <;> decide
theorem sees_lt (dr : DR P M ON ST CO dposts dsees dcold dmen don dstove many sees cold) {p : Nat} (hp : p < P) : ∃ j, j < 2 ^ P ∧ sees p = nI j := by
  have dP := dr.2.2.1.1
  have hpow := two_pow_le dP
  have h0 : 0 < 2 ^ P := Nat.two_pow_pos P
  have e := dr.2.2.2.2 p hp
  rw [all_eq dP] at e
  obtain ⟨j, hj, e2⟩ := pk_andE (dsees p) (m := nI (2 ^ P - 1)) P (by rw [pk_tn (by omega)])
  rw [e2] at e
  have key : ∀ (j : Fin 32) (p : Fin 5), ∃ k : Fin 32, k.val ≤ j.val ∧ nI j.val &&& ((nI 1 <<< (nI p.val &&& nI 31)) ^^^ (-nI 1)) = nI k.val := by decide +kernel
  obtain ⟨k, hk, e3⟩ := key ⟨j, by omega⟩ ⟨p, by omega⟩
  dsimp only at hk e3
  rw [e3] at e
  exact ⟨k.val, by omega, e.symm⟩
theorem seenBy_two (hN : 8000 < N) (dr : DR P M ON ST CO dposts dsees dcold dmen don dstove many sees cold) (a : Int32) : ∃ y, y < 2 ^ P ∧ f_X7_seenBy N a many sees = some (nI y) ∧ f_X7_watched N a many sees = some (a ||| nI y) := by
  obtain ⟨⟨e1, e2, e3, e4⟩, ⟨dm0, dm1, dm2, dm3⟩, ⟨dP, dM, dON, dST⟩, dco, dse⟩ := id dr
  have hpow := two_pow_le dP
  obtain ⟨t, t', h1, h2, y, hy, rfl, rfl⟩ := lp_two (b1 := fun x : Int32 × Int32 => b_X7_watched_1 N a many sees x.1 x.2) (b2 := fun x : Int32 × Int32 => b_X7_seenBy_1 N a many sees x.1 x.2) (Q := fun t t' => ∃ y, y < 2 ^ P ∧ t = a ||| nI y ∧ t' = nI y) P (fun i x x' => x.2 = nI i ∧ x'.2 = nI i ∧ ∃ y, y < 2 ^ P ∧ x.1 = a ||| nI y ∧ x'.1 = nI y) (a, 0) (0, 0) N (by
      rintro i ⟨x1, x2⟩ ⟨y1, y2⟩ hi ⟨g1, g2, y, hy, g3, g4⟩
      dsimp only at g1 g2 g3 g4 ⊢
      subst g1 g2 g3 g4
      have n1 : ¬ P ≤ i := by omega
      have n2 : i < 10 := by omega
      obtain ⟨j, hj, ej⟩ := sees_lt dr hi
      refine Or.inl ?_
      simp (disch := omega) only [b_X7_watched_1, b_X7_seenBy_1, fa_lit, dm0, nI_leI, ci_nI, n1, ↓reduceIte, ix_iff, n2, nI_add, ej]
      by_cases hb : ((a >>> (nI i &&& nI 31)) &&& nI 1) = nI 1
      · simp only [hb, ↓reduceIte]
        exact ⟨_, _, rfl, rfl, rfl, rfl, y ||| j, Nat.or_lt_two_pow hy hj, by rw [Int32.or_assoc, fa_or], by rw [fa_or]⟩
      · simp only [hb, ↓reduceIte]
        exact ⟨_, _, rfl, rfl, rfl, rfl, y, hy, by rw [show (a ||| nI y) ||| nI 0 = a ||| nI y from Int32.or_zero], by rw [show nI y ||| nI 0 = nI y from Int32.or_zero]⟩) (by
      rintro ⟨x1, x2⟩ ⟨y1, y2⟩ ⟨g1, g2, y, hy, g3, g4⟩
      dsimp only at g1 g2 g3 g4 ⊢
      subst g1 g2 g3 g4
      simp (disch := omega) only [b_X7_watched_1, b_X7_seenBy_1, fa_lit, dm0, nI_leI, ci_nI, Nat.le_refl, ↓reduceIte]
      exact ⟨_, _, rfl, rfl, y, hy, rfl, rfl⟩) (by omega) ⟨rfl, rfl, 0, Nat.two_pow_pos P, by rw [show a ||| nI 0 = a from Int32.or_zero], rfl⟩
  refine ⟨y, hy, ?_, ?_⟩
  · unfold f_X7_seenBy
    rw [show lp (fun x : Int32 × Int32 => b_X7_seenBy_1 N a many sees x.1 x.2) N (0, 0) = _ from h2]; rfl
  · unfold f_X7_watched
    rw [show lp (fun x : Int32 × Int32 => b_X7_watched_1 N a many sees x.1 x.2) N (a, 0) = _ from h1]; rfl
theorem watchedBy_seen (hN : 8000 < N) (dr : DR P M ON ST CO dposts dsees dcold dmen don dstove many sees cold) (a : Int32) : ∃ y, y < 2 ^ P ∧ f_X7_seenBy N a many sees = some (nI y) ∧ f_X0_watchedBy N a dposts dsees = some (a ||| nI y) := by
  obtain ⟨y, h1, h2, h3⟩ := seenBy_two hN dr a
  obtain ⟨x, h4, h5⟩ := watched_two hN dr a
  rw [h5] at h3
  exact ⟨y, h1, h2, by rw [h4, h3]⟩
theorem left_key (hP : P ≤ 5) {k y : Nat} (hk : k < 2 ^ P) (hy : y < 2 ^ P) : (nI (2 ^ P - 1) &&& (nI k ^^^ (-nI 1)) ||| nI y = nI (2 ^ P - 1)) ↔ (nI k &&& (nI y ^^^ (-nI 1)) = nI 0) := by
  have key : ∀ p : Fin 6, ∀ (k y : Fin 32), k.val < 2 ^ p.val → y.val < 2 ^ p.val → ((nI (2 ^ p.val - 1) &&& (nI k.val ^^^ (-nI 1)) ||| nI y.val = nI (2 ^ p.val - 1)) ↔ (nI k.val &&& (nI y.val ^^^ (-nI 1)) = nI 0)) := by decide +kernel
  have hpow := two_pow_le hP
  exact key ⟨P, by omega⟩ ⟨k, by omega⟩ ⟨y, by omega⟩ hk hy
set_option maxRecDepth 100000 in
theorem c_leave (hN : 8000 < N) (dr : DR P M ON ST CO dposts dsees dcold dmen don dstove many sees cold) : ∃ v, f_X6_leave N dposts dsees = some v ∧ f_X7_leave N th many sees = some (v, 0) := by
  obtain ⟨⟨e1, e2, e3, e4⟩, ⟨dm0, dm1, dm2, dm3⟩, ⟨dP, dM, dON, dST⟩, dco, dse⟩ := id dr
  have hpow := two_pow_le dP
  have h0 : 0 < 2 ^ P := Nat.two_pow_pos P
  have ea := all_eq dP
  obtain ⟨t, t', h1, h2, rfl⟩ := lp_two (b1 := fun x : Int32 × Int32 => b_X6_leave_1 N dposts dsees x.1 x.2) (b2 := fun x : Int32 × Int32 => b_X7_leave_1 N (nI (2 ^ P - 1)) many sees x.1 x.2) (Q := fun t t' => t = t') (2 ^ P - 1) (fun i x y => x = y ∧ x.2 = nI (i + 1) ∧ ∃ b, b < 2 ^ P ∧ x.1 = nI b) (0, 1) (0, 1) N (by
      rintro i ⟨x1, x2⟩ _ hi ⟨rfl, g2, b, hb, g1⟩
      dsimp only at g1 g2 ⊢
      subst g1 g2
      have n1 : ¬ 2 ^ P - 1 < i + 1 := by omega
      obtain ⟨y, hy, s1, s2⟩ := watchedBy_seen (N := N) hN dr (nI (2 ^ P - 1) &&& (nI (i + 1) ^^^ (-nI 1)))
      have b1 := bitCount_eq (N := N) (i + 1) (by omega)
      have b2 := bitCount_eq (N := N) b (by omega)
      have o1 := ones_eq (N := N) hN (i + 1) (by omega)
      have o2 := ones_eq (N := N) hN b (by omega)
      have p1 := pc_le (i + 1)
      have p2 := pc_le b
      have lk := left_key (P := P) dP (k := i + 1) (y := y) (by omega) hy
      rw [e1] at s2
      refine Or.inl ?_
      rw [e1]
      simp (disch := omega) only [b_X6_leave_1, b_X7_leave_1, f_X0_allPosts, f_X6_canBeLeft, fa_lit, ea, ob, nI_ltI, n1, ↓reduceIte, b1, b2, o1, o2, s1, s2, nI_leI, nI_add]
      by_cases hc : nI (i + 1) &&& (nI y ^^^ (-nI 1)) = nI 0
      · have hc' := lk.mpr hc
        have z : ¬ nI 1 = nI 0 := by decide
        simp only [hc, hc', ↓reduceIte, ob, z]
        by_cases hp : pc (i + 1) ≤ pc b
        · simp only [hp, ↓reduceIte]
          exact ⟨_, _, rfl, rfl, rfl, rfl, b, hb, rfl⟩
        · simp only [hp, ↓reduceIte]
          exact ⟨_, _, rfl, rfl, rfl, rfl, i + 1, by omega, rfl⟩
      · have hc' : ¬ (nI (2 ^ P - 1) &&& (nI (i + 1) ^^^ (-nI 1)) ||| nI y = nI (2 ^ P - 1)) := fun h => hc (lk.mp h)
        simp only [hc, hc', ↓reduceIte, ob]
        by_cases hp : pc (i + 1) ≤ pc b
        · simp only [hp, ↓reduceIte]
          exact ⟨_, _, rfl, rfl, rfl, rfl, b, hb, rfl⟩
        · simp only [hp, ↓reduceIte]
          exact ⟨_, _, rfl, rfl, rfl, rfl, b, hb, rfl⟩) (by
      rintro ⟨x1, x2⟩ _ ⟨rfl, g2, b, hb, g1⟩
      dsimp only at g1 g2 ⊢
      subst g1 g2
      have n1 : 2 ^ P - 1 < 2 ^ P - 1 + 1 := by omega
      rw [e1]
      simp (disch := omega) only [b_X6_leave_1, b_X7_leave_1, f_X0_allPosts, fa_lit, ea, ob, nI_ltI, n1, ↓reduceIte]
      exact ⟨_, _, rfl, rfl, rfl⟩) (by omega) ⟨rfl, rfl, 0, h0, rfl⟩
  refine ⟨t, ?_, ?_⟩
  · unfold f_X6_leave
    rw [show lp (fun x : Int32 × Int32 => b_X6_leave_1 N dposts dsees x.1 x.2) N (0, 1) = _ from h1]; rfl
  · unfold f_X7_leave
    rw [show many (ci 0) = nI P from dm0, show ((1 : Int32) <<< (nI P &&& 31)) - 1 = nI (2 ^ P - 1) from ea, show lp (fun x : Int32 × Int32 => b_X7_leave_1 N (nI (2 ^ P - 1)) many sees x.1 x.2) N (0, 1) = _ from h2]; rfl
theorem seenOnly_two (hN : 8000 < N) (dr : DR P M ON ST CO dposts dsees dcold dmen don dstove many sees cold) {p : Nat} (hp : p < P) : ∃ y, y < 32 ∧ f_X6_seenOnlyFrom N (nI p) dposts dsees = some (sees p &&& (nI y ^^^ (-nI 1))) ∧ f_X7_seenBy N (nI (2 ^ P - 1) &&& ((nI 1 <<< (nI p &&& nI 31)) ^^^ (-nI 1))) many sees = some (nI y) := by
  obtain ⟨⟨e1, e2, e3, e4⟩, ⟨dm0, dm1, dm2, dm3⟩, ⟨dP, dM, dON, dST⟩, dco, dse⟩ := id dr
  have hpow := two_pow_le dP
  have bit : ∀ i, i < P → (((nI (2 ^ P - 1) &&& ((nI 1 <<< (nI p &&& nI 31)) ^^^ (-nI 1))) >>> (nI i &&& nI 31)) &&& nI 1) = if i = p then nI 0 else nI 1 := by
    intro i hi
    have key : ∀ (q : Fin 6) (p i : Fin 5), p.val < q.val → i.val < q.val → (((nI (2 ^ q.val - 1) &&& ((nI 1 <<< (nI p.val &&& nI 31)) ^^^ (-nI 1))) >>> (nI i.val &&& nI 31)) &&& nI 1) = if i.val = p.val then nI 0 else nI 1 := by decide +kernel
    exact key ⟨P, by omega⟩ ⟨p, by omega⟩ ⟨i, by omega⟩ hp hi
  have es := seenFrom_eq (N := N) dr hp
  obtain ⟨t, t', h1, h2, y, hy, rfl, rfl⟩ := lp_two (b1 := fun x : Int32 × Int32 => b_X6_seenOnlyFrom_1 N (nI p) dposts dsees x.1 x.2) (b2 := fun x : Int32 × Int32 => b_X7_seenBy_1 N (nI (2 ^ P - 1) &&& ((nI 1 <<< (nI p &&& nI 31)) ^^^ (-nI 1))) many sees x.1 x.2) (Q := fun t t' => ∃ y, y < 32 ∧ t = sees p &&& (nI y ^^^ (-nI 1)) ∧ t' = nI y) P (fun i x x' => x.2 = nI i ∧ x'.2 = nI i ∧ ∃ y, y < 32 ∧ x.1 = sees p &&& (nI y ^^^ (-nI 1)) ∧ x'.1 = nI y) (sees p, 0) (0, 0) N (by
      rintro i ⟨x1, x2⟩ ⟨y1, y2⟩ hi ⟨g1, g2, y, hy, g3, g4⟩
      dsimp only at g1 g2 g3 g4 ⊢
      subst g1 g2 g3 g4
      have n1 : ¬ P ≤ i := by omega
      have n2 : i < 10 := by omega
      have ei := seenFrom_eq (N := N) dr hi
      obtain ⟨j, hj, ej⟩ := sees_lt dr hi
      rw [e1] at ei
      refine Or.inl ?_
      rw [e1]
      simp (disch := omega) only [b_X6_seenOnlyFrom_1, b_X7_seenBy_1, fa_lit, dm0, nI_leI, ci_nI, n1, ↓reduceIte, ix_iff, n2, nI_add, nI_eq, bit i hi, ei, ob]
      by_cases hip : i = p
      · have z : ¬ nI 0 = nI 1 := by decide
        simp only [hip, ↓reduceIte, z]
        exact ⟨_, _, rfl, rfl, rfl, rfl, y, hy, rfl, by rw [show nI y ||| nI 0 = nI y from Int32.or_zero]⟩
      · simp only [hip, ↓reduceIte]
        refine ⟨_, _, rfl, rfl, rfl, rfl, y ||| j, Nat.or_lt_two_pow (n := 5) hy (by omega), ?_, by rw [ej, fa_or]⟩
        rw [← fa_or, ← ej, xor_m1, xor_m1, xor_m1, not_or32, Int32.and_assoc]) (by
      rintro ⟨x1, x2⟩ ⟨y1, y2⟩ ⟨g1, g2, y, hy, g3, g4⟩
      dsimp only at g1 g2 g3 g4 ⊢
      subst g1 g2 g3 g4
      rw [e1]
      simp (disch := omega) only [b_X6_seenOnlyFrom_1, b_X7_seenBy_1, fa_lit, dm0, nI_leI, ci_nI, Nat.le_refl, ↓reduceIte]
      exact ⟨_, _, rfl, rfl, y, hy, rfl, rfl⟩) (by omega) ⟨rfl, rfl, 0, by omega, by rw [show nI 0 ^^^ (-nI 1) = -1 by decide, Int32.and_neg_one], rfl⟩
  refine ⟨y, hy, ?_, ?_⟩
  · unfold f_X6_seenOnlyFrom
    rw [es, Option.bind_some, show lp (fun x : Int32 × Int32 => b_X6_seenOnlyFrom_1 N (nI p) dposts dsees x.1 x.2) N (sees p, 0) = _ from h1]; rfl
  · unfold f_X7_seenBy
    rw [show lp (fun x : Int32 × Int32 => b_X7_seenBy_1 N (nI (2 ^ P - 1) &&& ((nI 1 <<< (nI p &&& nI 31)) ^^^ (-nI 1))) many sees x.1 x.2) N (0, 0) = _ from h2]; rfl
set_option maxRecDepth 100000 in
theorem c_two (hN : 8000 < N) (dr : DR P M ON ST CO dposts dsees dcold dmen don dstove many sees cold) : ∃ v, f_X6_two N dposts dsees = some v ∧ f_X7_two N th many sees = some (v, 0) := by
  obtain ⟨⟨e1, e2, e3, e4⟩, ⟨dm0, dm1, dm2, dm3⟩, ⟨dP, dM, dON, dST⟩, dco, dse⟩ := id dr
  have hpow := two_pow_le dP
  have ea := all_eq dP
  obtain ⟨t, t', h1, h2, rfl⟩ := lp_two (b1 := fun x : Int32 × Int32 × Int32 => b_X6_two_1 N dposts dsees x.1 x.2.1 x.2.2) (b2 := fun x : Int32 × Int32 × Int32 => b_X7_two_1 N many sees x.1 x.2.1 x.2.2) (Q := fun t t' => t = t') P (fun i x y => x = y ∧ x.2.2 = nI i) (-9, -1, 0) (-9, -1, 0) N (by
      rintro i ⟨x1, x2, x3⟩ _ hi ⟨rfl, g2⟩
      dsimp only at g2 ⊢
      subst g2
      have n1 : ¬ P ≤ i := by omega
      have n2 : i < 10 := by omega
      obtain ⟨y, hy, s1, s2⟩ := seenOnly_two (N := N) hN dr hi
      obtain ⟨j, hj, ej⟩ := sees_lt dr hi
      have key : ∀ (j y : Fin 32), ∃ k : Fin 32, nI j.val &&& (nI y.val ^^^ (-nI 1)) = nI k.val := by decide +kernel
      obtain ⟨k, ek⟩ := key ⟨j, by omega⟩ ⟨y, by omega⟩
      dsimp only at ek
      have b1 := bitCount_eq (N := N) k.val k.isLt
      have o1 := ones_eq (N := N) hN k.val k.isLt
      rw [ej, ek] at s1
      rw [e1] at s1
      refine Or.inl ?_
      rw [e1]
      simp (disch := omega) only [b_X6_two_1, b_X7_two_1, fa_lit, dm0, nI_leI, ci_nI, n1, ↓reduceIte, ix_iff, n2, nI_add, ea, s1, s2, ob, ej, ek, b1, o1]
      by_cases hc : nI (pc k.val) ≤ x2
      · simp only [hc, ↓reduceIte]
        exact ⟨_, _, rfl, rfl, rfl, rfl⟩
      · simp only [hc, ↓reduceIte]
        exact ⟨_, _, rfl, rfl, rfl, rfl⟩) (by
      rintro ⟨x1, x2, x3⟩ _ ⟨rfl, g2⟩
      dsimp only at g2 ⊢
      subst g2
      rw [e1]
      simp (disch := omega) only [b_X6_two_1, b_X7_two_1, fa_lit, dm0, nI_leI, ci_nI, Nat.le_refl, ↓reduceIte]
      exact ⟨_, _, rfl, rfl, rfl⟩) (by omega) ⟨rfl, rfl⟩
  refine ⟨t, ?_, ?_⟩
  · unfold f_X6_two
    rw [show lp (fun x : Int32 × Int32 × Int32 => b_X6_two_1 N dposts dsees x.1 x.2.1 x.2.2) N (-9, -1, 0) = _ from h1]; rfl
  · unfold f_X7_two
    rw [show lp (fun x : Int32 × Int32 × Int32 => b_X7_two_1 N many sees x.1 x.2.1 x.2.2) N (-9, -1, 0) = _ from h2]; rfl
/-! fractions -/
theorem gcd_ind : ∀ (k a b i n : Nat), b < 2 ^ k → k ≤ 25 → a < 2 ^ 31 → i + 2 * k ≤ 62 → 2 * k < n → (0 < a ∨ 0 < b) → ∃ g, 0 < g ∧ g < 2 ^ 31 ∧ lp (fun s : Int32 × Int32 × Int32 => b_X6_commonDivisor_1 N s.1 s.2.1 s.2.2) n (nI a, nI b, nI i) = some (nI g) ∧ lp (fun s : Int32 × Int32 => b_X7_gcd_1 N s.1 s.2) n (nI a, nI b) = some (nI g) := by
  have z : ∀ (a i n : Nat), a < 2 ^ 31 → i ≤ 62 → 0 < n → 0 < a → ∃ g, 0 < g ∧ g < 2 ^ 31 ∧ lp (fun s : Int32 × Int32 × Int32 => b_X6_commonDivisor_1 N s.1 s.2.1 s.2.2) n (nI a, nI 0, nI i) = some (nI g) ∧ lp (fun s : Int32 × Int32 => b_X7_gcd_1 N s.1 s.2) n (nI a, nI 0) = some (nI g) := by
    intro a i n ha hi hn h0
    obtain ⟨n, rfl⟩ : ∃ n', n = n' + 1 := ⟨n - 1, by omega⟩
    have n1 : ¬ 64 ≤ i := by omega
    refine ⟨a, h0, ha, lp_inr ?_, lp_inr ?_⟩
    · simp (disch := omega) only [b_X6_commonDivisor_1, fa_lit, nI_leI, n1, ↓reduceIte]
    · simp (disch := omega) only [b_X7_gcd_1, fa_lit, ↓reduceIte]
  intro k
  induction k with
  | zero =>
    intro a b i n hb hk ha hi hn h0
    have : b = 0 := by simpa using hb
    subst this
    exact z a i n ha (by omega) (by omega) (by omega)
  | succ k ih =>
    intro a b i n hb hk ha hi hn h0
    by_cases hb0 : b = 0
    · subst hb0
      exact z a i n ha (by omega) (by omega) (by omega)
    · obtain ⟨n, rfl⟩ : ∃ n', n = n' + 1 := ⟨n - 1, by omega⟩
      have hpow : 2 ^ (k + 1) ≤ 2 ^ 25 := Nat.pow_le_pow_right (by omega) hk
      have n1 : ¬ 64 ≤ i := by omega
      have st1 : b_X6_commonDivisor_1 N (nI a) (nI b) (nI i) = some (.inl (nI b, nI (a % b), nI (i + 1))) := by
        simp (disch := omega) only [b_X6_commonDivisor_1, fa_lit, nI_leI, n1, nI_eq, hb0, not_false_eq_true, ↓reduceIte, irem_nI, nI_add]
      have st2 : b_X7_gcd_1 N (nI a) (nI b) = some (.inl (nI b, nI (a % b))) := by
        simp (disch := omega) only [b_X7_gcd_1, fa_lit, nI_eq, hb0, not_false_eq_true, ↓reduceIte, irem_nI]
      rw [lp_inl (s' := (nI b, nI (a % b), nI (i + 1))) st1, lp_inl (s' := (nI b, nI (a % b))) st2]
      have hr : a % b < b := Nat.mod_lt _ (by omega)
      by_cases hr0 : a % b = 0
      · rw [hr0]
        exact z b (i + 1) n (by omega) (by omega) (by omega) (by omega)
      · obtain ⟨n, rfl⟩ : ∃ n', n = n' + 1 := ⟨n - 1, by omega⟩
        have n2 : ¬ 64 ≤ i + 1 := by omega
        have st3 : b_X6_commonDivisor_1 N (nI b) (nI (a % b)) (nI (i + 1)) = some (.inl (nI (a % b), nI (b % (a % b)), nI (i + 2))) := by
          simp (disch := omega) only [b_X6_commonDivisor_1, fa_lit, nI_leI, n2, nI_eq, hr0, not_false_eq_true, ↓reduceIte, irem_nI, nI_add]
        have st4 : b_X7_gcd_1 N (nI b) (nI (a % b)) = some (.inl (nI (a % b), nI (b % (a % b)))) := by
          simp (disch := omega) only [b_X7_gcd_1, fa_lit, nI_eq, hr0, not_false_eq_true, ↓reduceIte, irem_nI]
        rw [lp_inl (s' := (nI (a % b), nI (b % (a % b)), nI (i + 2))) st3, lp_inl (s' := (nI (a % b), nI (b % (a % b)))) st4]
        have h3 : b % (a % b) < a % b := Nat.mod_lt _ (by omega)
        have h4 : b % (a % b) + a % b ≤ b := by
          have h5 := Nat.mod_add_div b (a % b)
          have h6 : 0 < b / (a % b) := Nat.div_pos (by omega) (by omega)
          have h7 : (a % b) * 1 ≤ (a % b) * (b / (a % b)) := Nat.mul_le_mul_left _ h6
          omega
        have h5 : b % (a % b) < 2 ^ k := by
          have : 2 ^ (k + 1) = 2 * 2 ^ k := by rw [Nat.pow_succ]; omega
          omega
        exact ih (a % b) (b % (a % b)) (i + 2) n h5 (by omega) (by omega) (by omega) (by omega) (by omega)
theorem terms_two (hN : 8000 < N) {a b : Nat} (ha : a < 2 ^ 31) (hb0 : 0 < b) (hb : b < 2 ^ 20) (what : Int32) : ∃ v, f_X6_leastTerms N (nI a) (nI b) what = some v ∧ f_X7_part N (nI a) (nI b) what = some v := by
  obtain ⟨g, g0, g1, h1, h2⟩ := gcd_ind (N := N) 20 a b 0 N hb (by omega) ha (by omega) (by omega) (by omega)
  have c1 : f_X6_commonDivisor N (nI a) (nI b) = some (nI g) := by
    unfold f_X6_commonDivisor
    rw [show lp (fun s : Int32 × Int32 × Int32 => b_X6_commonDivisor_1 N s.1 s.2.1 s.2.2) N (nI a, nI b, 0) = _ from h1]; rfl
  have c2 : f_X7_gcd N (nI a) (nI b) = some (nI g) := by
    unfold f_X7_gcd
    rw [show lp (fun s : Int32 × Int32 => b_X7_gcd_1 N s.1 s.2) N (nI a, nI b) = _ from h2]; rfl
  have c3 : (if 1 < nI g then nI g else 1) = nI g := by
    simp (disch := omega) only [fa_lit, nI_ltI]
    by_cases h : 1 < g
    · rw [if_pos h]
    · rw [if_neg h, show g = 1 by omega]
  have c4 : ¬ nI g = 0 := nI_ne0 g0 g1
  unfold f_X6_leastTerms f_X7_part
  rw [c1, c2, Option.bind_some, Option.bind_some, c3, if_pos c4, if_pos c4]
  by_cases hw : what = 0
  · rw [if_pos hw]
    exact ⟨_, rfl, rfl⟩
  · rw [if_neg hw]
    exact ⟨_, rfl, rfl⟩
set_option maxRecDepth 100000 in
theorem c_cow (hN : 8000 < N) (a1 a2 a3 : Int32) : ∃ v, f_X6_cow N a1 a2 a3 = some v ∧ f_X7_cow N a1 a2 a3 th = some (v, 0) := by
  have z : ¬ nI 1 = nI 0 := by decide
  have z0 : ¬ nI 1 = (0 : Int32) := by decide
  unfold f_X6_cow f_X7_cow
  rcases range_cases (N := N) a1 0 9 (by omega) (by omega) with ⟨g1, g2, -⟩ | ⟨c, -, hc, rfl, g1, g2⟩
  · rw [show f_X6_within N a1 0 9 = _ from g1, show f_X7_in N a1 0 9 = _ from g2]
    exact ⟨-1, rfl, rfl⟩
  rw [show f_X6_within N (nI c) 0 9 = _ from g1, show f_X7_in N (nI c) 0 9 = _ from g2, Option.bind_some, Option.bind_some, if_neg z0, if_neg z0]
  rcases range_cases (N := N) a2 0 9 (by omega) (by omega) with ⟨g1, g2, -⟩ | ⟨d, -, hd, rfl, g1, g2⟩
  · rw [show f_X6_within N a2 0 9 = _ from g1, show f_X7_in N a2 0 9 = _ from g2]
    exact ⟨-1, rfl, rfl⟩
  rw [show f_X6_within N (nI d) 0 9 = _ from g1, show f_X7_in N (nI d) 0 9 = _ from g2, Option.bind_some, Option.bind_some, if_neg z0, if_neg z0]
  rcases range_cases (N := N) a3 0 1 (by omega) (by omega) with ⟨g1, g2, -⟩ | ⟨what, -, hw, rfl, g1, g2⟩
  · rw [show f_X6_within N a3 0 1 = _ from g1, show f_X7_in N a3 0 1 = _ from g2]
    exact ⟨-1, rfl, rfl⟩
  rw [show f_X6_within N (nI what) 0 1 = _ from g1, show f_X7_in N (nI what) 0 1 = _ from g2, Option.bind_some, Option.bind_some, if_neg z0, if_neg z0]
  have hcd : c * d ≤ 9 * 9 := Nat.mul_le_mul hc hd
  have e1 : nI c * nI d + (10 - nI c) * 10 = nI (c * d + 10 * (10 - c)) := by
    simp (disch := omega) only [fa_lit, pk_sub, pk_mul, nI_add]
    rw [Nat.mul_comm (10 - c) 10]
  have e2 : nI c * nI d + 10 * (10 - nI c) = nI (c * d + 10 * (10 - c)) := by
    simp (disch := omega) only [fa_lit, pk_sub, pk_mul, nI_add]
  rw [e1, e2, pk_mul]
  obtain ⟨v, h1, h2⟩ := terms_two (N := N) (a := c * d) (b := c * d + 10 * (10 - c)) hN (by omega) (by omega) (by omega) (nI what)
  rw [h1, h2]
  exact ⟨v, rfl, rfl⟩
end SE

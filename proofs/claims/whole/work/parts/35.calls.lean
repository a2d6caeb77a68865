/-! ===== pure side: the calls that only look, and those that change the watch ===== -/
theorem not_in_ne {x : Int32} {l h : Nat} (hh : h < 2 ^ 31) (hx : ¬ (nI l ≤ x ∧ x ≤ nI h)) : ∀ j, l ≤ j → j ≤ h → x ≠ nI j := by
  rintro j h1 h2 rfl
  exact hx ⟨nI_le h1 (by omega), nI_le h2 (by omega)⟩
theorem in_ex {x : Int32} {l h : Nat} (hl : l < 2 ^ 31) (hh : h < 2 ^ 31) (hx : nI l ≤ x ∧ x ≤ nI h) : ∃ j, l ≤ j ∧ j ≤ h ∧ x = nI j := by
  have h0 : ¬ x < 0 := Int32.not_lt.mpr (Int32.le_trans (nI_pos' hl) hx.1)
  obtain ⟨j, h1, rfl⟩ := nI_of h0
  exact ⟨j, (nI_leI hl h1).mp hx.1, (nI_leI h1 hh).mp hx.2, rfl⟩
section CL
variable {N : Nat} {P M ON ST H : Nat} {CO : Nat → Nat} {D W S V : Nat → Nat} {G : Nat → Option Nat} {hr dposts dmen don dstove : Int32} {db gu sd sv s dsees dcold many sees cold undos : FN} {next known um : Int32} {pw : Nat → WtT}
/-- an argument is in its range on both sides, or on neither -/
theorem range_cases (x : Int32) (l h : Nat) (hl : l < 2 ^ 31) (hh : h < 2 ^ 31) : (f_X6_within N x (nI l) (nI h) = some (nI 0) ∧ f_X7_in N x (nI l) (nI h) = some (nI 0) ∧ ∀ j, l ≤ j → j ≤ h → x ≠ nI j) ∨ ∃ j, l ≤ j ∧ j ≤ h ∧ x = nI j ∧ f_X6_within N x (nI l) (nI h) = some (nI 1) ∧ f_X7_in N x (nI l) (nI h) = some (nI 1) := by
  by_cases hx : nI l ≤ x ∧ x ≤ nI h
  · obtain ⟨j, h1, h2, h3⟩ := in_ex hl hh hx
    refine Or.inr ⟨j, h1, h2, h3, ?_, ?_⟩
    · rw [within_eq, if_pos hx]
    · rw [in_eq, if_pos hx]
  · refine Or.inl ⟨?_, ?_, not_in_ne hh hx⟩
    · rw [within_eq, if_neg hx]
    · rw [in_eq, if_neg hx]
theorem cnt_cases (x : Int32) (n : Nat) (hn : n ≤ 6) : (f_X6_within N x (nI 0) (nI n - nI 1) = some (nI 0)) ∨ ∃ p, p < n ∧ x = nI p ∧ f_X6_within N x (nI 0) (nI n - nI 1) = some (nI 1) := by
  rw [within_eq]
  by_cases h0 : n = 0
  · subst h0
    refine Or.inl ?_
    rw [if_neg]
    rintro ⟨h1, h2⟩
    exact absurd (Int32.le_trans h1 h2) (by decide)
  · rw [pk_sub (by omega)]
    by_cases hx : nI 0 ≤ x ∧ x ≤ nI (n - 1)
    · obtain ⟨j, h1, h2, h3⟩ := in_ex (by omega) (by omega) hx
      exact Or.inr ⟨j, by omega, h3, by rw [if_pos hx]⟩
    · exact Or.inl (by rw [if_neg hx])
theorem post_cases (x : Int32) (hP : P ≤ 5) (dm0 : many 0 = nI P) : (f_X6_isPost N x (nI P) = some (nI 0) ∧ f_X7_isPost N x many = some (nI 0)) ∨ ∃ p, p < P ∧ x = nI p ∧ f_X6_isPost N x (nI P) = some (nI 1) ∧ f_X7_isPost N x many = some (nI 1) := by
  have e : ∀ b, (b = nI 0 ∨ b = nI 1) → f_X6_within N x (nI 0) (nI P - nI 1) = some b → f_X6_isPost N x (nI P) = some b ∧ f_X7_isPost N x many = some b := by
    intro b hb h
    have g : (if b &&& 1 = b then some b else none) = some b := by rcases hb with rfl | rfl <;> rfl
    constructor
    · unfold f_X6_isPost
      rw [show f_X6_within N x 0 (nI P - 1) = some b from h]; exact g
    · unfold f_X7_isPost
      rw [show many (ci 0) = nI P from dm0, show f_X7_in N x 0 (nI P - 1) = some b from h]; exact g
  rcases cnt_cases (N := N) x P (by omega) with h | ⟨p, h1, h2, h3⟩
  · exact Or.inl (e _ (Or.inl rfl) h)
  · exact Or.inr ⟨p, h1, h2, e _ (Or.inr rfl) h3⟩
theorem man_cases (x : Int32) (hM : M ≤ 6) (dm1 : many 1 = nI M) : (f_X6_isMan N x (nI M) = some (nI 0) ∧ f_X7_isMan N x many = some (nI 0)) ∨ ∃ p, p < M ∧ x = nI p ∧ f_X6_isMan N x (nI M) = some (nI 1) ∧ f_X7_isMan N x many = some (nI 1) := by
  have e : ∀ b, (b = nI 0 ∨ b = nI 1) → f_X6_within N x (nI 0) (nI M - nI 1) = some b → f_X6_isMan N x (nI M) = some b ∧ f_X7_isMan N x many = some b := by
    intro b hb h
    have g : (if b &&& 1 = b then some b else none) = some b := by rcases hb with rfl | rfl <;> rfl
    constructor
    · unfold f_X6_isMan
      rw [show f_X6_within N x 0 (nI M - 1) = some b from h]; exact g
    · unfold f_X7_isMan
      rw [show many (ci 1) = nI M from dm1, show f_X7_in N x 0 (nI M - 1) = some b from h]; exact g
  rcases cnt_cases (N := N) x M hM with h | ⟨p, h1, h2, h3⟩
  · exact Or.inl (e _ (Or.inl rfl) h)
  · exact Or.inr ⟨p, h1, h2, e _ (Or.inr rfl) h3⟩
/-! counts of bits -/
def pc (n : Nat) : Nat := n % 2 + n / 2 % 2 + n / 4 % 2 + n / 8 % 2 + n / 16 % 2
theorem pc_le (n : Nat) : pc n ≤ 5 := by unfold pc; omega
theorem bitCount_eq : ∀ k, k < 32 → f_J6_bitCount N (nI k) = some (nI (pc k)) := by
  have h : ∀ k : Fin 32, f_J6_bitCount 0 (nI k.val) = some (nI (pc k.val)) := by decide +kernel
  intro k hk
  exact h ⟨k, hk⟩
theorem ones_eq (hN : 8000 < N) : ∀ k, k < 32 → f_X7_ones N (nI k) = some (nI (pc k)) := by
  intro k hk
  have h : ∀ k : Fin 32, ∀ i : Fin 6, ((nI k.val >>> (nI i.val &&& nI 31)) &&& nI 1) = nI (k.val / 2 ^ i.val % 2) := by decide +kernel
  unfold f_X7_ones
  have h1 := lp_seq (body := fun x : Int32 × Int32 => b_X7_ones_1 N (nI k) x.1 x.2) (t := nI (pc k)) (fun i => (nI (if i = 0 then 0 else if i = 1 then k % 2 else if i = 2 then k % 2 + k / 2 % 2 else if i = 3 then k % 2 + k / 2 % 2 + k / 4 % 2 else if i = 4 then k % 2 + k / 2 % 2 + k / 4 % 2 + k / 8 % 2 else pc k), nI i)) 6 (N := N) (by
    intro i hi
    have n1 : ¬ 6 ≤ i := by omega
    have e1 := h ⟨k, hk⟩ ⟨i, hi⟩
    dsimp only at e1
    simp (disch := omega) only [b_X7_ones_1, fa_lit, nI_leI, n1, ↓reduceIte, e1, nI_add]
    rcases (show i = 0 ∨ i = 1 ∨ i = 2 ∨ i = 3 ∨ i = 4 ∨ i = 5 by omega) with rfl | rfl | rfl | rfl | rfl | rfl
    · simp
    · simp
    · simp
    · simp
    · simp [pc]
    · have : k / 32 = 0 := by omega
      simp [pc, this]) (by simp (disch := omega) only [b_X7_ones_1, fa_lit, nI_leI, Nat.le_refl, ↓reduceIte]; simp) (by omega)
  rw [show lp (fun x : Int32 × Int32 => b_X7_ones_1 N (nI k) x.1 x.2) N (0, 0) = _ from h1]; rfl
/-- sets of posts, counted on both sides -/
theorem bs_count (hN : 8000 < N) (f : Nat → Bool) : ∃ c, c ≤ 5 ∧ f_J6_bitCount N (bs f) = some (nI c) ∧ f_X7_ones N (bs f) = some (nI c) := by
  obtain ⟨n, hn, e⟩ := bs_lt f
  rw [e]
  exact ⟨pc n, pc_le n, bitCount_eq n hn, ones_eq hN n hn⟩
theorem seenFrom_eq (dr : DR P M ON ST CO dposts dsees dcold dmen don dstove many sees cold) {p : Nat} (hp : p < P) : f_X0_seenFrom N (nI p) dposts dsees = some (sees p) := by
  obtain ⟨⟨rfl, rfl, rfl, rfl⟩, ⟨dm0, dm1, dm2, dm3⟩, ⟨dP, dM, dON, dST⟩, dco, dse⟩ := dr
  have n1 : p < 5 := by omega
  simp (disch := omega) only [f_X0_seenFrom, f_X0_allPosts, fa_lit, ix_iff, ci_nI, n1, ↓reduceIte, Option.bind_some]
  rw [← dse p hp]
theorem watched_two (hN : 8000 < N) (dr : DR P M ON ST CO dposts dsees dcold dmen don dstove many sees cold) (a : Int32) : ∃ x, f_X0_watchedBy N a dposts dsees = some x ∧ f_X7_watched N a many sees = some x := by
  obtain ⟨⟨e1, e2, e3, e4⟩, ⟨dm0, dm1, dm2, dm3⟩, ⟨dP, dM, dON, dST⟩, dco, dse⟩ := id dr
  obtain ⟨t, t', h1, h2, rfl⟩ := lp_two (b1 := fun x : Int32 × Int32 => b_X0_watchedBy_1 N a dposts dsees x.1 x.2) (b2 := fun x : Int32 × Int32 => b_X7_watched_1 N a many sees x.1 x.2) (Q := fun t t' => t = t') P (fun i x y => x = y ∧ x.2 = nI i) (a, 0) (a, 0) N (by
      rintro i ⟨x1, x2⟩ _ hi ⟨rfl, hx⟩
      dsimp only at hx ⊢
      subst hx
      have n1 : ¬ P ≤ i := by omega
      have n2 : i < 10 := by omega
      have e5 := seenFrom_eq (N := N) dr hi
      refine Or.inl ?_
      simp (disch := omega) only [b_X0_watchedBy_1, b_X7_watched_1, e1, fa_lit, dm0, nI_leI, ci_nI, n1, ↓reduceIte, ix_iff, n2]
      rw [e1] at e5
      rw [e5]
      by_cases hb : ((a >>> (nI i &&& nI 31)) &&& nI 1) = nI 1
      · simp only [hb, ↓reduceIte, Option.bind_some]
        exact ⟨_, _, rfl, rfl, rfl, by rw [nI_add]⟩
      · simp only [hb, ↓reduceIte]
        refine ⟨_, _, rfl, rfl, ?_, by rw [nI_add]⟩
        rw [show x1 ||| nI 0 = x1 from Int32.or_zero]) (by
      rintro ⟨x1, x2⟩ _ ⟨rfl, hx⟩
      dsimp only at hx ⊢
      subst hx
      simp (disch := omega) only [b_X0_watchedBy_1, b_X7_watched_1, e1, fa_lit, dm0, nI_leI, ci_nI, Nat.le_refl, ↓reduceIte]
      exact ⟨_, _, rfl, rfl, rfl⟩) (by omega) ⟨rfl, rfl⟩
  refine ⟨t, ?_, ?_⟩
  · unfold f_X0_watchedBy
    rw [show lp (fun x : Int32 × Int32 => b_X0_watchedBy_1 N a dposts dsees x.1 x.2) N (a, 0) = _ from h1]; rfl
  · unfold f_X7_watched
    rw [show lp (fun x : Int32 × Int32 => b_X7_watched_1 N a many sees x.1 x.2) N (a, 0) = _ from h2]; rfl
theorem watchedIn_two (hN : 8000 < N) (dr : DR P M ON ST CO dposts dsees dcold dmen don dstove many sees cold) (iv : IV P M H D W G S V) (rw : RW M hr db gu sd sv H D G S V) (rs : RS M s H D W S V) : ∃ x, f_X5_watchedPosts N dposts dsees db gu = some x ∧ f_X7_watchedIn_w N many sees s = some x := by
  have dm1 := dr.2.1.2.1
  obtain ⟨x, h1, h2⟩ := watched_two (N := N) hN dr (bs (fun p => (G p).isSome) &&& (bs (slp D G) ^^^ (-1)))
  refine ⟨x, ?_, ?_⟩
  · unfold f_X5_watchedPosts
    rw [mannedPosts_eq hN iv rw, Option.bind_some, sleepingPosts_eq hN iv rw, Option.bind_some, h1]; rfl
  · unfold f_X7_watchedIn_w
    rw [standing_eq hN iv rs dm1, Option.bind_some, asleep_eq hN iv rs dm1, Option.bind_some, h2]; rfl
variable {th : Int32}
theorem c_post (hN : 8000 < N) (dr : DR P M ON ST CO dposts dsees dcold dmen don dstove many sees cold) (ws : WS P M hr db gu sd sv s) (a1 a2 : Int32) : ∃ v, f_X6_post N a1 a2 dposts dsees dcold gu sd = some v ∧ f_X7_post N a1 a2 th many sees cold s = some (v, 0) := by
  obtain ⟨⟨e1, e2, e3, e4⟩, ⟨dm0, dm1, dm2, dm3⟩, ⟨dP, dM, dON, dST⟩, dco, dse⟩ := id dr
  obtain ⟨H, D, W, G, S, V, rw, rs, iv, hh⟩ := ws
  rcases post_cases (N := N) (many := many) a1 dP dm0 with ⟨h1, h2⟩ | ⟨p, hp, rfl, h1, h2⟩
  · unfold f_X6_post f_X7_post
    rw [e1, h1, h2]
    exact ⟨-1, rfl, rfl⟩
  · have e5 := seenFrom_eq (N := N) dr hp
    have hp5 : p < 5 := by omega
    have n1 : p < 10 := by omega
    have n2 : 13 + p < 48 := by omega
    have e6 : f_X7_manAt_s N (nI p) many s = some (enc (G p)) := manAt_eq hN iv.2.1 (fun m hm => Nat.le_trans (iv.2.2.2.2.1 m hm) dP) iv.2.2.2.2.2.1 rs.2.2.1 dm1 hp5
    unfold f_X6_post f_X7_post
    rw [e5, e1, h1, h2]
    have z : ¬ nI 1 = nI 0 := by decide
    rcases range_cases (N := N) a2 0 3 (by omega) (by omega) with ⟨g1, g2, g3⟩ | ⟨j, g1, g2, rfl, g3, g4⟩
    · have k0 := g3 0 (by omega) (by omega)
      have k1 := g3 1 (by omega) (by omega)
      have k2 := g3 2 (by omega) (by omega)
      have k3 := g3 3 (by omega) (by omega)
      simp only [fa_lit, Option.bind_some, z, ↓reduceIte, g2, k0, k1, k2, k3]
      exact ⟨_, rfl, rfl⟩
    · rcases (show j = 0 ∨ j = 1 ∨ j = 2 ∨ j = 3 by omega) with rfl | rfl | rfl | rfl
      · simp (disch := omega) only [fa_lit, Option.bind_some, z, ↓reduceIte, g4, ix_iff, ci_nI, n1]
        exact ⟨_, rfl, rfl⟩
      · have : ¬ nI 1 = nI 0 := by decide
        simp (disch := omega) only [fa_lit, Option.bind_some, this, ↓reduceIte, g4, ix_iff, ci_nI, n1, hp5, (dco p hp).1, (dco p hp).2.1]
        exact ⟨_, rfl, rfl⟩
      · have w1 : ¬ nI 2 = nI 0 := by decide
        have w2 : ¬ nI 2 = nI 1 := by decide
        simp (disch := omega) only [fa_lit, Option.bind_some, z, w1, w2, ↓reduceIte, g4, ix_iff, ci_nI, hp5, e6, rw.2.2.1 p hp5]
        exact ⟨_, rfl, rfl⟩
      · have w1 : ¬ nI 3 = nI 0 := by decide
        have w2 : ¬ nI 3 = nI 1 := by decide
        have w3 : ¬ nI 3 = nI 2 := by decide
        simp (disch := omega) only [fa_lit, Option.bind_some, z, w1, w2, w3, ↓reduceIte, g4, nI_add, ix_iff, ci_nI, hp5, n2, rw.2.2.2.1 p hp5, rs.2.2.2.1 p hp5]
        exact ⟨_, rfl, rfl⟩
theorem c_man (hN : 8000 < N) (dr : DR P M ON ST CO dposts dsees dcold dmen don dstove many sees cold) (ws : WS P M hr db gu sd sv s) (a1 a2 : Int32) : ∃ v, f_X6_man N a1 a2 dmen db gu = some v ∧ f_X7_man N a1 a2 th many s = some (v, 0) := by
  obtain ⟨⟨e1, e2, e3, e4⟩, ⟨dm0, dm1, dm2, dm3⟩, ⟨dP, dM, dON, dST⟩, dco, dse⟩ := id dr
  obtain ⟨H, D, W, G, S, V, rw, rs, iv, hh⟩ := ws
  rcases man_cases (N := N) (many := many) a1 dM dm1 with ⟨h1, h2⟩ | ⟨m, hm, rfl, h1, h2⟩
  · unfold f_X6_man f_X7_man
    rw [e2, h1, h2]
    exact ⟨-1, rfl, rfl⟩
  · have hw := iv.2.2.2.2.1 m hm
    have e6 := placeOf_eq (N := N) hN iv.2.1 (fun m hm => Nat.le_trans (iv.2.2.2.2.1 m hm) dP) iv.2.2.2.2.2.1 rw.2.2.1 hm
    have e7 : f_X7_isAsleep_s N (nI m) s = _ := isAsleep_eq (N := N) iv rs hm
    have n1 : m < 6 := by omega
    have n2 : 1 + m < 48 := by omega
    have n3 : 7 + m < 48 := by omega
    unfold f_X6_man f_X7_man
    rw [e2, h1, h2, Option.bind_some, Option.bind_some, e6, e7]
    have z : ¬ nI 1 = nI 0 := by decide
    rcases range_cases (N := N) a2 0 2 (by omega) (by omega) with ⟨g1, g2, g3⟩ | ⟨j, g1, g2, rfl, g3, g4⟩
    · have k0 := g3 0 (by omega) (by omega)
      have k1 := g3 1 (by omega) (by omega)
      have k2 := g3 2 (by omega) (by omega)
      simp only [fa_lit, Option.bind_some, z, ↓reduceIte, g2, k0, k1, k2]
      exact ⟨_, rfl, rfl⟩
    · rcases (show j = 0 ∨ j = 1 ∨ j = 2 by omega) with rfl | rfl | rfl
      · simp (disch := omega) only [fa_lit, Option.bind_some, z, ↓reduceIte, g4, nI_add, ix_iff, ci_nI, n1, n2, rw.2.1 m hm, rs.2.1 m hm]
        exact ⟨_, rfl, rfl⟩
      · have : ¬ nI 1 = nI 0 := by decide
        simp (disch := omega) only [fa_lit, Option.bind_some, this, ↓reduceIte, g4, nI_add, ix_iff, ci_nI, n3, rs.2.2.1 m hm, nI_eq]
        by_cases h0 : W m = 0
        · simp only [h0, pl, ↓reduceIte]
          exact ⟨_, rfl, rfl⟩
        · simp (disch := omega) only [h0, pl, ↓reduceIte, pk_sub]
          exact ⟨_, rfl, rfl⟩
      · have w1 : ¬ nI 2 = nI 0 := by decide
        have w2 : ¬ nI 2 = nI 1 := by decide
        simp (disch := omega) only [fa_lit, Option.bind_some, z, w1, w2, ↓reduceIte, g4]
        by_cases h0 : W m = 0
        · have : ¬ (0 < W m ∧ 40 ≤ D m) := by omega
          simp only [this, h0, pl, ↓reduceIte]
          exact ⟨_, rfl, rfl⟩
        · have hg : G (W m - 1) = some m := (iv.2.2.2.2.2.1 (W m - 1) (by omega) m).mpr ⟨hm, by omega⟩
          have e8 := sleepsAt_eq (N := N) iv rw (p := W m - 1) (by omega)
          simp (disch := omega) only [h0, pl, ↓reduceIte, nI_ne_neg, e8, Option.bind_some, slp, hg]
          by_cases h4 : 40 ≤ D m
          · have : 0 < W m ∧ 40 ≤ D m := by omega
            simp only [this, h4, decide_true, and_self, ↓reduceIte, z]
            exact ⟨_, rfl, rfl⟩
          · have : ¬ (0 < W m ∧ 40 ≤ D m) := by omega
            simp only [h4, and_false, decide_false, ↓reduceIte, Bool.false_eq_true]
            exact ⟨_, rfl, rfl⟩
theorem c_now (hN : 8000 < N) (dr : DR P M ON ST CO dposts dsees dcold dmen don dstove many sees cold) (ws : WS P M hr db gu sd sv s) (hk : known = um) (a1 : Int32) : ∃ v, f_X6_now N a1 dposts dsees hr db gu known = some v ∧ f_X7_now N a1 th many sees s um = some (v, 0) := by
  have dm1 := dr.2.1.2.1
  obtain ⟨H, D, W, G, S, V, rw, rs, iv, hh⟩ := ws
  have q1 := mannedPosts_eq hN iv rw
  have q2 := sleepingPosts_eq hN iv rw
  have q3 : f_X7_standing_s N many s = _ := standing_eq hN iv rs dm1
  have q4 : f_X7_asleep_s N many s = _ := asleep_eq hN iv rs dm1
  obtain ⟨x, q5, q6⟩ := watchedIn_two hN dr iv rw rs
  have q6 : f_X7_watchedIn_s N many sees s = some x := q6
  have r0 : s (ci 0) = nI H := rs.1
  unfold f_X6_now f_X7_now
  rw [q1, q2, q3, q4, q5, q6, r0, rw.1, hk]
  have z : ¬ nI 1 = nI 0 := by decide
  rcases range_cases (N := N) a1 0 4 (by omega) (by omega) with ⟨g1, g2, g3⟩ | ⟨j, g1, g2, rfl, g3, g4⟩
  · have k0 := g3 0 (by omega) (by omega)
    have k1 := g3 1 (by omega) (by omega)
    have k2 := g3 2 (by omega) (by omega)
    have k3 := g3 3 (by omega) (by omega)
    have k4 := g3 4 (by omega) (by omega)
    simp only [fa_lit, Option.bind_some, ↓reduceIte, g2, k0, k1, k2, k3, k4]
    exact ⟨_, rfl, rfl⟩
  · rcases (show j = 0 ∨ j = 1 ∨ j = 2 ∨ j = 3 ∨ j = 4 by omega) with rfl | rfl | rfl | rfl | rfl <;>
    · simp (disch := omega) only [fa_lit, g4, Option.bind_some, nI_eq, nI_leI]
      simp
theorem c_had (dr : DR P M ON ST CO dposts dsees dcold dmen don dstove many sees cold) (ws : WS P M hr db gu sd sv s) (a1 a2 : Int32) : ∃ v, f_X6_had N a1 a2 dposts dmen sv = some v ∧ f_X7_had N a1 a2 th many s = some (v, 0) := by
  obtain ⟨⟨e1, e2, e3, e4⟩, ⟨dm0, dm1, dm2, dm3⟩, ⟨dP, dM, dON, dST⟩, dco, dse⟩ := id dr
  obtain ⟨H, D, W, G, S, V, rw, rs, iv, hh⟩ := ws
  have z : ¬ nI 1 = nI 0 := by decide
  unfold f_X6_had f_X7_had
  rcases man_cases (N := N) (many := many) a1 dM dm1 with ⟨h1, h2⟩ | ⟨m, hm, rfl, h1, h2⟩
  · rw [e2, h1, h2]
    exact ⟨-1, rfl, rfl⟩
  · rcases post_cases (N := N) (many := many) a2 dP dm0 with ⟨h3, h4⟩ | ⟨p, hp, rfl, h3, h4⟩
    · rw [e1, e2, h1, h2, h3, h4]
      exact ⟨-1, rfl, rfl⟩
    · rw [e1, e2, h1, h2, h3, h4]
      have n1 : m * 5 + p < 30 := by omega
      have n2 : 18 + 5 * m + p < 48 := by omega
      simp (disch := omega) only [fa_lit, Option.bind_some, z, ↓reduceIte, pk_mul, nI_add, ix_iff, ci_nI, n1, n2, rs.2.2.2.2 m hm p (by omega)]
      have := rw.2.2.2.2 m hm p (by omega)
      rw [show m * 5 + p = 5 * m + p by omega, this]
      exact ⟨_, rfl, rfl⟩
end CL

/-! ===== pure side: unseen, creep, round ===== -/
section A2
variable {N : Nat} {P M ON ST H : Nat} {CO : Nat → Nat} {D W S V : Nat → Nat} {G : Nat → Option Nat} {hr dposts dmen don dstove ahr th : Int32} {db gu sd sv s dsees dcold many sees cold adb agu asd asv w : FN}
/-- the reference goes on, its answer being known -/
theorem unseen_rest (hN : 8000 < N) (dr : DR P M ON ST CO dposts dsees dcold dmen don dstove many sees cold) (p : Int32) {n : Nat} (hn : n ≤ 12) : ∀ (k i K H : Nat) (hr : Int32) (db gu sd sv w : FN), i + k = n → H + k ≤ 500 → k < K → RB P M H hr db gu sd sv w → ∃ w', lp (fun x : Int32 × Int32 × FN => b_X7_unseen_1 N p (nI n) many sees cold x.1 x.2.1 x.2.2) K (nI 0, nI i, w) = some (nI 0, w') := by
  intro k
  induction k with
  | zero =>
    intro i K H hr db gu sd sv w hi hH hK rb
    obtain ⟨K, rfl⟩ : ∃ K', K = K' + 1 := ⟨K - 1, by omega⟩
    have hin : i = n := by omega
    subst hin
    refine ⟨w, lp_inr ?_⟩
    simp (disch := omega) only [b_X7_unseen_1, nI_leI, Nat.le_refl, ↓reduceIte]
  | succ k ih =>
    intro i K H hr db gu sd sv w hi hH hK rb
    obtain ⟨K, rfl⟩ : ∃ K', K = K' + 1 := ⟨K - 1, by omega⟩
    obtain ⟨k1, k2, k3, k4, k5, k6, r1, r2, r3⟩ := adv_two (rota := 0) hN dr (by omega) (by omega) rb
    have n1 : ¬ n ≤ i := by omega
    obtain ⟨w', h⟩ := ih (i + 1) K (H + 1) _ _ _ _ _ _ (by omega) (by omega) (by omega) r3
    refine ⟨w', ?_⟩
    rw [lp_inl (s' := (nI 0, nI (i + 1), k6)) (by simp (disch := omega) only [b_X7_unseen_1, fa_lit, nI_leI, n1, ↓reduceIte, r2, ob, nI_add])]
    exact h
theorem unseen_two (hN : 8000 < N) (dr : DR P M ON ST CO dposts dsees dcold dmen don dstove many sees cold) {p : Nat} (hp : p < 5) {n : Nat} (hn : n ≤ 12) : ∀ (k i K H : Nat) (hr : Int32) (db gu sd sv w : FN), i + k = n → H + k ≤ 500 → k < K → RB P M H hr db gu sd sv w → ∃ t t', lp (fun x : Int32 × Int32 × FN × FN × FN × FN => b_X6_unseen_1 N (nI p) (nI n) dposts dsees dcold dmen don dstove x.1 x.2.1 x.2.2.1 x.2.2.2.1 x.2.2.2.2.1 x.2.2.2.2.2) K (nI i, hr, db, gu, sd, sv) = some t ∧ lp (fun x : Int32 × Int32 × FN => b_X7_unseen_1 N (nI p) (nI n) many sees cold x.1 x.2.1 x.2.2) K (nI 1, nI i, w) = some t' ∧ ((∃ a, t = .inl a ∧ t'.1 = nI 1) ∨ (∃ a, t = .inr (nI 0, a) ∧ t'.1 = nI 0)) := by
  intro k
  induction k with
  | zero =>
    intro i K H hr db gu sd sv w hi hH hK rb
    obtain ⟨K, rfl⟩ : ∃ K', K = K' + 1 := ⟨K - 1, by omega⟩
    have hin : i = n := by omega
    subst hin
    refine ⟨_, _, lp_inr (t := .inl (hr, db, gu, sd, sv)) ?_, lp_inr (t := (nI 1, w)) ?_, Or.inl ⟨_, rfl, rfl⟩⟩
    · simp (disch := omega) only [b_X6_unseen_1, nI_leI, Nat.le_refl, ↓reduceIte]
    · simp (disch := omega) only [b_X7_unseen_1, nI_leI, Nat.le_refl, ↓reduceIte]
  | succ k ih =>
    intro i K H hr db gu sd sv w hi hH hK rb
    obtain ⟨K, rfl⟩ : ∃ K', K = K' + 1 := ⟨K - 1, by omega⟩
    obtain ⟨k1, k2, k3, k4, k5, k6, r1, r2, r3⟩ := adv_two (rota := 0) hN dr (by omega) (by omega) rb
    have n1 : ¬ n ≤ i := by omega
    have n2 : ¬ nI 1 = nI 0 := by decide
    obtain ⟨D', W', G', S', V', rw', rs', iv'⟩ := id r3
    obtain ⟨x, v1, v2⟩ := watchedIn_two hN dr iv' rw' rs'
    by_cases hb : ((x >>> (nI p &&& nI 31)) &&& nI 1) = nI 1
    · have hb0 : ¬ ((x >>> (nI p &&& nI 31)) &&& nI 1) = nI 0 := by rw [hb]; decide
      obtain ⟨w', h⟩ := unseen_rest hN dr (nI p) hn k (i + 1) K (H + 1) _ _ _ _ _ _ (by omega) (by omega) (by omega) r3
      refine ⟨.inr (nI 0, k1, k2, k3, k4, k5), (nI 0, w'), lp_inr ?_, ?_, Or.inr ⟨_, rfl, rfl⟩⟩
      · simp (disch := omega) only [b_X6_unseen_1, fa_lit, nI_leI, n1, ↓reduceIte, r1, ob, v1, hb]
      · rw [lp_inl (s' := (nI 0, nI (i + 1), k6)) (by simp (disch := omega) only [b_X7_unseen_1, fa_lit, nI_leI, n1, n2, ↓reduceIte, r2, ob, nI_add, v2, hb0])]
        exact h
    · have hb0 : ((x >>> (nI p &&& nI 31)) &&& nI 1) = nI 0 := by
        have key : ∀ y : Int32, y &&& nI 1 = nI 0 ∨ y &&& nI 1 = nI 1 := by
          intro y
          obtain ⟨j, hj, e⟩ := pk_andE y (m := nI 1) 1 (by decide)
          rcases (show j = 0 ∨ j = 1 by omega) with rfl | rfl
          · exact Or.inl e
          · exact Or.inr e
        exact (key _).resolve_right hb
      obtain ⟨t, t', h1, h2, h3⟩ := ih (i + 1) K (H + 1) _ _ _ _ _ _ (by omega) (by omega) (by omega) r3
      refine ⟨t, t', ?_, ?_, h3⟩
      · rw [lp_inl (s' := (nI (i + 1), k1, k2, k3, k4, k5)) (by simp (disch := omega) only [b_X6_unseen_1, fa_lit, nI_leI, n1, ↓reduceIte, r1, ob, v1, hb, nI_add])]
        exact h1
      · rw [lp_inl (s' := (nI 1, nI (i + 1), k6)) (by simp (disch := omega) only [b_X7_unseen_1, fa_lit, nI_leI, n1, n2, ↓reduceIte, r2, ob, nI_add, v2, hb0])]
        exact h2
set_option maxRecDepth 100000 in
theorem c_unseen (hN : 8000 < N) (dr : DR P M ON ST CO dposts dsees dcold dmen don dstove many sees cold) (ws : WS P M hr db gu sd sv s) (a1 a2 : Int32) : ∃ v b1 b2 b3 b4 b5 w', f_X6_unseen N a1 a2 dposts dsees dcold dmen don dstove hr db gu sd sv ahr adb agu asd asv = some (v, b1, b2, b3, b4, b5) ∧ f_X7_unseen N a1 a2 th many sees cold s w = some (v, 0, w') := by
  obtain ⟨⟨e1, e2, e3, e4⟩, ⟨dm0, dm1, dm2, dm3⟩, ⟨dP, dM, dON, dST⟩, dco, dse⟩ := id dr
  obtain ⟨H, hH, rb⟩ := WS_RB ws
  have z : ¬ nI 1 = nI 0 := by decide
  have z0 : ¬ nI 1 = (0 : Int32) := by decide
  unfold f_X6_unseen f_X7_unseen
  rcases post_cases (N := N) (many := many) a1 dP dm0 with ⟨h3, h4⟩ | ⟨p, hp, rfl, h3, h4⟩
  · rw [e1, h3, h4]
    exact ⟨-1, _, _, _, _, _, _, rfl, rfl⟩
  have h3' : f_X6_isPost N (nI p) dposts = some (nI 1) := by rw [e1]; exact h3
  rw [h3', h4, Option.bind_some, Option.bind_some, if_neg z0, if_neg z0]
  rcases range_cases (N := N) a2 1 12 (by omega) (by omega) with ⟨g1, g2, -⟩ | ⟨n, -, hn, rfl, g1, g2⟩
  · rw [show f_X6_within N a2 1 12 = _ from g1, show f_X7_in N a2 1 12 = _ from g2]
    exact ⟨-1, _, _, _, _, _, _, rfl, rfl⟩
  rw [show f_X6_within N (nI n) 1 12 = _ from g1, show f_X7_in N (nI n) 1 12 = _ from g2, Option.bind_some, Option.bind_some, if_neg z0, if_neg z0, asNow_eq hN]
  unfold f_X5_become
  rw [Option.bind_some, Option.bind_some]
  dsimp only
  obtain ⟨t, t', h1, h2, h3⟩ := unseen_two hN dr (p := p) (by omega) hn n 0 N H _ _ _ _ _ _ (by omega) (by omega) (by omega) (RB_copy rb adb agu asd asv w)
  rw [show lp (fun x : Int32 × Int32 × FN × FN × FN × FN => b_X6_unseen_1 N (nI p) (nI n) dposts dsees dcold dmen don dstove x.1 x.2.1 x.2.2.1 x.2.2.2.1 x.2.2.2.2.1 x.2.2.2.2.2) N (0, hr, va_cpy db adb (ci 0) (ci 0) (ci 6), va_cpy gu agu (ci 0) (ci 0) (ci 5), va_cpy sd asd (ci 0) (ci 0) (ci 5), va_cpy sv asv (ci 0) (ci 0) (ci 30)) = some t from h1, show lp (fun x : Int32 × Int32 × FN => b_X7_unseen_1 N (nI p) (nI n) many sees cold x.1 x.2.1 x.2.2) N (1, 0, rowF s w 0 48) = some t' from h2, Option.bind_some, Option.bind_some]
  rcases h3 with ⟨a, rfl, h4⟩ | ⟨a, rfl, h4⟩
  · rw [h4]
    exact ⟨_, _, _, _, _, _, _, rfl, rfl⟩
  · rw [h4]
    exact ⟨_, _, _, _, _, _, _, rfl, rfl⟩
/-! creep -/
theorem lowest_two (hN : 8000 < N) (f : Nat → Bool) (h0 : ¬ bs f = nI 0) : ∃ x, f_J6_numberOfTrailingZeros N (bs f) = some x ∧ f_X7_lowest N (bs f) = some x := by
  obtain ⟨n, hn, e⟩ := bs_lt f
  rw [e] at h0 ⊢
  have h1 : n ≠ 0 := fun h => h0 (by rw [h])
  have key : ∀ k : Fin 32, k.val ≠ 0 → f_J6_numberOfTrailingZeros 0 (nI k.val) = lp (fun s => b_X7_lowest_1 0 (nI k.val) s) 10 0 ∧ (lp (fun s => b_X7_lowest_1 0 (nI k.val) s) 10 0).isSome = true := by decide +kernel
  obtain ⟨k1, k2⟩ := key ⟨n, hn⟩ h1
  obtain ⟨x, hx⟩ := Option.isSome_iff_exists.mp k2
  refine ⟨x, k1.trans hx, ?_⟩
  unfold f_X7_lowest
  rw [show lp (fun s => b_X7_lowest_1 N (nI n) s) N 0 = some x from lp_mono 10 0 N (by omega) hx]
  rfl
set_option maxHeartbeats 1000000 in
set_option maxRecDepth 100000 in
theorem c_creep (hN : 8000 < N) (dr : DR P M ON ST CO dposts dsees dcold dmen don dstove many sees cold) (ws : WS P M hr db gu sd sv s) (a1 a2 : Int32) : ∃ v b1 b2 b3 b4 b5 w', f_X6_creep N a1 a2 dposts dcold dmen don dstove hr db gu sd sv ahr adb agu asd asv = some (v, b1, b2, b3, b4, b5) ∧ f_X7_creep N a1 a2 th many cold s w = some (v, 0, w') := by
  have dm1 := dr.2.1.2.1
  obtain ⟨H, hH, rb⟩ := WS_RB ws
  have z : ¬ nI 1 = nI 0 := by decide
  have z0 : ¬ nI 1 = (0 : Int32) := by decide
  unfold f_X6_creep f_X7_creep
  rcases range_cases (N := N) a1 1 24 (by omega) (by omega) with ⟨g1, g2, -⟩ | ⟨n, -, hn, rfl, g1, g2⟩
  · rw [show f_X6_within N a1 1 24 = _ from g1, show f_X7_in N a1 1 24 = _ from g2]
    exact ⟨-1, _, _, _, _, _, _, rfl, rfl⟩
  rw [show f_X6_within N (nI n) 1 24 = _ from g1, show f_X7_in N (nI n) 1 24 = _ from g2, Option.bind_some, Option.bind_some, if_neg z0, if_neg z0]
  rcases range_cases (N := N) a2 0 1 (by omega) (by omega) with ⟨g1, g2, -⟩ | ⟨what, -, hwhat, rfl, g1, g2⟩
  · rw [show f_X6_within N a2 0 1 = _ from g1, show f_X7_in N a2 0 1 = _ from g2]
    exact ⟨-1, _, _, _, _, _, _, rfl, rfl⟩
  rw [show f_X6_within N (nI what) 0 1 = _ from g1, show f_X7_in N (nI what) 0 1 = _ from g2, Option.bind_some, Option.bind_some, if_neg z0, if_neg z0, asNow_eq hN]
  unfold f_X5_become
  rw [Option.bind_some, Option.bind_some]
  dsimp only
  obtain ⟨t, t', h1, h2, h3⟩ := lp_two (b1 := fun x : Int32 × Int32 × FN × FN × FN × FN => b_X6_creep_1 N (nI n) (nI what) dposts dcold dmen don dstove x.1 x.2.1 x.2.2.1 x.2.2.2.1 x.2.2.2.2.1 x.2.2.2.2.2) (b2 := fun x : Int32 × FN => b_X7_creep_1 N (nI n) (nI what) 0 many cold x.1 x.2)
    (Q := fun t t' => (∃ a b, t = .inl a ∧ t' = .inl b) ∨ (∃ v a b, t = .inr (v, a) ∧ t' = .inr (v, 0, b))) (n + 1)
    (fun i x y => x.1 = nI i ∧ y.1 = nI i ∧ RB P M (H + i) x.2.1 x.2.2.1 x.2.2.2.1 x.2.2.2.2.1 x.2.2.2.2.2 y.2)
    (0, hr, va_cpy db adb (ci 0) (ci 0) (ci 6), va_cpy gu agu (ci 0) (ci 0) (ci 5), va_cpy sd asd (ci 0) (ci 0) (ci 5), va_cpy sv asv (ci 0) (ci 0) (ci 30)) (0, rowF s w 0 48) N (by
      rintro i ⟨x1, x3, x4, x5, x6, x7⟩ ⟨y1, y3⟩ hi ⟨e1, e2, rbi⟩
      dsimp only at e1 e2 rbi ⊢
      subst e1 e2
      have n1 : ¬ n < i := by omega
      obtain ⟨f', s1, s2⟩ := sleep_two (N := N) hN dm1 rbi
      by_cases h0 : bs f' = nI 0
      · obtain ⟨k1, k2, k3, k4, k5, k6, r1, r2, r3⟩ := adv_two (rota := 1) hN dr (by omega) (by omega) rbi
        refine Or.inl ?_
        simp (disch := omega) only [b_X6_creep_1, b_X7_creep_1, fa_lit, nI_ltI, n1, ↓reduceIte, s1, s2, ob, h0, r1, r2, nI_add]
        exact ⟨_, _, rfl, rfl, rfl, rfl, r3⟩
      · obtain ⟨x, l1, l2⟩ := lowest_two (N := N) hN f' h0
        refine Or.inr ?_
        rcases (show what = 0 ∨ what = 1 by omega) with rfl | rfl
        · simp (disch := omega) only [b_X6_creep_1, b_X7_creep_1, fa_lit, nI_ltI, n1, ↓reduceIte, s1, s2, ob, h0]
          exact ⟨_, _, rfl, rfl, Or.inr ⟨_, _, _, rfl, rfl⟩⟩
        · simp (disch := omega) only [b_X6_creep_1, b_X7_creep_1, fa_lit, nI_ltI, n1, z, ↓reduceIte, s1, s2, ob, h0, l1, l2]
          exact ⟨_, _, rfl, rfl, Or.inr ⟨_, _, _, rfl, rfl⟩⟩) (by
      rintro ⟨x1, x3, x4, x5, x6, x7⟩ ⟨y1, y3⟩ ⟨e1, e2, rbi⟩
      dsimp only at e1 e2 rbi ⊢
      subst e1 e2
      have n1 : n < n + 1 := by omega
      simp (disch := omega) only [b_X6_creep_1, b_X7_creep_1, nI_ltI, n1, ↓reduceIte]
      exact ⟨_, _, rfl, rfl, Or.inl ⟨_, _, rfl, rfl⟩⟩) (by omega) ⟨rfl, rfl, RB_copy rb adb agu asd asv w⟩
  rw [show lp (fun x : Int32 × Int32 × FN × FN × FN × FN => b_X6_creep_1 N (nI n) (nI what) dposts dcold dmen don dstove x.1 x.2.1 x.2.2.1 x.2.2.2.1 x.2.2.2.2.1 x.2.2.2.2.2) N (0, hr, va_cpy db adb (ci 0) (ci 0) (ci 6), va_cpy gu agu (ci 0) (ci 0) (ci 5), va_cpy sd asd (ci 0) (ci 0) (ci 5), va_cpy sv asv (ci 0) (ci 0) (ci 30)) = some t from h1, show lp (fun x : Int32 × FN => b_X7_creep_1 N (nI n) (nI what) 0 many cold x.1 x.2) N (0, rowF s w 0 48) = some t' from h2, Option.bind_some, Option.bind_some]
  rcases h3 with ⟨a, b, rfl, rfl⟩ | ⟨v, a, b, rfl, rfl⟩
  · exact ⟨_, _, _, _, _, _, _, rfl, rfl⟩
  · exact ⟨_, _, _, _, _, _, _, rfl, rfl⟩
/-! round -/
def sumN : Nat → (Nat → Nat) → Nat
  | 0, _ => 0
  | n + 1, f => sumN n f + f n
theorem sum_cong {f g : Nat → Nat} : ∀ {n : Nat}, (∀ k, k < n → f k = g k) → sumN n f = sumN n g
  | 0, _ => rfl
  | n + 1, h => by rw [sumN, sumN, sum_cong (fun k hk => h k (by omega)), h n (by omega)]
theorem sum_zero {f : Nat → Nat} : ∀ {n : Nat}, (∀ k, k < n → f k = 0) → sumN n f = 0
  | 0, _ => rfl
  | n + 1, h => by rw [sumN, sum_zero (fun k hk => h k (by omega)), h n (by omega)]
theorem sum_add (f g : Nat → Nat) : ∀ n, sumN n (fun k => f k + g k) = sumN n f + sumN n g
  | 0 => rfl
  | n + 1 => by rw [sumN, sumN, sumN, sum_add f g n]; omega
theorem sum_swap (g : Nat → Nat → Nat) (b : Nat) : ∀ a, sumN a (fun i => sumN b (fun j => g i j)) = sumN b (fun j => sumN a (fun i => g i j))
  | 0 => by rw [sumN]; exact (sum_zero fun _ _ => rfl).symm
  | a + 1 => by
    rw [sumN, sum_swap g b a, ← sum_add]
    rfl
theorem sum_one {f : Nat → Nat} {k : Nat} : ∀ {n : Nat}, k < n → (∀ j, j < n → j ≠ k → f j = 0) → sumN n f = f k
  | 0, h, _ => by omega
  | n + 1, h, h0 => by
    rw [sumN]
    by_cases hk : k = n
    · subst hk
      rw [sum_zero (fun j hj => h0 j (by omega) (by omega)), Nat.zero_add]
    · rw [sum_one (k := k) (by omega) (fun j hj hjk => h0 j (by omega) hjk), h0 n (by omega) (by omega), Nat.add_zero]
theorem sum_le {f : Nat → Nat} {c : Nat} : ∀ {n : Nat}, (∀ k, k < n → f k ≤ c) → sumN n f ≤ c * n
  | 0, _ => by simp [sumN]
  | n + 1, h => by
    have h1 := sum_le (f := f) (c := c) (n := n) (fun k hk => h k (by omega))
    have h2 := h n (by omega)
    rw [sumN, Nat.mul_succ]
    omega
theorem stand_two (hN : 8000 < N) (dm1 : many 1 = nI M) (iv : IV P M H D W G S V) (rw2 : ∀ m, m < M → db m = nI (D m)) (rw3 : ∀ p, p < 5 → gu p = enc (G p)) (rs : RS M s H D W S V) : ∃ c, c ≤ 400 ∧ f_X5_debtOnPost N db gu = some (nI c) ∧ f_X7_debtStanding_w N many s = some (nI c) := by
  obtain ⟨hP, hM, hH, hD, hW, lk, hS, hV⟩ := iv
  have hWb : ∀ m, m < M → (if 0 < W m then D m else 0) ≤ 60 := fun m hm => by
    have := hD m hm
    split <;> omega
  have hGb : ∀ p, p < 5 → (match G p with | some m => D m | none => 0) ≤ 60 := fun p hp => by
    cases hg : G p with
    | none => simp
    | some m => exact hD m (lk.lt hp hg).1
  have hb : ∀ i, i ≤ M → sumN i (fun m => if 0 < W m then D m else 0) ≤ 400 := fun i hi => by
    have := sum_le (f := fun m => if 0 < W m then D m else 0) (c := 60) (n := i) (fun k hk => hWb k (by omega))
    omega
  have hb' : ∀ i, i ≤ 5 → sumN i (fun p => match G p with | some m => D m | none => 0) ≤ 400 := fun i hi => by
    have := sum_le (f := fun p => match G p with | some m => D m | none => 0) (c := 60) (n := i) (fun k hk => hGb k (by omega))
    omega
  have heq : sumN 5 (fun p => match G p with | some m => D m | none => 0) = sumN M (fun m => if 0 < W m then D m else 0) := by
    have e1 : sumN 5 (fun p => match G p with | some m => D m | none => 0) = sumN 5 (fun p => sumN M (fun m => if W m = p + 1 then D m else 0)) := by
      refine sum_cong fun p hp => ?_
      cases hg : G p with
      | none =>
        refine (sum_zero fun m hm => ?_).symm
        rw [if_neg]
        intro h
        have := (lk p hp m).mpr ⟨hm, h⟩
        rw [hg] at this; cases this
      | some k =>
        obtain ⟨k1, k2⟩ := lk.lt hp hg
        rw [sum_one k1 (fun m hm hmk => ?_), if_pos k2]
        rw [if_neg]
        intro h
        have := (lk p hp m).mpr ⟨hm, h⟩
        rw [hg] at this
        exact hmk (Option.some.inj this).symm
    rw [e1, sum_swap]
    refine sum_cong fun m hm => ?_
    have wm := hW m hm
    by_cases h0 : 0 < W m
    · rw [if_pos h0, sum_one (k := W m - 1) (by omega) (fun p hp hpk => by rw [if_neg (by omega)]), if_pos (by omega)]
    · rw [if_neg h0]
      exact sum_zero fun p hp => by rw [if_neg (by omega)]
  refine ⟨sumN M (fun m => if 0 < W m then D m else 0), hb M (by omega), ?_, ?_⟩
  · rw [← heq]
    unfold f_X5_debtOnPost
    have h := lp_seq (body := fun x : Int32 × Int32 => b_X5_debtOnPost_1 N db gu x.1 x.2) (t := nI (sumN 5 (fun p => match G p with | some m => D m | none => 0))) (fun i => (nI (sumN i (fun p => match G p with | some m => D m | none => 0)), nI i)) 5 (N := N) (by
      intro i hi
      have n1 : ¬ 5 ≤ i := by omega
      have b1 := hb' i (by omega)
      simp (disch := omega) only [b_X5_debtOnPost_1, fa_lit, nI_leI, n1, ↓reduceIte, ix_iff, ci_nI, hi, rw3 i hi]
      rw [sumN]
      cases hg : G i with
      | none => simp only [enc, ↓reduceIte, nI_add, Nat.add_zero]
      | some m =>
        have hm := (lk.lt hi hg).1
        have n2 : m < 6 := by omega
        simp (disch := omega) only [enc, nI_ne_neg, ↓reduceIte, ix_iff, ci_nI, n2, rw2 m hm, nI_add]) (by simp (disch := omega) only [b_X5_debtOnPost_1, fa_lit, nI_leI, Nat.le_refl, ↓reduceIte]) (by omega)
    rw [show lp (fun x : Int32 × Int32 => b_X5_debtOnPost_1 N db gu x.1 x.2) N (0, 0) = _ from h]; rfl
  · unfold f_X7_debtStanding_w
    have h := lp_seq (body := fun x : Int32 × Int32 => b_X7_debtStanding_w_1 N many s x.1 x.2) (t := nI (sumN M (fun m => if 0 < W m then D m else 0))) (fun i => (nI (sumN i (fun m => if 0 < W m then D m else 0)), nI i)) M (N := N) (by
      intro i hi
      have n1 : ¬ M ≤ i := by omega
      have n2 : 7 + i < 48 := by omega
      have n3 : 1 + i < 48 := by omega
      have wm := hW i hi
      simp (disch := omega) only [b_X7_debtStanding_w_1, fa_lit, dm1, nI_leI, ci_nI, n1, ↓reduceIte, nI_add, ix_iff, n2, n3, rs.2.2.1 i hi, rs.2.1 i hi]
      rw [sumN]
      by_cases h0 : W i ≤ 0
      · have : ¬ 0 < W i := by omega
        simp only [h0, this, ↓reduceIte, Nat.add_zero]
      · have : 0 < W i := by omega
        simp only [h0, this, ↓reduceIte]) (by simp (disch := omega) only [b_X7_debtStanding_w_1, fa_lit, dm1, ci_nI, nI_leI, Nat.le_refl, ↓reduceIte]) (by omega)
    rw [show lp (fun x : Int32 × Int32 => b_X7_debtStanding_w_1 N many s x.1 x.2) N (0, 0) = _ from h]; rfl
/-- what the two sides know of the best way so far -/
def BR (v2 v3 r2 r3 : Int32) : Prop := (v2 = -nI 9 ∧ v3 = -nI 9 ∧ r2 = -nI 9 ∧ r3 = nI 1000000) ∨ ∃ x c, x ≤ 100 ∧ c ≤ 400 ∧ v2 = nI x ∧ r2 = nI x ∧ v3 = nI c ∧ r3 = nI c
set_option maxHeartbeats 1000000 in
theorem round_half (hN : 8000 < N) (dr : DR P M ON ST CO dposts dsees dcold dmen don dstove many sees cold) (rb : RB P M H hr db gu sd sv s) (what : Int32) {way : Nat} (hway : way ≤ 1) (v2 v3 r2 r3 : Int32) (hb : BR v2 v3 r2 r3) (a0 : Int32 × FN × FN × FN × FN) (w0 : FN) :
    ∃ v2' v3' r2' r3' a' w', lp (fun x : Int32 × Int32 × Int32 × Int32 × FN × FN × FN × FN => b_X6_round_2 N what (nI way) dposts dmen don hr db gu sd sv x.1 x.2.1 x.2.2.1 x.2.2.2.1 x.2.2.2.2.1 x.2.2.2.2.2.1 x.2.2.2.2.2.2.1 x.2.2.2.2.2.2.2) N (v2, v3, 0, a0) = some (v2', v3', a') ∧ (∀ K, lp (fun x : Int32 × Int32 × Int32 × FN => b_X7_round_1 N what many s x.1 x.2.1 x.2.2.1 x.2.2.2) (K + P) (r2, r3, nI (if way = 1 then 0 else P), w0) = lp (fun x : Int32 × Int32 × Int32 × FN => b_X7_round_1 N what many s x.1 x.2.1 x.2.2.1 x.2.2.2) K (r2', r3', nI ((if way = 1 then 0 else P) + P), w')) ∧ BR v2' v3' r2' r3' := by
  obtain ⟨⟨e1, e2, e3, e4⟩, ⟨dm0, dm1, dm2, dm3⟩, ⟨dP, dM, dON, dST⟩, dco, dse⟩ := id dr
  obtain ⟨t, u', h1, h2, q1, q2⟩ := lp_half (b1 := fun x : Int32 × Int32 × Int32 × Int32 × FN × FN × FN × FN => b_X6_round_2 N what (nI way) dposts dmen don hr db gu sd sv x.1 x.2.1 x.2.2.1 x.2.2.2.1 x.2.2.2.2.1 x.2.2.2.2.2.1 x.2.2.2.2.2.2.1 x.2.2.2.2.2.2.2) (b2 := fun x : Int32 × Int32 × Int32 × FN => b_X7_round_1 N what many s x.1 x.2.1 x.2.2.1 x.2.2.2)
    (Q := fun t u' => u'.2.2.1 = nI ((if way = 1 then 0 else P) + P) ∧ BR t.1 t.2.1 u'.1 u'.2.1) P
    (fun i x y => x.2.2.1 = nI i ∧ y.2.2.1 = nI ((if way = 1 then 0 else P) + i) ∧ BR x.1 x.2.1 y.1 y.2.1)
    (v2, v3, 0, a0) (r2, r3, nI (if way = 1 then 0 else P), w0) N (by
      rintro i ⟨x1, x2, x3, x4, x5, x6, x7, x8⟩ ⟨y1, y2, y3, y4⟩ hi ⟨g1, g2, hbr⟩
      dsimp only at g1 g2 hbr ⊢
      subst g1 g2
      have n1 : ¬ P ≤ i := by omega
      have n2 : ¬ P = 0 := by omega
      obtain ⟨D0, W0, G0, S0, V0, rw0, rs0, iv0⟩ := RB_copy rb x5 x6 x7 x8 y4
      obtain ⟨n, gu', sd', s', W', S', G', t1, t2, t3, t4, t5⟩ := relief_two (fr := i) (way := way) hN dr iv0 rw0 rs0 (Or.inr hi) hway
      obtain ⟨c, hc, t6, t7⟩ := stand_two (N := N) hN dm1 t5 t3.2.1 t3.2.2.1 t4
      rw [e1, e2, e3] at t1
      have ea : f_X7_asNow N s y4 = _ := asNow_eq (N := N) (s := s) hN y4
      have hway' : way = 1 ∨ way = 0 := by omega
      simp only [fa_lit] at t1 t6
      have fin : ∃ u, b_X6_round_2 N what (nI way) dposts dmen don hr db gu sd sv x1 x2 (nI i) x4 x5 x6 x7 x8 = some (.inl u) ∧ u.2.2.1 = nI (i + 1) ∧ ((u.1 = x1 ∧ u.2.1 = x2 ∧ ¬ (x1 = -nI 9) ∧ x2 ≤ nI c) ∨ (u.1 = nI (10 * way + i) ∧ u.2.1 = nI c ∧ (x1 = -nI 9 ∨ ¬ x2 ≤ nI c))) := by
        rw [e1, e2, e3]
        simp (disch := omega) only [b_X6_round_2, f_X5_become, fa_lit, nI_leI, n1, ↓reduceIte, ob, t1, t6, pk_mul, nI_add]
        by_cases c1 : x1 = -nI 9
        · simp only [c1, ↓reduceIte]
          refine ⟨_, rfl, ?_, ?_⟩
          · rfl
          · exact Or.inr ⟨rfl, rfl, Or.inl trivial⟩
        · by_cases c2 : x2 ≤ nI c
          · simp only [c1, c2, ↓reduceIte]
            refine ⟨_, rfl, ?_, ?_⟩
            · rfl
            · exact Or.inl ⟨rfl, rfl, fun h => h, trivial⟩
          · simp only [c1, c2, ↓reduceIte]
            refine ⟨_, rfl, ?_, ?_⟩
            · rfl
            · exact Or.inr ⟨rfl, rfl, Or.inr (fun h => h)⟩
      have fin2 : ∃ u', b_X7_round_1 N what many s y1 y2 (nI ((if way = 1 then 0 else P) + i)) y4 = some (.inl u') ∧ u'.2.2.1 = nI ((if way = 1 then 0 else P) + (i + 1)) ∧ ((u'.1 = y1 ∧ u'.2.1 = y2 ∧ y2 ≤ nI c) ∨ (u'.1 = nI (10 * way + i) ∧ u'.2.1 = nI c ∧ ¬ y2 ≤ nI c)) := by
        rcases hway' with rfl | rfl
        · have n3 : ¬ 2 * P ≤ 0 + i := by omega
          have n4 : ¬ P ≤ 0 + i := by omega
          have n5 : (0 + i) % P = i := by rw [Nat.zero_add]; exact Nat.mod_eq_of_lt hi
          simp (disch := omega) only [b_X7_round_1, fa_lit, dm0, ci_nI, pk_mul, nI_leI, nI_eq, n2, n3, n4, n5, not_false_eq_true, ↓reduceIte, ea, ob, irem_nI, t2, t7, nI_add]
          by_cases c2 : y2 ≤ nI c
          · simp only [c2, ↓reduceIte]
            refine ⟨_, rfl, ?_, ?_⟩
            · rfl
            · exact Or.inl ⟨rfl, rfl, trivial⟩
          · simp only [c2, ↓reduceIte]
            refine ⟨_, rfl, ?_, ?_⟩
            · rfl
            · exact Or.inr ⟨rfl, rfl, fun h => h⟩
        · have n3 : ¬ 2 * P ≤ P + i := by omega
          have n4 : P ≤ P + i := by omega
          have n5 : (P + i) % P = i := by rw [Nat.add_mod_left]; exact Nat.mod_eq_of_lt hi
          have n6 : ¬ (0 = 1) := by omega
          simp (disch := omega) only [b_X7_round_1, fa_lit, dm0, ci_nI, pk_mul, nI_leI, nI_eq, n2, n3, n4, n5, n6, not_false_eq_true, ↓reduceIte, ea, ob, irem_nI, t2, t7, nI_add]
          by_cases c2 : y2 ≤ nI c
          · simp only [c2, ↓reduceIte]
            refine ⟨_, rfl, ?_, ?_⟩
            · rfl
            · exact Or.inl ⟨rfl, rfl, trivial⟩
          · simp only [c2, ↓reduceIte]
            refine ⟨_, rfl, ?_, ?_⟩
            · rfl
            · exact Or.inr ⟨rfl, rfl, fun h => h⟩
      obtain ⟨u, u1, u2, u3⟩ := fin
      obtain ⟨u', u1', u2', u3'⟩ := fin2
      refine ⟨u, u', u1, u1', u2, u2', ?_⟩
      rcases hbr with ⟨b1, b2, b3, b4⟩ | ⟨x, c0, hx, hc0, b1, b2, b3, b4⟩
      · have k1 : ¬ y2 ≤ nI c := by rw [b4]; exact nI_ge (by omega) (by omega)
        rcases u3 with ⟨-, -, h, -⟩ | ⟨a1, a2, -⟩
        · exact absurd b1 h
        · rcases u3' with ⟨-, -, h⟩ | ⟨a1', a2', -⟩
          · exact absurd h k1
          · exact Or.inr ⟨10 * way + i, c, by omega, hc, a1, a1', a2, a2'⟩
      · rw [b3] at u3
        rw [b4] at u3'
        rw [b1] at u3
        rw [nI_leI (by omega) (by omega)] at u3 u3'
        have k1 : ¬ nI x = -nI 9 := by rw [nI_ne_neg (by omega) (by omega) (by omega)]; exact fun h => h
        by_cases hle : c0 ≤ c
        · rcases u3 with ⟨a1, a2, -, -⟩ | ⟨-, -, h | h⟩
          · rcases u3' with ⟨a1', a2', -⟩ | ⟨-, -, h⟩
            · exact Or.inr ⟨x, c0, hx, hc0, a1, by rw [a1', b2], a2, a2'⟩
            · exact absurd hle h
          · exact absurd h k1
          · exact absurd hle h
        · rcases u3 with ⟨-, -, -, h⟩ | ⟨a1, a2, -⟩
          · exact absurd h hle
          · rcases u3' with ⟨-, -, h⟩ | ⟨a1', a2', -⟩
            · exact absurd h hle
            · exact Or.inr ⟨10 * way + i, c, by omega, hc, a1, a1', a2, a2'⟩) (by
      rintro ⟨x1, x2, x3, x4, x5, x6, x7, x8⟩ ⟨y1, y2, y3, y4⟩ ⟨g1, g2, hbr⟩
      dsimp only at g1 g2 hbr ⊢
      subst g1
      refine ⟨(x1, x2, x4, x5, x6, x7, x8), ?_, g2, hbr⟩
      rw [e1]
      simp (disch := omega) only [b_X6_round_2, nI_leI, Nat.le_refl, ↓reduceIte]) (by omega) ⟨rfl, rfl, hb⟩
  obtain ⟨u1, u2, u3, u4⟩ := u'
  dsimp only at q1 q2
  subst q1
  exact ⟨t.1, t.2.1, u1, u2, t.2.2, u4, h1, h2, q2⟩
set_option maxRecDepth 100000 in
theorem c_round (hN : 8000 < N) (dr : DR P M ON ST CO dposts dsees dcold dmen don dstove many sees cold) (ws : WS P M hr db gu sd sv s) (a1 : Int32) : ∃ v b1 b2 b3 b4 b5 w', f_X6_round N a1 dposts dmen don hr db gu sd sv ahr adb agu asd asv = some (v, b1, b2, b3, b4, b5) ∧ f_X7_round N a1 th many s w = some (v, 0, w') := by
  have dm0 := dr.2.1.1
  have dP := dr.2.2.1.1
  obtain ⟨H, hH, rb⟩ := WS_RB ws
  have z : ¬ nI 1 = nI 0 := by decide
  have z0 : ¬ nI 1 = (0 : Int32) := by decide
  unfold f_X6_round f_X7_round
  rcases range_cases (N := N) a1 0 1 (by omega) (by omega) with ⟨g1, g2, -⟩ | ⟨what, -, hwhat, rfl, g1, g2⟩
  · rw [show f_X6_within N a1 0 1 = _ from g1, show f_X7_in N a1 0 1 = _ from g2]
    exact ⟨-1, _, _, _, _, _, _, rfl, rfl⟩
  rw [show f_X6_within N (nI what) 0 1 = _ from g1, show f_X7_in N (nI what) 0 1 = _ from g2, Option.bind_some, Option.bind_some, if_neg z0, if_neg z0]
  obtain ⟨N', hN'⟩ : ∃ N', N = N' + 3 := ⟨N - 3, by omega⟩
  obtain ⟨p2, p3, s2, s3, ap, wp, h1, h2, hb1⟩ := round_half hN dr rb (nI what) (way := 1) (by omega) (-9) (-9) (-9) 1000000 (Or.inl ⟨rfl, rfl, rfl, rfl⟩) (ahr, adb, agu, asd, asv) w
  obtain ⟨q2, q3, u2, u3, aq, wq, h3, h4, hb2⟩ := round_half hN dr rb (nI what) (way := 0) (by omega) p2 p3 s2 s3 hb1 ap wp
  have hcls : lp (fun x : Int32 × Int32 × Int32 × Int32 × FN × FN × FN × FN => b_X6_round_1 N (nI what) dposts dmen don hr db gu sd sv x.1 x.2.1 x.2.2.1 x.2.2.2.1 x.2.2.2.2.1 x.2.2.2.2.2.1 x.2.2.2.2.2.2.1 x.2.2.2.2.2.2.2) N (-9, -9, 1, ahr, adb, agu, asd, asv) = some (q2, q3, aq) := by
    have s1 : b_X6_round_1 N (nI what) dposts dmen don hr db gu sd sv (-9) (-9) 1 ahr adb agu asd asv = some (.inl (p2, p3, 0, ap)) := by
      unfold b_X6_round_1
      rw [if_neg (by decide), show lp (fun x : Int32 × Int32 × Int32 × Int32 × FN × FN × FN × FN => b_X6_round_2 N (nI what) 1 dposts dmen don hr db gu sd sv x.1 x.2.1 x.2.2.1 x.2.2.2.1 x.2.2.2.2.1 x.2.2.2.2.2.1 x.2.2.2.2.2.2.1 x.2.2.2.2.2.2.2) N (-9, -9, 0, ahr, adb, agu, asd, asv) = _ from h1]
      rfl
    have s2' : b_X6_round_1 N (nI what) dposts dmen don hr db gu sd sv p2 p3 0 ap.1 ap.2.1 ap.2.2.1 ap.2.2.2.1 ap.2.2.2.2 = some (.inl (q2, q3, -1, aq)) := by
      unfold b_X6_round_1
      rw [if_neg (by decide), show lp (fun x : Int32 × Int32 × Int32 × Int32 × FN × FN × FN × FN => b_X6_round_2 N (nI what) 0 dposts dmen don hr db gu sd sv x.1 x.2.1 x.2.2.1 x.2.2.2.1 x.2.2.2.2.1 x.2.2.2.2.2.1 x.2.2.2.2.2.2.1 x.2.2.2.2.2.2.2) N (p2, p3, 0, ap.1, ap.2.1, ap.2.2.1, ap.2.2.2.1, ap.2.2.2.2) = _ from h3]
      rfl
    rw [show lp (fun x : Int32 × Int32 × Int32 × Int32 × FN × FN × FN × FN => b_X6_round_1 N (nI what) dposts dmen don hr db gu sd sv x.1 x.2.1 x.2.2.1 x.2.2.2.1 x.2.2.2.2.1 x.2.2.2.2.2.1 x.2.2.2.2.2.2.1 x.2.2.2.2.2.2.2) N = lp (fun x : Int32 × Int32 × Int32 × Int32 × FN × FN × FN × FN => b_X6_round_1 N (nI what) dposts dmen don hr db gu sd sv x.1 x.2.1 x.2.2.1 x.2.2.2.1 x.2.2.2.2.1 x.2.2.2.2.2.1 x.2.2.2.2.2.2.1 x.2.2.2.2.2.2.2) (N' + 1 + 1 + 1) from by rw [show N' + 1 + 1 + 1 = N by omega]]
    rw [lp_inl (s' := (p2, p3, 0, ap)) s1, lp_inl (s' := (q2, q3, -1, aq)) s2']
    refine lp_inr ?_
    show b_X6_round_1 N (nI what) dposts dmen don hr db gu sd sv q2 q3 (-1) aq.1 aq.2.1 aq.2.2.1 aq.2.2.2.1 aq.2.2.2.2 = _
    unfold b_X6_round_1
    rw [if_pos (by decide)]
  have href : lp (fun x : Int32 × Int32 × Int32 × FN => b_X7_round_1 N (nI what) many s x.1 x.2.1 x.2.2.1 x.2.2.2) N (-9, 1000000, 0, w) = some (u2, u3, wq) := by
    have g3 := h2 (N - P)
    rw [show N - P + P = N by omega] at g3
    have g4 := h4 (N - P - P)
    rw [show N - P - P + P = N - P by omega] at g4
    rw [show lp (fun x : Int32 × Int32 × Int32 × FN => b_X7_round_1 N (nI what) many s x.1 x.2.1 x.2.2.1 x.2.2.2) N (-9, 1000000, 0, w) = _ from g3]
    rw [show nI ((if 1 = 1 then 0 else P) + P) = nI (if 0 = 1 then 0 else P) by simp]
    rw [show lp (fun x : Int32 × Int32 × Int32 × FN => b_X7_round_1 N (nI what) many s x.1 x.2.1 x.2.2.1 x.2.2.2) (N - P) (s2, s3, nI (if 0 = 1 then 0 else P), wp) = _ from g4]
    obtain ⟨K, hK⟩ : ∃ K, N - P - P = K + 1 := ⟨N - P - P - 1, by omega⟩
    rw [hK]
    refine lp_inr ?_
    have n1 : 2 * P ≤ P + P := by omega
    simp (disch := omega) only [b_X7_round_1, fa_lit, dm0, ci_nI, pk_mul, nI_leI, n1, ↓reduceIte, show ¬ (0 = 1) by omega]
  rw [hcls, href, Option.bind_some, Option.bind_some]
  dsimp only
  rcases hb2 with ⟨b1, b2, b3, b4⟩ | ⟨x, c0, hx, hc0, b1, b2, b3, b4⟩
  · have g : u2 = (-9 : Int32) := b3
    by_cases hw : nI what = 0
    · rw [if_pos hw, if_pos g, b1, b3]
      exact ⟨_, _, _, _, _, _, _, rfl, rfl⟩
    · rw [if_neg hw, if_pos g, b2, b3]
      exact ⟨_, _, _, _, _, _, _, rfl, rfl⟩
  · have g : ¬ u2 = (-9 : Int32) := by
      rw [b2]
      show ¬ nI x = -nI 9
      rw [nI_ne_neg (by omega) (by omega) (by omega)]
      exact fun h => h
    by_cases hw : nI what = 0
    · rw [if_pos hw, if_neg g, if_pos hw, b1, b2]
      exact ⟨_, _, _, _, _, _, _, rfl, rfl⟩
    · rw [if_neg hw, if_neg g, if_neg hw, b3, b4]
      exact ⟨_, _, _, _, _, _, _, rfl, rfl⟩
end A2

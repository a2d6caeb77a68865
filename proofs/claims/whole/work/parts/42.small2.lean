/-! ===== pure side: the text's letters, what was found, images, counts ===== -/
section S2
variable {N : Nat} {P M ON ST H : Nat} {CO : Nat → Nat} {hr dposts dmen don dstove th : Int32} {db gu sd sv s dsees dcold many sees cold undos : FN} {next known um : Int32} {pw iw : Nat → WtT} {lets text fm fh fi gm gh gi kp kept isk : FN} {len typed size many0 : Int32}
def TextR (lets : FN) (len : Int32) (text : FN) (typed : Int32) : Prop := ∃ n, n ≤ 200 ∧ len = nI n ∧ typed = nI n ∧ ∀ j, j < n → ∃ c, c < 256 ∧ lets j = nI c ∧ text j = nI c
theorem c_type (tx : TextR lets len text typed) (a1 : Int32) : ∃ v lets' len' text' typed', f_X6_type N a1 lets len = some (v, lets', len') ∧ f_X7_type N a1 th text typed = some (v, 0, text', typed') ∧ TextR lets' len' text' typed' := by
  obtain ⟨n, hn, rfl, rfl, ht⟩ := id tx
  have z0 : ¬ nI 1 = (0 : Int32) := by decide
  have zz : nI 0 = (0 : Int32) := rfl
  unfold f_X6_type f_X7_type
  rcases range_cases (N := N) a1 0 255 (by omega) (by omega) with ⟨g1, g2, -⟩ | ⟨c, -, hc, rfl, g1, g2⟩
  · rw [show f_X6_within N a1 0 255 = _ from g1, show f_X7_in N a1 0 255 = _ from g2, Option.bind_some, Option.bind_some, if_pos zz, if_pos zz]
    exact ⟨-1, _, _, _, _, rfl, rfl, tx⟩
  rw [show f_X6_within N (nI c) 0 255 = _ from g1, show f_X7_in N (nI c) 0 255 = _ from g2, Option.bind_some, Option.bind_some, if_neg z0, if_neg z0]
  by_cases h2 : n = 200
  · subst h2
    have w1 : ¬ 200 < 200 := by omega
    simp (disch := omega) only [f_X4_take, fa_lit, nI_ltI, w1, ↓reduceIte, ob]
    exact ⟨_, _, _, _, _, rfl, rfl, tx⟩
  · have w1 : n < 200 := by omega
    have z : ¬ nI 1 = nI 0 := by decide
    simp (disch := omega) only [f_X4_take, fa_lit, nI_ltI, w1, ↓reduceIte, ob, ix_iff, ci_nI, nI_add, nI_eq, h2, z]
    refine ⟨_, _, _, _, _, rfl, rfl, n + 1, by omega, rfl, rfl, fun j hj => ?_⟩
    by_cases e : j = n
    · subst e
      exact ⟨c, by omega, upd_same, upd_same⟩
    · rw [upd_ne e, upd_ne e]
      exact ht j (by omega)
theorem c_clear (tx : TextR lets len text typed) : ∃ v len' typed', f_X6_clear N len = some (v, len') ∧ f_X7_clear N th typed = some (v, 0, typed') ∧ TextR lets len' text typed' := by
  obtain ⟨n, hn, rfl, rfl, ht⟩ := tx
  exact ⟨nI n, 0, 0, rfl, rfl, 0, by omega, rfl, rfl, fun j hj => by omega⟩
def FindR (size : Int32) (fm fh fi gm gh gi : FN) (gn : Int32) : Prop := ∃ n, n ≤ 6 ∧ size = nI n ∧ gn = nI n ∧ ∀ e, e < n → fm e = gm e ∧ fh e = gh e ∧ fi e = gi e ∧ ∃ m k b, m < 6 ∧ k ≤ 24 ∧ b ≤ 1 ∧ gm e = nI m ∧ gh e = nI k ∧ gi e = nI b
theorem c_found (dr : DR P M ON ST CO dposts dsees dcold dmen don dstove many sees cold) (fr : FindR size fm fh fi gm gh gi um) (a1 a2 a3 : Int32) : ∃ v size' fm' fh' fi' gm' gh' gi' um', f_X6_found N a1 a2 a3 dmen size fm fh fi = some (v, size', fm', fh', fi') ∧ f_X7_found N a1 a2 a3 th many gm gh gi um = some (v, 0, gm', gh', gi', um') ∧ FindR size' fm' fh' fi' gm' gh' gi' um' := by
  obtain ⟨⟨e1, e2, e3, e4⟩, ⟨dm0, dm1, dm2, dm3⟩, ⟨dP, dM, dON, dST⟩, dco, dse⟩ := id dr
  obtain ⟨n, hn, rfl, rfl, ht⟩ := id fr
  have z0 : ¬ nI 1 = (0 : Int32) := by decide
  have zz : nI 0 = (0 : Int32) := rfl
  unfold f_X6_found f_X7_found
  rw [e2]
  rcases man_cases (N := N) (many := many) a1 dM dm1 with ⟨h1, h2⟩ | ⟨m, hm, rfl, h1, h2⟩
  · rw [h1, h2, Option.bind_some, Option.bind_some, if_pos zz, if_pos zz]
    exact ⟨-1, _, _, _, _, _, _, _, _, rfl, rfl, fr⟩
  rw [h1, h2, Option.bind_some, Option.bind_some, if_neg z0, if_neg z0]
  rcases range_cases (N := N) a2 0 24 (by omega) (by omega) with ⟨g1, g2, -⟩ | ⟨k, -, hk, rfl, g1, g2⟩
  · rw [show f_X6_within N a2 0 24 = _ from g1, show f_X7_in N a2 0 24 = _ from g2, Option.bind_some, Option.bind_some, if_pos zz, if_pos zz]
    exact ⟨-1, _, _, _, _, _, _, _, _, rfl, rfl, fr⟩
  rw [show f_X6_within N (nI k) 0 24 = _ from g1, show f_X7_in N (nI k) 0 24 = _ from g2, Option.bind_some, Option.bind_some, if_neg z0, if_neg z0]
  rcases range_cases (N := N) a3 0 1 (by omega) (by omega) with ⟨g1, g2, -⟩ | ⟨b, -, hb, rfl, g1, g2⟩
  · rw [show f_X6_within N a3 0 1 = _ from g1, show f_X7_in N a3 0 1 = _ from g2, Option.bind_some, Option.bind_some, if_pos zz, if_pos zz]
    exact ⟨-1, _, _, _, _, _, _, _, _, rfl, rfl, fr⟩
  rw [show f_X6_within N (nI b) 0 1 = _ from g1, show f_X7_in N (nI b) 0 1 = _ from g2, Option.bind_some, Option.bind_some, if_neg z0, if_neg z0]
  by_cases h6 : n = 6
  · subst h6
    have w1 : ¬ 6 < 6 := by omega
    simp (disch := omega) only [f_X1_add, fa_lit, nI_ltI, w1, ↓reduceIte, ob]
    exact ⟨_, _, _, _, _, _, _, _, _, rfl, rfl, fr⟩
  · have w1 : n < 6 := by omega
    have z : ¬ nI 1 = nI 0 := by decide
    simp (disch := omega) only [f_X1_add, fa_lit, nI_ltI, w1, ↓reduceIte, ob, ix_iff, ci_nI, nI_add, nI_eq, h6, z]
    refine ⟨_, _, _, _, _, _, _, _, _, rfl, rfl, n + 1, by omega, rfl, rfl, fun j hj => ?_⟩
    by_cases e : j = n
    · subst e
      exact ⟨by rw [upd_same, upd_same], by rw [upd_same, upd_same], by rw [upd_same, upd_same], m, k, b, by omega, hk, hb, upd_same, upd_same, upd_same⟩
    · rw [upd_ne e, upd_ne e, upd_ne e, upd_ne e, upd_ne e, upd_ne e]
      exact ht j (by omega)
theorem c_forget (fr : FindR size fm fh fi gm gh gi um) : ∃ v size' um', f_X6_forget N size = some (v, size') ∧ f_X7_forget N th um = some (v, 0, um') ∧ FindR size' fm fh fi gm gh gi um' := by
  obtain ⟨n, hn, rfl, rfl, ht⟩ := fr
  exact ⟨nI n, 0, 0, rfl, rfl, 0, by omega, rfl, rfl, fun j hj => by omega⟩
def KeptR (P M : Nat) (kp : FN) (iw : Nat → WtT) (kept isk : FN) : Prop := ∀ i, i < 2 → (kp i = nI 0 ∧ isk i = nI 0) ∨ (kp i = nI 1 ∧ isk i = nI 1 ∧ WSt P M (iw i) (fun j => kept (48 * i + j)))
theorem keep1_eq (hN : 8000 < N) (u : FN) {k : Nat} (hk : k < 2) : lp (fun x : Int32 × FN => b_X7_keep_1 N (nI k) s x.1 x.2) N (0, u) = some (rowF s u (48 * k) 48) := by
  have h := lp_seq (body := fun x : Int32 × FN => b_X7_keep_1 N (nI k) s x.1 x.2) (t := rowF s u (48 * k) 48) (fun i => (nI i, rowF s u (48 * k) i)) 48 (N := N) (by
    intro i hi
    have n1 : ¬ 48 ≤ i := by omega
    have n2 : 48 * k + i < 96 := by omega
    simp (disch := omega) only [b_X7_keep_1, fa_lit, nI_leI, n1, ↓reduceIte, pk_mul, nI_add, ix_iff, ci_nI, hi, n2]
    rw [rowF_step s u (48 * k) i]) (by simp (disch := omega) only [b_X7_keep_1, fa_lit, nI_leI, Nat.le_refl, ↓reduceIte]) (by omega)
  rw [rowF_0] at h
  exact h
theorem back1_eq (hN : 8000 < N) (u : FN) {k : Nat} (hk : k < 2) : lp (fun x : Int32 × FN => b_X7_back_1 N (nI k) u x.1 x.2) N (0, s) = some (rowF (fun j => u (48 * k + j)) s 0 48) := by
  have h := lp_seq (body := fun x : Int32 × FN => b_X7_back_1 N (nI k) u x.1 x.2) (t := rowF (fun j => u (48 * k + j)) s 0 48) (fun i => (nI i, rowF (fun j => u (48 * k + j)) s 0 i)) 48 (N := N) (by
    intro i hi
    have n1 : ¬ 48 ≤ i := by omega
    have n2 : 48 * k + i < 96 := by omega
    simp (disch := omega) only [b_X7_back_1, fa_lit, nI_leI, n1, ↓reduceIte, pk_mul, nI_add, ix_iff, ci_nI, hi, n2]
    have := rowF_step (fun j => u (48 * k + j)) s 0 i
    rw [Nat.zero_add] at this
    rw [this]) (by simp (disch := omega) only [b_X7_back_1, fa_lit, nI_leI, Nat.le_refl, ↓reduceIte]) (by omega)
  rw [rowF_0] at h
  exact h
theorem c_keep (hN : 8000 < N) (ws : WS P M hr db gu sd sv s) (kr : KeptR P M kp iw kept isk) (a1 : Int32) : ∃ v kp' iw' kept' isk', f_X6_keep N a1 hr db gu sd sv kp iw = some (v, kp', iw') ∧ f_X7_keep N a1 th s kept isk = some (v, 0, kept', isk') ∧ KeptR P M kp' iw' kept' isk' := by
  have z0 : ¬ nI 1 = (0 : Int32) := by decide
  have zz : nI 0 = (0 : Int32) := rfl
  unfold f_X6_keep f_X7_keep
  rcases range_cases (N := N) a1 0 1 (by omega) (by omega) with ⟨g1, g2, -⟩ | ⟨k, -, hk, rfl, g1, g2⟩
  · rw [show f_X6_within N a1 0 1 = _ from g1, show f_X7_in N a1 0 1 = _ from g2, Option.bind_some, Option.bind_some, if_pos zz, if_pos zz]
    exact ⟨-1, _, _, _, _, rfl, rfl, kr⟩
  have hx : ix (nI k) 2 = true := (ix_iff (by omega)).mpr (by omega)
  have hci : ci (nI k) = k := ci_nI (by omega)
  have e0 : hr = s (ci 0) := by
    obtain ⟨H, D, W, G, S, V, rw, rs, iv, hh⟩ := ws
    rw [rw.1]; exact rs.1.symm
  rw [show f_X6_within N (nI k) 0 1 = _ from g1, show f_X7_in N (nI k) 0 1 = _ from g2, Option.bind_some, Option.bind_some, if_neg z0, if_neg z0, if_pos hx, keep1_eq hN kept (by omega), Option.bind_some, if_pos hx, hci]
  unfold f_X5_become
  rw [Option.bind_some]
  refine ⟨hr, _, _, _, _, rfl, by rw [e0], fun i hi => ?_⟩
  by_cases e : i = k
  · subst e
    refine Or.inr ⟨upd_same, upd_same, ?_⟩
    rw [updT_same]
    exact WS_copy ws (fun j hj => rowF_in hj) _ _ _ _
  · rw [upd_ne e, upd_ne e, updT_ne e]
    rcases kr i hi with h | ⟨h1, h2, h3⟩
    · exact Or.inl h
    · exact Or.inr ⟨h1, h2, WS_cong h3 (fun j hj => rowF_out (by omega))⟩
theorem c_back (hN : 8000 < N) (ws : WS P M hr db gu sd sv s) (kr : KeptR P M kp iw kept isk) (pr : PastR P M next known pw undos um) (a1 : Int32) : ∃ v hr' db' gu' sd' sv' known' s' um', f_X6_back N a1 hr db gu sd sv known kp iw = some (v, hr', db', gu', sd', sv', known') ∧ f_X7_back N a1 th s kept isk um = some (v, 0, s', um') ∧ WS P M hr' db' gu' sd' sv' s' ∧ PastR P M next known' pw undos um' := by
  have z0 : ¬ nI 1 = (0 : Int32) := by decide
  have zz : nI 0 = (0 : Int32) := rfl
  unfold f_X6_back f_X7_back
  rcases range_cases (N := N) a1 0 1 (by omega) (by omega) with ⟨g1, g2, -⟩ | ⟨k, -, hk, rfl, g1, g2⟩
  · rw [show f_X6_within N a1 0 1 = _ from g1, show f_X7_in N a1 0 1 = _ from g2, Option.bind_some, Option.bind_some, if_pos zz, if_pos zz]
    exact ⟨-1, _, _, _, _, _, _, _, _, rfl, rfl, ws, pr⟩
  have hx : ix (nI k) 2 = true := (ix_iff (by omega)).mpr (by omega)
  have hci : ci (nI k) = k := ci_nI (by omega)
  rw [show f_X6_within N (nI k) 0 1 = _ from g1, show f_X7_in N (nI k) 0 1 = _ from g2, Option.bind_some, Option.bind_some, if_neg z0, if_neg z0, if_pos hx, if_pos hx, hci]
  rcases kr k (by omega) with ⟨h1, h2⟩ | ⟨h1, h2, h3⟩
  · rw [h1, h2, if_pos zz, if_pos zz]
    exact ⟨-2, _, _, _, _, _, _, _, _, rfl, rfl, ws, pr⟩
  · rw [h1, h2, if_neg z0, if_neg z0, back1_eq hN kept (by omega), Option.bind_some]
    unfold f_X5_become
    rw [Option.bind_some]
    have hw := WS_copy h3 (s' := rowF (fun j => kept (48 * k + j)) s 0 48) (rowF48 _ _) db gu sd sv
    obtain ⟨nx, kn, p1, p2, p3, p4, p5, p6⟩ := pr
    refine ⟨(iw k).1, _, _, _, _, _, _, _, _, rfl, ?_, hw, nx, 0, p1, p2, rfl, by omega, rfl, fun i hi => by omega⟩
    have e0 : (iw k).1 = rowF (fun j => kept (48 * k + j)) s 0 48 (ci 0) := by
      obtain ⟨H, D, W, G, S, V, rw, rs, iv, hh⟩ := hw
      rw [rw.1]; exact rs.1.symm
    rw [e0]
    rfl
theorem c_count (dr : DR P M ON ST CO dposts dsees dcold dmen don dstove many sees cold) (hl : len = typed) (hs : size = um) (a1 : Int32) : ∃ v, f_X6_count N a1 len dposts dmen don dstove size = some v ∧ f_X7_count N a1 th typed many um = some (v, 0) := by
  obtain ⟨⟨e1, e2, e3, e4⟩, ⟨dm0, dm1, dm2, dm3⟩, ⟨dP, dM, dON, dST⟩, dco, dse⟩ := id dr
  have z : ¬ nI 1 = nI 0 := by decide
  unfold f_X6_count f_X7_count
  rw [e1, e2, e3, e4, hl, hs]
  rcases range_cases (N := N) a1 0 3 (by omega) (by omega) with ⟨g1, g2, g3⟩ | ⟨j, -, hj, rfl, g1, g2⟩
  · have k0 := g3 0 (by omega) (by omega)
    have k1 := g3 1 (by omega) (by omega)
    have k2 := g3 2 (by omega) (by omega)
    have k3 := g3 3 (by omega) (by omega)
    simp only [fa_lit, ob, g2, k0, k1, k2, k3, ↓reduceIte]
    by_cases h4 : a1 = nI 4
    · simp only [h4, ↓reduceIte]
      exact ⟨_, rfl, rfl⟩
    · by_cases h5 : a1 = nI 5
      · simp only [h4, h5, ↓reduceIte]
        rw [if_neg (by decide), if_neg (by decide)]
        exact ⟨_, rfl, rfl⟩
      · simp only [h4, h5, ↓reduceIte]
        exact ⟨_, rfl, rfl⟩
  · have n1 : j < 8 := by omega
    rcases (show j = 0 ∨ j = 1 ∨ j = 2 ∨ j = 3 by omega) with rfl | rfl | rfl | rfl <;>
    · simp (disch := omega) only [fa_lit, ob, g2, z, ↓reduceIte, nI_eq, Nat.reduceEqDiff, ix_iff, ci_nI, n1, dm0, dm1, dm2, dm3]
      exact ⟨_, rfl, rfl⟩
end S2

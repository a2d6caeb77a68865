/-! ===== pure side: the four kinds of items ===== -/
section I2
variable {N : Nat} {n : Nat} {C : Nat → Nat} {lets text : FN} {p m on st b1 b2 : Nat} {gp gm go gt onT stT told : Int32} {gs gc gd many sees cold first : FN}
theorem and1_0 : nI 0 &&& 1 = nI 0 := by decide
theorem one0 : ¬ nI 1 = (0 : Int32) := by decide
theorem and1_1 : nI 1 &&& 1 = nI 1 := by decide
set_option maxHeartbeats 1000000 in
theorem itm_p (hN : 8000 < N) (tx : TXT n C lets text) {a : Nat} {nx tk pc vl : Int32} (la : LA N n text a nx tk pc vl) (df : DF p m on st b1 b2 gp gs gc gm gd go gt onT stT many sees cold first told) (hp : p < 5) (s0 v0 : Int32) : ITM N n lets text a 112 nx tk pc vl s0 (nI 112) v0 gp gs gc gm gd go gt onT stT many sees cold first told := by
  obtain ⟨⟨q1, q2, q3, q4, q5, q6⟩, ⟨rfl, rfl, rfl, rfl, rfl, rfl⟩, ⟨m4, m5, m6, m7, rfl⟩, ds, dd⟩ := df
  have hx : ix (nI p) 5 = true := (ix_iff (by omega)).mpr hp
  have hcp : ci (nI p) = p := ci_nI (by omega)
  have h4 : many (ci 4) = nI p := m4
  have e5 : (5 : Int32) + nI p = nI (5 + p) := nI_add 5 p
  have hx2 : ix (nI (5 + p)) 10 = true := (ix_iff (by omega)).mpr (by omega)
  have hc2 : ci (nI (5 + p)) = 5 + p := ci_nI (by omega)
  have hge : ¬ (5 : Int32) ≤ nI p := nI_ge (b := 5) hp (by omega)
  have hRI : ∀ z, f_X4_readPost N lets (nI n) (nI a) s0 (nI 112) v0 (nI p) gs gc = some z → z.1 &&& 1 = z.1 → f_X4_readItem N lets (nI n) (nI a) s0 (nI 112) v0 (nI b1) (nI b2) (nI p) gs gc (nI m) gd (nI on) (nI st) = some (z.1, z.2.1, z.2.2.1, z.2.2.2.1, z.2.2.2.2.1, nI b1, nI b2, z.2.2.2.2.2.1, z.2.2.2.2.2.2.1, z.2.2.2.2.2.2.2, nI m, gd, nI on, nI st) := by
    intro z hz h1
    unfold f_X4_readItem
    rw [if_neg (by decide), if_neg (by decide), if_neg (by decide), if_pos (by rfl), hz, Option.bind_some, if_pos h1]
  rcases number_two (N := N) (lo := 0) (hi := 31) hN tx la (by omega) (by omega) s0 (nI 112) v0 with ⟨st1, x1, x2, x3, g1, g2, g3, g4⟩ | ⟨v, a1, x1, x2, nx2, tk2, pc2, vl2, g1, g2, g3, g4, g5, g6⟩
  · have hP : f_X4_readPost N lets (nI n) (nI a) s0 (nI 112) v0 (nI p) gs gc = some (nI 0, x1, nI st1, x2, x3, nI p, gs, gc) := by
      unfold f_X4_readPost
      rw [if_neg hge, show f_X4_readNumber N 0 31 lets (nI n) (nI a) s0 (nI 112) v0 = _ from g3, Option.bind_some, if_pos (by rfl)] <;> rfl
    have hR : f_X7_readsItem N (nI 112) text (nI n) nx tk pc vl (-nI 1) many sees cold first (nI (b1 + 2 * b2)) = some (nx, tk, pc, vl, nI st1, upd many 4 (nI p + 1), upd sees (5 + p) (nI 0), upd cold (5 + p) (nI 0), first, nI (b1 + 2 * b2)) := by
      unfold f_X7_readsItem
      rw [if_pos (by rfl), show f_X7_number N 0 31 text (nI n) nx tk pc vl (-nI 1) = _ from g4, Option.bind_some, h4, e5, if_pos hx2]
      dsimp only
      rw [number_fault (by omega), Option.bind_some, hc2] <;> rfl
    exact Or.inl ⟨st1, x1, x2, x3, _, _, _, _, _, _, _, _, _, _, _, _, _, _, _, _, _, _, _, g1, hRI _ hP and1_0, hR, Or.inl rfl, low_p (by omega) (by omega) (by omega)⟩
  · rcases number_two (N := N) (lo := 0) (hi := 9) hN tx g6 (by omega) (by omega) x1 x2 (nI v) with ⟨st1, y1, y2, y3, k1, k2, k3, k4⟩ | ⟨c, a2, y1, y2, nx3, tk3, pc3, vl3, k1, k2, k3, k4, k5, k6⟩
    · have hP : f_X4_readPost N lets (nI n) (nI a) s0 (nI 112) v0 (nI p) gs gc = some (nI 0, y1, nI st1, y2, y3, nI p, upd gs p (nI v), gc) := by
        unfold f_X4_readPost
        rw [if_neg hge, show f_X4_readNumber N 0 31 lets (nI n) (nI a) s0 (nI 112) v0 = _ from g4, Option.bind_some, if_neg (by exact one0), if_pos hx]
        dsimp only
        rw [show f_X4_readNumber N 0 9 lets (nI n) (nI a1) x1 x2 (nI v) = _ from k3, Option.bind_some, if_pos (by rfl), hcp] <;> rfl
      have hR : f_X7_readsItem N (nI 112) text (nI n) nx tk pc vl (-nI 1) many sees cold first (nI (b1 + 2 * b2)) = some (nx2, tk2, pc2, vl2, nI st1, upd many 4 (nI p + 1), upd sees (5 + p) (nI v), upd cold (5 + p) (nI 0), first, nI (b1 + 2 * b2)) := by
        unfold f_X7_readsItem
        rw [if_pos (by rfl), show f_X7_number N 0 31 text (nI n) nx tk pc vl (-nI 1) = _ from g5, Option.bind_some, h4, e5, if_pos hx2]
        dsimp only
        rw [show f_X7_number N 0 9 text (nI n) nx2 tk2 pc2 vl2 (-nI 1) = _ from k4, Option.bind_some, hc2] <;> rfl
      exact Or.inl ⟨st1, y1, y2, y3, _, _, _, _, _, _, _, _, _, _, _, _, _, _, _, _, _, _, _, k1, hRI _ hP and1_0, hR, Or.inl rfl, low_p (by omega) (by omega) (by omega)⟩
    · have hR : f_X7_readsItem N (nI 112) text (nI n) nx tk pc vl (-nI 1) many sees cold first (nI (b1 + 2 * b2)) = some (nx3, tk3, pc3, vl3, -nI 1, upd many 4 (nI p + 1), upd sees (5 + p) (nI v), upd cold (5 + p) (nI c), first, nI (b1 + 2 * b2)) := by
        unfold f_X7_readsItem
        rw [if_pos (by rfl), show f_X7_number N 0 31 text (nI n) nx tk pc vl (-nI 1) = _ from g5, Option.bind_some, h4, e5, if_pos hx2]
        dsimp only
        rw [show f_X7_number N 0 9 text (nI n) nx2 tk2 pc2 vl2 (-nI 1) = _ from k5, Option.bind_some, hc2] <;> rfl
      rcases end_two (N := N) hN tx k6 y1 y2 (nI c) with ⟨st1, u1, u2, u3, l1, l2, l3, l4⟩ | ⟨a3, u1, u2, u3, nx4, tk4, pc4, vl4, l1, l2, l3, l4, l5⟩
      · have hP : f_X4_readPost N lets (nI n) (nI a) s0 (nI 112) v0 (nI p) gs gc = some (nI 0, u1, nI st1, u2, u3, nI p + 1, upd gs p (nI v), upd gc p (nI c)) := by
          unfold f_X4_readPost
          rw [if_neg hge, show f_X4_readNumber N 0 31 lets (nI n) (nI a) s0 (nI 112) v0 = _ from g4, Option.bind_some, if_neg (by exact one0), if_pos hx]
          dsimp only
          rw [show f_X4_readNumber N 0 9 lets (nI n) (nI a1) x1 x2 (nI v) = _ from k4, Option.bind_some, if_neg (by exact one0), hcp]
          dsimp only
          rw [l3, Option.bind_some, if_pos (by exact and1_0)] <;> rfl
        exact Or.inl ⟨st1, u1, u2, u3, _, _, _, _, _, _, _, _, _, _, _, _, _, _, _, _, _, _, _, l1, hRI _ hP and1_0, hR, Or.inr ⟨rfl, l4, l2⟩, low_p (by omega) (by omega) (by omega)⟩
      · have hP : f_X4_readPost N lets (nI n) (nI a) s0 (nI 112) v0 (nI p) gs gc = some (nI 1, nI a3, u1, u2, u3, nI (p + 1), upd gs p (nI v), upd gc p (nI c)) := by
          unfold f_X4_readPost
          rw [if_neg hge, show f_X4_readNumber N 0 31 lets (nI n) (nI a) s0 (nI 112) v0 = _ from g4, Option.bind_some, if_neg (by exact one0), if_pos hx]
          dsimp only
          rw [show f_X4_readNumber N 0 9 lets (nI n) (nI a1) x1 x2 (nI v) = _ from k4, Option.bind_some, if_neg (by exact one0), hcp]
          dsimp only
          rw [l2, Option.bind_some, if_pos (by exact and1_1), nI_1 p] <;> rfl
        refine Or.inr ⟨p + 1, m, on, st, b1, b2, a3, u1, u2, u3, _, _, _, _, _, _, _, _, _, _, _, _, _, nx4, tk4, pc4, vl4, _, _, _, _, _, by omega, hRI _ hP and1_1, hR, l3, l4, l5, ⟨⟨by omega, q2, q3, q4, q5, q6⟩, ⟨rfl, rfl, rfl, rfl, rfl, rfl⟩, ⟨?_, ?_, ?_, ?_, rfl⟩, fun j hj => ?_, dd⟩, low_p (by omega) (by omega) (by omega)⟩
        · rw [upd_same]; exact nI_1 p
        · rw [upd_ne (by omega)]; exact m5
        · rw [upd_ne (by omega)]; exact m6
        · rw [upd_ne (by omega)]; exact m7
        · by_cases e : j = p
          · subst e
            exact ⟨v, c, k2, upd_same, upd_same, upd_same, upd_same⟩
          · dsimp only
            rw [upd_ne e, upd_ne (by omega), upd_ne e, upd_ne (by omega)]
            exact ds j (by omega)
set_option maxHeartbeats 1000000 in
theorem itm_m (hN : 8000 < N) (tx : TXT n C lets text) {a : Nat} {nx tk pc vl : Int32} (la : LA N n text a nx tk pc vl) (df : DF p m on st b1 b2 gp gs gc gm gd go gt onT stT many sees cold first told) (hm : m < 6) (s0 v0 : Int32) : ITM N n lets text a 109 nx tk pc vl s0 (nI 109) v0 gp gs gc gm gd go gt onT stT many sees cold first told := by
  obtain ⟨⟨q1, q2, q3, q4, q5, q6⟩, ⟨rfl, rfl, rfl, rfl, rfl, rfl⟩, ⟨m4, m5, m6, m7, rfl⟩, ds, dd⟩ := df
  have hx : ix (nI m) 6 = true := (ix_iff (by omega)).mpr hm
  have hcp : ci (nI m) = m := ci_nI (by omega)
  have h4 : many (ci 5) = nI m := m5
  have e5 : (6 : Int32) + nI m = nI (6 + m) := nI_add 6 m
  have hx2 : ix (nI (6 + m)) 12 = true := (ix_iff (by omega)).mpr (by omega)
  have hc2 : ci (nI (6 + m)) = 6 + m := ci_nI (by omega)
  have hge : ¬ (6 : Int32) ≤ nI m := nI_ge (b := 6) hm (by omega)
  have hRI : ∀ z, f_X4_readMan N lets (nI n) (nI a) s0 (nI 109) v0 (nI m) gd = some z → z.1 &&& 1 = z.1 → f_X4_readItem N lets (nI n) (nI a) s0 (nI 109) v0 (nI b1) (nI b2) (nI p) gs gc (nI m) gd (nI on) (nI st) = some (z.1, z.2.1, z.2.2.1, z.2.2.2.1, z.2.2.2.2.1, nI b1, nI b2, nI p, gs, gc, z.2.2.2.2.2.1, z.2.2.2.2.2.2, nI on, nI st) := by
    intro z hz h1
    unfold f_X4_readItem
    rw [if_pos (by rfl), hz, Option.bind_some, if_pos h1]
  rcases number_two (N := N) (lo := 0) (hi := 60) hN tx la (by omega) (by omega) s0 (nI 109) v0 with ⟨st1, x1, x2, x3, g1, g2, g3, g4⟩ | ⟨v, a1, x1, x2, nx2, tk2, pc2, vl2, g1, g2, g3, g4, g5, g6⟩
  · have hP : f_X4_readMan N lets (nI n) (nI a) s0 (nI 109) v0 (nI m) gd = some (nI 0, x1, nI st1, x2, x3, nI m, gd) := by
      unfold f_X4_readMan
      rw [if_neg hge, show f_X4_readNumber N 0 60 lets (nI n) (nI a) s0 (nI 109) v0 = _ from g3, Option.bind_some, if_pos (by rfl)] <;> rfl
    have hR : f_X7_readsItem N (nI 109) text (nI n) nx tk pc vl (-nI 1) many sees cold first (nI (b1 + 2 * b2)) = some (nx, tk, pc, vl, nI st1, upd many 5 (nI m + 1), sees, cold, upd first (6 + m) (nI 0), nI (b1 + 2 * b2)) := by
      unfold f_X7_readsItem
      rw [if_neg (by decide), if_pos (by rfl), show f_X7_number N 0 60 text (nI n) nx tk pc vl (-nI 1) = _ from g4, Option.bind_some, h4, e5, if_pos hx2, hc2] <;> rfl
    exact Or.inl ⟨st1, x1, x2, x3, _, _, _, _, _, _, _, _, _, _, _, _, _, _, _, _, _, _, _, g1, hRI _ hP and1_0, hR, Or.inl rfl, low_k (by omega)⟩
  · have hR : f_X7_readsItem N (nI 109) text (nI n) nx tk pc vl (-nI 1) many sees cold first (nI (b1 + 2 * b2)) = some (nx2, tk2, pc2, vl2, -nI 1, upd many 5 (nI m + 1), sees, cold, upd first (6 + m) (nI v), nI (b1 + 2 * b2)) := by
      unfold f_X7_readsItem
      rw [if_neg (by decide), if_pos (by rfl), show f_X7_number N 0 60 text (nI n) nx tk pc vl (-nI 1) = _ from g5, Option.bind_some, h4, e5, if_pos hx2, hc2] <;> rfl
    rcases end_two (N := N) hN tx g6 x1 x2 (nI v) with ⟨st1, u1, u2, u3, l1, l2, l3, l4⟩ | ⟨a3, u1, u2, u3, nx4, tk4, pc4, vl4, l1, l2, l3, l4, l5⟩
    · have hP : f_X4_readMan N lets (nI n) (nI a) s0 (nI 109) v0 (nI m) gd = some (nI 0, u1, nI st1, u2, u3, nI (m + 1), upd gd m (nI v)) := by
        unfold f_X4_readMan
        rw [if_neg hge, show f_X4_readNumber N 0 60 lets (nI n) (nI a) s0 (nI 109) v0 = _ from g4, Option.bind_some, if_neg (by exact one0), if_pos hx]
        dsimp only
        rw [l3, Option.bind_some, if_pos (by exact and1_0), hcp, nI_1 m] <;> rfl
      exact Or.inl ⟨st1, u1, u2, u3, _, _, _, _, _, _, _, _, _, _, _, _, _, _, _, _, _, _, _, l1, hRI _ hP and1_0, hR, Or.inr ⟨rfl, l4, l2⟩, low_k (by omega)⟩
    · have hP : f_X4_readMan N lets (nI n) (nI a) s0 (nI 109) v0 (nI m) gd = some (nI 1, nI a3, u1, u2, u3, nI (m + 1), upd gd m (nI v)) := by
        unfold f_X4_readMan
        rw [if_neg hge, show f_X4_readNumber N 0 60 lets (nI n) (nI a) s0 (nI 109) v0 = _ from g4, Option.bind_some, if_neg (by exact one0), if_pos hx]
        dsimp only
        rw [l2, Option.bind_some, if_pos (by exact and1_1), hcp, nI_1 m] <;> rfl
      refine Or.inr ⟨p, m + 1, on, st, b1, b2, a3, u1, u2, u3, _, _, _, _, _, _, _, _, _, _, _, _, _, nx4, tk4, pc4, vl4, _, _, _, _, _, by omega, hRI _ hP and1_1, hR, l3, l4, l5, ⟨⟨q1, by omega, q3, q4, q5, q6⟩, ⟨rfl, rfl, rfl, rfl, rfl, rfl⟩, ⟨?_, ?_, ?_, ?_, rfl⟩, ds, fun j hj => ?_⟩, low_k (by omega)⟩
      · rw [upd_ne (by omega)]; exact m4
      · rw [upd_same]; exact nI_1 m
      · rw [upd_ne (by omega)]; exact m6
      · rw [upd_ne (by omega)]; exact m7
      · by_cases e : j = m
        · subst e
          exact ⟨v, g2, upd_same, upd_same⟩
        · dsimp only
          rw [upd_ne e, upd_ne (by omega)]
          exact dd j (by omega)
set_option maxHeartbeats 1000000 in
theorem itm_o (hN : 8000 < N) (tx : TXT n C lets text) {a : Nat} {nx tk pc vl : Int32} (la : LA N n text a nx tk pc vl) (df : DF p m on st b1 b2 gp gs gc gm gd go gt onT stT many sees cold first told) (hb : b1 = 0) (s0 v0 : Int32) : ITM N n lets text a 111 nx tk pc vl s0 (nI 111) v0 gp gs gc gm gd go gt onT stT many sees cold first told := by
  obtain ⟨⟨q1, q2, q3, q4, q5, q6⟩, ⟨rfl, rfl, rfl, rfl, rfl, rfl⟩, ⟨m4, m5, m6, m7, rfl⟩, ds, dd⟩ := df
  subst hb
  have hRI : ∀ z, f_X4_readOn N lets (nI n) (nI a) s0 (nI 111) v0 (nI 0) (nI on) = some z → z.1 &&& 1 = z.1 → f_X4_readItem N lets (nI n) (nI a) s0 (nI 111) v0 (nI 0) (nI b2) (nI p) gs gc (nI m) gd (nI on) (nI st) = some (z.1, z.2.1, z.2.2.1, z.2.2.2.1, z.2.2.2.2.1, z.2.2.2.2.2.1, nI b2, nI p, gs, gc, nI m, gd, z.2.2.2.2.2.2, nI st) := by
    intro z hz h1
    unfold f_X4_readItem
    rw [if_neg (by decide), if_neg (by decide), if_pos (by rfl), hz, Option.bind_some, if_pos h1]
  rcases number_two (N := N) (lo := 1) (hi := 9) hN tx la (by omega) (by omega) s0 (nI 111) v0 with ⟨st1, x1, x2, x3, g1, g2, g3, g4⟩ | ⟨v, a1, x1, x2, nx2, tk2, pc2, vl2, g1, g2, g3, g4, g5, g6⟩
  · have hP : f_X4_readOn N lets (nI n) (nI a) s0 (nI 111) v0 (nI 0) (nI on) = some (nI 0, x1, nI st1, x2, x3, nI 0, nI on) := by
      unfold f_X4_readOn
      rw [if_pos (by rfl), show f_X4_readNumber N 1 9 lets (nI n) (nI a) s0 (nI 111) v0 = _ from g3, Option.bind_some, if_pos (by rfl)] <;> rfl
    have hR : f_X7_readsItem N (nI 111) text (nI n) nx tk pc vl (-nI 1) many sees cold first (nI (0 + 2 * b2)) = some (nx, tk, pc, vl, nI st1, upd many 6 (nI 0), sees, cold, first, nI (0 + 2 * b2) ||| 1) := by
      unfold f_X7_readsItem
      rw [if_neg (by decide), if_neg (by decide), if_pos (by rfl), show f_X7_number N 1 9 text (nI n) nx tk pc vl (-nI 1) = _ from g4, Option.bind_some] <;> rfl
    exact Or.inl ⟨st1, x1, x2, x3, _, _, _, _, _, _, _, _, _, _, _, _, _, _, _, _, _, _, _, g1, hRI _ hP and1_0, hR, Or.inl rfl, low_k (by omega)⟩
  · have hR : f_X7_readsItem N (nI 111) text (nI n) nx tk pc vl (-nI 1) many sees cold first (nI (0 + 2 * b2)) = some (nx2, tk2, pc2, vl2, -nI 1, upd many 6 (nI v), sees, cold, first, nI (0 + 2 * b2) ||| 1) := by
      unfold f_X7_readsItem
      rw [if_neg (by decide), if_neg (by decide), if_pos (by rfl), show f_X7_number N 1 9 text (nI n) nx tk pc vl (-nI 1) = _ from g5, Option.bind_some] <;> rfl
    rcases end_two (N := N) hN tx g6 x1 x2 (nI v) with ⟨st1, u1, u2, u3, l1, l2, l3, l4⟩ | ⟨a3, u1, u2, u3, nx4, tk4, pc4, vl4, l1, l2, l3, l4, l5⟩
    · have hP : f_X4_readOn N lets (nI n) (nI a) s0 (nI 111) v0 (nI 0) (nI on) = some (nI 0, u1, nI st1, u2, u3, nI 1, nI v) := by
        unfold f_X4_readOn
        rw [if_pos (by rfl), show f_X4_readNumber N 1 9 lets (nI n) (nI a) s0 (nI 111) v0 = _ from g4, Option.bind_some, if_neg (by exact one0)]
        dsimp only
        rw [l3, Option.bind_some, if_pos (by exact and1_0)] <;> rfl
      exact Or.inl ⟨st1, u1, u2, u3, _, _, _, _, _, _, _, _, _, _, _, _, _, _, _, _, _, _, _, l1, hRI _ hP and1_0, hR, Or.inr ⟨rfl, l4, l2⟩, low_k (by omega)⟩
    · have hP : f_X4_readOn N lets (nI n) (nI a) s0 (nI 111) v0 (nI 0) (nI on) = some (nI 1, nI a3, u1, u2, u3, nI 1, nI v) := by
        unfold f_X4_readOn
        rw [if_pos (by rfl), show f_X4_readNumber N 1 9 lets (nI n) (nI a) s0 (nI 111) v0 = _ from g4, Option.bind_some, if_neg (by exact one0)]
        dsimp only
        rw [l2, Option.bind_some, if_pos (by exact and1_1)] <;> rfl
      refine Or.inr ⟨p, m, v, st, 1, b2, a3, u1, u2, u3, _, _, _, _, _, _, _, _, _, _, _, _, _, nx4, tk4, pc4, vl4, _, _, _, _, _, by omega, hRI _ hP and1_1, hR, l3, l4, l5, ⟨⟨q1, q2, g2, q4, by omega, q6⟩, ⟨rfl, rfl, rfl, rfl, rfl, rfl⟩, ⟨?_, ?_, ?_, ?_, ?_⟩, ds, dd⟩, low_k (by omega)⟩
      · rw [upd_ne (by omega)]; exact m4
      · rw [upd_ne (by omega)]; exact m5
      · exact upd_same
      · rw [upd_ne (by omega)]; exact m7
      · rcases (show b2 = 0 ∨ b2 = 1 by omega) with rfl | rfl <;> decide
set_option maxHeartbeats 1000000 in
theorem itm_s (hN : 8000 < N) (tx : TXT n C lets text) {a : Nat} {nx tk pc vl : Int32} (la : LA N n text a nx tk pc vl) (df : DF p m on st b1 b2 gp gs gc gm gd go gt onT stT many sees cold first told) (hb : b2 = 0) (s0 v0 : Int32) : ITM N n lets text a 115 nx tk pc vl s0 (nI 115) v0 gp gs gc gm gd go gt onT stT many sees cold first told := by
  obtain ⟨⟨q1, q2, q3, q4, q5, q6⟩, ⟨rfl, rfl, rfl, rfl, rfl, rfl⟩, ⟨m4, m5, m6, m7, rfl⟩, ds, dd⟩ := df
  subst hb
  have hRI : ∀ z, f_X4_readStove N lets (nI n) (nI a) s0 (nI 115) v0 (nI 0) (nI st) = some z → z.1 &&& 1 = z.1 → f_X4_readItem N lets (nI n) (nI a) s0 (nI 115) v0 (nI b1) (nI 0) (nI p) gs gc (nI m) gd (nI on) (nI st) = some (z.1, z.2.1, z.2.2.1, z.2.2.2.1, z.2.2.2.2.1, nI b1, z.2.2.2.2.2.1, nI p, gs, gc, nI m, gd, nI on, z.2.2.2.2.2.2) := by
    intro z hz h1
    unfold f_X4_readItem
    rw [if_neg (by decide), if_neg (by decide), if_neg (by decide), if_neg (by decide), if_neg (by decide), if_neg (by decide), if_pos (by rfl), hz, Option.bind_some, if_pos h1]
  rcases number_two (N := N) (lo := 1) (hi := 9) hN tx la (by omega) (by omega) s0 (nI 115) v0 with ⟨st1, x1, x2, x3, g1, g2, g3, g4⟩ | ⟨v, a1, x1, x2, nx2, tk2, pc2, vl2, g1, g2, g3, g4, g5, g6⟩
  · have hP : f_X4_readStove N lets (nI n) (nI a) s0 (nI 115) v0 (nI 0) (nI st) = some (nI 0, x1, nI st1, x2, x3, nI 0, nI st) := by
      unfold f_X4_readStove
      rw [if_pos (by rfl), show f_X4_readNumber N 1 9 lets (nI n) (nI a) s0 (nI 115) v0 = _ from g3, Option.bind_some, if_pos (by rfl)] <;> rfl
    have hR : f_X7_readsItem N (nI 115) text (nI n) nx tk pc vl (-nI 1) many sees cold first (nI (b1 + 2 * 0)) = some (nx, tk, pc, vl, nI st1, upd many 7 (nI 0), sees, cold, first, nI (b1 + 2 * 0) ||| 2) := by
      unfold f_X7_readsItem
      rw [if_neg (by decide), if_neg (by decide), if_neg (by decide), show f_X7_number N 1 9 text (nI n) nx tk pc vl (-nI 1) = _ from g4, Option.bind_some] <;> rfl
    exact Or.inl ⟨st1, x1, x2, x3, _, _, _, _, _, _, _, _, _, _, _, _, _, _, _, _, _, _, _, g1, hRI _ hP and1_0, hR, Or.inl rfl, low_k (by omega)⟩
  · have hR : f_X7_readsItem N (nI 115) text (nI n) nx tk pc vl (-nI 1) many sees cold first (nI (b1 + 2 * 0)) = some (nx2, tk2, pc2, vl2, -nI 1, upd many 7 (nI v), sees, cold, first, nI (b1 + 2 * 0) ||| 2) := by
      unfold f_X7_readsItem
      rw [if_neg (by decide), if_neg (by decide), if_neg (by decide), show f_X7_number N 1 9 text (nI n) nx tk pc vl (-nI 1) = _ from g5, Option.bind_some] <;> rfl
    rcases end_two (N := N) hN tx g6 x1 x2 (nI v) with ⟨st1, u1, u2, u3, l1, l2, l3, l4⟩ | ⟨a3, u1, u2, u3, nx4, tk4, pc4, vl4, l1, l2, l3, l4, l5⟩
    · have hP : f_X4_readStove N lets (nI n) (nI a) s0 (nI 115) v0 (nI 0) (nI st) = some (nI 0, u1, nI st1, u2, u3, nI 1, nI v) := by
        unfold f_X4_readStove
        rw [if_pos (by rfl), show f_X4_readNumber N 1 9 lets (nI n) (nI a) s0 (nI 115) v0 = _ from g4, Option.bind_some, if_neg (by exact one0)]
        dsimp only
        rw [l3, Option.bind_some, if_pos (by exact and1_0)] <;> rfl
      exact Or.inl ⟨st1, u1, u2, u3, _, _, _, _, _, _, _, _, _, _, _, _, _, _, _, _, _, _, _, l1, hRI _ hP and1_0, hR, Or.inr ⟨rfl, l4, l2⟩, low_k (by omega)⟩
    · have hP : f_X4_readStove N lets (nI n) (nI a) s0 (nI 115) v0 (nI 0) (nI st) = some (nI 1, nI a3, u1, u2, u3, nI 1, nI v) := by
        unfold f_X4_readStove
        rw [if_pos (by rfl), show f_X4_readNumber N 1 9 lets (nI n) (nI a) s0 (nI 115) v0 = _ from g4, Option.bind_some, if_neg (by exact one0)]
        dsimp only
        rw [l2, Option.bind_some, if_pos (by exact and1_1)] <;> rfl
      refine Or.inr ⟨p, m, on, v, b1, 1, a3, u1, u2, u3, _, _, _, _, _, _, _, _, _, _, _, _, _, nx4, tk4, pc4, vl4, _, _, _, _, _, by omega, hRI _ hP and1_1, hR, l3, l4, l5, ⟨⟨q1, q2, q3, g2, q5, by omega⟩, ⟨rfl, rfl, rfl, rfl, rfl, rfl⟩, ⟨?_, ?_, ?_, ?_, ?_⟩, ds, dd⟩, low_k (by omega)⟩
      · rw [upd_ne (by omega)]; exact m4
      · rw [upd_ne (by omega)]; exact m5
      · rw [upd_ne (by omega)]; exact m6
      · exact upd_same
      · rcases (show b1 = 0 ∨ b1 = 1 by omega) with rfl | rfl <;> decide
end I2

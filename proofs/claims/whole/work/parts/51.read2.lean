/-! ===== pure side: the reading's loop ===== -/
section RL2
variable {N : Nat} {n : Nat} {C : Nat → Nat} {lets text : FN}
/-- the reference's loop ends at a fault -/
theorem ref_stop {K f : Nat} {v1 nx tk pc vl : Int32} {many sees cold first : FN} {told : Int32} (hf : f < 2 ^ 31) : lp (fun s => b_X7_depot_1 N text (nI n) s.1 s.2.1 s.2.2.1 s.2.2.2.1 s.2.2.2.2.1 s.2.2.2.2.2.1 s.2.2.2.2.2.2.1 s.2.2.2.2.2.2.2.1 s.2.2.2.2.2.2.2.2.1 s.2.2.2.2.2.2.2.2.2.1 s.2.2.2.2.2.2.2.2.2.2) (K + 1) (v1, nx, tk, pc, vl, nI f, many, sees, cold, first, told) = some (v1, nx, tk, pc, vl, nI f, many, sees, cold, first, told) := by
  refine lp_inr ?_
  show b_X7_depot_1 N text (nI n) v1 nx tk pc vl (nI f) many sees cold first told = _
  unfold b_X7_depot_1
  rw [m1_lt f hf, Option.bind_some, if_pos (by rfl)]
theorem may_p {many : FN} {told : Int32} {p : Nat} (h : many 4 = nI p) (hp : p ≤ 5) : f_X7_mayBegin N (nI 112) many told = some (if p < 5 then 1 else 0) := by
  unfold f_X7_mayBegin
  rw [if_pos (by rfl), show many (ci 4) = nI p from h]
  by_cases h5 : p < 5
  · rw [if_neg (show ¬ (5 : Int32) ≤ nI p from nI_ge (b := 5) h5 (by omega)), if_pos h5]
  · rw [if_pos (show (5 : Int32) ≤ nI p from nI_le (a := 5) (by omega) (by omega)), if_neg h5]
theorem may_m {many : FN} {told : Int32} {p : Nat} (h : many 5 = nI p) (hp : p ≤ 6) : f_X7_mayBegin N (nI 109) many told = some (if p < 6 then 1 else 0) := by
  unfold f_X7_mayBegin
  rw [if_neg (by decide), if_pos (by rfl), show many (ci 5) = nI p from h]
  by_cases h5 : p < 6
  · rw [if_neg (show ¬ (6 : Int32) ≤ nI p from nI_ge (b := 6) h5 (by omega)), if_pos h5]
  · rw [if_pos (show (6 : Int32) ≤ nI p from nI_le (a := 6) (by omega) (by omega)), if_neg h5]
theorem may_o {many : FN} {b1 b2 : Nat} (h1 : b1 ≤ 1) (h2 : b2 ≤ 1) : f_X7_mayBegin N (nI 111) many (nI (b1 + 2 * b2)) = some (if b1 = 0 then 1 else 0) := by
  unfold f_X7_mayBegin
  rw [if_neg (by decide), if_neg (by decide), if_pos (by rfl)]
  rcases (show b1 = 0 ∨ b1 = 1 by omega) with rfl | rfl <;> rcases (show b2 = 0 ∨ b2 = 1 by omega) with rfl | rfl <;> rfl
theorem may_s {many : FN} {b1 b2 : Nat} (h1 : b1 ≤ 1) (h2 : b2 ≤ 1) : f_X7_mayBegin N (nI 115) many (nI (b1 + 2 * b2)) = some (if b2 = 0 then 1 else 0) := by
  unfold f_X7_mayBegin
  rw [if_neg (by decide), if_neg (by decide), if_neg (by decide)]
  rcases (show b1 = 0 ∨ b1 = 1 by omega) with rfl | rfl <;> rcases (show b2 = 0 ∨ b2 = 1 by omega) with rfl | rfl <;> rfl
set_option maxHeartbeats 2000000 in
theorem read_two (hN : 8000 < N) (tx : TXT n C lets text) : ∀ (k a i p m on st b1 b2 : Nat) (s0 t0 v0 nx tk pc vl gp : Int32) (gs gc : FN) (gm : Int32) (gd : FN) (go gt onT stT : Int32) (many sees cold first : FN) (told : Int32) (K : Nat), n - a ≤ k → i ≤ a → k + 1 < K → LA N n text a nx tk pc vl → DF p m on st b1 b2 gp gs gc gm gd go gt onT stT many sees cold first told →
    ∃ tc tr, lp (fun s => b_X4_readInto_1 N lets (nI n) s.1 s.2.1 s.2.2.1 s.2.2.2.1 s.2.2.2.2.1 s.2.2.2.2.2.1 s.2.2.2.2.2.2.1 s.2.2.2.2.2.2.2.1 s.2.2.2.2.2.2.2.2.1 s.2.2.2.2.2.2.2.2.2.1 s.2.2.2.2.2.2.2.2.2.2.1 s.2.2.2.2.2.2.2.2.2.2.2.1 s.2.2.2.2.2.2.2.2.2.2.2.2.1 s.2.2.2.2.2.2.2.2.2.2.2.2.2) K (nI i, nI a, s0, t0, v0, onT, stT, gp, gs, gc, gm, gd, go, gt) = some tc ∧ lp (fun s => b_X7_depot_1 N text (nI n) s.1 s.2.1 s.2.2.1 s.2.2.2.1 s.2.2.2.2.1 s.2.2.2.2.2.1 s.2.2.2.2.2.2.1 s.2.2.2.2.2.2.2.1 s.2.2.2.2.2.2.2.2.1 s.2.2.2.2.2.2.2.2.2.1 s.2.2.2.2.2.2.2.2.2.2) K (nI i, nx, tk, pc, vl, -nI 1, many, sees, cold, first, told) = some tr ∧ OUT tc tr ∧ LOW many sees cold tr.2.2.2.2.2.2.1 tr.2.2.2.2.2.2.2.1 tr.2.2.2.2.2.2.2.2.1 := by
  have hn := tx.1
  intro k
  induction k with
  | zero =>
    intro a i p m on st b1 b2 s0 t0 v0 nx tk pc vl gp gs gc gm gd go gt onT stT many sees cold first told K hk hi hK la df
    obtain ⟨K, rfl⟩ : ∃ K', K = K' + 1 := ⟨K - 1, by omega⟩
    obtain ⟨a', st', tC, vC, h1, rfl, rfl, h2, h3, h4, h5⟩ := la.tok hN tx s0 t0 v0
    have ha := la.1
    rcases h5 with ⟨h6, h7, rfl, rfl⟩ | ⟨h6, -⟩ | ⟨h6, -⟩ | ⟨h6, -⟩
    · refine ⟨_, _, lp_inr (into_end (by omega) hn h1), lp_inr (t := (nI i, nI a', nI 0, nI st', vl, -nI 1, many, sees, cold, first, told)) ?_, Or.inr ⟨_, i, p, m, on, st, b1, b2, by omega, rfl, rfl, rfl, rfl, df⟩, low_rf⟩
      show b_X7_depot_1 N text (nI n) (nI i) (nI a') (nI 0) (nI st') vl (-nI 1) many sees cold first told = _
      unfold b_X7_depot_1
      rw [well_m1, Option.bind_some, if_neg (by decide), if_pos (by rfl)]
    · omega
    · omega
    · omega
  | succ k ih =>
    intro a i p m on st b1 b2 s0 t0 v0 nx tk pc vl gp gs gc gm gd go gt onT stT many sees cold first told K hk hi hK la df
    obtain ⟨K, rfl⟩ : ∃ K', K = K' + 2 := ⟨K - 2, by omega⟩
    obtain ⟨a', st', tC, vC, h1, rfl, rfl, h2, h3, h4, h5⟩ := la.tok hN tx s0 t0 v0
    have ha := la.1
    -- a fault at this token
    have flt : ∀ z, ¬ tC = -nI 2 → f_X4_readItem N lets (nI n) (nI a') (nI st') tC vC onT stT gp gs gc gm gd go gt = some z → z.1 = 0 → z.2.2.1 = nI st' → ¬ tk = nI 0 → (¬ tk = nI 1 ∨ (tk = nI 1 ∧ f_X7_mayBegin N vl many told = some 0)) → ∃ tc tr, lp (fun s => b_X4_readInto_1 N lets (nI n) s.1 s.2.1 s.2.2.1 s.2.2.2.1 s.2.2.2.2.1 s.2.2.2.2.2.1 s.2.2.2.2.2.2.1 s.2.2.2.2.2.2.2.1 s.2.2.2.2.2.2.2.2.1 s.2.2.2.2.2.2.2.2.2.1 s.2.2.2.2.2.2.2.2.2.2.1 s.2.2.2.2.2.2.2.2.2.2.2.1 s.2.2.2.2.2.2.2.2.2.2.2.2.1 s.2.2.2.2.2.2.2.2.2.2.2.2.2) (K + 2) (nI i, nI a, s0, t0, v0, onT, stT, gp, gs, gc, gm, gd, go, gt) = some tc ∧ lp (fun s => b_X7_depot_1 N text (nI n) s.1 s.2.1 s.2.2.1 s.2.2.2.1 s.2.2.2.2.1 s.2.2.2.2.2.1 s.2.2.2.2.2.2.1 s.2.2.2.2.2.2.2.1 s.2.2.2.2.2.2.2.2.1 s.2.2.2.2.2.2.2.2.2.1 s.2.2.2.2.2.2.2.2.2.2) (K + 2) (nI i, nI a', tk, nI st', vl, -nI 1, many, sees, cold, first, told) = some tr ∧ OUT tc tr ∧ LOW many sees cold tr.2.2.2.2.2.2.1 tr.2.2.2.2.2.2.2.1 tr.2.2.2.2.2.2.2.2.1 := by
      intro z c1 c2 c3 c4 c5 c6
      have e1 := into_item (N := N) (i := i) (onT := onT) (stT := stT) (gp := gp) (gs := gs) (gc := gc) (gm := gm) (gd := gd) (go := go) (gt := gt) (by omega) hn h1 c1 c2
      rw [if_pos c3] at e1
      refine ⟨.inl z.2, (nI (i + 1), nI a', tk, nI st', vl, nI st', many, sees, cold, first, told), lp_inr e1, ?_, Or.inl ⟨z.2, st', by omega, rfl, c4, rfl⟩, low_rf⟩
      rw [lp_inl (s' := (nI (i + 1), nI a', tk, nI st', vl, nI st', many, sees, cold, first, told)) (depot_no (N := N) (text := text) (n := n) (many := many) (sees := sees) (cold := cold) (first := first) (told := told) (by omega) c5 c6)]
      exact ref_stop (by omega)
    -- an item that may begin
    have itm : ∀ c, tC = nI c → tk = nI 1 → vl = nI c → a < a' → f_X7_mayBegin N (nI c) many told = some 1 → (∀ nx2 tk2 pc2 vl2, LA N n text a' nx2 tk2 pc2 vl2 → ITM N n lets text a' c nx2 tk2 pc2 vl2 (nI st') (nI c) vC gp gs gc gm gd go gt onT stT many sees cold first told) → c < 256 → ∃ tc tr, lp (fun s => b_X4_readInto_1 N lets (nI n) s.1 s.2.1 s.2.2.1 s.2.2.2.1 s.2.2.2.2.1 s.2.2.2.2.2.1 s.2.2.2.2.2.2.1 s.2.2.2.2.2.2.2.1 s.2.2.2.2.2.2.2.2.1 s.2.2.2.2.2.2.2.2.2.1 s.2.2.2.2.2.2.2.2.2.2.1 s.2.2.2.2.2.2.2.2.2.2.2.1 s.2.2.2.2.2.2.2.2.2.2.2.2.1 s.2.2.2.2.2.2.2.2.2.2.2.2.2) (K + 2) (nI i, nI a, s0, t0, v0, onT, stT, gp, gs, gc, gm, gd, go, gt) = some tc ∧ lp (fun s => b_X7_depot_1 N text (nI n) s.1 s.2.1 s.2.2.1 s.2.2.2.1 s.2.2.2.2.1 s.2.2.2.2.2.1 s.2.2.2.2.2.2.1 s.2.2.2.2.2.2.2.1 s.2.2.2.2.2.2.2.2.1 s.2.2.2.2.2.2.2.2.2.1 s.2.2.2.2.2.2.2.2.2.2) (K + 2) (nI i, nI a', tk, nI st', vl, -nI 1, many, sees, cold, first, told) = some tr ∧ OUT tc tr ∧ LOW many sees cold tr.2.2.2.2.2.2.1 tr.2.2.2.2.2.2.2.1 tr.2.2.2.2.2.2.2.2.1 := by
      rintro c rfl rfl rfl h6 hmay hitm hc
      have c1 : ¬ nI c = -nI 2 := by rw [nI_ne_neg (by omega) (by omega) (by omega)]; exact fun h => h
      obtain ⟨nx2, tk2, pc2, vl2, g1, g2⟩ := LA.next (N := N) hN tx (a' := a') h4 (nI 1) (nI st') (nI c)
      have htk := takes_yes g1
      rcases hitm nx2 tk2 pc2 vl2 g2 with ⟨st1, y1, y2, y3, o1, o2, o3, o4, o5, o6, o7, o8, o9, nx3, tk3, pc3, vl3, fl, many', sees', cold', first', told', k1, k2, k3, k4, klow⟩ | ⟨p', m', on', st2, bb1, bb2, a3, y1, y2, y3, o1, o2, o3, o4, o5, o6, o7, o8, o9, nx3, tk3, pc3, vl3, nx4, tk4, pc4, vl4, many', sees', cold', first', told', k1, k2, k3, k4, k5, k6, k7, klow⟩
      · have e1 := into_item (N := N) (i := i) (onT := onT) (stT := stT) (gp := gp) (gs := gs) (gc := gc) (gm := gm) (gd := gd) (go := go) (gt := gt) (by omega) hn h1 c1 k2
        rw [if_pos (by rfl)] at e1
        have hend : ∃ v4 nx5 tk5 pc5 vl5, (if tk3 = 3 then f_X7_takes N 1 text (nI n) nx3 tk3 pc3 vl3 fl else f_X7_takes N 0 text (nI n) nx3 tk3 pc3 vl3 fl) = some (v4, nx5, tk5, pc5, vl5, nI st1) := by
          rcases k4 with rfl | ⟨rfl, q1, rfl⟩
          · rw [takes_fault (by omega), takes_fault (by omega)]
            split <;> exact ⟨_, _, _, _, _, rfl⟩
          · rw [if_neg (by exact q1), takes_no]
            exact ⟨_, _, _, _, _, rfl⟩
        obtain ⟨v4, nx5, tk5, pc5, vl5, hend⟩ := hend
        have hst1 : st1 ≤ 200 := k1
        refine ⟨_, (nI (i + 1), nx5, tk5, pc5, vl5, nI st1, many', sees', cold', first', told'), lp_inr e1, ?_, Or.inl ⟨_, st1, hst1, rfl, rfl, rfl⟩, klow⟩
        rw [lp_inl (s' := (nI (i + 1), nx5, tk5, pc5, vl5, nI st1, many', sees', cold', first', told')) (depot_yes (N := N) (i := i) hmay htk k3 hend)]
        exact ref_stop (by omega)
      · have e1 := into_item (N := N) (i := i) (onT := onT) (stT := stT) (gp := gp) (gs := gs) (gc := gc) (gm := gm) (gd := gd) (go := go) (gt := gt) (by omega) hn h1 c1 k2
        rw [if_neg (by exact one0)] at e1
        rw [lp_inl (s' := (nI (i + 1), nI a3, y1, y2, y3, o1, o2, o3, o4, o5, o6, o7, o8, o9)) e1, lp_inl (s' := (nI (i + 1), nx4, tk4, pc4, vl4, -nI 1, many', sees', cold', first', told')) (depot_yes (N := N) (i := i) hmay htk k3 (by rw [if_pos (by exact k4)]; exact k5))]
        obtain ⟨tc, tr, i1, i2, i3, i4⟩ := ih a3 (i + 1) p' m' on' st2 bb1 bb2 y1 y2 y3 nx4 tk4 pc4 vl4 o3 o4 o5 o6 o7 o8 o9 o1 o2 many' sees' cold' first' told' (K + 1) (by omega) (by omega) (by omega) k6 k7
        exact ⟨tc, tr, i1, i2, i3, low_tr klow i4⟩
    obtain ⟨⟨q1, q2, q3, q4, q5, q6⟩, ⟨eg1, eg2, eg3, eg4, eg5, eg6⟩, ⟨m4, m5, m6, m7, etold⟩, ds, dd⟩ := id df
    rcases h5 with ⟨h6, h7, rfl, rfl⟩ | ⟨h6, v, hv, rfl, rfl, rfl, rfl⟩ | ⟨h6, rfl, rfl⟩ | ⟨h6, c, hc, rfl, rfl, htk⟩
    · refine ⟨_, _, lp_inr (into_end (by omega) hn h1), lp_inr (t := (nI i, nI a', nI 0, nI st', vl, -nI 1, many, sees, cold, first, told)) ?_, Or.inr ⟨_, i, p, m, on, st, b1, b2, by omega, rfl, rfl, rfl, rfl, df⟩, low_rf⟩
      show b_X7_depot_1 N text (nI n) (nI i) (nI a') (nI 0) (nI st') vl (-nI 1) many sees cold first told = _
      unfold b_X7_depot_1
      rw [well_m1, Option.bind_some, if_neg (by decide), if_pos (by rfl)]
    · exact flt _ (by decide) (item_other (by decide) (by decide) (by decide) (by decide)) rfl rfl (by decide) (Or.inl (by decide))
    · exact flt _ (by decide) (item_other (by decide) (by decide) (by decide) (by decide)) rfl rfl (by decide) (Or.inl (by decide))
    · have c1 : ¬ nI c = -nI 2 := by rw [nI_ne_neg (by omega) (by omega) (by omega)]; exact fun h => h
      by_cases k2 : c = 112
      · subst k2
        have htk1 : tk = nI 1 := by rw [htk]; rfl
        have hmay := may_p (N := N) (told := told) m4 q1
        by_cases h5 : p < 5
        · rw [if_pos h5] at hmay
          exact itm 112 rfl htk1 rfl h6 hmay (fun nx2 tk2 pc2 vl2 la2 => itm_p hN tx la2 df h5 (nI st') vC) hc
        · rw [if_neg h5] at hmay
          refine flt (0, nI a', nI st', nI 112, vC, onT, stT, gp, gs, gc, gm, gd, go, gt) c1 ?_ rfl rfl (by rw [htk1]; decide) (Or.inr ⟨htk1, hmay⟩)
          unfold f_X4_readItem f_X4_readPost
          rw [if_neg (by decide), if_neg (by decide), if_neg (by decide), if_pos (by rfl), eg1, if_pos (show (5 : Int32) ≤ nI p from nI_le (a := 5) (by omega) (by omega)), Option.bind_some, if_pos (by exact and1_0)]
      · by_cases k3 : c = 109
        · subst k3
          have htk1 : tk = nI 1 := by rw [htk]; rfl
          have hmay := may_m (N := N) (told := told) m5 q2
          by_cases h5 : m < 6
          · rw [if_pos h5] at hmay
            exact itm 109 rfl htk1 rfl h6 hmay (fun nx2 tk2 pc2 vl2 la2 => itm_m hN tx la2 df h5 (nI st') vC) hc
          · rw [if_neg h5] at hmay
            refine flt (0, nI a', nI st', nI 109, vC, onT, stT, gp, gs, gc, gm, gd, go, gt) c1 ?_ rfl rfl (by rw [htk1]; decide) (Or.inr ⟨htk1, hmay⟩)
            unfold f_X4_readItem f_X4_readMan
            rw [if_pos (by rfl), eg2, if_pos (show (6 : Int32) ≤ nI m from nI_le (a := 6) (by omega) (by omega)), Option.bind_some, if_pos (by exact and1_0)]
        · by_cases k4 : c = 111
          · subst k4
            have htk1 : tk = nI 1 := by rw [htk]; rfl
            have hmay := may_o (N := N) (many := many) q5 q6
            rw [← etold] at hmay
            by_cases h5 : b1 = 0
            · rw [if_pos h5] at hmay
              exact itm 111 rfl htk1 rfl h6 hmay (fun nx2 tk2 pc2 vl2 la2 => itm_o hN tx la2 df h5 (nI st') vC) hc
            · rw [if_neg h5] at hmay
              refine flt (0, nI a', nI st', nI 111, vC, onT, stT, gp, gs, gc, gm, gd, go, gt) c1 ?_ rfl rfl (by rw [htk1]; decide) (Or.inr ⟨htk1, hmay⟩)
              unfold f_X4_readItem f_X4_readOn
              rw [if_neg (by decide), if_neg (by decide), if_pos (by rfl), eg5, if_neg (show ¬ nI b1 = (0 : Int32) from nI_ne0 (by omega) (by omega)), Option.bind_some, if_pos (by exact and1_0)]
          · by_cases k5 : c = 115
            · subst k5
              have htk1 : tk = nI 1 := by rw [htk]; rfl
              have hmay := may_s (N := N) (many := many) q5 q6
              rw [← etold] at hmay
              by_cases h5 : b2 = 0
              · rw [if_pos h5] at hmay
                exact itm 115 rfl htk1 rfl h6 hmay (fun nx2 tk2 pc2 vl2 la2 => itm_s hN tx la2 df h5 (nI st') vC) hc
              · rw [if_neg h5] at hmay
                refine flt (0, nI a', nI st', nI 115, vC, onT, stT, gp, gs, gc, gm, gd, go, gt) c1 ?_ rfl rfl (by rw [htk1]; decide) (Or.inr ⟨htk1, hmay⟩)
                unfold f_X4_readItem f_X4_readStove
                rw [if_neg (by decide), if_neg (by decide), if_neg (by decide), if_neg (by decide), if_neg (by decide), if_neg (by decide), if_pos (by rfl), eg6, if_neg (show ¬ nI b2 = (0 : Int32) from nI_ne0 (by omega) (by omega)), Option.bind_some, if_pos (by exact and1_0)]
            · have hne : ∀ d, d < 256 → c ≠ d → ¬ nI c = nI d := fun d hd h => by rw [nI_eq (by omega) (by omega)]; exact h
              refine flt _ c1 (item_other (hne 109 (by omega) k3) (hne 111 (by omega) k4) (hne 112 (by omega) k2) (hne 115 (by omega) k5)) rfl rfl ?_ (Or.inl ?_)
              · rw [htk]
                by_cases k6 : c = 59
                · rw [if_pos k6]; decide
                · rw [if_neg k6, if_neg (by omega)]; decide
              · rw [htk]
                by_cases k6 : c = 59
                · rw [if_pos k6]; decide
                · rw [if_neg k6, if_neg (by omega)]; decide
end RL2

/-! ===== pure side: the text read, on both sides ===== -/
section RD
variable {N : Nat} {n : Nat} {C : Nat → Nat} {lets text : FN} {p m on st b1 b2 : Nat} {gp gm go gt onT stT told : Int32} {gs gc gd many sees cold first : FN}
theorem m1_lt (x : Nat) (hx : x < 2 ^ 31) : f_X7_isWell N (nI x) = some 0 := by
  unfold f_X7_isWell
  rw [if_pos (nI_pos' hx)]
theorem well_m1 : f_X7_isWell N (-nI 1) = some 1 := by
  unfold f_X7_isWell
  rw [if_neg (by decide)]
/-- the reference finds a fault at the token ahead -/
theorem depot_no {i st : Nat} {nx tk vl : Int32} (hst : st < 2 ^ 31) (h0 : ¬ tk = nI 0) (h1 : ¬ tk = nI 1 ∨ (tk = nI 1 ∧ f_X7_mayBegin N vl many told = some 0)) : b_X7_depot_1 N text (nI n) (nI i) nx tk (nI st) vl (-nI 1) many sees cold first told = some (.inl (nI (i + 1), nx, tk, nI st, vl, nI st, many, sees, cold, first, told)) := by
  unfold b_X7_depot_1
  rw [well_m1, Option.bind_some, if_neg (by decide), if_neg (by exact h0)]
  rcases h1 with h1 | ⟨h1, h2⟩
  · rw [if_neg (by exact h1), takes_no, Option.bind_some]
    dsimp only
    rw [m1_lt st hst, Option.bind_some, if_pos (by rfl), takes_fault hst, takes_fault hst, Option.bind_some]
    dsimp only
    rw [show nI i + 1 = nI (i + 1) from nI_1 i]
    split <;> rfl
  · rw [if_pos (by exact h1), h2, Option.bind_some, if_pos (by rfl), takes_no, Option.bind_some]
    dsimp only
    rw [m1_lt st hst, Option.bind_some, if_pos (by rfl), takes_fault hst, takes_fault hst, Option.bind_some]
    dsimp only
    rw [show nI i + 1 = nI (i + 1) from nI_1 i]
    split <;> rfl
/-- the reference begins an item -/
theorem depot_yes {i st a' : Nat} {vl nx2 tk2 pc2 vl2 nx3 tk3 pc3 vl3 fl : Int32} {many' sees' cold' first' : FN} {told' : Int32} (h1 : f_X7_mayBegin N vl many told = some 1) (h2 : f_X7_takes N 1 text (nI n) (nI a') (nI 1) (nI st) vl (-nI 1) = some (vl, nx2, tk2, pc2, vl2, -nI 1)) (h3 : f_X7_readsItem N vl text (nI n) nx2 tk2 pc2 vl2 (-nI 1) many sees cold first told = some (nx3, tk3, pc3, vl3, fl, many', sees', cold', first', told')) {v4 nx4 tk4 pc4 vl4 fl4 : Int32} (h4 : (if tk3 = 3 then f_X7_takes N 1 text (nI n) nx3 tk3 pc3 vl3 fl else f_X7_takes N 0 text (nI n) nx3 tk3 pc3 vl3 fl) = some (v4, nx4, tk4, pc4, vl4, fl4)) : b_X7_depot_1 N text (nI n) (nI i) (nI a') (nI 1) (nI st) vl (-nI 1) many sees cold first told = some (.inl (nI (i + 1), nx4, tk4, pc4, vl4, fl4, many', sees', cold', first', told')) := by
  unfold b_X7_depot_1
  rw [well_m1, Option.bind_some, if_neg (by decide), if_neg (by decide), if_pos (by rfl), h1, Option.bind_some, if_neg (by decide), h2, Option.bind_some]
  dsimp only
  rw [well_m1, Option.bind_some, if_neg (by decide), h3, Option.bind_some]
  dsimp only
  by_cases h : tk3 = 3
  · rw [if_pos h] at h4 ⊢
    rw [h4, Option.bind_some, show nI i + 1 = nI (i + 1) from nI_1 i]
  · rw [if_neg h] at h4 ⊢
    rw [h4, Option.bind_some, show nI i + 1 = nI (i + 1) from nI_1 i]
theorem into_item {i a a' st' : Nat} {s0 t0 v0 tC vC : Int32} {z : Int32 × Int32 × Int32 × Int32 × Int32 × Int32 × Int32 × Int32 × FN × FN × Int32 × FN × Int32 × Int32} (hi : i ≤ n) (hn : n ≤ 200) (h1 : f_X4_nextToken N lets (nI n) (nI a) s0 t0 v0 = some (nI a', nI st', tC, vC)) (h2 : ¬ tC = -nI 2) (h3 : f_X4_readItem N lets (nI n) (nI a') (nI st') tC vC onT stT gp gs gc gm gd go gt = some z) : b_X4_readInto_1 N lets (nI n) (nI i) (nI a) s0 t0 v0 onT stT gp gs gc gm gd go gt = (if z.1 = 0 then some (.inr (.inl z.2)) else some (.inl (nI (i + 1), z.2))) := by
  unfold b_X4_readInto_1
  rw [if_neg (nI_nlt hi (by omega)), h1, Option.bind_some]
  dsimp only
  rw [if_neg (by exact h2), h3, Option.bind_some, show nI i + 1 = nI (i + 1) from nI_1 i]
theorem into_end {i a a' st' : Nat} {s0 t0 v0 vC : Int32} (hi : i ≤ n) (hn : n ≤ 200) (h1 : f_X4_nextToken N lets (nI n) (nI a) s0 t0 v0 = some (nI a', nI st', -nI 2, vC)) : b_X4_readInto_1 N lets (nI n) (nI i) (nI a) s0 t0 v0 onT stT gp gs gc gm gd go gt = some (.inr (.inr (nI i, nI a', nI st', -nI 2, vC, onT, stT, gp, gs, gc, gm, gd, go, gt))) := by
  unfold b_X4_readInto_1
  rw [if_neg (nI_nlt hi (by omega)), h1, Option.bind_some]
  dsimp only
  rw [if_pos (by rfl)]
theorem item_other {a : Nat} {s0 tC v0 : Int32} (h1 : ¬ tC = 109) (h2 : ¬ tC = 111) (h3 : ¬ tC = 112) (h4 : ¬ tC = 115) : f_X4_readItem N lets (nI n) (nI a) s0 tC v0 onT stT gp gs gc gm gd go gt = some (0, nI a, s0, tC, v0, onT, stT, gp, gs, gc, gm, gd, go, gt) := by
  unfold f_X4_readItem
  rw [if_neg h1, if_neg h2, if_neg h3, if_neg h4]
  split
  · rfl
  · split
    · rfl
    · split <;> rfl
/-- how the reading ends: with a fault at the same place, or with the same items and drafts -/
def OUT (tc : (Int32 × Int32 × Int32 × Int32 × Int32 × Int32 × Int32 × FN × FN × Int32 × FN × Int32 × Int32) ⊕ (Int32 × Int32 × Int32 × Int32 × Int32 × Int32 × Int32 × Int32 × FN × FN × Int32 × FN × Int32 × Int32)) (tr : Int32 × Int32 × Int32 × Int32 × Int32 × Int32 × FN × FN × FN × FN × Int32) : Prop :=
  (∃ x f, f ≤ 200 ∧ tc = .inl x ∧ x.2.1 = nI f ∧ tr.2.2.2.2.2.1 = nI f) ∨ (∃ x i p m on st b1 b2, i ≤ 200 ∧ tc = .inr x ∧ x.1 = nI i ∧ tr.1 = nI i ∧ tr.2.2.2.2.2.1 = -nI 1 ∧ DF p m on st b1 b2 x.2.2.2.2.2.2.2.1 x.2.2.2.2.2.2.2.2.1 x.2.2.2.2.2.2.2.2.2.1 x.2.2.2.2.2.2.2.2.2.2.1 x.2.2.2.2.2.2.2.2.2.2.2.1 x.2.2.2.2.2.2.2.2.2.2.2.2.1 x.2.2.2.2.2.2.2.2.2.2.2.2.2 x.2.2.2.2.2.1 x.2.2.2.2.2.2.1 tr.2.2.2.2.2.2.1 tr.2.2.2.2.2.2.2.1 tr.2.2.2.2.2.2.2.2.1 tr.2.2.2.2.2.2.2.2.2.1 tr.2.2.2.2.2.2.2.2.2.2)
end RD

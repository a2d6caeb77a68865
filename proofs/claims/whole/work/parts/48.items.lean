/-! ===== pure side: items of the text, on both sides ===== -/
section IT
variable {N : Nat} {n : Nat} {C : Nat → Nat} {lets text : FN}
theorem takes_no {nx tk pc vl : Int32} : f_X7_takes N 0 text (nI n) nx tk pc vl (-nI 1) = some (nI 0, nx, tk, pc, vl, pc) := by
  unfold f_X7_takes f_X7_isWell
  rw [if_neg (by decide), Option.bind_some, if_neg (by decide), if_pos (by rfl)]; rfl
theorem takes_fault {nx tk pc vl b : Int32} {f : Nat} (hf : f < 2 ^ 31) : f_X7_takes N b text (nI n) nx tk pc vl (nI f) = some (nI 0, nx, tk, pc, vl, nI f) := by
  unfold f_X7_takes f_X7_isWell
  rw [if_pos (nI_pos' hf), Option.bind_some, if_pos (by rfl)]; rfl
theorem takes_yes {a' : Nat} {nx2 tk2 pc2 vl2 : Int32} {tk pc vl : Int32} (h : f_X7_advances N text (nI n) (nI a') tk pc vl = some (nx2, tk2, pc2, vl2)) : f_X7_takes N 1 text (nI n) (nI a') tk pc vl (-nI 1) = some (vl, nx2, tk2, pc2, vl2, -nI 1) := by
  unfold f_X7_takes f_X7_isWell
  rw [if_neg (by decide), Option.bind_some, if_neg (by decide), if_neg (by decide), h]; rfl
theorem number_fault {lo hi nx tk pc vl : Int32} {f : Nat} (hf : f < 2 ^ 31) : f_X7_number N lo hi text (nI n) nx tk pc vl (nI f) = some (nI 0, nx, tk, pc, vl, nI f) := by
  unfold f_X7_number
  rw [in_eq, takes_fault hf, takes_fault hf]
  by_cases h : tk = 2
  · rw [if_pos h]
    by_cases h2 : lo ≤ vl ∧ vl ≤ hi
    · rw [if_pos h2]; rfl
    · rw [if_neg h2]; rfl
  · rw [if_neg h]; rfl
/-- a number is wanted -/
theorem number_two (hN : 8000 < N) (tx : TXT n C lets text) {a lo hi : Nat} {nx tk pc vl : Int32} (la : LA N n text a nx tk pc vl) (hlo : lo ≤ 60) (hhi : hi ≤ 60) (s0 t0 v0 : Int32) :
    (∃ st b1 b2 b3, st ≤ 200 ∧ pc = nI st ∧ f_X4_readNumber N (nI lo) (nI hi) lets (nI n) (nI a) s0 t0 v0 = some (nI 0, b1, nI st, b2, b3) ∧ f_X7_number N (nI lo) (nI hi) text (nI n) nx tk pc vl (-nI 1) = some (nI 0, nx, tk, pc, vl, nI st)) ∨
    (∃ v a' b1 b2 nx2 tk2 pc2 vl2, lo ≤ v ∧ v ≤ hi ∧ a < a' ∧ f_X4_readNumber N (nI lo) (nI hi) lets (nI n) (nI a) s0 t0 v0 = some (nI 1, nI a', b1, b2, nI v) ∧ f_X7_number N (nI lo) (nI hi) text (nI n) nx tk pc vl (-nI 1) = some (nI v, nx2, tk2, pc2, vl2, -nI 1) ∧ LA N n text a' nx2 tk2 pc2 vl2) := by
  have hn := tx.1
  obtain ⟨a', st, tC, vC, h1, rfl, rfl, h2, h3, h4, h5⟩ := la.tok hN tx s0 t0 v0
  have hbad : ¬ tC = -nI 1 → ¬ tk = 2 → (∃ st' b1 b2 b3, st' ≤ 200 ∧ nI st = nI st' ∧ f_X4_readNumber N (nI lo) (nI hi) lets (nI n) (nI a) s0 t0 v0 = some (nI 0, b1, nI st', b2, b3) ∧ f_X7_number N (nI lo) (nI hi) text (nI n) (nI a') tk (nI st) vl (-nI 1) = some (nI 0, nI a', tk, nI st, vl, nI st')) := by
    intro c1 c2
    refine ⟨st, nI a', tC, vC, by omega, rfl, ?_, ?_⟩
    · unfold f_X4_readNumber
      rw [h1, Option.bind_some, if_neg (by exact c1)]; rfl
    · unfold f_X7_number
      rw [if_neg (by exact c2), takes_no]; rfl
  rcases h5 with ⟨h6, h7, rfl, rfl⟩ | ⟨h6, v, hv, rfl, rfl, rfl, rfl⟩ | ⟨h6, rfl, rfl⟩ | ⟨h6, c, hc, rfl, rfl, rfl⟩
  · exact Or.inl (hbad (by decide) (by decide))
  · by_cases hr : lo ≤ v ∧ v ≤ hi
    · refine Or.inr ?_
      obtain ⟨nx2, tk2, pc2, vl2, g1, g2⟩ := LA.next (N := N) hN tx (a' := a') h4 (nI 2) (nI st) (nI v)
      refine ⟨v, a', nI st, -nI 1, nx2, tk2, pc2, vl2, hr.1, hr.2, h6, ?_, ?_, g2⟩
      · unfold f_X4_readNumber
        rw [h1, Option.bind_some, if_pos (by rfl)]
        dsimp only
        rw [if_neg (nI_nlt hr.1 (by omega)), if_neg (nI_nlt hr.2 (by omega))]; rfl
      · unfold f_X7_number
        rw [if_pos (by rfl), in_eq, if_pos ⟨nI_le hr.1 (by omega), nI_le hr.2 (by omega)⟩, Option.bind_some, if_neg (by decide), takes_yes g1]; rfl
    · refine Or.inl ⟨st, nI a', -nI 1, nI v, by omega, rfl, ?_, ?_⟩
      · unfold f_X4_readNumber
        rw [h1, Option.bind_some, if_pos (by rfl)]
        dsimp only
        by_cases hl : v < lo
        · rw [if_pos (nI_lt hl (by omega))]; rfl
        · rw [if_neg (nI_nlt (by omega) (by omega)), if_pos (nI_lt (show hi < v by omega) (by omega))]; rfl
      · unfold f_X7_number
        rw [if_pos (by rfl), in_eq, if_neg (by rw [nI_leI (by omega) (by omega), nI_leI (by omega) (by omega)]; exact hr), Option.bind_some, if_pos (by rfl), takes_no]; rfl
  · exact Or.inl (hbad (by decide) (by decide))
  · refine Or.inl (hbad (by rw [nI_ne_neg (by omega) (by omega) (by omega)]; exact fun h => h) ?_)
    split
    · decide
    · split <;> decide
/-- the end of an item is wanted -/
theorem end_two (hN : 8000 < N) (tx : TXT n C lets text) {a : Nat} {nx tk pc vl : Int32} (la : LA N n text a nx tk pc vl) (s0 t0 v0 : Int32) :
    (∃ st b1 b2 b3, st ≤ 200 ∧ pc = nI st ∧ f_X4_readEnd N lets (nI n) (nI a) s0 t0 v0 = some (nI 0, b1, nI st, b2, b3) ∧ ¬ tk = nI 3) ∨
    (∃ a' b1 b2 b3 nx2 tk2 pc2 vl2, a < a' ∧ f_X4_readEnd N lets (nI n) (nI a) s0 t0 v0 = some (nI 1, nI a', b1, b2, b3) ∧ tk = nI 3 ∧ f_X7_takes N 1 text (nI n) nx tk pc vl (-nI 1) = some (vl, nx2, tk2, pc2, vl2, -nI 1) ∧ LA N n text a' nx2 tk2 pc2 vl2) := by
  have hn := tx.1
  obtain ⟨a', st, tC, vC, h1, rfl, rfl, h2, h3, h4, h5⟩ := la.tok hN tx s0 t0 v0
  have hbad : ¬ tC = 59 → ¬ tk = nI 3 → (∃ st' b1 b2 b3, st' ≤ 200 ∧ nI st = nI st' ∧ f_X4_readEnd N lets (nI n) (nI a) s0 t0 v0 = some (nI 0, b1, nI st', b2, b3) ∧ ¬ tk = nI 3) := by
    intro c1 c2
    refine ⟨st, nI a', tC, vC, by omega, rfl, ?_, c2⟩
    unfold f_X4_readEnd
    rw [h1, Option.bind_some, if_neg (by exact c1)]; rfl
  rcases h5 with ⟨h6, h7, rfl, rfl⟩ | ⟨h6, v, hv, rfl, rfl, rfl, rfl⟩ | ⟨h6, rfl, rfl⟩ | ⟨h6, c, hc, rfl, rfl, rfl⟩
  · exact Or.inl (hbad (by decide) (by decide))
  · exact Or.inl (hbad (by decide) (by decide))
  · exact Or.inl (hbad (by decide) (by decide))
  · by_cases h59 : c = 59
    · subst h59
      obtain ⟨nx2, tk2, pc2, vl2, g1, g2⟩ := LA.next (N := N) hN tx (a' := a') h4 (nI 3) (nI st) (nI 59)
      refine Or.inr ⟨a', nI st, nI 59, vC, nx2, tk2, pc2, vl2, h6, ?_, rfl, takes_yes g1, g2⟩
      unfold f_X4_readEnd
      rw [h1, Option.bind_some, if_pos (by rfl)]; rfl
    · refine Or.inl (hbad (by show ¬ nI c = nI 59; rw [nI_eq (by omega) (by omega)]; exact h59) ?_)
      rw [if_neg h59]
      split <;> decide
/-- the draft, on both sides -/
def DF (p m on st b1 b2 : Nat) (gp : Int32) (gs gc : FN) (gm : Int32) (gd : FN) (go gt onT stT : Int32) (many sees cold first : FN) (told : Int32) : Prop :=
  (p ≤ 5 ∧ m ≤ 6 ∧ on ≤ 9 ∧ st ≤ 9 ∧ b1 ≤ 1 ∧ b2 ≤ 1) ∧ (gp = nI p ∧ gm = nI m ∧ go = nI on ∧ gt = nI st ∧ onT = nI b1 ∧ stT = nI b2) ∧ (many 4 = nI p ∧ many 5 = nI m ∧ many 6 = nI on ∧ many 7 = nI st ∧ told = nI (b1 + 2 * b2)) ∧ (∀ j, j < p → ∃ x c, c ≤ 9 ∧ gs j = nI x ∧ sees (5 + j) = nI x ∧ gc j = nI c ∧ cold (5 + j) = nI c) ∧ (∀ j, j < m → ∃ d, d ≤ 60 ∧ gd j = nI d ∧ first (6 + j) = nI d)
variable {p m on st b1 b2 : Nat} {gp gm go gt onT stT told : Int32} {gs gc gd many sees cold first : FN}
/-- what is not of the draft stays -/
def LOW (many sees cold many' sees' cold' : FN) : Prop := (∀ j, j < 4 → many' j = many j) ∧ (∀ j, j < 5 → sees' j = sees j) ∧ (∀ j, j < 5 → cold' j = cold j)
theorem low_rf {many sees cold : FN} : LOW many sees cold many sees cold := ⟨fun _ _ => rfl, fun _ _ => rfl, fun _ _ => rfl⟩
theorem low_tr {many sees cold many' sees' cold' many2 sees2 cold2 : FN} (h : LOW many sees cold many' sees' cold') (h2 : LOW many' sees' cold' many2 sees2 cold2) : LOW many sees cold many2 sees2 cold2 := ⟨fun j hj => (h2.1 j hj).trans (h.1 j hj), fun j hj => (h2.2.1 j hj).trans (h.2.1 j hj), fun j hj => (h2.2.2 j hj).trans (h.2.2 j hj)⟩
theorem low_k {many sees cold : FN} {k : Nat} {x : Int32} (hk : 4 ≤ k) : LOW many sees cold (upd many k x) sees cold := ⟨fun j hj => upd_ne (by omega), fun _ _ => rfl, fun _ _ => rfl⟩
theorem low_p {many sees cold : FN} {k q r : Nat} {x y z : Int32} (hk : 4 ≤ k) (hq : 5 ≤ q) (hr : 5 ≤ r) : LOW many sees cold (upd many k x) (upd sees q y) (upd cold r z) := ⟨fun j hj => upd_ne (by omega), fun j hj => upd_ne (by omega), fun j hj => upd_ne (by omega)⟩
/-- behind an item's letter: what the two sides come to; ok: both read it, and the class stands at a' with its draft; or a fault at the same place -/
def ITM (N n : Nat) (lets text : FN) (a : Nat) (c : Nat) (nx tk pc vl : Int32) (s0 t0 v0 gp : Int32) (gs gc : FN) (gm : Int32) (gd : FN) (go gt onT stT : Int32) (many sees cold first : FN) (told : Int32) : Prop :=
  (∃ st b1 b2 b3 onT' stT' gp' gs' gc' gm' gd' go' gt' nx2 tk2 pc2 vl2 fl many' sees' cold' first' told', st ≤ 200 ∧ f_X4_readItem N lets (nI n) (nI a) s0 (nI c) v0 onT stT gp gs gc gm gd go gt = some (nI 0, b1, nI st, b2, b3, onT', stT', gp', gs', gc', gm', gd', go', gt') ∧ f_X7_readsItem N (nI c) text (nI n) nx tk pc vl (-nI 1) many sees cold first told = some (nx2, tk2, pc2, vl2, fl, many', sees', cold', first', told') ∧ ((fl = nI st ∨ (fl = -nI 1 ∧ ¬ tk2 = nI 3 ∧ pc2 = nI st))) ∧ LOW many sees cold many' sees' cold') ∨
  (∃ p m on st bb1 bb2 a' b1 b2 b3 onT' stT' gp' gs' gc' gm' gd' go' gt' nx2 tk2 pc2 vl2 nx3 tk3 pc3 vl3 many' sees' cold' first' told', a < a' ∧ f_X4_readItem N lets (nI n) (nI a) s0 (nI c) v0 onT stT gp gs gc gm gd go gt = some (nI 1, nI a', b1, b2, b3, onT', stT', gp', gs', gc', gm', gd', go', gt') ∧ f_X7_readsItem N (nI c) text (nI n) nx tk pc vl (-nI 1) many sees cold first told = some (nx2, tk2, pc2, vl2, -nI 1, many', sees', cold', first', told') ∧ tk2 = nI 3 ∧ f_X7_takes N 1 text (nI n) nx2 tk2 pc2 vl2 (-nI 1) = some (vl2, nx3, tk3, pc3, vl3, -nI 1) ∧ LA N n text a' nx3 tk3 pc3 vl3 ∧ DF p m on st bb1 bb2 gp' gs' gc' gm' gd' go' gt' onT' stT' many' sees' cold' first' told' ∧ LOW many sees cold many' sees' cold')
end IT

abbrev WtT : Type := Int32 × FN × FN × FN × FN
def updT (f : Nat → WtT) (k : Nat) (w : WtT) : Nat → WtT := fun j => if j = k then w else f j
/-- a loop: a body that goes on or ends -/
def lp {σ τ : Type} (body : σ → Option (σ ⊕ τ)) : Nat → σ → Option τ
  | 0, _ => none
  | n + 1, s => match body s with
    | none => none
    | some (.inl s') => lp body n s'
    | some (.inr t) => some t
theorem E_lp {σ τ : Type} {body : σ → Option (σ ⊕ τ)} {P : σ → Prop} {K : τ → Prop} (step : ∀ s r, body s = some r → (∀ s', r = .inl s' → P s') → (∀ t, r = .inr t → K t) → P s) : ∀ (N : Nat) (s : σ) (t : τ), lp body N s = some t → K t → P s := by
  intro N
  induction N with
  | zero => intro s t h; simp [lp] at h
  | succ N ih =>
    intro s t h hK
    unfold lp at h
    cases hb : body s with
    | none => rw [hb] at h; cases h
    | some r =>
      rw [hb] at h
      cases r with
      | inl s' => exact step s _ hb (fun s'' e => by cases e; exact ih s' t h hK) (fun t e => by cases e)
      | inr t' =>
        cases h
        exact step s _ hb (fun s'' e => by cases e) (fun t'' e => by cases e; exact hK)
theorem bnd {α β : Type} {o : Option α} {f : α → Option β} {x : β} (h : o.bind f = some x) : ∃ a, o = some a ∧ f a = some x := Option.bind_eq_some_iff.mp h
theorem gd {c : Prop} [Decidable c] {α : Type} {a : Option α} {x : α} (h : (if c then a else none) = some x) : c ∧ a = some x := by
  by_cases hc : c
  · rw [if_pos hc] at h; exact ⟨hc, h⟩
  · rw [if_neg hc] at h; cases h
theorem if_t {c : Prop} [Decidable c] {α : Type} {a b x : α} (hc : c) (h : (if c then a else b) = x) : a = x := by rwa [if_pos hc] at h
theorem if_f {c : Prop} [Decidable c] {α : Type} {a b x : α} (hc : ¬ c) (h : (if c then a else b) = x) : b = x := by rwa [if_neg hc] at h
theorem sum_l {α β γ' : Type} {f : α → γ'} {g : β → γ'} {a : α} {x : γ'} (h : Sum.elim f g (Sum.inl a) = x) : f a = x := h
theorem sum_r {α β γ' : Type} {f : α → γ'} {g : β → γ'} {b : β} {x : γ'} (h : Sum.elim f g (Sum.inr b) = x) : g b = x := h
theorem ne_toInt {x v : Int32} {z : Int} (hz : v.toInt = z) (h : ¬ x = v) : ¬ x.toInt = z := fun e => h (Int32.toInt_inj.mp (e.trans hz.symm))
theorem ix_lt {i : Int32} {n : Nat} (h : ix i n = true) : ci i < n := by
  simp only [ix, Bool.and_eq_true, decide_eq_true_eq] at h
  exact h.2
def dpB (γ : GX) (k : Nat) (c_posts : Int32) (c_sees : FN) (c_cold : FN) (c_men : Int32) (c_debts : FN) (c_on : Int32) (c_stove : Int32) : List va_E := [.inr (0, [.int c_posts, .ref (gB γ + (k + 1)), .ref (gB γ + (k + 2)), .int c_men, .ref (gB γ + (k + 3)), .int c_on, .int c_stove]), IA γ 5 c_sees, IA γ 5 c_cold, IA γ 6 c_debts]
def fiB (γ : GX) (k : Nat) (c_size : Int32) (c_men : FN) (c_hours : FN) (c_asleep : FN) : List va_E := [.inr (1, [.int c_size, .ref (gB γ + (k + 1)), .ref (gB γ + (k + 2)), .ref (gB γ + (k + 3))]), IA γ 6 c_men, IA γ 6 c_hours, IA γ 6 c_asleep]
def plB (γ : GX) (k : Nat) (c_least : Int32) (c_chosen : FN) (c_trial : FN) (c_debtThen : FN) : List va_E := [.inr (3, [.int c_least, .ref (gB γ + (k + 1)), .ref (gB γ + (k + 2)), .ref (gB γ + (k + 3))]), IA γ 5 c_chosen, IA γ 5 c_trial, IA γ 30 c_debtThen]
def txB (γ : GX) (k : Nat) (c_letters : FN) (c_length : Int32) (c_at : Int32) (c_start : Int32) (c_token : Int32) (c_value : Int32) (c_onTold : Int32) (c_stoveTold : Int32) : List va_E := [.inr (4, [.ref (gB γ + (k + 1)), .int c_length, .int c_at, .int c_start, .int c_token, .int c_value, .int c_onTold, .int c_stoveTold]), IA γ 200 c_letters]
def wtB (γ : GX) (k : Nat) (c_hour : Int32) (c_debts : FN) (c_guards : FN) (c_stood : FN) (c_served : FN) : List va_E := [.inr (5, [.int c_hour, .ref (gB γ + (k + 1)), .ref (gB γ + (k + 2)), .ref (gB γ + (k + 3)), .ref (gB γ + (k + 4))]), IA γ 6 c_debts, IA γ 5 c_guards, IA γ 5 c_stood, IA γ 30 c_served]
def mdB (γ : GX) (k : Nat) (c_thrown : Int32) (c_trace : Int64) (c_text : FN) (c_typed : Int32) (c_next : Int32) (c_token : Int32) (c_place : Int32) (c_value : Int32) (c_fault : Int32) (c_many : FN) (c_sees : FN) (c_cold : FN) (c_first : FN) (c_told : Int32) (c_s : FN) (c_w : FN) (c_kept : FN) (c_isKept : FN) (c_undos : FN) (c_undoMany : Int32) (c_foundMan : FN) (c_foundHours : FN) (c_foundIs : FN) (c_foundMany : Int32) (c_row : FN) (c_best : FN) : List va_E := [.inr (7, [.int c_thrown, .long c_trace, .ref (gB γ + (k + 1)), .int c_typed, .int c_next, .int c_token, .int c_place, .int c_value, .int c_fault, .ref (gB γ + (k + 2)), .ref (gB γ + (k + 3)), .ref (gB γ + (k + 4)), .ref (gB γ + (k + 5)), .int c_told, .ref (gB γ + (k + 6)), .ref (gB γ + (k + 7)), .ref (gB γ + (k + 8)), .ref (gB γ + (k + 9)), .ref (gB γ + (k + 10)), .int c_undoMany, .ref (gB γ + (k + 11)), .ref (gB γ + (k + 12)), .ref (gB γ + (k + 13)), .int c_foundMany, .ref (gB γ + (k + 14)), .ref (gB γ + (k + 15))]), IA γ 200 c_text, IA γ 8 c_many, IA γ 10 c_sees, IA γ 10 c_cold, IA γ 12 c_first, IA γ 48 c_s, IA γ 48 c_w, IA γ 96 c_kept, ZA γ 2 c_isKept, IA γ 480 c_undos, IA γ 6 c_foundMan, IA γ 6 c_foundHours, IA γ 6 c_foundIs, IA γ 5 c_row, IA γ 5 c_best]
def poB (γ : GX) (_ : Nat) (track : Int64) : List va_E := [.inr (6, [.ref (gB γ + 1), .ref (gB γ + 3), .ref (gB γ + 7), .ref (gB γ + 11), .ref (gB γ + 16), .ref (gB γ + 21), .ref (gB γ + 73), .ref (gB γ + 74), .ref (gB γ + 75), .ref (gB γ + 79), .long track])]
def paB (γ : GX) (k : Nat) (next known : Int32) : List va_E := [.inr (2, [.ref (gB γ + (k + 1)), .int next, .int known]), WA γ 10 (fun j => some (gB γ + (23 + 5 * j)))]
def imB (γ : GX) (_ : Nat) : List va_E := [WA γ 2 (fun j => some (gB γ + (83 + 5 * j)))]
def kpB (γ : GX) (_ : Nat) (kept : FN) : List va_E := [ZA γ 2 kept]
def famB (γ : GX) (k : Nat) (w : Nat → WtT) : Nat → List va_E
  | 0 => []
  | c + 1 => famB γ k w c ++ wtB γ (k + 5 * c) (w c).1 (w c).2.1 (w c).2.2.1 (w c).2.2.2.1 (w c).2.2.2.2
def pwB (γ : GX) (k : Nat) (pw : Nat → WtT) : List va_E := famB γ k pw 10
def iwB (γ : GX) (k : Nat) (iw : Nat → WtT) : List va_E := famB γ k iw 2
theorem fam_len (γ : GX) (k : Nat) (w : Nat → WtT) : ∀ c, (famB γ k w c).length = 5 * c
  | 0 => rfl
  | c + 1 => by
    have : (wtB γ (k + 5 * c) (w c).1 (w c).2.1 (w c).2.2.1 (w c).2.2.2.1 (w c).2.2.2.2).length = 5 := rfl
    rw [famB, List.length_append, fam_len γ k w c, this]
    omega
theorem fam_get (γ : GX) (k : Nat) (w : Nat → WtT) (j : Nat) (hj : j < 5) : ∀ c i, i < c → (famB γ k w c)[5 * i + j]? = (wtB γ (k + 5 * i) (w i).1 (w i).2.1 (w i).2.2.1 (w i).2.2.2.1 (w i).2.2.2.2)[j]?
  | 0, i, h => by omega
  | c + 1, i, h => by
    by_cases hi : i = c
    · subst hi
      rw [famB, List.getElem?_append_right (by rw [fam_len]; omega), fam_len]
      congr 1
      omega
    · rw [famB, List.getElem?_append_left (by rw [fam_len]; omega)]
      exact fam_get γ k w j hj c i (by omega)
theorem famHas {γ : GX} {n k c i : Nat} {w : Nat → WtT} {h : HP} (hh : Has n k (famB γ k w c) h) (hi : i < c) : Has n (k + 5 * i) (wtB γ (k + 5 * i) (w i).1 (w i).2.1 (w i).2.2.1 (w i).2.2.2.1 (w i).2.2.2.2) h := by
  have hl : (wtB γ (k + 5 * i) (w i).1 (w i).2.1 (w i).2.2.1 (w i).2.2.2.1 (w i).2.2.2.2).length = 5 := rfl
  refine ⟨?_, fun j e he => ?_⟩
  · have h1 := hh.1
    rw [fam_len] at h1
    rw [hl]
    omega
  · have hj : j < 5 := by rw [← hl]; exact (List.getElem?_eq_some_iff.mp he).1
    rw [← fam_get γ k w j hj c i hi] at he
    rw [Nat.add_assoc]
    exact hh.2 _ e he
theorem famPut {γ : GX} {k c i : Nat} {w : Nat → WtT} {h : HP} {v : WtT} (hi : i < c) : put (k + 5 * i) (wtB γ (k + 5 * i) v.1 v.2.1 v.2.2.1 v.2.2.2.1 v.2.2.2.2) (put k (famB γ k w c) h) = put k (famB γ k (updT w i v) c) h := by
  have hl : (wtB γ (k + 5 * i) v.1 v.2.1 v.2.2.1 v.2.2.2.1 v.2.2.2.2).length = 5 := rfl
  funext x
  by_cases h1 : x < k ∨ k + 5 * c ≤ x
  · rw [put_out (by rw [hl]; omega), put_out (by rw [fam_len]; exact h1), put_out (by rw [fam_len]; exact h1)]
  · obtain ⟨y, rfl⟩ : ∃ y, x = k + y := ⟨x - k, by omega⟩
    obtain ⟨i', j, hj, rfl⟩ : ∃ i' j, j < 5 ∧ y = 5 * i' + j := ⟨y / 5, y % 5, Nat.mod_lt _ (by omega), by omega⟩
    have hi' : i' < c := by omega
    have hex : ∃ e, (wtB γ (k + 5 * i') (updT w i v i').1 (updT w i v i').2.1 (updT w i v i').2.2.1 (updT w i v i').2.2.2.1 (updT w i v i').2.2.2.2)[j]? = some e := ⟨_, List.getElem?_eq_getElem (by show j < 5; exact hj)⟩
    obtain ⟨e, he⟩ := hex
    rw [put_at (k := k) (i := 5 * i' + j) ((fam_get γ k (updT w i v) j hj c i' hi').trans he)]
    by_cases hii : i' = i
    · subst hii
      simp only [updT, if_pos] at he
      rw [show k + (5 * i' + j) = (k + 5 * i') + j by omega]
      exact put_at he
    · rw [put_out (by rw [hl]; omega)]
      simp only [updT, if_neg hii] at he
      exact put_at ((fam_get γ k w j hj c i' hi').trans he)
theorem fam_has {γ : GX} {n i : Nat} {w : Nat → WtT} {h : HP} (hh : Has n 23 (pwB γ 23 w) h) (hi : i < 10) : Has n (23 + 5 * i) (wtB γ (23 + 5 * i) (w i).1 (w i).2.1 (w i).2.2.1 (w i).2.2.2.1 (w i).2.2.2.2) h := famHas hh hi
theorem fam_has2 {γ : GX} {n i : Nat} {w : Nat → WtT} {h : HP} (hh : Has n 83 (iwB γ 83 w) h) (hi : i < 2) : Has n (83 + 5 * i) (wtB γ (83 + 5 * i) (w i).1 (w i).2.1 (w i).2.2.1 (w i).2.2.2.1 (w i).2.2.2.2) h := famHas hh hi
theorem fam_put {γ : GX} {i : Nat} {w : Nat → WtT} {h : HP} {a : Int32} {b c d e : FN} (hi : i < 10) : put (23 + 5 * i) (wtB γ (23 + 5 * i) a b c d e) (put 23 (pwB γ 23 w) h) = put 23 (pwB γ 23 (updT w i (a, b, c, d, e))) h := famPut (v := (a, b, c, d, e)) hi
theorem fam_put2 {γ : GX} {i : Nat} {w : Nat → WtT} {h : HP} {a : Int32} {b c d e : FN} (hi : i < 2) : put (83 + 5 * i) (wtB γ (83 + 5 * i) a b c d e) (put 83 (iwB γ 83 w) h) = put 83 (iwB γ 83 (updT w i (a, b, c, d, e))) h := famPut (v := (a, b, c, d, e)) hi
theorem E_ldcw {γ : GX} {μ : MI} {u : Nat × Nat} {n : Nat} {h : HP} {lv : List (Nat × Value)} {pc q : Nat} {rest : List Value} {Ψ : PS} {idx : Nat} {x : Int32} (hd : decode (mC μ) pc = .ok (.ldc_w idx, 3)) (hq : pc + 3 = q) (hw : Cond.constant (mY μ).cls idx x ∈ lw_good) (k : Ev γ μ u n h lv q (.int x :: rest) Ψ) : Ev γ μ u n h lv pc rest Ψ := by
  subst hq
  intro p e R s m args below meth c Q H locs ls C z P S L r
  exact lv_ldcw C.1 C.2.1 C.2.2.2.1 (C.2.2.2.2.1 _ hw) hd (k p e R s m args below meth c Q H locs ls C z P S L r)
theorem ckX0 : CKx 0 RX0 TX0 7 tyX0 := ⟨rfl, lg_all _ [137, 139, 141, 143, 145, 147, 149] (by decide +kernel) (by decide +kernel), tyX0_ok, nmX0⟩
theorem ckX1 : CKx 1 RX1 TX1 4 tyX1 := ⟨rfl, lg_all _ [215, 217, 219, 221] (by decide +kernel) (by decide +kernel), tyX1_ok, nmX1⟩
theorem ckX2 : CKx 2 RX2 TX2 3 tyX2 := ⟨rfl, lg_all _ [197, 199, 201] (by decide +kernel) (by decide +kernel), tyX2_ok, nmX2⟩
theorem ckX3 : CKx 3 RX3 TX3 4 tyX3 := ⟨rfl, lg_all _ [237, 239, 241, 243] (by decide +kernel) (by decide +kernel), tyX3_ok, nmX3⟩
theorem ckX4 : CKx 4 RX4 TX4 8 tyX4 := ⟨rfl, lg_all _ [85, 87, 89, 91, 93, 95, 97, 99] (by decide +kernel) (by decide +kernel), tyX4_ok, nmX4⟩
theorem ckX5 : CKx 5 RX5 TX5 5 tyX5 := ⟨rfl, lg_all _ [173, 175, 177, 179, 181] (by decide +kernel) (by decide +kernel), tyX5_ok, nmX5⟩
theorem ckX6 : CKx 6 RX6 TX6 11 tyX6 := ⟨rfl, lg_all _ [257, 259, 261, 263, 265, 267, 269, 271, 273, 275, 277] (by decide +kernel) (by decide +kernel), tyX6_ok, nmX6⟩
theorem ckX7 : CKx 7 RX7 TX7 26 tyX7 := ⟨rfl, lg_all _ [704, 706, 708, 710, 712, 714, 716, 718, 720, 722, 724, 726, 728, 730, 732, 734, 736, 738, 740, 742, 744, 746, 748, 750, 752, 754] (by decide +kernel) (by decide +kernel), tyX7_ok, nmX7⟩

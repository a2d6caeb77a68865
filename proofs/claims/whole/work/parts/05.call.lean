/-! ===== calls ===== -/
/-- what the tables say of a method: its class is initialised, its code; np: how many parameters -/
def LkM (μ : MI) (np : Nat) : Prop := Cond.initialized (mY μ).cls ∈ lw_good ∧ Cond.code (mY μ) (mC μ) (mL μ) (mR μ) ∈ lw_good ∧ ((mY μ).cls ≠ "java/lang/invoke/MethodHandle" ∧ (mY μ).cls ≠ "java/lang/invoke/VarHandle" ∧ (parseMethodDescriptor (mY μ).desc).map (fun d => d.parameters.length) = some np) ∧ mL μ ≤ 21
def LkV (own : String) (idx : Nat) (μ : MI) : Prop := Cond.methodLink own idx (mY μ) ∈ lw_good ∧ Cond.instanceMethod (mY μ) ∈ lw_good ∧ Cond.selects (mY μ).cls (mY μ) (mY μ) ∈ lw_good
def LkS (own : String) (idx : Nat) (μ : MI) : Prop := Cond.methodLink own idx (mY μ) ∈ lw_good ∧ Cond.static (mY μ) ∈ lw_good
def LkI (own : String) (idx : Nat) (μ : MI) : Prop := Cond.methodLink own idx (mY μ) ∈ lw_good ∧ Cond.instanceMethod (mY μ) ∈ lw_good ∧ (mY μ).name = "<init>"
def LkN (own : String) (idx : Nat) (host : String) (μ : MI) : Prop := Cond.methodLinkNest own idx (mY μ) host ∈ lw_good ∧ Cond.instanceMethod (mY μ) ∈ lw_good ∧ (mY μ).name = "<init>"
section EC
variable {γ : GX} {μ μ' : MI} {u : Nat × Nat} {n : Nat} {h h' : HP} {lv : List (Nat × Value)} {pc q : Nat} {st rest as : List Value} {Ψ Φ : PS}
theorem lg_code (hm : LkM μ' n) : GoodIn lw_good (.code (mY μ') (mC μ') (mL μ') (mR μ') :: lw_good) := by
  intro w hw
  rcases List.mem_cons.mp hw with rfl | hw
  · exact ⟨hm.2.1, good_of_word (List.mem_filter.mp hm.2.1).2⟩
  · exact ⟨hw, good_of_word (List.mem_filter.mp hw).2⟩
theorem ev_back {p : Program} {e : Env} {R : Room} {s : State} {m : MethodId} {args : Array Value} {below : List Frame} {meth : Method} {c : Code} {H : Heap} {locs : List Loc} {ls : Array Slot} {Q : State → Prop} {mc ms : Nat}
    (hr : va_Run p (gL γ) e R s m args below meth c H locs u.1 u.2 mc ms (F0 m pc ls st) rest (fun st oc t => (∃ (v : Option Value) (n' : Nat) (h' : HP), oc = .returned v ∧ Φ v n' h' ∧ va_P (gD γ) vwCl (wl (gB γ) n' h') t.heap) ∧ va_F (fun q => gB γ ≤ q) st t) (fun q => gB γ ≤ q))
    (S : va_S (fun q => gB γ ≤ q) s.heap H locs)
    (kk : ∀ (v : Option Value) (n' : Nat) (h' : HP) (H' : Heap) (locs' : List Loc), Φ v n' h' → va_P (gD γ) vwCl (wl (gB γ) n' h') H' → va_S (fun q => gB γ ≤ q) s.heap H' locs' → W p (gL γ) e R s m args below meth c H' locs' (u.1 + mc) (u.2 + ms) Q (F0 m (pc + 3) ls (v.toList ++ rest))) :
    W p (gL γ) e R s m args below meth c H locs u.1 u.2 Q (F0 m pc ls st) := by
  intro T hT X
  obtain ⟨v, st₀, t, T', L, h0, X', hL, e1, e2, ⟨⟨v', n', h', hv, hp, hb⟩, hz, hk⟩, go⟩ := hr T hT X
  cases hv
  rw [h0] at hz hk
  obtain ⟨t2, a1, b1⟩ := kk v n' h' T'.heap (locs ++ L) hp (by rw [e1]; exact hb) ⟨Nat.le_trans S.1 (by rw [e1]; exact hz), fun q h1 h2 => by rw [e1, hk q (Nat.lt_of_lt_of_le h1 S.1) h2]; exact S.2.1 q h1 h2, fun q hq => by
      rcases List.mem_append.mp hq with h | h
      · exact S.2.2 q h
      · exact hL q h⟩ T' rfl X'
  exact ⟨t2, go t2 a1, b1⟩
theorem pc_blind {B : State → Prop} (hB : ∀ (U V : State), U.heap = V.heap → U.vm = V.vm → B U → B V) {av : List Value} : FrameBlind (va_Pc av B) := fun a U g mk q => ⟨q.1, hB U _ rfl rfl q.2⟩
theorem ct_blind {av : List Value} : FrameBlind (va_Pc av (fun U => U.heap.size = gB γ + n ∧ va_P (gD γ) vwCl (wl (gB γ) n h) U.heap ∧ va_K (gD γ) vwCl (gT γ) U)) := by
  intro a U g mk q
  obtain ⟨q1, q2, q3, q4⟩ := q
  exact ⟨q1, q2, q3, va_K.moved (u := U) (U := U.calling g mk a) (Vm.Alike.refl U.vm) q4⟩
theorem E_callV {k idx c0 np : Nat} {fs : List Value} {T : u_T} {N : Nat} {ty : Nat → FieldType} (hd : decode (mC μ) pc = .ok (.invokevirtual idx, 3)) (hq : pc + 3 = q) (hm : LkM μ' np) (hl : LkV (mY μ).cls idx μ') (hdp : mD μ' + 1 ≤ mD μ) (ck : CKx c0 (mY μ').cls T N ty) (hcell : h k = .inr (c0, fs)) (hk : k < n) (hu : u.1 + mK μ' ≤ mK μ ∧ u.2 + mS μ' ≤ mS μ) (hr : (rest.map fun v => v.category).sum ≤ 8) (hst : st = as.reverse ++ .ref (gB γ + k) :: rest) (hnp : as.length = np)
    (hc : Ct γ μ' n h (.ref (gB γ + k) :: as) Φ) (hn : ∀ v n' h', Φ v n' h' → n' = n + mK μ') (kk : ∀ v n' h', Φ v n' h' → Ev γ μ (u.1 + mK μ', u.2 + mS μ') n' h' lv q (v.toList ++ rest) Ψ) : Ev γ μ u n h lv pc st Ψ := by
  subst hq
  intro p e R s m args below meth c Q H locs ls C z P S L r
  have hK := C.2.2.2.2.2.2.2.2.2.1
  refine W_size fun hsz => ?_
  have hsz := sz_eq P S z hsz
  have hfr := C.2.2.2.2.2.2.2.1
  have hlo := C.2.2.2.2.2.2.2.2.1
  have hmL := hm.2.2.2
  have hw := C.2.2.2.2.1
  refine ev_back (mc := mK μ') (ms := mS μ') (va_runV ⟨C.1, C.2.1, C.2.2.1, C.2.2.2.1, hw⟩ hc (n := np) (C := (mY μ').cls) ⟨callB_of np hw (lg_code hm) rfl rfl rfl (hw _ hm.1) (hw _ hl.1) hm.2.2.1 ⟨by show mD μ' + 1 ≤ R.frames; omega, by show 8 + (mL μ' + 11) + (40 * mD μ' + 60) ≤ R.locals; omega⟩, hw _ hl.2.1, hw _ hl.2.2⟩ ⟨ct_blind, va_recv hK P ck.1 (by rw [wl_get hk, hcell]), fun U hU hW => ⟨rfl, by rw [hU]; exact hsz, by rw [hU]; exact P, va_K.moved hW.alike hK⟩⟩ rfl hnp L.1 hst (lv_room hr) hd ⟨Nat.le_trans hu.1 C.2.2.2.2.2.2.2.2.2.2.2.1, Nat.le_trans hu.2 C.2.2.2.2.2.2.2.2.2.2.2.2⟩) S ?_
  intro v n' h' H' locs' hp P' S'
  have hz := z.1
  have hn' := hn v n' h' hp
  exact kk v n' h' hp p e R s m args below meth c Q H' locs' ls C ⟨by show s.heap.size + (u.1 + mK μ') = _; omega, z.2.1, hu.1, hu.2⟩ P' S' L r
theorem E_callS {idx np : Nat} (hd : decode (mC μ) pc = .ok (.invokestatic idx, 3)) (hq : pc + 3 = q) (hm : LkM μ' np) (hl : LkS (mY μ).cls idx μ') (hdp : mD μ' + 1 ≤ mD μ) (hu : u.1 + mK μ' ≤ mK μ ∧ u.2 + mS μ' ≤ mS μ) (hr : (rest.map fun v => v.category).sum ≤ 8) (hst : st = as.reverse ++ rest) (hnp : as.length = np)
    (hc : Ct γ μ' n h as Φ) (hn : ∀ v n' h', Φ v n' h' → n' = n + mK μ') (kk : ∀ v n' h', Φ v n' h' → Ev γ μ (u.1 + mK μ', u.2 + mS μ') n' h' lv q (v.toList ++ rest) Ψ) : Ev γ μ u n h lv pc st Ψ := by
  subst hq
  intro p e R s m args below meth c Q H locs ls C z P S L r
  have hK := C.2.2.2.2.2.2.2.2.2.1
  refine W_size fun hsz => ?_
  have hsz := sz_eq P S z hsz
  have hfr := C.2.2.2.2.2.2.2.1
  have hlo := C.2.2.2.2.2.2.2.2.1
  have hmL := hm.2.2.2
  have hw := C.2.2.2.2.1
  refine ev_back (mc := mK μ') (ms := mS μ') (va_runS ⟨C.1, C.2.1, C.2.2.1, C.2.2.2.1, hw⟩ hc (n := np) ⟨callB_of np hw (lg_code hm) rfl rfl rfl (hw _ hm.1) (hw _ hl.1) hm.2.2.1 ⟨by show mD μ' + 1 ≤ R.frames; omega, by show 8 + (mL μ' + 11) + (40 * mD μ' + 60) ≤ R.locals; omega⟩, hw _ hl.2⟩ ⟨ct_blind, fun U hU hW => ⟨rfl, by rw [hU]; exact hsz, by rw [hU]; exact P, va_K.moved hW.alike hK⟩⟩ rfl hnp L.1 hst (lv_room hr) hd ⟨Nat.le_trans hu.1 C.2.2.2.2.2.2.2.2.2.2.2.1, Nat.le_trans hu.2 C.2.2.2.2.2.2.2.2.2.2.2.2⟩) S ?_
  intro v n' h' H' locs' hp P' S'
  have hz := z.1
  have hn' := hn v n' h' hp
  exact kk v n' h' hp p e R s m args below meth c Q H' locs' ls C ⟨by show s.heap.size + (u.1 + mK μ') = _; omega, z.2.1, hu.1, hu.2⟩ P' S' L r
theorem E_callI {a idx np : Nat} (hd : decode (mC μ) pc = .ok (.invokespecial idx, 3)) (hq : pc + 3 = q) (hm : LkM μ' np) (hl : LkI (mY μ).cls idx μ') (hrt : mR μ' = none) (hdp : mD μ' + 1 ≤ mD μ) (hu : u.1 + mK μ' ≤ mK μ ∧ u.2 + mS μ' ≤ mS μ) (hr : (rest.map fun v => v.category).sum ≤ 8) (hst : st = as.reverse ++ .ref a :: rest) (hnp : as.length = np)
    (hc : Ct γ μ' n h (.ref a :: as) Φ) (hn : ∀ v n' h', Φ v n' h' → n' = n + mK μ') (kk : ∀ v n' h', Φ v n' h' → Ev γ μ (u.1 + mK μ', u.2 + mS μ') n' h' lv q (v.toList ++ rest) Ψ) : Ev γ μ u n h lv pc st Ψ := by
  subst hq
  intro p e R s m args below meth c Q H locs ls C z P S L r
  have hK := C.2.2.2.2.2.2.2.2.2.1
  refine W_size fun hsz => ?_
  have hsz := sz_eq P S z hsz
  have hfr := C.2.2.2.2.2.2.2.1
  have hlo := C.2.2.2.2.2.2.2.2.1
  have hmL := hm.2.2.2
  have hw := C.2.2.2.2.1
  refine ev_back (mc := mK μ') (ms := mS μ') (va_runI (bytes := mC μ') (maxL := mL μ') ⟨C.1, C.2.1, C.2.2.1, C.2.2.2.1, hw⟩ hc (n := np) ⟨callB_of np hw (lg_code hm) (by rw [hrt]) rfl rfl (hw _ hm.1) (hw _ hl.1) hm.2.2.1 ⟨by show mD μ' + 1 ≤ R.frames; omega, by show 8 + (mL μ' + 11) + (40 * mD μ' + 60) ≤ R.locals; omega⟩, hl.2.2, hw _ hl.2.1⟩ ⟨ct_blind, fun U hU hW => ⟨rfl, by rw [hU]; exact hsz, by rw [hU]; exact P, va_K.moved hW.alike hK⟩⟩ rfl hnp L.1 hst (lv_room hr) hd ⟨Nat.le_trans hu.1 C.2.2.2.2.2.2.2.2.2.2.2.1, Nat.le_trans hu.2 C.2.2.2.2.2.2.2.2.2.2.2.2⟩) S ?_
  intro v n' h' H' locs' hp P' S'
  have hz := z.1
  have hn' := hn v n' h' hp
  exact kk v n' h' hp p e R s m args below meth c Q H' locs' ls C ⟨by show s.heap.size + (u.1 + mK μ') = _; omega, z.2.1, hu.1, hu.2⟩ P' S' L r
theorem E_callN {a idx np : Nat} {host : String} (hd : decode (mC μ) pc = .ok (.invokespecial idx, 3)) (hq : pc + 3 = q) (hm : LkM μ' np) (hl : LkN (mY μ).cls idx host μ') (hrt : mR μ' = none) (hdp : mD μ' + 1 ≤ mD μ) (hu : u.1 + mK μ' ≤ mK μ ∧ u.2 + mS μ' ≤ mS μ) (hr : (rest.map fun v => v.category).sum ≤ 8) (hst : st = as.reverse ++ .ref a :: rest) (hnp : as.length = np)
    (hc : Ct γ μ' n h (.ref a :: as) Φ) (hn : ∀ v n' h', Φ v n' h' → n' = n + mK μ') (kk : ∀ v n' h', Φ v n' h' → Ev γ μ (u.1 + mK μ', u.2 + mS μ') n' h' lv q (v.toList ++ rest) Ψ) : Ev γ μ u n h lv pc st Ψ := by
  subst hq
  intro p e R s m args below meth c Q H locs ls C z P S L r
  have hK := C.2.2.2.2.2.2.2.2.2.1
  refine W_size fun hsz => ?_
  have hsz := sz_eq P S z hsz
  have hfr := C.2.2.2.2.2.2.2.1
  have hlo := C.2.2.2.2.2.2.2.2.1
  have hmL := hm.2.2.2
  have hw := C.2.2.2.2.1
  have hnest : va_Nw (.methodLinkNest (mY μ).cls idx (mY μ') host) s := va_Nw.use rfl (hw _ hl.1)
  refine ev_back (mc := mK μ') (ms := mS μ') (va_runIN (bytes := mC μ') (maxL := mL μ') ⟨C.1, C.2.1, C.2.2.1, C.2.2.2.1, hw⟩ hc (n := np) ⟨va_cnB np hw (lg_code hm) (by rw [hrt]) rfl rfl hnest (hw _ hm.1) hm.2.2.1 ⟨by show mD μ' + 1 ≤ R.frames; omega, by show 8 + (mL μ' + 11) + (40 * mD μ' + 60) ≤ R.locals; omega⟩, hl.2.2, hw _ hl.2.1⟩ ⟨ct_blind, fun U hU hW => ⟨rfl, by rw [hU]; exact hsz, by rw [hU]; exact P, va_K.moved hW.alike hK⟩⟩ rfl hnp L.1 hst (lv_room hr) hd ⟨Nat.le_trans hu.1 C.2.2.2.2.2.2.2.2.2.2.2.1, Nat.le_trans hu.2 C.2.2.2.2.2.2.2.2.2.2.2.2⟩) S ?_
  intro v n' h' H' locs' hp P' S'
  have hz := z.1
  have hn' := hn v n' h' hp
  exact kk v n' h' hp p e R s m args below meth c Q H' locs' ls C ⟨by show s.heap.size + (u.1 + mK μ') = _; omega, z.2.1, hu.1, hu.2⟩ P' S' L r
/-- calls of methods that are functions -/
theorem E_cV {k idx c0 np : Nat} {fs : List Value} {T : u_T} {N n1 : Nat} {ty : Nat → FieldType} {v : Option Value} {u' : Nat × Nat} {st' : List Value} (hd : decode (mC μ) pc = .ok (.invokevirtual idx, 3)) (hq : pc + 3 = q) (hm : LkM μ' np) (hl : LkV (mY μ).cls idx μ') (hdp : mD μ' + 1 ≤ mD μ) (ck : CKx c0 (mY μ').cls T N ty) (hcell : h k = .inr (c0, fs)) (hk : k < n) (hu : u.1 + mK μ' ≤ mK μ ∧ u.2 + mS μ' ≤ mS μ) (hr : (rest.map fun v => v.category).sum ≤ 8) (hst : st = as.reverse ++ .ref (gB γ + k) :: rest) (hnp : as.length = np)
    (hc : Ct γ μ' n h (.ref (gB γ + k) :: as) (Done v n1 h')) (hn : n1 = n + mK μ') (hu' : (u.1 + mK μ', u.2 + mS μ') = u') (hs' : v.toList ++ rest = st') (kk : Ev γ μ u' n1 h' lv q st' Ψ) : Ev γ μ u n h lv pc st Ψ := by
  subst hu'; subst hs'
  refine E_callV hd hq hm hl hdp ck hcell hk hu hr hst hnp hc (fun v n' h' hp => hp.2.1.trans hn) (fun v' n' h' hp => ?_)
  obtain ⟨rfl, rfl, rfl⟩ := hp
  exact kk
theorem E_cS {idx np n1 : Nat} {v : Option Value} {u' : Nat × Nat} {st' : List Value} (hd : decode (mC μ) pc = .ok (.invokestatic idx, 3)) (hq : pc + 3 = q) (hm : LkM μ' np) (hl : LkS (mY μ).cls idx μ') (hdp : mD μ' + 1 ≤ mD μ) (hu : u.1 + mK μ' ≤ mK μ ∧ u.2 + mS μ' ≤ mS μ) (hr : (rest.map fun v => v.category).sum ≤ 8) (hst : st = as.reverse ++ rest) (hnp : as.length = np)
    (hc : Ct γ μ' n h as (Done v n1 h')) (hn : n1 = n + mK μ') (hu' : (u.1 + mK μ', u.2 + mS μ') = u') (hs' : v.toList ++ rest = st') (kk : Ev γ μ u' n1 h' lv q st' Ψ) : Ev γ μ u n h lv pc st Ψ := by
  subst hu'; subst hs'
  refine E_callS hd hq hm hl hdp hu hr hst hnp hc (fun v n' h' hp => hp.2.1.trans hn) (fun v' n' h' hp => ?_)
  obtain ⟨rfl, rfl, rfl⟩ := hp
  exact kk
theorem E_cI {a idx np n1 : Nat} {v : Option Value} {u' : Nat × Nat} {st' : List Value} (hd : decode (mC μ) pc = .ok (.invokespecial idx, 3)) (hq : pc + 3 = q) (hm : LkM μ' np) (hl : LkI (mY μ).cls idx μ') (hrt : mR μ' = none) (hdp : mD μ' + 1 ≤ mD μ) (hu : u.1 + mK μ' ≤ mK μ ∧ u.2 + mS μ' ≤ mS μ) (hr : (rest.map fun v => v.category).sum ≤ 8) (hst : st = as.reverse ++ .ref a :: rest) (hnp : as.length = np)
    (hc : Ct γ μ' n h (.ref a :: as) (Done v n1 h')) (hn : n1 = n + mK μ') (hu' : (u.1 + mK μ', u.2 + mS μ') = u') (hs' : v.toList ++ rest = st') (kk : Ev γ μ u' n1 h' lv q st' Ψ) : Ev γ μ u n h lv pc st Ψ := by
  subst hu'; subst hs'
  refine E_callI hd hq hm hl hrt hdp hu hr hst hnp hc (fun v n' h' hp => hp.2.1.trans hn) (fun v' n' h' hp => ?_)
  obtain ⟨rfl, rfl, rfl⟩ := hp
  exact kk
theorem E_cN {a idx np n1 : Nat} {host : String} {v : Option Value} {u' : Nat × Nat} {st' : List Value} (hd : decode (mC μ) pc = .ok (.invokespecial idx, 3)) (hq : pc + 3 = q) (hm : LkM μ' np) (hl : LkN (mY μ).cls idx host μ') (hrt : mR μ' = none) (hdp : mD μ' + 1 ≤ mD μ) (hu : u.1 + mK μ' ≤ mK μ ∧ u.2 + mS μ' ≤ mS μ) (hr : (rest.map fun v => v.category).sum ≤ 8) (hst : st = as.reverse ++ .ref a :: rest) (hnp : as.length = np)
    (hc : Ct γ μ' n h (.ref a :: as) (Done v n1 h')) (hn : n1 = n + mK μ') (hu' : (u.1 + mK μ', u.2 + mS μ') = u') (hs' : v.toList ++ rest = st') (kk : Ev γ μ u' n1 h' lv q st' Ψ) : Ev γ μ u n h lv pc st Ψ := by
  subst hu'; subst hs'
  refine E_callN hd hq hm hl hrt hdp hu hr hst hnp hc (fun v n' h' hp => hp.2.1.trans hn) (fun v' n' h' hp => ?_)
  obtain ⟨rfl, rfl, rfl⟩ := hp
  exact kk
end EC

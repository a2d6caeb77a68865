/-! ===== the law: a theorem for each of the 30 cases, and the loop ===== -/
def M_law : MI := (yL_law, cL_law, 4, (some .boolean), false, 20, 109, 2030)
abbrev lvL (γ : GX) (bx : BX) (i : Nat) : List (Nat × Value) := [(3, .int (nI i)), (2, .ref (gB γ + 93)), (1, .ref (gB γ + 0)), (0, .ref bx.1)]
theorem lkv_L_13 : LkV RL 13 M_X6_type := ⟨(lg_mem 280 (by decide +kernel) rfl), (lg_mem 281 (by decide +kernel) rfl), (lg_mem 282 (by decide +kernel) rfl)⟩
theorem lkv_L_17 : LkV RL 17 M_X7_type := ⟨(lg_mem 757 (by decide +kernel) rfl), (lg_mem 758 (by decide +kernel) rfl), (lg_mem 759 (by decide +kernel) rfl)⟩
theorem law_type {γ : GX} {bx : BX} {h : HP} {i : Nat} {Ψ : PS} (hi : i + 4 ≤ bx.2.1) (hL : bx.2.1 ≤ 2048) (I : INV γ h) (kk : ∀ h', INV γ h' → El γ bx M_law (109, 2030) 109 h' (lvL γ bx i) 929 [] Ψ) : El γ bx M_law (109, 2030) 109 h (lvL γ bx i) 168 [] Ψ := by
  obtain ⟨N, hN⟩ : ∃ N, 8000 < N := ⟨8001, by omega⟩
  obtain ⟨v, h1, h2, c6, c7, ⟨fs7, hy⟩, I2⟩ := step_type hN I (bx.2.2 (nI i + nI 1).toNatClampNeg)
  obtain ⟨fs6, hx⟩ := inv_x I
  refine L_aload_n 2 dL_law_168 (q := 169) rfl rfl rfl ?_
  refine L_aload_n 3 dL_law_169 (q := 170) rfl rfl rfl ?_
  refine L_iload_n 0 dL_law_170 (q := 171) rfl rfl rfl ?_
  refine L_iconst (x := nI 1) dL_law_171 (q := 172) rfl rfl ?_
  refine L_iadd dL_law_172 (q := 173) rfl ?_
  refine L_sld (vin hi hL (by omega)) dL_law_173 (q := 174) rfl ?_
  refine L_cV (as := [.int (bx.2.2 (nI i + nI 1).toNatClampNeg)]) (k := 0) (rest := []) dL_law_174 (q := 177) rfl lkm_X6_type lkv_L_13 (Nat.le_of_ble_eq_true rfl) ckX6 hx (by omega) ⟨(Nat.le_of_ble_eq_true rfl), (Nat.le_of_ble_eq_true rfl)⟩ (Nat.le_of_ble_eq_true rfl) rfl rfl c6 rfl rfl rfl ?_
  refine L_aload_n 1 dL_law_177 (q := 178) rfl rfl rfl ?_
  refine L_aload_n 3 dL_law_178 (q := 179) rfl rfl rfl ?_
  refine L_iload_n 0 dL_law_179 (q := 180) rfl rfl rfl ?_
  refine L_iconst (x := nI 1) dL_law_180 (q := 181) rfl rfl ?_
  refine L_iadd dL_law_181 (q := 182) rfl ?_
  refine L_sld (vin hi hL (by omega)) dL_law_182 (q := 183) rfl ?_
  refine L_cV (as := [.int (bx.2.2 (nI i + nI 1).toNatClampNeg)]) (k := 93) (rest := [.int v]) dL_law_183 (q := 186) rfl lkm_X7_type lkv_L_17 (Nat.le_of_ble_eq_true rfl) ckX7 hy (by omega) ⟨(Nat.le_of_ble_eq_true rfl), (Nat.le_of_ble_eq_true rfl)⟩ (Nat.le_of_ble_eq_true rfl) rfl rfl c7 rfl rfl rfl ?_
  refine L_icmp_eq (t := 929) dL_law_186 (by decide) (q := 189) rfl (fun _ => kk h2 I2) (fun c => absurd rfl c)
theorem lkv_L_18 : LkV RL 18 M_X6_clear := ⟨(lg_mem 291 (by decide +kernel) rfl), (lg_mem 292 (by decide +kernel) rfl), (lg_mem 293 (by decide +kernel) rfl)⟩
theorem lkv_L_22 : LkV RL 22 M_X7_clear := ⟨(lg_mem 764 (by decide +kernel) rfl), (lg_mem 765 (by decide +kernel) rfl), (lg_mem 766 (by decide +kernel) rfl)⟩
theorem law_clear {γ : GX} {bx : BX} {h : HP} {i : Nat} {Ψ : PS} (hi : i + 4 ≤ bx.2.1) (hL : bx.2.1 ≤ 2048) (I : INV γ h) (kk : ∀ h', INV γ h' → El γ bx M_law (109, 2030) 109 h' (lvL γ bx i) 929 [] Ψ) : El γ bx M_law (109, 2030) 109 h (lvL γ bx i) 191 [] Ψ := by
  obtain ⟨N, hN⟩ : ∃ N, 8000 < N := ⟨8001, by omega⟩
  obtain ⟨v, h1, h2, c6, c7, ⟨fs7, hy⟩, I2⟩ := step_clear hN I 
  obtain ⟨fs6, hx⟩ := inv_x I
  refine L_aload_n 2 dL_law_191 (q := 192) rfl rfl rfl ?_
  refine L_cV (as := []) (k := 0) (rest := []) dL_law_192 (q := 195) rfl lkm_X6_clear lkv_L_18 (Nat.le_of_ble_eq_true rfl) ckX6 hx (by omega) ⟨(Nat.le_of_ble_eq_true rfl), (Nat.le_of_ble_eq_true rfl)⟩ (Nat.le_of_ble_eq_true rfl) rfl rfl c6 rfl rfl rfl ?_
  refine L_aload_n 1 dL_law_195 (q := 196) rfl rfl rfl ?_
  refine L_cV (as := []) (k := 93) (rest := [.int v]) dL_law_196 (q := 199) rfl lkm_X7_clear lkv_L_22 (Nat.le_of_ble_eq_true rfl) ckX7 hy (by omega) ⟨(Nat.le_of_ble_eq_true rfl), (Nat.le_of_ble_eq_true rfl)⟩ (Nat.le_of_ble_eq_true rfl) rfl rfl c7 rfl rfl rfl ?_
  refine L_icmp_eq (t := 929) dL_law_199 (by decide) (q := 202) rfl (fun _ => kk h2 I2) (fun c => absurd rfl c)
theorem lkv_L_23 : LkV RL 23 M_X6_depot := ⟨(lg_mem 295 (by decide +kernel) rfl), (lg_mem 296 (by decide +kernel) rfl), (lg_mem 297 (by decide +kernel) rfl)⟩
theorem lkv_L_26 : LkV RL 26 M_X7_depot := ⟨(lg_mem 768 (by decide +kernel) rfl), (lg_mem 769 (by decide +kernel) rfl), (lg_mem 770 (by decide +kernel) rfl)⟩
theorem law_depot {γ : GX} {bx : BX} {h : HP} {i : Nat} {Ψ : PS} (hi : i + 4 ≤ bx.2.1) (hL : bx.2.1 ≤ 2048) (I : INV γ h) (kk : ∀ h', INV γ h' → El γ bx M_law (109, 2030) 109 h' (lvL γ bx i) 929 [] Ψ) : El γ bx M_law (109, 2030) 109 h (lvL γ bx i) 204 [] Ψ := by
  obtain ⟨N, hN⟩ : ∃ N, 8000 < N := ⟨8001, by omega⟩
  obtain ⟨v, h1, h2, c6, c7, ⟨fs7, hy⟩, I2⟩ := step_depot hN I 
  obtain ⟨fs6, hx⟩ := inv_x I
  refine L_aload_n 2 dL_law_204 (q := 205) rfl rfl rfl ?_
  refine L_cV (as := []) (k := 0) (rest := []) dL_law_205 (q := 208) rfl lkm_X6_depot lkv_L_23 (Nat.le_of_ble_eq_true rfl) ckX6 hx (by omega) ⟨(Nat.le_of_ble_eq_true rfl), (Nat.le_of_ble_eq_true rfl)⟩ (Nat.le_of_ble_eq_true rfl) rfl rfl c6 rfl rfl rfl ?_
  refine L_aload_n 1 dL_law_208 (q := 209) rfl rfl rfl ?_
  refine L_cV (as := []) (k := 93) (rest := [.int v]) dL_law_209 (q := 212) rfl lkm_X7_depot lkv_L_26 (Nat.le_of_ble_eq_true rfl) ckX7 hy (by omega) ⟨(Nat.le_of_ble_eq_true rfl), (Nat.le_of_ble_eq_true rfl)⟩ (Nat.le_of_ble_eq_true rfl) rfl rfl c7 rfl rfl rfl ?_
  refine L_icmp_eq (t := 929) dL_law_212 (by decide) (q := 215) rfl (fun _ => kk h2 I2) (fun c => absurd rfl c)
theorem lkv_L_27 : LkV RL 27 M_X6_post := ⟨(lg_mem 365 (by decide +kernel) rfl), (lg_mem 366 (by decide +kernel) rfl), (lg_mem 367 (by decide +kernel) rfl)⟩
theorem lkv_L_31 : LkV RL 31 M_X7_post := ⟨(lg_mem 804 (by decide +kernel) rfl), (lg_mem 805 (by decide +kernel) rfl), (lg_mem 806 (by decide +kernel) rfl)⟩
theorem law_post {γ : GX} {bx : BX} {h : HP} {i : Nat} {Ψ : PS} (hi : i + 4 ≤ bx.2.1) (hL : bx.2.1 ≤ 2048) (I : INV γ h) (kk : ∀ h', INV γ h' → El γ bx M_law (109, 2030) 109 h' (lvL γ bx i) 929 [] Ψ) : El γ bx M_law (109, 2030) 109 h (lvL γ bx i) 217 [] Ψ := by
  obtain ⟨N, hN⟩ : ∃ N, 8000 < N := ⟨8001, by omega⟩
  obtain ⟨v, h1, h2, c6, c7, ⟨fs7, hy⟩, I2⟩ := step_post hN I (bx.2.2 (nI i + nI 1).toNatClampNeg) (bx.2.2 (nI i + nI 2).toNatClampNeg)
  obtain ⟨fs6, hx⟩ := inv_x I
  refine L_aload_n 2 dL_law_217 (q := 218) rfl rfl rfl ?_
  refine L_aload_n 3 dL_law_218 (q := 219) rfl rfl rfl ?_
  refine L_iload_n 0 dL_law_219 (q := 220) rfl rfl rfl ?_
  refine L_iconst (x := nI 1) dL_law_220 (q := 221) rfl rfl ?_
  refine L_iadd dL_law_221 (q := 222) rfl ?_
  refine L_sld (vin hi hL (by omega)) dL_law_222 (q := 223) rfl ?_
  refine L_aload_n 3 dL_law_223 (q := 224) rfl rfl rfl ?_
  refine L_iload_n 0 dL_law_224 (q := 225) rfl rfl rfl ?_
  refine L_iconst (x := nI 2) dL_law_225 (q := 226) rfl rfl ?_
  refine L_iadd dL_law_226 (q := 227) rfl ?_
  refine L_sld (vin hi hL (by omega)) dL_law_227 (q := 228) rfl ?_
  refine L_cV (as := [.int (bx.2.2 (nI i + nI 1).toNatClampNeg), .int (bx.2.2 (nI i + nI 2).toNatClampNeg)]) (k := 0) (rest := []) dL_law_228 (q := 231) rfl lkm_X6_post lkv_L_27 (Nat.le_of_ble_eq_true rfl) ckX6 hx (by omega) ⟨(Nat.le_of_ble_eq_true rfl), (Nat.le_of_ble_eq_true rfl)⟩ (Nat.le_of_ble_eq_true rfl) rfl rfl c6 rfl rfl rfl ?_
  refine L_aload_n 1 dL_law_231 (q := 232) rfl rfl rfl ?_
  refine L_aload_n 3 dL_law_232 (q := 233) rfl rfl rfl ?_
  refine L_iload_n 0 dL_law_233 (q := 234) rfl rfl rfl ?_
  refine L_iconst (x := nI 1) dL_law_234 (q := 235) rfl rfl ?_
  refine L_iadd dL_law_235 (q := 236) rfl ?_
  refine L_sld (vin hi hL (by omega)) dL_law_236 (q := 237) rfl ?_
  refine L_aload_n 3 dL_law_237 (q := 238) rfl rfl rfl ?_
  refine L_iload_n 0 dL_law_238 (q := 239) rfl rfl rfl ?_
  refine L_iconst (x := nI 2) dL_law_239 (q := 240) rfl rfl ?_
  refine L_iadd dL_law_240 (q := 241) rfl ?_
  refine L_sld (vin hi hL (by omega)) dL_law_241 (q := 242) rfl ?_
  refine L_cV (as := [.int (bx.2.2 (nI i + nI 1).toNatClampNeg), .int (bx.2.2 (nI i + nI 2).toNatClampNeg)]) (k := 93) (rest := [.int v]) dL_law_242 (q := 245) rfl lkm_X7_post lkv_L_31 (Nat.le_of_ble_eq_true rfl) ckX7 hy (by omega) ⟨(Nat.le_of_ble_eq_true rfl), (Nat.le_of_ble_eq_true rfl)⟩ (Nat.le_of_ble_eq_true rfl) rfl rfl c7 rfl rfl rfl ?_
  refine L_icmp_eq (t := 929) dL_law_245 (by decide) (q := 248) rfl (fun _ => kk h2 I2) (fun c => absurd rfl c)
theorem lkv_L_32 : LkV RL 32 M_X6_man := ⟨(lg_mem 381 (by decide +kernel) rfl), (lg_mem 382 (by decide +kernel) rfl), (lg_mem 383 (by decide +kernel) rfl)⟩
theorem lkv_L_35 : LkV RL 35 M_X7_man := ⟨(lg_mem 816 (by decide +kernel) rfl), (lg_mem 817 (by decide +kernel) rfl), (lg_mem 818 (by decide +kernel) rfl)⟩
theorem law_man {γ : GX} {bx : BX} {h : HP} {i : Nat} {Ψ : PS} (hi : i + 4 ≤ bx.2.1) (hL : bx.2.1 ≤ 2048) (I : INV γ h) (kk : ∀ h', INV γ h' → El γ bx M_law (109, 2030) 109 h' (lvL γ bx i) 929 [] Ψ) : El γ bx M_law (109, 2030) 109 h (lvL γ bx i) 250 [] Ψ := by
  obtain ⟨N, hN⟩ : ∃ N, 8000 < N := ⟨8001, by omega⟩
  obtain ⟨v, h1, h2, c6, c7, ⟨fs7, hy⟩, I2⟩ := step_man hN I (bx.2.2 (nI i + nI 1).toNatClampNeg) (bx.2.2 (nI i + nI 2).toNatClampNeg)
  obtain ⟨fs6, hx⟩ := inv_x I
  refine L_aload_n 2 dL_law_250 (q := 251) rfl rfl rfl ?_
  refine L_aload_n 3 dL_law_251 (q := 252) rfl rfl rfl ?_
  refine L_iload_n 0 dL_law_252 (q := 253) rfl rfl rfl ?_
  refine L_iconst (x := nI 1) dL_law_253 (q := 254) rfl rfl ?_
  refine L_iadd dL_law_254 (q := 255) rfl ?_
  refine L_sld (vin hi hL (by omega)) dL_law_255 (q := 256) rfl ?_
  refine L_aload_n 3 dL_law_256 (q := 257) rfl rfl rfl ?_
  refine L_iload_n 0 dL_law_257 (q := 258) rfl rfl rfl ?_
  refine L_iconst (x := nI 2) dL_law_258 (q := 259) rfl rfl ?_
  refine L_iadd dL_law_259 (q := 260) rfl ?_
  refine L_sld (vin hi hL (by omega)) dL_law_260 (q := 261) rfl ?_
  refine L_cV (as := [.int (bx.2.2 (nI i + nI 1).toNatClampNeg), .int (bx.2.2 (nI i + nI 2).toNatClampNeg)]) (k := 0) (rest := []) dL_law_261 (q := 264) rfl lkm_X6_man lkv_L_32 (Nat.le_of_ble_eq_true rfl) ckX6 hx (by omega) ⟨(Nat.le_of_ble_eq_true rfl), (Nat.le_of_ble_eq_true rfl)⟩ (Nat.le_of_ble_eq_true rfl) rfl rfl c6 rfl rfl rfl ?_
  refine L_aload_n 1 dL_law_264 (q := 265) rfl rfl rfl ?_
  refine L_aload_n 3 dL_law_265 (q := 266) rfl rfl rfl ?_
  refine L_iload_n 0 dL_law_266 (q := 267) rfl rfl rfl ?_
  refine L_iconst (x := nI 1) dL_law_267 (q := 268) rfl rfl ?_
  refine L_iadd dL_law_268 (q := 269) rfl ?_
  refine L_sld (vin hi hL (by omega)) dL_law_269 (q := 270) rfl ?_
  refine L_aload_n 3 dL_law_270 (q := 271) rfl rfl rfl ?_
  refine L_iload_n 0 dL_law_271 (q := 272) rfl rfl rfl ?_
  refine L_iconst (x := nI 2) dL_law_272 (q := 273) rfl rfl ?_
  refine L_iadd dL_law_273 (q := 274) rfl ?_
  refine L_sld (vin hi hL (by omega)) dL_law_274 (q := 275) rfl ?_
  refine L_cV (as := [.int (bx.2.2 (nI i + nI 1).toNatClampNeg), .int (bx.2.2 (nI i + nI 2).toNatClampNeg)]) (k := 93) (rest := [.int v]) dL_law_275 (q := 278) rfl lkm_X7_man lkv_L_35 (Nat.le_of_ble_eq_true rfl) ckX7 hy (by omega) ⟨(Nat.le_of_ble_eq_true rfl), (Nat.le_of_ble_eq_true rfl)⟩ (Nat.le_of_ble_eq_true rfl) rfl rfl c7 rfl rfl rfl ?_
  refine L_icmp_eq (t := 929) dL_law_278 (by decide) (q := 281) rfl (fun _ => kk h2 I2) (fun c => absurd rfl c)
theorem lkv_L_36 : LkV RL 36 M_X6_now := ⟨(lg_mem 397 (by decide +kernel) rfl), (lg_mem 398 (by decide +kernel) rfl), (lg_mem 399 (by decide +kernel) rfl)⟩
theorem lkv_L_39 : LkV RL 39 M_X7_now := ⟨(lg_mem 827 (by decide +kernel) rfl), (lg_mem 828 (by decide +kernel) rfl), (lg_mem 829 (by decide +kernel) rfl)⟩
theorem law_now {γ : GX} {bx : BX} {h : HP} {i : Nat} {Ψ : PS} (hi : i + 4 ≤ bx.2.1) (hL : bx.2.1 ≤ 2048) (I : INV γ h) (kk : ∀ h', INV γ h' → El γ bx M_law (109, 2030) 109 h' (lvL γ bx i) 929 [] Ψ) : El γ bx M_law (109, 2030) 109 h (lvL γ bx i) 283 [] Ψ := by
  obtain ⟨N, hN⟩ : ∃ N, 8000 < N := ⟨8001, by omega⟩
  obtain ⟨v, h1, h2, c6, c7, ⟨fs7, hy⟩, I2⟩ := step_now hN I (bx.2.2 (nI i + nI 1).toNatClampNeg)
  obtain ⟨fs6, hx⟩ := inv_x I
  refine L_aload_n 2 dL_law_283 (q := 284) rfl rfl rfl ?_
  refine L_aload_n 3 dL_law_284 (q := 285) rfl rfl rfl ?_
  refine L_iload_n 0 dL_law_285 (q := 286) rfl rfl rfl ?_
  refine L_iconst (x := nI 1) dL_law_286 (q := 287) rfl rfl ?_
  refine L_iadd dL_law_287 (q := 288) rfl ?_
  refine L_sld (vin hi hL (by omega)) dL_law_288 (q := 289) rfl ?_
  refine L_cV (as := [.int (bx.2.2 (nI i + nI 1).toNatClampNeg)]) (k := 0) (rest := []) dL_law_289 (q := 292) rfl lkm_X6_now lkv_L_36 (Nat.le_of_ble_eq_true rfl) ckX6 hx (by omega) ⟨(Nat.le_of_ble_eq_true rfl), (Nat.le_of_ble_eq_true rfl)⟩ (Nat.le_of_ble_eq_true rfl) rfl rfl c6 rfl rfl rfl ?_
  refine L_aload_n 1 dL_law_292 (q := 293) rfl rfl rfl ?_
  refine L_aload_n 3 dL_law_293 (q := 294) rfl rfl rfl ?_
  refine L_iload_n 0 dL_law_294 (q := 295) rfl rfl rfl ?_
  refine L_iconst (x := nI 1) dL_law_295 (q := 296) rfl rfl ?_
  refine L_iadd dL_law_296 (q := 297) rfl ?_
  refine L_sld (vin hi hL (by omega)) dL_law_297 (q := 298) rfl ?_
  refine L_cV (as := [.int (bx.2.2 (nI i + nI 1).toNatClampNeg)]) (k := 93) (rest := [.int v]) dL_law_298 (q := 301) rfl lkm_X7_now lkv_L_39 (Nat.le_of_ble_eq_true rfl) ckX7 hy (by omega) ⟨(Nat.le_of_ble_eq_true rfl), (Nat.le_of_ble_eq_true rfl)⟩ (Nat.le_of_ble_eq_true rfl) rfl rfl c7 rfl rfl rfl ?_
  refine L_icmp_eq (t := 929) dL_law_301 (by decide) (q := 304) rfl (fun _ => kk h2 I2) (fun c => absurd rfl c)
theorem lkv_L_40 : LkV RL 40 M_X6_sends := ⟨(lg_mem 421 (by decide +kernel) rfl), (lg_mem 422 (by decide +kernel) rfl), (lg_mem 423 (by decide +kernel) rfl)⟩
theorem lkv_L_43 : LkV RL 43 M_X7_sends := ⟨(lg_mem 847 (by decide +kernel) rfl), (lg_mem 848 (by decide +kernel) rfl), (lg_mem 849 (by decide +kernel) rfl)⟩
theorem law_sends {γ : GX} {bx : BX} {h : HP} {i : Nat} {Ψ : PS} (hi : i + 4 ≤ bx.2.1) (hL : bx.2.1 ≤ 2048) (I : INV γ h) (kk : ∀ h', INV γ h' → El γ bx M_law (109, 2030) 109 h' (lvL γ bx i) 929 [] Ψ) : El γ bx M_law (109, 2030) 109 h (lvL γ bx i) 306 [] Ψ := by
  obtain ⟨N, hN⟩ : ∃ N, 8000 < N := ⟨8001, by omega⟩
  obtain ⟨v, h1, h2, c6, c7, ⟨fs7, hy⟩, I2⟩ := step_sends hN I (bx.2.2 (nI i + nI 1).toNatClampNeg) (bx.2.2 (nI i + nI 2).toNatClampNeg)
  obtain ⟨fs6, hx⟩ := inv_x I
  refine L_aload_n 2 dL_law_306 (q := 307) rfl rfl rfl ?_
  refine L_aload_n 3 dL_law_307 (q := 308) rfl rfl rfl ?_
  refine L_iload_n 0 dL_law_308 (q := 309) rfl rfl rfl ?_
  refine L_iconst (x := nI 1) dL_law_309 (q := 310) rfl rfl ?_
  refine L_iadd dL_law_310 (q := 311) rfl ?_
  refine L_sld (vin hi hL (by omega)) dL_law_311 (q := 312) rfl ?_
  refine L_aload_n 3 dL_law_312 (q := 313) rfl rfl rfl ?_
  refine L_iload_n 0 dL_law_313 (q := 314) rfl rfl rfl ?_
  refine L_iconst (x := nI 2) dL_law_314 (q := 315) rfl rfl ?_
  refine L_iadd dL_law_315 (q := 316) rfl ?_
  refine L_sld (vin hi hL (by omega)) dL_law_316 (q := 317) rfl ?_
  refine L_cV (as := [.int (bx.2.2 (nI i + nI 1).toNatClampNeg), .int (bx.2.2 (nI i + nI 2).toNatClampNeg)]) (k := 0) (rest := []) dL_law_317 (q := 320) rfl lkm_X6_sends lkv_L_40 (Nat.le_of_ble_eq_true rfl) ckX6 hx (by omega) ⟨(Nat.le_of_ble_eq_true rfl), (Nat.le_of_ble_eq_true rfl)⟩ (Nat.le_of_ble_eq_true rfl) rfl rfl c6 rfl rfl rfl ?_
  refine L_aload_n 1 dL_law_320 (q := 321) rfl rfl rfl ?_
  refine L_aload_n 3 dL_law_321 (q := 322) rfl rfl rfl ?_
  refine L_iload_n 0 dL_law_322 (q := 323) rfl rfl rfl ?_
  refine L_iconst (x := nI 1) dL_law_323 (q := 324) rfl rfl ?_
  refine L_iadd dL_law_324 (q := 325) rfl ?_
  refine L_sld (vin hi hL (by omega)) dL_law_325 (q := 326) rfl ?_
  refine L_aload_n 3 dL_law_326 (q := 327) rfl rfl rfl ?_
  refine L_iload_n 0 dL_law_327 (q := 328) rfl rfl rfl ?_
  refine L_iconst (x := nI 2) dL_law_328 (q := 329) rfl rfl ?_
  refine L_iadd dL_law_329 (q := 330) rfl ?_
  refine L_sld (vin hi hL (by omega)) dL_law_330 (q := 331) rfl ?_
  refine L_cV (as := [.int (bx.2.2 (nI i + nI 1).toNatClampNeg), .int (bx.2.2 (nI i + nI 2).toNatClampNeg)]) (k := 93) (rest := [.int v]) dL_law_331 (q := 334) rfl lkm_X7_sends lkv_L_43 (Nat.le_of_ble_eq_true rfl) ckX7 hy (by omega) ⟨(Nat.le_of_ble_eq_true rfl), (Nat.le_of_ble_eq_true rfl)⟩ (Nat.le_of_ble_eq_true rfl) rfl rfl c7 rfl rfl rfl ?_
  refine L_icmp_eq (t := 929) dL_law_334 (by decide) (q := 337) rfl (fun _ => kk h2 I2) (fun c => absurd rfl c)
theorem lkv_L_44 : LkV RL 44 M_X6_calls := ⟨(lg_mem 444 (by decide +kernel) rfl), (lg_mem 445 (by decide +kernel) rfl), (lg_mem 446 (by decide +kernel) rfl)⟩
theorem lkv_L_47 : LkV RL 47 M_X7_calls := ⟨(lg_mem 858 (by decide +kernel) rfl), (lg_mem 859 (by decide +kernel) rfl), (lg_mem 860 (by decide +kernel) rfl)⟩
theorem law_calls {γ : GX} {bx : BX} {h : HP} {i : Nat} {Ψ : PS} (hi : i + 4 ≤ bx.2.1) (hL : bx.2.1 ≤ 2048) (I : INV γ h) (kk : ∀ h', INV γ h' → El γ bx M_law (109, 2030) 109 h' (lvL γ bx i) 929 [] Ψ) : El γ bx M_law (109, 2030) 109 h (lvL γ bx i) 339 [] Ψ := by
  obtain ⟨N, hN⟩ : ∃ N, 8000 < N := ⟨8001, by omega⟩
  obtain ⟨v, h1, h2, c6, c7, ⟨fs7, hy⟩, I2⟩ := step_calls hN I (bx.2.2 (nI i + nI 1).toNatClampNeg)
  obtain ⟨fs6, hx⟩ := inv_x I
  refine L_aload_n 2 dL_law_339 (q := 340) rfl rfl rfl ?_
  refine L_aload_n 3 dL_law_340 (q := 341) rfl rfl rfl ?_
  refine L_iload_n 0 dL_law_341 (q := 342) rfl rfl rfl ?_
  refine L_iconst (x := nI 1) dL_law_342 (q := 343) rfl rfl ?_
  refine L_iadd dL_law_343 (q := 344) rfl ?_
  refine L_sld (vin hi hL (by omega)) dL_law_344 (q := 345) rfl ?_
  refine L_cV (as := [.int (bx.2.2 (nI i + nI 1).toNatClampNeg)]) (k := 0) (rest := []) dL_law_345 (q := 348) rfl lkm_X6_calls lkv_L_44 (Nat.le_of_ble_eq_true rfl) ckX6 hx (by omega) ⟨(Nat.le_of_ble_eq_true rfl), (Nat.le_of_ble_eq_true rfl)⟩ (Nat.le_of_ble_eq_true rfl) rfl rfl c6 rfl rfl rfl ?_
  refine L_aload_n 1 dL_law_348 (q := 349) rfl rfl rfl ?_
  refine L_aload_n 3 dL_law_349 (q := 350) rfl rfl rfl ?_
  refine L_iload_n 0 dL_law_350 (q := 351) rfl rfl rfl ?_
  refine L_iconst (x := nI 1) dL_law_351 (q := 352) rfl rfl ?_
  refine L_iadd dL_law_352 (q := 353) rfl ?_
  refine L_sld (vin hi hL (by omega)) dL_law_353 (q := 354) rfl ?_
  refine L_cV (as := [.int (bx.2.2 (nI i + nI 1).toNatClampNeg)]) (k := 93) (rest := [.int v]) dL_law_354 (q := 357) rfl lkm_X7_calls lkv_L_47 (Nat.le_of_ble_eq_true rfl) ckX7 hy (by omega) ⟨(Nat.le_of_ble_eq_true rfl), (Nat.le_of_ble_eq_true rfl)⟩ (Nat.le_of_ble_eq_true rfl) rfl rfl c7 rfl rfl rfl ?_
  refine L_icmp_eq (t := 929) dL_law_357 (by decide) (q := 360) rfl (fun _ => kk h2 I2) (fun c => absurd rfl c)
theorem lkv_L_48 : LkV RL 48 M_X6_hour := ⟨(lg_mem 448 (by decide +kernel) rfl), (lg_mem 449 (by decide +kernel) rfl), (lg_mem 450 (by decide +kernel) rfl)⟩
theorem lkv_L_51 : LkV RL 51 M_X7_hour := ⟨(lg_mem 862 (by decide +kernel) rfl), (lg_mem 863 (by decide +kernel) rfl), (lg_mem 864 (by decide +kernel) rfl)⟩
theorem law_hour {γ : GX} {bx : BX} {h : HP} {i : Nat} {Ψ : PS} (hi : i + 4 ≤ bx.2.1) (hL : bx.2.1 ≤ 2048) (I : INV γ h) (kk : ∀ h', INV γ h' → El γ bx M_law (109, 2030) 109 h' (lvL γ bx i) 929 [] Ψ) : El γ bx M_law (109, 2030) 109 h (lvL γ bx i) 362 [] Ψ := by
  obtain ⟨N, hN⟩ : ∃ N, 8000 < N := ⟨8001, by omega⟩
  obtain ⟨v, h1, h2, c6, c7, ⟨fs7, hy⟩, I2⟩ := step_hour hN I 
  obtain ⟨fs6, hx⟩ := inv_x I
  refine L_aload_n 2 dL_law_362 (q := 363) rfl rfl rfl ?_
  refine L_cV (as := []) (k := 0) (rest := []) dL_law_363 (q := 366) rfl lkm_X6_hour lkv_L_48 (Nat.le_of_ble_eq_true rfl) ckX6 hx (by omega) ⟨(Nat.le_of_ble_eq_true rfl), (Nat.le_of_ble_eq_true rfl)⟩ (Nat.le_of_ble_eq_true rfl) rfl rfl c6 rfl rfl rfl ?_
  refine L_aload_n 1 dL_law_366 (q := 367) rfl rfl rfl ?_
  refine L_cV (as := []) (k := 93) (rest := [.int v]) dL_law_367 (q := 370) rfl lkm_X7_hour lkv_L_51 (Nat.le_of_ble_eq_true rfl) ckX7 hy (by omega) ⟨(Nat.le_of_ble_eq_true rfl), (Nat.le_of_ble_eq_true rfl)⟩ (Nat.le_of_ble_eq_true rfl) rfl rfl c7 rfl rfl rfl ?_
  refine L_icmp_eq (t := 929) dL_law_370 (by decide) (q := 373) rfl (fun _ => kk h2 I2) (fun c => absurd rfl c)
theorem lkv_L_52 : LkV RL 52 M_X6_relieves := ⟨(lg_mem 465 (by decide +kernel) rfl), (lg_mem 466 (by decide +kernel) rfl), (lg_mem 467 (by decide +kernel) rfl)⟩
theorem lkv_L_55 : LkV RL 55 M_X7_relieves := ⟨(lg_mem 870 (by decide +kernel) rfl), (lg_mem 871 (by decide +kernel) rfl), (lg_mem 872 (by decide +kernel) rfl)⟩
theorem law_relieves {γ : GX} {bx : BX} {h : HP} {i : Nat} {Ψ : PS} (hi : i + 4 ≤ bx.2.1) (hL : bx.2.1 ≤ 2048) (I : INV γ h) (kk : ∀ h', INV γ h' → El γ bx M_law (109, 2030) 109 h' (lvL γ bx i) 929 [] Ψ) : El γ bx M_law (109, 2030) 109 h (lvL γ bx i) 375 [] Ψ := by
  obtain ⟨N, hN⟩ : ∃ N, 8000 < N := ⟨8001, by omega⟩
  obtain ⟨v, h1, h2, c6, c7, ⟨fs7, hy⟩, I2⟩ := step_relieves hN I (bx.2.2 (nI i + nI 1).toNatClampNeg) (bx.2.2 (nI i + nI 2).toNatClampNeg)
  obtain ⟨fs6, hx⟩ := inv_x I
  refine L_aload_n 2 dL_law_375 (q := 376) rfl rfl rfl ?_
  refine L_aload_n 3 dL_law_376 (q := 377) rfl rfl rfl ?_
  refine L_iload_n 0 dL_law_377 (q := 378) rfl rfl rfl ?_
  refine L_iconst (x := nI 1) dL_law_378 (q := 379) rfl rfl ?_
  refine L_iadd dL_law_379 (q := 380) rfl ?_
  refine L_sld (vin hi hL (by omega)) dL_law_380 (q := 381) rfl ?_
  refine L_aload_n 3 dL_law_381 (q := 382) rfl rfl rfl ?_
  refine L_iload_n 0 dL_law_382 (q := 383) rfl rfl rfl ?_
  refine L_iconst (x := nI 2) dL_law_383 (q := 384) rfl rfl ?_
  refine L_iadd dL_law_384 (q := 385) rfl ?_
  refine L_sld (vin hi hL (by omega)) dL_law_385 (q := 386) rfl ?_
  refine L_cV (as := [.int (bx.2.2 (nI i + nI 1).toNatClampNeg), .int (bx.2.2 (nI i + nI 2).toNatClampNeg)]) (k := 0) (rest := []) dL_law_386 (q := 389) rfl lkm_X6_relieves lkv_L_52 (Nat.le_of_ble_eq_true rfl) ckX6 hx (by omega) ⟨(Nat.le_of_ble_eq_true rfl), (Nat.le_of_ble_eq_true rfl)⟩ (Nat.le_of_ble_eq_true rfl) rfl rfl c6 rfl rfl rfl ?_
  refine L_aload_n 1 dL_law_389 (q := 390) rfl rfl rfl ?_
  refine L_aload_n 3 dL_law_390 (q := 391) rfl rfl rfl ?_
  refine L_iload_n 0 dL_law_391 (q := 392) rfl rfl rfl ?_
  refine L_iconst (x := nI 1) dL_law_392 (q := 393) rfl rfl ?_
  refine L_iadd dL_law_393 (q := 394) rfl ?_
  refine L_sld (vin hi hL (by omega)) dL_law_394 (q := 395) rfl ?_
  refine L_aload_n 3 dL_law_395 (q := 396) rfl rfl rfl ?_
  refine L_iload_n 0 dL_law_396 (q := 397) rfl rfl rfl ?_
  refine L_iconst (x := nI 2) dL_law_397 (q := 398) rfl rfl ?_
  refine L_iadd dL_law_398 (q := 399) rfl ?_
  refine L_sld (vin hi hL (by omega)) dL_law_399 (q := 400) rfl ?_
  refine L_cV (as := [.int (bx.2.2 (nI i + nI 1).toNatClampNeg), .int (bx.2.2 (nI i + nI 2).toNatClampNeg)]) (k := 93) (rest := [.int v]) dL_law_400 (q := 403) rfl lkm_X7_relieves lkv_L_55 (Nat.le_of_ble_eq_true rfl) ckX7 hy (by omega) ⟨(Nat.le_of_ble_eq_true rfl), (Nat.le_of_ble_eq_true rfl)⟩ (Nat.le_of_ble_eq_true rfl) rfl rfl c7 rfl rfl rfl ?_
  refine L_icmp_eq (t := 929) dL_law_403 (by decide) (q := 406) rfl (fun _ => kk h2 I2) (fun c => absurd rfl c)
theorem lkv_L_56 : LkV RL 56 M_X6_undo := ⟨(lg_mem 482 (by decide +kernel) rfl), (lg_mem 483 (by decide +kernel) rfl), (lg_mem 484 (by decide +kernel) rfl)⟩
theorem lkv_L_59 : LkV RL 59 M_X7_undo := ⟨(lg_mem 882 (by decide +kernel) rfl), (lg_mem 883 (by decide +kernel) rfl), (lg_mem 884 (by decide +kernel) rfl)⟩
theorem law_undo {γ : GX} {bx : BX} {h : HP} {i : Nat} {Ψ : PS} (hi : i + 4 ≤ bx.2.1) (hL : bx.2.1 ≤ 2048) (I : INV γ h) (kk : ∀ h', INV γ h' → El γ bx M_law (109, 2030) 109 h' (lvL γ bx i) 929 [] Ψ) : El γ bx M_law (109, 2030) 109 h (lvL γ bx i) 408 [] Ψ := by
  obtain ⟨N, hN⟩ : ∃ N, 8000 < N := ⟨8001, by omega⟩
  obtain ⟨v, h1, h2, c6, c7, ⟨fs7, hy⟩, I2⟩ := step_undo hN I 
  obtain ⟨fs6, hx⟩ := inv_x I
  refine L_aload_n 2 dL_law_408 (q := 409) rfl rfl rfl ?_
  refine L_cV (as := []) (k := 0) (rest := []) dL_law_409 (q := 412) rfl lkm_X6_undo lkv_L_56 (Nat.le_of_ble_eq_true rfl) ckX6 hx (by omega) ⟨(Nat.le_of_ble_eq_true rfl), (Nat.le_of_ble_eq_true rfl)⟩ (Nat.le_of_ble_eq_true rfl) rfl rfl c6 rfl rfl rfl ?_
  refine L_aload_n 1 dL_law_412 (q := 413) rfl rfl rfl ?_
  refine L_cV (as := []) (k := 93) (rest := [.int v]) dL_law_413 (q := 416) rfl lkm_X7_undo lkv_L_59 (Nat.le_of_ble_eq_true rfl) ckX7 hy (by omega) ⟨(Nat.le_of_ble_eq_true rfl), (Nat.le_of_ble_eq_true rfl)⟩ (Nat.le_of_ble_eq_true rfl) rfl rfl c7 rfl rfl rfl ?_
  refine L_icmp_eq (t := 929) dL_law_416 (by decide) (q := 419) rfl (fun _ => kk h2 I2) (fun c => absurd rfl c)
theorem lkv_L_60 : LkV RL 60 M_X6_inHours := ⟨(lg_mem 490 (by decide +kernel) rfl), (lg_mem 491 (by decide +kernel) rfl), (lg_mem 492 (by decide +kernel) rfl)⟩
theorem lkv_L_64 : LkV RL 64 M_X7_inHours := ⟨(lg_mem 886 (by decide +kernel) rfl), (lg_mem 887 (by decide +kernel) rfl), (lg_mem 888 (by decide +kernel) rfl)⟩
theorem law_inHours {γ : GX} {bx : BX} {h : HP} {i : Nat} {Ψ : PS} (hi : i + 4 ≤ bx.2.1) (hL : bx.2.1 ≤ 2048) (I : INV γ h) (kk : ∀ h', INV γ h' → El γ bx M_law (109, 2030) 109 h' (lvL γ bx i) 929 [] Ψ) : El γ bx M_law (109, 2030) 109 h (lvL γ bx i) 421 [] Ψ := by
  obtain ⟨N, hN⟩ : ∃ N, 8000 < N := ⟨8001, by omega⟩
  obtain ⟨v, h1, h2, c6, c7, ⟨fs7, hy⟩, I2⟩ := step_inHours hN I (bx.2.2 (nI i + nI 1).toNatClampNeg) (bx.2.2 (nI i + nI 2).toNatClampNeg) (bx.2.2 (nI i + nI 3).toNatClampNeg)
  obtain ⟨fs6, hx⟩ := inv_x I
  refine L_aload_n 2 dL_law_421 (q := 422) rfl rfl rfl ?_
  refine L_aload_n 3 dL_law_422 (q := 423) rfl rfl rfl ?_
  refine L_iload_n 0 dL_law_423 (q := 424) rfl rfl rfl ?_
  refine L_iconst (x := nI 1) dL_law_424 (q := 425) rfl rfl ?_
  refine L_iadd dL_law_425 (q := 426) rfl ?_
  refine L_sld (vin hi hL (by omega)) dL_law_426 (q := 427) rfl ?_
  refine L_aload_n 3 dL_law_427 (q := 428) rfl rfl rfl ?_
  refine L_iload_n 0 dL_law_428 (q := 429) rfl rfl rfl ?_
  refine L_iconst (x := nI 2) dL_law_429 (q := 430) rfl rfl ?_
  refine L_iadd dL_law_430 (q := 431) rfl ?_
  refine L_sld (vin hi hL (by omega)) dL_law_431 (q := 432) rfl ?_
  refine L_aload_n 3 dL_law_432 (q := 433) rfl rfl rfl ?_
  refine L_iload_n 0 dL_law_433 (q := 434) rfl rfl rfl ?_
  refine L_iconst (x := nI 3) dL_law_434 (q := 435) rfl rfl ?_
  refine L_iadd dL_law_435 (q := 436) rfl ?_
  refine L_sld (vin hi hL (by omega)) dL_law_436 (q := 437) rfl ?_
  refine L_cV (as := [.int (bx.2.2 (nI i + nI 1).toNatClampNeg), .int (bx.2.2 (nI i + nI 2).toNatClampNeg), .int (bx.2.2 (nI i + nI 3).toNatClampNeg)]) (k := 0) (rest := []) dL_law_437 (q := 440) rfl lkm_X6_inHours lkv_L_60 (Nat.le_of_ble_eq_true rfl) ckX6 hx (by omega) ⟨(Nat.le_of_ble_eq_true rfl), (Nat.le_of_ble_eq_true rfl)⟩ (Nat.le_of_ble_eq_true rfl) rfl rfl c6 rfl rfl rfl ?_
  refine L_aload_n 1 dL_law_440 (q := 441) rfl rfl rfl ?_
  refine L_aload_n 3 dL_law_441 (q := 442) rfl rfl rfl ?_
  refine L_iload_n 0 dL_law_442 (q := 443) rfl rfl rfl ?_
  refine L_iconst (x := nI 1) dL_law_443 (q := 444) rfl rfl ?_
  refine L_iadd dL_law_444 (q := 445) rfl ?_
  refine L_sld (vin hi hL (by omega)) dL_law_445 (q := 446) rfl ?_
  refine L_aload_n 3 dL_law_446 (q := 447) rfl rfl rfl ?_
  refine L_iload_n 0 dL_law_447 (q := 448) rfl rfl rfl ?_
  refine L_iconst (x := nI 2) dL_law_448 (q := 449) rfl rfl ?_
  refine L_iadd dL_law_449 (q := 450) rfl ?_
  refine L_sld (vin hi hL (by omega)) dL_law_450 (q := 451) rfl ?_
  refine L_aload_n 3 dL_law_451 (q := 452) rfl rfl rfl ?_
  refine L_iload_n 0 dL_law_452 (q := 453) rfl rfl rfl ?_
  refine L_iconst (x := nI 3) dL_law_453 (q := 454) rfl rfl ?_
  refine L_iadd dL_law_454 (q := 455) rfl ?_
  refine L_sld (vin hi hL (by omega)) dL_law_455 (q := 456) rfl ?_
  refine L_cV (as := [.int (bx.2.2 (nI i + nI 1).toNatClampNeg), .int (bx.2.2 (nI i + nI 2).toNatClampNeg), .int (bx.2.2 (nI i + nI 3).toNatClampNeg)]) (k := 93) (rest := [.int v]) dL_law_456 (q := 459) rfl lkm_X7_inHours lkv_L_64 (Nat.le_of_ble_eq_true rfl) ckX7 hy (by omega) ⟨(Nat.le_of_ble_eq_true rfl), (Nat.le_of_ble_eq_true rfl)⟩ (Nat.le_of_ble_eq_true rfl) rfl rfl c7 rfl rfl rfl ?_
  refine L_icmp_eq (t := 929) dL_law_459 (by decide) (q := 462) rfl (fun _ => kk h2 I2) (fun c => absurd rfl c)
theorem lkv_L_65 : LkV RL 65 M_X6_round := ⟨(lg_mem 506 (by decide +kernel) rfl), (lg_mem 507 (by decide +kernel) rfl), (lg_mem 508 (by decide +kernel) rfl)⟩
theorem lkv_L_68 : LkV RL 68 M_X7_round := ⟨(lg_mem 898 (by decide +kernel) rfl), (lg_mem 899 (by decide +kernel) rfl), (lg_mem 900 (by decide +kernel) rfl)⟩
theorem law_round {γ : GX} {bx : BX} {h : HP} {i : Nat} {Ψ : PS} (hi : i + 4 ≤ bx.2.1) (hL : bx.2.1 ≤ 2048) (I : INV γ h) (kk : ∀ h', INV γ h' → El γ bx M_law (109, 2030) 109 h' (lvL γ bx i) 929 [] Ψ) : El γ bx M_law (109, 2030) 109 h (lvL γ bx i) 464 [] Ψ := by
  obtain ⟨N, hN⟩ : ∃ N, 8000 < N := ⟨8001, by omega⟩
  obtain ⟨v, h1, h2, c6, c7, ⟨fs7, hy⟩, I2⟩ := step_round hN I (bx.2.2 (nI i + nI 1).toNatClampNeg)
  obtain ⟨fs6, hx⟩ := inv_x I
  refine L_aload_n 2 dL_law_464 (q := 465) rfl rfl rfl ?_
  refine L_aload_n 3 dL_law_465 (q := 466) rfl rfl rfl ?_
  refine L_iload_n 0 dL_law_466 (q := 467) rfl rfl rfl ?_
  refine L_iconst (x := nI 1) dL_law_467 (q := 468) rfl rfl ?_
  refine L_iadd dL_law_468 (q := 469) rfl ?_
  refine L_sld (vin hi hL (by omega)) dL_law_469 (q := 470) rfl ?_
  refine L_cV (as := [.int (bx.2.2 (nI i + nI 1).toNatClampNeg)]) (k := 0) (rest := []) dL_law_470 (q := 473) rfl lkm_X6_round lkv_L_65 (Nat.le_of_ble_eq_true rfl) ckX6 hx (by omega) ⟨(Nat.le_of_ble_eq_true rfl), (Nat.le_of_ble_eq_true rfl)⟩ (Nat.le_of_ble_eq_true rfl) rfl rfl c6 rfl rfl rfl ?_
  refine L_aload_n 1 dL_law_473 (q := 474) rfl rfl rfl ?_
  refine L_aload_n 3 dL_law_474 (q := 475) rfl rfl rfl ?_
  refine L_iload_n 0 dL_law_475 (q := 476) rfl rfl rfl ?_
  refine L_iconst (x := nI 1) dL_law_476 (q := 477) rfl rfl ?_
  refine L_iadd dL_law_477 (q := 478) rfl ?_
  refine L_sld (vin hi hL (by omega)) dL_law_478 (q := 479) rfl ?_
  refine L_cV (as := [.int (bx.2.2 (nI i + nI 1).toNatClampNeg)]) (k := 93) (rest := [.int v]) dL_law_479 (q := 482) rfl lkm_X7_round lkv_L_68 (Nat.le_of_ble_eq_true rfl) ckX7 hy (by omega) ⟨(Nat.le_of_ble_eq_true rfl), (Nat.le_of_ble_eq_true rfl)⟩ (Nat.le_of_ble_eq_true rfl) rfl rfl c7 rfl rfl rfl ?_
  refine L_icmp_eq (t := 929) dL_law_482 (by decide) (q := 485) rfl (fun _ => kk h2 I2) (fun c => absurd rfl c)
theorem lkv_L_69 : LkV RL 69 M_X6_rota := ⟨(lg_mem 514 (by decide +kernel) rfl), (lg_mem 515 (by decide +kernel) rfl), (lg_mem 516 (by decide +kernel) rfl)⟩
theorem lkv_L_72 : LkV RL 72 M_X7_rota := ⟨(lg_mem 907 (by decide +kernel) rfl), (lg_mem 908 (by decide +kernel) rfl), (lg_mem 909 (by decide +kernel) rfl)⟩
theorem law_rota {γ : GX} {bx : BX} {h : HP} {i : Nat} {Ψ : PS} (hi : i + 4 ≤ bx.2.1) (hL : bx.2.1 ≤ 2048) (I : INV γ h) (kk : ∀ h', INV γ h' → El γ bx M_law (109, 2030) 109 h' (lvL γ bx i) 929 [] Ψ) : El γ bx M_law (109, 2030) 109 h (lvL γ bx i) 487 [] Ψ := by
  obtain ⟨N, hN⟩ : ∃ N, 8000 < N := ⟨8001, by omega⟩
  obtain ⟨v, h1, h2, c6, c7, ⟨fs7, hy⟩, I2⟩ := step_rota hN I (bx.2.2 (nI i + nI 1).toNatClampNeg)
  obtain ⟨fs6, hx⟩ := inv_x I
  refine L_aload_n 2 dL_law_487 (q := 488) rfl rfl rfl ?_
  refine L_aload_n 3 dL_law_488 (q := 489) rfl rfl rfl ?_
  refine L_iload_n 0 dL_law_489 (q := 490) rfl rfl rfl ?_
  refine L_iconst (x := nI 1) dL_law_490 (q := 491) rfl rfl ?_
  refine L_iadd dL_law_491 (q := 492) rfl ?_
  refine L_sld (vin hi hL (by omega)) dL_law_492 (q := 493) rfl ?_
  refine L_cV (as := [.int (bx.2.2 (nI i + nI 1).toNatClampNeg)]) (k := 0) (rest := []) dL_law_493 (q := 496) rfl lkm_X6_rota lkv_L_69 (Nat.le_of_ble_eq_true rfl) ckX6 hx (by omega) ⟨(Nat.le_of_ble_eq_true rfl), (Nat.le_of_ble_eq_true rfl)⟩ (Nat.le_of_ble_eq_true rfl) rfl rfl c6 rfl rfl rfl ?_
  refine L_aload_n 1 dL_law_496 (q := 497) rfl rfl rfl ?_
  refine L_aload_n 3 dL_law_497 (q := 498) rfl rfl rfl ?_
  refine L_iload_n 0 dL_law_498 (q := 499) rfl rfl rfl ?_
  refine L_iconst (x := nI 1) dL_law_499 (q := 500) rfl rfl ?_
  refine L_iadd dL_law_500 (q := 501) rfl ?_
  refine L_sld (vin hi hL (by omega)) dL_law_501 (q := 502) rfl ?_
  refine L_cV (as := [.int (bx.2.2 (nI i + nI 1).toNatClampNeg)]) (k := 93) (rest := [.int v]) dL_law_502 (q := 505) rfl lkm_X7_rota lkv_L_72 (Nat.le_of_ble_eq_true rfl) ckX7 hy (by omega) ⟨(Nat.le_of_ble_eq_true rfl), (Nat.le_of_ble_eq_true rfl)⟩ (Nat.le_of_ble_eq_true rfl) rfl rfl c7 rfl rfl rfl ?_
  refine L_icmp_eq (t := 929) dL_law_505 (by decide) (q := 508) rfl (fun _ => kk h2 I2) (fun c => absurd rfl c)
theorem lkv_L_73 : LkV RL 73 M_X6_leave := ⟨(lg_mem 534 (by decide +kernel) rfl), (lg_mem 535 (by decide +kernel) rfl), (lg_mem 536 (by decide +kernel) rfl)⟩
theorem lkv_L_76 : LkV RL 76 M_X7_leave := ⟨(lg_mem 919 (by decide +kernel) rfl), (lg_mem 920 (by decide +kernel) rfl), (lg_mem 921 (by decide +kernel) rfl)⟩
theorem law_leave {γ : GX} {bx : BX} {h : HP} {i : Nat} {Ψ : PS} (hi : i + 4 ≤ bx.2.1) (hL : bx.2.1 ≤ 2048) (I : INV γ h) (kk : ∀ h', INV γ h' → El γ bx M_law (109, 2030) 109 h' (lvL γ bx i) 929 [] Ψ) : El γ bx M_law (109, 2030) 109 h (lvL γ bx i) 510 [] Ψ := by
  obtain ⟨N, hN⟩ : ∃ N, 8000 < N := ⟨8001, by omega⟩
  obtain ⟨v, h1, h2, c6, c7, ⟨fs7, hy⟩, I2⟩ := step_leave hN I 
  obtain ⟨fs6, hx⟩ := inv_x I
  refine L_aload_n 2 dL_law_510 (q := 511) rfl rfl rfl ?_
  refine L_cV (as := []) (k := 0) (rest := []) dL_law_511 (q := 514) rfl lkm_X6_leave lkv_L_73 (Nat.le_of_ble_eq_true rfl) ckX6 hx (by omega) ⟨(Nat.le_of_ble_eq_true rfl), (Nat.le_of_ble_eq_true rfl)⟩ (Nat.le_of_ble_eq_true rfl) rfl rfl c6 rfl rfl rfl ?_
  refine L_aload_n 1 dL_law_514 (q := 515) rfl rfl rfl ?_
  refine L_cV (as := []) (k := 93) (rest := [.int v]) dL_law_515 (q := 518) rfl lkm_X7_leave lkv_L_76 (Nat.le_of_ble_eq_true rfl) ckX7 hy (by omega) ⟨(Nat.le_of_ble_eq_true rfl), (Nat.le_of_ble_eq_true rfl)⟩ (Nat.le_of_ble_eq_true rfl) rfl rfl c7 rfl rfl rfl ?_
  refine L_icmp_eq (t := 929) dL_law_518 (by decide) (q := 521) rfl (fun _ => kk h2 I2) (fun c => absurd rfl c)
theorem lkv_L_77 : LkV RL 77 M_X6_two := ⟨(lg_mem 544 (by decide +kernel) rfl), (lg_mem 545 (by decide +kernel) rfl), (lg_mem 546 (by decide +kernel) rfl)⟩
theorem lkv_L_80 : LkV RL 80 M_X7_two := ⟨(lg_mem 927 (by decide +kernel) rfl), (lg_mem 928 (by decide +kernel) rfl), (lg_mem 929 (by decide +kernel) rfl)⟩
theorem law_two {γ : GX} {bx : BX} {h : HP} {i : Nat} {Ψ : PS} (hi : i + 4 ≤ bx.2.1) (hL : bx.2.1 ≤ 2048) (I : INV γ h) (kk : ∀ h', INV γ h' → El γ bx M_law (109, 2030) 109 h' (lvL γ bx i) 929 [] Ψ) : El γ bx M_law (109, 2030) 109 h (lvL γ bx i) 523 [] Ψ := by
  obtain ⟨N, hN⟩ : ∃ N, 8000 < N := ⟨8001, by omega⟩
  obtain ⟨v, h1, h2, c6, c7, ⟨fs7, hy⟩, I2⟩ := step_two hN I 
  obtain ⟨fs6, hx⟩ := inv_x I
  refine L_aload_n 2 dL_law_523 (q := 524) rfl rfl rfl ?_
  refine L_cV (as := []) (k := 0) (rest := []) dL_law_524 (q := 527) rfl lkm_X6_two lkv_L_77 (Nat.le_of_ble_eq_true rfl) ckX6 hx (by omega) ⟨(Nat.le_of_ble_eq_true rfl), (Nat.le_of_ble_eq_true rfl)⟩ (Nat.le_of_ble_eq_true rfl) rfl rfl c6 rfl rfl rfl ?_
  refine L_aload_n 1 dL_law_527 (q := 528) rfl rfl rfl ?_
  refine L_cV (as := []) (k := 93) (rest := [.int v]) dL_law_528 (q := 531) rfl lkm_X7_two lkv_L_80 (Nat.le_of_ble_eq_true rfl) ckX7 hy (by omega) ⟨(Nat.le_of_ble_eq_true rfl), (Nat.le_of_ble_eq_true rfl)⟩ (Nat.le_of_ble_eq_true rfl) rfl rfl c7 rfl rfl rfl ?_
  refine L_icmp_eq (t := 929) dL_law_531 (by decide) (q := 534) rfl (fun _ => kk h2 I2) (fun c => absurd rfl c)
theorem lkv_L_81 : LkV RL 81 M_X6_unseen := ⟨(lg_mem 552 (by decide +kernel) rfl), (lg_mem 553 (by decide +kernel) rfl), (lg_mem 554 (by decide +kernel) rfl)⟩
theorem lkv_L_84 : LkV RL 84 M_X7_unseen := ⟨(lg_mem 931 (by decide +kernel) rfl), (lg_mem 932 (by decide +kernel) rfl), (lg_mem 933 (by decide +kernel) rfl)⟩
theorem law_unseen {γ : GX} {bx : BX} {h : HP} {i : Nat} {Ψ : PS} (hi : i + 4 ≤ bx.2.1) (hL : bx.2.1 ≤ 2048) (I : INV γ h) (kk : ∀ h', INV γ h' → El γ bx M_law (109, 2030) 109 h' (lvL γ bx i) 929 [] Ψ) : El γ bx M_law (109, 2030) 109 h (lvL γ bx i) 536 [] Ψ := by
  obtain ⟨N, hN⟩ : ∃ N, 8000 < N := ⟨8001, by omega⟩
  obtain ⟨v, h1, h2, c6, c7, ⟨fs7, hy⟩, I2⟩ := step_unseen hN I (bx.2.2 (nI i + nI 1).toNatClampNeg) (bx.2.2 (nI i + nI 2).toNatClampNeg)
  obtain ⟨fs6, hx⟩ := inv_x I
  refine L_aload_n 2 dL_law_536 (q := 537) rfl rfl rfl ?_
  refine L_aload_n 3 dL_law_537 (q := 538) rfl rfl rfl ?_
  refine L_iload_n 0 dL_law_538 (q := 539) rfl rfl rfl ?_
  refine L_iconst (x := nI 1) dL_law_539 (q := 540) rfl rfl ?_
  refine L_iadd dL_law_540 (q := 541) rfl ?_
  refine L_sld (vin hi hL (by omega)) dL_law_541 (q := 542) rfl ?_
  refine L_aload_n 3 dL_law_542 (q := 543) rfl rfl rfl ?_
  refine L_iload_n 0 dL_law_543 (q := 544) rfl rfl rfl ?_
  refine L_iconst (x := nI 2) dL_law_544 (q := 545) rfl rfl ?_
  refine L_iadd dL_law_545 (q := 546) rfl ?_
  refine L_sld (vin hi hL (by omega)) dL_law_546 (q := 547) rfl ?_
  refine L_cV (as := [.int (bx.2.2 (nI i + nI 1).toNatClampNeg), .int (bx.2.2 (nI i + nI 2).toNatClampNeg)]) (k := 0) (rest := []) dL_law_547 (q := 550) rfl lkm_X6_unseen lkv_L_81 (Nat.le_of_ble_eq_true rfl) ckX6 hx (by omega) ⟨(Nat.le_of_ble_eq_true rfl), (Nat.le_of_ble_eq_true rfl)⟩ (Nat.le_of_ble_eq_true rfl) rfl rfl c6 rfl rfl rfl ?_
  refine L_aload_n 1 dL_law_550 (q := 551) rfl rfl rfl ?_
  refine L_aload_n 3 dL_law_551 (q := 552) rfl rfl rfl ?_
  refine L_iload_n 0 dL_law_552 (q := 553) rfl rfl rfl ?_
  refine L_iconst (x := nI 1) dL_law_553 (q := 554) rfl rfl ?_
  refine L_iadd dL_law_554 (q := 555) rfl ?_
  refine L_sld (vin hi hL (by omega)) dL_law_555 (q := 556) rfl ?_
  refine L_aload_n 3 dL_law_556 (q := 557) rfl rfl rfl ?_
  refine L_iload_n 0 dL_law_557 (q := 558) rfl rfl rfl ?_
  refine L_iconst (x := nI 2) dL_law_558 (q := 559) rfl rfl ?_
  refine L_iadd dL_law_559 (q := 560) rfl ?_
  refine L_sld (vin hi hL (by omega)) dL_law_560 (q := 561) rfl ?_
  refine L_cV (as := [.int (bx.2.2 (nI i + nI 1).toNatClampNeg), .int (bx.2.2 (nI i + nI 2).toNatClampNeg)]) (k := 93) (rest := [.int v]) dL_law_561 (q := 564) rfl lkm_X7_unseen lkv_L_84 (Nat.le_of_ble_eq_true rfl) ckX7 hy (by omega) ⟨(Nat.le_of_ble_eq_true rfl), (Nat.le_of_ble_eq_true rfl)⟩ (Nat.le_of_ble_eq_true rfl) rfl rfl c7 rfl rfl rfl ?_
  refine L_icmp_eq (t := 929) dL_law_564 (by decide) (q := 567) rfl (fun _ => kk h2 I2) (fun c => absurd rfl c)
theorem lkv_L_85 : LkV RL 85 M_X6_odds := ⟨(lg_mem 556 (by decide +kernel) rfl), (lg_mem 557 (by decide +kernel) rfl), (lg_mem 558 (by decide +kernel) rfl)⟩
theorem lkv_L_88 : LkV RL 88 M_X7_odds := ⟨(lg_mem 935 (by decide +kernel) rfl), (lg_mem 936 (by decide +kernel) rfl), (lg_mem 937 (by decide +kernel) rfl)⟩
theorem law_odds {γ : GX} {bx : BX} {h : HP} {i : Nat} {Ψ : PS} (hi : i + 4 ≤ bx.2.1) (hL : bx.2.1 ≤ 2048) (I : INV γ h) (kk : ∀ h', INV γ h' → El γ bx M_law (109, 2030) 109 h' (lvL γ bx i) 929 [] Ψ) : El γ bx M_law (109, 2030) 109 h (lvL γ bx i) 569 [] Ψ := by
  obtain ⟨N, hN⟩ : ∃ N, 8000 < N := ⟨8001, by omega⟩
  obtain ⟨v, h1, h2, c6, c7, ⟨fs7, hy⟩, I2⟩ := step_odds hN I (bx.2.2 (nI i + nI 1).toNatClampNeg) (bx.2.2 (nI i + nI 2).toNatClampNeg)
  obtain ⟨fs6, hx⟩ := inv_x I
  refine L_aload_n 2 dL_law_569 (q := 570) rfl rfl rfl ?_
  refine L_aload_n 3 dL_law_570 (q := 571) rfl rfl rfl ?_
  refine L_iload_n 0 dL_law_571 (q := 572) rfl rfl rfl ?_
  refine L_iconst (x := nI 1) dL_law_572 (q := 573) rfl rfl ?_
  refine L_iadd dL_law_573 (q := 574) rfl ?_
  refine L_sld (vin hi hL (by omega)) dL_law_574 (q := 575) rfl ?_
  refine L_aload_n 3 dL_law_575 (q := 576) rfl rfl rfl ?_
  refine L_iload_n 0 dL_law_576 (q := 577) rfl rfl rfl ?_
  refine L_iconst (x := nI 2) dL_law_577 (q := 578) rfl rfl ?_
  refine L_iadd dL_law_578 (q := 579) rfl ?_
  refine L_sld (vin hi hL (by omega)) dL_law_579 (q := 580) rfl ?_
  refine L_cV (as := [.int (bx.2.2 (nI i + nI 1).toNatClampNeg), .int (bx.2.2 (nI i + nI 2).toNatClampNeg)]) (k := 0) (rest := []) dL_law_580 (q := 583) rfl lkm_X6_odds lkv_L_85 (Nat.le_of_ble_eq_true rfl) ckX6 hx (by omega) ⟨(Nat.le_of_ble_eq_true rfl), (Nat.le_of_ble_eq_true rfl)⟩ (Nat.le_of_ble_eq_true rfl) rfl rfl c6 rfl rfl rfl ?_
  refine L_aload_n 1 dL_law_583 (q := 584) rfl rfl rfl ?_
  refine L_aload_n 3 dL_law_584 (q := 585) rfl rfl rfl ?_
  refine L_iload_n 0 dL_law_585 (q := 586) rfl rfl rfl ?_
  refine L_iconst (x := nI 1) dL_law_586 (q := 587) rfl rfl ?_
  refine L_iadd dL_law_587 (q := 588) rfl ?_
  refine L_sld (vin hi hL (by omega)) dL_law_588 (q := 589) rfl ?_
  refine L_aload_n 3 dL_law_589 (q := 590) rfl rfl rfl ?_
  refine L_iload_n 0 dL_law_590 (q := 591) rfl rfl rfl ?_
  refine L_iconst (x := nI 2) dL_law_591 (q := 592) rfl rfl ?_
  refine L_iadd dL_law_592 (q := 593) rfl ?_
  refine L_sld (vin hi hL (by omega)) dL_law_593 (q := 594) rfl ?_
  refine L_cV (as := [.int (bx.2.2 (nI i + nI 1).toNatClampNeg), .int (bx.2.2 (nI i + nI 2).toNatClampNeg)]) (k := 93) (rest := [.int v]) dL_law_594 (q := 597) rfl lkm_X7_odds lkv_L_88 (Nat.le_of_ble_eq_true rfl) ckX7 hy (by omega) ⟨(Nat.le_of_ble_eq_true rfl), (Nat.le_of_ble_eq_true rfl)⟩ (Nat.le_of_ble_eq_true rfl) rfl rfl c7 rfl rfl rfl ?_
  refine L_icmp_eq (t := 929) dL_law_597 (by decide) (q := 600) rfl (fun _ => kk h2 I2) (fun c => absurd rfl c)
theorem lkv_L_89 : LkV RL 89 M_X6_creep := ⟨(lg_mem 572 (by decide +kernel) rfl), (lg_mem 573 (by decide +kernel) rfl), (lg_mem 574 (by decide +kernel) rfl)⟩
theorem lkv_L_92 : LkV RL 92 M_X7_creep := ⟨(lg_mem 945 (by decide +kernel) rfl), (lg_mem 946 (by decide +kernel) rfl), (lg_mem 947 (by decide +kernel) rfl)⟩
theorem law_creep {γ : GX} {bx : BX} {h : HP} {i : Nat} {Ψ : PS} (hi : i + 4 ≤ bx.2.1) (hL : bx.2.1 ≤ 2048) (I : INV γ h) (kk : ∀ h', INV γ h' → El γ bx M_law (109, 2030) 109 h' (lvL γ bx i) 929 [] Ψ) : El γ bx M_law (109, 2030) 109 h (lvL γ bx i) 602 [] Ψ := by
  obtain ⟨N, hN⟩ : ∃ N, 8000 < N := ⟨8001, by omega⟩
  obtain ⟨v, h1, h2, c6, c7, ⟨fs7, hy⟩, I2⟩ := step_creep hN I (bx.2.2 (nI i + nI 1).toNatClampNeg) (bx.2.2 (nI i + nI 2).toNatClampNeg)
  obtain ⟨fs6, hx⟩ := inv_x I
  refine L_aload_n 2 dL_law_602 (q := 603) rfl rfl rfl ?_
  refine L_aload_n 3 dL_law_603 (q := 604) rfl rfl rfl ?_
  refine L_iload_n 0 dL_law_604 (q := 605) rfl rfl rfl ?_
  refine L_iconst (x := nI 1) dL_law_605 (q := 606) rfl rfl ?_
  refine L_iadd dL_law_606 (q := 607) rfl ?_
  refine L_sld (vin hi hL (by omega)) dL_law_607 (q := 608) rfl ?_
  refine L_aload_n 3 dL_law_608 (q := 609) rfl rfl rfl ?_
  refine L_iload_n 0 dL_law_609 (q := 610) rfl rfl rfl ?_
  refine L_iconst (x := nI 2) dL_law_610 (q := 611) rfl rfl ?_
  refine L_iadd dL_law_611 (q := 612) rfl ?_
  refine L_sld (vin hi hL (by omega)) dL_law_612 (q := 613) rfl ?_
  refine L_cV (as := [.int (bx.2.2 (nI i + nI 1).toNatClampNeg), .int (bx.2.2 (nI i + nI 2).toNatClampNeg)]) (k := 0) (rest := []) dL_law_613 (q := 616) rfl lkm_X6_creep lkv_L_89 (Nat.le_of_ble_eq_true rfl) ckX6 hx (by omega) ⟨(Nat.le_of_ble_eq_true rfl), (Nat.le_of_ble_eq_true rfl)⟩ (Nat.le_of_ble_eq_true rfl) rfl rfl c6 rfl rfl rfl ?_
  refine L_aload_n 1 dL_law_616 (q := 617) rfl rfl rfl ?_
  refine L_aload_n 3 dL_law_617 (q := 618) rfl rfl rfl ?_
  refine L_iload_n 0 dL_law_618 (q := 619) rfl rfl rfl ?_
  refine L_iconst (x := nI 1) dL_law_619 (q := 620) rfl rfl ?_
  refine L_iadd dL_law_620 (q := 621) rfl ?_
  refine L_sld (vin hi hL (by omega)) dL_law_621 (q := 622) rfl ?_
  refine L_aload_n 3 dL_law_622 (q := 623) rfl rfl rfl ?_
  refine L_iload_n 0 dL_law_623 (q := 624) rfl rfl rfl ?_
  refine L_iconst (x := nI 2) dL_law_624 (q := 625) rfl rfl ?_
  refine L_iadd dL_law_625 (q := 626) rfl ?_
  refine L_sld (vin hi hL (by omega)) dL_law_626 (q := 627) rfl ?_
  refine L_cV (as := [.int (bx.2.2 (nI i + nI 1).toNatClampNeg), .int (bx.2.2 (nI i + nI 2).toNatClampNeg)]) (k := 93) (rest := [.int v]) dL_law_627 (q := 630) rfl lkm_X7_creep lkv_L_92 (Nat.le_of_ble_eq_true rfl) ckX7 hy (by omega) ⟨(Nat.le_of_ble_eq_true rfl), (Nat.le_of_ble_eq_true rfl)⟩ (Nat.le_of_ble_eq_true rfl) rfl rfl c7 rfl rfl rfl ?_
  refine L_icmp_eq (t := 929) dL_law_630 (by decide) (q := 633) rfl (fun _ => kk h2 I2) (fun c => absurd rfl c)
theorem lkv_L_93 : LkV RL 93 M_X6_found := ⟨(lg_mem 580 (by decide +kernel) rfl), (lg_mem 581 (by decide +kernel) rfl), (lg_mem 582 (by decide +kernel) rfl)⟩
theorem lkv_L_96 : LkV RL 96 M_X7_found := ⟨(lg_mem 952 (by decide +kernel) rfl), (lg_mem 953 (by decide +kernel) rfl), (lg_mem 954 (by decide +kernel) rfl)⟩
theorem law_found {γ : GX} {bx : BX} {h : HP} {i : Nat} {Ψ : PS} (hi : i + 4 ≤ bx.2.1) (hL : bx.2.1 ≤ 2048) (I : INV γ h) (kk : ∀ h', INV γ h' → El γ bx M_law (109, 2030) 109 h' (lvL γ bx i) 929 [] Ψ) : El γ bx M_law (109, 2030) 109 h (lvL γ bx i) 635 [] Ψ := by
  obtain ⟨N, hN⟩ : ∃ N, 8000 < N := ⟨8001, by omega⟩
  obtain ⟨v, h1, h2, c6, c7, ⟨fs7, hy⟩, I2⟩ := step_found hN I (bx.2.2 (nI i + nI 1).toNatClampNeg) (bx.2.2 (nI i + nI 2).toNatClampNeg) (bx.2.2 (nI i + nI 3).toNatClampNeg)
  obtain ⟨fs6, hx⟩ := inv_x I
  refine L_aload_n 2 dL_law_635 (q := 636) rfl rfl rfl ?_
  refine L_aload_n 3 dL_law_636 (q := 637) rfl rfl rfl ?_
  refine L_iload_n 0 dL_law_637 (q := 638) rfl rfl rfl ?_
  refine L_iconst (x := nI 1) dL_law_638 (q := 639) rfl rfl ?_
  refine L_iadd dL_law_639 (q := 640) rfl ?_
  refine L_sld (vin hi hL (by omega)) dL_law_640 (q := 641) rfl ?_
  refine L_aload_n 3 dL_law_641 (q := 642) rfl rfl rfl ?_
  refine L_iload_n 0 dL_law_642 (q := 643) rfl rfl rfl ?_
  refine L_iconst (x := nI 2) dL_law_643 (q := 644) rfl rfl ?_
  refine L_iadd dL_law_644 (q := 645) rfl ?_
  refine L_sld (vin hi hL (by omega)) dL_law_645 (q := 646) rfl ?_
  refine L_aload_n 3 dL_law_646 (q := 647) rfl rfl rfl ?_
  refine L_iload_n 0 dL_law_647 (q := 648) rfl rfl rfl ?_
  refine L_iconst (x := nI 3) dL_law_648 (q := 649) rfl rfl ?_
  refine L_iadd dL_law_649 (q := 650) rfl ?_
  refine L_sld (vin hi hL (by omega)) dL_law_650 (q := 651) rfl ?_
  refine L_cV (as := [.int (bx.2.2 (nI i + nI 1).toNatClampNeg), .int (bx.2.2 (nI i + nI 2).toNatClampNeg), .int (bx.2.2 (nI i + nI 3).toNatClampNeg)]) (k := 0) (rest := []) dL_law_651 (q := 654) rfl lkm_X6_found lkv_L_93 (Nat.le_of_ble_eq_true rfl) ckX6 hx (by omega) ⟨(Nat.le_of_ble_eq_true rfl), (Nat.le_of_ble_eq_true rfl)⟩ (Nat.le_of_ble_eq_true rfl) rfl rfl c6 rfl rfl rfl ?_
  refine L_aload_n 1 dL_law_654 (q := 655) rfl rfl rfl ?_
  refine L_aload_n 3 dL_law_655 (q := 656) rfl rfl rfl ?_
  refine L_iload_n 0 dL_law_656 (q := 657) rfl rfl rfl ?_
  refine L_iconst (x := nI 1) dL_law_657 (q := 658) rfl rfl ?_
  refine L_iadd dL_law_658 (q := 659) rfl ?_
  refine L_sld (vin hi hL (by omega)) dL_law_659 (q := 660) rfl ?_
  refine L_aload_n 3 dL_law_660 (q := 661) rfl rfl rfl ?_
  refine L_iload_n 0 dL_law_661 (q := 662) rfl rfl rfl ?_
  refine L_iconst (x := nI 2) dL_law_662 (q := 663) rfl rfl ?_
  refine L_iadd dL_law_663 (q := 664) rfl ?_
  refine L_sld (vin hi hL (by omega)) dL_law_664 (q := 665) rfl ?_
  refine L_aload_n 3 dL_law_665 (q := 666) rfl rfl rfl ?_
  refine L_iload_n 0 dL_law_666 (q := 667) rfl rfl rfl ?_
  refine L_iconst (x := nI 3) dL_law_667 (q := 668) rfl rfl ?_
  refine L_iadd dL_law_668 (q := 669) rfl ?_
  refine L_sld (vin hi hL (by omega)) dL_law_669 (q := 670) rfl ?_
  refine L_cV (as := [.int (bx.2.2 (nI i + nI 1).toNatClampNeg), .int (bx.2.2 (nI i + nI 2).toNatClampNeg), .int (bx.2.2 (nI i + nI 3).toNatClampNeg)]) (k := 93) (rest := [.int v]) dL_law_670 (q := 673) rfl lkm_X7_found lkv_L_96 (Nat.le_of_ble_eq_true rfl) ckX7 hy (by omega) ⟨(Nat.le_of_ble_eq_true rfl), (Nat.le_of_ble_eq_true rfl)⟩ (Nat.le_of_ble_eq_true rfl) rfl rfl c7 rfl rfl rfl ?_
  refine L_icmp_eq (t := 929) dL_law_673 (by decide) (q := 676) rfl (fun _ => kk h2 I2) (fun c => absurd rfl c)
theorem lkv_L_97 : LkV RL 97 M_X6_forget := ⟨(lg_mem 588 (by decide +kernel) rfl), (lg_mem 589 (by decide +kernel) rfl), (lg_mem 590 (by decide +kernel) rfl)⟩
theorem lkv_L_100 : LkV RL 100 M_X7_forget := ⟨(lg_mem 956 (by decide +kernel) rfl), (lg_mem 957 (by decide +kernel) rfl), (lg_mem 958 (by decide +kernel) rfl)⟩
theorem law_forget {γ : GX} {bx : BX} {h : HP} {i : Nat} {Ψ : PS} (hi : i + 4 ≤ bx.2.1) (hL : bx.2.1 ≤ 2048) (I : INV γ h) (kk : ∀ h', INV γ h' → El γ bx M_law (109, 2030) 109 h' (lvL γ bx i) 929 [] Ψ) : El γ bx M_law (109, 2030) 109 h (lvL γ bx i) 678 [] Ψ := by
  obtain ⟨N, hN⟩ : ∃ N, 8000 < N := ⟨8001, by omega⟩
  obtain ⟨v, h1, h2, c6, c7, ⟨fs7, hy⟩, I2⟩ := step_forget hN I 
  obtain ⟨fs6, hx⟩ := inv_x I
  refine L_aload_n 2 dL_law_678 (q := 679) rfl rfl rfl ?_
  refine L_cV (as := []) (k := 0) (rest := []) dL_law_679 (q := 682) rfl lkm_X6_forget lkv_L_97 (Nat.le_of_ble_eq_true rfl) ckX6 hx (by omega) ⟨(Nat.le_of_ble_eq_true rfl), (Nat.le_of_ble_eq_true rfl)⟩ (Nat.le_of_ble_eq_true rfl) rfl rfl c6 rfl rfl rfl ?_
  refine L_aload_n 1 dL_law_682 (q := 683) rfl rfl rfl ?_
  refine L_cV (as := []) (k := 93) (rest := [.int v]) dL_law_683 (q := 686) rfl lkm_X7_forget lkv_L_100 (Nat.le_of_ble_eq_true rfl) ckX7 hy (by omega) ⟨(Nat.le_of_ble_eq_true rfl), (Nat.le_of_ble_eq_true rfl)⟩ (Nat.le_of_ble_eq_true rfl) rfl rfl c7 rfl rfl rfl ?_
  refine L_icmp_eq (t := 929) dL_law_686 (by decide) (q := 689) rfl (fun _ => kk h2 I2) (fun c => absurd rfl c)
theorem lkv_L_101 : LkV RL 101 M_X6_fits := ⟨(lg_mem 592 (by decide +kernel) rfl), (lg_mem 593 (by decide +kernel) rfl), (lg_mem 594 (by decide +kernel) rfl)⟩
theorem lkv_L_104 : LkV RL 104 M_X7_fits := ⟨(lg_mem 960 (by decide +kernel) rfl), (lg_mem 961 (by decide +kernel) rfl), (lg_mem 962 (by decide +kernel) rfl)⟩
theorem law_fits {γ : GX} {bx : BX} {h : HP} {i : Nat} {Ψ : PS} (hi : i + 4 ≤ bx.2.1) (hL : bx.2.1 ≤ 2048) (I : INV γ h) (kk : ∀ h', INV γ h' → El γ bx M_law (109, 2030) 109 h' (lvL γ bx i) 929 [] Ψ) : El γ bx M_law (109, 2030) 109 h (lvL γ bx i) 691 [] Ψ := by
  obtain ⟨N, hN⟩ : ∃ N, 8000 < N := ⟨8001, by omega⟩
  obtain ⟨v, h1, h2, c6, c7, ⟨fs7, hy⟩, I2⟩ := step_fits hN I (bx.2.2 (nI i + nI 1).toNatClampNeg) (bx.2.2 (nI i + nI 2).toNatClampNeg)
  obtain ⟨fs6, hx⟩ := inv_x I
  refine L_aload_n 2 dL_law_691 (q := 692) rfl rfl rfl ?_
  refine L_aload_n 3 dL_law_692 (q := 693) rfl rfl rfl ?_
  refine L_iload_n 0 dL_law_693 (q := 694) rfl rfl rfl ?_
  refine L_iconst (x := nI 1) dL_law_694 (q := 695) rfl rfl ?_
  refine L_iadd dL_law_695 (q := 696) rfl ?_
  refine L_sld (vin hi hL (by omega)) dL_law_696 (q := 697) rfl ?_
  refine L_aload_n 3 dL_law_697 (q := 698) rfl rfl rfl ?_
  refine L_iload_n 0 dL_law_698 (q := 699) rfl rfl rfl ?_
  refine L_iconst (x := nI 2) dL_law_699 (q := 700) rfl rfl ?_
  refine L_iadd dL_law_700 (q := 701) rfl ?_
  refine L_sld (vin hi hL (by omega)) dL_law_701 (q := 702) rfl ?_
  refine L_cV (as := [.int (bx.2.2 (nI i + nI 1).toNatClampNeg), .int (bx.2.2 (nI i + nI 2).toNatClampNeg)]) (k := 0) (rest := []) dL_law_702 (q := 705) rfl lkm_X6_fits lkv_L_101 (Nat.le_of_ble_eq_true rfl) ckX6 hx (by omega) ⟨(Nat.le_of_ble_eq_true rfl), (Nat.le_of_ble_eq_true rfl)⟩ (Nat.le_of_ble_eq_true rfl) rfl rfl c6 rfl rfl rfl ?_
  refine L_aload_n 1 dL_law_705 (q := 706) rfl rfl rfl ?_
  refine L_aload_n 3 dL_law_706 (q := 707) rfl rfl rfl ?_
  refine L_iload_n 0 dL_law_707 (q := 708) rfl rfl rfl ?_
  refine L_iconst (x := nI 1) dL_law_708 (q := 709) rfl rfl ?_
  refine L_iadd dL_law_709 (q := 710) rfl ?_
  refine L_sld (vin hi hL (by omega)) dL_law_710 (q := 711) rfl ?_
  refine L_aload_n 3 dL_law_711 (q := 712) rfl rfl rfl ?_
  refine L_iload_n 0 dL_law_712 (q := 713) rfl rfl rfl ?_
  refine L_iconst (x := nI 2) dL_law_713 (q := 714) rfl rfl ?_
  refine L_iadd dL_law_714 (q := 715) rfl ?_
  refine L_sld (vin hi hL (by omega)) dL_law_715 (q := 716) rfl ?_
  refine L_cV (as := [.int (bx.2.2 (nI i + nI 1).toNatClampNeg), .int (bx.2.2 (nI i + nI 2).toNatClampNeg)]) (k := 93) (rest := [.int v]) dL_law_716 (q := 719) rfl lkm_X7_fits lkv_L_104 (Nat.le_of_ble_eq_true rfl) ckX7 hy (by omega) ⟨(Nat.le_of_ble_eq_true rfl), (Nat.le_of_ble_eq_true rfl)⟩ (Nat.le_of_ble_eq_true rfl) rfl rfl c7 rfl rfl rfl ?_
  refine L_icmp_eq (t := 929) dL_law_719 (by decide) (q := 722) rfl (fun _ => kk h2 I2) (fun c => absurd rfl c)
theorem lkv_L_105 : LkV RL 105 M_X6_had := ⟨(lg_mem 606 (by decide +kernel) rfl), (lg_mem 607 (by decide +kernel) rfl), (lg_mem 608 (by decide +kernel) rfl)⟩
theorem lkv_L_108 : LkV RL 108 M_X7_had := ⟨(lg_mem 968 (by decide +kernel) rfl), (lg_mem 969 (by decide +kernel) rfl), (lg_mem 970 (by decide +kernel) rfl)⟩
theorem law_had {γ : GX} {bx : BX} {h : HP} {i : Nat} {Ψ : PS} (hi : i + 4 ≤ bx.2.1) (hL : bx.2.1 ≤ 2048) (I : INV γ h) (kk : ∀ h', INV γ h' → El γ bx M_law (109, 2030) 109 h' (lvL γ bx i) 929 [] Ψ) : El γ bx M_law (109, 2030) 109 h (lvL γ bx i) 724 [] Ψ := by
  obtain ⟨N, hN⟩ : ∃ N, 8000 < N := ⟨8001, by omega⟩
  obtain ⟨v, h1, h2, c6, c7, ⟨fs7, hy⟩, I2⟩ := step_had hN I (bx.2.2 (nI i + nI 1).toNatClampNeg) (bx.2.2 (nI i + nI 2).toNatClampNeg)
  obtain ⟨fs6, hx⟩ := inv_x I
  refine L_aload_n 2 dL_law_724 (q := 725) rfl rfl rfl ?_
  refine L_aload_n 3 dL_law_725 (q := 726) rfl rfl rfl ?_
  refine L_iload_n 0 dL_law_726 (q := 727) rfl rfl rfl ?_
  refine L_iconst (x := nI 1) dL_law_727 (q := 728) rfl rfl ?_
  refine L_iadd dL_law_728 (q := 729) rfl ?_
  refine L_sld (vin hi hL (by omega)) dL_law_729 (q := 730) rfl ?_
  refine L_aload_n 3 dL_law_730 (q := 731) rfl rfl rfl ?_
  refine L_iload_n 0 dL_law_731 (q := 732) rfl rfl rfl ?_
  refine L_iconst (x := nI 2) dL_law_732 (q := 733) rfl rfl ?_
  refine L_iadd dL_law_733 (q := 734) rfl ?_
  refine L_sld (vin hi hL (by omega)) dL_law_734 (q := 735) rfl ?_
  refine L_cV (as := [.int (bx.2.2 (nI i + nI 1).toNatClampNeg), .int (bx.2.2 (nI i + nI 2).toNatClampNeg)]) (k := 0) (rest := []) dL_law_735 (q := 738) rfl lkm_X6_had lkv_L_105 (Nat.le_of_ble_eq_true rfl) ckX6 hx (by omega) ⟨(Nat.le_of_ble_eq_true rfl), (Nat.le_of_ble_eq_true rfl)⟩ (Nat.le_of_ble_eq_true rfl) rfl rfl c6 rfl rfl rfl ?_
  refine L_aload_n 1 dL_law_738 (q := 739) rfl rfl rfl ?_
  refine L_aload_n 3 dL_law_739 (q := 740) rfl rfl rfl ?_
  refine L_iload_n 0 dL_law_740 (q := 741) rfl rfl rfl ?_
  refine L_iconst (x := nI 1) dL_law_741 (q := 742) rfl rfl ?_
  refine L_iadd dL_law_742 (q := 743) rfl ?_
  refine L_sld (vin hi hL (by omega)) dL_law_743 (q := 744) rfl ?_
  refine L_aload_n 3 dL_law_744 (q := 745) rfl rfl rfl ?_
  refine L_iload_n 0 dL_law_745 (q := 746) rfl rfl rfl ?_
  refine L_iconst (x := nI 2) dL_law_746 (q := 747) rfl rfl ?_
  refine L_iadd dL_law_747 (q := 748) rfl ?_
  refine L_sld (vin hi hL (by omega)) dL_law_748 (q := 749) rfl ?_
  refine L_cV (as := [.int (bx.2.2 (nI i + nI 1).toNatClampNeg), .int (bx.2.2 (nI i + nI 2).toNatClampNeg)]) (k := 93) (rest := [.int v]) dL_law_749 (q := 752) rfl lkm_X7_had lkv_L_108 (Nat.le_of_ble_eq_true rfl) ckX7 hy (by omega) ⟨(Nat.le_of_ble_eq_true rfl), (Nat.le_of_ble_eq_true rfl)⟩ (Nat.le_of_ble_eq_true rfl) rfl rfl c7 rfl rfl rfl ?_
  refine L_icmp_eq (t := 929) dL_law_752 (by decide) (q := 755) rfl (fun _ => kk h2 I2) (fun c => absurd rfl c)
theorem lkv_L_109 : LkV RL 109 M_X6_fair := ⟨(lg_mem 610 (by decide +kernel) rfl), (lg_mem 611 (by decide +kernel) rfl), (lg_mem 612 (by decide +kernel) rfl)⟩
theorem lkv_L_112 : LkV RL 112 M_X7_fair := ⟨(lg_mem 972 (by decide +kernel) rfl), (lg_mem 973 (by decide +kernel) rfl), (lg_mem 974 (by decide +kernel) rfl)⟩
theorem law_fair {γ : GX} {bx : BX} {h : HP} {i : Nat} {Ψ : PS} (hi : i + 4 ≤ bx.2.1) (hL : bx.2.1 ≤ 2048) (I : INV γ h) (kk : ∀ h', INV γ h' → El γ bx M_law (109, 2030) 109 h' (lvL γ bx i) 929 [] Ψ) : El γ bx M_law (109, 2030) 109 h (lvL γ bx i) 757 [] Ψ := by
  obtain ⟨N, hN⟩ : ∃ N, 8000 < N := ⟨8001, by omega⟩
  obtain ⟨v, h1, h2, c6, c7, ⟨fs7, hy⟩, I2⟩ := step_fair hN I 
  obtain ⟨fs6, hx⟩ := inv_x I
  refine L_aload_n 2 dL_law_757 (q := 758) rfl rfl rfl ?_
  refine L_cV (as := []) (k := 0) (rest := []) dL_law_758 (q := 761) rfl lkm_X6_fair lkv_L_109 (Nat.le_of_ble_eq_true rfl) ckX6 hx (by omega) ⟨(Nat.le_of_ble_eq_true rfl), (Nat.le_of_ble_eq_true rfl)⟩ (Nat.le_of_ble_eq_true rfl) rfl rfl c6 rfl rfl rfl ?_
  refine L_aload_n 1 dL_law_761 (q := 762) rfl rfl rfl ?_
  refine L_cV (as := []) (k := 93) (rest := [.int v]) dL_law_762 (q := 765) rfl lkm_X7_fair lkv_L_112 (Nat.le_of_ble_eq_true rfl) ckX7 hy (by omega) ⟨(Nat.le_of_ble_eq_true rfl), (Nat.le_of_ble_eq_true rfl)⟩ (Nat.le_of_ble_eq_true rfl) rfl rfl c7 rfl rfl rfl ?_
  refine L_icmp_eq (t := 929) dL_law_765 (by decide) (q := 768) rfl (fun _ => kk h2 I2) (fun c => absurd rfl c)
theorem lkv_L_113 : LkV RL 113 M_X6_cow := ⟨(lg_mem 618 (by decide +kernel) rfl), (lg_mem 619 (by decide +kernel) rfl), (lg_mem 620 (by decide +kernel) rfl)⟩
theorem lkv_L_116 : LkV RL 116 M_X7_cow := ⟨(lg_mem 976 (by decide +kernel) rfl), (lg_mem 977 (by decide +kernel) rfl), (lg_mem 978 (by decide +kernel) rfl)⟩
theorem law_cow {γ : GX} {bx : BX} {h : HP} {i : Nat} {Ψ : PS} (hi : i + 4 ≤ bx.2.1) (hL : bx.2.1 ≤ 2048) (I : INV γ h) (kk : ∀ h', INV γ h' → El γ bx M_law (109, 2030) 109 h' (lvL γ bx i) 929 [] Ψ) : El γ bx M_law (109, 2030) 109 h (lvL γ bx i) 770 [] Ψ := by
  obtain ⟨N, hN⟩ : ∃ N, 8000 < N := ⟨8001, by omega⟩
  obtain ⟨v, h1, h2, c6, c7, ⟨fs7, hy⟩, I2⟩ := step_cow hN I (bx.2.2 (nI i + nI 1).toNatClampNeg) (bx.2.2 (nI i + nI 2).toNatClampNeg) (bx.2.2 (nI i + nI 3).toNatClampNeg)
  obtain ⟨fs6, hx⟩ := inv_x I
  refine L_aload_n 2 dL_law_770 (q := 771) rfl rfl rfl ?_
  refine L_aload_n 3 dL_law_771 (q := 772) rfl rfl rfl ?_
  refine L_iload_n 0 dL_law_772 (q := 773) rfl rfl rfl ?_
  refine L_iconst (x := nI 1) dL_law_773 (q := 774) rfl rfl ?_
  refine L_iadd dL_law_774 (q := 775) rfl ?_
  refine L_sld (vin hi hL (by omega)) dL_law_775 (q := 776) rfl ?_
  refine L_aload_n 3 dL_law_776 (q := 777) rfl rfl rfl ?_
  refine L_iload_n 0 dL_law_777 (q := 778) rfl rfl rfl ?_
  refine L_iconst (x := nI 2) dL_law_778 (q := 779) rfl rfl ?_
  refine L_iadd dL_law_779 (q := 780) rfl ?_
  refine L_sld (vin hi hL (by omega)) dL_law_780 (q := 781) rfl ?_
  refine L_aload_n 3 dL_law_781 (q := 782) rfl rfl rfl ?_
  refine L_iload_n 0 dL_law_782 (q := 783) rfl rfl rfl ?_
  refine L_iconst (x := nI 3) dL_law_783 (q := 784) rfl rfl ?_
  refine L_iadd dL_law_784 (q := 785) rfl ?_
  refine L_sld (vin hi hL (by omega)) dL_law_785 (q := 786) rfl ?_
  refine L_cV (as := [.int (bx.2.2 (nI i + nI 1).toNatClampNeg), .int (bx.2.2 (nI i + nI 2).toNatClampNeg), .int (bx.2.2 (nI i + nI 3).toNatClampNeg)]) (k := 0) (rest := []) dL_law_786 (q := 789) rfl lkm_X6_cow lkv_L_113 (Nat.le_of_ble_eq_true rfl) ckX6 hx (by omega) ⟨(Nat.le_of_ble_eq_true rfl), (Nat.le_of_ble_eq_true rfl)⟩ (Nat.le_of_ble_eq_true rfl) rfl rfl c6 rfl rfl rfl ?_
  refine L_aload_n 1 dL_law_789 (q := 790) rfl rfl rfl ?_
  refine L_aload_n 3 dL_law_790 (q := 791) rfl rfl rfl ?_
  refine L_iload_n 0 dL_law_791 (q := 792) rfl rfl rfl ?_
  refine L_iconst (x := nI 1) dL_law_792 (q := 793) rfl rfl ?_
  refine L_iadd dL_law_793 (q := 794) rfl ?_
  refine L_sld (vin hi hL (by omega)) dL_law_794 (q := 795) rfl ?_
  refine L_aload_n 3 dL_law_795 (q := 796) rfl rfl rfl ?_
  refine L_iload_n 0 dL_law_796 (q := 797) rfl rfl rfl ?_
  refine L_iconst (x := nI 2) dL_law_797 (q := 798) rfl rfl ?_
  refine L_iadd dL_law_798 (q := 799) rfl ?_
  refine L_sld (vin hi hL (by omega)) dL_law_799 (q := 800) rfl ?_
  refine L_aload_n 3 dL_law_800 (q := 801) rfl rfl rfl ?_
  refine L_iload_n 0 dL_law_801 (q := 802) rfl rfl rfl ?_
  refine L_iconst (x := nI 3) dL_law_802 (q := 803) rfl rfl ?_
  refine L_iadd dL_law_803 (q := 804) rfl ?_
  refine L_sld (vin hi hL (by omega)) dL_law_804 (q := 805) rfl ?_
  refine L_cV (as := [.int (bx.2.2 (nI i + nI 1).toNatClampNeg), .int (bx.2.2 (nI i + nI 2).toNatClampNeg), .int (bx.2.2 (nI i + nI 3).toNatClampNeg)]) (k := 93) (rest := [.int v]) dL_law_805 (q := 808) rfl lkm_X7_cow lkv_L_116 (Nat.le_of_ble_eq_true rfl) ckX7 hy (by omega) ⟨(Nat.le_of_ble_eq_true rfl), (Nat.le_of_ble_eq_true rfl)⟩ (Nat.le_of_ble_eq_true rfl) rfl rfl c7 rfl rfl rfl ?_
  refine L_icmp_eq (t := 929) dL_law_808 (by decide) (q := 811) rfl (fun _ => kk h2 I2) (fun c => absurd rfl c)
theorem lkv_L_117 : LkV RL 117 M_X6_rate := ⟨(lg_mem 622 (by decide +kernel) rfl), (lg_mem 623 (by decide +kernel) rfl), (lg_mem 624 (by decide +kernel) rfl)⟩
theorem lkv_L_120 : LkV RL 120 M_X7_rate := ⟨(lg_mem 980 (by decide +kernel) rfl), (lg_mem 981 (by decide +kernel) rfl), (lg_mem 982 (by decide +kernel) rfl)⟩
theorem law_rate {γ : GX} {bx : BX} {h : HP} {i : Nat} {Ψ : PS} (hi : i + 4 ≤ bx.2.1) (hL : bx.2.1 ≤ 2048) (I : INV γ h) (kk : ∀ h', INV γ h' → El γ bx M_law (109, 2030) 109 h' (lvL γ bx i) 929 [] Ψ) : El γ bx M_law (109, 2030) 109 h (lvL γ bx i) 813 [] Ψ := by
  obtain ⟨N, hN⟩ : ∃ N, 8000 < N := ⟨8001, by omega⟩
  obtain ⟨v, h1, h2, c6, c7, ⟨fs7, hy⟩, I2⟩ := step_rate hN I (bx.2.2 (nI i + nI 1).toNatClampNeg) (bx.2.2 (nI i + nI 2).toNatClampNeg)
  obtain ⟨fs6, hx⟩ := inv_x I
  refine L_aload_n 2 dL_law_813 (q := 814) rfl rfl rfl ?_
  refine L_aload_n 3 dL_law_814 (q := 815) rfl rfl rfl ?_
  refine L_iload_n 0 dL_law_815 (q := 816) rfl rfl rfl ?_
  refine L_iconst (x := nI 1) dL_law_816 (q := 817) rfl rfl ?_
  refine L_iadd dL_law_817 (q := 818) rfl ?_
  refine L_sld (vin hi hL (by omega)) dL_law_818 (q := 819) rfl ?_
  refine L_aload_n 3 dL_law_819 (q := 820) rfl rfl rfl ?_
  refine L_iload_n 0 dL_law_820 (q := 821) rfl rfl rfl ?_
  refine L_iconst (x := nI 2) dL_law_821 (q := 822) rfl rfl ?_
  refine L_iadd dL_law_822 (q := 823) rfl ?_
  refine L_sld (vin hi hL (by omega)) dL_law_823 (q := 824) rfl ?_
  refine L_cV (as := [.int (bx.2.2 (nI i + nI 1).toNatClampNeg), .int (bx.2.2 (nI i + nI 2).toNatClampNeg)]) (k := 0) (rest := []) dL_law_824 (q := 827) rfl lkm_X6_rate lkv_L_117 (Nat.le_of_ble_eq_true rfl) ckX6 hx (by omega) ⟨(Nat.le_of_ble_eq_true rfl), (Nat.le_of_ble_eq_true rfl)⟩ (Nat.le_of_ble_eq_true rfl) rfl rfl c6 rfl rfl rfl ?_
  refine L_aload_n 1 dL_law_827 (q := 828) rfl rfl rfl ?_
  refine L_aload_n 3 dL_law_828 (q := 829) rfl rfl rfl ?_
  refine L_iload_n 0 dL_law_829 (q := 830) rfl rfl rfl ?_
  refine L_iconst (x := nI 1) dL_law_830 (q := 831) rfl rfl ?_
  refine L_iadd dL_law_831 (q := 832) rfl ?_
  refine L_sld (vin hi hL (by omega)) dL_law_832 (q := 833) rfl ?_
  refine L_aload_n 3 dL_law_833 (q := 834) rfl rfl rfl ?_
  refine L_iload_n 0 dL_law_834 (q := 835) rfl rfl rfl ?_
  refine L_iconst (x := nI 2) dL_law_835 (q := 836) rfl rfl ?_
  refine L_iadd dL_law_836 (q := 837) rfl ?_
  refine L_sld (vin hi hL (by omega)) dL_law_837 (q := 838) rfl ?_
  refine L_cV (as := [.int (bx.2.2 (nI i + nI 1).toNatClampNeg), .int (bx.2.2 (nI i + nI 2).toNatClampNeg)]) (k := 93) (rest := [.int v]) dL_law_838 (q := 841) rfl lkm_X7_rate lkv_L_120 (Nat.le_of_ble_eq_true rfl) ckX7 hy (by omega) ⟨(Nat.le_of_ble_eq_true rfl), (Nat.le_of_ble_eq_true rfl)⟩ (Nat.le_of_ble_eq_true rfl) rfl rfl c7 rfl rfl rfl ?_
  refine L_icmp_eq (t := 929) dL_law_841 (by decide) (q := 844) rfl (fun _ => kk h2 I2) (fun c => absurd rfl c)
theorem lkv_L_121 : LkV RL 121 M_X6_keep := ⟨(lg_mem 656 (by decide +kernel) rfl), (lg_mem 657 (by decide +kernel) rfl), (lg_mem 658 (by decide +kernel) rfl)⟩
theorem lkv_L_124 : LkV RL 124 M_X7_keep := ⟨(lg_mem 990 (by decide +kernel) rfl), (lg_mem 991 (by decide +kernel) rfl), (lg_mem 992 (by decide +kernel) rfl)⟩
theorem law_keep {γ : GX} {bx : BX} {h : HP} {i : Nat} {Ψ : PS} (hi : i + 4 ≤ bx.2.1) (hL : bx.2.1 ≤ 2048) (I : INV γ h) (kk : ∀ h', INV γ h' → El γ bx M_law (109, 2030) 109 h' (lvL γ bx i) 929 [] Ψ) : El γ bx M_law (109, 2030) 109 h (lvL γ bx i) 846 [] Ψ := by
  obtain ⟨N, hN⟩ : ∃ N, 8000 < N := ⟨8001, by omega⟩
  obtain ⟨v, h1, h2, c6, c7, ⟨fs7, hy⟩, I2⟩ := step_keep hN I (bx.2.2 (nI i + nI 1).toNatClampNeg)
  obtain ⟨fs6, hx⟩ := inv_x I
  refine L_aload_n 2 dL_law_846 (q := 847) rfl rfl rfl ?_
  refine L_aload_n 3 dL_law_847 (q := 848) rfl rfl rfl ?_
  refine L_iload_n 0 dL_law_848 (q := 849) rfl rfl rfl ?_
  refine L_iconst (x := nI 1) dL_law_849 (q := 850) rfl rfl ?_
  refine L_iadd dL_law_850 (q := 851) rfl ?_
  refine L_sld (vin hi hL (by omega)) dL_law_851 (q := 852) rfl ?_
  refine L_cV (as := [.int (bx.2.2 (nI i + nI 1).toNatClampNeg)]) (k := 0) (rest := []) dL_law_852 (q := 855) rfl lkm_X6_keep lkv_L_121 (Nat.le_of_ble_eq_true rfl) ckX6 hx (by omega) ⟨(Nat.le_of_ble_eq_true rfl), (Nat.le_of_ble_eq_true rfl)⟩ (Nat.le_of_ble_eq_true rfl) rfl rfl c6 rfl rfl rfl ?_
  refine L_aload_n 1 dL_law_855 (q := 856) rfl rfl rfl ?_
  refine L_aload_n 3 dL_law_856 (q := 857) rfl rfl rfl ?_
  refine L_iload_n 0 dL_law_857 (q := 858) rfl rfl rfl ?_
  refine L_iconst (x := nI 1) dL_law_858 (q := 859) rfl rfl ?_
  refine L_iadd dL_law_859 (q := 860) rfl ?_
  refine L_sld (vin hi hL (by omega)) dL_law_860 (q := 861) rfl ?_
  refine L_cV (as := [.int (bx.2.2 (nI i + nI 1).toNatClampNeg)]) (k := 93) (rest := [.int v]) dL_law_861 (q := 864) rfl lkm_X7_keep lkv_L_124 (Nat.le_of_ble_eq_true rfl) ckX7 hy (by omega) ⟨(Nat.le_of_ble_eq_true rfl), (Nat.le_of_ble_eq_true rfl)⟩ (Nat.le_of_ble_eq_true rfl) rfl rfl c7 rfl rfl rfl ?_
  refine L_icmp_eq (t := 929) dL_law_864 (by decide) (q := 867) rfl (fun _ => kk h2 I2) (fun c => absurd rfl c)
theorem lkv_L_125 : LkV RL 125 M_X6_back := ⟨(lg_mem 660 (by decide +kernel) rfl), (lg_mem 661 (by decide +kernel) rfl), (lg_mem 662 (by decide +kernel) rfl)⟩
theorem lkv_L_128 : LkV RL 128 M_X7_back := ⟨(lg_mem 994 (by decide +kernel) rfl), (lg_mem 995 (by decide +kernel) rfl), (lg_mem 996 (by decide +kernel) rfl)⟩
theorem law_back {γ : GX} {bx : BX} {h : HP} {i : Nat} {Ψ : PS} (hi : i + 4 ≤ bx.2.1) (hL : bx.2.1 ≤ 2048) (I : INV γ h) (kk : ∀ h', INV γ h' → El γ bx M_law (109, 2030) 109 h' (lvL γ bx i) 929 [] Ψ) : El γ bx M_law (109, 2030) 109 h (lvL γ bx i) 869 [] Ψ := by
  obtain ⟨N, hN⟩ : ∃ N, 8000 < N := ⟨8001, by omega⟩
  obtain ⟨v, h1, h2, c6, c7, ⟨fs7, hy⟩, I2⟩ := step_back hN I (bx.2.2 (nI i + nI 1).toNatClampNeg)
  obtain ⟨fs6, hx⟩ := inv_x I
  refine L_aload_n 2 dL_law_869 (q := 870) rfl rfl rfl ?_
  refine L_aload_n 3 dL_law_870 (q := 871) rfl rfl rfl ?_
  refine L_iload_n 0 dL_law_871 (q := 872) rfl rfl rfl ?_
  refine L_iconst (x := nI 1) dL_law_872 (q := 873) rfl rfl ?_
  refine L_iadd dL_law_873 (q := 874) rfl ?_
  refine L_sld (vin hi hL (by omega)) dL_law_874 (q := 875) rfl ?_
  refine L_cV (as := [.int (bx.2.2 (nI i + nI 1).toNatClampNeg)]) (k := 0) (rest := []) dL_law_875 (q := 878) rfl lkm_X6_back lkv_L_125 (Nat.le_of_ble_eq_true rfl) ckX6 hx (by omega) ⟨(Nat.le_of_ble_eq_true rfl), (Nat.le_of_ble_eq_true rfl)⟩ (Nat.le_of_ble_eq_true rfl) rfl rfl c6 rfl rfl rfl ?_
  refine L_aload_n 1 dL_law_878 (q := 879) rfl rfl rfl ?_
  refine L_aload_n 3 dL_law_879 (q := 880) rfl rfl rfl ?_
  refine L_iload_n 0 dL_law_880 (q := 881) rfl rfl rfl ?_
  refine L_iconst (x := nI 1) dL_law_881 (q := 882) rfl rfl ?_
  refine L_iadd dL_law_882 (q := 883) rfl ?_
  refine L_sld (vin hi hL (by omega)) dL_law_883 (q := 884) rfl ?_
  refine L_cV (as := [.int (bx.2.2 (nI i + nI 1).toNatClampNeg)]) (k := 93) (rest := [.int v]) dL_law_884 (q := 887) rfl lkm_X7_back lkv_L_128 (Nat.le_of_ble_eq_true rfl) ckX7 hy (by omega) ⟨(Nat.le_of_ble_eq_true rfl), (Nat.le_of_ble_eq_true rfl)⟩ (Nat.le_of_ble_eq_true rfl) rfl rfl c7 rfl rfl rfl ?_
  refine L_icmp_eq (t := 929) dL_law_887 (by decide) (q := 890) rfl (fun _ => kk h2 I2) (fun c => absurd rfl c)
theorem lkv_L_129 : LkV RL 129 M_X6_count := ⟨(lg_mem 664 (by decide +kernel) rfl), (lg_mem 665 (by decide +kernel) rfl), (lg_mem 666 (by decide +kernel) rfl)⟩
theorem lkv_L_132 : LkV RL 132 M_X7_count := ⟨(lg_mem 998 (by decide +kernel) rfl), (lg_mem 999 (by decide +kernel) rfl), (lg_mem 1000 (by decide +kernel) rfl)⟩
theorem law_count {γ : GX} {bx : BX} {h : HP} {i : Nat} {Ψ : PS} (hi : i + 4 ≤ bx.2.1) (hL : bx.2.1 ≤ 2048) (I : INV γ h) (kk : ∀ h', INV γ h' → El γ bx M_law (109, 2030) 109 h' (lvL γ bx i) 929 [] Ψ) : El γ bx M_law (109, 2030) 109 h (lvL γ bx i) 892 [] Ψ := by
  obtain ⟨N, hN⟩ : ∃ N, 8000 < N := ⟨8001, by omega⟩
  obtain ⟨v, h1, h2, c6, c7, ⟨fs7, hy⟩, I2⟩ := step_count hN I (bx.2.2 (nI i + nI 1).toNatClampNeg)
  obtain ⟨fs6, hx⟩ := inv_x I
  refine L_aload_n 2 dL_law_892 (q := 893) rfl rfl rfl ?_
  refine L_aload_n 3 dL_law_893 (q := 894) rfl rfl rfl ?_
  refine L_iload_n 0 dL_law_894 (q := 895) rfl rfl rfl ?_
  refine L_iconst (x := nI 1) dL_law_895 (q := 896) rfl rfl ?_
  refine L_iadd dL_law_896 (q := 897) rfl ?_
  refine L_sld (vin hi hL (by omega)) dL_law_897 (q := 898) rfl ?_
  refine L_cV (as := [.int (bx.2.2 (nI i + nI 1).toNatClampNeg)]) (k := 0) (rest := []) dL_law_898 (q := 901) rfl lkm_X6_count lkv_L_129 (Nat.le_of_ble_eq_true rfl) ckX6 hx (by omega) ⟨(Nat.le_of_ble_eq_true rfl), (Nat.le_of_ble_eq_true rfl)⟩ (Nat.le_of_ble_eq_true rfl) rfl rfl c6 rfl rfl rfl ?_
  refine L_aload_n 1 dL_law_901 (q := 902) rfl rfl rfl ?_
  refine L_aload_n 3 dL_law_902 (q := 903) rfl rfl rfl ?_
  refine L_iload_n 0 dL_law_903 (q := 904) rfl rfl rfl ?_
  refine L_iconst (x := nI 1) dL_law_904 (q := 905) rfl rfl ?_
  refine L_iadd dL_law_905 (q := 906) rfl ?_
  refine L_sld (vin hi hL (by omega)) dL_law_906 (q := 907) rfl ?_
  refine L_cV (as := [.int (bx.2.2 (nI i + nI 1).toNatClampNeg)]) (k := 93) (rest := [.int v]) dL_law_907 (q := 910) rfl lkm_X7_count lkv_L_132 (Nat.le_of_ble_eq_true rfl) ckX7 hy (by omega) ⟨(Nat.le_of_ble_eq_true rfl), (Nat.le_of_ble_eq_true rfl)⟩ (Nat.le_of_ble_eq_true rfl) rfl rfl c7 rfl rfl rfl ?_
  refine L_icmp_eq (t := 929) dL_law_910 (by decide) (q := 913) rfl (fun _ => kk h2 I2) (fun c => absurd rfl c)
theorem lkv_L_133 : LkV RL 133 M_X6_trace := ⟨(lg_mem 668 (by decide +kernel) rfl), (lg_mem 669 (by decide +kernel) rfl), (lg_mem 670 (by decide +kernel) rfl)⟩
theorem lkv_L_137 : LkV RL 137 M_X7_trace := ⟨(lg_mem 1002 (by decide +kernel) rfl), (lg_mem 1003 (by decide +kernel) rfl), (lg_mem 1004 (by decide +kernel) rfl)⟩
theorem lcmp_self {v : Int64} : lg_cmp v v = 0 := by
  simp [lg_cmp]
theorem law_trace {γ : GX} {bx : BX} {h : HP} {i : Nat} {Ψ : PS} (hi : i + 4 ≤ bx.2.1) (hL : bx.2.1 ≤ 2048) (I : INV γ h) (kk : ∀ h', INV γ h' → El γ bx M_law (109, 2030) 109 h' (lvL γ bx i) 929 [] Ψ) : El γ bx M_law (109, 2030) 109 h (lvL γ bx i) 915 [] Ψ := by
  obtain ⟨N, hN⟩ : ∃ N, 8000 < N := ⟨8001, by omega⟩
  obtain ⟨v, h1, h2, c6, c7, ⟨fs7, hy⟩, I2⟩ := step_trace hN I 
  obtain ⟨fs6, hx⟩ := inv_x I
  refine L_aload_n 2 dL_law_915 (q := 916) rfl rfl rfl ?_
  refine L_cV (as := []) (k := 0) (rest := []) dL_law_916 (q := 919) rfl lkm_X6_trace lkv_L_133 (Nat.le_of_ble_eq_true rfl) ckX6 hx (by omega) ⟨(Nat.le_of_ble_eq_true rfl), (Nat.le_of_ble_eq_true rfl)⟩ (Nat.le_of_ble_eq_true rfl) rfl rfl c6 rfl rfl rfl ?_
  refine L_aload_n 1 dL_law_919 (q := 920) rfl rfl rfl ?_
  refine L_cV (as := []) (k := 93) (rest := [.long v]) dL_law_920 (q := 923) rfl lkm_X7_trace lkv_L_137 (Nat.le_of_ble_eq_true rfl) ckX7 hy (by omega) ⟨(Nat.le_of_ble_eq_true rfl), (Nat.le_of_ble_eq_true rfl)⟩ (Nat.le_of_ble_eq_true rfl) rfl rfl c7 rfl rfl rfl ?_
  refine L_lcmp dL_law_923 (q := 924) rfl ?_
  refine L_if_eq (t := 929) dL_law_924 (by decide) (q := 927) rfl (fun _ => kk h2 I2) (fun c => absurd lcmp_self c)
set_option maxHeartbeats 4000000 in
theorem law_loop {γ : GX} {bx : BX} {Ψ : PS} (hL : bx.2.1 ≤ 2048) (hΨ : ∀ h, Ψ (some (.int 1)) 109 h) : ∀ (n i : Nat) (h : HP), i ≤ bx.2.1 → bx.2.1 < i + n → INV γ h → El γ bx M_law (109, 2030) 109 h (lvL γ bx i) 18 [] Ψ := by
  intro n
  induction n with
  | zero => intro i h h1 h2; exact absurd h2 (by omega)
  | succ n ih =>
    intro i h hi hn I
    refine L_iload_n 0 dL_law_18 (q := 19) rfl rfl rfl ?_
    refine L_aload_n 3 dL_law_19 (q := 20) rfl rfl rfl ?_
    refine L_slen dL_law_20 (q := 21) rfl ?_
    refine L_iconst (x := 4) dL_law_21 (q := 22) rfl (by decide) ?_
    refine L_isub dL_law_22 (q := 23) rfl ?_
    refine L_icmp_gt (t := 935) dL_law_23 (by decide) (q := 26) rfl (fun _ => ?_) (fun c => ?_)
    · refine L_iconst (x := 1) dL_law_935 (q := 936) rfl (by decide) ?_
      exact L_zret dL_law_936 rfl (by decide) (hΨ h)
    have hm := law_more hi hL c
    have kk : ∀ h', INV γ h' → El γ bx M_law (109, 2030) 109 h' (lvL γ bx i) 929 [] Ψ := by
      intro h' I'
      refine L_iinc (v := nI (i + 4)) 0 (lvL γ bx (i + 4)) dL_law_929 (q := 932) rfl rfl (nI_add i 4) (Nat.le_of_ble_eq_true rfl) rfl ?_
      refine L_goto (q := 18) dL_law_932 (by decide) ?_
      exact ih (i + 4) h' hm (by omega) I'
    refine L_aload_n 3 dL_law_26 (q := 27) rfl rfl rfl ?_
    refine L_iload_n 0 dL_law_27 (q := 28) rfl rfl rfl ?_
    refine L_sld (vp_in_nI (by omega) (by omega)) dL_law_28 (q := 29) rfl ?_
    refine L_bipush (x := 31) dL_law_29 (q := 31) rfl (by decide) ?_
    refine L_iand dL_law_31 (q := 32) rfl ?_
    obtain ⟨k, hk, ek⟩ := and31 (bx.2.2 (nI i).toNatClampNeg)
    rw [ek]
    rcases (show k = 0 ∨ k = 1 ∨ k = 2 ∨ k = 3 ∨ k = 4 ∨ k = 5 ∨ k = 6 ∨ k = 7 ∨ k = 8 ∨ k = 9 ∨ k = 10 ∨ k = 11 ∨ k = 12 ∨ k = 13 ∨ k = 14 ∨ k = 15 ∨ k = 16 ∨ k = 17 ∨ k = 18 ∨ k = 19 ∨ k = 20 ∨ k = 21 ∨ k = 22 ∨ k = 23 ∨ k = 24 ∨ k = 25 ∨ k = 26 ∨ k = 27 ∨ k = 28 ∨ k = 29 ∨ k = 30 ∨ k = 31 by omega) with rfl | rfl | rfl | rfl | rfl | rfl | rfl | rfl | rfl | rfl | rfl | rfl | rfl | rfl | rfl | rfl | rfl | rfl | rfl | rfl | rfl | rfl | rfl | rfl | rfl | rfl | rfl | rfl | rfl | rfl | rfl | rfl
    · exact L_tabIn (t := 168) dL_law_32 (by decide) (by decide) (by rfl) (by decide) (law_type hm hL I kk)
    · exact L_tabIn (t := 191) dL_law_32 (by decide) (by decide) (by rfl) (by decide) (law_clear hm hL I kk)
    · exact L_tabIn (t := 204) dL_law_32 (by decide) (by decide) (by rfl) (by decide) (law_depot hm hL I kk)
    · exact L_tabIn (t := 217) dL_law_32 (by decide) (by decide) (by rfl) (by decide) (law_post hm hL I kk)
    · exact L_tabIn (t := 250) dL_law_32 (by decide) (by decide) (by rfl) (by decide) (law_man hm hL I kk)
    · exact L_tabIn (t := 283) dL_law_32 (by decide) (by decide) (by rfl) (by decide) (law_now hm hL I kk)
    · exact L_tabIn (t := 306) dL_law_32 (by decide) (by decide) (by rfl) (by decide) (law_sends hm hL I kk)
    · exact L_tabIn (t := 339) dL_law_32 (by decide) (by decide) (by rfl) (by decide) (law_calls hm hL I kk)
    · exact L_tabIn (t := 362) dL_law_32 (by decide) (by decide) (by rfl) (by decide) (law_hour hm hL I kk)
    · exact L_tabIn (t := 375) dL_law_32 (by decide) (by decide) (by rfl) (by decide) (law_relieves hm hL I kk)
    · exact L_tabIn (t := 408) dL_law_32 (by decide) (by decide) (by rfl) (by decide) (law_undo hm hL I kk)
    · exact L_tabIn (t := 421) dL_law_32 (by decide) (by decide) (by rfl) (by decide) (law_inHours hm hL I kk)
    · exact L_tabIn (t := 464) dL_law_32 (by decide) (by decide) (by rfl) (by decide) (law_round hm hL I kk)
    · exact L_tabIn (t := 487) dL_law_32 (by decide) (by decide) (by rfl) (by decide) (law_rota hm hL I kk)
    · exact L_tabIn (t := 510) dL_law_32 (by decide) (by decide) (by rfl) (by decide) (law_leave hm hL I kk)
    · exact L_tabIn (t := 523) dL_law_32 (by decide) (by decide) (by rfl) (by decide) (law_two hm hL I kk)
    · exact L_tabIn (t := 536) dL_law_32 (by decide) (by decide) (by rfl) (by decide) (law_unseen hm hL I kk)
    · exact L_tabIn (t := 569) dL_law_32 (by decide) (by decide) (by rfl) (by decide) (law_odds hm hL I kk)
    · exact L_tabIn (t := 602) dL_law_32 (by decide) (by decide) (by rfl) (by decide) (law_creep hm hL I kk)
    · exact L_tabIn (t := 635) dL_law_32 (by decide) (by decide) (by rfl) (by decide) (law_found hm hL I kk)
    · exact L_tabIn (t := 678) dL_law_32 (by decide) (by decide) (by rfl) (by decide) (law_forget hm hL I kk)
    · exact L_tabIn (t := 691) dL_law_32 (by decide) (by decide) (by rfl) (by decide) (law_fits hm hL I kk)
    · exact L_tabIn (t := 724) dL_law_32 (by decide) (by decide) (by rfl) (by decide) (law_had hm hL I kk)
    · exact L_tabIn (t := 757) dL_law_32 (by decide) (by decide) (by rfl) (by decide) (law_fair hm hL I kk)
    · exact L_tabIn (t := 770) dL_law_32 (by decide) (by decide) (by rfl) (by decide) (law_cow hm hL I kk)
    · exact L_tabIn (t := 813) dL_law_32 (by decide) (by decide) (by rfl) (by decide) (law_rate hm hL I kk)
    · exact L_tabIn (t := 846) dL_law_32 (by decide) (by decide) (by rfl) (by decide) (law_keep hm hL I kk)
    · exact L_tabIn (t := 869) dL_law_32 (by decide) (by decide) (by rfl) (by decide) (law_back hm hL I kk)
    · exact L_tabIn (t := 892) dL_law_32 (by decide) (by decide) (by rfl) (by decide) (law_count hm hL I kk)
    · exact L_tabIn (t := 915) dL_law_32 (by decide) (by decide) (by rfl) (by decide) (law_trace hm hL I kk)
    · exact L_tabOut (t := 929) dL_law_32 (by decide) (by decide) (kk h I)
    · exact L_tabOut (t := 929) dL_law_32 (by decide) (by decide) (kk h I)

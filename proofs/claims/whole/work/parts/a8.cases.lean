theorem LC_0 {Y : CG} {b : Nat} {X : CX} {q m sb L cs sl : Nat} {xs : Nat → Int32} {r : TR} {h : TH} {bb dd LL T : Nat} {A : St} {x : Int32} (C : NGd Y b X cL_law 4 RL 100 600000 7302250) (hY : ∀ a ∈ yL Y, b ≤ a) (S : Scr X b sb L xs) (tq : TO Y q 7) (tm : TO Y m 8) (hcs : cs ≤ 600000) (hsl : sl ≤ 7302250) (hi : vp_in (x + 1) L ∧ vp_in (x + 2) L ∧ vp_in (x + 3) L ∧ vp_in (x + 4) L ∧ vp_in (x + 5) L) (hC : Cx r q bb dd m LL T h A) (hT : T + 100 ≤ 100000) (kk : ∀ r' b' d' L' h' A', Cx r' q b' d' m L' (T + 100) h' A' → LJ Y b X 4 1298 [(3, .int x), (2, .ref m), (1, .ref q), (0, .ref sb)] [] r' h' cs sl) : LJ Y b X 4 192 [(3, .int x), (2, .ref m), (1, .ref q), (0, .ref sb)] [] r h cs sl := by
  refine l_aload_n (pc := 192) rfl 2 rfl C dL_law_192 ?_
  refine l_aload_n (pc := 193) rfl 3 rfl C dL_law_193 ?_
  refine l_iload_n (pc := 194) rfl 0 rfl C dL_law_194 ?_
  refine l_iconst (pc := 195) (v := 1) (by decide) C dL_law_195 ?_
  refine l_iadd (pc := 196) C dL_law_196 ?_
  refine l_sld (pc := 197) C S hi.1 dL_law_197 ?_
  refine l_aload_n (pc := 198) rfl 3 rfl C dL_law_198 ?_
  refine l_iload_n (pc := 199) rfl 0 rfl C dL_law_199 ?_
  refine l_iconst (pc := 200) (v := 2) (by decide) C dL_law_200 ?_
  refine l_iadd (pc := 201) C dL_law_201 ?_
  refine l_sld (pc := 202) C S hi.2.1 dL_law_202 ?_
  refine l_aload_n (pc := 203) rfl 3 rfl C dL_law_203 ?_
  refine l_iload_n (pc := 204) rfl 0 rfl C dL_law_204 ?_
  refine l_iconst (pc := 205) (v := 3) (by decide) C dL_law_205 ?_
  refine l_iadd (pc := 206) C dL_law_206 ?_
  refine l_sld (pc := 207) C S hi.2.2.1 dL_law_207 ?_
  refine l_aload_n (pc := 208) rfl 3 rfl C dL_law_208 ?_
  refine l_iload_n (pc := 209) rfl 0 rfl C dL_law_209 ?_
  refine l_iconst (pc := 210) (v := 4) (by decide) C dL_law_210 ?_
  refine l_iadd (pc := 211) C dL_law_211 ?_
  refine l_sld (pc := 212) C S hi.2.2.2.1 dL_law_212 ?_
  refine l_aload_n (pc := 213) rfl 3 rfl C dL_law_213 ?_
  refine l_iload_n (pc := 214) rfl 0 rfl C dL_law_214 ?_
  refine l_iconst (pc := 215) (v := 5) (by decide) C dL_law_215 ?_
  refine l_iadd (pc := 216) C dL_law_216 ?_
  refine l_sld (pc := 217) C S hi.2.2.2.2 dL_law_217 ?_
  have hD := J_feed (a1 := (xs (x + 1).toNatClampNeg)) (a2 := (xs (x + 2).toNatClampNeg)) (a3 := (xs (x + 3).toNatClampNeg)) (a4 := (xs (x + 4).toNatClampNeg)) (a5 := (xs (x + 5).toNatClampNeg)) (Q := fun v y h2 => v = y ∧ LJ Y b X 4 1298 [(3, .int x), (2, .ref m), (1, .ref q), (0, .ref sb)] [] r h2 cs sl) hC (fun v h' A' c' => ⟨rfl, kk _ _ _ _ h' A' (c'.up (Nat.le_add_right _ _) hT)⟩)
  refine l_callVi (pc := 218) (k := 7) (As := [.int (xs (x + 1).toNatClampNeg), .int (xs (x + 2).toNatClampNeg), .int (xs (x + 3).toNatClampNeg), .int (xs (x + 4).toNatClampNeg), .int (xs (x + 5).toNatClampNeg)]) (st := []) C hY mv_RL_13 (M_SR_feed tq hD) tq (by decide) rfl rfl (Nat.le_of_ble_eq_true rfl) hcs hsl dL_law_218 (fun v h1 hk1 => ?_)
  refine l_aload_n (pc := 221) rfl 1 rfl C dL_law_221 ?_
  refine l_aload_n (pc := 222) rfl 3 rfl C dL_law_222 ?_
  refine l_iload_n (pc := 223) rfl 0 rfl C dL_law_223 ?_
  refine l_iconst (pc := 224) (v := 1) (by decide) C dL_law_224 ?_
  refine l_iadd (pc := 225) C dL_law_225 ?_
  refine l_sld (pc := 226) C S hi.1 dL_law_226 ?_
  refine l_aload_n (pc := 227) rfl 3 rfl C dL_law_227 ?_
  refine l_iload_n (pc := 228) rfl 0 rfl C dL_law_228 ?_
  refine l_iconst (pc := 229) (v := 2) (by decide) C dL_law_229 ?_
  refine l_iadd (pc := 230) C dL_law_230 ?_
  refine l_sld (pc := 231) C S hi.2.1 dL_law_231 ?_
  refine l_aload_n (pc := 232) rfl 3 rfl C dL_law_232 ?_
  refine l_iload_n (pc := 233) rfl 0 rfl C dL_law_233 ?_
  refine l_iconst (pc := 234) (v := 3) (by decide) C dL_law_234 ?_
  refine l_iadd (pc := 235) C dL_law_235 ?_
  refine l_sld (pc := 236) C S hi.2.2.1 dL_law_236 ?_
  refine l_aload_n (pc := 237) rfl 3 rfl C dL_law_237 ?_
  refine l_iload_n (pc := 238) rfl 0 rfl C dL_law_238 ?_
  refine l_iconst (pc := 239) (v := 4) (by decide) C dL_law_239 ?_
  refine l_iadd (pc := 240) C dL_law_240 ?_
  refine l_sld (pc := 241) C S hi.2.2.2.1 dL_law_241 ?_
  refine l_aload_n (pc := 242) rfl 3 rfl C dL_law_242 ?_
  refine l_iload_n (pc := 243) rfl 0 rfl C dL_law_243 ?_
  refine l_iconst (pc := 244) (v := 5) (by decide) C dL_law_244 ?_
  refine l_iadd (pc := 245) C dL_law_245 ?_
  refine l_sld (pc := 246) C S hi.2.2.2.2 dL_law_246 ?_
  refine l_callVi (pc := 247) (k := 8) (As := [.int (xs (x + 1).toNatClampNeg), .int (xs (x + 2).toNatClampNeg), .int (xs (x + 3).toNatClampNeg), .int (xs (x + 4).toNatClampNeg), .int (xs (x + 5).toNatClampNeg)]) (st := [.int v]) C hY mv_RL_17 (M_Mo_feed tm hk1) tm (by decide) rfl rfl (Nat.le_of_ble_eq_true rfl) hcs hsl dL_law_247 (fun v2 h2 hk2 => ?_)
  refine l_icmp_eq (pc := 250) 1298 C dL_law_250 (by decide) (fun _ => ?_) (fun ne => absurd hk2.1 ne)
  exact hk2.2
theorem LC_1 {Y : CG} {b : Nat} {X : CX} {q m sb L cs sl : Nat} {xs : Nat → Int32} {r : TR} {h : TH} {bb dd LL T : Nat} {A : St} {x : Int32} (C : NGd Y b X cL_law 4 RL 100 600000 7302250) (hY : ∀ a ∈ yL Y, b ≤ a) (S : Scr X b sb L xs) (tq : TO Y q 7) (tm : TO Y m 8) (hcs : cs ≤ 600000) (hsl : sl ≤ 7302250) (hi : vp_in (x + 1) L ∧ vp_in (x + 2) L ∧ vp_in (x + 3) L ∧ vp_in (x + 4) L ∧ vp_in (x + 5) L) (hC : Cx r q bb dd m LL T h A) (hT : T + 100 ≤ 100000) (kk : ∀ r' b' d' L' h' A', Cx r' q b' d' m L' (T + 100) h' A' → LJ Y b X 4 1298 [(3, .int x), (2, .ref m), (1, .ref q), (0, .ref sb)] [] r' h' cs sl) : LJ Y b X 4 255 [(3, .int x), (2, .ref m), (1, .ref q), (0, .ref sb)] [] r h cs sl := by
  refine l_aload_n (pc := 255) rfl 2 rfl C dL_law_255 ?_
  refine l_aload_n (pc := 256) rfl 3 rfl C dL_law_256 ?_
  refine l_iload_n (pc := 257) rfl 0 rfl C dL_law_257 ?_
  refine l_iconst (pc := 258) (v := 1) (by decide) C dL_law_258 ?_
  refine l_iadd (pc := 259) C dL_law_259 ?_
  refine l_sld (pc := 260) C S hi.1 dL_law_260 ?_
  have hD := J_back (a1 := (xs (x + 1).toNatClampNeg)) (Q := fun v y h2 => v = y ∧ LJ Y b X 4 1298 [(3, .int x), (2, .ref m), (1, .ref q), (0, .ref sb)] [] r h2 cs sl) hC (fun v h' A' c' => ⟨rfl, kk _ _ _ _ h' A' (c'.up (Nat.le_add_right _ _) hT)⟩)
  refine l_callVi (pc := 261) (k := 7) (As := [.int (xs (x + 1).toNatClampNeg)]) (st := []) C hY mv_RL_18 (M_SR_back tq hD) tq (by decide) rfl rfl (Nat.le_of_ble_eq_true rfl) hcs hsl dL_law_261 (fun v h1 hk1 => ?_)
  refine l_aload_n (pc := 264) rfl 1 rfl C dL_law_264 ?_
  refine l_aload_n (pc := 265) rfl 3 rfl C dL_law_265 ?_
  refine l_iload_n (pc := 266) rfl 0 rfl C dL_law_266 ?_
  refine l_iconst (pc := 267) (v := 1) (by decide) C dL_law_267 ?_
  refine l_iadd (pc := 268) C dL_law_268 ?_
  refine l_sld (pc := 269) C S hi.1 dL_law_269 ?_
  refine l_callVi (pc := 270) (k := 8) (As := [.int (xs (x + 1).toNatClampNeg)]) (st := [.int v]) C hY mv_RL_22 (M_Mo_back tm hk1) tm (by decide) rfl rfl (Nat.le_of_ble_eq_true rfl) hcs hsl dL_law_270 (fun v2 h2 hk2 => ?_)
  refine l_icmp_eq (pc := 273) 1298 C dL_law_273 (by decide) (fun _ => ?_) (fun ne => absurd hk2.1 ne)
  exact hk2.2
theorem LC_2 {Y : CG} {b : Nat} {X : CX} {q m sb L cs sl : Nat} {xs : Nat → Int32} {r : TR} {h : TH} {bb dd LL T : Nat} {A : St} {x : Int32} (C : NGd Y b X cL_law 4 RL 100 600000 7302250) (hY : ∀ a ∈ yL Y, b ≤ a) (S : Scr X b sb L xs) (tq : TO Y q 7) (tm : TO Y m 8) (hcs : cs ≤ 600000) (hsl : sl ≤ 7302250) (hi : vp_in (x + 1) L ∧ vp_in (x + 2) L ∧ vp_in (x + 3) L ∧ vp_in (x + 4) L ∧ vp_in (x + 5) L) (hC : Cx r q bb dd m LL T h A) (hT : T + 100 ≤ 100000) (kk : ∀ r' b' d' L' h' A', Cx r' q b' d' m L' (T + 100) h' A' → LJ Y b X 4 1298 [(3, .int x), (2, .ref m), (1, .ref q), (0, .ref sb)] [] r' h' cs sl) : LJ Y b X 4 278 [(3, .int x), (2, .ref m), (1, .ref q), (0, .ref sb)] [] r h cs sl := by
  refine l_aload_n (pc := 278) rfl 2 rfl C dL_law_278 ?_
  have hD := J_read (Q := fun v y r' h2 => v = y ∧ LJ Y b X 4 1298 [(3, .int x), (2, .ref m), (1, .ref q), (0, .ref sb)] [] r' h2 cs sl) hC (fun v r' b' d' L' h' A' c' => ⟨rfl, kk r' b' d' L' h' A' (c'.up (Nat.le_add_right _ _) hT)⟩)
  refine l_callVir (pc := 279) (k := 7) (As := []) (st := []) C hY mv_RL_23 (M_SR_read tq hD) tq (by decide) rfl rfl (Nat.le_of_ble_eq_true rfl) hcs hsl dL_law_279 (fun v r1 h1 hk1 => ?_)
  refine l_aload_n (pc := 282) rfl 1 rfl C dL_law_282 ?_
  refine l_callVi (pc := 283) (k := 8) (As := []) (st := [.int v]) C hY mv_RL_27 (M_Mo_read tm hk1) tm (by decide) rfl rfl (Nat.le_of_ble_eq_true rfl) hcs hsl dL_law_283 (fun v2 h2 hk2 => ?_)
  refine l_icmp_eq (pc := 286) 1298 C dL_law_286 (by decide) (fun _ => ?_) (fun ne => absurd hk2.1 ne)
  exact hk2.2
theorem LC_3 {Y : CG} {b : Nat} {X : CX} {q m sb L cs sl : Nat} {xs : Nat → Int32} {r : TR} {h : TH} {bb dd LL T : Nat} {A : St} {x : Int32} (C : NGd Y b X cL_law 4 RL 100 600000 7302250) (hY : ∀ a ∈ yL Y, b ≤ a) (S : Scr X b sb L xs) (tq : TO Y q 7) (tm : TO Y m 8) (hcs : cs ≤ 600000) (hsl : sl ≤ 7302250) (hi : vp_in (x + 1) L ∧ vp_in (x + 2) L ∧ vp_in (x + 3) L ∧ vp_in (x + 4) L ∧ vp_in (x + 5) L) (hC : Cx r q bb dd m LL T h A) (hT : T + 100 ≤ 100000) (kk : ∀ r' b' d' L' h' A', Cx r' q b' d' m L' (T + 100) h' A' → LJ Y b X 4 1298 [(3, .int x), (2, .ref m), (1, .ref q), (0, .ref sb)] [] r' h' cs sl) : LJ Y b X 4 291 [(3, .int x), (2, .ref m), (1, .ref q), (0, .ref sb)] [] r h cs sl := by
  refine l_aload_n (pc := 291) rfl 2 rfl C dL_law_291 ?_
  have hD := J_place (Q := fun v y h2 => v = y ∧ LJ Y b X 4 1298 [(3, .int x), (2, .ref m), (1, .ref q), (0, .ref sb)] [] r h2 cs sl) hC (fun v h' c' => ⟨rfl, kk _ _ _ _ h' _ (c'.up (Nat.le_add_right _ _) hT)⟩)
  refine l_callVi (pc := 292) (k := 7) (As := []) (st := []) C hY mv_RL_28 (M_SR_place tq hD) tq (by decide) rfl rfl (Nat.le_of_ble_eq_true rfl) hcs hsl dL_law_292 (fun v h1 hk1 => ?_)
  refine l_aload_n (pc := 295) rfl 1 rfl C dL_law_295 ?_
  refine l_callVi (pc := 296) (k := 8) (As := []) (st := [.int v]) C hY mv_RL_31 (M_Mo_place tm hk1) tm (by decide) rfl rfl (Nat.le_of_ble_eq_true rfl) hcs hsl dL_law_296 (fun v2 h2 hk2 => ?_)
  refine l_icmp_eq (pc := 299) 1298 C dL_law_299 (by decide) (fun _ => ?_) (fun ne => absurd hk2.1 ne)
  exact hk2.2
theorem LC_4 {Y : CG} {b : Nat} {X : CX} {q m sb L cs sl : Nat} {xs : Nat → Int32} {r : TR} {h : TH} {bb dd LL T : Nat} {A : St} {x : Int32} (C : NGd Y b X cL_law 4 RL 100 600000 7302250) (hY : ∀ a ∈ yL Y, b ≤ a) (S : Scr X b sb L xs) (tq : TO Y q 7) (tm : TO Y m 8) (hcs : cs ≤ 600000) (hsl : sl ≤ 7302250) (hi : vp_in (x + 1) L ∧ vp_in (x + 2) L ∧ vp_in (x + 3) L ∧ vp_in (x + 4) L ∧ vp_in (x + 5) L) (hC : Cx r q bb dd m LL T h A) (hT : T + 100 ≤ 100000) (kk : ∀ r' b' d' L' h' A', Cx r' q b' d' m L' (T + 100) h' A' → LJ Y b X 4 1298 [(3, .int x), (2, .ref m), (1, .ref q), (0, .ref sb)] [] r' h' cs sl) : LJ Y b X 4 304 [(3, .int x), (2, .ref m), (1, .ref q), (0, .ref sb)] [] r h cs sl := by
  refine l_aload_n (pc := 304) rfl 2 rfl C dL_law_304 ?_
  refine l_aload_n (pc := 305) rfl 3 rfl C dL_law_305 ?_
  refine l_iload_n (pc := 306) rfl 0 rfl C dL_law_306 ?_
  refine l_iconst (pc := 307) (v := 1) (by decide) C dL_law_307 ?_
  refine l_iadd (pc := 308) C dL_law_308 ?_
  refine l_sld (pc := 309) C S hi.1 dL_law_309 ?_
  refine l_aload_n (pc := 310) rfl 3 rfl C dL_law_310 ?_
  refine l_iload_n (pc := 311) rfl 0 rfl C dL_law_311 ?_
  refine l_iconst (pc := 312) (v := 2) (by decide) C dL_law_312 ?_
  refine l_iadd (pc := 313) C dL_law_313 ?_
  refine l_sld (pc := 314) C S hi.2.1 dL_law_314 ?_
  have hD := J_boat (a1 := (xs (x + 1).toNatClampNeg)) (a2 := (xs (x + 2).toNatClampNeg)) (Q := fun v y h2 => v = y ∧ LJ Y b X 4 1298 [(3, .int x), (2, .ref m), (1, .ref q), (0, .ref sb)] [] r h2 cs sl) hC (fun v h' c' => ⟨rfl, kk _ _ _ _ h' _ (c'.up (Nat.le_add_right _ _) hT)⟩)
  refine l_callVi (pc := 315) (k := 7) (As := [.int (xs (x + 1).toNatClampNeg), .int (xs (x + 2).toNatClampNeg)]) (st := []) C hY mv_RL_32 (M_SR_boat tq hD) tq (by decide) rfl rfl (Nat.le_of_ble_eq_true rfl) hcs hsl dL_law_315 (fun v h1 hk1 => ?_)
  refine l_aload_n (pc := 318) rfl 1 rfl C dL_law_318 ?_
  refine l_aload_n (pc := 319) rfl 3 rfl C dL_law_319 ?_
  refine l_iload_n (pc := 320) rfl 0 rfl C dL_law_320 ?_
  refine l_iconst (pc := 321) (v := 1) (by decide) C dL_law_321 ?_
  refine l_iadd (pc := 322) C dL_law_322 ?_
  refine l_sld (pc := 323) C S hi.1 dL_law_323 ?_
  refine l_aload_n (pc := 324) rfl 3 rfl C dL_law_324 ?_
  refine l_iload_n (pc := 325) rfl 0 rfl C dL_law_325 ?_
  refine l_iconst (pc := 326) (v := 2) (by decide) C dL_law_326 ?_
  refine l_iadd (pc := 327) C dL_law_327 ?_
  refine l_sld (pc := 328) C S hi.2.1 dL_law_328 ?_
  refine l_callVi (pc := 329) (k := 8) (As := [.int (xs (x + 1).toNatClampNeg), .int (xs (x + 2).toNatClampNeg)]) (st := [.int v]) C hY mv_RL_36 (M_Mo_boat tm hk1) tm (by decide) rfl rfl (Nat.le_of_ble_eq_true rfl) hcs hsl dL_law_329 (fun v2 h2 hk2 => ?_)
  refine l_icmp_eq (pc := 332) 1298 C dL_law_332 (by decide) (fun _ => ?_) (fun ne => absurd hk2.1 ne)
  exact hk2.2
theorem LC_5 {Y : CG} {b : Nat} {X : CX} {q m sb L cs sl : Nat} {xs : Nat → Int32} {r : TR} {h : TH} {bb dd LL T : Nat} {A : St} {x : Int32} (C : NGd Y b X cL_law 4 RL 100 600000 7302250) (hY : ∀ a ∈ yL Y, b ≤ a) (S : Scr X b sb L xs) (tq : TO Y q 7) (tm : TO Y m 8) (hcs : cs ≤ 600000) (hsl : sl ≤ 7302250) (hi : vp_in (x + 1) L ∧ vp_in (x + 2) L ∧ vp_in (x + 3) L ∧ vp_in (x + 4) L ∧ vp_in (x + 5) L) (hC : Cx r q bb dd m LL T h A) (hT : T + 100 ≤ 100000) (kk : ∀ r' b' d' L' h' A', Cx r' q b' d' m L' (T + 100) h' A' → LJ Y b X 4 1298 [(3, .int x), (2, .ref m), (1, .ref q), (0, .ref sb)] [] r' h' cs sl) : LJ Y b X 4 337 [(3, .int x), (2, .ref m), (1, .ref q), (0, .ref sb)] [] r h cs sl := by
  refine l_aload_n (pc := 337) rfl 2 rfl C dL_law_337 ?_
  refine l_aload_n (pc := 338) rfl 3 rfl C dL_law_338 ?_
  refine l_iload_n (pc := 339) rfl 0 rfl C dL_law_339 ?_
  refine l_iconst (pc := 340) (v := 1) (by decide) C dL_law_340 ?_
  refine l_iadd (pc := 341) C dL_law_341 ?_
  refine l_sld (pc := 342) C S hi.1 dL_law_342 ?_
  refine l_aload_n (pc := 343) rfl 3 rfl C dL_law_343 ?_
  refine l_iload_n (pc := 344) rfl 0 rfl C dL_law_344 ?_
  refine l_iconst (pc := 345) (v := 2) (by decide) C dL_law_345 ?_
  refine l_iadd (pc := 346) C dL_law_346 ?_
  refine l_sld (pc := 347) C S hi.2.1 dL_law_347 ?_
  refine l_aload_n (pc := 348) rfl 3 rfl C dL_law_348 ?_
  refine l_iload_n (pc := 349) rfl 0 rfl C dL_law_349 ?_
  refine l_iconst (pc := 350) (v := 3) (by decide) C dL_law_350 ?_
  refine l_iadd (pc := 351) C dL_law_351 ?_
  refine l_sld (pc := 352) C S hi.2.2.1 dL_law_352 ?_
  have hD := J_cell (a1 := (xs (x + 1).toNatClampNeg)) (a2 := (xs (x + 2).toNatClampNeg)) (a3 := (xs (x + 3).toNatClampNeg)) (Q := fun v y h2 => v = y ∧ LJ Y b X 4 1298 [(3, .int x), (2, .ref m), (1, .ref q), (0, .ref sb)] [] r h2 cs sl) hC (fun v h' c' => ⟨rfl, kk _ _ _ _ h' _ (c'.up (Nat.le_add_right _ _) hT)⟩)
  refine l_callVi (pc := 353) (k := 7) (As := [.int (xs (x + 1).toNatClampNeg), .int (xs (x + 2).toNatClampNeg), .int (xs (x + 3).toNatClampNeg)]) (st := []) C hY mv_RL_37 (M_SR_cell tq hD) tq (by decide) rfl rfl (Nat.le_of_ble_eq_true rfl) hcs hsl dL_law_353 (fun v h1 hk1 => ?_)
  refine l_aload_n (pc := 356) rfl 1 rfl C dL_law_356 ?_
  refine l_aload_n (pc := 357) rfl 3 rfl C dL_law_357 ?_
  refine l_iload_n (pc := 358) rfl 0 rfl C dL_law_358 ?_
  refine l_iconst (pc := 359) (v := 1) (by decide) C dL_law_359 ?_
  refine l_iadd (pc := 360) C dL_law_360 ?_
  refine l_sld (pc := 361) C S hi.1 dL_law_361 ?_
  refine l_aload_n (pc := 362) rfl 3 rfl C dL_law_362 ?_
  refine l_iload_n (pc := 363) rfl 0 rfl C dL_law_363 ?_
  refine l_iconst (pc := 364) (v := 2) (by decide) C dL_law_364 ?_
  refine l_iadd (pc := 365) C dL_law_365 ?_
  refine l_sld (pc := 366) C S hi.2.1 dL_law_366 ?_
  refine l_aload_n (pc := 367) rfl 3 rfl C dL_law_367 ?_
  refine l_iload_n (pc := 368) rfl 0 rfl C dL_law_368 ?_
  refine l_iconst (pc := 369) (v := 3) (by decide) C dL_law_369 ?_
  refine l_iadd (pc := 370) C dL_law_370 ?_
  refine l_sld (pc := 371) C S hi.2.2.1 dL_law_371 ?_
  refine l_callVi (pc := 372) (k := 8) (As := [.int (xs (x + 1).toNatClampNeg), .int (xs (x + 2).toNatClampNeg), .int (xs (x + 3).toNatClampNeg)]) (st := [.int v]) C hY mv_RL_41 (M_Mo_cell tm hk1) tm (by decide) rfl rfl (Nat.le_of_ble_eq_true rfl) hcs hsl dL_law_372 (fun v2 h2 hk2 => ?_)
  refine l_icmp_eq (pc := 375) 1298 C dL_law_375 (by decide) (fun _ => ?_) (fun ne => absurd hk2.1 ne)
  exact hk2.2
theorem LC_6 {Y : CG} {b : Nat} {X : CX} {q m sb L cs sl : Nat} {xs : Nat → Int32} {r : TR} {h : TH} {bb dd LL T : Nat} {A : St} {x : Int32} (C : NGd Y b X cL_law 4 RL 100 600000 7302250) (hY : ∀ a ∈ yL Y, b ≤ a) (S : Scr X b sb L xs) (tq : TO Y q 7) (tm : TO Y m 8) (hcs : cs ≤ 600000) (hsl : sl ≤ 7302250) (hi : vp_in (x + 1) L ∧ vp_in (x + 2) L ∧ vp_in (x + 3) L ∧ vp_in (x + 4) L ∧ vp_in (x + 5) L) (hC : Cx r q bb dd m LL T h A) (hT : T + 100 ≤ 100000) (kk : ∀ r' b' d' L' h' A', Cx r' q b' d' m L' (T + 100) h' A' → LJ Y b X 4 1298 [(3, .int x), (2, .ref m), (1, .ref q), (0, .ref sb)] [] r' h' cs sl) : LJ Y b X 4 380 [(3, .int x), (2, .ref m), (1, .ref q), (0, .ref sb)] [] r h cs sl := by
  refine l_aload_n (pc := 380) rfl 2 rfl C dL_law_380 ?_
  refine l_aload_n (pc := 381) rfl 3 rfl C dL_law_381 ?_
  refine l_iload_n (pc := 382) rfl 0 rfl C dL_law_382 ?_
  refine l_iconst (pc := 383) (v := 1) (by decide) C dL_law_383 ?_
  refine l_iadd (pc := 384) C dL_law_384 ?_
  refine l_sld (pc := 385) C S hi.1 dL_law_385 ?_
  refine l_aload_n (pc := 386) rfl 3 rfl C dL_law_386 ?_
  refine l_iload_n (pc := 387) rfl 0 rfl C dL_law_387 ?_
  refine l_iconst (pc := 388) (v := 2) (by decide) C dL_law_388 ?_
  refine l_iadd (pc := 389) C dL_law_389 ?_
  refine l_sld (pc := 390) C S hi.2.1 dL_law_390 ?_
  refine l_aload_n (pc := 391) rfl 3 rfl C dL_law_391 ?_
  refine l_iload_n (pc := 392) rfl 0 rfl C dL_law_392 ?_
  refine l_iconst (pc := 393) (v := 3) (by decide) C dL_law_393 ?_
  refine l_iadd (pc := 394) C dL_law_394 ?_
  refine l_sld (pc := 395) C S hi.2.2.1 dL_law_395 ?_
  refine l_aload_n (pc := 396) rfl 3 rfl C dL_law_396 ?_
  refine l_iload_n (pc := 397) rfl 0 rfl C dL_law_397 ?_
  refine l_iconst (pc := 398) (v := 4) (by decide) C dL_law_398 ?_
  refine l_iadd (pc := 399) C dL_law_399 ?_
  refine l_sld (pc := 400) C S hi.2.2.2.1 dL_law_400 ?_
  refine l_if_eq (pc := 401) 408 C dL_law_401 (by decide) (fun c1 => ?_) (fun c1 => ?_)
  · refine l_iconst (pc := 408) (v := 0) (by decide) C dL_law_408 ?_
    have hD := J_laid (a1 := (xs (x + 1).toNatClampNeg)) (a2 := (xs (x + 2).toNatClampNeg)) (a3 := (xs (x + 3).toNatClampNeg)) (a4 := 0) (Q := fun v y h2 => v = y ∧ LJ Y b X 4 1298 [(3, .int x), (2, .ref m), (1, .ref q), (0, .ref sb)] [] r h2 cs sl) hC (fun v h' c' => ⟨rfl, kk _ _ _ _ h' _ (c'.up (Nat.le_add_right _ _) hT)⟩)
    refine l_callVi (pc := 409) (k := 7) (As := [.int (xs (x + 1).toNatClampNeg), .int (xs (x + 2).toNatClampNeg), .int (xs (x + 3).toNatClampNeg), .int 0]) (st := []) C hY mv_RL_42 (M_SR_laid tq hD) tq (by decide) rfl rfl (Nat.le_of_ble_eq_true rfl) hcs hsl dL_law_409 (fun v h1 hk1 => ?_)
    refine l_aload_n (pc := 412) rfl 1 rfl C dL_law_412 ?_
    refine l_aload_n (pc := 413) rfl 3 rfl C dL_law_413 ?_
    refine l_iload_n (pc := 414) rfl 0 rfl C dL_law_414 ?_
    refine l_iconst (pc := 415) (v := 1) (by decide) C dL_law_415 ?_
    refine l_iadd (pc := 416) C dL_law_416 ?_
    refine l_sld (pc := 417) C S hi.1 dL_law_417 ?_
    refine l_aload_n (pc := 418) rfl 3 rfl C dL_law_418 ?_
    refine l_iload_n (pc := 419) rfl 0 rfl C dL_law_419 ?_
    refine l_iconst (pc := 420) (v := 2) (by decide) C dL_law_420 ?_
    refine l_iadd (pc := 421) C dL_law_421 ?_
    refine l_sld (pc := 422) C S hi.2.1 dL_law_422 ?_
    refine l_aload_n (pc := 423) rfl 3 rfl C dL_law_423 ?_
    refine l_iload_n (pc := 424) rfl 0 rfl C dL_law_424 ?_
    refine l_iconst (pc := 425) (v := 3) (by decide) C dL_law_425 ?_
    refine l_iadd (pc := 426) C dL_law_426 ?_
    refine l_sld (pc := 427) C S hi.2.2.1 dL_law_427 ?_
    refine l_aload_n (pc := 428) rfl 3 rfl C dL_law_428 ?_
    refine l_iload_n (pc := 429) rfl 0 rfl C dL_law_429 ?_
    refine l_iconst (pc := 430) (v := 4) (by decide) C dL_law_430 ?_
    refine l_iadd (pc := 431) C dL_law_431 ?_
    refine l_sld (pc := 432) C S hi.2.2.2.1 dL_law_432 ?_
    refine l_if_eq (pc := 433) 440 C dL_law_433 (by decide) (fun _ => ?_) (fun c2 => absurd c1 c2)
    refine l_iconst (pc := 440) (v := 0) (by decide) C dL_law_440 ?_
    refine l_callVi (pc := 441) (k := 8) (As := [.int (xs (x + 1).toNatClampNeg), .int (xs (x + 2).toNatClampNeg), .int (xs (x + 3).toNatClampNeg), .int 0]) (st := [.int v]) C hY mv_RL_46 (M_Mo_laid tm hk1) tm (by decide) rfl rfl (Nat.le_of_ble_eq_true rfl) hcs hsl dL_law_441 (fun v2 h2 hk2 => ?_)
    refine l_icmp_eq (pc := 444) 1298 C dL_law_444 (by decide) (fun _ => ?_) (fun ne => absurd hk2.1 ne)
    exact hk2.2
  · refine l_iconst (pc := 404) (v := 1) (by decide) C dL_law_404 ?_
    refine l_goto (pc := 405) 409 C dL_law_405 (by decide) ?_
    have hD := J_laid (a1 := (xs (x + 1).toNatClampNeg)) (a2 := (xs (x + 2).toNatClampNeg)) (a3 := (xs (x + 3).toNatClampNeg)) (a4 := 1) (Q := fun v y h2 => v = y ∧ LJ Y b X 4 1298 [(3, .int x), (2, .ref m), (1, .ref q), (0, .ref sb)] [] r h2 cs sl) hC (fun v h' c' => ⟨rfl, kk _ _ _ _ h' _ (c'.up (Nat.le_add_right _ _) hT)⟩)
    refine l_callVi (pc := 409) (k := 7) (As := [.int (xs (x + 1).toNatClampNeg), .int (xs (x + 2).toNatClampNeg), .int (xs (x + 3).toNatClampNeg), .int 1]) (st := []) C hY mv_RL_42 (M_SR_laid tq hD) tq (by decide) rfl rfl (Nat.le_of_ble_eq_true rfl) hcs hsl dL_law_409 (fun v h1 hk1 => ?_)
    refine l_aload_n (pc := 412) rfl 1 rfl C dL_law_412 ?_
    refine l_aload_n (pc := 413) rfl 3 rfl C dL_law_413 ?_
    refine l_iload_n (pc := 414) rfl 0 rfl C dL_law_414 ?_
    refine l_iconst (pc := 415) (v := 1) (by decide) C dL_law_415 ?_
    refine l_iadd (pc := 416) C dL_law_416 ?_
    refine l_sld (pc := 417) C S hi.1 dL_law_417 ?_
    refine l_aload_n (pc := 418) rfl 3 rfl C dL_law_418 ?_
    refine l_iload_n (pc := 419) rfl 0 rfl C dL_law_419 ?_
    refine l_iconst (pc := 420) (v := 2) (by decide) C dL_law_420 ?_
    refine l_iadd (pc := 421) C dL_law_421 ?_
    refine l_sld (pc := 422) C S hi.2.1 dL_law_422 ?_
    refine l_aload_n (pc := 423) rfl 3 rfl C dL_law_423 ?_
    refine l_iload_n (pc := 424) rfl 0 rfl C dL_law_424 ?_
    refine l_iconst (pc := 425) (v := 3) (by decide) C dL_law_425 ?_
    refine l_iadd (pc := 426) C dL_law_426 ?_
    refine l_sld (pc := 427) C S hi.2.2.1 dL_law_427 ?_
    refine l_aload_n (pc := 428) rfl 3 rfl C dL_law_428 ?_
    refine l_iload_n (pc := 429) rfl 0 rfl C dL_law_429 ?_
    refine l_iconst (pc := 430) (v := 4) (by decide) C dL_law_430 ?_
    refine l_iadd (pc := 431) C dL_law_431 ?_
    refine l_sld (pc := 432) C S hi.2.2.2.1 dL_law_432 ?_
    refine l_if_eq (pc := 433) 440 C dL_law_433 (by decide) (fun c2 => absurd c2 c1) (fun _ => ?_)
    refine l_iconst (pc := 436) (v := 1) (by decide) C dL_law_436 ?_
    refine l_goto (pc := 437) 441 C dL_law_437 (by decide) ?_
    refine l_callVi (pc := 441) (k := 8) (As := [.int (xs (x + 1).toNatClampNeg), .int (xs (x + 2).toNatClampNeg), .int (xs (x + 3).toNatClampNeg), .int 1]) (st := [.int v]) C hY mv_RL_46 (M_Mo_laid tm hk1) tm (by decide) rfl rfl (Nat.le_of_ble_eq_true rfl) hcs hsl dL_law_441 (fun v2 h2 hk2 => ?_)
    refine l_icmp_eq (pc := 444) 1298 C dL_law_444 (by decide) (fun _ => ?_) (fun ne => absurd hk2.1 ne)
    exact hk2.2
theorem LC_7 {Y : CG} {b : Nat} {X : CX} {q m sb L cs sl : Nat} {xs : Nat → Int32} {r : TR} {h : TH} {bb dd LL T : Nat} {A : St} {x : Int32} (C : NGd Y b X cL_law 4 RL 100 600000 7302250) (hY : ∀ a ∈ yL Y, b ≤ a) (S : Scr X b sb L xs) (tq : TO Y q 7) (tm : TO Y m 8) (hcs : cs ≤ 600000) (hsl : sl ≤ 7302250) (hi : vp_in (x + 1) L ∧ vp_in (x + 2) L ∧ vp_in (x + 3) L ∧ vp_in (x + 4) L ∧ vp_in (x + 5) L) (hC : Cx r q bb dd m LL T h A) (hT : T + 100 ≤ 100000) (kk : ∀ r' b' d' L' h' A', Cx r' q b' d' m L' (T + 100) h' A' → LJ Y b X 4 1298 [(3, .int x), (2, .ref m), (1, .ref q), (0, .ref sb)] [] r' h' cs sl) : LJ Y b X 4 449 [(3, .int x), (2, .ref m), (1, .ref q), (0, .ref sb)] [] r h cs sl := by
  refine l_aload_n (pc := 449) rfl 2 rfl C dL_law_449 ?_
  refine l_aload_n (pc := 450) rfl 3 rfl C dL_law_450 ?_
  refine l_iload_n (pc := 451) rfl 0 rfl C dL_law_451 ?_
  refine l_iconst (pc := 452) (v := 1) (by decide) C dL_law_452 ?_
  refine l_iadd (pc := 453) C dL_law_453 ?_
  refine l_sld (pc := 454) C S hi.1 dL_law_454 ?_
  have hD := J_wind (a1 := (xs (x + 1).toNatClampNeg)) (Q := fun v y h2 => v = y ∧ LJ Y b X 4 1298 [(3, .int x), (2, .ref m), (1, .ref q), (0, .ref sb)] [] r h2 cs sl) hC (fun v h' c' => ⟨rfl, kk _ _ _ _ h' _ (c'.up (Nat.le_add_right _ _) hT)⟩)
  refine l_callVi (pc := 455) (k := 7) (As := [.int (xs (x + 1).toNatClampNeg)]) (st := []) C hY mv_RL_47 (M_SR_wind tq hD) tq (by decide) rfl rfl (Nat.le_of_ble_eq_true rfl) hcs hsl dL_law_455 (fun v h1 hk1 => ?_)
  refine l_aload_n (pc := 458) rfl 1 rfl C dL_law_458 ?_
  refine l_aload_n (pc := 459) rfl 3 rfl C dL_law_459 ?_
  refine l_iload_n (pc := 460) rfl 0 rfl C dL_law_460 ?_
  refine l_iconst (pc := 461) (v := 1) (by decide) C dL_law_461 ?_
  refine l_iadd (pc := 462) C dL_law_462 ?_
  refine l_sld (pc := 463) C S hi.1 dL_law_463 ?_
  refine l_callVi (pc := 464) (k := 8) (As := [.int (xs (x + 1).toNatClampNeg)]) (st := [.int v]) C hY mv_RL_50 (M_Mo_wind tm hk1) tm (by decide) rfl rfl (Nat.le_of_ble_eq_true rfl) hcs hsl dL_law_464 (fun v2 h2 hk2 => ?_)
  refine l_icmp_eq (pc := 467) 1298 C dL_law_467 (by decide) (fun _ => ?_) (fun ne => absurd hk2.1 ne)
  exact hk2.2
theorem LC_8 {Y : CG} {b : Nat} {X : CX} {q m sb L cs sl : Nat} {xs : Nat → Int32} {r : TR} {h : TH} {bb dd LL T : Nat} {A : St} {x : Int32} (C : NGd Y b X cL_law 4 RL 100 600000 7302250) (hY : ∀ a ∈ yL Y, b ≤ a) (S : Scr X b sb L xs) (tq : TO Y q 7) (tm : TO Y m 8) (hcs : cs ≤ 600000) (hsl : sl ≤ 7302250) (hi : vp_in (x + 1) L ∧ vp_in (x + 2) L ∧ vp_in (x + 3) L ∧ vp_in (x + 4) L ∧ vp_in (x + 5) L) (hC : Cx r q bb dd m LL T h A) (hT : T + 100 ≤ 100000) (kk : ∀ r' b' d' L' h' A', Cx r' q b' d' m L' (T + 100) h' A' → LJ Y b X 4 1298 [(3, .int x), (2, .ref m), (1, .ref q), (0, .ref sb)] [] r' h' cs sl) : LJ Y b X 4 472 [(3, .int x), (2, .ref m), (1, .ref q), (0, .ref sb)] [] r h cs sl := by
  refine l_aload_n (pc := 472) rfl 2 rfl C dL_law_472 ?_
  refine l_aload_n (pc := 473) rfl 3 rfl C dL_law_473 ?_
  refine l_iload_n (pc := 474) rfl 0 rfl C dL_law_474 ?_
  refine l_iconst (pc := 475) (v := 1) (by decide) C dL_law_475 ?_
  refine l_iadd (pc := 476) C dL_law_476 ?_
  refine l_sld (pc := 477) C S hi.1 dL_law_477 ?_
  have hD := J_steers (a1 := (xs (x + 1).toNatClampNeg)) (Q := fun v y h2 => v = y ∧ LJ Y b X 4 1298 [(3, .int x), (2, .ref m), (1, .ref q), (0, .ref sb)] [] r h2 cs sl) hC (fun v h' c' => ⟨rfl, kk _ _ _ _ h' _ (c'.up (Nat.le_add_right _ _) hT)⟩)
  refine l_callVi (pc := 478) (k := 7) (As := [.int (xs (x + 1).toNatClampNeg)]) (st := []) C hY mv_RL_51 (M_SR_steers tq hD) tq (by decide) rfl rfl (Nat.le_of_ble_eq_true rfl) hcs hsl dL_law_478 (fun v h1 hk1 => ?_)
  refine l_aload_n (pc := 481) rfl 1 rfl C dL_law_481 ?_
  refine l_aload_n (pc := 482) rfl 3 rfl C dL_law_482 ?_
  refine l_iload_n (pc := 483) rfl 0 rfl C dL_law_483 ?_
  refine l_iconst (pc := 484) (v := 1) (by decide) C dL_law_484 ?_
  refine l_iadd (pc := 485) C dL_law_485 ?_
  refine l_sld (pc := 486) C S hi.1 dL_law_486 ?_
  refine l_callVi (pc := 487) (k := 8) (As := [.int (xs (x + 1).toNatClampNeg)]) (st := [.int v]) C hY mv_RL_54 (M_Mo_steers tm hk1) tm (by decide) rfl rfl (Nat.le_of_ble_eq_true rfl) hcs hsl dL_law_487 (fun v2 h2 hk2 => ?_)
  refine l_icmp_eq (pc := 490) 1298 C dL_law_490 (by decide) (fun _ => ?_) (fun ne => absurd hk2.1 ne)
  exact hk2.2
theorem LC_9 {Y : CG} {b : Nat} {X : CX} {q m sb L cs sl : Nat} {xs : Nat → Int32} {r : TR} {h : TH} {bb dd LL T : Nat} {A : St} {x : Int32} (C : NGd Y b X cL_law 4 RL 100 600000 7302250) (hY : ∀ a ∈ yL Y, b ≤ a) (S : Scr X b sb L xs) (tq : TO Y q 7) (tm : TO Y m 8) (hcs : cs ≤ 600000) (hsl : sl ≤ 7302250) (hi : vp_in (x + 1) L ∧ vp_in (x + 2) L ∧ vp_in (x + 3) L ∧ vp_in (x + 4) L ∧ vp_in (x + 5) L) (hC : Cx r q bb dd m LL T h A) (hT : T + 100 ≤ 100000) (kk : ∀ r' b' d' L' h' A', Cx r' q b' d' m L' (T + 100) h' A' → LJ Y b X 4 1298 [(3, .int x), (2, .ref m), (1, .ref q), (0, .ref sb)] [] r' h' cs sl) : LJ Y b X 4 495 [(3, .int x), (2, .ref m), (1, .ref q), (0, .ref sb)] [] r h cs sl := by
  refine l_aload_n (pc := 495) rfl 2 rfl C dL_law_495 ?_
  refine l_aload_n (pc := 496) rfl 3 rfl C dL_law_496 ?_
  refine l_iload_n (pc := 497) rfl 0 rfl C dL_law_497 ?_
  refine l_iconst (pc := 498) (v := 1) (by decide) C dL_law_498 ?_
  refine l_iadd (pc := 499) C dL_law_499 ?_
  refine l_sld (pc := 500) C S hi.1 dL_law_500 ?_
  have hD := J_hours (a1 := (xs (x + 1).toNatClampNeg)) (Q := fun v y h2 => v = y ∧ LJ Y b X 4 1298 [(3, .int x), (2, .ref m), (1, .ref q), (0, .ref sb)] [] r h2 cs sl) hC hT (fun v h' A' c' => ⟨rfl, kk _ _ _ _ h' A' (c')⟩)
  refine l_callVi (pc := 501) (k := 7) (As := [.int (xs (x + 1).toNatClampNeg)]) (st := []) C hY mv_RL_55 (M_SR_hours tq hD) tq (by decide) rfl rfl (Nat.le_of_ble_eq_true rfl) hcs hsl dL_law_501 (fun v h1 hk1 => ?_)
  refine l_aload_n (pc := 504) rfl 1 rfl C dL_law_504 ?_
  refine l_aload_n (pc := 505) rfl 3 rfl C dL_law_505 ?_
  refine l_iload_n (pc := 506) rfl 0 rfl C dL_law_506 ?_
  refine l_iconst (pc := 507) (v := 1) (by decide) C dL_law_507 ?_
  refine l_iadd (pc := 508) C dL_law_508 ?_
  refine l_sld (pc := 509) C S hi.1 dL_law_509 ?_
  refine l_callVi (pc := 510) (k := 8) (As := [.int (xs (x + 1).toNatClampNeg)]) (st := [.int v]) C hY mv_RL_58 (M_Mo_hours tm hk1) tm (by decide) rfl rfl (Nat.le_of_ble_eq_true rfl) hcs hsl dL_law_510 (fun v2 h2 hk2 => ?_)
  refine l_icmp_eq (pc := 513) 1298 C dL_law_513 (by decide) (fun _ => ?_) (fun ne => absurd hk2.1 ne)
  exact hk2.2
theorem LC_10 {Y : CG} {b : Nat} {X : CX} {q m sb L cs sl : Nat} {xs : Nat → Int32} {r : TR} {h : TH} {bb dd LL T : Nat} {A : St} {x : Int32} (C : NGd Y b X cL_law 4 RL 100 600000 7302250) (hY : ∀ a ∈ yL Y, b ≤ a) (S : Scr X b sb L xs) (tq : TO Y q 7) (tm : TO Y m 8) (hcs : cs ≤ 600000) (hsl : sl ≤ 7302250) (hi : vp_in (x + 1) L ∧ vp_in (x + 2) L ∧ vp_in (x + 3) L ∧ vp_in (x + 4) L ∧ vp_in (x + 5) L) (hC : Cx r q bb dd m LL T h A) (hT : T + 100 ≤ 100000) (kk : ∀ r' b' d' L' h' A', Cx r' q b' d' m L' (T + 100) h' A' → LJ Y b X 4 1298 [(3, .int x), (2, .ref m), (1, .ref q), (0, .ref sb)] [] r' h' cs sl) : LJ Y b X 4 518 [(3, .int x), (2, .ref m), (1, .ref q), (0, .ref sb)] [] r h cs sl := by
  refine l_aload_n (pc := 518) rfl 2 rfl C dL_law_518 ?_
  refine l_aload_n (pc := 519) rfl 3 rfl C dL_law_519 ?_
  refine l_iload_n (pc := 520) rfl 0 rfl C dL_law_520 ?_
  refine l_iconst (pc := 521) (v := 1) (by decide) C dL_law_521 ?_
  refine l_iadd (pc := 522) C dL_law_522 ?_
  refine l_sld (pc := 523) C S hi.1 dL_law_523 ?_
  refine l_aload_n (pc := 524) rfl 3 rfl C dL_law_524 ?_
  refine l_iload_n (pc := 525) rfl 0 rfl C dL_law_525 ?_
  refine l_iconst (pc := 526) (v := 2) (by decide) C dL_law_526 ?_
  refine l_iadd (pc := 527) C dL_law_527 ?_
  refine l_sld (pc := 528) C S hi.2.1 dL_law_528 ?_
  have hD := J_go (a1 := (xs (x + 1).toNatClampNeg)) (a2 := (xs (x + 2).toNatClampNeg)) (Q := fun v y h2 => v = y ∧ LJ Y b X 4 1298 [(3, .int x), (2, .ref m), (1, .ref q), (0, .ref sb)] [] r h2 cs sl) hC hT (fun v h' A' c' => ⟨rfl, kk _ _ _ _ h' A' (c')⟩)
  refine l_callVi (pc := 529) (k := 7) (As := [.int (xs (x + 1).toNatClampNeg), .int (xs (x + 2).toNatClampNeg)]) (st := []) C hY mv_RL_59 (M_SR_go tq hD) tq (by decide) rfl rfl (Nat.le_of_ble_eq_true rfl) hcs hsl dL_law_529 (fun v h1 hk1 => ?_)
  refine l_aload_n (pc := 532) rfl 1 rfl C dL_law_532 ?_
  refine l_aload_n (pc := 533) rfl 3 rfl C dL_law_533 ?_
  refine l_iload_n (pc := 534) rfl 0 rfl C dL_law_534 ?_
  refine l_iconst (pc := 535) (v := 1) (by decide) C dL_law_535 ?_
  refine l_iadd (pc := 536) C dL_law_536 ?_
  refine l_sld (pc := 537) C S hi.1 dL_law_537 ?_
  refine l_aload_n (pc := 538) rfl 3 rfl C dL_law_538 ?_
  refine l_iload_n (pc := 539) rfl 0 rfl C dL_law_539 ?_
  refine l_iconst (pc := 540) (v := 2) (by decide) C dL_law_540 ?_
  refine l_iadd (pc := 541) C dL_law_541 ?_
  refine l_sld (pc := 542) C S hi.2.1 dL_law_542 ?_
  refine l_callVi (pc := 543) (k := 8) (As := [.int (xs (x + 1).toNatClampNeg), .int (xs (x + 2).toNatClampNeg)]) (st := [.int v]) C hY mv_RL_62 (M_Mo_go tm hk1) tm (by decide) rfl rfl (Nat.le_of_ble_eq_true rfl) hcs hsl dL_law_543 (fun v2 h2 hk2 => ?_)
  refine l_icmp_eq (pc := 546) 1298 C dL_law_546 (by decide) (fun _ => ?_) (fun ne => absurd hk2.1 ne)
  exact hk2.2
theorem LC_11 {Y : CG} {b : Nat} {X : CX} {q m sb L cs sl : Nat} {xs : Nat → Int32} {r : TR} {h : TH} {bb dd LL T : Nat} {A : St} {x : Int32} (C : NGd Y b X cL_law 4 RL 100 600000 7302250) (hY : ∀ a ∈ yL Y, b ≤ a) (S : Scr X b sb L xs) (tq : TO Y q 7) (tm : TO Y m 8) (hcs : cs ≤ 600000) (hsl : sl ≤ 7302250) (hi : vp_in (x + 1) L ∧ vp_in (x + 2) L ∧ vp_in (x + 3) L ∧ vp_in (x + 4) L ∧ vp_in (x + 5) L) (hC : Cx r q bb dd m LL T h A) (hT : T + 100 ≤ 100000) (kk : ∀ r' b' d' L' h' A', Cx r' q b' d' m L' (T + 100) h' A' → LJ Y b X 4 1298 [(3, .int x), (2, .ref m), (1, .ref q), (0, .ref sb)] [] r' h' cs sl) : LJ Y b X 4 551 [(3, .int x), (2, .ref m), (1, .ref q), (0, .ref sb)] [] r h cs sl := by
  refine l_aload_n (pc := 551) rfl 2 rfl C dL_law_551 ?_
  refine l_aload_n (pc := 552) rfl 3 rfl C dL_law_552 ?_
  refine l_iload_n (pc := 553) rfl 0 rfl C dL_law_553 ?_
  refine l_iconst (pc := 554) (v := 1) (by decide) C dL_law_554 ?_
  refine l_iadd (pc := 555) C dL_law_555 ?_
  refine l_sld (pc := 556) C S hi.1 dL_law_556 ?_
  refine l_aload_n (pc := 557) rfl 3 rfl C dL_law_557 ?_
  refine l_iload_n (pc := 558) rfl 0 rfl C dL_law_558 ?_
  refine l_iconst (pc := 559) (v := 2) (by decide) C dL_law_559 ?_
  refine l_iadd (pc := 560) C dL_law_560 ?_
  refine l_sld (pc := 561) C S hi.2.1 dL_law_561 ?_
  refine l_if_eq (pc := 562) 569 C dL_law_562 (by decide) (fun c1 => ?_) (fun c1 => ?_)
  · refine l_iconst (pc := 569) (v := 0) (by decide) C dL_law_569 ?_
    have hD := J_pan (a1 := (xs (x + 1).toNatClampNeg)) (a2 := 0) (Q := fun v y h2 => v = y ∧ LJ Y b X 4 1298 [(3, .int x), (2, .ref m), (1, .ref q), (0, .ref sb)] [] r h2 cs sl) hC (Or.inl rfl) hT (fun v h' A' c' => ⟨rfl, kk _ _ _ _ h' A' (c')⟩)
    refine l_callVi (pc := 570) (k := 7) (As := [.int (xs (x + 1).toNatClampNeg), .int 0]) (st := []) C hY mv_RL_63 (M_SR_pan tq hD) tq (by decide) rfl rfl (Nat.le_of_ble_eq_true rfl) hcs hsl dL_law_570 (fun v h1 hk1 => ?_)
    refine l_aload_n (pc := 573) rfl 1 rfl C dL_law_573 ?_
    refine l_aload_n (pc := 574) rfl 3 rfl C dL_law_574 ?_
    refine l_iload_n (pc := 575) rfl 0 rfl C dL_law_575 ?_
    refine l_iconst (pc := 576) (v := 1) (by decide) C dL_law_576 ?_
    refine l_iadd (pc := 577) C dL_law_577 ?_
    refine l_sld (pc := 578) C S hi.1 dL_law_578 ?_
    refine l_aload_n (pc := 579) rfl 3 rfl C dL_law_579 ?_
    refine l_iload_n (pc := 580) rfl 0 rfl C dL_law_580 ?_
    refine l_iconst (pc := 581) (v := 2) (by decide) C dL_law_581 ?_
    refine l_iadd (pc := 582) C dL_law_582 ?_
    refine l_sld (pc := 583) C S hi.2.1 dL_law_583 ?_
    refine l_if_eq (pc := 584) 591 C dL_law_584 (by decide) (fun _ => ?_) (fun c2 => absurd c1 c2)
    refine l_iconst (pc := 591) (v := 0) (by decide) C dL_law_591 ?_
    refine l_callVi (pc := 592) (k := 8) (As := [.int (xs (x + 1).toNatClampNeg), .int 0]) (st := [.int v]) C hY mv_RL_67 (M_Mo_pan tm hk1) tm (by decide) rfl rfl (Nat.le_of_ble_eq_true rfl) hcs hsl dL_law_592 (fun v2 h2 hk2 => ?_)
    refine l_icmp_eq (pc := 595) 1298 C dL_law_595 (by decide) (fun _ => ?_) (fun ne => absurd hk2.1 ne)
    exact hk2.2
  · refine l_iconst (pc := 565) (v := 1) (by decide) C dL_law_565 ?_
    refine l_goto (pc := 566) 570 C dL_law_566 (by decide) ?_
    have hD := J_pan (a1 := (xs (x + 1).toNatClampNeg)) (a2 := 1) (Q := fun v y h2 => v = y ∧ LJ Y b X 4 1298 [(3, .int x), (2, .ref m), (1, .ref q), (0, .ref sb)] [] r h2 cs sl) hC (Or.inr rfl) hT (fun v h' A' c' => ⟨rfl, kk _ _ _ _ h' A' (c')⟩)
    refine l_callVi (pc := 570) (k := 7) (As := [.int (xs (x + 1).toNatClampNeg), .int 1]) (st := []) C hY mv_RL_63 (M_SR_pan tq hD) tq (by decide) rfl rfl (Nat.le_of_ble_eq_true rfl) hcs hsl dL_law_570 (fun v h1 hk1 => ?_)
    refine l_aload_n (pc := 573) rfl 1 rfl C dL_law_573 ?_
    refine l_aload_n (pc := 574) rfl 3 rfl C dL_law_574 ?_
    refine l_iload_n (pc := 575) rfl 0 rfl C dL_law_575 ?_
    refine l_iconst (pc := 576) (v := 1) (by decide) C dL_law_576 ?_
    refine l_iadd (pc := 577) C dL_law_577 ?_
    refine l_sld (pc := 578) C S hi.1 dL_law_578 ?_
    refine l_aload_n (pc := 579) rfl 3 rfl C dL_law_579 ?_
    refine l_iload_n (pc := 580) rfl 0 rfl C dL_law_580 ?_
    refine l_iconst (pc := 581) (v := 2) (by decide) C dL_law_581 ?_
    refine l_iadd (pc := 582) C dL_law_582 ?_
    refine l_sld (pc := 583) C S hi.2.1 dL_law_583 ?_
    refine l_if_eq (pc := 584) 591 C dL_law_584 (by decide) (fun c2 => absurd c2 c1) (fun _ => ?_)
    refine l_iconst (pc := 587) (v := 1) (by decide) C dL_law_587 ?_
    refine l_goto (pc := 588) 592 C dL_law_588 (by decide) ?_
    refine l_callVi (pc := 592) (k := 8) (As := [.int (xs (x + 1).toNatClampNeg), .int 1]) (st := [.int v]) C hY mv_RL_67 (M_Mo_pan tm hk1) tm (by decide) rfl rfl (Nat.le_of_ble_eq_true rfl) hcs hsl dL_law_592 (fun v2 h2 hk2 => ?_)
    refine l_icmp_eq (pc := 595) 1298 C dL_law_595 (by decide) (fun _ => ?_) (fun ne => absurd hk2.1 ne)
    exact hk2.2
theorem LC_12 {Y : CG} {b : Nat} {X : CX} {q m sb L cs sl : Nat} {xs : Nat → Int32} {r : TR} {h : TH} {bb dd LL T : Nat} {A : St} {x : Int32} (C : NGd Y b X cL_law 4 RL 100 600000 7302250) (hY : ∀ a ∈ yL Y, b ≤ a) (S : Scr X b sb L xs) (tq : TO Y q 7) (tm : TO Y m 8) (hcs : cs ≤ 600000) (hsl : sl ≤ 7302250) (hi : vp_in (x + 1) L ∧ vp_in (x + 2) L ∧ vp_in (x + 3) L ∧ vp_in (x + 4) L ∧ vp_in (x + 5) L) (hC : Cx r q bb dd m LL T h A) (hT : T + 100 ≤ 100000) (kk : ∀ r' b' d' L' h' A', Cx r' q b' d' m L' (T + 100) h' A' → LJ Y b X 4 1298 [(3, .int x), (2, .ref m), (1, .ref q), (0, .ref sb)] [] r' h' cs sl) : LJ Y b X 4 600 [(3, .int x), (2, .ref m), (1, .ref q), (0, .ref sb)] [] r h cs sl := by
  refine l_aload_n (pc := 600) rfl 2 rfl C dL_law_600 ?_
  have hD := J_undo (Q := fun v y h2 => v = y ∧ LJ Y b X 4 1298 [(3, .int x), (2, .ref m), (1, .ref q), (0, .ref sb)] [] r h2 cs sl) hC (fun v h' A' c' => ⟨rfl, kk _ _ _ _ h' A' (c'.up (Nat.le_add_right _ _) hT)⟩)
  refine l_callVi (pc := 601) (k := 7) (As := []) (st := []) C hY mv_RL_68 (M_SR_undo tq hD) tq (by decide) rfl rfl (Nat.le_of_ble_eq_true rfl) hcs hsl dL_law_601 (fun v h1 hk1 => ?_)
  refine l_aload_n (pc := 604) rfl 1 rfl C dL_law_604 ?_
  refine l_callVi (pc := 605) (k := 8) (As := []) (st := [.int v]) C hY mv_RL_72 (M_Mo_undo tm hk1) tm (by decide) rfl rfl (Nat.le_of_ble_eq_true rfl) hcs hsl dL_law_605 (fun v2 h2 hk2 => ?_)
  refine l_icmp_eq (pc := 608) 1298 C dL_law_608 (by decide) (fun _ => ?_) (fun ne => absurd hk2.1 ne)
  exact hk2.2
theorem LC_13 {Y : CG} {b : Nat} {X : CX} {q m sb L cs sl : Nat} {xs : Nat → Int32} {r : TR} {h : TH} {bb dd LL T : Nat} {A : St} {x : Int32} (C : NGd Y b X cL_law 4 RL 100 600000 7302250) (hY : ∀ a ∈ yL Y, b ≤ a) (S : Scr X b sb L xs) (tq : TO Y q 7) (tm : TO Y m 8) (hcs : cs ≤ 600000) (hsl : sl ≤ 7302250) (hi : vp_in (x + 1) L ∧ vp_in (x + 2) L ∧ vp_in (x + 3) L ∧ vp_in (x + 4) L ∧ vp_in (x + 5) L) (hC : Cx r q bb dd m LL T h A) (hT : T + 100 ≤ 100000) (kk : ∀ r' b' d' L' h' A', Cx r' q b' d' m L' (T + 100) h' A' → LJ Y b X 4 1298 [(3, .int x), (2, .ref m), (1, .ref q), (0, .ref sb)] [] r' h' cs sl) : LJ Y b X 4 613 [(3, .int x), (2, .ref m), (1, .ref q), (0, .ref sb)] [] r h cs sl := by
  refine l_aload_n (pc := 613) rfl 2 rfl C dL_law_613 ?_
  refine l_aload_n (pc := 614) rfl 3 rfl C dL_law_614 ?_
  refine l_iload_n (pc := 615) rfl 0 rfl C dL_law_615 ?_
  refine l_iconst (pc := 616) (v := 1) (by decide) C dL_law_616 ?_
  refine l_iadd (pc := 617) C dL_law_617 ?_
  refine l_sld (pc := 618) C S hi.1 dL_law_618 ?_
  refine l_aload_n (pc := 619) rfl 3 rfl C dL_law_619 ?_
  refine l_iload_n (pc := 620) rfl 0 rfl C dL_law_620 ?_
  refine l_iconst (pc := 621) (v := 2) (by decide) C dL_law_621 ?_
  refine l_iadd (pc := 622) C dL_law_622 ?_
  refine l_sld (pc := 623) C S hi.2.1 dL_law_623 ?_
  refine l_aload_n (pc := 624) rfl 3 rfl C dL_law_624 ?_
  refine l_iload_n (pc := 625) rfl 0 rfl C dL_law_625 ?_
  refine l_iconst (pc := 626) (v := 3) (by decide) C dL_law_626 ?_
  refine l_iadd (pc := 627) C dL_law_627 ?_
  refine l_sld (pc := 628) C S hi.2.2.1 dL_law_628 ?_
  have hD := J_then (a1 := (xs (x + 1).toNatClampNeg)) (a2 := (xs (x + 2).toNatClampNeg)) (a3 := (xs (x + 3).toNatClampNeg)) (Q := fun v y h2 => v = y ∧ LJ Y b X 4 1298 [(3, .int x), (2, .ref m), (1, .ref q), (0, .ref sb)] [] r h2 cs sl) hC (fun v h' c' => ⟨rfl, kk _ _ _ _ h' _ (c'.up (Nat.le_add_right _ _) hT)⟩)
  refine l_callVi (pc := 629) (k := 7) (As := [.int (xs (x + 1).toNatClampNeg), .int (xs (x + 2).toNatClampNeg), .int (xs (x + 3).toNatClampNeg)]) (st := []) C hY mv_RL_73 (M_SR_then tq hD) tq (by decide) rfl rfl (Nat.le_of_ble_eq_true rfl) hcs hsl dL_law_629 (fun v h1 hk1 => ?_)
  refine l_aload_n (pc := 632) rfl 1 rfl C dL_law_632 ?_
  refine l_aload_n (pc := 633) rfl 3 rfl C dL_law_633 ?_
  refine l_iload_n (pc := 634) rfl 0 rfl C dL_law_634 ?_
  refine l_iconst (pc := 635) (v := 1) (by decide) C dL_law_635 ?_
  refine l_iadd (pc := 636) C dL_law_636 ?_
  refine l_sld (pc := 637) C S hi.1 dL_law_637 ?_
  refine l_aload_n (pc := 638) rfl 3 rfl C dL_law_638 ?_
  refine l_iload_n (pc := 639) rfl 0 rfl C dL_law_639 ?_
  refine l_iconst (pc := 640) (v := 2) (by decide) C dL_law_640 ?_
  refine l_iadd (pc := 641) C dL_law_641 ?_
  refine l_sld (pc := 642) C S hi.2.1 dL_law_642 ?_
  refine l_aload_n (pc := 643) rfl 3 rfl C dL_law_643 ?_
  refine l_iload_n (pc := 644) rfl 0 rfl C dL_law_644 ?_
  refine l_iconst (pc := 645) (v := 3) (by decide) C dL_law_645 ?_
  refine l_iadd (pc := 646) C dL_law_646 ?_
  refine l_sld (pc := 647) C S hi.2.2.1 dL_law_647 ?_
  refine l_callVi (pc := 648) (k := 8) (As := [.int (xs (x + 1).toNatClampNeg), .int (xs (x + 2).toNatClampNeg), .int (xs (x + 3).toNatClampNeg)]) (st := [.int v]) C hY mv_RL_76 (M_Mo_then tm hk1) tm (by decide) rfl rfl (Nat.le_of_ble_eq_true rfl) hcs hsl dL_law_648 (fun v2 h2 hk2 => ?_)
  refine l_icmp_eq (pc := 651) 1298 C dL_law_651 (by decide) (fun _ => ?_) (fun ne => absurd hk2.1 ne)
  exact hk2.2
theorem LC_14 {Y : CG} {b : Nat} {X : CX} {q m sb L cs sl : Nat} {xs : Nat → Int32} {r : TR} {h : TH} {bb dd LL T : Nat} {A : St} {x : Int32} (C : NGd Y b X cL_law 4 RL 100 600000 7302250) (hY : ∀ a ∈ yL Y, b ≤ a) (S : Scr X b sb L xs) (tq : TO Y q 7) (tm : TO Y m 8) (hcs : cs ≤ 600000) (hsl : sl ≤ 7302250) (hi : vp_in (x + 1) L ∧ vp_in (x + 2) L ∧ vp_in (x + 3) L ∧ vp_in (x + 4) L ∧ vp_in (x + 5) L) (hC : Cx r q bb dd m LL T h A) (hT : T + 100 ≤ 100000) (kk : ∀ r' b' d' L' h' A', Cx r' q b' d' m L' (T + 100) h' A' → LJ Y b X 4 1298 [(3, .int x), (2, .ref m), (1, .ref q), (0, .ref sb)] [] r' h' cs sl) : LJ Y b X 4 656 [(3, .int x), (2, .ref m), (1, .ref q), (0, .ref sb)] [] r h cs sl := by
  refine l_aload_n (pc := 656) rfl 2 rfl C dL_law_656 ?_
  refine l_aload_n (pc := 657) rfl 3 rfl C dL_law_657 ?_
  refine l_iload_n (pc := 658) rfl 0 rfl C dL_law_658 ?_
  refine l_iconst (pc := 659) (v := 1) (by decide) C dL_law_659 ?_
  refine l_iadd (pc := 660) C dL_law_660 ?_
  refine l_sld (pc := 661) C S hi.1 dL_law_661 ?_
  refine l_aload_n (pc := 662) rfl 3 rfl C dL_law_662 ?_
  refine l_iload_n (pc := 663) rfl 0 rfl C dL_law_663 ?_
  refine l_iconst (pc := 664) (v := 2) (by decide) C dL_law_664 ?_
  refine l_iadd (pc := 665) C dL_law_665 ?_
  refine l_sld (pc := 666) C S hi.2.1 dL_law_666 ?_
  refine l_if_eq (pc := 667) 674 C dL_law_667 (by decide) (fun c1 => ?_) (fun c1 => ?_)
  · refine l_iconst (pc := 674) (v := 0) (by decide) C dL_law_674 ?_
    have hD := J_many (a1 := (xs (x + 1).toNatClampNeg)) (a2 := 0) (Q := fun v y h2 => v = y ∧ LJ Y b X 4 1298 [(3, .int x), (2, .ref m), (1, .ref q), (0, .ref sb)] [] r h2 cs sl) hC (fun v h' c' => ⟨rfl, kk _ _ _ _ h' _ (c'.up (Nat.le_add_right _ _) hT)⟩)
    refine l_callVi (pc := 675) (k := 7) (As := [.int (xs (x + 1).toNatClampNeg), .int 0]) (st := []) C hY mv_RL_77 (M_SR_many tq hD) tq (by decide) rfl rfl (Nat.le_of_ble_eq_true rfl) hcs hsl dL_law_675 (fun v h1 hk1 => ?_)
    refine l_aload_n (pc := 678) rfl 1 rfl C dL_law_678 ?_
    refine l_aload_n (pc := 679) rfl 3 rfl C dL_law_679 ?_
    refine l_iload_n (pc := 680) rfl 0 rfl C dL_law_680 ?_
    refine l_iconst (pc := 681) (v := 1) (by decide) C dL_law_681 ?_
    refine l_iadd (pc := 682) C dL_law_682 ?_
    refine l_sld (pc := 683) C S hi.1 dL_law_683 ?_
    refine l_aload_n (pc := 684) rfl 3 rfl C dL_law_684 ?_
    refine l_iload_n (pc := 685) rfl 0 rfl C dL_law_685 ?_
    refine l_iconst (pc := 686) (v := 2) (by decide) C dL_law_686 ?_
    refine l_iadd (pc := 687) C dL_law_687 ?_
    refine l_sld (pc := 688) C S hi.2.1 dL_law_688 ?_
    refine l_if_eq (pc := 689) 696 C dL_law_689 (by decide) (fun _ => ?_) (fun c2 => absurd c1 c2)
    refine l_iconst (pc := 696) (v := 0) (by decide) C dL_law_696 ?_
    refine l_callVi (pc := 697) (k := 8) (As := [.int (xs (x + 1).toNatClampNeg), .int 0]) (st := [.int v]) C hY mv_RL_81 (M_Mo_many tm hk1) tm (by decide) rfl rfl (Nat.le_of_ble_eq_true rfl) hcs hsl dL_law_697 (fun v2 h2 hk2 => ?_)
    refine l_icmp_eq (pc := 700) 1298 C dL_law_700 (by decide) (fun _ => ?_) (fun ne => absurd hk2.1 ne)
    exact hk2.2
  · refine l_iconst (pc := 670) (v := 1) (by decide) C dL_law_670 ?_
    refine l_goto (pc := 671) 675 C dL_law_671 (by decide) ?_
    have hD := J_many (a1 := (xs (x + 1).toNatClampNeg)) (a2 := 1) (Q := fun v y h2 => v = y ∧ LJ Y b X 4 1298 [(3, .int x), (2, .ref m), (1, .ref q), (0, .ref sb)] [] r h2 cs sl) hC (fun v h' c' => ⟨rfl, kk _ _ _ _ h' _ (c'.up (Nat.le_add_right _ _) hT)⟩)
    refine l_callVi (pc := 675) (k := 7) (As := [.int (xs (x + 1).toNatClampNeg), .int 1]) (st := []) C hY mv_RL_77 (M_SR_many tq hD) tq (by decide) rfl rfl (Nat.le_of_ble_eq_true rfl) hcs hsl dL_law_675 (fun v h1 hk1 => ?_)
    refine l_aload_n (pc := 678) rfl 1 rfl C dL_law_678 ?_
    refine l_aload_n (pc := 679) rfl 3 rfl C dL_law_679 ?_
    refine l_iload_n (pc := 680) rfl 0 rfl C dL_law_680 ?_
    refine l_iconst (pc := 681) (v := 1) (by decide) C dL_law_681 ?_
    refine l_iadd (pc := 682) C dL_law_682 ?_
    refine l_sld (pc := 683) C S hi.1 dL_law_683 ?_
    refine l_aload_n (pc := 684) rfl 3 rfl C dL_law_684 ?_
    refine l_iload_n (pc := 685) rfl 0 rfl C dL_law_685 ?_
    refine l_iconst (pc := 686) (v := 2) (by decide) C dL_law_686 ?_
    refine l_iadd (pc := 687) C dL_law_687 ?_
    refine l_sld (pc := 688) C S hi.2.1 dL_law_688 ?_
    refine l_if_eq (pc := 689) 696 C dL_law_689 (by decide) (fun c2 => absurd c2 c1) (fun _ => ?_)
    refine l_iconst (pc := 692) (v := 1) (by decide) C dL_law_692 ?_
    refine l_goto (pc := 693) 697 C dL_law_693 (by decide) ?_
    refine l_callVi (pc := 697) (k := 8) (As := [.int (xs (x + 1).toNatClampNeg), .int 1]) (st := [.int v]) C hY mv_RL_81 (M_Mo_many tm hk1) tm (by decide) rfl rfl (Nat.le_of_ble_eq_true rfl) hcs hsl dL_law_697 (fun v2 h2 hk2 => ?_)
    refine l_icmp_eq (pc := 700) 1298 C dL_law_700 (by decide) (fun _ => ?_) (fun ne => absurd hk2.1 ne)
    exact hk2.2
theorem LC_15 {Y : CG} {b : Nat} {X : CX} {q m sb L cs sl : Nat} {xs : Nat → Int32} {r : TR} {h : TH} {bb dd LL T : Nat} {A : St} {x : Int32} (C : NGd Y b X cL_law 4 RL 100 600000 7302250) (hY : ∀ a ∈ yL Y, b ≤ a) (S : Scr X b sb L xs) (tq : TO Y q 7) (tm : TO Y m 8) (hcs : cs ≤ 600000) (hsl : sl ≤ 7302250) (hi : vp_in (x + 1) L ∧ vp_in (x + 2) L ∧ vp_in (x + 3) L ∧ vp_in (x + 4) L ∧ vp_in (x + 5) L) (hC : Cx r q bb dd m LL T h A) (hT : T + 100 ≤ 100000) (kk : ∀ r' b' d' L' h' A', Cx r' q b' d' m L' (T + 100) h' A' → LJ Y b X 4 1298 [(3, .int x), (2, .ref m), (1, .ref q), (0, .ref sb)] [] r' h' cs sl) : LJ Y b X 4 705 [(3, .int x), (2, .ref m), (1, .ref q), (0, .ref sb)] [] r h cs sl := by
  refine l_aload_n (pc := 705) rfl 2 rfl C dL_law_705 ?_
  refine l_aload_n (pc := 706) rfl 3 rfl C dL_law_706 ?_
  refine l_iload_n (pc := 707) rfl 0 rfl C dL_law_707 ?_
  refine l_iconst (pc := 708) (v := 1) (by decide) C dL_law_708 ?_
  refine l_iadd (pc := 709) C dL_law_709 ?_
  refine l_sld (pc := 710) C S hi.1 dL_law_710 ?_
  have hD := J_ranked (a1 := (xs (x + 1).toNatClampNeg)) (Q := fun v y h2 => v = y ∧ LJ Y b X 4 1298 [(3, .int x), (2, .ref m), (1, .ref q), (0, .ref sb)] [] r h2 cs sl) hC (fun v h' c' => ⟨rfl, kk _ _ _ _ h' _ (c'.up (Nat.le_add_right _ _) hT)⟩)
  refine l_callVi (pc := 711) (k := 7) (As := [.int (xs (x + 1).toNatClampNeg)]) (st := []) C hY mv_RL_82 (M_SR_ranked tq hD) tq (by decide) rfl rfl (Nat.le_of_ble_eq_true rfl) hcs hsl dL_law_711 (fun v h1 hk1 => ?_)
  refine l_aload_n (pc := 714) rfl 1 rfl C dL_law_714 ?_
  refine l_aload_n (pc := 715) rfl 3 rfl C dL_law_715 ?_
  refine l_iload_n (pc := 716) rfl 0 rfl C dL_law_716 ?_
  refine l_iconst (pc := 717) (v := 1) (by decide) C dL_law_717 ?_
  refine l_iadd (pc := 718) C dL_law_718 ?_
  refine l_sld (pc := 719) C S hi.1 dL_law_719 ?_
  refine l_callVi (pc := 720) (k := 8) (As := [.int (xs (x + 1).toNatClampNeg)]) (st := [.int v]) C hY mv_RL_85 (M_Mo_ranked tm hk1) tm (by decide) rfl rfl (Nat.le_of_ble_eq_true rfl) hcs hsl dL_law_720 (fun v2 h2 hk2 => ?_)
  refine l_icmp_eq (pc := 723) 1298 C dL_law_723 (by decide) (fun _ => ?_) (fun ne => absurd hk2.1 ne)
  exact hk2.2
theorem LC_16 {Y : CG} {b : Nat} {X : CX} {q m sb L cs sl : Nat} {xs : Nat → Int32} {r : TR} {h : TH} {bb dd LL T : Nat} {A : St} {x : Int32} (C : NGd Y b X cL_law 4 RL 100 600000 7302250) (hY : ∀ a ∈ yL Y, b ≤ a) (S : Scr X b sb L xs) (tq : TO Y q 7) (tm : TO Y m 8) (hcs : cs ≤ 600000) (hsl : sl ≤ 7302250) (hi : vp_in (x + 1) L ∧ vp_in (x + 2) L ∧ vp_in (x + 3) L ∧ vp_in (x + 4) L ∧ vp_in (x + 5) L) (hC : Cx r q bb dd m LL T h A) (hT : T + 100 ≤ 100000) (kk : ∀ r' b' d' L' h' A', Cx r' q b' d' m L' (T + 100) h' A' → LJ Y b X 4 1298 [(3, .int x), (2, .ref m), (1, .ref q), (0, .ref sb)] [] r' h' cs sl) : LJ Y b X 4 728 [(3, .int x), (2, .ref m), (1, .ref q), (0, .ref sb)] [] r h cs sl := by
  refine l_aload_n (pc := 728) rfl 2 rfl C dL_law_728 ?_
  refine l_aload_n (pc := 729) rfl 3 rfl C dL_law_729 ?_
  refine l_iload_n (pc := 730) rfl 0 rfl C dL_law_730 ?_
  refine l_iconst (pc := 731) (v := 1) (by decide) C dL_law_731 ?_
  refine l_iadd (pc := 732) C dL_law_732 ?_
  refine l_sld (pc := 733) C S hi.1 dL_law_733 ?_
  have hD := J_soonest (a1 := (xs (x + 1).toNatClampNeg)) (Q := fun v y h2 => v = y ∧ LJ Y b X 4 1298 [(3, .int x), (2, .ref m), (1, .ref q), (0, .ref sb)] [] r h2 cs sl) hC (fun v h' c' => ⟨rfl, kk _ _ _ _ h' _ (c'.up (Nat.le_add_right _ _) hT)⟩)
  refine l_callVi (pc := 734) (k := 7) (As := [.int (xs (x + 1).toNatClampNeg)]) (st := []) C hY mv_RL_86 (M_SR_soonest tq hD) tq (by decide) rfl rfl (Nat.le_of_ble_eq_true rfl) hcs hsl dL_law_734 (fun v h1 hk1 => ?_)
  refine l_aload_n (pc := 737) rfl 1 rfl C dL_law_737 ?_
  refine l_aload_n (pc := 738) rfl 3 rfl C dL_law_738 ?_
  refine l_iload_n (pc := 739) rfl 0 rfl C dL_law_739 ?_
  refine l_iconst (pc := 740) (v := 1) (by decide) C dL_law_740 ?_
  refine l_iadd (pc := 741) C dL_law_741 ?_
  refine l_sld (pc := 742) C S hi.1 dL_law_742 ?_
  refine l_callVi (pc := 743) (k := 8) (As := [.int (xs (x + 1).toNatClampNeg)]) (st := [.int v]) C hY mv_RL_89 (M_Mo_soonest tm hk1) tm (by decide) rfl rfl (Nat.le_of_ble_eq_true rfl) hcs hsl dL_law_743 (fun v2 h2 hk2 => ?_)
  refine l_icmp_eq (pc := 746) 1298 C dL_law_746 (by decide) (fun _ => ?_) (fun ne => absurd hk2.1 ne)
  exact hk2.2
theorem LC_17 {Y : CG} {b : Nat} {X : CX} {q m sb L cs sl : Nat} {xs : Nat → Int32} {r : TR} {h : TH} {bb dd LL T : Nat} {A : St} {x : Int32} (C : NGd Y b X cL_law 4 RL 100 600000 7302250) (hY : ∀ a ∈ yL Y, b ≤ a) (S : Scr X b sb L xs) (tq : TO Y q 7) (tm : TO Y m 8) (hcs : cs ≤ 600000) (hsl : sl ≤ 7302250) (hi : vp_in (x + 1) L ∧ vp_in (x + 2) L ∧ vp_in (x + 3) L ∧ vp_in (x + 4) L ∧ vp_in (x + 5) L) (hC : Cx r q bb dd m LL T h A) (hT : T + 100 ≤ 100000) (kk : ∀ r' b' d' L' h' A', Cx r' q b' d' m L' (T + 100) h' A' → LJ Y b X 4 1298 [(3, .int x), (2, .ref m), (1, .ref q), (0, .ref sb)] [] r' h' cs sl) : LJ Y b X 4 751 [(3, .int x), (2, .ref m), (1, .ref q), (0, .ref sb)] [] r h cs sl := by
  refine l_aload_n (pc := 751) rfl 2 rfl C dL_law_751 ?_
  refine l_aload_n (pc := 752) rfl 3 rfl C dL_law_752 ?_
  refine l_iload_n (pc := 753) rfl 0 rfl C dL_law_753 ?_
  refine l_iconst (pc := 754) (v := 1) (by decide) C dL_law_754 ?_
  refine l_iadd (pc := 755) C dL_law_755 ?_
  refine l_sld (pc := 756) C S hi.1 dL_law_756 ?_
  refine l_aload_n (pc := 757) rfl 3 rfl C dL_law_757 ?_
  refine l_iload_n (pc := 758) rfl 0 rfl C dL_law_758 ?_
  refine l_iconst (pc := 759) (v := 2) (by decide) C dL_law_759 ?_
  refine l_iadd (pc := 760) C dL_law_760 ?_
  refine l_sld (pc := 761) C S hi.2.1 dL_law_761 ?_
  have hD := J_route (a1 := (xs (x + 1).toNatClampNeg)) (a2 := (xs (x + 2).toNatClampNeg)) (Q := fun v y h2 => v = y ∧ LJ Y b X 4 1298 [(3, .int x), (2, .ref m), (1, .ref q), (0, .ref sb)] [] r h2 cs sl) hC (fun v h' c' => ⟨rfl, kk _ _ _ _ h' _ (c'.up (Nat.le_add_right _ _) hT)⟩)
  refine l_callVi (pc := 762) (k := 7) (As := [.int (xs (x + 1).toNatClampNeg), .int (xs (x + 2).toNatClampNeg)]) (st := []) C hY mv_RL_90 (M_SR_route tq hD) tq (by decide) rfl rfl (Nat.le_of_ble_eq_true rfl) hcs hsl dL_law_762 (fun v h1 hk1 => ?_)
  refine l_aload_n (pc := 765) rfl 1 rfl C dL_law_765 ?_
  refine l_aload_n (pc := 766) rfl 3 rfl C dL_law_766 ?_
  refine l_iload_n (pc := 767) rfl 0 rfl C dL_law_767 ?_
  refine l_iconst (pc := 768) (v := 1) (by decide) C dL_law_768 ?_
  refine l_iadd (pc := 769) C dL_law_769 ?_
  refine l_sld (pc := 770) C S hi.1 dL_law_770 ?_
  refine l_aload_n (pc := 771) rfl 3 rfl C dL_law_771 ?_
  refine l_iload_n (pc := 772) rfl 0 rfl C dL_law_772 ?_
  refine l_iconst (pc := 773) (v := 2) (by decide) C dL_law_773 ?_
  refine l_iadd (pc := 774) C dL_law_774 ?_
  refine l_sld (pc := 775) C S hi.2.1 dL_law_775 ?_
  refine l_callVi (pc := 776) (k := 8) (As := [.int (xs (x + 1).toNatClampNeg), .int (xs (x + 2).toNatClampNeg)]) (st := [.int v]) C hY mv_RL_93 (M_Mo_route tm hk1) tm (by decide) rfl rfl (Nat.le_of_ble_eq_true rfl) hcs hsl dL_law_776 (fun v2 h2 hk2 => ?_)
  refine l_icmp_eq (pc := 779) 1298 C dL_law_779 (by decide) (fun _ => ?_) (fun ne => absurd hk2.1 ne)
  exact hk2.2
theorem LC_18 {Y : CG} {b : Nat} {X : CX} {q m sb L cs sl : Nat} {xs : Nat → Int32} {r : TR} {h : TH} {bb dd LL T : Nat} {A : St} {x : Int32} (C : NGd Y b X cL_law 4 RL 100 600000 7302250) (hY : ∀ a ∈ yL Y, b ≤ a) (S : Scr X b sb L xs) (tq : TO Y q 7) (tm : TO Y m 8) (hcs : cs ≤ 600000) (hsl : sl ≤ 7302250) (hi : vp_in (x + 1) L ∧ vp_in (x + 2) L ∧ vp_in (x + 3) L ∧ vp_in (x + 4) L ∧ vp_in (x + 5) L) (hC : Cx r q bb dd m LL T h A) (hT : T + 100 ≤ 100000) (kk : ∀ r' b' d' L' h' A', Cx r' q b' d' m L' (T + 100) h' A' → LJ Y b X 4 1298 [(3, .int x), (2, .ref m), (1, .ref q), (0, .ref sb)] [] r' h' cs sl) : LJ Y b X 4 784 [(3, .int x), (2, .ref m), (1, .ref q), (0, .ref sb)] [] r h cs sl := by
  refine l_aload_n (pc := 784) rfl 2 rfl C dL_law_784 ?_
  refine l_aload_n (pc := 785) rfl 3 rfl C dL_law_785 ?_
  refine l_iload_n (pc := 786) rfl 0 rfl C dL_law_786 ?_
  refine l_iconst (pc := 787) (v := 1) (by decide) C dL_law_787 ?_
  refine l_iadd (pc := 788) C dL_law_788 ?_
  refine l_sld (pc := 789) C S hi.1 dL_law_789 ?_
  have hD := J_hidden (a1 := (xs (x + 1).toNatClampNeg)) (Q := fun v y h2 => v = y ∧ LJ Y b X 4 1298 [(3, .int x), (2, .ref m), (1, .ref q), (0, .ref sb)] [] r h2 cs sl) hC (fun v h' c' => ⟨rfl, kk _ _ _ _ h' _ (c'.up (Nat.le_add_right _ _) hT)⟩)
  refine l_callVi (pc := 790) (k := 7) (As := [.int (xs (x + 1).toNatClampNeg)]) (st := []) C hY mv_RL_94 (M_SR_hidden tq hD) tq (by decide) rfl rfl (Nat.le_of_ble_eq_true rfl) hcs hsl dL_law_790 (fun v h1 hk1 => ?_)
  refine l_aload_n (pc := 793) rfl 1 rfl C dL_law_793 ?_
  refine l_aload_n (pc := 794) rfl 3 rfl C dL_law_794 ?_
  refine l_iload_n (pc := 795) rfl 0 rfl C dL_law_795 ?_
  refine l_iconst (pc := 796) (v := 1) (by decide) C dL_law_796 ?_
  refine l_iadd (pc := 797) C dL_law_797 ?_
  refine l_sld (pc := 798) C S hi.1 dL_law_798 ?_
  refine l_callVi (pc := 799) (k := 8) (As := [.int (xs (x + 1).toNatClampNeg)]) (st := [.int v]) C hY mv_RL_97 (M_Mo_hidden tm hk1) tm (by decide) rfl rfl (Nat.le_of_ble_eq_true rfl) hcs hsl dL_law_799 (fun v2 h2 hk2 => ?_)
  refine l_icmp_eq (pc := 802) 1298 C dL_law_802 (by decide) (fun _ => ?_) (fun ne => absurd hk2.1 ne)
  exact hk2.2
theorem LC_19 {Y : CG} {b : Nat} {X : CX} {q m sb L cs sl : Nat} {xs : Nat → Int32} {r : TR} {h : TH} {bb dd LL T : Nat} {A : St} {x : Int32} (C : NGd Y b X cL_law 4 RL 100 600000 7302250) (hY : ∀ a ∈ yL Y, b ≤ a) (S : Scr X b sb L xs) (tq : TO Y q 7) (tm : TO Y m 8) (hcs : cs ≤ 600000) (hsl : sl ≤ 7302250) (hi : vp_in (x + 1) L ∧ vp_in (x + 2) L ∧ vp_in (x + 3) L ∧ vp_in (x + 4) L ∧ vp_in (x + 5) L) (hC : Cx r q bb dd m LL T h A) (hT : T + 100 ≤ 100000) (kk : ∀ r' b' d' L' h' A', Cx r' q b' d' m L' (T + 100) h' A' → LJ Y b X 4 1298 [(3, .int x), (2, .ref m), (1, .ref q), (0, .ref sb)] [] r' h' cs sl) : LJ Y b X 4 807 [(3, .int x), (2, .ref m), (1, .ref q), (0, .ref sb)] [] r h cs sl := by
  refine l_aload_n (pc := 807) rfl 2 rfl C dL_law_807 ?_
  refine l_aload_n (pc := 808) rfl 3 rfl C dL_law_808 ?_
  refine l_iload_n (pc := 809) rfl 0 rfl C dL_law_809 ?_
  refine l_iconst (pc := 810) (v := 1) (by decide) C dL_law_810 ?_
  refine l_iadd (pc := 811) C dL_law_811 ?_
  refine l_sld (pc := 812) C S hi.1 dL_law_812 ?_
  refine l_aload_n (pc := 813) rfl 3 rfl C dL_law_813 ?_
  refine l_iload_n (pc := 814) rfl 0 rfl C dL_law_814 ?_
  refine l_iconst (pc := 815) (v := 2) (by decide) C dL_law_815 ?_
  refine l_iadd (pc := 816) C dL_law_816 ?_
  refine l_sld (pc := 817) C S hi.2.1 dL_law_817 ?_
  have hD := J_inPlace (a1 := (xs (x + 1).toNatClampNeg)) (a2 := (xs (x + 2).toNatClampNeg)) (Q := fun v y h2 => v = y ∧ LJ Y b X 4 1298 [(3, .int x), (2, .ref m), (1, .ref q), (0, .ref sb)] [] r h2 cs sl) hC (fun v h' c' => ⟨rfl, kk _ _ _ _ h' _ (c'.up (Nat.le_add_right _ _) hT)⟩)
  refine l_callVi (pc := 818) (k := 7) (As := [.int (xs (x + 1).toNatClampNeg), .int (xs (x + 2).toNatClampNeg)]) (st := []) C hY mv_RL_98 (M_SR_inPlace tq hD) tq (by decide) rfl rfl (Nat.le_of_ble_eq_true rfl) hcs hsl dL_law_818 (fun v h1 hk1 => ?_)
  refine l_aload_n (pc := 821) rfl 1 rfl C dL_law_821 ?_
  refine l_aload_n (pc := 822) rfl 3 rfl C dL_law_822 ?_
  refine l_iload_n (pc := 823) rfl 0 rfl C dL_law_823 ?_
  refine l_iconst (pc := 824) (v := 1) (by decide) C dL_law_824 ?_
  refine l_iadd (pc := 825) C dL_law_825 ?_
  refine l_sld (pc := 826) C S hi.1 dL_law_826 ?_
  refine l_aload_n (pc := 827) rfl 3 rfl C dL_law_827 ?_
  refine l_iload_n (pc := 828) rfl 0 rfl C dL_law_828 ?_
  refine l_iconst (pc := 829) (v := 2) (by decide) C dL_law_829 ?_
  refine l_iadd (pc := 830) C dL_law_830 ?_
  refine l_sld (pc := 831) C S hi.2.1 dL_law_831 ?_
  refine l_callVi (pc := 832) (k := 8) (As := [.int (xs (x + 1).toNatClampNeg), .int (xs (x + 2).toNatClampNeg)]) (st := [.int v]) C hY mv_RL_101 (M_Mo_inPlace tm hk1) tm (by decide) rfl rfl (Nat.le_of_ble_eq_true rfl) hcs hsl dL_law_832 (fun v2 h2 hk2 => ?_)
  refine l_icmp_eq (pc := 835) 1298 C dL_law_835 (by decide) (fun _ => ?_) (fun ne => absurd hk2.1 ne)
  exact hk2.2
theorem LC_20 {Y : CG} {b : Nat} {X : CX} {q m sb L cs sl : Nat} {xs : Nat → Int32} {r : TR} {h : TH} {bb dd LL T : Nat} {A : St} {x : Int32} (C : NGd Y b X cL_law 4 RL 100 600000 7302250) (hY : ∀ a ∈ yL Y, b ≤ a) (S : Scr X b sb L xs) (tq : TO Y q 7) (tm : TO Y m 8) (hcs : cs ≤ 600000) (hsl : sl ≤ 7302250) (hi : vp_in (x + 1) L ∧ vp_in (x + 2) L ∧ vp_in (x + 3) L ∧ vp_in (x + 4) L ∧ vp_in (x + 5) L) (hC : Cx r q bb dd m LL T h A) (hT : T + 100 ≤ 100000) (kk : ∀ r' b' d' L' h' A', Cx r' q b' d' m L' (T + 100) h' A' → LJ Y b X 4 1298 [(3, .int x), (2, .ref m), (1, .ref q), (0, .ref sb)] [] r' h' cs sl) : LJ Y b X 4 840 [(3, .int x), (2, .ref m), (1, .ref q), (0, .ref sb)] [] r h cs sl := by
  refine l_aload_n (pc := 840) rfl 2 rfl C dL_law_840 ?_
  refine l_aload_n (pc := 841) rfl 3 rfl C dL_law_841 ?_
  refine l_iload_n (pc := 842) rfl 0 rfl C dL_law_842 ?_
  refine l_iconst (pc := 843) (v := 1) (by decide) C dL_law_843 ?_
  refine l_iadd (pc := 844) C dL_law_844 ?_
  refine l_sld (pc := 845) C S hi.1 dL_law_845 ?_
  refine l_aload_n (pc := 846) rfl 3 rfl C dL_law_846 ?_
  refine l_iload_n (pc := 847) rfl 0 rfl C dL_law_847 ?_
  refine l_iconst (pc := 848) (v := 2) (by decide) C dL_law_848 ?_
  refine l_iadd (pc := 849) C dL_law_849 ?_
  refine l_sld (pc := 850) C S hi.2.1 dL_law_850 ?_
  have hD := J_smelt (a1 := (xs (x + 1).toNatClampNeg)) (a2 := (xs (x + 2).toNatClampNeg)) (Q := fun v y h2 => v = y ∧ LJ Y b X 4 1298 [(3, .int x), (2, .ref m), (1, .ref q), (0, .ref sb)] [] r h2 cs sl) hC (fun v h' c' => ⟨rfl, kk _ _ _ _ h' _ (c'.up (Nat.le_add_right _ _) hT)⟩)
  refine l_callVi (pc := 851) (k := 7) (As := [.int (xs (x + 1).toNatClampNeg), .int (xs (x + 2).toNatClampNeg)]) (st := []) C hY mv_RL_102 (M_SR_smelt tq hD) tq (by decide) rfl rfl (Nat.le_of_ble_eq_true rfl) hcs hsl dL_law_851 (fun v h1 hk1 => ?_)
  refine l_aload_n (pc := 854) rfl 1 rfl C dL_law_854 ?_
  refine l_aload_n (pc := 855) rfl 3 rfl C dL_law_855 ?_
  refine l_iload_n (pc := 856) rfl 0 rfl C dL_law_856 ?_
  refine l_iconst (pc := 857) (v := 1) (by decide) C dL_law_857 ?_
  refine l_iadd (pc := 858) C dL_law_858 ?_
  refine l_sld (pc := 859) C S hi.1 dL_law_859 ?_
  refine l_aload_n (pc := 860) rfl 3 rfl C dL_law_860 ?_
  refine l_iload_n (pc := 861) rfl 0 rfl C dL_law_861 ?_
  refine l_iconst (pc := 862) (v := 2) (by decide) C dL_law_862 ?_
  refine l_iadd (pc := 863) C dL_law_863 ?_
  refine l_sld (pc := 864) C S hi.2.1 dL_law_864 ?_
  refine l_callVi (pc := 865) (k := 8) (As := [.int (xs (x + 1).toNatClampNeg), .int (xs (x + 2).toNatClampNeg)]) (st := [.int v]) C hY mv_RL_105 (M_Mo_smelt tm hk1) tm (by decide) rfl rfl (Nat.le_of_ble_eq_true rfl) hcs hsl dL_law_865 (fun v2 h2 hk2 => ?_)
  refine l_icmp_eq (pc := 868) 1298 C dL_law_868 (by decide) (fun _ => ?_) (fun ne => absurd hk2.1 ne)
  exact hk2.2
theorem LC_21 {Y : CG} {b : Nat} {X : CX} {q m sb L cs sl : Nat} {xs : Nat → Int32} {r : TR} {h : TH} {bb dd LL T : Nat} {A : St} {x : Int32} (C : NGd Y b X cL_law 4 RL 100 600000 7302250) (hY : ∀ a ∈ yL Y, b ≤ a) (S : Scr X b sb L xs) (tq : TO Y q 7) (tm : TO Y m 8) (hcs : cs ≤ 600000) (hsl : sl ≤ 7302250) (hi : vp_in (x + 1) L ∧ vp_in (x + 2) L ∧ vp_in (x + 3) L ∧ vp_in (x + 4) L ∧ vp_in (x + 5) L) (hC : Cx r q bb dd m LL T h A) (hT : T + 100 ≤ 100000) (kk : ∀ r' b' d' L' h' A', Cx r' q b' d' m L' (T + 100) h' A' → LJ Y b X 4 1298 [(3, .int x), (2, .ref m), (1, .ref q), (0, .ref sb)] [] r' h' cs sl) : LJ Y b X 4 873 [(3, .int x), (2, .ref m), (1, .ref q), (0, .ref sb)] [] r h cs sl := by
  refine l_aload_n (pc := 873) rfl 2 rfl C dL_law_873 ?_
  refine l_aload_n (pc := 874) rfl 3 rfl C dL_law_874 ?_
  refine l_iload_n (pc := 875) rfl 0 rfl C dL_law_875 ?_
  refine l_iconst (pc := 876) (v := 1) (by decide) C dL_law_876 ?_
  refine l_iadd (pc := 877) C dL_law_877 ?_
  refine l_sld (pc := 878) C S hi.1 dL_law_878 ?_
  have hD := J_bare (a1 := (xs (x + 1).toNatClampNeg)) (Q := fun v y h2 => v = y ∧ LJ Y b X 4 1298 [(3, .int x), (2, .ref m), (1, .ref q), (0, .ref sb)] [] r h2 cs sl) hC (fun v h' c' => ⟨rfl, kk _ _ _ _ h' _ (c'.up (Nat.le_add_right _ _) hT)⟩)
  refine l_callVi (pc := 879) (k := 7) (As := [.int (xs (x + 1).toNatClampNeg)]) (st := []) C hY mv_RL_106 (M_SR_bare tq hD) tq (by decide) rfl rfl (Nat.le_of_ble_eq_true rfl) hcs hsl dL_law_879 (fun v h1 hk1 => ?_)
  refine l_aload_n (pc := 882) rfl 1 rfl C dL_law_882 ?_
  refine l_aload_n (pc := 883) rfl 3 rfl C dL_law_883 ?_
  refine l_iload_n (pc := 884) rfl 0 rfl C dL_law_884 ?_
  refine l_iconst (pc := 885) (v := 1) (by decide) C dL_law_885 ?_
  refine l_iadd (pc := 886) C dL_law_886 ?_
  refine l_sld (pc := 887) C S hi.1 dL_law_887 ?_
  refine l_callVi (pc := 888) (k := 8) (As := [.int (xs (x + 1).toNatClampNeg)]) (st := [.int v]) C hY mv_RL_109 (M_Mo_bare tm hk1) tm (by decide) rfl rfl (Nat.le_of_ble_eq_true rfl) hcs hsl dL_law_888 (fun v2 h2 hk2 => ?_)
  refine l_icmp_eq (pc := 891) 1298 C dL_law_891 (by decide) (fun _ => ?_) (fun ne => absurd hk2.1 ne)
  exact hk2.2
theorem LC_22 {Y : CG} {b : Nat} {X : CX} {q m sb L cs sl : Nat} {xs : Nat → Int32} {r : TR} {h : TH} {bb dd LL T : Nat} {A : St} {x : Int32} (C : NGd Y b X cL_law 4 RL 100 600000 7302250) (hY : ∀ a ∈ yL Y, b ≤ a) (S : Scr X b sb L xs) (tq : TO Y q 7) (tm : TO Y m 8) (hcs : cs ≤ 600000) (hsl : sl ≤ 7302250) (hi : vp_in (x + 1) L ∧ vp_in (x + 2) L ∧ vp_in (x + 3) L ∧ vp_in (x + 4) L ∧ vp_in (x + 5) L) (hC : Cx r q bb dd m LL T h A) (hT : T + 100 ≤ 100000) (kk : ∀ r' b' d' L' h' A', Cx r' q b' d' m L' (T + 100) h' A' → LJ Y b X 4 1298 [(3, .int x), (2, .ref m), (1, .ref q), (0, .ref sb)] [] r' h' cs sl) : LJ Y b X 4 896 [(3, .int x), (2, .ref m), (1, .ref q), (0, .ref sb)] [] r h cs sl := by
  refine l_aload_n (pc := 896) rfl 2 rfl C dL_law_896 ?_
  refine l_aload_n (pc := 897) rfl 3 rfl C dL_law_897 ?_
  refine l_iload_n (pc := 898) rfl 0 rfl C dL_law_898 ?_
  refine l_iconst (pc := 899) (v := 1) (by decide) C dL_law_899 ?_
  refine l_iadd (pc := 900) C dL_law_900 ?_
  refine l_sld (pc := 901) C S hi.1 dL_law_901 ?_
  refine l_aload_n (pc := 902) rfl 3 rfl C dL_law_902 ?_
  refine l_iload_n (pc := 903) rfl 0 rfl C dL_law_903 ?_
  refine l_iconst (pc := 904) (v := 2) (by decide) C dL_law_904 ?_
  refine l_iadd (pc := 905) C dL_law_905 ?_
  refine l_sld (pc := 906) C S hi.2.1 dL_law_906 ?_
  refine l_aload_n (pc := 907) rfl 3 rfl C dL_law_907 ?_
  refine l_iload_n (pc := 908) rfl 0 rfl C dL_law_908 ?_
  refine l_iconst (pc := 909) (v := 3) (by decide) C dL_law_909 ?_
  refine l_iadd (pc := 910) C dL_law_910 ?_
  refine l_sld (pc := 911) C S hi.2.2.1 dL_law_911 ?_
  have hD := J_met (a1 := (xs (x + 1).toNatClampNeg)) (a2 := (xs (x + 2).toNatClampNeg)) (a3 := (xs (x + 3).toNatClampNeg)) (Q := fun v y h2 => v = y ∧ LJ Y b X 4 1298 [(3, .int x), (2, .ref m), (1, .ref q), (0, .ref sb)] [] r h2 cs sl) hC (fun v h' c' => ⟨rfl, kk _ _ _ _ h' _ (c'.up (Nat.le_add_right _ _) hT)⟩)
  refine l_callVi (pc := 912) (k := 7) (As := [.int (xs (x + 1).toNatClampNeg), .int (xs (x + 2).toNatClampNeg), .int (xs (x + 3).toNatClampNeg)]) (st := []) C hY mv_RL_110 (M_SR_met tq hD) tq (by decide) rfl rfl (Nat.le_of_ble_eq_true rfl) hcs hsl dL_law_912 (fun v h1 hk1 => ?_)
  refine l_aload_n (pc := 915) rfl 1 rfl C dL_law_915 ?_
  refine l_aload_n (pc := 916) rfl 3 rfl C dL_law_916 ?_
  refine l_iload_n (pc := 917) rfl 0 rfl C dL_law_917 ?_
  refine l_iconst (pc := 918) (v := 1) (by decide) C dL_law_918 ?_
  refine l_iadd (pc := 919) C dL_law_919 ?_
  refine l_sld (pc := 920) C S hi.1 dL_law_920 ?_
  refine l_aload_n (pc := 921) rfl 3 rfl C dL_law_921 ?_
  refine l_iload_n (pc := 922) rfl 0 rfl C dL_law_922 ?_
  refine l_iconst (pc := 923) (v := 2) (by decide) C dL_law_923 ?_
  refine l_iadd (pc := 924) C dL_law_924 ?_
  refine l_sld (pc := 925) C S hi.2.1 dL_law_925 ?_
  refine l_aload_n (pc := 926) rfl 3 rfl C dL_law_926 ?_
  refine l_iload_n (pc := 927) rfl 0 rfl C dL_law_927 ?_
  refine l_iconst (pc := 928) (v := 3) (by decide) C dL_law_928 ?_
  refine l_iadd (pc := 929) C dL_law_929 ?_
  refine l_sld (pc := 930) C S hi.2.2.1 dL_law_930 ?_
  refine l_callVi (pc := 931) (k := 8) (As := [.int (xs (x + 1).toNatClampNeg), .int (xs (x + 2).toNatClampNeg), .int (xs (x + 3).toNatClampNeg)]) (st := [.int v]) C hY mv_RL_113 (M_Mo_met tm hk1) tm (by decide) rfl rfl (Nat.le_of_ble_eq_true rfl) hcs hsl dL_law_931 (fun v2 h2 hk2 => ?_)
  refine l_icmp_eq (pc := 934) 1298 C dL_law_934 (by decide) (fun _ => ?_) (fun ne => absurd hk2.1 ne)
  exact hk2.2
theorem LC_23 {Y : CG} {b : Nat} {X : CX} {q m sb L cs sl : Nat} {xs : Nat → Int32} {r : TR} {h : TH} {bb dd LL T : Nat} {A : St} {x : Int32} (C : NGd Y b X cL_law 4 RL 100 600000 7302250) (hY : ∀ a ∈ yL Y, b ≤ a) (S : Scr X b sb L xs) (tq : TO Y q 7) (tm : TO Y m 8) (hcs : cs ≤ 600000) (hsl : sl ≤ 7302250) (hi : vp_in (x + 1) L ∧ vp_in (x + 2) L ∧ vp_in (x + 3) L ∧ vp_in (x + 4) L ∧ vp_in (x + 5) L) (hC : Cx r q bb dd m LL T h A) (hT : T + 100 ≤ 100000) (kk : ∀ r' b' d' L' h' A', Cx r' q b' d' m L' (T + 100) h' A' → LJ Y b X 4 1298 [(3, .int x), (2, .ref m), (1, .ref q), (0, .ref sb)] [] r' h' cs sl) : LJ Y b X 4 939 [(3, .int x), (2, .ref m), (1, .ref q), (0, .ref sb)] [] r h cs sl := by
  refine l_aload_n (pc := 939) rfl 2 rfl C dL_law_939 ?_
  refine l_aload_n (pc := 940) rfl 3 rfl C dL_law_940 ?_
  refine l_iload_n (pc := 941) rfl 0 rfl C dL_law_941 ?_
  refine l_iconst (pc := 942) (v := 1) (by decide) C dL_law_942 ?_
  refine l_iadd (pc := 943) C dL_law_943 ?_
  refine l_sld (pc := 944) C S hi.1 dL_law_944 ?_
  have hD := J_leader (a1 := (xs (x + 1).toNatClampNeg)) (Q := fun v y h2 => v = y ∧ LJ Y b X 4 1298 [(3, .int x), (2, .ref m), (1, .ref q), (0, .ref sb)] [] r h2 cs sl) hC (fun v h' c' => ⟨rfl, kk _ _ _ _ h' _ (c'.up (Nat.le_add_right _ _) hT)⟩)
  refine l_callVi (pc := 945) (k := 7) (As := [.int (xs (x + 1).toNatClampNeg)]) (st := []) C hY mv_RL_114 (M_SR_leader tq hD) tq (by decide) rfl rfl (Nat.le_of_ble_eq_true rfl) hcs hsl dL_law_945 (fun v h1 hk1 => ?_)
  refine l_aload_n (pc := 948) rfl 1 rfl C dL_law_948 ?_
  refine l_aload_n (pc := 949) rfl 3 rfl C dL_law_949 ?_
  refine l_iload_n (pc := 950) rfl 0 rfl C dL_law_950 ?_
  refine l_iconst (pc := 951) (v := 1) (by decide) C dL_law_951 ?_
  refine l_iadd (pc := 952) C dL_law_952 ?_
  refine l_sld (pc := 953) C S hi.1 dL_law_953 ?_
  refine l_callVi (pc := 954) (k := 8) (As := [.int (xs (x + 1).toNatClampNeg)]) (st := [.int v]) C hY mv_RL_117 (M_Mo_leader tm hk1) tm (by decide) rfl rfl (Nat.le_of_ble_eq_true rfl) hcs hsl dL_law_954 (fun v2 h2 hk2 => ?_)
  refine l_icmp_eq (pc := 957) 1298 C dL_law_957 (by decide) (fun _ => ?_) (fun ne => absurd hk2.1 ne)
  exact hk2.2
theorem LC_24 {Y : CG} {b : Nat} {X : CX} {q m sb L cs sl : Nat} {xs : Nat → Int32} {r : TR} {h : TH} {bb dd LL T : Nat} {A : St} {x : Int32} (C : NGd Y b X cL_law 4 RL 100 600000 7302250) (hY : ∀ a ∈ yL Y, b ≤ a) (S : Scr X b sb L xs) (tq : TO Y q 7) (tm : TO Y m 8) (hcs : cs ≤ 600000) (hsl : sl ≤ 7302250) (hi : vp_in (x + 1) L ∧ vp_in (x + 2) L ∧ vp_in (x + 3) L ∧ vp_in (x + 4) L ∧ vp_in (x + 5) L) (hC : Cx r q bb dd m LL T h A) (hT : T + 100 ≤ 100000) (kk : ∀ r' b' d' L' h' A', Cx r' q b' d' m L' (T + 100) h' A' → LJ Y b X 4 1298 [(3, .int x), (2, .ref m), (1, .ref q), (0, .ref sb)] [] r' h' cs sl) : LJ Y b X 4 962 [(3, .int x), (2, .ref m), (1, .ref q), (0, .ref sb)] [] r h cs sl := by
  refine l_aload_n (pc := 962) rfl 2 rfl C dL_law_962 ?_
  refine l_aload_n (pc := 963) rfl 3 rfl C dL_law_963 ?_
  refine l_iload_n (pc := 964) rfl 0 rfl C dL_law_964 ?_
  refine l_iconst (pc := 965) (v := 1) (by decide) C dL_law_965 ?_
  refine l_iadd (pc := 966) C dL_law_966 ?_
  refine l_sld (pc := 967) C S hi.1 dL_law_967 ?_
  have hD := J_cover (a1 := (xs (x + 1).toNatClampNeg)) (Q := fun v y h2 => v = y ∧ LJ Y b X 4 1298 [(3, .int x), (2, .ref m), (1, .ref q), (0, .ref sb)] [] r h2 cs sl) hC (fun v h' c' => ⟨rfl, kk _ _ _ _ h' _ (c'.up (Nat.le_add_right _ _) hT)⟩)
  refine l_callVi (pc := 968) (k := 7) (As := [.int (xs (x + 1).toNatClampNeg)]) (st := []) C hY mv_RL_118 (M_SR_cover tq hD) tq (by decide) rfl rfl (Nat.le_of_ble_eq_true rfl) hcs hsl dL_law_968 (fun v h1 hk1 => ?_)
  refine l_aload_n (pc := 971) rfl 1 rfl C dL_law_971 ?_
  refine l_aload_n (pc := 972) rfl 3 rfl C dL_law_972 ?_
  refine l_iload_n (pc := 973) rfl 0 rfl C dL_law_973 ?_
  refine l_iconst (pc := 974) (v := 1) (by decide) C dL_law_974 ?_
  refine l_iadd (pc := 975) C dL_law_975 ?_
  refine l_sld (pc := 976) C S hi.1 dL_law_976 ?_
  refine l_callVi (pc := 977) (k := 8) (As := [.int (xs (x + 1).toNatClampNeg)]) (st := [.int v]) C hY mv_RL_121 (M_Mo_cover tm hk1) tm (by decide) rfl rfl (Nat.le_of_ble_eq_true rfl) hcs hsl dL_law_977 (fun v2 h2 hk2 => ?_)
  refine l_icmp_eq (pc := 980) 1298 C dL_law_980 (by decide) (fun _ => ?_) (fun ne => absurd hk2.1 ne)
  exact hk2.2
theorem LC_25 {Y : CG} {b : Nat} {X : CX} {q m sb L cs sl : Nat} {xs : Nat → Int32} {r : TR} {h : TH} {bb dd LL T : Nat} {A : St} {x : Int32} (C : NGd Y b X cL_law 4 RL 100 600000 7302250) (hY : ∀ a ∈ yL Y, b ≤ a) (S : Scr X b sb L xs) (tq : TO Y q 7) (tm : TO Y m 8) (hcs : cs ≤ 600000) (hsl : sl ≤ 7302250) (hi : vp_in (x + 1) L ∧ vp_in (x + 2) L ∧ vp_in (x + 3) L ∧ vp_in (x + 4) L ∧ vp_in (x + 5) L) (hC : Cx r q bb dd m LL T h A) (hT : T + 100 ≤ 100000) (kk : ∀ r' b' d' L' h' A', Cx r' q b' d' m L' (T + 100) h' A' → LJ Y b X 4 1298 [(3, .int x), (2, .ref m), (1, .ref q), (0, .ref sb)] [] r' h' cs sl) : LJ Y b X 4 985 [(3, .int x), (2, .ref m), (1, .ref q), (0, .ref sb)] [] r h cs sl := by
  refine l_aload_n (pc := 985) rfl 2 rfl C dL_law_985 ?_
  refine l_aload_n (pc := 986) rfl 3 rfl C dL_law_986 ?_
  refine l_iload_n (pc := 987) rfl 0 rfl C dL_law_987 ?_
  refine l_iconst (pc := 988) (v := 1) (by decide) C dL_law_988 ?_
  refine l_iadd (pc := 989) C dL_law_989 ?_
  refine l_sld (pc := 990) C S hi.1 dL_law_990 ?_
  refine l_aload_n (pc := 991) rfl 3 rfl C dL_law_991 ?_
  refine l_iload_n (pc := 992) rfl 0 rfl C dL_law_992 ?_
  refine l_iconst (pc := 993) (v := 2) (by decide) C dL_law_993 ?_
  refine l_iadd (pc := 994) C dL_law_994 ?_
  refine l_sld (pc := 995) C S hi.2.1 dL_law_995 ?_
  have hD := J_out (a1 := (xs (x + 1).toNatClampNeg)) (a2 := (xs (x + 2).toNatClampNeg)) (Q := fun v y h2 => v = y ∧ LJ Y b X 4 1298 [(3, .int x), (2, .ref m), (1, .ref q), (0, .ref sb)] [] r h2 cs sl) hC (fun v h' c' => ⟨rfl, kk _ _ _ _ h' _ (c'.up (Nat.le_add_right _ _) hT)⟩)
  refine l_callVi (pc := 996) (k := 7) (As := [.int (xs (x + 1).toNatClampNeg), .int (xs (x + 2).toNatClampNeg)]) (st := []) C hY mv_RL_122 (M_SR_out tq hD) tq (by decide) rfl rfl (Nat.le_of_ble_eq_true rfl) hcs hsl dL_law_996 (fun v h1 hk1 => ?_)
  refine l_aload_n (pc := 999) rfl 1 rfl C dL_law_999 ?_
  refine l_aload_n (pc := 1000) rfl 3 rfl C dL_law_1000 ?_
  refine l_iload_n (pc := 1001) rfl 0 rfl C dL_law_1001 ?_
  refine l_iconst (pc := 1002) (v := 1) (by decide) C dL_law_1002 ?_
  refine l_iadd (pc := 1003) C dL_law_1003 ?_
  refine l_sld (pc := 1004) C S hi.1 dL_law_1004 ?_
  refine l_aload_n (pc := 1005) rfl 3 rfl C dL_law_1005 ?_
  refine l_iload_n (pc := 1006) rfl 0 rfl C dL_law_1006 ?_
  refine l_iconst (pc := 1007) (v := 2) (by decide) C dL_law_1007 ?_
  refine l_iadd (pc := 1008) C dL_law_1008 ?_
  refine l_sld (pc := 1009) C S hi.2.1 dL_law_1009 ?_
  refine l_callVi (pc := 1010) (k := 8) (As := [.int (xs (x + 1).toNatClampNeg), .int (xs (x + 2).toNatClampNeg)]) (st := [.int v]) C hY mv_RL_125 (M_Mo_out tm hk1) tm (by decide) rfl rfl (Nat.le_of_ble_eq_true rfl) hcs hsl dL_law_1010 (fun v2 h2 hk2 => ?_)
  refine l_icmp_eq (pc := 1013) 1298 C dL_law_1013 (by decide) (fun _ => ?_) (fun ne => absurd hk2.1 ne)
  exact hk2.2
theorem LC_26 {Y : CG} {b : Nat} {X : CX} {q m sb L cs sl : Nat} {xs : Nat → Int32} {r : TR} {h : TH} {bb dd LL T : Nat} {A : St} {x : Int32} (C : NGd Y b X cL_law 4 RL 100 600000 7302250) (hY : ∀ a ∈ yL Y, b ≤ a) (S : Scr X b sb L xs) (tq : TO Y q 7) (tm : TO Y m 8) (hcs : cs ≤ 600000) (hsl : sl ≤ 7302250) (hi : vp_in (x + 1) L ∧ vp_in (x + 2) L ∧ vp_in (x + 3) L ∧ vp_in (x + 4) L ∧ vp_in (x + 5) L) (hC : Cx r q bb dd m LL T h A) (hT : T + 100 ≤ 100000) (kk : ∀ r' b' d' L' h' A', Cx r' q b' d' m L' (T + 100) h' A' → LJ Y b X 4 1298 [(3, .int x), (2, .ref m), (1, .ref q), (0, .ref sb)] [] r' h' cs sl) : LJ Y b X 4 1018 [(3, .int x), (2, .ref m), (1, .ref q), (0, .ref sb)] [] r h cs sl := by
  refine l_aload_n (pc := 1018) rfl 2 rfl C dL_law_1018 ?_
  refine l_aload_n (pc := 1019) rfl 3 rfl C dL_law_1019 ?_
  refine l_iload_n (pc := 1020) rfl 0 rfl C dL_law_1020 ?_
  refine l_iconst (pc := 1021) (v := 1) (by decide) C dL_law_1021 ?_
  refine l_iadd (pc := 1022) C dL_law_1022 ?_
  refine l_sld (pc := 1023) C S hi.1 dL_law_1023 ?_
  refine l_aload_n (pc := 1024) rfl 3 rfl C dL_law_1024 ?_
  refine l_iload_n (pc := 1025) rfl 0 rfl C dL_law_1025 ?_
  refine l_iconst (pc := 1026) (v := 2) (by decide) C dL_law_1026 ?_
  refine l_iadd (pc := 1027) C dL_law_1027 ?_
  refine l_sld (pc := 1028) C S hi.2.1 dL_law_1028 ?_
  refine l_aload_n (pc := 1029) rfl 3 rfl C dL_law_1029 ?_
  refine l_iload_n (pc := 1030) rfl 0 rfl C dL_law_1030 ?_
  refine l_iconst (pc := 1031) (v := 3) (by decide) C dL_law_1031 ?_
  refine l_iadd (pc := 1032) C dL_law_1032 ?_
  refine l_sld (pc := 1033) C S hi.2.2.1 dL_law_1033 ?_
  have hD := J_odds (a1 := (xs (x + 1).toNatClampNeg)) (a2 := (xs (x + 2).toNatClampNeg)) (a3 := (xs (x + 3).toNatClampNeg)) (Q := fun v y h2 => v = y ∧ LJ Y b X 4 1298 [(3, .int x), (2, .ref m), (1, .ref q), (0, .ref sb)] [] r h2 cs sl) hC (fun v h' c' => ⟨rfl, kk _ _ _ _ h' _ (c'.up (Nat.le_add_right _ _) hT)⟩)
  refine l_callVi (pc := 1034) (k := 7) (As := [.int (xs (x + 1).toNatClampNeg), .int (xs (x + 2).toNatClampNeg), .int (xs (x + 3).toNatClampNeg)]) (st := []) C hY mv_RL_126 (M_SR_odds tq hD) tq (by decide) rfl rfl (Nat.le_of_ble_eq_true rfl) hcs hsl dL_law_1034 (fun v h1 hk1 => ?_)
  refine l_aload_n (pc := 1037) rfl 1 rfl C dL_law_1037 ?_
  refine l_aload_n (pc := 1038) rfl 3 rfl C dL_law_1038 ?_
  refine l_iload_n (pc := 1039) rfl 0 rfl C dL_law_1039 ?_
  refine l_iconst (pc := 1040) (v := 1) (by decide) C dL_law_1040 ?_
  refine l_iadd (pc := 1041) C dL_law_1041 ?_
  refine l_sld (pc := 1042) C S hi.1 dL_law_1042 ?_
  refine l_aload_n (pc := 1043) rfl 3 rfl C dL_law_1043 ?_
  refine l_iload_n (pc := 1044) rfl 0 rfl C dL_law_1044 ?_
  refine l_iconst (pc := 1045) (v := 2) (by decide) C dL_law_1045 ?_
  refine l_iadd (pc := 1046) C dL_law_1046 ?_
  refine l_sld (pc := 1047) C S hi.2.1 dL_law_1047 ?_
  refine l_aload_n (pc := 1048) rfl 3 rfl C dL_law_1048 ?_
  refine l_iload_n (pc := 1049) rfl 0 rfl C dL_law_1049 ?_
  refine l_iconst (pc := 1050) (v := 3) (by decide) C dL_law_1050 ?_
  refine l_iadd (pc := 1051) C dL_law_1051 ?_
  refine l_sld (pc := 1052) C S hi.2.2.1 dL_law_1052 ?_
  refine l_callVi (pc := 1053) (k := 8) (As := [.int (xs (x + 1).toNatClampNeg), .int (xs (x + 2).toNatClampNeg), .int (xs (x + 3).toNatClampNeg)]) (st := [.int v]) C hY mv_RL_129 (M_Mo_odds tm hk1) tm (by decide) rfl rfl (Nat.le_of_ble_eq_true rfl) hcs hsl dL_law_1053 (fun v2 h2 hk2 => ?_)
  refine l_icmp_eq (pc := 1056) 1298 C dL_law_1056 (by decide) (fun _ => ?_) (fun ne => absurd hk2.1 ne)
  exact hk2.2
theorem LC_27 {Y : CG} {b : Nat} {X : CX} {q m sb L cs sl : Nat} {xs : Nat → Int32} {r : TR} {h : TH} {bb dd LL T : Nat} {A : St} {x : Int32} (C : NGd Y b X cL_law 4 RL 100 600000 7302250) (hY : ∀ a ∈ yL Y, b ≤ a) (S : Scr X b sb L xs) (tq : TO Y q 7) (tm : TO Y m 8) (hcs : cs ≤ 600000) (hsl : sl ≤ 7302250) (hi : vp_in (x + 1) L ∧ vp_in (x + 2) L ∧ vp_in (x + 3) L ∧ vp_in (x + 4) L ∧ vp_in (x + 5) L) (hC : Cx r q bb dd m LL T h A) (hT : T + 100 ≤ 100000) (kk : ∀ r' b' d' L' h' A', Cx r' q b' d' m L' (T + 100) h' A' → LJ Y b X 4 1298 [(3, .int x), (2, .ref m), (1, .ref q), (0, .ref sb)] [] r' h' cs sl) : LJ Y b X 4 1061 [(3, .int x), (2, .ref m), (1, .ref q), (0, .ref sb)] [] r h cs sl := by
  refine l_aload_n (pc := 1061) rfl 2 rfl C dL_law_1061 ?_
  refine l_aload_n (pc := 1062) rfl 3 rfl C dL_law_1062 ?_
  refine l_iload_n (pc := 1063) rfl 0 rfl C dL_law_1063 ?_
  refine l_iconst (pc := 1064) (v := 1) (by decide) C dL_law_1064 ?_
  refine l_iadd (pc := 1065) C dL_law_1065 ?_
  refine l_sld (pc := 1066) C S hi.1 dL_law_1066 ?_
  have hD := J_lost (a1 := (xs (x + 1).toNatClampNeg)) (Q := fun v y h2 => v = y ∧ LJ Y b X 4 1298 [(3, .int x), (2, .ref m), (1, .ref q), (0, .ref sb)] [] r h2 cs sl) hC (fun v h' c' => ⟨rfl, kk _ _ _ _ h' _ (c'.up (Nat.le_add_right _ _) hT)⟩)
  refine l_callVi (pc := 1067) (k := 7) (As := [.int (xs (x + 1).toNatClampNeg)]) (st := []) C hY mv_RL_130 (M_SR_lost tq hD) tq (by decide) rfl rfl (Nat.le_of_ble_eq_true rfl) hcs hsl dL_law_1067 (fun v h1 hk1 => ?_)
  refine l_aload_n (pc := 1070) rfl 1 rfl C dL_law_1070 ?_
  refine l_aload_n (pc := 1071) rfl 3 rfl C dL_law_1071 ?_
  refine l_iload_n (pc := 1072) rfl 0 rfl C dL_law_1072 ?_
  refine l_iconst (pc := 1073) (v := 1) (by decide) C dL_law_1073 ?_
  refine l_iadd (pc := 1074) C dL_law_1074 ?_
  refine l_sld (pc := 1075) C S hi.1 dL_law_1075 ?_
  refine l_callVi (pc := 1076) (k := 8) (As := [.int (xs (x + 1).toNatClampNeg)]) (st := [.int v]) C hY mv_RL_133 (M_Mo_lost tm hk1) tm (by decide) rfl rfl (Nat.le_of_ble_eq_true rfl) hcs hsl dL_law_1076 (fun v2 h2 hk2 => ?_)
  refine l_icmp_eq (pc := 1079) 1298 C dL_law_1079 (by decide) (fun _ => ?_) (fun ne => absurd hk2.1 ne)
  exact hk2.2
theorem LC_28 {Y : CG} {b : Nat} {X : CX} {q m sb L cs sl : Nat} {xs : Nat → Int32} {r : TR} {h : TH} {bb dd LL T : Nat} {A : St} {x : Int32} (C : NGd Y b X cL_law 4 RL 100 600000 7302250) (hY : ∀ a ∈ yL Y, b ≤ a) (S : Scr X b sb L xs) (tq : TO Y q 7) (tm : TO Y m 8) (hcs : cs ≤ 600000) (hsl : sl ≤ 7302250) (hi : vp_in (x + 1) L ∧ vp_in (x + 2) L ∧ vp_in (x + 3) L ∧ vp_in (x + 4) L ∧ vp_in (x + 5) L) (hC : Cx r q bb dd m LL T h A) (hT : T + 100 ≤ 100000) (kk : ∀ r' b' d' L' h' A', Cx r' q b' d' m L' (T + 100) h' A' → LJ Y b X 4 1298 [(3, .int x), (2, .ref m), (1, .ref q), (0, .ref sb)] [] r' h' cs sl) : LJ Y b X 4 1084 [(3, .int x), (2, .ref m), (1, .ref q), (0, .ref sb)] [] r h cs sl := by
  refine l_aload_n (pc := 1084) rfl 2 rfl C dL_law_1084 ?_
  refine l_aload_n (pc := 1085) rfl 3 rfl C dL_law_1085 ?_
  refine l_iload_n (pc := 1086) rfl 0 rfl C dL_law_1086 ?_
  refine l_iconst (pc := 1087) (v := 1) (by decide) C dL_law_1087 ?_
  refine l_iadd (pc := 1088) C dL_law_1088 ?_
  refine l_sld (pc := 1089) C S hi.1 dL_law_1089 ?_
  refine l_aload_n (pc := 1090) rfl 3 rfl C dL_law_1090 ?_
  refine l_iload_n (pc := 1091) rfl 0 rfl C dL_law_1091 ?_
  refine l_iconst (pc := 1092) (v := 2) (by decide) C dL_law_1092 ?_
  refine l_iadd (pc := 1093) C dL_law_1093 ?_
  refine l_sld (pc := 1094) C S hi.2.1 dL_law_1094 ?_
  have hD := J_tell (a1 := (xs (x + 1).toNatClampNeg)) (a2 := (xs (x + 2).toNatClampNeg)) (Q := fun v y h2 => v = y ∧ LJ Y b X 4 1298 [(3, .int x), (2, .ref m), (1, .ref q), (0, .ref sb)] [] r h2 cs sl) hC (fun v h' A' c' => ⟨rfl, kk _ _ _ _ h' A' (c'.up (Nat.le_add_right _ _) hT)⟩)
  refine l_callVi (pc := 1095) (k := 7) (As := [.int (xs (x + 1).toNatClampNeg), .int (xs (x + 2).toNatClampNeg)]) (st := []) C hY mv_RL_134 (M_SR_tell tq hD) tq (by decide) rfl rfl (Nat.le_of_ble_eq_true rfl) hcs hsl dL_law_1095 (fun v h1 hk1 => ?_)
  refine l_aload_n (pc := 1098) rfl 1 rfl C dL_law_1098 ?_
  refine l_aload_n (pc := 1099) rfl 3 rfl C dL_law_1099 ?_
  refine l_iload_n (pc := 1100) rfl 0 rfl C dL_law_1100 ?_
  refine l_iconst (pc := 1101) (v := 1) (by decide) C dL_law_1101 ?_
  refine l_iadd (pc := 1102) C dL_law_1102 ?_
  refine l_sld (pc := 1103) C S hi.1 dL_law_1103 ?_
  refine l_aload_n (pc := 1104) rfl 3 rfl C dL_law_1104 ?_
  refine l_iload_n (pc := 1105) rfl 0 rfl C dL_law_1105 ?_
  refine l_iconst (pc := 1106) (v := 2) (by decide) C dL_law_1106 ?_
  refine l_iadd (pc := 1107) C dL_law_1107 ?_
  refine l_sld (pc := 1108) C S hi.2.1 dL_law_1108 ?_
  refine l_callVi (pc := 1109) (k := 8) (As := [.int (xs (x + 1).toNatClampNeg), .int (xs (x + 2).toNatClampNeg)]) (st := [.int v]) C hY mv_RL_137 (M_Mo_tell tm hk1) tm (by decide) rfl rfl (Nat.le_of_ble_eq_true rfl) hcs hsl dL_law_1109 (fun v2 h2 hk2 => ?_)
  refine l_icmp_eq (pc := 1112) 1298 C dL_law_1112 (by decide) (fun _ => ?_) (fun ne => absurd hk2.1 ne)
  exact hk2.2
theorem LC_29 {Y : CG} {b : Nat} {X : CX} {q m sb L cs sl : Nat} {xs : Nat → Int32} {r : TR} {h : TH} {bb dd LL T : Nat} {A : St} {x : Int32} (C : NGd Y b X cL_law 4 RL 100 600000 7302250) (hY : ∀ a ∈ yL Y, b ≤ a) (S : Scr X b sb L xs) (tq : TO Y q 7) (tm : TO Y m 8) (hcs : cs ≤ 600000) (hsl : sl ≤ 7302250) (hi : vp_in (x + 1) L ∧ vp_in (x + 2) L ∧ vp_in (x + 3) L ∧ vp_in (x + 4) L ∧ vp_in (x + 5) L) (hC : Cx r q bb dd m LL T h A) (hT : T + 100 ≤ 100000) (kk : ∀ r' b' d' L' h' A', Cx r' q b' d' m L' (T + 100) h' A' → LJ Y b X 4 1298 [(3, .int x), (2, .ref m), (1, .ref q), (0, .ref sb)] [] r' h' cs sl) : LJ Y b X 4 1117 [(3, .int x), (2, .ref m), (1, .ref q), (0, .ref sb)] [] r h cs sl := by
  refine l_aload_n (pc := 1117) rfl 2 rfl C dL_law_1117 ?_
  have hD := J_forget (Q := fun v y h2 => v = y ∧ LJ Y b X 4 1298 [(3, .int x), (2, .ref m), (1, .ref q), (0, .ref sb)] [] r h2 cs sl) hC (fun v h' A' c' => ⟨rfl, kk _ _ _ _ h' A' (c'.up (Nat.le_add_right _ _) hT)⟩)
  refine l_callVi (pc := 1118) (k := 7) (As := []) (st := []) C hY mv_RL_138 (M_SR_forget tq hD) tq (by decide) rfl rfl (Nat.le_of_ble_eq_true rfl) hcs hsl dL_law_1118 (fun v h1 hk1 => ?_)
  refine l_aload_n (pc := 1121) rfl 1 rfl C dL_law_1121 ?_
  refine l_callVi (pc := 1122) (k := 8) (As := []) (st := [.int v]) C hY mv_RL_141 (M_Mo_forget tm hk1) tm (by decide) rfl rfl (Nat.le_of_ble_eq_true rfl) hcs hsl dL_law_1122 (fun v2 h2 hk2 => ?_)
  refine l_icmp_eq (pc := 1125) 1298 C dL_law_1125 (by decide) (fun _ => ?_) (fun ne => absurd hk2.1 ne)
  exact hk2.2
theorem LC_30 {Y : CG} {b : Nat} {X : CX} {q m sb L cs sl : Nat} {xs : Nat → Int32} {r : TR} {h : TH} {bb dd LL T : Nat} {A : St} {x : Int32} (C : NGd Y b X cL_law 4 RL 100 600000 7302250) (hY : ∀ a ∈ yL Y, b ≤ a) (S : Scr X b sb L xs) (tq : TO Y q 7) (tm : TO Y m 8) (hcs : cs ≤ 600000) (hsl : sl ≤ 7302250) (hi : vp_in (x + 1) L ∧ vp_in (x + 2) L ∧ vp_in (x + 3) L ∧ vp_in (x + 4) L ∧ vp_in (x + 5) L) (hC : Cx r q bb dd m LL T h A) (hT : T + 100 ≤ 100000) (kk : ∀ r' b' d' L' h' A', Cx r' q b' d' m L' (T + 100) h' A' → LJ Y b X 4 1298 [(3, .int x), (2, .ref m), (1, .ref q), (0, .ref sb)] [] r' h' cs sl) : LJ Y b X 4 1130 [(3, .int x), (2, .ref m), (1, .ref q), (0, .ref sb)] [] r h cs sl := by
  refine l_aload_n (pc := 1130) rfl 2 rfl C dL_law_1130 ?_
  refine l_aload_n (pc := 1131) rfl 3 rfl C dL_law_1131 ?_
  refine l_iload_n (pc := 1132) rfl 0 rfl C dL_law_1132 ?_
  refine l_iconst (pc := 1133) (v := 1) (by decide) C dL_law_1133 ?_
  refine l_iadd (pc := 1134) C dL_law_1134 ?_
  refine l_sld (pc := 1135) C S hi.1 dL_law_1135 ?_
  have hD := J_fried (a1 := (xs (x + 1).toNatClampNeg)) (Q := fun v y h2 => v = y ∧ LJ Y b X 4 1298 [(3, .int x), (2, .ref m), (1, .ref q), (0, .ref sb)] [] r h2 cs sl) hC (fun v h' c' => ⟨rfl, kk _ _ _ _ h' _ (c'.up (Nat.le_add_right _ _) hT)⟩)
  refine l_callVi (pc := 1136) (k := 7) (As := [.int (xs (x + 1).toNatClampNeg)]) (st := []) C hY mv_RL_142 (M_SR_fried tq hD) tq (by decide) rfl rfl (Nat.le_of_ble_eq_true rfl) hcs hsl dL_law_1136 (fun v h1 hk1 => ?_)
  refine l_aload_n (pc := 1139) rfl 1 rfl C dL_law_1139 ?_
  refine l_aload_n (pc := 1140) rfl 3 rfl C dL_law_1140 ?_
  refine l_iload_n (pc := 1141) rfl 0 rfl C dL_law_1141 ?_
  refine l_iconst (pc := 1142) (v := 1) (by decide) C dL_law_1142 ?_
  refine l_iadd (pc := 1143) C dL_law_1143 ?_
  refine l_sld (pc := 1144) C S hi.1 dL_law_1144 ?_
  refine l_callVi (pc := 1145) (k := 8) (As := [.int (xs (x + 1).toNatClampNeg)]) (st := [.int v]) C hY mv_RL_145 (M_Mo_fried tm hk1) tm (by decide) rfl rfl (Nat.le_of_ble_eq_true rfl) hcs hsl dL_law_1145 (fun v2 h2 hk2 => ?_)
  refine l_icmp_eq (pc := 1148) 1298 C dL_law_1148 (by decide) (fun _ => ?_) (fun ne => absurd hk2.1 ne)
  exact hk2.2
theorem LC_31 {Y : CG} {b : Nat} {X : CX} {q m sb L cs sl : Nat} {xs : Nat → Int32} {r : TR} {h : TH} {bb dd LL T : Nat} {A : St} {x : Int32} (C : NGd Y b X cL_law 4 RL 100 600000 7302250) (hY : ∀ a ∈ yL Y, b ≤ a) (S : Scr X b sb L xs) (tq : TO Y q 7) (tm : TO Y m 8) (hcs : cs ≤ 600000) (hsl : sl ≤ 7302250) (hi : vp_in (x + 1) L ∧ vp_in (x + 2) L ∧ vp_in (x + 3) L ∧ vp_in (x + 4) L ∧ vp_in (x + 5) L) (hC : Cx r q bb dd m LL T h A) (hT : T + 100 ≤ 100000) (kk : ∀ r' b' d' L' h' A', Cx r' q b' d' m L' (T + 100) h' A' → LJ Y b X 4 1298 [(3, .int x), (2, .ref m), (1, .ref q), (0, .ref sb)] [] r' h' cs sl) : LJ Y b X 4 1153 [(3, .int x), (2, .ref m), (1, .ref q), (0, .ref sb)] [] r h cs sl := by
  refine l_aload_n (pc := 1153) rfl 2 rfl C dL_law_1153 ?_
  refine l_aload_n (pc := 1154) rfl 3 rfl C dL_law_1154 ?_
  refine l_iload_n (pc := 1155) rfl 0 rfl C dL_law_1155 ?_
  refine l_iconst (pc := 1156) (v := 1) (by decide) C dL_law_1156 ?_
  refine l_iadd (pc := 1157) C dL_law_1157 ?_
  refine l_sld (pc := 1158) C S hi.1 dL_law_1158 ?_
  refine l_aload_n (pc := 1159) rfl 3 rfl C dL_law_1159 ?_
  refine l_iload_n (pc := 1160) rfl 0 rfl C dL_law_1160 ?_
  refine l_iconst (pc := 1161) (v := 2) (by decide) C dL_law_1161 ?_
  refine l_iadd (pc := 1162) C dL_law_1162 ?_
  refine l_sld (pc := 1163) C S hi.2.1 dL_law_1163 ?_
  have hD := J_sure (a1 := (xs (x + 1).toNatClampNeg)) (a2 := (xs (x + 2).toNatClampNeg)) (Q := fun v y h2 => v = y ∧ LJ Y b X 4 1298 [(3, .int x), (2, .ref m), (1, .ref q), (0, .ref sb)] [] r h2 cs sl) hC (fun v h' c' => ⟨rfl, kk _ _ _ _ h' _ (c'.up (Nat.le_add_right _ _) hT)⟩)
  refine l_callVi (pc := 1164) (k := 7) (As := [.int (xs (x + 1).toNatClampNeg), .int (xs (x + 2).toNatClampNeg)]) (st := []) C hY mv_RL_146 (M_SR_sure tq hD) tq (by decide) rfl rfl (Nat.le_of_ble_eq_true rfl) hcs hsl dL_law_1164 (fun v h1 hk1 => ?_)
  refine l_aload_n (pc := 1167) rfl 1 rfl C dL_law_1167 ?_
  refine l_aload_n (pc := 1168) rfl 3 rfl C dL_law_1168 ?_
  refine l_iload_n (pc := 1169) rfl 0 rfl C dL_law_1169 ?_
  refine l_iconst (pc := 1170) (v := 1) (by decide) C dL_law_1170 ?_
  refine l_iadd (pc := 1171) C dL_law_1171 ?_
  refine l_sld (pc := 1172) C S hi.1 dL_law_1172 ?_
  refine l_aload_n (pc := 1173) rfl 3 rfl C dL_law_1173 ?_
  refine l_iload_n (pc := 1174) rfl 0 rfl C dL_law_1174 ?_
  refine l_iconst (pc := 1175) (v := 2) (by decide) C dL_law_1175 ?_
  refine l_iadd (pc := 1176) C dL_law_1176 ?_
  refine l_sld (pc := 1177) C S hi.2.1 dL_law_1177 ?_
  refine l_callVi (pc := 1178) (k := 8) (As := [.int (xs (x + 1).toNatClampNeg), .int (xs (x + 2).toNatClampNeg)]) (st := [.int v]) C hY mv_RL_149 (M_Mo_sure tm hk1) tm (by decide) rfl rfl (Nat.le_of_ble_eq_true rfl) hcs hsl dL_law_1178 (fun v2 h2 hk2 => ?_)
  refine l_icmp_eq (pc := 1181) 1298 C dL_law_1181 (by decide) (fun _ => ?_) (fun ne => absurd hk2.1 ne)
  exact hk2.2
theorem LC_32 {Y : CG} {b : Nat} {X : CX} {q m sb L cs sl : Nat} {xs : Nat → Int32} {r : TR} {h : TH} {bb dd LL T : Nat} {A : St} {x : Int32} (C : NGd Y b X cL_law 4 RL 100 600000 7302250) (hY : ∀ a ∈ yL Y, b ≤ a) (S : Scr X b sb L xs) (tq : TO Y q 7) (tm : TO Y m 8) (hcs : cs ≤ 600000) (hsl : sl ≤ 7302250) (hi : vp_in (x + 1) L ∧ vp_in (x + 2) L ∧ vp_in (x + 3) L ∧ vp_in (x + 4) L ∧ vp_in (x + 5) L) (hC : Cx r q bb dd m LL T h A) (hT : T + 100 ≤ 100000) (kk : ∀ r' b' d' L' h' A', Cx r' q b' d' m L' (T + 100) h' A' → LJ Y b X 4 1298 [(3, .int x), (2, .ref m), (1, .ref q), (0, .ref sb)] [] r' h' cs sl) : LJ Y b X 4 1186 [(3, .int x), (2, .ref m), (1, .ref q), (0, .ref sb)] [] r h cs sl := by
  refine l_aload_n (pc := 1186) rfl 2 rfl C dL_law_1186 ?_
  refine l_aload_n (pc := 1187) rfl 3 rfl C dL_law_1187 ?_
  refine l_iload_n (pc := 1188) rfl 0 rfl C dL_law_1188 ?_
  refine l_iconst (pc := 1189) (v := 1) (by decide) C dL_law_1189 ?_
  refine l_iadd (pc := 1190) C dL_law_1190 ?_
  refine l_sld (pc := 1191) C S hi.1 dL_law_1191 ?_
  refine l_aload_n (pc := 1192) rfl 3 rfl C dL_law_1192 ?_
  refine l_iload_n (pc := 1193) rfl 0 rfl C dL_law_1193 ?_
  refine l_iconst (pc := 1194) (v := 2) (by decide) C dL_law_1194 ?_
  refine l_iadd (pc := 1195) C dL_law_1195 ?_
  refine l_sld (pc := 1196) C S hi.2.1 dL_law_1196 ?_
  refine l_aload_n (pc := 1197) rfl 3 rfl C dL_law_1197 ?_
  refine l_iload_n (pc := 1198) rfl 0 rfl C dL_law_1198 ?_
  refine l_iconst (pc := 1199) (v := 3) (by decide) C dL_law_1199 ?_
  refine l_iadd (pc := 1200) C dL_law_1200 ?_
  refine l_sld (pc := 1201) C S hi.2.2.1 dL_law_1201 ?_
  have hD := J_rock (a1 := (xs (x + 1).toNatClampNeg)) (a2 := (xs (x + 2).toNatClampNeg)) (a3 := (xs (x + 3).toNatClampNeg)) (Q := fun v y h2 => v = y ∧ LJ Y b X 4 1298 [(3, .int x), (2, .ref m), (1, .ref q), (0, .ref sb)] [] r h2 cs sl) hC (fun v h' c' => ⟨rfl, kk _ _ _ _ h' _ (c'.up (Nat.le_add_right _ _) hT)⟩)
  refine l_callVi (pc := 1202) (k := 7) (As := [.int (xs (x + 1).toNatClampNeg), .int (xs (x + 2).toNatClampNeg), .int (xs (x + 3).toNatClampNeg)]) (st := []) C hY mv_RL_150 (M_SR_rock tq hD) tq (by decide) rfl rfl (Nat.le_of_ble_eq_true rfl) hcs hsl dL_law_1202 (fun v h1 hk1 => ?_)
  refine l_aload_n (pc := 1205) rfl 1 rfl C dL_law_1205 ?_
  refine l_aload_n (pc := 1206) rfl 3 rfl C dL_law_1206 ?_
  refine l_iload_n (pc := 1207) rfl 0 rfl C dL_law_1207 ?_
  refine l_iconst (pc := 1208) (v := 1) (by decide) C dL_law_1208 ?_
  refine l_iadd (pc := 1209) C dL_law_1209 ?_
  refine l_sld (pc := 1210) C S hi.1 dL_law_1210 ?_
  refine l_aload_n (pc := 1211) rfl 3 rfl C dL_law_1211 ?_
  refine l_iload_n (pc := 1212) rfl 0 rfl C dL_law_1212 ?_
  refine l_iconst (pc := 1213) (v := 2) (by decide) C dL_law_1213 ?_
  refine l_iadd (pc := 1214) C dL_law_1214 ?_
  refine l_sld (pc := 1215) C S hi.2.1 dL_law_1215 ?_
  refine l_aload_n (pc := 1216) rfl 3 rfl C dL_law_1216 ?_
  refine l_iload_n (pc := 1217) rfl 0 rfl C dL_law_1217 ?_
  refine l_iconst (pc := 1218) (v := 3) (by decide) C dL_law_1218 ?_
  refine l_iadd (pc := 1219) C dL_law_1219 ?_
  refine l_sld (pc := 1220) C S hi.2.2.1 dL_law_1220 ?_
  refine l_callVi (pc := 1221) (k := 8) (As := [.int (xs (x + 1).toNatClampNeg), .int (xs (x + 2).toNatClampNeg), .int (xs (x + 3).toNatClampNeg)]) (st := [.int v]) C hY mv_RL_153 (M_Mo_rock tm hk1) tm (by decide) rfl rfl (Nat.le_of_ble_eq_true rfl) hcs hsl dL_law_1221 (fun v2 h2 hk2 => ?_)
  refine l_icmp_eq (pc := 1224) 1298 C dL_law_1224 (by decide) (fun _ => ?_) (fun ne => absurd hk2.1 ne)
  exact hk2.2
theorem LC_33 {Y : CG} {b : Nat} {X : CX} {q m sb L cs sl : Nat} {xs : Nat → Int32} {r : TR} {h : TH} {bb dd LL T : Nat} {A : St} {x : Int32} (C : NGd Y b X cL_law 4 RL 100 600000 7302250) (hY : ∀ a ∈ yL Y, b ≤ a) (S : Scr X b sb L xs) (tq : TO Y q 7) (tm : TO Y m 8) (hcs : cs ≤ 600000) (hsl : sl ≤ 7302250) (hi : vp_in (x + 1) L ∧ vp_in (x + 2) L ∧ vp_in (x + 3) L ∧ vp_in (x + 4) L ∧ vp_in (x + 5) L) (hC : Cx r q bb dd m LL T h A) (hT : T + 100 ≤ 100000) (kk : ∀ r' b' d' L' h' A', Cx r' q b' d' m L' (T + 100) h' A' → LJ Y b X 4 1298 [(3, .int x), (2, .ref m), (1, .ref q), (0, .ref sb)] [] r' h' cs sl) : LJ Y b X 4 1229 [(3, .int x), (2, .ref m), (1, .ref q), (0, .ref sb)] [] r h cs sl := by
  refine l_aload_n (pc := 1229) rfl 2 rfl C dL_law_1229 ?_
  refine l_aload_n (pc := 1230) rfl 3 rfl C dL_law_1230 ?_
  refine l_iload_n (pc := 1231) rfl 0 rfl C dL_law_1231 ?_
  refine l_iconst (pc := 1232) (v := 1) (by decide) C dL_law_1232 ?_
  refine l_iadd (pc := 1233) C dL_law_1233 ?_
  refine l_sld (pc := 1234) C S hi.1 dL_law_1234 ?_
  have hD := J_hold (a1 := (xs (x + 1).toNatClampNeg)) (Q := fun v y h2 => v = y ∧ LJ Y b X 4 1298 [(3, .int x), (2, .ref m), (1, .ref q), (0, .ref sb)] [] r h2 cs sl) hC (fun v h' A' c' => ⟨rfl, kk _ _ _ _ h' A' (c'.up (Nat.le_add_right _ _) hT)⟩)
  refine l_callVi (pc := 1235) (k := 7) (As := [.int (xs (x + 1).toNatClampNeg)]) (st := []) C hY mv_RL_154 (M_SR_hold tq hD) tq (by decide) rfl rfl (Nat.le_of_ble_eq_true rfl) hcs hsl dL_law_1235 (fun v h1 hk1 => ?_)
  refine l_aload_n (pc := 1238) rfl 1 rfl C dL_law_1238 ?_
  refine l_aload_n (pc := 1239) rfl 3 rfl C dL_law_1239 ?_
  refine l_iload_n (pc := 1240) rfl 0 rfl C dL_law_1240 ?_
  refine l_iconst (pc := 1241) (v := 1) (by decide) C dL_law_1241 ?_
  refine l_iadd (pc := 1242) C dL_law_1242 ?_
  refine l_sld (pc := 1243) C S hi.1 dL_law_1243 ?_
  refine l_callVi (pc := 1244) (k := 8) (As := [.int (xs (x + 1).toNatClampNeg)]) (st := [.int v]) C hY mv_RL_158 (M_Mo_hold tm hk1) tm (by decide) rfl rfl (Nat.le_of_ble_eq_true rfl) hcs hsl dL_law_1244 (fun v2 h2 hk2 => ?_)
  refine l_icmp_eq (pc := 1247) 1298 C dL_law_1247 (by decide) (fun _ => ?_) (fun ne => absurd hk2.1 ne)
  exact hk2.2
theorem LC_34 {Y : CG} {b : Nat} {X : CX} {q m sb L cs sl : Nat} {xs : Nat → Int32} {r : TR} {h : TH} {bb dd LL T : Nat} {A : St} {x : Int32} (C : NGd Y b X cL_law 4 RL 100 600000 7302250) (hY : ∀ a ∈ yL Y, b ≤ a) (S : Scr X b sb L xs) (tq : TO Y q 7) (tm : TO Y m 8) (hcs : cs ≤ 600000) (hsl : sl ≤ 7302250) (hi : vp_in (x + 1) L ∧ vp_in (x + 2) L ∧ vp_in (x + 3) L ∧ vp_in (x + 4) L ∧ vp_in (x + 5) L) (hC : Cx r q bb dd m LL T h A) (hT : T + 100 ≤ 100000) (kk : ∀ r' b' d' L' h' A', Cx r' q b' d' m L' (T + 100) h' A' → LJ Y b X 4 1298 [(3, .int x), (2, .ref m), (1, .ref q), (0, .ref sb)] [] r' h' cs sl) : LJ Y b X 4 1252 [(3, .int x), (2, .ref m), (1, .ref q), (0, .ref sb)] [] r h cs sl := by
  refine l_aload_n (pc := 1252) rfl 2 rfl C dL_law_1252 ?_
  refine l_aload_n (pc := 1253) rfl 3 rfl C dL_law_1253 ?_
  refine l_iload_n (pc := 1254) rfl 0 rfl C dL_law_1254 ?_
  refine l_iconst (pc := 1255) (v := 1) (by decide) C dL_law_1255 ?_
  refine l_iadd (pc := 1256) C dL_law_1256 ?_
  refine l_sld (pc := 1257) C S hi.1 dL_law_1257 ?_
  have hD := J_restore (a1 := (xs (x + 1).toNatClampNeg)) (Q := fun v y h2 => v = y ∧ LJ Y b X 4 1298 [(3, .int x), (2, .ref m), (1, .ref q), (0, .ref sb)] [] r h2 cs sl) hC (fun v h' A' c' => ⟨rfl, kk _ _ _ _ h' A' (c'.up (Nat.le_add_right _ _) hT)⟩)
  refine l_callVi (pc := 1258) (k := 7) (As := [.int (xs (x + 1).toNatClampNeg)]) (st := []) C hY mv_RL_159 (M_SR_restore tq hD) tq (by decide) rfl rfl (Nat.le_of_ble_eq_true rfl) hcs hsl dL_law_1258 (fun v h1 hk1 => ?_)
  refine l_aload_n (pc := 1261) rfl 1 rfl C dL_law_1261 ?_
  refine l_aload_n (pc := 1262) rfl 3 rfl C dL_law_1262 ?_
  refine l_iload_n (pc := 1263) rfl 0 rfl C dL_law_1263 ?_
  refine l_iconst (pc := 1264) (v := 1) (by decide) C dL_law_1264 ?_
  refine l_iadd (pc := 1265) C dL_law_1265 ?_
  refine l_sld (pc := 1266) C S hi.1 dL_law_1266 ?_
  refine l_callVi (pc := 1267) (k := 8) (As := [.int (xs (x + 1).toNatClampNeg)]) (st := [.int v]) C hY mv_RL_162 (M_Mo_restore tm hk1) tm (by decide) rfl rfl (Nat.le_of_ble_eq_true rfl) hcs hsl dL_law_1267 (fun v2 h2 hk2 => ?_)
  refine l_icmp_eq (pc := 1270) 1298 C dL_law_1270 (by decide) (fun _ => ?_) (fun ne => absurd hk2.1 ne)
  exact hk2.2
theorem LC_35 {Y : CG} {b : Nat} {X : CX} {q m sb L cs sl : Nat} {xs : Nat → Int32} {r : TR} {h : TH} {bb dd LL T : Nat} {A : St} {x : Int32} (C : NGd Y b X cL_law 4 RL 100 600000 7302250) (hY : ∀ a ∈ yL Y, b ≤ a) (S : Scr X b sb L xs) (tq : TO Y q 7) (tm : TO Y m 8) (hcs : cs ≤ 600000) (hsl : sl ≤ 7302250) (hi : vp_in (x + 1) L ∧ vp_in (x + 2) L ∧ vp_in (x + 3) L ∧ vp_in (x + 4) L ∧ vp_in (x + 5) L) (hC : Cx r q bb dd m LL T h A) (hT : T + 100 ≤ 100000) (kk : ∀ r' b' d' L' h' A', Cx r' q b' d' m L' (T + 100) h' A' → LJ Y b X 4 1298 [(3, .int x), (2, .ref m), (1, .ref q), (0, .ref sb)] [] r' h' cs sl) : LJ Y b X 4 1275 [(3, .int x), (2, .ref m), (1, .ref q), (0, .ref sb)] [] r h cs sl := by
  refine l_aload_n (pc := 1275) rfl 2 rfl C dL_law_1275 ?_
  refine l_aload_n (pc := 1276) rfl 3 rfl C dL_law_1276 ?_
  refine l_iload_n (pc := 1277) rfl 0 rfl C dL_law_1277 ?_
  refine l_iconst (pc := 1278) (v := 1) (by decide) C dL_law_1278 ?_
  refine l_iadd (pc := 1279) C dL_law_1279 ?_
  refine l_sld (pc := 1280) C S hi.1 dL_law_1280 ?_
  have hD := J_count (a1 := (xs (x + 1).toNatClampNeg)) (Q := fun v y h2 => v = y ∧ LJ Y b X 4 1298 [(3, .int x), (2, .ref m), (1, .ref q), (0, .ref sb)] [] r h2 cs sl) hC (fun v h' c' => ⟨rfl, kk _ _ _ _ h' _ (c'.up (Nat.le_add_right _ _) hT)⟩)
  refine l_callVi (pc := 1281) (k := 7) (As := [.int (xs (x + 1).toNatClampNeg)]) (st := []) C hY mv_RL_163 (M_SR_count tq hD) tq (by decide) rfl rfl (Nat.le_of_ble_eq_true rfl) hcs hsl dL_law_1281 (fun v h1 hk1 => ?_)
  refine l_aload_n (pc := 1284) rfl 1 rfl C dL_law_1284 ?_
  refine l_aload_n (pc := 1285) rfl 3 rfl C dL_law_1285 ?_
  refine l_iload_n (pc := 1286) rfl 0 rfl C dL_law_1286 ?_
  refine l_iconst (pc := 1287) (v := 1) (by decide) C dL_law_1287 ?_
  refine l_iadd (pc := 1288) C dL_law_1288 ?_
  refine l_sld (pc := 1289) C S hi.1 dL_law_1289 ?_
  refine l_callVi (pc := 1290) (k := 8) (As := [.int (xs (x + 1).toNatClampNeg)]) (st := [.int v]) C hY mv_RL_166 (M_Mo_count tm hk1) tm (by decide) rfl rfl (Nat.le_of_ble_eq_true rfl) hcs hsl dL_law_1290 (fun v2 h2 hk2 => ?_)
  refine l_icmp_eq (pc := 1293) 1298 C dL_law_1293 (by decide) (fun _ => ?_) (fun ne => absurd hk2.1 ne)
  exact hk2.2

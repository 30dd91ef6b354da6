/-! the law's cases -/
abbrev m_L (A : (Nat → Nat) × Option Nat) (b L : Nat) (xs : Nat → Int32) : jm := (RLaw, ⟨"TimeIndexLaw", "law", "([I)Z"⟩, code, 4, some .boolean, fun B s => Zs A B s ∧ va_X b L xs s s.heap ∧ b < B)
abbrev lls (E : jE) (b : Nat) (i : Int32) : List (Nat × Value) := [(0, .ref b), (1, .ref (E.2.2.2 + 0)), (2, .ref (E.2.2.2 + 162)), (3, .int i)]
section JL
variable {E : jE} {A : (Nat → Nat) × Option Nat} {b L : Nat} {xs : Nat → Int32} {k pc : Nat} {ls : List (Nat × Value)} {rest : List Value} {w w' : jw} {r : Option Value}
theorem jx_scr {i : Int32} (d : decode code pc = .ok (.iaload, 1)) (hi : vp_in i L) (kk : jX E (m_L A b L xs) k (pc + 1) ls (.int (xs i.toNatClampNeg) :: rest) w r w') : jX E (m_L A b L xs) k pc ls (.int i :: .ref b :: rest) w r w' :=
  jX_goS (fun p e R s m args below meth c H locs cells slots lsA Q C hS hl kw => by
    obtain ⟨z1, z2, z3⟩ := C.2.2.2.2.2.2.2
    exact va_sld C.1 C.2.1 z2 (Nat.lt_of_lt_of_le z3 C.2.2.2.2.2.2.1) (Nat.not_le.mpr z3) hS hi d kw) kk
theorem jx_scl (d : decode code pc = .ok (.arraylength, 1)) (kk : jX E (m_L A b L xs) k (pc + 1) ls (.int (nI L) :: rest) w r w') : jX E (m_L A b L xs) k pc ls (.ref b :: rest) w r w' :=
  jX_goS (fun p e R s m args below meth c H locs cells slots lsA Q C hS hl kw => by
    obtain ⟨z1, z2, z3⟩ := C.2.2.2.2.2.2.2
    exact va_slen C.1 C.2.1 z2 (Nat.lt_of_lt_of_le z3 C.2.2.2.2.2.2.1) (Nat.not_le.mpr z3) hS d kw) kk
/-- one of the call's numbers -/
theorem jx_arg {i v : Int32} {n : Int} (d0 : decode code pc = .ok (.aload_n 0, 1)) (d1 : decode code (pc + 1) = .ok (.iload_n 3, 1)) (d2 : decode code (pc + 1 + 1) = .ok (.iconst n, 1)) (d3 : decode code (pc + 1 + 1 + 1) = .ok (.iadd, 1)) (d4 : decode code (pc + 1 + 1 + 1 + 1) = .ok (.iaload, 1)) (hv : Int32.ofInt n = v) (hi : vp_in (i + v) L)
    (kk : jX E (m_L A b L xs) k (pc + 1 + 1 + 1 + 1 + 1) (lls E b i) (.int (xs (i + v).toNatClampNeg) :: rest) w r w') : jX E (m_L A b L xs) k pc (lls E b i) rest w r w' := by
  refine jx_aload_n d0 rfl ?_
  refine jx_iload_n d1 rfl ?_
  refine jx_iconst d2 hv ?_
  refine jx_iadd d3 ?_
  exact jx_scr d4 hi kk
end JL
theorem ZL_i {E : jE} {A : (Nat → Nat) × Option Nat} {b L : Nat} {xs : Nat → Int32} : jZi E (m_L A b L xs) (ma_X11_read A) :=
  ⟨fun s U hs hW hq hB => (Zs_i (E := E) (M := ma_X11_read A) (N := ma_X11_read A) (A := A) rfl rfl).1 s U hs.1 hW hq hB, (Zs_i (E := E) (M := ma_X11_read A) (N := ma_X11_read A) (A := A) rfl rfl).2⟩
set_option maxRecDepth 20000 in
theorem lc_feed {E : jE} (hE : jfull E) {A : (Nat → Nat) × Option Nat} {b L : Nat} {xs : Nat → Int32} {i : Int32} {m : Nat} {S : zS} {w : jw} (hm : m ≤ 2900) (h4 : 401 ≤ m) (h : zTop m S w) (hi : ∀ n : Int32, 0 ≤ n → n ≤ 5 → vp_in (i + n) L) (kk : ∀ (S' : zS) (w2 : jw), zTop (m + 1) S' w2 → ∃ w', jX E (m_L A b L xs) 40 1400 (lls E b i) [] w2 (some (.int 1)) w') : ∃ w', jX E (m_L A b L xs) 40 192 (lls E b i) [] w (some (.int 1)) w' := by
  obtain ⟨v, w1, w2, h1, h2, S', hz⟩ := t_feed' hm h (xs (i + 1).toNatClampNeg) (xs (i + 2).toNatClampNeg) (xs (i + 3).toNatClampNeg) (xs (i + 4).toNatClampNeg) (xs (i + 5).toNatClampNeg)
  obtain ⟨w', hX⟩ := kk S' w2 hz
  refine ⟨w', ?_⟩
  refine jx_aload_n dL_192 rfl ?_
  refine jx_arg (v := 1) dL_193 dL_194 dL_195 dL_196 dL_197 (by decide) (hi 1 (by decide) (by decide)) ?_
  refine jx_arg (v := 2) dL_198 dL_199 dL_200 dL_201 dL_202 (by decide) (hi 2 (by decide) (by decide)) ?_
  refine jx_arg (v := 3) dL_203 dL_204 dL_205 dL_206 dL_207 (by decide) (hi 3 (by decide) (by decide)) ?_
  refine jx_arg (v := 4) dL_208 dL_209 dL_210 dL_211 dL_212 (by decide) (hi 4 (by decide) (by decide)) ?_
  refine jx_arg (v := 5) dL_213 dL_214 dL_215 dL_216 dL_217 (by decide) (hi 5 (by decide) (by decide)) ?_
  refine jx_cVi (a := 0) (As := [.int (xs (i + 1).toNatClampNeg), .int (xs (i + 2).toNatClampNeg), .int (xs (i + 3).toNatClampNeg), .int (xs (i + 4).toNatClampNeg), .int (xs (i + 5).toNatClampNeg)]) (rest := []) dL_218 ml_L_13 mv_X11_feed (s_X11_feed hE h1) rfl rfl jc_0 (by decide) (Nat.le_of_ble_eq_true rfl) ?_
  refine jx_aload_n dL_221 rfl ?_
  refine jx_arg (v := 1) dL_222 dL_223 dL_224 dL_225 dL_226 (by decide) (hi 1 (by decide) (by decide)) ?_
  refine jx_arg (v := 2) dL_227 dL_228 dL_229 dL_230 dL_231 (by decide) (hi 2 (by decide) (by decide)) ?_
  refine jx_arg (v := 3) dL_232 dL_233 dL_234 dL_235 dL_236 (by decide) (hi 3 (by decide) (by decide)) ?_
  refine jx_arg (v := 4) dL_237 dL_238 dL_239 dL_240 dL_241 (by decide) (hi 4 (by decide) (by decide)) ?_
  refine jx_arg (v := 5) dL_242 dL_243 dL_244 dL_245 dL_246 (by decide) (hi 5 (by decide) (by decide)) ?_
  refine jx_cVi (a := 162) (As := [.int (xs (i + 1).toNatClampNeg), .int (xs (i + 2).toNatClampNeg), .int (xs (i + 3).toNatClampNeg), .int (xs (i + 4).toNatClampNeg), .int (xs (i + 5).toNatClampNeg)]) (rest := [.int (v)]) dL_247 ml_L_17 mv_X12_feed (s_X12_feed hE h2) rfl rfl (jc_162 hE) (by decide) (Nat.le_of_ble_eq_true rfl) ?_
  exact jx_icmp_eq (tgt := 1400) dL_250 (by decide) (fun _ => hX) (fun q => absurd rfl q)
set_option maxRecDepth 20000 in
theorem lc_back {E : jE} (hE : jfull E) {A : (Nat → Nat) × Option Nat} {b L : Nat} {xs : Nat → Int32} {i : Int32} {m : Nat} {S : zS} {w : jw} (hm : m ≤ 2900) (h4 : 401 ≤ m) (h : zTop m S w) (hi : ∀ n : Int32, 0 ≤ n → n ≤ 5 → vp_in (i + n) L) (kk : ∀ (S' : zS) (w2 : jw), zTop (m + 1) S' w2 → ∃ w', jX E (m_L A b L xs) 40 1400 (lls E b i) [] w2 (some (.int 1)) w') : ∃ w', jX E (m_L A b L xs) 40 255 (lls E b i) [] w (some (.int 1)) w' := by
  obtain ⟨v, w1, w2, h1, h2, S', hz⟩ := t_back' hm h (xs (i + 1).toNatClampNeg)
  obtain ⟨w', hX⟩ := kk S' w2 hz
  refine ⟨w', ?_⟩
  refine jx_aload_n dL_255 rfl ?_
  refine jx_arg (v := 1) dL_256 dL_257 dL_258 dL_259 dL_260 (by decide) (hi 1 (by decide) (by decide)) ?_
  refine jx_cVi (a := 0) (As := [.int (xs (i + 1).toNatClampNeg)]) (rest := []) dL_261 ml_L_18 mv_X11_back (s_X11_back hE h1) rfl rfl jc_0 (by decide) (Nat.le_of_ble_eq_true rfl) ?_
  refine jx_aload_n dL_264 rfl ?_
  refine jx_arg (v := 1) dL_265 dL_266 dL_267 dL_268 dL_269 (by decide) (hi 1 (by decide) (by decide)) ?_
  refine jx_cVi (a := 162) (As := [.int (xs (i + 1).toNatClampNeg)]) (rest := [.int (v)]) dL_270 ml_L_22 mv_X12_back (s_X12_back hE h2) rfl rfl (jc_162 hE) (by decide) (Nat.le_of_ble_eq_true rfl) ?_
  exact jx_icmp_eq (tgt := 1400) dL_273 (by decide) (fun _ => hX) (fun q => absurd rfl q)
set_option maxRecDepth 20000 in
theorem lc_read {E : jE} (hE : jfull E) {A : (Nat → Nat) × Option Nat} {b L : Nat} {xs : Nat → Int32} {i : Int32} {m : Nat} {S : zS} {w : jw} (hm : m ≤ 2900) (h4 : 401 ≤ m) (h : zTop m S w) (hi : ∀ n : Int32, 0 ≤ n → n ≤ 5 → vp_in (i + n) L) (kk : ∀ (S' : zS) (w2 : jw), zTop (m + 1) S' w2 → ∃ w', jX E (m_L A b L xs) 40 1400 (lls E b i) [] w2 (some (.int 1)) w') : ∃ w', jX E (m_L A b L xs) 40 278 (lls E b i) [] w (some (.int 1)) w' := by
  obtain ⟨nf, v, w1, w2, h1, h2, S', hz⟩ := t_read hm h4 h
  obtain ⟨w', hX⟩ := kk S' w2 hz
  refine ⟨w', ?_⟩
  refine jx_aload_n dL_278 rfl ?_
  refine jx_cVi (a := 0) (As := []) (rest := []) dL_279 ml_L_23 mva_X11_read (s_X11_read (A := A) hE h1) rfl rfl jc_0 (by decide) (Nat.le_of_ble_eq_true rfl) ?_ ZL_i
  refine jx_aload_n dL_282 rfl ?_
  refine jx_cVi (a := 162) (As := []) (rest := [.int (v)]) dL_283 ml_L_27 mv_X12_read (s_X12_readF hE h2) rfl rfl (jc_162 hE) (by decide) (Nat.le_of_ble_eq_true rfl) ?_
  exact jx_icmp_eq (tgt := 1400) dL_286 (by decide) (fun _ => hX) (fun q => absurd rfl q)
set_option maxRecDepth 20000 in
theorem lc_place {E : jE} (hE : jfull E) {A : (Nat → Nat) × Option Nat} {b L : Nat} {xs : Nat → Int32} {i : Int32} {m : Nat} {S : zS} {w : jw} (hm : m ≤ 2900) (h4 : 401 ≤ m) (h : zTop m S w) (hi : ∀ n : Int32, 0 ≤ n → n ≤ 5 → vp_in (i + n) L) (kk : ∀ (S' : zS) (w2 : jw), zTop (m + 1) S' w2 → ∃ w', jX E (m_L A b L xs) 40 1400 (lls E b i) [] w2 (some (.int 1)) w') : ∃ w', jX E (m_L A b L xs) 40 291 (lls E b i) [] w (some (.int 1)) w' := by
  obtain ⟨v, w1, w2, h1, h2, S', hz⟩ := t_place hm h 
  obtain ⟨w', hX⟩ := kk S' w2 hz
  refine ⟨w', ?_⟩
  refine jx_aload_n dL_291 rfl ?_
  refine jx_cVi (a := 0) (As := []) (rest := []) dL_292 ml_L_28 mv_X11_place (s_X11_place hE h1) rfl rfl jc_0 (by decide) (Nat.le_of_ble_eq_true rfl) ?_
  refine jx_aload_n dL_295 rfl ?_
  refine jx_cVi (a := 162) (As := []) (rest := [.int (v)]) dL_296 ml_L_31 mv_X12_place (s_X12_place hE h2) rfl rfl (jc_162 hE) (by decide) (Nat.le_of_ble_eq_true rfl) ?_
  exact jx_icmp_eq (tgt := 1400) dL_299 (by decide) (fun _ => hX) (fun q => absurd rfl q)
set_option maxRecDepth 20000 in
theorem lc_put {E : jE} (hE : jfull E) {A : (Nat → Nat) × Option Nat} {b L : Nat} {xs : Nat → Int32} {i : Int32} {m : Nat} {S : zS} {w : jw} (hm : m ≤ 2900) (h4 : 401 ≤ m) (h : zTop m S w) (hi : ∀ n : Int32, 0 ≤ n → n ≤ 5 → vp_in (i + n) L) (kk : ∀ (S' : zS) (w2 : jw), zTop (m + 1) S' w2 → ∃ w', jX E (m_L A b L xs) 40 1400 (lls E b i) [] w2 (some (.int 1)) w') : ∃ w', jX E (m_L A b L xs) 40 304 (lls E b i) [] w (some (.int 1)) w' := by
  obtain ⟨v, w1, w2, h1, h2, S', hz⟩ := t_put' hm h (xs (i + 1).toNatClampNeg) (xs (i + 2).toNatClampNeg)
  obtain ⟨w', hX⟩ := kk S' w2 hz
  refine ⟨w', ?_⟩
  refine jx_aload_n dL_304 rfl ?_
  refine jx_arg (v := 1) dL_305 dL_306 dL_307 dL_308 dL_309 (by decide) (hi 1 (by decide) (by decide)) ?_
  refine jx_arg (v := 2) dL_310 dL_311 dL_312 dL_313 dL_314 (by decide) (hi 2 (by decide) (by decide)) ?_
  refine jx_cVi (a := 0) (As := [.int (xs (i + 1).toNatClampNeg), .int (xs (i + 2).toNatClampNeg)]) (rest := []) dL_315 ml_L_32 mv_X11_put (s_X11_put hE h1) rfl rfl jc_0 (by decide) (Nat.le_of_ble_eq_true rfl) ?_
  refine jx_aload_n dL_318 rfl ?_
  refine jx_arg (v := 1) dL_319 dL_320 dL_321 dL_322 dL_323 (by decide) (hi 1 (by decide) (by decide)) ?_
  refine jx_arg (v := 2) dL_324 dL_325 dL_326 dL_327 dL_328 (by decide) (hi 2 (by decide) (by decide)) ?_
  refine jx_cVi (a := 162) (As := [.int (xs (i + 1).toNatClampNeg), .int (xs (i + 2).toNatClampNeg)]) (rest := [.int (v)]) dL_329 ml_L_36 mv_X12_put (s_X12_put hE h2) rfl rfl (jc_162 hE) (by decide) (Nat.le_of_ble_eq_true rfl) ?_
  exact jx_icmp_eq (tgt := 1400) dL_332 (by decide) (fun _ => hX) (fun q => absurd rfl q)
set_option maxRecDepth 20000 in
theorem lc_cut {E : jE} (hE : jfull E) {A : (Nat → Nat) × Option Nat} {b L : Nat} {xs : Nat → Int32} {i : Int32} {m : Nat} {S : zS} {w : jw} (hm : m ≤ 2900) (h4 : 401 ≤ m) (h : zTop m S w) (hi : ∀ n : Int32, 0 ≤ n → n ≤ 5 → vp_in (i + n) L) (kk : ∀ (S' : zS) (w2 : jw), zTop (m + 1) S' w2 → ∃ w', jX E (m_L A b L xs) 40 1400 (lls E b i) [] w2 (some (.int 1)) w') : ∃ w', jX E (m_L A b L xs) 40 337 (lls E b i) [] w (some (.int 1)) w' := by
  obtain ⟨v, w1, w2, h1, h2, S', hz⟩ := t_cut' hm h (xs (i + 1).toNatClampNeg)
  obtain ⟨w', hX⟩ := kk S' w2 hz
  refine ⟨w', ?_⟩
  refine jx_aload_n dL_337 rfl ?_
  refine jx_arg (v := 1) dL_338 dL_339 dL_340 dL_341 dL_342 (by decide) (hi 1 (by decide) (by decide)) ?_
  refine jx_cVi (a := 0) (As := [.int (xs (i + 1).toNatClampNeg)]) (rest := []) dL_343 ml_L_37 mv_X11_cut (s_X11_cut hE h1) rfl rfl jc_0 (by decide) (Nat.le_of_ble_eq_true rfl) ?_
  refine jx_aload_n dL_346 rfl ?_
  refine jx_arg (v := 1) dL_347 dL_348 dL_349 dL_350 dL_351 (by decide) (hi 1 (by decide) (by decide)) ?_
  refine jx_cVi (a := 162) (As := [.int (xs (i + 1).toNatClampNeg)]) (rest := [.int (v)]) dL_352 ml_L_40 mv_X12_cut (s_X12_cut hE h2) rfl rfl (jc_162 hE) (by decide) (Nat.le_of_ble_eq_true rfl) ?_
  exact jx_icmp_eq (tgt := 1400) dL_355 (by decide) (fun _ => hX) (fun q => absurd rfl q)
set_option maxRecDepth 20000 in
theorem lc_has {E : jE} (hE : jfull E) {A : (Nat → Nat) × Option Nat} {b L : Nat} {xs : Nat → Int32} {i : Int32} {m : Nat} {S : zS} {w : jw} (hm : m ≤ 2900) (h4 : 401 ≤ m) (h : zTop m S w) (hi : ∀ n : Int32, 0 ≤ n → n ≤ 5 → vp_in (i + n) L) (kk : ∀ (S' : zS) (w2 : jw), zTop (m + 1) S' w2 → ∃ w', jX E (m_L A b L xs) 40 1400 (lls E b i) [] w2 (some (.int 1)) w') : ∃ w', jX E (m_L A b L xs) 40 360 (lls E b i) [] w (some (.int 1)) w' := by
  obtain ⟨v, w1, w2, h1, h2, S', hz⟩ := t_has hm h (xs (i + 1).toNatClampNeg) (xs (i + 2).toNatClampNeg)
  obtain ⟨w', hX⟩ := kk S' w2 hz
  refine ⟨w', ?_⟩
  refine jx_aload_n dL_360 rfl ?_
  refine jx_arg (v := 1) dL_361 dL_362 dL_363 dL_364 dL_365 (by decide) (hi 1 (by decide) (by decide)) ?_
  refine jx_arg (v := 2) dL_366 dL_367 dL_368 dL_369 dL_370 (by decide) (hi 2 (by decide) (by decide)) ?_
  refine jx_cVi (a := 0) (As := [.int (xs (i + 1).toNatClampNeg), .int (xs (i + 2).toNatClampNeg)]) (rest := []) dL_371 ml_L_41 mv_X11_has (s_X11_has hE h1) rfl rfl jc_0 (by decide) (Nat.le_of_ble_eq_true rfl) ?_
  refine jx_aload_n dL_374 rfl ?_
  refine jx_arg (v := 1) dL_375 dL_376 dL_377 dL_378 dL_379 (by decide) (hi 1 (by decide) (by decide)) ?_
  refine jx_arg (v := 2) dL_380 dL_381 dL_382 dL_383 dL_384 (by decide) (hi 2 (by decide) (by decide)) ?_
  refine jx_cVi (a := 162) (As := [.int (xs (i + 1).toNatClampNeg), .int (xs (i + 2).toNatClampNeg)]) (rest := [.int (v)]) dL_385 ml_L_44 mv_X12_has (s_X12_has hE h2) rfl rfl (jc_162 hE) (by decide) (Nat.le_of_ble_eq_true rfl) ?_
  exact jx_icmp_eq (tgt := 1400) dL_388 (by decide) (fun _ => hX) (fun q => absurd rfl q)
set_option maxRecDepth 20000 in
theorem lc_value {E : jE} (hE : jfull E) {A : (Nat → Nat) × Option Nat} {b L : Nat} {xs : Nat → Int32} {i : Int32} {m : Nat} {S : zS} {w : jw} (hm : m ≤ 2900) (h4 : 401 ≤ m) (h : zTop m S w) (hi : ∀ n : Int32, 0 ≤ n → n ≤ 5 → vp_in (i + n) L) (kk : ∀ (S' : zS) (w2 : jw), zTop (m + 1) S' w2 → ∃ w', jX E (m_L A b L xs) 40 1400 (lls E b i) [] w2 (some (.int 1)) w') : ∃ w', jX E (m_L A b L xs) 40 393 (lls E b i) [] w (some (.int 1)) w' := by
  obtain ⟨v, w1, w2, h1, h2, S', hz⟩ := t_value hm h (xs (i + 1).toNatClampNeg) (xs (i + 2).toNatClampNeg)
  obtain ⟨w', hX⟩ := kk S' w2 hz
  refine ⟨w', ?_⟩
  refine jx_aload_n dL_393 rfl ?_
  refine jx_arg (v := 1) dL_394 dL_395 dL_396 dL_397 dL_398 (by decide) (hi 1 (by decide) (by decide)) ?_
  refine jx_arg (v := 2) dL_399 dL_400 dL_401 dL_402 dL_403 (by decide) (hi 2 (by decide) (by decide)) ?_
  refine jx_cVi (a := 0) (As := [.int (xs (i + 1).toNatClampNeg), .int (xs (i + 2).toNatClampNeg)]) (rest := []) dL_404 ml_L_45 mv_X11_value (s_X11_value hE h1) rfl rfl jc_0 (by decide) (Nat.le_of_ble_eq_true rfl) ?_
  refine jx_aload_n dL_407 rfl ?_
  refine jx_arg (v := 1) dL_408 dL_409 dL_410 dL_411 dL_412 (by decide) (hi 1 (by decide) (by decide)) ?_
  refine jx_arg (v := 2) dL_413 dL_414 dL_415 dL_416 dL_417 (by decide) (hi 2 (by decide) (by decide)) ?_
  refine jx_cVi (a := 162) (As := [.int (xs (i + 1).toNatClampNeg), .int (xs (i + 2).toNatClampNeg)]) (rest := [.int (v)]) dL_418 ml_L_48 mv_X12_value (s_X12_value hE h2) rfl rfl (jc_162 hE) (by decide) (Nat.le_of_ble_eq_true rfl) ?_
  exact jx_icmp_eq (tgt := 1400) dL_421 (by decide) (fun _ => hX) (fun q => absurd rfl q)
set_option maxRecDepth 20000 in
theorem lc_since {E : jE} (hE : jfull E) {A : (Nat → Nat) × Option Nat} {b L : Nat} {xs : Nat → Int32} {i : Int32} {m : Nat} {S : zS} {w : jw} (hm : m ≤ 2900) (h4 : 401 ≤ m) (h : zTop m S w) (hi : ∀ n : Int32, 0 ≤ n → n ≤ 5 → vp_in (i + n) L) (kk : ∀ (S' : zS) (w2 : jw), zTop (m + 1) S' w2 → ∃ w', jX E (m_L A b L xs) 40 1400 (lls E b i) [] w2 (some (.int 1)) w') : ∃ w', jX E (m_L A b L xs) 40 426 (lls E b i) [] w (some (.int 1)) w' := by
  obtain ⟨v, w1, w2, h1, h2, S', hz⟩ := t_since hm h (xs (i + 1).toNatClampNeg) (xs (i + 2).toNatClampNeg)
  obtain ⟨w', hX⟩ := kk S' w2 hz
  refine ⟨w', ?_⟩
  refine jx_aload_n dL_426 rfl ?_
  refine jx_arg (v := 1) dL_427 dL_428 dL_429 dL_430 dL_431 (by decide) (hi 1 (by decide) (by decide)) ?_
  refine jx_arg (v := 2) dL_432 dL_433 dL_434 dL_435 dL_436 (by decide) (hi 2 (by decide) (by decide)) ?_
  refine jx_cVi (a := 0) (As := [.int (xs (i + 1).toNatClampNeg), .int (xs (i + 2).toNatClampNeg)]) (rest := []) dL_437 ml_L_49 mv_X11_since (s_X11_since hE h1) rfl rfl jc_0 (by decide) (Nat.le_of_ble_eq_true rfl) ?_
  refine jx_aload_n dL_440 rfl ?_
  refine jx_arg (v := 1) dL_441 dL_442 dL_443 dL_444 dL_445 (by decide) (hi 1 (by decide) (by decide)) ?_
  refine jx_arg (v := 2) dL_446 dL_447 dL_448 dL_449 dL_450 (by decide) (hi 2 (by decide) (by decide)) ?_
  refine jx_cVi (a := 162) (As := [.int (xs (i + 1).toNatClampNeg), .int (xs (i + 2).toNatClampNeg)]) (rest := [.int (v)]) dL_451 ml_L_52 mv_X12_since (s_X12_since hE h2) rfl rfl (jc_162 hE) (by decide) (Nat.le_of_ble_eq_true rfl) ?_
  exact jx_icmp_eq (tgt := 1400) dL_454 (by decide) (fun _ => hX) (fun q => absurd rfl q)
set_option maxRecDepth 20000 in
theorem lc_many {E : jE} (hE : jfull E) {A : (Nat → Nat) × Option Nat} {b L : Nat} {xs : Nat → Int32} {i : Int32} {m : Nat} {S : zS} {w : jw} (hm : m ≤ 2900) (h4 : 401 ≤ m) (h : zTop m S w) (hi : ∀ n : Int32, 0 ≤ n → n ≤ 5 → vp_in (i + n) L) (kk : ∀ (S' : zS) (w2 : jw), zTop (m + 1) S' w2 → ∃ w', jX E (m_L A b L xs) 40 1400 (lls E b i) [] w2 (some (.int 1)) w') : ∃ w', jX E (m_L A b L xs) 40 459 (lls E b i) [] w (some (.int 1)) w' := by
  obtain ⟨v, w1, w2, h1, h2, S', hz⟩ := t_many hm h (xs (i + 1).toNatClampNeg) (xs (i + 2).toNatClampNeg) (xs (i + 3).toNatClampNeg)
  obtain ⟨w', hX⟩ := kk S' w2 hz
  refine ⟨w', ?_⟩
  refine jx_aload_n dL_459 rfl ?_
  refine jx_arg (v := 1) dL_460 dL_461 dL_462 dL_463 dL_464 (by decide) (hi 1 (by decide) (by decide)) ?_
  refine jx_arg (v := 2) dL_465 dL_466 dL_467 dL_468 dL_469 (by decide) (hi 2 (by decide) (by decide)) ?_
  refine jx_arg (v := 3) dL_470 dL_471 dL_472 dL_473 dL_474 (by decide) (hi 3 (by decide) (by decide)) ?_
  refine jx_cVi (a := 0) (As := [.int (xs (i + 1).toNatClampNeg), .int (xs (i + 2).toNatClampNeg), .int (xs (i + 3).toNatClampNeg)]) (rest := []) dL_475 ml_L_53 mv_X11_many (s_X11_many hE h1) rfl rfl jc_0 (by decide) (Nat.le_of_ble_eq_true rfl) ?_
  refine jx_aload_n dL_478 rfl ?_
  refine jx_arg (v := 1) dL_479 dL_480 dL_481 dL_482 dL_483 (by decide) (hi 1 (by decide) (by decide)) ?_
  refine jx_arg (v := 2) dL_484 dL_485 dL_486 dL_487 dL_488 (by decide) (hi 2 (by decide) (by decide)) ?_
  refine jx_arg (v := 3) dL_489 dL_490 dL_491 dL_492 dL_493 (by decide) (hi 3 (by decide) (by decide)) ?_
  refine jx_cVi (a := 162) (As := [.int (xs (i + 1).toNatClampNeg), .int (xs (i + 2).toNatClampNeg), .int (xs (i + 3).toNatClampNeg)]) (rest := [.int (v)]) dL_494 ml_L_57 mv_X12_many (s_X12_many hE h2) rfl rfl (jc_162 hE) (by decide) (Nat.le_of_ble_eq_true rfl) ?_
  exact jx_icmp_eq (tgt := 1400) dL_497 (by decide) (fun _ => hX) (fun q => absurd rfl q)
set_option maxRecDepth 20000 in
theorem lc_sum {E : jE} (hE : jfull E) {A : (Nat → Nat) × Option Nat} {b L : Nat} {xs : Nat → Int32} {i : Int32} {m : Nat} {S : zS} {w : jw} (hm : m ≤ 2900) (h4 : 401 ≤ m) (h : zTop m S w) (hi : ∀ n : Int32, 0 ≤ n → n ≤ 5 → vp_in (i + n) L) (kk : ∀ (S' : zS) (w2 : jw), zTop (m + 1) S' w2 → ∃ w', jX E (m_L A b L xs) 40 1400 (lls E b i) [] w2 (some (.int 1)) w') : ∃ w', jX E (m_L A b L xs) 40 502 (lls E b i) [] w (some (.int 1)) w' := by
  obtain ⟨v, w1, w2, h1, h2, S', hz⟩ := t_sum hm h (xs (i + 1).toNatClampNeg) (xs (i + 2).toNatClampNeg) (xs (i + 3).toNatClampNeg)
  obtain ⟨w', hX⟩ := kk S' w2 hz
  refine ⟨w', ?_⟩
  refine jx_aload_n dL_502 rfl ?_
  refine jx_arg (v := 1) dL_503 dL_504 dL_505 dL_506 dL_507 (by decide) (hi 1 (by decide) (by decide)) ?_
  refine jx_arg (v := 2) dL_508 dL_509 dL_510 dL_511 dL_512 (by decide) (hi 2 (by decide) (by decide)) ?_
  refine jx_arg (v := 3) dL_513 dL_514 dL_515 dL_516 dL_517 (by decide) (hi 3 (by decide) (by decide)) ?_
  refine jx_cVi (a := 0) (As := [.int (xs (i + 1).toNatClampNeg), .int (xs (i + 2).toNatClampNeg), .int (xs (i + 3).toNatClampNeg)]) (rest := []) dL_518 ml_L_58 mv_X11_sum (s_X11_sum hE h1) rfl rfl jc_0 (by decide) (Nat.le_of_ble_eq_true rfl) ?_
  refine jx_aload_n dL_521 rfl ?_
  refine jx_arg (v := 1) dL_522 dL_523 dL_524 dL_525 dL_526 (by decide) (hi 1 (by decide) (by decide)) ?_
  refine jx_arg (v := 2) dL_527 dL_528 dL_529 dL_530 dL_531 (by decide) (hi 2 (by decide) (by decide)) ?_
  refine jx_arg (v := 3) dL_532 dL_533 dL_534 dL_535 dL_536 (by decide) (hi 3 (by decide) (by decide)) ?_
  refine jx_cVi (a := 162) (As := [.int (xs (i + 1).toNatClampNeg), .int (xs (i + 2).toNatClampNeg), .int (xs (i + 3).toNatClampNeg)]) (rest := [.int (v)]) dL_537 ml_L_61 mv_X12_sum (s_X12_sum hE h2) rfl rfl (jc_162 hE) (by decide) (Nat.le_of_ble_eq_true rfl) ?_
  exact jx_icmp_eq (tgt := 1400) dL_540 (by decide) (fun _ => hX) (fun q => absurd rfl q)
set_option maxRecDepth 20000 in
theorem lc_nth {E : jE} (hE : jfull E) {A : (Nat → Nat) × Option Nat} {b L : Nat} {xs : Nat → Int32} {i : Int32} {m : Nat} {S : zS} {w : jw} (hm : m ≤ 2900) (h4 : 401 ≤ m) (h : zTop m S w) (hi : ∀ n : Int32, 0 ≤ n → n ≤ 5 → vp_in (i + n) L) (kk : ∀ (S' : zS) (w2 : jw), zTop (m + 1) S' w2 → ∃ w', jX E (m_L A b L xs) 40 1400 (lls E b i) [] w2 (some (.int 1)) w') : ∃ w', jX E (m_L A b L xs) 40 545 (lls E b i) [] w (some (.int 1)) w' := by
  obtain ⟨v, w1, w2, h1, h2, S', hz⟩ := t_nth hm h (xs (i + 1).toNatClampNeg) (xs (i + 2).toNatClampNeg)
  obtain ⟨w', hX⟩ := kk S' w2 hz
  refine ⟨w', ?_⟩
  refine jx_aload_n dL_545 rfl ?_
  refine jx_arg (v := 1) dL_546 dL_547 dL_548 dL_549 dL_550 (by decide) (hi 1 (by decide) (by decide)) ?_
  refine jx_arg (v := 2) dL_551 dL_552 dL_553 dL_554 dL_555 (by decide) (hi 2 (by decide) (by decide)) ?_
  refine jx_cVi (a := 0) (As := [.int (xs (i + 1).toNatClampNeg), .int (xs (i + 2).toNatClampNeg)]) (rest := []) dL_556 ml_L_62 mv_X11_nth (s_X11_nth hE h1) rfl rfl jc_0 (by decide) (Nat.le_of_ble_eq_true rfl) ?_
  refine jx_aload_n dL_559 rfl ?_
  refine jx_arg (v := 1) dL_560 dL_561 dL_562 dL_563 dL_564 (by decide) (hi 1 (by decide) (by decide)) ?_
  refine jx_arg (v := 2) dL_565 dL_566 dL_567 dL_568 dL_569 (by decide) (hi 2 (by decide) (by decide)) ?_
  refine jx_cVi (a := 162) (As := [.int (xs (i + 1).toNatClampNeg), .int (xs (i + 2).toNatClampNeg)]) (rest := [.int (v)]) dL_570 ml_L_65 mv_X12_nth (s_X12_nth hE h2) rfl rfl (jc_162 hE) (by decide) (Nat.le_of_ble_eq_true rfl) ?_
  exact jx_icmp_eq (tgt := 1400) dL_573 (by decide) (fun _ => hX) (fun q => absurd rfl q)
set_option maxRecDepth 20000 in
theorem lc_next {E : jE} (hE : jfull E) {A : (Nat → Nat) × Option Nat} {b L : Nat} {xs : Nat → Int32} {i : Int32} {m : Nat} {S : zS} {w : jw} (hm : m ≤ 2900) (h4 : 401 ≤ m) (h : zTop m S w) (hi : ∀ n : Int32, 0 ≤ n → n ≤ 5 → vp_in (i + n) L) (kk : ∀ (S' : zS) (w2 : jw), zTop (m + 1) S' w2 → ∃ w', jX E (m_L A b L xs) 40 1400 (lls E b i) [] w2 (some (.int 1)) w') : ∃ w', jX E (m_L A b L xs) 40 578 (lls E b i) [] w (some (.int 1)) w' := by
  obtain ⟨v, w1, w2, h1, h2, S', hz⟩ := t_next hm h (xs (i + 1).toNatClampNeg) (xs (i + 2).toNatClampNeg)
  obtain ⟨w', hX⟩ := kk S' w2 hz
  refine ⟨w', ?_⟩
  refine jx_aload_n dL_578 rfl ?_
  refine jx_arg (v := 1) dL_579 dL_580 dL_581 dL_582 dL_583 (by decide) (hi 1 (by decide) (by decide)) ?_
  refine jx_arg (v := 2) dL_584 dL_585 dL_586 dL_587 dL_588 (by decide) (hi 2 (by decide) (by decide)) ?_
  refine jx_cVi (a := 0) (As := [.int (xs (i + 1).toNatClampNeg), .int (xs (i + 2).toNatClampNeg)]) (rest := []) dL_589 ml_L_66 mv_X11_next (s_X11_next hE h1) rfl rfl jc_0 (by decide) (Nat.le_of_ble_eq_true rfl) ?_
  refine jx_aload_n dL_592 rfl ?_
  refine jx_arg (v := 1) dL_593 dL_594 dL_595 dL_596 dL_597 (by decide) (hi 1 (by decide) (by decide)) ?_
  refine jx_arg (v := 2) dL_598 dL_599 dL_600 dL_601 dL_602 (by decide) (hi 2 (by decide) (by decide)) ?_
  refine jx_cVi (a := 162) (As := [.int (xs (i + 1).toNatClampNeg), .int (xs (i + 2).toNatClampNeg)]) (rest := [.int (v)]) dL_603 ml_L_69 mv_X12_next (s_X12_next hE h2) rfl rfl (jc_162 hE) (by decide) (Nat.le_of_ble_eq_true rfl) ?_
  exact jx_icmp_eq (tgt := 1400) dL_606 (by decide) (fun _ => hX) (fun q => absurd rfl q)
set_option maxRecDepth 20000 in
theorem lc_prior {E : jE} (hE : jfull E) {A : (Nat → Nat) × Option Nat} {b L : Nat} {xs : Nat → Int32} {i : Int32} {m : Nat} {S : zS} {w : jw} (hm : m ≤ 2900) (h4 : 401 ≤ m) (h : zTop m S w) (hi : ∀ n : Int32, 0 ≤ n → n ≤ 5 → vp_in (i + n) L) (kk : ∀ (S' : zS) (w2 : jw), zTop (m + 1) S' w2 → ∃ w', jX E (m_L A b L xs) 40 1400 (lls E b i) [] w2 (some (.int 1)) w') : ∃ w', jX E (m_L A b L xs) 40 611 (lls E b i) [] w (some (.int 1)) w' := by
  obtain ⟨v, w1, w2, h1, h2, S', hz⟩ := t_prior hm h (xs (i + 1).toNatClampNeg) (xs (i + 2).toNatClampNeg)
  obtain ⟨w', hX⟩ := kk S' w2 hz
  refine ⟨w', ?_⟩
  refine jx_aload_n dL_611 rfl ?_
  refine jx_arg (v := 1) dL_612 dL_613 dL_614 dL_615 dL_616 (by decide) (hi 1 (by decide) (by decide)) ?_
  refine jx_arg (v := 2) dL_617 dL_618 dL_619 dL_620 dL_621 (by decide) (hi 2 (by decide) (by decide)) ?_
  refine jx_cVi (a := 0) (As := [.int (xs (i + 1).toNatClampNeg), .int (xs (i + 2).toNatClampNeg)]) (rest := []) dL_622 ml_L_70 mv_X11_prior (s_X11_prior hE h1) rfl rfl jc_0 (by decide) (Nat.le_of_ble_eq_true rfl) ?_
  refine jx_aload_n dL_625 rfl ?_
  refine jx_arg (v := 1) dL_626 dL_627 dL_628 dL_629 dL_630 (by decide) (hi 1 (by decide) (by decide)) ?_
  refine jx_arg (v := 2) dL_631 dL_632 dL_633 dL_634 dL_635 (by decide) (hi 2 (by decide) (by decide)) ?_
  refine jx_cVi (a := 162) (As := [.int (xs (i + 1).toNatClampNeg), .int (xs (i + 2).toNatClampNeg)]) (rest := [.int (v)]) dL_636 ml_L_73 mv_X12_prior (s_X12_prior hE h2) rfl rfl (jc_162 hE) (by decide) (Nat.le_of_ble_eq_true rfl) ?_
  exact jx_icmp_eq (tgt := 1400) dL_639 (by decide) (fun _ => hX) (fun q => absurd rfl q)
set_option maxRecDepth 20000 in
theorem lc_differ {E : jE} (hE : jfull E) {A : (Nat → Nat) × Option Nat} {b L : Nat} {xs : Nat → Int32} {i : Int32} {m : Nat} {S : zS} {w : jw} (hm : m ≤ 2900) (h4 : 401 ≤ m) (h : zTop m S w) (hi : ∀ n : Int32, 0 ≤ n → n ≤ 5 → vp_in (i + n) L) (kk : ∀ (S' : zS) (w2 : jw), zTop (m + 1) S' w2 → ∃ w', jX E (m_L A b L xs) 40 1400 (lls E b i) [] w2 (some (.int 1)) w') : ∃ w', jX E (m_L A b L xs) 40 644 (lls E b i) [] w (some (.int 1)) w' := by
  obtain ⟨v, w1, w2, h1, h2, S', hz⟩ := t_differ hm h (xs (i + 1).toNatClampNeg) (xs (i + 2).toNatClampNeg) (xs (i + 3).toNatClampNeg) (xs (i + 4).toNatClampNeg)
  obtain ⟨w', hX⟩ := kk S' w2 hz
  refine ⟨w', ?_⟩
  refine jx_aload_n dL_644 rfl ?_
  refine jx_arg (v := 1) dL_645 dL_646 dL_647 dL_648 dL_649 (by decide) (hi 1 (by decide) (by decide)) ?_
  refine jx_arg (v := 2) dL_650 dL_651 dL_652 dL_653 dL_654 (by decide) (hi 2 (by decide) (by decide)) ?_
  refine jx_arg (v := 3) dL_655 dL_656 dL_657 dL_658 dL_659 (by decide) (hi 3 (by decide) (by decide)) ?_
  refine jx_arg (v := 4) dL_660 dL_661 dL_662 dL_663 dL_664 (by decide) (hi 4 (by decide) (by decide)) ?_
  refine jx_cVi (a := 0) (As := [.int (xs (i + 1).toNatClampNeg), .int (xs (i + 2).toNatClampNeg), .int (xs (i + 3).toNatClampNeg), .int (xs (i + 4).toNatClampNeg)]) (rest := []) dL_665 ml_L_74 mv_X11_differ (s_X11_differ hE h1) rfl rfl jc_0 (by decide) (Nat.le_of_ble_eq_true rfl) ?_
  refine jx_aload_n dL_668 rfl ?_
  refine jx_arg (v := 1) dL_669 dL_670 dL_671 dL_672 dL_673 (by decide) (hi 1 (by decide) (by decide)) ?_
  refine jx_arg (v := 2) dL_674 dL_675 dL_676 dL_677 dL_678 (by decide) (hi 2 (by decide) (by decide)) ?_
  refine jx_arg (v := 3) dL_679 dL_680 dL_681 dL_682 dL_683 (by decide) (hi 3 (by decide) (by decide)) ?_
  refine jx_arg (v := 4) dL_684 dL_685 dL_686 dL_687 dL_688 (by decide) (hi 4 (by decide) (by decide)) ?_
  refine jx_cVi (a := 162) (As := [.int (xs (i + 1).toNatClampNeg), .int (xs (i + 2).toNatClampNeg), .int (xs (i + 3).toNatClampNeg), .int (xs (i + 4).toNatClampNeg)]) (rest := [.int (v)]) dL_689 ml_L_78 mv_X12_differ (s_X12_differ hE h2) rfl rfl (jc_162 hE) (by decide) (Nat.le_of_ble_eq_true rfl) ?_
  exact jx_icmp_eq (tgt := 1400) dL_692 (by decide) (fun _ => hX) (fun q => absurd rfl q)
set_option maxRecDepth 20000 in
theorem lc_ever {E : jE} (hE : jfull E) {A : (Nat → Nat) × Option Nat} {b L : Nat} {xs : Nat → Int32} {i : Int32} {m : Nat} {S : zS} {w : jw} (hm : m ≤ 2900) (h4 : 401 ≤ m) (h : zTop m S w) (hi : ∀ n : Int32, 0 ≤ n → n ≤ 5 → vp_in (i + n) L) (kk : ∀ (S' : zS) (w2 : jw), zTop (m + 1) S' w2 → ∃ w', jX E (m_L A b L xs) 40 1400 (lls E b i) [] w2 (some (.int 1)) w') : ∃ w', jX E (m_L A b L xs) 40 697 (lls E b i) [] w (some (.int 1)) w' := by
  obtain ⟨v, w1, w2, h1, h2, S', hz⟩ := t_ever hm h (xs (i + 1).toNatClampNeg) (xs (i + 2).toNatClampNeg) (xs (i + 3).toNatClampNeg) (xs (i + 4).toNatClampNeg)
  obtain ⟨w', hX⟩ := kk S' w2 hz
  refine ⟨w', ?_⟩
  refine jx_aload_n dL_697 rfl ?_
  refine jx_arg (v := 1) dL_698 dL_699 dL_700 dL_701 dL_702 (by decide) (hi 1 (by decide) (by decide)) ?_
  refine jx_arg (v := 2) dL_703 dL_704 dL_705 dL_706 dL_707 (by decide) (hi 2 (by decide) (by decide)) ?_
  refine jx_arg (v := 3) dL_708 dL_709 dL_710 dL_711 dL_712 (by decide) (hi 3 (by decide) (by decide)) ?_
  refine jx_arg (v := 4) dL_713 dL_714 dL_715 dL_716 dL_717 (by decide) (hi 4 (by decide) (by decide)) ?_
  refine jx_cVi (a := 0) (As := [.int (xs (i + 1).toNatClampNeg), .int (xs (i + 2).toNatClampNeg), .int (xs (i + 3).toNatClampNeg), .int (xs (i + 4).toNatClampNeg)]) (rest := []) dL_718 ml_L_79 mv_X11_ever (s_X11_ever hE h1) rfl rfl jc_0 (by decide) (Nat.le_of_ble_eq_true rfl) ?_
  refine jx_aload_n dL_721 rfl ?_
  refine jx_arg (v := 1) dL_722 dL_723 dL_724 dL_725 dL_726 (by decide) (hi 1 (by decide) (by decide)) ?_
  refine jx_arg (v := 2) dL_727 dL_728 dL_729 dL_730 dL_731 (by decide) (hi 2 (by decide) (by decide)) ?_
  refine jx_arg (v := 3) dL_732 dL_733 dL_734 dL_735 dL_736 (by decide) (hi 3 (by decide) (by decide)) ?_
  refine jx_arg (v := 4) dL_737 dL_738 dL_739 dL_740 dL_741 (by decide) (hi 4 (by decide) (by decide)) ?_
  refine jx_cVi (a := 162) (As := [.int (xs (i + 1).toNatClampNeg), .int (xs (i + 2).toNatClampNeg), .int (xs (i + 3).toNatClampNeg), .int (xs (i + 4).toNatClampNeg)]) (rest := [.int (v)]) dL_742 ml_L_82 mv_X12_ever (s_X12_ever hE h2) rfl rfl (jc_162 hE) (by decide) (Nat.le_of_ble_eq_true rfl) ?_
  exact jx_icmp_eq (tgt := 1400) dL_745 (by decide) (fun _ => hX) (fun q => absurd rfl q)
set_option maxRecDepth 20000 in
theorem lc_stay {E : jE} (hE : jfull E) {A : (Nat → Nat) × Option Nat} {b L : Nat} {xs : Nat → Int32} {i : Int32} {m : Nat} {S : zS} {w : jw} (hm : m ≤ 2900) (h4 : 401 ≤ m) (h : zTop m S w) (hi : ∀ n : Int32, 0 ≤ n → n ≤ 5 → vp_in (i + n) L) (kk : ∀ (S' : zS) (w2 : jw), zTop (m + 1) S' w2 → ∃ w', jX E (m_L A b L xs) 40 1400 (lls E b i) [] w2 (some (.int 1)) w') : ∃ w', jX E (m_L A b L xs) 40 750 (lls E b i) [] w (some (.int 1)) w' := by
  obtain ⟨v, w1, w2, h1, h2, S', hz⟩ := t_stay hm h (xs (i + 1).toNatClampNeg) (xs (i + 2).toNatClampNeg) (xs (i + 3).toNatClampNeg)
  obtain ⟨w', hX⟩ := kk S' w2 hz
  refine ⟨w', ?_⟩
  refine jx_aload_n dL_750 rfl ?_
  refine jx_arg (v := 1) dL_751 dL_752 dL_753 dL_754 dL_755 (by decide) (hi 1 (by decide) (by decide)) ?_
  refine jx_arg (v := 2) dL_756 dL_757 dL_758 dL_759 dL_760 (by decide) (hi 2 (by decide) (by decide)) ?_
  refine jx_arg (v := 3) dL_761 dL_762 dL_763 dL_764 dL_765 (by decide) (hi 3 (by decide) (by decide)) ?_
  refine jx_cVi (a := 0) (As := [.int (xs (i + 1).toNatClampNeg), .int (xs (i + 2).toNatClampNeg), .int (xs (i + 3).toNatClampNeg)]) (rest := []) dL_766 ml_L_83 mv_X11_stay (s_X11_stay hE h1) rfl rfl jc_0 (by decide) (Nat.le_of_ble_eq_true rfl) ?_
  refine jx_aload_n dL_769 rfl ?_
  refine jx_arg (v := 1) dL_770 dL_771 dL_772 dL_773 dL_774 (by decide) (hi 1 (by decide) (by decide)) ?_
  refine jx_arg (v := 2) dL_775 dL_776 dL_777 dL_778 dL_779 (by decide) (hi 2 (by decide) (by decide)) ?_
  refine jx_arg (v := 3) dL_780 dL_781 dL_782 dL_783 dL_784 (by decide) (hi 3 (by decide) (by decide)) ?_
  refine jx_cVi (a := 162) (As := [.int (xs (i + 1).toNatClampNeg), .int (xs (i + 2).toNatClampNeg), .int (xs (i + 3).toNatClampNeg)]) (rest := [.int (v)]) dL_785 ml_L_86 mv_X12_stay (s_X12_stay hE h2) rfl rfl (jc_162 hE) (by decide) (Nat.le_of_ble_eq_true rfl) ?_
  exact jx_icmp_eq (tgt := 1400) dL_788 (by decide) (fun _ => hX) (fun q => absurd rfl q)
set_option maxRecDepth 20000 in
theorem lc_versions {E : jE} (hE : jfull E) {A : (Nat → Nat) × Option Nat} {b L : Nat} {xs : Nat → Int32} {i : Int32} {m : Nat} {S : zS} {w : jw} (hm : m ≤ 2900) (h4 : 401 ≤ m) (h : zTop m S w) (hi : ∀ n : Int32, 0 ≤ n → n ≤ 5 → vp_in (i + n) L) (kk : ∀ (S' : zS) (w2 : jw), zTop (m + 1) S' w2 → ∃ w', jX E (m_L A b L xs) 40 1400 (lls E b i) [] w2 (some (.int 1)) w') : ∃ w', jX E (m_L A b L xs) 40 793 (lls E b i) [] w (some (.int 1)) w' := by
  obtain ⟨v, w1, w2, h1, h2, S', hz⟩ := t_versions hm h (xs (i + 1).toNatClampNeg)
  obtain ⟨w', hX⟩ := kk S' w2 hz
  refine ⟨w', ?_⟩
  refine jx_aload_n dL_793 rfl ?_
  refine jx_arg (v := 1) dL_794 dL_795 dL_796 dL_797 dL_798 (by decide) (hi 1 (by decide) (by decide)) ?_
  refine jx_cVi (a := 0) (As := [.int (xs (i + 1).toNatClampNeg)]) (rest := []) dL_799 ml_L_87 mv_X11_versions (s_X11_versions hE h1) rfl rfl jc_0 (by decide) (Nat.le_of_ble_eq_true rfl) ?_
  refine jx_aload_n dL_802 rfl ?_
  refine jx_arg (v := 1) dL_803 dL_804 dL_805 dL_806 dL_807 (by decide) (hi 1 (by decide) (by decide)) ?_
  refine jx_cVi (a := 162) (As := [.int (xs (i + 1).toNatClampNeg)]) (rest := [.int (v)]) dL_808 ml_L_90 mv_X12_versions (s_X12_versions hE h2) rfl rfl (jc_162 hE) (by decide) (Nat.le_of_ble_eq_true rfl) ?_
  exact jx_icmp_eq (tgt := 1400) dL_811 (by decide) (fun _ => hX) (fun q => absurd rfl q)
set_option maxRecDepth 20000 in
theorem lc_version {E : jE} (hE : jfull E) {A : (Nat → Nat) × Option Nat} {b L : Nat} {xs : Nat → Int32} {i : Int32} {m : Nat} {S : zS} {w : jw} (hm : m ≤ 2900) (h4 : 401 ≤ m) (h : zTop m S w) (hi : ∀ n : Int32, 0 ≤ n → n ≤ 5 → vp_in (i + n) L) (kk : ∀ (S' : zS) (w2 : jw), zTop (m + 1) S' w2 → ∃ w', jX E (m_L A b L xs) 40 1400 (lls E b i) [] w2 (some (.int 1)) w') : ∃ w', jX E (m_L A b L xs) 40 816 (lls E b i) [] w (some (.int 1)) w' := by
  obtain ⟨v, w1, w2, h1, h2, S', hz⟩ := t_version hm h (xs (i + 1).toNatClampNeg) (xs (i + 2).toNatClampNeg) (xs (i + 3).toNatClampNeg)
  obtain ⟨w', hX⟩ := kk S' w2 hz
  refine ⟨w', ?_⟩
  refine jx_aload_n dL_816 rfl ?_
  refine jx_arg (v := 1) dL_817 dL_818 dL_819 dL_820 dL_821 (by decide) (hi 1 (by decide) (by decide)) ?_
  refine jx_arg (v := 2) dL_822 dL_823 dL_824 dL_825 dL_826 (by decide) (hi 2 (by decide) (by decide)) ?_
  refine jx_arg (v := 3) dL_827 dL_828 dL_829 dL_830 dL_831 (by decide) (hi 3 (by decide) (by decide)) ?_
  refine jx_cVi (a := 0) (As := [.int (xs (i + 1).toNatClampNeg), .int (xs (i + 2).toNatClampNeg), .int (xs (i + 3).toNatClampNeg)]) (rest := []) dL_832 ml_L_91 mv_X11_version (s_X11_version hE h1) rfl rfl jc_0 (by decide) (Nat.le_of_ble_eq_true rfl) ?_
  refine jx_aload_n dL_835 rfl ?_
  refine jx_arg (v := 1) dL_836 dL_837 dL_838 dL_839 dL_840 (by decide) (hi 1 (by decide) (by decide)) ?_
  refine jx_arg (v := 2) dL_841 dL_842 dL_843 dL_844 dL_845 (by decide) (hi 2 (by decide) (by decide)) ?_
  refine jx_arg (v := 3) dL_846 dL_847 dL_848 dL_849 dL_850 (by decide) (hi 3 (by decide) (by decide)) ?_
  refine jx_cVi (a := 162) (As := [.int (xs (i + 1).toNatClampNeg), .int (xs (i + 2).toNatClampNeg), .int (xs (i + 3).toNatClampNeg)]) (rest := [.int (v)]) dL_851 ml_L_94 mv_X12_version (s_X12_version hE h2) rfl rfl (jc_162 hE) (by decide) (Nat.le_of_ble_eq_true rfl) ?_
  exact jx_icmp_eq (tgt := 1400) dL_854 (by decide) (fun _ => hX) (fun q => absurd rfl q)
set_option maxRecDepth 20000 in
theorem lc_peak {E : jE} (hE : jfull E) {A : (Nat → Nat) × Option Nat} {b L : Nat} {xs : Nat → Int32} {i : Int32} {m : Nat} {S : zS} {w : jw} (hm : m ≤ 2900) (h4 : 401 ≤ m) (h : zTop m S w) (hi : ∀ n : Int32, 0 ≤ n → n ≤ 5 → vp_in (i + n) L) (kk : ∀ (S' : zS) (w2 : jw), zTop (m + 1) S' w2 → ∃ w', jX E (m_L A b L xs) 40 1400 (lls E b i) [] w2 (some (.int 1)) w') : ∃ w', jX E (m_L A b L xs) 40 859 (lls E b i) [] w (some (.int 1)) w' := by
  obtain ⟨v, w1, w2, h1, h2, S', hz⟩ := t_peak hm h (xs (i + 1).toNatClampNeg) (xs (i + 2).toNatClampNeg) (xs (i + 3).toNatClampNeg)
  obtain ⟨w', hX⟩ := kk S' w2 hz
  refine ⟨w', ?_⟩
  refine jx_aload_n dL_859 rfl ?_
  refine jx_arg (v := 1) dL_860 dL_861 dL_862 dL_863 dL_864 (by decide) (hi 1 (by decide) (by decide)) ?_
  refine jx_arg (v := 2) dL_865 dL_866 dL_867 dL_868 dL_869 (by decide) (hi 2 (by decide) (by decide)) ?_
  refine jx_arg (v := 3) dL_870 dL_871 dL_872 dL_873 dL_874 (by decide) (hi 3 (by decide) (by decide)) ?_
  refine jx_cVi (a := 0) (As := [.int (xs (i + 1).toNatClampNeg), .int (xs (i + 2).toNatClampNeg), .int (xs (i + 3).toNatClampNeg)]) (rest := []) dL_875 ml_L_95 mv_X11_peak (s_X11_peak hE h1) rfl rfl jc_0 (by decide) (Nat.le_of_ble_eq_true rfl) ?_
  refine jx_aload_n dL_878 rfl ?_
  refine jx_arg (v := 1) dL_879 dL_880 dL_881 dL_882 dL_883 (by decide) (hi 1 (by decide) (by decide)) ?_
  refine jx_arg (v := 2) dL_884 dL_885 dL_886 dL_887 dL_888 (by decide) (hi 2 (by decide) (by decide)) ?_
  refine jx_arg (v := 3) dL_889 dL_890 dL_891 dL_892 dL_893 (by decide) (hi 3 (by decide) (by decide)) ?_
  refine jx_cVi (a := 162) (As := [.int (xs (i + 1).toNatClampNeg), .int (xs (i + 2).toNatClampNeg), .int (xs (i + 3).toNatClampNeg)]) (rest := [.int (v)]) dL_894 ml_L_98 mv_X12_peak (s_X12_peak hE h2) rfl rfl (jc_162 hE) (by decide) (Nat.le_of_ble_eq_true rfl) ?_
  exact jx_icmp_eq (tgt := 1400) dL_897 (by decide) (fun _ => hX) (fun q => absurd rfl q)
set_option maxRecDepth 20000 in
theorem lc_root {E : jE} (hE : jfull E) {A : (Nat → Nat) × Option Nat} {b L : Nat} {xs : Nat → Int32} {i : Int32} {m : Nat} {S : zS} {w : jw} (hm : m ≤ 2900) (h4 : 401 ≤ m) (h : zTop m S w) (hi : ∀ n : Int32, 0 ≤ n → n ≤ 5 → vp_in (i + n) L) (kk : ∀ (S' : zS) (w2 : jw), zTop (m + 1) S' w2 → ∃ w', jX E (m_L A b L xs) 40 1400 (lls E b i) [] w2 (some (.int 1)) w') : ∃ w', jX E (m_L A b L xs) 40 902 (lls E b i) [] w (some (.int 1)) w' := by
  obtain ⟨v, w1, w2, h1, h2, S', hz⟩ := t_root hm h (xs (i + 1).toNatClampNeg)
  obtain ⟨w', hX⟩ := kk S' w2 hz
  refine ⟨w', ?_⟩
  refine jx_aload_n dL_902 rfl ?_
  refine jx_arg (v := 1) dL_903 dL_904 dL_905 dL_906 dL_907 (by decide) (hi 1 (by decide) (by decide)) ?_
  refine jx_cVi (a := 0) (As := [.int (xs (i + 1).toNatClampNeg)]) (rest := []) dL_908 ml_L_99 mv_X11_root (s_X11_root hE h1) rfl rfl jc_0 (by decide) (Nat.le_of_ble_eq_true rfl) ?_
  refine jx_aload_n dL_911 rfl ?_
  refine jx_arg (v := 1) dL_912 dL_913 dL_914 dL_915 dL_916 (by decide) (hi 1 (by decide) (by decide)) ?_
  refine jx_cVi (a := 162) (As := [.int (xs (i + 1).toNatClampNeg)]) (rest := [.int (v)]) dL_917 ml_L_102 mv_X12_root (s_X12_root hE h2) rfl rfl (jc_162 hE) (by decide) (Nat.le_of_ble_eq_true rfl) ?_
  exact jx_icmp_eq (tgt := 1400) dL_920 (by decide) (fun _ => hX) (fun q => absurd rfl q)
set_option maxRecDepth 20000 in
theorem lc_deep {E : jE} (hE : jfull E) {A : (Nat → Nat) × Option Nat} {b L : Nat} {xs : Nat → Int32} {i : Int32} {m : Nat} {S : zS} {w : jw} (hm : m ≤ 2900) (h4 : 401 ≤ m) (h : zTop m S w) (hi : ∀ n : Int32, 0 ≤ n → n ≤ 5 → vp_in (i + n) L) (kk : ∀ (S' : zS) (w2 : jw), zTop (m + 1) S' w2 → ∃ w', jX E (m_L A b L xs) 40 1400 (lls E b i) [] w2 (some (.int 1)) w') : ∃ w', jX E (m_L A b L xs) 40 925 (lls E b i) [] w (some (.int 1)) w' := by
  obtain ⟨v, w1, w2, h1, h2, S', hz⟩ := t_deep hm h (xs (i + 1).toNatClampNeg)
  obtain ⟨w', hX⟩ := kk S' w2 hz
  refine ⟨w', ?_⟩
  refine jx_aload_n dL_925 rfl ?_
  refine jx_arg (v := 1) dL_926 dL_927 dL_928 dL_929 dL_930 (by decide) (hi 1 (by decide) (by decide)) ?_
  refine jx_cVi (a := 0) (As := [.int (xs (i + 1).toNatClampNeg)]) (rest := []) dL_931 ml_L_103 mv_X11_deep (s_X11_deep hE h1) rfl rfl jc_0 (by decide) (Nat.le_of_ble_eq_true rfl) ?_
  refine jx_aload_n dL_934 rfl ?_
  refine jx_arg (v := 1) dL_935 dL_936 dL_937 dL_938 dL_939 (by decide) (hi 1 (by decide) (by decide)) ?_
  refine jx_cVi (a := 162) (As := [.int (xs (i + 1).toNatClampNeg)]) (rest := [.int (v)]) dL_940 ml_L_106 mv_X12_deep (s_X12_deep hE h2) rfl rfl (jc_162 hE) (by decide) (Nat.le_of_ble_eq_true rfl) ?_
  exact jx_icmp_eq (tgt := 1400) dL_943 (by decide) (fun _ => hX) (fun q => absurd rfl q)
set_option maxRecDepth 20000 in
theorem lc_leaf {E : jE} (hE : jfull E) {A : (Nat → Nat) × Option Nat} {b L : Nat} {xs : Nat → Int32} {i : Int32} {m : Nat} {S : zS} {w : jw} (hm : m ≤ 2900) (h4 : 401 ≤ m) (h : zTop m S w) (hi : ∀ n : Int32, 0 ≤ n → n ≤ 5 → vp_in (i + n) L) (kk : ∀ (S' : zS) (w2 : jw), zTop (m + 1) S' w2 → ∃ w', jX E (m_L A b L xs) 40 1400 (lls E b i) [] w2 (some (.int 1)) w') : ∃ w', jX E (m_L A b L xs) 40 948 (lls E b i) [] w (some (.int 1)) w' := by
  obtain ⟨v, w1, w2, h1, h2, S', hz⟩ := t_leaf hm h (xs (i + 1).toNatClampNeg) (xs (i + 2).toNatClampNeg)
  obtain ⟨w', hX⟩ := kk S' w2 hz
  refine ⟨w', ?_⟩
  refine jx_aload_n dL_948 rfl ?_
  refine jx_arg (v := 1) dL_949 dL_950 dL_951 dL_952 dL_953 (by decide) (hi 1 (by decide) (by decide)) ?_
  refine jx_arg (v := 2) dL_954 dL_955 dL_956 dL_957 dL_958 (by decide) (hi 2 (by decide) (by decide)) ?_
  refine jx_cVi (a := 0) (As := [.int (xs (i + 1).toNatClampNeg), .int (xs (i + 2).toNatClampNeg)]) (rest := []) dL_959 ml_L_107 mv_X11_leaf (s_X11_leaf hE h1) rfl rfl jc_0 (by decide) (Nat.le_of_ble_eq_true rfl) ?_
  refine jx_aload_n dL_962 rfl ?_
  refine jx_arg (v := 1) dL_963 dL_964 dL_965 dL_966 dL_967 (by decide) (hi 1 (by decide) (by decide)) ?_
  refine jx_arg (v := 2) dL_968 dL_969 dL_970 dL_971 dL_972 (by decide) (hi 2 (by decide) (by decide)) ?_
  refine jx_cVi (a := 162) (As := [.int (xs (i + 1).toNatClampNeg), .int (xs (i + 2).toNatClampNeg)]) (rest := [.int (v)]) dL_973 ml_L_110 mv_X12_leaf (s_X12_leaf hE h2) rfl rfl (jc_162 hE) (by decide) (Nat.le_of_ble_eq_true rfl) ?_
  exact jx_icmp_eq (tgt := 1400) dL_976 (by decide) (fun _ => hX) (fun q => absurd rfl q)
set_option maxRecDepth 20000 in
theorem lc_reads {E : jE} (hE : jfull E) {A : (Nat → Nat) × Option Nat} {b L : Nat} {xs : Nat → Int32} {i : Int32} {m : Nat} {S : zS} {w : jw} (hm : m ≤ 2900) (h4 : 401 ≤ m) (h : zTop m S w) (hi : ∀ n : Int32, 0 ≤ n → n ≤ 5 → vp_in (i + n) L) (kk : ∀ (S' : zS) (w2 : jw), zTop (m + 1) S' w2 → ∃ w', jX E (m_L A b L xs) 40 1400 (lls E b i) [] w2 (some (.int 1)) w') : ∃ w', jX E (m_L A b L xs) 40 981 (lls E b i) [] w (some (.int 1)) w' := by
  obtain ⟨v, w1, w2, h1, h2, S', hz⟩ := t_reads hm h (xs (i + 1).toNatClampNeg) (xs (i + 2).toNatClampNeg) (xs (i + 3).toNatClampNeg)
  obtain ⟨w', hX⟩ := kk S' w2 hz
  refine ⟨w', ?_⟩
  refine jx_aload_n dL_981 rfl ?_
  refine jx_arg (v := 1) dL_982 dL_983 dL_984 dL_985 dL_986 (by decide) (hi 1 (by decide) (by decide)) ?_
  refine jx_arg (v := 2) dL_987 dL_988 dL_989 dL_990 dL_991 (by decide) (hi 2 (by decide) (by decide)) ?_
  refine jx_arg (v := 3) dL_992 dL_993 dL_994 dL_995 dL_996 (by decide) (hi 3 (by decide) (by decide)) ?_
  refine jx_cVi (a := 0) (As := [.int (xs (i + 1).toNatClampNeg), .int (xs (i + 2).toNatClampNeg), .int (xs (i + 3).toNatClampNeg)]) (rest := []) dL_997 ml_L_111 mv_X11_reads (s_X11_reads hE h1) rfl rfl jc_0 (by decide) (Nat.le_of_ble_eq_true rfl) ?_
  refine jx_aload_n dL_1000 rfl ?_
  refine jx_arg (v := 1) dL_1001 dL_1002 dL_1003 dL_1004 dL_1005 (by decide) (hi 1 (by decide) (by decide)) ?_
  refine jx_arg (v := 2) dL_1006 dL_1007 dL_1008 dL_1009 dL_1010 (by decide) (hi 2 (by decide) (by decide)) ?_
  refine jx_arg (v := 3) dL_1011 dL_1012 dL_1013 dL_1014 dL_1015 (by decide) (hi 3 (by decide) (by decide)) ?_
  refine jx_cVi (a := 162) (As := [.int (xs (i + 1).toNatClampNeg), .int (xs (i + 2).toNatClampNeg), .int (xs (i + 3).toNatClampNeg)]) (rest := [.int (v)]) dL_1016 ml_L_114 mv_X12_reads (s_X12_reads hE h2) rfl rfl (jc_162 hE) (by decide) (Nat.le_of_ble_eq_true rfl) ?_
  exact jx_icmp_eq (tgt := 1400) dL_1019 (by decide) (fun _ => hX) (fun q => absurd rfl q)
set_option maxRecDepth 20000 in
theorem lc_thin {E : jE} (hE : jfull E) {A : (Nat → Nat) × Option Nat} {b L : Nat} {xs : Nat → Int32} {i : Int32} {m : Nat} {S : zS} {w : jw} (hm : m ≤ 2900) (h4 : 401 ≤ m) (h : zTop m S w) (hi : ∀ n : Int32, 0 ≤ n → n ≤ 5 → vp_in (i + n) L) (kk : ∀ (S' : zS) (w2 : jw), zTop (m + 1) S' w2 → ∃ w', jX E (m_L A b L xs) 40 1400 (lls E b i) [] w2 (some (.int 1)) w') : ∃ w', jX E (m_L A b L xs) 40 1024 (lls E b i) [] w (some (.int 1)) w' := by
  obtain ⟨v, w1, w2, h1, h2, S', hz⟩ := t_thin hm h (xs (i + 1).toNatClampNeg)
  obtain ⟨w', hX⟩ := kk S' w2 hz
  refine ⟨w', ?_⟩
  refine jx_aload_n dL_1024 rfl ?_
  refine jx_arg (v := 1) dL_1025 dL_1026 dL_1027 dL_1028 dL_1029 (by decide) (hi 1 (by decide) (by decide)) ?_
  refine jx_cVi (a := 0) (As := [.int (xs (i + 1).toNatClampNeg)]) (rest := []) dL_1030 ml_L_115 mv_X11_thin (s_X11_thin hE h1) rfl rfl jc_0 (by decide) (Nat.le_of_ble_eq_true rfl) ?_
  refine jx_aload_n dL_1033 rfl ?_
  refine jx_arg (v := 1) dL_1034 dL_1035 dL_1036 dL_1037 dL_1038 (by decide) (hi 1 (by decide) (by decide)) ?_
  refine jx_cVi (a := 162) (As := [.int (xs (i + 1).toNatClampNeg)]) (rest := [.int (v)]) dL_1039 ml_L_118 mv_X12_thin (s_X12_thin hE h2) rfl rfl (jc_162 hE) (by decide) (Nat.le_of_ble_eq_true rfl) ?_
  exact jx_icmp_eq (tgt := 1400) dL_1042 (by decide) (fun _ => hX) (fun q => absurd rfl q)
set_option maxRecDepth 20000 in
theorem lc_way {E : jE} (hE : jfull E) {A : (Nat → Nat) × Option Nat} {b L : Nat} {xs : Nat → Int32} {i : Int32} {m : Nat} {S : zS} {w : jw} (hm : m ≤ 2900) (h4 : 401 ≤ m) (h : zTop m S w) (hi : ∀ n : Int32, 0 ≤ n → n ≤ 5 → vp_in (i + n) L) (kk : ∀ (S' : zS) (w2 : jw), zTop (m + 1) S' w2 → ∃ w', jX E (m_L A b L xs) 40 1400 (lls E b i) [] w2 (some (.int 1)) w') : ∃ w', jX E (m_L A b L xs) 40 1047 (lls E b i) [] w (some (.int 1)) w' := by
  obtain ⟨v, w1, w2, h1, h2, S', hz⟩ := t_way hm h (xs (i + 1).toNatClampNeg) (xs (i + 2).toNatClampNeg) (xs (i + 3).toNatClampNeg)
  obtain ⟨w', hX⟩ := kk S' w2 hz
  refine ⟨w', ?_⟩
  refine jx_aload_n dL_1047 rfl ?_
  refine jx_arg (v := 1) dL_1048 dL_1049 dL_1050 dL_1051 dL_1052 (by decide) (hi 1 (by decide) (by decide)) ?_
  refine jx_arg (v := 2) dL_1053 dL_1054 dL_1055 dL_1056 dL_1057 (by decide) (hi 2 (by decide) (by decide)) ?_
  refine jx_arg (v := 3) dL_1058 dL_1059 dL_1060 dL_1061 dL_1062 (by decide) (hi 3 (by decide) (by decide)) ?_
  refine jx_cVi (a := 0) (As := [.int (xs (i + 1).toNatClampNeg), .int (xs (i + 2).toNatClampNeg), .int (xs (i + 3).toNatClampNeg)]) (rest := []) dL_1063 ml_L_119 mv_X11_way (s_X11_way hE h1) rfl rfl jc_0 (by decide) (Nat.le_of_ble_eq_true rfl) ?_
  refine jx_aload_n dL_1066 rfl ?_
  refine jx_arg (v := 1) dL_1067 dL_1068 dL_1069 dL_1070 dL_1071 (by decide) (hi 1 (by decide) (by decide)) ?_
  refine jx_arg (v := 2) dL_1072 dL_1073 dL_1074 dL_1075 dL_1076 (by decide) (hi 2 (by decide) (by decide)) ?_
  refine jx_arg (v := 3) dL_1077 dL_1078 dL_1079 dL_1080 dL_1081 (by decide) (hi 3 (by decide) (by decide)) ?_
  refine jx_cVi (a := 162) (As := [.int (xs (i + 1).toNatClampNeg), .int (xs (i + 2).toNatClampNeg), .int (xs (i + 3).toNatClampNeg)]) (rest := [.int (v)]) dL_1082 ml_L_122 mv_X12_way (s_X12_way hE h2) rfl rfl (jc_162 hE) (by decide) (Nat.le_of_ble_eq_true rfl) ?_
  exact jx_icmp_eq (tgt := 1400) dL_1085 (by decide) (fun _ => hX) (fun q => absurd rfl q)
set_option maxRecDepth 20000 in
theorem lc_longest {E : jE} (hE : jfull E) {A : (Nat → Nat) × Option Nat} {b L : Nat} {xs : Nat → Int32} {i : Int32} {m : Nat} {S : zS} {w : jw} (hm : m ≤ 2900) (h4 : 401 ≤ m) (h : zTop m S w) (hi : ∀ n : Int32, 0 ≤ n → n ≤ 5 → vp_in (i + n) L) (kk : ∀ (S' : zS) (w2 : jw), zTop (m + 1) S' w2 → ∃ w', jX E (m_L A b L xs) 40 1400 (lls E b i) [] w2 (some (.int 1)) w') : ∃ w', jX E (m_L A b L xs) 40 1090 (lls E b i) [] w (some (.int 1)) w' := by
  obtain ⟨v, w1, w2, h1, h2, S', hz⟩ := t_longest hm h (xs (i + 1).toNatClampNeg) (xs (i + 2).toNatClampNeg)
  obtain ⟨w', hX⟩ := kk S' w2 hz
  refine ⟨w', ?_⟩
  refine jx_aload_n dL_1090 rfl ?_
  refine jx_arg (v := 1) dL_1091 dL_1092 dL_1093 dL_1094 dL_1095 (by decide) (hi 1 (by decide) (by decide)) ?_
  refine jx_arg (v := 2) dL_1096 dL_1097 dL_1098 dL_1099 dL_1100 (by decide) (hi 2 (by decide) (by decide)) ?_
  refine jx_cVi (a := 0) (As := [.int (xs (i + 1).toNatClampNeg), .int (xs (i + 2).toNatClampNeg)]) (rest := []) dL_1101 ml_L_123 mv_X11_longest (s_X11_longest hE h1) rfl rfl jc_0 (by decide) (Nat.le_of_ble_eq_true rfl) ?_
  refine jx_aload_n dL_1104 rfl ?_
  refine jx_arg (v := 1) dL_1105 dL_1106 dL_1107 dL_1108 dL_1109 (by decide) (hi 1 (by decide) (by decide)) ?_
  refine jx_arg (v := 2) dL_1110 dL_1111 dL_1112 dL_1113 dL_1114 (by decide) (hi 2 (by decide) (by decide)) ?_
  refine jx_cVi (a := 162) (As := [.int (xs (i + 1).toNatClampNeg), .int (xs (i + 2).toNatClampNeg)]) (rest := [.int (v)]) dL_1115 ml_L_126 mv_X12_longest (s_X12_longest hE h2) rfl rfl (jc_162 hE) (by decide) (Nat.le_of_ble_eq_true rfl) ?_
  exact jx_icmp_eq (tgt := 1400) dL_1118 (by decide) (fun _ => hX) (fun q => absurd rfl q)
set_option maxRecDepth 20000 in
theorem lc_busiest {E : jE} (hE : jfull E) {A : (Nat → Nat) × Option Nat} {b L : Nat} {xs : Nat → Int32} {i : Int32} {m : Nat} {S : zS} {w : jw} (hm : m ≤ 2900) (h4 : 401 ≤ m) (h : zTop m S w) (hi : ∀ n : Int32, 0 ≤ n → n ≤ 5 → vp_in (i + n) L) (kk : ∀ (S' : zS) (w2 : jw), zTop (m + 1) S' w2 → ∃ w', jX E (m_L A b L xs) 40 1400 (lls E b i) [] w2 (some (.int 1)) w') : ∃ w', jX E (m_L A b L xs) 40 1123 (lls E b i) [] w (some (.int 1)) w' := by
  obtain ⟨v, w1, w2, h1, h2, S', hz⟩ := t_busiest hm h (xs (i + 1).toNatClampNeg) (xs (i + 2).toNatClampNeg) (xs (i + 3).toNatClampNeg)
  obtain ⟨w', hX⟩ := kk S' w2 hz
  refine ⟨w', ?_⟩
  refine jx_aload_n dL_1123 rfl ?_
  refine jx_arg (v := 1) dL_1124 dL_1125 dL_1126 dL_1127 dL_1128 (by decide) (hi 1 (by decide) (by decide)) ?_
  refine jx_arg (v := 2) dL_1129 dL_1130 dL_1131 dL_1132 dL_1133 (by decide) (hi 2 (by decide) (by decide)) ?_
  refine jx_arg (v := 3) dL_1134 dL_1135 dL_1136 dL_1137 dL_1138 (by decide) (hi 3 (by decide) (by decide)) ?_
  refine jx_cVi (a := 0) (As := [.int (xs (i + 1).toNatClampNeg), .int (xs (i + 2).toNatClampNeg), .int (xs (i + 3).toNatClampNeg)]) (rest := []) dL_1139 ml_L_127 mv_X11_busiest (s_X11_busiest hE h1) rfl rfl jc_0 (by decide) (Nat.le_of_ble_eq_true rfl) ?_
  refine jx_aload_n dL_1142 rfl ?_
  refine jx_arg (v := 1) dL_1143 dL_1144 dL_1145 dL_1146 dL_1147 (by decide) (hi 1 (by decide) (by decide)) ?_
  refine jx_arg (v := 2) dL_1148 dL_1149 dL_1150 dL_1151 dL_1152 (by decide) (hi 2 (by decide) (by decide)) ?_
  refine jx_arg (v := 3) dL_1153 dL_1154 dL_1155 dL_1156 dL_1157 (by decide) (hi 3 (by decide) (by decide)) ?_
  refine jx_cVi (a := 162) (As := [.int (xs (i + 1).toNatClampNeg), .int (xs (i + 2).toNatClampNeg), .int (xs (i + 3).toNatClampNeg)]) (rest := [.int (v)]) dL_1158 ml_L_130 mv_X12_busiest (s_X12_busiest hE h2) rfl rfl (jc_162 hE) (by decide) (Nat.le_of_ble_eq_true rfl) ?_
  exact jx_icmp_eq (tgt := 1400) dL_1161 (by decide) (fun _ => hX) (fun q => absurd rfl q)
set_option maxRecDepth 20000 in
theorem lc_gap {E : jE} (hE : jfull E) {A : (Nat → Nat) × Option Nat} {b L : Nat} {xs : Nat → Int32} {i : Int32} {m : Nat} {S : zS} {w : jw} (hm : m ≤ 2900) (h4 : 401 ≤ m) (h : zTop m S w) (hi : ∀ n : Int32, 0 ≤ n → n ≤ 5 → vp_in (i + n) L) (kk : ∀ (S' : zS) (w2 : jw), zTop (m + 1) S' w2 → ∃ w', jX E (m_L A b L xs) 40 1400 (lls E b i) [] w2 (some (.int 1)) w') : ∃ w', jX E (m_L A b L xs) 40 1166 (lls E b i) [] w (some (.int 1)) w' := by
  obtain ⟨v, w1, w2, h1, h2, S', hz⟩ := t_gap hm h (xs (i + 1).toNatClampNeg) (xs (i + 2).toNatClampNeg)
  obtain ⟨w', hX⟩ := kk S' w2 hz
  refine ⟨w', ?_⟩
  refine jx_aload_n dL_1166 rfl ?_
  refine jx_arg (v := 1) dL_1167 dL_1168 dL_1169 dL_1170 dL_1171 (by decide) (hi 1 (by decide) (by decide)) ?_
  refine jx_arg (v := 2) dL_1172 dL_1173 dL_1174 dL_1175 dL_1176 (by decide) (hi 2 (by decide) (by decide)) ?_
  refine jx_cVi (a := 0) (As := [.int (xs (i + 1).toNatClampNeg), .int (xs (i + 2).toNatClampNeg)]) (rest := []) dL_1177 ml_L_131 mv_X11_gap (s_X11_gap hE h1) rfl rfl jc_0 (by decide) (Nat.le_of_ble_eq_true rfl) ?_
  refine jx_aload_n dL_1180 rfl ?_
  refine jx_arg (v := 1) dL_1181 dL_1182 dL_1183 dL_1184 dL_1185 (by decide) (hi 1 (by decide) (by decide)) ?_
  refine jx_arg (v := 2) dL_1186 dL_1187 dL_1188 dL_1189 dL_1190 (by decide) (hi 2 (by decide) (by decide)) ?_
  refine jx_cVi (a := 162) (As := [.int (xs (i + 1).toNatClampNeg), .int (xs (i + 2).toNatClampNeg)]) (rest := [.int (v)]) dL_1191 ml_L_134 mv_X12_gap (s_X12_gap hE h2) rfl rfl (jc_162 hE) (by decide) (Nat.le_of_ble_eq_true rfl) ?_
  exact jx_icmp_eq (tgt := 1400) dL_1194 (by decide) (fun _ => hX) (fun q => absurd rfl q)
set_option maxRecDepth 20000 in
theorem lc_held {E : jE} (hE : jfull E) {A : (Nat → Nat) × Option Nat} {b L : Nat} {xs : Nat → Int32} {i : Int32} {m : Nat} {S : zS} {w : jw} (hm : m ≤ 2900) (h4 : 401 ≤ m) (h : zTop m S w) (hi : ∀ n : Int32, 0 ≤ n → n ≤ 5 → vp_in (i + n) L) (kk : ∀ (S' : zS) (w2 : jw), zTop (m + 1) S' w2 → ∃ w', jX E (m_L A b L xs) 40 1400 (lls E b i) [] w2 (some (.int 1)) w') : ∃ w', jX E (m_L A b L xs) 40 1199 (lls E b i) [] w (some (.int 1)) w' := by
  obtain ⟨v, w1, w2, h1, h2, S', hz⟩ := t_held hm h (xs (i + 1).toNatClampNeg) (xs (i + 2).toNatClampNeg)
  obtain ⟨w', hX⟩ := kk S' w2 hz
  refine ⟨w', ?_⟩
  refine jx_aload_n dL_1199 rfl ?_
  refine jx_arg (v := 1) dL_1200 dL_1201 dL_1202 dL_1203 dL_1204 (by decide) (hi 1 (by decide) (by decide)) ?_
  refine jx_arg (v := 2) dL_1205 dL_1206 dL_1207 dL_1208 dL_1209 (by decide) (hi 2 (by decide) (by decide)) ?_
  refine jx_cVi (a := 0) (As := [.int (xs (i + 1).toNatClampNeg), .int (xs (i + 2).toNatClampNeg)]) (rest := []) dL_1210 ml_L_135 mv_X11_held (s_X11_held hE h1) rfl rfl jc_0 (by decide) (Nat.le_of_ble_eq_true rfl) ?_
  refine jx_aload_n dL_1213 rfl ?_
  refine jx_arg (v := 1) dL_1214 dL_1215 dL_1216 dL_1217 dL_1218 (by decide) (hi 1 (by decide) (by decide)) ?_
  refine jx_arg (v := 2) dL_1219 dL_1220 dL_1221 dL_1222 dL_1223 (by decide) (hi 2 (by decide) (by decide)) ?_
  refine jx_cVi (a := 162) (As := [.int (xs (i + 1).toNatClampNeg), .int (xs (i + 2).toNatClampNeg)]) (rest := [.int (v)]) dL_1224 ml_L_138 mv_X12_held (s_X12_held hE h2) rfl rfl (jc_162 hE) (by decide) (Nat.le_of_ble_eq_true rfl) ?_
  exact jx_icmp_eq (tgt := 1400) dL_1227 (by decide) (fun _ => hX) (fun q => absurd rfl q)
set_option maxRecDepth 20000 in
theorem lc_page {E : jE} (hE : jfull E) {A : (Nat → Nat) × Option Nat} {b L : Nat} {xs : Nat → Int32} {i : Int32} {m : Nat} {S : zS} {w : jw} (hm : m ≤ 2900) (h4 : 401 ≤ m) (h : zTop m S w) (hi : ∀ n : Int32, 0 ≤ n → n ≤ 5 → vp_in (i + n) L) (kk : ∀ (S' : zS) (w2 : jw), zTop (m + 1) S' w2 → ∃ w', jX E (m_L A b L xs) 40 1400 (lls E b i) [] w2 (some (.int 1)) w') : ∃ w', jX E (m_L A b L xs) 40 1232 (lls E b i) [] w (some (.int 1)) w' := by
  obtain ⟨v, w1, w2, h1, h2, S', hz⟩ := t_page hm h (xs (i + 1).toNatClampNeg) (xs (i + 2).toNatClampNeg)
  obtain ⟨w', hX⟩ := kk S' w2 hz
  refine ⟨w', ?_⟩
  refine jx_aload_n dL_1232 rfl ?_
  refine jx_arg (v := 1) dL_1233 dL_1234 dL_1235 dL_1236 dL_1237 (by decide) (hi 1 (by decide) (by decide)) ?_
  refine jx_arg (v := 2) dL_1238 dL_1239 dL_1240 dL_1241 dL_1242 (by decide) (hi 2 (by decide) (by decide)) ?_
  refine jx_cVi (a := 0) (As := [.int (xs (i + 1).toNatClampNeg), .int (xs (i + 2).toNatClampNeg)]) (rest := []) dL_1243 ml_L_139 mv_X11_page (s_X11_page hE h1) rfl rfl jc_0 (by decide) (Nat.le_of_ble_eq_true rfl) ?_
  refine jx_aload_n dL_1246 rfl ?_
  refine jx_arg (v := 1) dL_1247 dL_1248 dL_1249 dL_1250 dL_1251 (by decide) (hi 1 (by decide) (by decide)) ?_
  refine jx_arg (v := 2) dL_1252 dL_1253 dL_1254 dL_1255 dL_1256 (by decide) (hi 2 (by decide) (by decide)) ?_
  refine jx_cVi (a := 162) (As := [.int (xs (i + 1).toNatClampNeg), .int (xs (i + 2).toNatClampNeg)]) (rest := [.int (v)]) dL_1257 ml_L_142 mv_X12_page (s_X12_page hE h2) rfl rfl (jc_162 hE) (by decide) (Nat.le_of_ble_eq_true rfl) ?_
  exact jx_icmp_eq (tgt := 1400) dL_1260 (by decide) (fun _ => hX) (fun q => absurd rfl q)
set_option maxRecDepth 20000 in
theorem lc_entry {E : jE} (hE : jfull E) {A : (Nat → Nat) × Option Nat} {b L : Nat} {xs : Nat → Int32} {i : Int32} {m : Nat} {S : zS} {w : jw} (hm : m ≤ 2900) (h4 : 401 ≤ m) (h : zTop m S w) (hi : ∀ n : Int32, 0 ≤ n → n ≤ 5 → vp_in (i + n) L) (kk : ∀ (S' : zS) (w2 : jw), zTop (m + 1) S' w2 → ∃ w', jX E (m_L A b L xs) 40 1400 (lls E b i) [] w2 (some (.int 1)) w') : ∃ w', jX E (m_L A b L xs) 40 1265 (lls E b i) [] w (some (.int 1)) w' := by
  obtain ⟨v, w1, w2, h1, h2, S', hz⟩ := t_entry hm h (xs (i + 1).toNatClampNeg) (xs (i + 2).toNatClampNeg) (xs (i + 3).toNatClampNeg)
  obtain ⟨w', hX⟩ := kk S' w2 hz
  refine ⟨w', ?_⟩
  refine jx_aload_n dL_1265 rfl ?_
  refine jx_arg (v := 1) dL_1266 dL_1267 dL_1268 dL_1269 dL_1270 (by decide) (hi 1 (by decide) (by decide)) ?_
  refine jx_arg (v := 2) dL_1271 dL_1272 dL_1273 dL_1274 dL_1275 (by decide) (hi 2 (by decide) (by decide)) ?_
  refine jx_arg (v := 3) dL_1276 dL_1277 dL_1278 dL_1279 dL_1280 (by decide) (hi 3 (by decide) (by decide)) ?_
  refine jx_cVi (a := 0) (As := [.int (xs (i + 1).toNatClampNeg), .int (xs (i + 2).toNatClampNeg), .int (xs (i + 3).toNatClampNeg)]) (rest := []) dL_1281 ml_L_143 mv_X11_entry (s_X11_entry hE h1) rfl rfl jc_0 (by decide) (Nat.le_of_ble_eq_true rfl) ?_
  refine jx_aload_n dL_1284 rfl ?_
  refine jx_arg (v := 1) dL_1285 dL_1286 dL_1287 dL_1288 dL_1289 (by decide) (hi 1 (by decide) (by decide)) ?_
  refine jx_arg (v := 2) dL_1290 dL_1291 dL_1292 dL_1293 dL_1294 (by decide) (hi 2 (by decide) (by decide)) ?_
  refine jx_arg (v := 3) dL_1295 dL_1296 dL_1297 dL_1298 dL_1299 (by decide) (hi 3 (by decide) (by decide)) ?_
  refine jx_cVi (a := 162) (As := [.int (xs (i + 1).toNatClampNeg), .int (xs (i + 2).toNatClampNeg), .int (xs (i + 3).toNatClampNeg)]) (rest := [.int (v)]) dL_1300 ml_L_146 mv_X12_entry (s_X12_entry hE h2) rfl rfl (jc_162 hE) (by decide) (Nat.le_of_ble_eq_true rfl) ?_
  exact jx_icmp_eq (tgt := 1400) dL_1303 (by decide) (fun _ => hX) (fun q => absurd rfl q)
set_option maxRecDepth 20000 in
theorem lc_room {E : jE} (hE : jfull E) {A : (Nat → Nat) × Option Nat} {b L : Nat} {xs : Nat → Int32} {i : Int32} {m : Nat} {S : zS} {w : jw} (hm : m ≤ 2900) (h4 : 401 ≤ m) (h : zTop m S w) (hi : ∀ n : Int32, 0 ≤ n → n ≤ 5 → vp_in (i + n) L) (kk : ∀ (S' : zS) (w2 : jw), zTop (m + 1) S' w2 → ∃ w', jX E (m_L A b L xs) 40 1400 (lls E b i) [] w2 (some (.int 1)) w') : ∃ w', jX E (m_L A b L xs) 40 1308 (lls E b i) [] w (some (.int 1)) w' := by
  obtain ⟨v, w1, w2, h1, h2, S', hz⟩ := t_room hm h (xs (i + 1).toNatClampNeg)
  obtain ⟨w', hX⟩ := kk S' w2 hz
  refine ⟨w', ?_⟩
  refine jx_aload_n dL_1308 rfl ?_
  refine jx_arg (v := 1) dL_1309 dL_1310 dL_1311 dL_1312 dL_1313 (by decide) (hi 1 (by decide) (by decide)) ?_
  refine jx_cVi (a := 0) (As := [.int (xs (i + 1).toNatClampNeg)]) (rest := []) dL_1314 ml_L_147 mv_X11_room (s_X11_room hE h1) rfl rfl jc_0 (by decide) (Nat.le_of_ble_eq_true rfl) ?_
  refine jx_aload_n dL_1317 rfl ?_
  refine jx_arg (v := 1) dL_1318 dL_1319 dL_1320 dL_1321 dL_1322 (by decide) (hi 1 (by decide) (by decide)) ?_
  refine jx_cVi (a := 162) (As := [.int (xs (i + 1).toNatClampNeg)]) (rest := [.int (v)]) dL_1323 ml_L_150 mv_X12_room (s_X12_room hE h2) rfl rfl (jc_162 hE) (by decide) (Nat.le_of_ble_eq_true rfl) ?_
  exact jx_icmp_eq (tgt := 1400) dL_1326 (by decide) (fun _ => hX) (fun q => absurd rfl q)
set_option maxRecDepth 20000 in
theorem lc_hold {E : jE} (hE : jfull E) {A : (Nat → Nat) × Option Nat} {b L : Nat} {xs : Nat → Int32} {i : Int32} {m : Nat} {S : zS} {w : jw} (hm : m ≤ 2900) (h4 : 401 ≤ m) (h : zTop m S w) (hi : ∀ n : Int32, 0 ≤ n → n ≤ 5 → vp_in (i + n) L) (kk : ∀ (S' : zS) (w2 : jw), zTop (m + 1) S' w2 → ∃ w', jX E (m_L A b L xs) 40 1400 (lls E b i) [] w2 (some (.int 1)) w') : ∃ w', jX E (m_L A b L xs) 40 1331 (lls E b i) [] w (some (.int 1)) w' := by
  obtain ⟨v, w1, w2, h1, h2, S', hz⟩ := t_hold hm h (xs (i + 1).toNatClampNeg)
  obtain ⟨w', hX⟩ := kk S' w2 hz
  refine ⟨w', ?_⟩
  refine jx_aload_n dL_1331 rfl ?_
  refine jx_arg (v := 1) dL_1332 dL_1333 dL_1334 dL_1335 dL_1336 (by decide) (hi 1 (by decide) (by decide)) ?_
  refine jx_cVi (a := 0) (As := [.int (xs (i + 1).toNatClampNeg)]) (rest := []) dL_1337 ml_L_151 mv_X11_hold (s_X11_hold hE h1) rfl rfl jc_0 (by decide) (Nat.le_of_ble_eq_true rfl) ?_
  refine jx_aload_n dL_1340 rfl ?_
  refine jx_arg (v := 1) dL_1341 dL_1342 dL_1343 dL_1344 dL_1345 (by decide) (hi 1 (by decide) (by decide)) ?_
  refine jx_cVi (a := 162) (As := [.int (xs (i + 1).toNatClampNeg)]) (rest := [.int (jb v)]) dL_1346 ml_L_155 mv_X12_hold (s_X12_hold hE h2) rfl rfl (jc_162 hE) (by decide) (Nat.le_of_ble_eq_true rfl) ?_
  exact jx_icmp_eq (tgt := 1400) dL_1349 (by decide) (fun _ => hX) (fun q => absurd rfl q)
set_option maxRecDepth 20000 in
theorem lc_restore {E : jE} (hE : jfull E) {A : (Nat → Nat) × Option Nat} {b L : Nat} {xs : Nat → Int32} {i : Int32} {m : Nat} {S : zS} {w : jw} (hm : m ≤ 2900) (h4 : 401 ≤ m) (h : zTop m S w) (hi : ∀ n : Int32, 0 ≤ n → n ≤ 5 → vp_in (i + n) L) (kk : ∀ (S' : zS) (w2 : jw), zTop (m + 1) S' w2 → ∃ w', jX E (m_L A b L xs) 40 1400 (lls E b i) [] w2 (some (.int 1)) w') : ∃ w', jX E (m_L A b L xs) 40 1354 (lls E b i) [] w (some (.int 1)) w' := by
  obtain ⟨v, w1, w2, h1, h2, S', hz⟩ := t_restore hm h (xs (i + 1).toNatClampNeg)
  obtain ⟨w', hX⟩ := kk S' w2 hz
  refine ⟨w', ?_⟩
  refine jx_aload_n dL_1354 rfl ?_
  refine jx_arg (v := 1) dL_1355 dL_1356 dL_1357 dL_1358 dL_1359 (by decide) (hi 1 (by decide) (by decide)) ?_
  refine jx_cVi (a := 0) (As := [.int (xs (i + 1).toNatClampNeg)]) (rest := []) dL_1360 ml_L_156 mv_X11_restore (s_X11_restore hE h1) rfl rfl jc_0 (by decide) (Nat.le_of_ble_eq_true rfl) ?_
  refine jx_aload_n dL_1363 rfl ?_
  refine jx_arg (v := 1) dL_1364 dL_1365 dL_1366 dL_1367 dL_1368 (by decide) (hi 1 (by decide) (by decide)) ?_
  refine jx_cVi (a := 162) (As := [.int (xs (i + 1).toNatClampNeg)]) (rest := [.int (jb v)]) dL_1369 ml_L_159 mv_X12_restore (s_X12_restore hE h2) rfl rfl (jc_162 hE) (by decide) (Nat.le_of_ble_eq_true rfl) ?_
  exact jx_icmp_eq (tgt := 1400) dL_1372 (by decide) (fun _ => hX) (fun q => absurd rfl q)
set_option maxRecDepth 20000 in
theorem lc_count {E : jE} (hE : jfull E) {A : (Nat → Nat) × Option Nat} {b L : Nat} {xs : Nat → Int32} {i : Int32} {m : Nat} {S : zS} {w : jw} (hm : m ≤ 2900) (h4 : 401 ≤ m) (h : zTop m S w) (hi : ∀ n : Int32, 0 ≤ n → n ≤ 5 → vp_in (i + n) L) (kk : ∀ (S' : zS) (w2 : jw), zTop (m + 1) S' w2 → ∃ w', jX E (m_L A b L xs) 40 1400 (lls E b i) [] w2 (some (.int 1)) w') : ∃ w', jX E (m_L A b L xs) 40 1377 (lls E b i) [] w (some (.int 1)) w' := by
  obtain ⟨v, w1, w2, h1, h2, S', hz⟩ := t_count hm h (xs (i + 1).toNatClampNeg)
  obtain ⟨w', hX⟩ := kk S' w2 hz
  refine ⟨w', ?_⟩
  refine jx_aload_n dL_1377 rfl ?_
  refine jx_arg (v := 1) dL_1378 dL_1379 dL_1380 dL_1381 dL_1382 (by decide) (hi 1 (by decide) (by decide)) ?_
  refine jx_cVi (a := 0) (As := [.int (xs (i + 1).toNatClampNeg)]) (rest := []) dL_1383 ml_L_160 mv_X11_count (s_X11_count hE h1) rfl rfl jc_0 (by decide) (Nat.le_of_ble_eq_true rfl) ?_
  refine jx_aload_n dL_1386 rfl ?_
  refine jx_arg (v := 1) dL_1387 dL_1388 dL_1389 dL_1390 dL_1391 (by decide) (hi 1 (by decide) (by decide)) ?_
  refine jx_cVi (a := 162) (As := [.int (xs (i + 1).toNatClampNeg)]) (rest := [.int (v)]) dL_1392 ml_L_163 mv_X12_count (s_X12_count hE h2) rfl rfl (jc_162 hE) (by decide) (Nat.le_of_ble_eq_true rfl) ?_
  exact jx_icmp_eq (tgt := 1400) dL_1395 (by decide) (fun _ => hX) (fun q => absurd rfl q)

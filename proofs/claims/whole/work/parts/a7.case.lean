/-! ===== the law: its cases ===== -/
def lvL (i : Int32) : List (Nat × am_V) := [(3, .inl i), (2, .inr (.inr (3, 0, 0))), (1, .inr (.inr (0, 0, 0))), (0, .inr (.inr (8, 0, 0)))]
def bz (x : Int32) : Int32 := if x = 0 then 0 else 1
theorem bz_01 {x : Int32} : bz x = 0 ∨ bz x = 1 := by
  unfold bz
  by_cases h : x = 0
  · rw [if_pos h]; exact Or.inl rfl
  · rw [if_neg h]; exact Or.inr rfl
theorem AL_a0 : ((0, 0, 0) : am_C) ∈ AL := by decide +kernel
theorem AL_a3 : ((3, 0, 0) : am_C) ∈ AL := by decide +kernel
theorem AL_d0 : am_d0 AL := by
  intro i hi
  have h : ∀ i, i < 17 → ((0, 0, i) : am_C) ∈ AL := by decide +kernel
  exact h i hi
theorem AL_d10 : am_d1 AL 0 := by
  intro i hi
  have h : ∀ i, i < 23 → ((1, 0, i) : am_C) ∈ AL := by decide +kernel
  exact h i hi
theorem AL_d11 : am_d1 AL 1 := by
  intro i hi
  have h : ∀ i, i < 23 → ((1, 1, i) : am_C) ∈ AL := by decide +kernel
  exact h i hi
theorem AL_d2 : am_d2 AL := by
  intro t ht i hi
  have h : ∀ t, t < 7 → ∀ i, i < 2 → ((2, t, i) : am_C) ∈ AL := by decide +kernel
  exact h t ht i hi
theorem AL_d3 : am_d3 AL := by
  intro i hi
  have h : ∀ i, i < 45 → ((3, 0, i) : am_C) ∈ AL := by decide +kernel
  exact h i hi
section LA
variable {L : Nat} {xs : Nat → Int32} {pc j k : Nat} {st : List am_V} {M : am_I} {N : am_N}
theorem l_arg {n : Int} (h0 : decode code pc = .ok (.aload_n 0, 1)) (h1 : decode code (pc + 1) = .ok (.iload_n 3, 1)) (h2 : decode code (pc + 2) = .ok (.iconst n, 1)) (h3 : decode code (pc + 3) = .ok (.iadd, 1)) (h4 : decode code (pc + 4) = .ok (.iaload, 1)) (hv : Int32.ofInt n = nI k) (hk : j + k < L) (hL : L ≤ 3584) (kk : jl L xs (pc + 5) (lvL (nI j)) (.inl (xs (j + k)) :: st) M N) : jl L xs pc (lvL (nI j)) st M N := by
  refine l_aload_n 3 h0 rfl (l_iload_n 0 h1 rfl (l_iconst h2 hv (l_iadd h3 ?_)))
  rw [nI_add]
  refine l_sld h4 (vp_in_nI hk (by omega)) ?_
  rw [nI_clamp (show j + k < 2 ^ 31 by omega)]
  exact kk
theorem l_arg6 (h0 : decode code pc = .ok (.aload_n 0, 1)) (h1 : decode code (pc + 1) = .ok (.iload_n 3, 1)) (h2 : decode code (pc + 2) = .ok (.bipush 6, 2)) (h3 : decode code (pc + 4) = .ok (.iadd, 1)) (h4 : decode code (pc + 5) = .ok (.iaload, 1)) (hk : j + 6 < L) (hL : L ≤ 3584) (kk : jl L xs (pc + 6) (lvL (nI j)) (.inl (xs (j + 6)) :: st) M N) : jl L xs pc (lvL (nI j)) st M N := by
  refine l_aload_n 3 h0 rfl (l_iload_n 0 h1 rfl (l_bipush (v := nI 6) h2 (by decide) (l_iadd h3 ?_)))
  rw [nI_add]
  refine l_sld h4 (vp_in_nI hk (by omega)) ?_
  rw [nI_clamp (show j + 6 < 2 ^ 31 by omega)]
  exact kk
theorem l_bool {x : Int32} {o1 o2 : Int} {lv : List (Nat × am_V)} (h0 : decode code pc = .ok (.ifCond .eq o1, 3)) (h1 : decode code (pc + 3) = .ok (.iconst 1, 1)) (h2 : decode code (pc + 4) = .ok (.goto o2, 3)) (h3 : decode code (pc + 7) = .ok (.iconst 0, 1)) (e1 : (o1 : Int) = 7) (e2 : (o2 : Int) = 4) (kk : jl L xs (pc + 8) lv (.inl (bz x) :: st) M N) : jl L xs pc lv (.inl x :: st) M N := by
  subst e1
  subst e2
  refine l_if_eq (tgt := pc + 7) h0 (by omega) (fun z => l_iconst (v := 0) h3 rfl ?_) (fun z => l_iconst (v := 1) h1 rfl (l_goto (tgt := pc + 8) h2 (by omega) ?_))
  · have : bz x = 0 := by unfold bz; rw [if_pos z]
    rw [this] at kk; exact kk
  · have : bz x = 1 := by unfold bz; rw [if_neg z]
    rw [this] at kk; exact kk
end LA
set_option maxRecDepth 100000 in
theorem mzX11_land : am_VS R_law 13 mX11_land := ⟨Or.inl (am_in2 181 rfl rfl), am_in2 182 rfl rfl, am_in2 183 rfl rfl⟩
set_option maxRecDepth 100000 in
theorem mzX12_land : am_VS R_law 17 mX12_land := ⟨Or.inl (am_in7 2 rfl rfl), am_in7 3 rfl rfl, am_in7 4 rfl rfl⟩
theorem lc_0 {L : Nat} {xs : Nat → Int32} {j : Nat} {M : am_I} {N : am_N} (hI : INV M N) (hj : j + 6 < L) (hL : L ≤ 3584) (kk : ∀ M N, INV M N → jl L xs 1253 (lvL (nI j)) [] M N) : jl L xs 168 (lvL (nI j)) [] M N := by
  refine l_aload_n 2 dL_168 rfl ?_
  refine l_arg (k := 1) dL_169 dL_170 dL_171 dL_172 dL_173 (by decide) (by omega) hL ?_
  refine l_arg (k := 2) dL_174 dL_175 dL_176 dL_177 dL_178 (by decide) (by omega) hL ?_
  refine l_arg (k := 3) dL_179 dL_180 dL_181 dL_182 dL_183 (by decide) (by omega) hL ?_
  refine l_inv (ν := mX11_land) (ci := 10) (nf := 10) (T := TX11) (d' := 0 + 7) (a := (0, 0, 0)) (As := [.inl (xs (j + 1)), .inl (xs (j + 2)), .inl (xs (j + 3))]) (st := []) dL_184 mzX11_land mbX11_land rfl rfl (Nat.le_of_ble_eq_true rfl) (Nat.le_of_ble_eq_true rfl) (by decide) AL_a0 rfl rfl (k_X11_land (d := 0) AL_d0 AL_d10 AL_d2 (call_land hI.1)) (fun v M1 N1 hp => ?_)
  obtain ⟨r, hv, hw⟩ := hp
  subst hv
  refine l_aload_n 1 dL_187 rfl ?_
  refine l_arg (k := 1) dL_188 dL_189 dL_190 dL_191 dL_192 (by decide) (by omega) hL ?_
  refine l_arg (k := 2) dL_193 dL_194 dL_195 dL_196 dL_197 (by decide) (by omega) hL ?_
  refine l_arg (k := 3) dL_198 dL_199 dL_200 dL_201 dL_202 (by decide) (by omega) hL ?_
  refine l_inv (ν := mX12_land) (ci := 11) (nf := 65) (T := TX12) (d' := 0 + 5) (a := (3, 0, 0)) (As := [.inl (xs (j + 1)), .inl (xs (j + 2)), .inl (xs (j + 3))]) (st := [.inl r]) dL_203 mzX12_land mbX12_land rfl rfl (Nat.le_of_ble_eq_true rfl) (Nat.le_of_ble_eq_true rfl) (by decide) AL_a3 rfl rfl (k_X12_land (d := 0) AL_d3 hw) (fun v M2 N2 hp => ?_)
  obtain ⟨r2, hv, e, F, Wi⟩ := hp
  subst hv
  exact l_icmp_eq (tgt := 1253) dL_206 rfl (fun _ => kk _ _ (hI.fx F Wi)) (fun z => absurd e z)
set_option maxRecDepth 100000 in
theorem mzX11_set : am_VS R_law 18 mX11_set := ⟨Or.inl (am_in3 50 rfl rfl), am_in3 51 rfl rfl, am_in3 52 rfl rfl⟩
set_option maxRecDepth 100000 in
theorem mzX12_set : am_VS R_law 22 mX12_set := ⟨Or.inl (am_in7 42 rfl rfl), am_in7 43 rfl rfl, am_in7 44 rfl rfl⟩
theorem lc_1 {L : Nat} {xs : Nat → Int32} {j : Nat} {M : am_I} {N : am_N} (hI : INV M N) (hj : j + 6 < L) (hL : L ≤ 3584) (kk : ∀ M N, INV M N → jl L xs 1253 (lvL (nI j)) [] M N) : jl L xs 211 (lvL (nI j)) [] M N := by
  refine l_aload_n 2 dL_211 rfl ?_
  refine l_arg (k := 1) dL_212 dL_213 dL_214 dL_215 dL_216 (by decide) (by omega) hL ?_
  refine l_arg (k := 2) dL_217 dL_218 dL_219 dL_220 dL_221 (by decide) (by omega) hL ?_
  refine l_inv (ν := mX11_set) (ci := 10) (nf := 10) (T := TX11) (d' := 0 + 7) (a := (0, 0, 0)) (As := [.inl (xs (j + 1)), .inl (xs (j + 2))]) (st := []) dL_222 mzX11_set mbX11_set rfl rfl (Nat.le_of_ble_eq_true rfl) (Nat.le_of_ble_eq_true rfl) (by decide) AL_a0 rfl rfl (k_X11_set (d := 0) AL_d0 AL_d10 AL_d2 (call_set hI.1)) (fun v M1 N1 hp => ?_)
  obtain ⟨r, hv, hw⟩ := hp
  subst hv
  refine l_aload_n 1 dL_225 rfl ?_
  refine l_arg (k := 1) dL_226 dL_227 dL_228 dL_229 dL_230 (by decide) (by omega) hL ?_
  refine l_arg (k := 2) dL_231 dL_232 dL_233 dL_234 dL_235 (by decide) (by omega) hL ?_
  refine l_inv (ν := mX12_set) (ci := 11) (nf := 65) (T := TX12) (d' := 0 + 5) (a := (3, 0, 0)) (As := [.inl (xs (j + 1)), .inl (xs (j + 2))]) (st := [.inl r]) dL_236 mzX12_set mbX12_set rfl rfl (Nat.le_of_ble_eq_true rfl) (Nat.le_of_ble_eq_true rfl) (by decide) AL_a3 rfl rfl (k_X12_set (d := 0) AL_d3 hw) (fun v M2 N2 hp => ?_)
  obtain ⟨r2, hv, e, F, Wi⟩ := hp
  subst hv
  exact l_icmp_eq (tgt := 1253) dL_239 rfl (fun _ => kk _ _ (hI.fx F Wi)) (fun z => absurd e z)
set_option maxRecDepth 100000 in
theorem mzX11_rain : am_VS R_law 23 mX11_rain := ⟨Or.inl (am_in3 57 rfl rfl), am_in3 58 rfl rfl, am_in3 59 rfl rfl⟩
set_option maxRecDepth 100000 in
theorem mzX12_rain : am_VS R_law 27 mX12_rain := ⟨Or.inl (am_in7 49 rfl rfl), am_in7 50 rfl rfl, am_in7 51 rfl rfl⟩
theorem lc_2 {L : Nat} {xs : Nat → Int32} {j : Nat} {M : am_I} {N : am_N} (hI : INV M N) (hj : j + 6 < L) (hL : L ≤ 3584) (kk : ∀ M N, INV M N → jl L xs 1253 (lvL (nI j)) [] M N) : jl L xs 244 (lvL (nI j)) [] M N := by
  refine l_aload_n 2 dL_244 rfl ?_
  refine l_arg (k := 1) dL_245 dL_246 dL_247 dL_248 dL_249 (by decide) (by omega) hL ?_
  refine l_arg (k := 2) dL_250 dL_251 dL_252 dL_253 dL_254 (by decide) (by omega) hL ?_
  refine l_arg (k := 3) dL_255 dL_256 dL_257 dL_258 dL_259 (by decide) (by omega) hL ?_
  refine l_inv (ν := mX11_rain) (ci := 10) (nf := 10) (T := TX11) (d' := 0 + 7) (a := (0, 0, 0)) (As := [.inl (xs (j + 1)), .inl (xs (j + 2)), .inl (xs (j + 3))]) (st := []) dL_260 mzX11_rain mbX11_rain rfl rfl (Nat.le_of_ble_eq_true rfl) (Nat.le_of_ble_eq_true rfl) (by decide) AL_a0 rfl rfl (k_X11_rain (d := 0) AL_d0 AL_d10 AL_d2 (call_rain hI.1)) (fun v M1 N1 hp => ?_)
  obtain ⟨r, hv, hw⟩ := hp
  subst hv
  refine l_aload_n 1 dL_263 rfl ?_
  refine l_arg (k := 1) dL_264 dL_265 dL_266 dL_267 dL_268 (by decide) (by omega) hL ?_
  refine l_arg (k := 2) dL_269 dL_270 dL_271 dL_272 dL_273 (by decide) (by omega) hL ?_
  refine l_arg (k := 3) dL_274 dL_275 dL_276 dL_277 dL_278 (by decide) (by omega) hL ?_
  refine l_inv (ν := mX12_rain) (ci := 11) (nf := 65) (T := TX12) (d' := 0 + 5) (a := (3, 0, 0)) (As := [.inl (xs (j + 1)), .inl (xs (j + 2)), .inl (xs (j + 3))]) (st := [.inl r]) dL_279 mzX12_rain mbX12_rain rfl rfl (Nat.le_of_ble_eq_true rfl) (Nat.le_of_ble_eq_true rfl) (by decide) AL_a3 rfl rfl (k_X12_rain (d := 0) AL_d3 hw) (fun v M2 N2 hp => ?_)
  obtain ⟨r2, hv, e, F, Wi⟩ := hp
  subst hv
  exact l_icmp_eq (tgt := 1253) dL_282 rfl (fun _ => kk _ _ (hI.fx F Wi)) (fun z => absurd e z)
set_option maxRecDepth 100000 in
theorem mzX11_cart : am_VS R_law 28 mX11_cart := ⟨Or.inl (am_in3 70 rfl rfl), am_in3 71 rfl rfl, am_in3 72 rfl rfl⟩
set_option maxRecDepth 100000 in
theorem mzX12_cart : am_VS R_law 32 mX12_cart := ⟨Or.inl (am_in7 53 rfl rfl), am_in7 54 rfl rfl, am_in7 55 rfl rfl⟩
theorem lc_3 {L : Nat} {xs : Nat → Int32} {j : Nat} {M : am_I} {N : am_N} (hI : INV M N) (hj : j + 6 < L) (hL : L ≤ 3584) (kk : ∀ M N, INV M N → jl L xs 1253 (lvL (nI j)) [] M N) : jl L xs 287 (lvL (nI j)) [] M N := by
  refine l_aload_n 2 dL_287 rfl ?_
  refine l_arg (k := 1) dL_288 dL_289 dL_290 dL_291 dL_292 (by decide) (by omega) hL ?_
  refine l_arg (k := 2) dL_293 dL_294 dL_295 dL_296 dL_297 (by decide) (by omega) hL ?_
  refine l_arg (k := 3) dL_298 dL_299 dL_300 dL_301 dL_302 (by decide) (by omega) hL ?_
  refine l_arg (k := 4) dL_303 dL_304 dL_305 dL_306 dL_307 (by decide) (by omega) hL ?_
  refine l_arg (k := 5) dL_308 dL_309 dL_310 dL_311 dL_312 (by decide) (by omega) hL ?_
  refine l_inv (ν := mX11_cart) (ci := 10) (nf := 10) (T := TX11) (d' := 0 + 7) (a := (0, 0, 0)) (As := [.inl (xs (j + 1)), .inl (xs (j + 2)), .inl (xs (j + 3)), .inl (xs (j + 4)), .inl (xs (j + 5))]) (st := []) dL_313 mzX11_cart mbX11_cart rfl rfl (Nat.le_of_ble_eq_true rfl) (Nat.le_of_ble_eq_true rfl) (by decide) AL_a0 rfl rfl (k_X11_cart (d := 0) AL_d0 AL_d10 AL_d2 (call_cart hI.1)) (fun v M1 N1 hp => ?_)
  obtain ⟨r, hv, hw⟩ := hp
  subst hv
  refine l_aload_n 1 dL_316 rfl ?_
  refine l_arg (k := 1) dL_317 dL_318 dL_319 dL_320 dL_321 (by decide) (by omega) hL ?_
  refine l_arg (k := 2) dL_322 dL_323 dL_324 dL_325 dL_326 (by decide) (by omega) hL ?_
  refine l_arg (k := 3) dL_327 dL_328 dL_329 dL_330 dL_331 (by decide) (by omega) hL ?_
  refine l_arg (k := 4) dL_332 dL_333 dL_334 dL_335 dL_336 (by decide) (by omega) hL ?_
  refine l_arg (k := 5) dL_337 dL_338 dL_339 dL_340 dL_341 (by decide) (by omega) hL ?_
  refine l_inv (ν := mX12_cart) (ci := 11) (nf := 65) (T := TX12) (d' := 0 + 5) (a := (3, 0, 0)) (As := [.inl (xs (j + 1)), .inl (xs (j + 2)), .inl (xs (j + 3)), .inl (xs (j + 4)), .inl (xs (j + 5))]) (st := [.inl r]) dL_342 mzX12_cart mbX12_cart rfl rfl (Nat.le_of_ble_eq_true rfl) (Nat.le_of_ble_eq_true rfl) (by decide) AL_a3 rfl rfl (k_X12_cart (d := 0) AL_d3 hw) (fun v M2 N2 hp => ?_)
  obtain ⟨r2, hv, e, F, Wi⟩ := hp
  subst hv
  exact l_icmp_eq (tgt := 1253) dL_345 rfl (fun _ => kk _ _ (hI.fx F Wi)) (fun z => absurd e z)
set_option maxRecDepth 100000 in
theorem mzX11_charge : am_VS R_law 33 mX11_charge := ⟨Or.inl (am_in3 74 rfl rfl), am_in3 75 rfl rfl, am_in3 76 rfl rfl⟩
set_option maxRecDepth 100000 in
theorem mzX12_charge : am_VS R_law 37 mX12_charge := ⟨Or.inl (am_in7 57 rfl rfl), am_in7 58 rfl rfl, am_in7 59 rfl rfl⟩
theorem lc_4 {L : Nat} {xs : Nat → Int32} {j : Nat} {M : am_I} {N : am_N} (hI : INV M N) (hj : j + 6 < L) (hL : L ≤ 3584) (kk : ∀ M N, INV M N → jl L xs 1253 (lvL (nI j)) [] M N) : jl L xs 350 (lvL (nI j)) [] M N := by
  refine l_aload_n 2 dL_350 rfl ?_
  refine l_arg (k := 1) dL_351 dL_352 dL_353 dL_354 dL_355 (by decide) (by omega) hL ?_
  refine l_inv (ν := mX11_charge) (ci := 10) (nf := 10) (T := TX11) (d' := 0 + 7) (a := (0, 0, 0)) (As := [.inl (xs (j + 1))]) (st := []) dL_356 mzX11_charge mbX11_charge rfl rfl (Nat.le_of_ble_eq_true rfl) (Nat.le_of_ble_eq_true rfl) (by decide) AL_a0 rfl rfl (k_X11_charge (d := 0) AL_d0 AL_d10 AL_d2 (call_charge hI.1)) (fun v M1 N1 hp => ?_)
  obtain ⟨r, hv, hw⟩ := hp
  subst hv
  refine l_aload_n 1 dL_359 rfl ?_
  refine l_arg (k := 1) dL_360 dL_361 dL_362 dL_363 dL_364 (by decide) (by omega) hL ?_
  refine l_inv (ν := mX12_charge) (ci := 11) (nf := 65) (T := TX12) (d' := 0 + 5) (a := (3, 0, 0)) (As := [.inl (xs (j + 1))]) (st := [.inl r]) dL_365 mzX12_charge mbX12_charge rfl rfl (Nat.le_of_ble_eq_true rfl) (Nat.le_of_ble_eq_true rfl) (by decide) AL_a3 rfl rfl (k_X12_charge (d := 0) AL_d3 hw) (fun v M2 N2 hp => ?_)
  obtain ⟨r2, hv, e, F, Wi⟩ := hp
  subst hv
  exact l_icmp_eq (tgt := 1253) dL_368 rfl (fun _ => kk _ _ (hI.fx F Wi)) (fun z => absurd e z)
set_option maxRecDepth 100000 in
theorem mzX11_work : am_VS R_law 38 mX11_work := ⟨Or.inl (am_in3 83 rfl rfl), am_in3 84 rfl rfl, am_in3 85 rfl rfl⟩
set_option maxRecDepth 100000 in
theorem mzX12_work : am_VS R_law 41 mX12_work := ⟨Or.inl (am_in7 65 rfl rfl), am_in7 66 rfl rfl, am_in7 67 rfl rfl⟩
theorem lc_5 {L : Nat} {xs : Nat → Int32} {j : Nat} {M : am_I} {N : am_N} (hI : INV M N) (hj : j + 6 < L) (hL : L ≤ 3584) (kk : ∀ M N, INV M N → jl L xs 1253 (lvL (nI j)) [] M N) : jl L xs 373 (lvL (nI j)) [] M N := by
  refine l_aload_n 2 dL_373 rfl ?_
  refine l_arg (k := 1) dL_374 dL_375 dL_376 dL_377 dL_378 (by decide) (by omega) hL ?_
  refine l_arg (k := 2) dL_379 dL_380 dL_381 dL_382 dL_383 (by decide) (by omega) hL ?_
  refine l_arg (k := 3) dL_384 dL_385 dL_386 dL_387 dL_388 (by decide) (by omega) hL ?_
  refine l_inv (ν := mX11_work) (ci := 10) (nf := 10) (T := TX11) (d' := 0 + 8) (a := (0, 0, 0)) (As := [.inl (xs (j + 1)), .inl (xs (j + 2)), .inl (xs (j + 3))]) (st := []) dL_389 mzX11_work mbX11_work rfl rfl (Nat.le_of_ble_eq_true rfl) (Nat.le_of_ble_eq_true rfl) (by decide) AL_a0 rfl rfl (k_X11_work (d := 0) AL_d0 AL_d10 AL_d2 (call_work hI.1)) (fun v M1 N1 hp => ?_)
  obtain ⟨r, hv, hw⟩ := hp
  subst hv
  refine l_aload_n 1 dL_392 rfl ?_
  refine l_arg (k := 1) dL_393 dL_394 dL_395 dL_396 dL_397 (by decide) (by omega) hL ?_
  refine l_arg (k := 2) dL_398 dL_399 dL_400 dL_401 dL_402 (by decide) (by omega) hL ?_
  refine l_arg (k := 3) dL_403 dL_404 dL_405 dL_406 dL_407 (by decide) (by omega) hL ?_
  refine l_inv (ν := mX12_work) (ci := 11) (nf := 65) (T := TX12) (d' := 0 + 5) (a := (3, 0, 0)) (As := [.inl (xs (j + 1)), .inl (xs (j + 2)), .inl (xs (j + 3))]) (st := [.inl r]) dL_408 mzX12_work mbX12_work rfl rfl (Nat.le_of_ble_eq_true rfl) (Nat.le_of_ble_eq_true rfl) (by decide) AL_a3 rfl rfl (k_X12_work (d := 0) AL_d3 hw) (fun v M2 N2 hp => ?_)
  obtain ⟨r2, hv, e, F, Wi⟩ := hp
  subst hv
  exact l_icmp_eq (tgt := 1253) dL_411 rfl (fun _ => kk _ _ (hI.fx F Wi)) (fun z => absurd e z)
set_option maxRecDepth 100000 in
theorem mzX11_lot : am_VS R_law 42 mX11_lot := ⟨Or.inl (am_in3 91 rfl rfl), am_in3 92 rfl rfl, am_in3 93 rfl rfl⟩
set_option maxRecDepth 100000 in
theorem mzX12_lot : am_VS R_law 46 mX12_lot := ⟨Or.inl (am_in7 69 rfl rfl), am_in7 70 rfl rfl, am_in7 71 rfl rfl⟩
theorem lc_6 {L : Nat} {xs : Nat → Int32} {j : Nat} {M : am_I} {N : am_N} (hI : INV M N) (hj : j + 6 < L) (hL : L ≤ 3584) (kk : ∀ M N, INV M N → jl L xs 1253 (lvL (nI j)) [] M N) : jl L xs 416 (lvL (nI j)) [] M N := by
  refine l_aload_n 2 dL_416 rfl ?_
  refine l_arg (k := 1) dL_417 dL_418 dL_419 dL_420 dL_421 (by decide) (by omega) hL ?_
  refine l_inv (ν := mX11_lot) (ci := 10) (nf := 10) (T := TX11) (d' := 0 + 7) (a := (0, 0, 0)) (As := [.inl (xs (j + 1))]) (st := []) dL_422 mzX11_lot mbX11_lot rfl rfl (Nat.le_of_ble_eq_true rfl) (Nat.le_of_ble_eq_true rfl) (by decide) AL_a0 rfl rfl (k_X11_lot (d := 0) AL_d0 AL_d10 AL_d2 (call_lot hI.1)) (fun v M1 N1 hp => ?_)
  obtain ⟨r, hv, hw⟩ := hp
  subst hv
  refine l_aload_n 1 dL_425 rfl ?_
  refine l_arg (k := 1) dL_426 dL_427 dL_428 dL_429 dL_430 (by decide) (by omega) hL ?_
  refine l_inv (ν := mX12_lot) (ci := 11) (nf := 65) (T := TX12) (d' := 0 + 5) (a := (3, 0, 0)) (As := [.inl (xs (j + 1))]) (st := [.inl r]) dL_431 mzX12_lot mbX12_lot rfl rfl (Nat.le_of_ble_eq_true rfl) (Nat.le_of_ble_eq_true rfl) (by decide) AL_a3 rfl rfl (k_X12_lot (d := 0) AL_d3 hw) (fun v M2 N2 hp => ?_)
  obtain ⟨r2, hv, e, F, Wi⟩ := hp
  subst hv
  exact l_icmp_eq (tgt := 1253) dL_434 rfl (fun _ => kk _ _ (hI.fx F Wi)) (fun z => absurd e z)
set_option maxRecDepth 100000 in
theorem mzX11_kind : am_VS R_law 47 mX11_kind := ⟨Or.inl (am_in3 95 rfl rfl), am_in3 96 rfl rfl, am_in3 97 rfl rfl⟩
set_option maxRecDepth 100000 in
theorem mzX12_kind : am_VS R_law 51 mX12_kind := ⟨Or.inl (am_in7 73 rfl rfl), am_in7 74 rfl rfl, am_in7 75 rfl rfl⟩
theorem lc_7 {L : Nat} {xs : Nat → Int32} {j : Nat} {M : am_I} {N : am_N} (hI : INV M N) (hj : j + 6 < L) (hL : L ≤ 3584) (kk : ∀ M N, INV M N → jl L xs 1253 (lvL (nI j)) [] M N) : jl L xs 439 (lvL (nI j)) [] M N := by
  refine l_aload_n 2 dL_439 rfl ?_
  refine l_arg (k := 1) dL_440 dL_441 dL_442 dL_443 dL_444 (by decide) (by omega) hL ?_
  refine l_bool dL_445 dL_448 dL_449 dL_452 rfl rfl ?_
  refine l_arg (k := 2) dL_453 dL_454 dL_455 dL_456 dL_457 (by decide) (by omega) hL ?_
  refine l_arg (k := 3) dL_458 dL_459 dL_460 dL_461 dL_462 (by decide) (by omega) hL ?_
  refine l_arg (k := 4) dL_463 dL_464 dL_465 dL_466 dL_467 (by decide) (by omega) hL ?_
  refine l_arg (k := 5) dL_468 dL_469 dL_470 dL_471 dL_472 (by decide) (by omega) hL ?_
  refine l_arg6 dL_473 dL_474 dL_475 dL_477 dL_478 (by omega) hL ?_
  refine l_inv (ν := mX11_kind) (ci := 10) (nf := 10) (T := TX11) (d' := 0 + 7) (a := (0, 0, 0)) (As := [.inl (bz (xs (j + 1))), .inl (xs (j + 2)), .inl (xs (j + 3)), .inl (xs (j + 4)), .inl (xs (j + 5)), .inl (xs (j + 6))]) (st := []) dL_479 mzX11_kind mbX11_kind rfl rfl (Nat.le_of_ble_eq_true rfl) (Nat.le_of_ble_eq_true rfl) (by decide) AL_a0 rfl rfl (k_X11_kind (d := 0) AL_d0 AL_d10 AL_d2 (call_kind hI.1 bz_01)) (fun v M1 N1 hp => ?_)
  obtain ⟨r, hv, hw⟩ := hp
  subst hv
  refine l_aload_n 1 dL_482 rfl ?_
  refine l_arg (k := 1) dL_483 dL_484 dL_485 dL_486 dL_487 (by decide) (by omega) hL ?_
  refine l_bool dL_488 dL_491 dL_492 dL_495 rfl rfl ?_
  refine l_arg (k := 2) dL_496 dL_497 dL_498 dL_499 dL_500 (by decide) (by omega) hL ?_
  refine l_arg (k := 3) dL_501 dL_502 dL_503 dL_504 dL_505 (by decide) (by omega) hL ?_
  refine l_arg (k := 4) dL_506 dL_507 dL_508 dL_509 dL_510 (by decide) (by omega) hL ?_
  refine l_arg (k := 5) dL_511 dL_512 dL_513 dL_514 dL_515 (by decide) (by omega) hL ?_
  refine l_arg6 dL_516 dL_517 dL_518 dL_520 dL_521 (by omega) hL ?_
  refine l_inv (ν := mX12_kind) (ci := 11) (nf := 65) (T := TX12) (d' := 0 + 5) (a := (3, 0, 0)) (As := [.inl (bz (xs (j + 1))), .inl (xs (j + 2)), .inl (xs (j + 3)), .inl (xs (j + 4)), .inl (xs (j + 5)), .inl (xs (j + 6))]) (st := [.inl r]) dL_522 mzX12_kind mbX12_kind rfl rfl (Nat.le_of_ble_eq_true rfl) (Nat.le_of_ble_eq_true rfl) (by decide) AL_a3 rfl rfl (k_X12_kind (d := 0) AL_d3 hw) (fun v M2 N2 hp => ?_)
  obtain ⟨r2, hv, e, F, Wi⟩ := hp
  subst hv
  exact l_icmp_eq (tgt := 1253) dL_525 rfl (fun _ => kk _ _ (hI.fx F Wi)) (fun z => absurd e z)
set_option maxRecDepth 100000 in
theorem mzX11_plant : am_VS R_law 52 mX11_plant := ⟨Or.inl (am_in3 102 rfl rfl), am_in3 103 rfl rfl, am_in3 104 rfl rfl⟩
set_option maxRecDepth 100000 in
theorem mzX12_plant : am_VS R_law 55 mX12_plant := ⟨Or.inl (am_in7 77 rfl rfl), am_in7 78 rfl rfl, am_in7 79 rfl rfl⟩
theorem lc_8 {L : Nat} {xs : Nat → Int32} {j : Nat} {M : am_I} {N : am_N} (hI : INV M N) (hj : j + 6 < L) (hL : L ≤ 3584) (kk : ∀ M N, INV M N → jl L xs 1253 (lvL (nI j)) [] M N) : jl L xs 530 (lvL (nI j)) [] M N := by
  refine l_aload_n 2 dL_530 rfl ?_
  refine l_arg (k := 1) dL_531 dL_532 dL_533 dL_534 dL_535 (by decide) (by omega) hL ?_
  refine l_inv (ν := mX11_plant) (ci := 10) (nf := 10) (T := TX11) (d' := 0 + 7) (a := (0, 0, 0)) (As := [.inl (xs (j + 1))]) (st := []) dL_536 mzX11_plant mbX11_plant rfl rfl (Nat.le_of_ble_eq_true rfl) (Nat.le_of_ble_eq_true rfl) (by decide) AL_a0 rfl rfl (k_X11_plant (d := 0) AL_d0 AL_d10 AL_d2 (call_plant hI.1)) (fun v M1 N1 hp => ?_)
  obtain ⟨r, hv, hw⟩ := hp
  subst hv
  refine l_aload_n 1 dL_539 rfl ?_
  refine l_arg (k := 1) dL_540 dL_541 dL_542 dL_543 dL_544 (by decide) (by omega) hL ?_
  refine l_inv (ν := mX12_plant) (ci := 11) (nf := 65) (T := TX12) (d' := 0 + 5) (a := (3, 0, 0)) (As := [.inl (xs (j + 1))]) (st := [.inl r]) dL_545 mzX12_plant mbX12_plant rfl rfl (Nat.le_of_ble_eq_true rfl) (Nat.le_of_ble_eq_true rfl) (by decide) AL_a3 rfl rfl (k_X12_plant (d := 0) AL_d3 hw) (fun v M2 N2 hp => ?_)
  obtain ⟨r2, hv, e, F, Wi⟩ := hp
  subst hv
  exact l_icmp_eq (tgt := 1253) dL_548 rfl (fun _ => kk _ _ (hI.fx F Wi)) (fun z => absurd e z)
set_option maxRecDepth 100000 in
theorem mzX11_show : am_VS R_law 56 mX11_show := ⟨Or.inl (am_in3 107 rfl rfl), am_in3 108 rfl rfl, am_in3 109 rfl rfl⟩
set_option maxRecDepth 100000 in
theorem mzX12_show : am_VS R_law 59 mX12_show := ⟨Or.inl (am_in7 85 rfl rfl), am_in7 86 rfl rfl, am_in7 87 rfl rfl⟩
theorem lc_9 {L : Nat} {xs : Nat → Int32} {j : Nat} {M : am_I} {N : am_N} (hI : INV M N) (hj : j + 6 < L) (hL : L ≤ 3584) (kk : ∀ M N, INV M N → jl L xs 1253 (lvL (nI j)) [] M N) : jl L xs 553 (lvL (nI j)) [] M N := by
  refine l_aload_n 2 dL_553 rfl ?_
  refine l_arg (k := 1) dL_554 dL_555 dL_556 dL_557 dL_558 (by decide) (by omega) hL ?_
  refine l_arg (k := 2) dL_559 dL_560 dL_561 dL_562 dL_563 (by decide) (by omega) hL ?_
  refine l_inv (ν := mX11_show) (ci := 10) (nf := 10) (T := TX11) (d' := 0 + 7) (a := (0, 0, 0)) (As := [.inl (xs (j + 1)), .inl (xs (j + 2))]) (st := []) dL_564 mzX11_show mbX11_show rfl rfl (Nat.le_of_ble_eq_true rfl) (Nat.le_of_ble_eq_true rfl) (by decide) AL_a0 rfl rfl (k_X11_show (d := 0) AL_d0 AL_d10 AL_d2 (call_show hI.1)) (fun v M1 N1 hp => ?_)
  obtain ⟨r, hv, hw⟩ := hp
  subst hv
  refine l_aload_n 1 dL_567 rfl ?_
  refine l_arg (k := 1) dL_568 dL_569 dL_570 dL_571 dL_572 (by decide) (by omega) hL ?_
  refine l_arg (k := 2) dL_573 dL_574 dL_575 dL_576 dL_577 (by decide) (by omega) hL ?_
  refine l_inv (ν := mX12_show) (ci := 11) (nf := 65) (T := TX12) (d' := 0 + 5) (a := (3, 0, 0)) (As := [.inl (xs (j + 1)), .inl (xs (j + 2))]) (st := [.inl r]) dL_578 mzX12_show mbX12_show rfl rfl (Nat.le_of_ble_eq_true rfl) (Nat.le_of_ble_eq_true rfl) (by decide) AL_a3 rfl rfl (k_X12_show (d := 0) AL_d3 hw) (fun v M2 N2 hp => ?_)
  obtain ⟨r2, hv, e, F, Wi⟩ := hp
  subst hv
  exact l_icmp_eq (tgt := 1253) dL_581 rfl (fun _ => kk _ _ (hI.fx F Wi)) (fun z => absurd e z)
set_option maxRecDepth 100000 in
theorem mzX11_look : am_VS R_law 60 mX11_look := ⟨Or.inl (am_in3 114 rfl rfl), am_in3 115 rfl rfl, am_in3 116 rfl rfl⟩
set_option maxRecDepth 100000 in
theorem mzX12_look : am_VS R_law 63 mX12_look := ⟨Or.inl (am_in7 89 rfl rfl), am_in7 90 rfl rfl, am_in7 91 rfl rfl⟩
theorem lc_10 {L : Nat} {xs : Nat → Int32} {j : Nat} {M : am_I} {N : am_N} (hI : INV M N) (hj : j + 6 < L) (hL : L ≤ 3584) (kk : ∀ M N, INV M N → jl L xs 1253 (lvL (nI j)) [] M N) : jl L xs 586 (lvL (nI j)) [] M N := by
  refine l_aload_n 2 dL_586 rfl ?_
  refine l_arg (k := 1) dL_587 dL_588 dL_589 dL_590 dL_591 (by decide) (by omega) hL ?_
  refine l_arg (k := 2) dL_592 dL_593 dL_594 dL_595 dL_596 (by decide) (by omega) hL ?_
  refine l_inv (ν := mX11_look) (ci := 10) (nf := 10) (T := TX11) (d' := 0 + 7) (a := (0, 0, 0)) (As := [.inl (xs (j + 1)), .inl (xs (j + 2))]) (st := []) dL_597 mzX11_look mbX11_look rfl rfl (Nat.le_of_ble_eq_true rfl) (Nat.le_of_ble_eq_true rfl) (by decide) AL_a0 rfl rfl (k_X11_look (d := 0) AL_d0 AL_d10 AL_d2 (call_look hI.1)) (fun v M1 N1 hp => ?_)
  obtain ⟨r, hv, hw⟩ := hp
  subst hv
  refine l_aload_n 1 dL_600 rfl ?_
  refine l_arg (k := 1) dL_601 dL_602 dL_603 dL_604 dL_605 (by decide) (by omega) hL ?_
  refine l_arg (k := 2) dL_606 dL_607 dL_608 dL_609 dL_610 (by decide) (by omega) hL ?_
  refine l_inv (ν := mX12_look) (ci := 11) (nf := 65) (T := TX12) (d' := 0 + 5) (a := (3, 0, 0)) (As := [.inl (xs (j + 1)), .inl (xs (j + 2))]) (st := [.inl r]) dL_611 mzX12_look mbX12_look rfl rfl (Nat.le_of_ble_eq_true rfl) (Nat.le_of_ble_eq_true rfl) (by decide) AL_a3 rfl rfl (k_X12_look (d := 0) AL_d3 hw) (fun v M2 N2 hp => ?_)
  obtain ⟨r2, hv, e, F, Wi⟩ := hp
  subst hv
  exact l_icmp_eq (tgt := 1253) dL_614 rfl (fun _ => kk _ _ (hI.fx F Wi)) (fun z => absurd e z)
set_option maxRecDepth 100000 in
theorem mzX11_ill : am_VS R_law 64 mX11_ill := ⟨Or.inl (am_in3 118 rfl rfl), am_in3 119 rfl rfl, am_in3 120 rfl rfl⟩
set_option maxRecDepth 100000 in
theorem mzX12_ill : am_VS R_law 68 mX12_ill := ⟨Or.inl (am_in7 93 rfl rfl), am_in7 94 rfl rfl, am_in7 95 rfl rfl⟩
theorem lc_11 {L : Nat} {xs : Nat → Int32} {j : Nat} {M : am_I} {N : am_N} (hI : INV M N) (hj : j + 6 < L) (hL : L ≤ 3584) (kk : ∀ M N, INV M N → jl L xs 1253 (lvL (nI j)) [] M N) : jl L xs 619 (lvL (nI j)) [] M N := by
  refine l_aload_n 2 dL_619 rfl ?_
  refine l_arg (k := 1) dL_620 dL_621 dL_622 dL_623 dL_624 (by decide) (by omega) hL ?_
  refine l_arg (k := 2) dL_625 dL_626 dL_627 dL_628 dL_629 (by decide) (by omega) hL ?_
  refine l_bool dL_630 dL_633 dL_634 dL_637 rfl rfl ?_
  refine l_inv (ν := mX11_ill) (ci := 10) (nf := 10) (T := TX11) (d' := 0 + 7) (a := (0, 0, 0)) (As := [.inl (xs (j + 1)), .inl (bz (xs (j + 2)))]) (st := []) dL_638 mzX11_ill mbX11_ill rfl rfl (Nat.le_of_ble_eq_true rfl) (Nat.le_of_ble_eq_true rfl) (by decide) AL_a0 rfl rfl (k_X11_ill (d := 0) AL_d0 AL_d10 AL_d2 (call_ill hI.1 bz_01)) (fun v M1 N1 hp => ?_)
  obtain ⟨r, hv, hw⟩ := hp
  subst hv
  refine l_aload_n 1 dL_641 rfl ?_
  refine l_arg (k := 1) dL_642 dL_643 dL_644 dL_645 dL_646 (by decide) (by omega) hL ?_
  refine l_arg (k := 2) dL_647 dL_648 dL_649 dL_650 dL_651 (by decide) (by omega) hL ?_
  refine l_bool dL_652 dL_655 dL_656 dL_659 rfl rfl ?_
  refine l_inv (ν := mX12_ill) (ci := 11) (nf := 65) (T := TX12) (d' := 0 + 5) (a := (3, 0, 0)) (As := [.inl (xs (j + 1)), .inl (bz (xs (j + 2)))]) (st := [.inl r]) dL_660 mzX12_ill mbX12_ill rfl rfl (Nat.le_of_ble_eq_true rfl) (Nat.le_of_ble_eq_true rfl) (by decide) AL_a3 rfl rfl (k_X12_ill (d := 0) AL_d3 hw) (fun v M2 N2 hp => ?_)
  obtain ⟨r2, hv, e, F, Wi⟩ := hp
  subst hv
  exact l_icmp_eq (tgt := 1253) dL_663 rfl (fun _ => kk _ _ (hI.fx F Wi)) (fun z => absurd e z)
set_option maxRecDepth 100000 in
theorem mzX11_pass : am_VS R_law 69 mX11_pass := ⟨Or.inl (am_in3 126 rfl rfl), am_in3 127 rfl rfl, am_in3 128 rfl rfl⟩
set_option maxRecDepth 100000 in
theorem mzX12_pass : am_VS R_law 72 mX12_pass := ⟨Or.inl (am_in7 133 rfl rfl), am_in7 134 rfl rfl, am_in7 135 rfl rfl⟩
theorem lc_12 {L : Nat} {xs : Nat → Int32} {j : Nat} {M : am_I} {N : am_N} (hI : INV M N) (hj : j + 6 < L) (hL : L ≤ 3584) (kk : ∀ M N, INV M N → jl L xs 1253 (lvL (nI j)) [] M N) : jl L xs 668 (lvL (nI j)) [] M N := by
  refine l_aload_n 2 dL_668 rfl ?_
  refine l_arg (k := 1) dL_669 dL_670 dL_671 dL_672 dL_673 (by decide) (by omega) hL ?_
  refine l_inv (ν := mX11_pass) (ci := 10) (nf := 10) (T := TX11) (d' := 0 + 8) (a := (0, 0, 0)) (As := [.inl (xs (j + 1))]) (st := []) dL_674 mzX11_pass mbX11_pass rfl rfl (Nat.le_of_ble_eq_true rfl) (Nat.le_of_ble_eq_true rfl) (by decide) AL_a0 rfl rfl (k_X11_pass (d := 0) AL_d0 AL_d10 AL_d2 (call_pass hI.1)) (fun v M1 N1 hp => ?_)
  obtain ⟨r, hv, hw⟩ := hp
  subst hv
  refine l_aload_n 1 dL_677 rfl ?_
  refine l_arg (k := 1) dL_678 dL_679 dL_680 dL_681 dL_682 (by decide) (by omega) hL ?_
  refine l_inv (ν := mX12_pass) (ci := 11) (nf := 65) (T := TX12) (d' := 0 + 8) (a := (3, 0, 0)) (As := [.inl (xs (j + 1))]) (st := [.inl r]) dL_683 mzX12_pass mbX12_pass rfl rfl (Nat.le_of_ble_eq_true rfl) (Nat.le_of_ble_eq_true rfl) (by decide) AL_a3 rfl rfl (k_X12_pass (d := 0) AL_d3 hw) (fun v M2 N2 hp => ?_)
  obtain ⟨r2, hv, e, F, Wi⟩ := hp
  subst hv
  exact l_icmp_eq (tgt := 1253) dL_686 rfl (fun _ => kk _ _ (hI.fx F Wi)) (fun z => absurd e z)
set_option maxRecDepth 100000 in
theorem mzX11_cell : am_VS R_law 73 mX11_cell := ⟨Or.inl (am_in4 81 rfl rfl), am_in4 82 rfl rfl, am_in4 83 rfl rfl⟩
set_option maxRecDepth 100000 in
theorem mzX12_cell : am_VS R_law 77 mX12_cell := ⟨Or.inl (am_in7 202 rfl rfl), am_in7 203 rfl rfl, am_in7 204 rfl rfl⟩
theorem lc_13 {L : Nat} {xs : Nat → Int32} {j : Nat} {M : am_I} {N : am_N} (hI : INV M N) (hj : j + 6 < L) (hL : L ≤ 3584) (kk : ∀ M N, INV M N → jl L xs 1253 (lvL (nI j)) [] M N) : jl L xs 691 (lvL (nI j)) [] M N := by
  refine l_aload_n 2 dL_691 rfl ?_
  refine l_arg (k := 1) dL_692 dL_693 dL_694 dL_695 dL_696 (by decide) (by omega) hL ?_
  refine l_arg (k := 2) dL_697 dL_698 dL_699 dL_700 dL_701 (by decide) (by omega) hL ?_
  refine l_inv (ν := mX11_cell) (ci := 10) (nf := 10) (T := TX11) (d' := 0 + 5) (a := (0, 0, 0)) (As := [.inl (xs (j + 1)), .inl (xs (j + 2))]) (st := []) dL_702 mzX11_cell mbX11_cell rfl rfl (Nat.le_of_ble_eq_true rfl) (Nat.le_of_ble_eq_true rfl) (by decide) AL_a0 rfl rfl (k_X11_cell (d := 0) AL_d0 AL_d10 AL_d2 (call_cell hI.1)) (fun v M1 N1 hp => ?_)
  obtain ⟨r, hv, hw⟩ := hp
  subst hv
  refine l_aload_n 1 dL_705 rfl ?_
  refine l_arg (k := 1) dL_706 dL_707 dL_708 dL_709 dL_710 (by decide) (by omega) hL ?_
  refine l_arg (k := 2) dL_711 dL_712 dL_713 dL_714 dL_715 (by decide) (by omega) hL ?_
  refine l_inv (ν := mX12_cell) (ci := 11) (nf := 65) (T := TX12) (d' := 0 + 3) (a := (3, 0, 0)) (As := [.inl (xs (j + 1)), .inl (xs (j + 2))]) (st := [.inl r]) dL_716 mzX12_cell mbX12_cell rfl rfl (Nat.le_of_ble_eq_true rfl) (Nat.le_of_ble_eq_true rfl) (by decide) AL_a3 rfl rfl (k_X12_cell (d := 0) AL_d3 hw) (fun v M2 N2 hp => ?_)
  obtain ⟨r2, hv, e, F, Wi⟩ := hp
  subst hv
  exact l_icmp_eq (tgt := 1253) dL_719 rfl (fun _ => kk _ _ (hI.fx F Wi)) (fun z => absurd e z)
set_option maxRecDepth 100000 in
theorem mzX11_share : am_VS R_law 78 mX11_share := ⟨Or.inl (am_in4 100 rfl rfl), am_in4 101 rfl rfl, am_in4 102 rfl rfl⟩
set_option maxRecDepth 100000 in
theorem mzX12_share : am_VS R_law 81 mX12_share := ⟨Or.inl (am_in7 215 rfl rfl), am_in7 216 rfl rfl, am_in7 217 rfl rfl⟩
theorem lc_14 {L : Nat} {xs : Nat → Int32} {j : Nat} {M : am_I} {N : am_N} (hI : INV M N) (hj : j + 6 < L) (hL : L ≤ 3584) (kk : ∀ M N, INV M N → jl L xs 1253 (lvL (nI j)) [] M N) : jl L xs 724 (lvL (nI j)) [] M N := by
  refine l_aload_n 2 dL_724 rfl ?_
  refine l_arg (k := 1) dL_725 dL_726 dL_727 dL_728 dL_729 (by decide) (by omega) hL ?_
  refine l_arg (k := 2) dL_730 dL_731 dL_732 dL_733 dL_734 (by decide) (by omega) hL ?_
  refine l_inv (ν := mX11_share) (ci := 10) (nf := 10) (T := TX11) (d' := 0 + 3) (a := (0, 0, 0)) (As := [.inl (xs (j + 1)), .inl (xs (j + 2))]) (st := []) dL_735 mzX11_share mbX11_share rfl rfl (Nat.le_of_ble_eq_true rfl) (Nat.le_of_ble_eq_true rfl) (by decide) AL_a0 rfl rfl (k_X11_share (d := 0) AL_d0 AL_d10 AL_d2 (call_share hI.1)) (fun v M1 N1 hp => ?_)
  obtain ⟨r, hv, hw⟩ := hp
  subst hv
  refine l_aload_n 1 dL_738 rfl ?_
  refine l_arg (k := 1) dL_739 dL_740 dL_741 dL_742 dL_743 (by decide) (by omega) hL ?_
  refine l_arg (k := 2) dL_744 dL_745 dL_746 dL_747 dL_748 (by decide) (by omega) hL ?_
  refine l_inv (ν := mX12_share) (ci := 11) (nf := 65) (T := TX12) (d' := 0 + 4) (a := (3, 0, 0)) (As := [.inl (xs (j + 1)), .inl (xs (j + 2))]) (st := [.inl r]) dL_749 mzX12_share mbX12_share rfl rfl (Nat.le_of_ble_eq_true rfl) (Nat.le_of_ble_eq_true rfl) (by decide) AL_a3 rfl rfl (k_X12_share (d := 0) AL_d3 hw) (fun v M2 N2 hp => ?_)
  obtain ⟨r2, hv, e, F, Wi⟩ := hp
  subst hv
  exact l_icmp_eq (tgt := 1253) dL_752 rfl (fun _ => kk _ _ (hI.fx F Wi)) (fun z => absurd e z)
set_option maxRecDepth 100000 in
theorem mzX11_told : am_VS R_law 82 mX11_told := ⟨Or.inl (am_in4 105 rfl rfl), am_in4 106 rfl rfl, am_in4 107 rfl rfl⟩
set_option maxRecDepth 100000 in
theorem mzX12_told : am_VS R_law 85 mX12_told := ⟨Or.inl (am_in7 219 rfl rfl), am_in7 220 rfl rfl, am_in7 221 rfl rfl⟩
theorem lc_15 {L : Nat} {xs : Nat → Int32} {j : Nat} {M : am_I} {N : am_N} (hI : INV M N) (hj : j + 6 < L) (hL : L ≤ 3584) (kk : ∀ M N, INV M N → jl L xs 1253 (lvL (nI j)) [] M N) : jl L xs 757 (lvL (nI j)) [] M N := by
  refine l_aload_n 2 dL_757 rfl ?_
  refine l_arg (k := 1) dL_758 dL_759 dL_760 dL_761 dL_762 (by decide) (by omega) hL ?_
  refine l_arg (k := 2) dL_763 dL_764 dL_765 dL_766 dL_767 (by decide) (by omega) hL ?_
  refine l_inv (ν := mX11_told) (ci := 10) (nf := 10) (T := TX11) (d' := 0 + 3) (a := (0, 0, 0)) (As := [.inl (xs (j + 1)), .inl (xs (j + 2))]) (st := []) dL_768 mzX11_told mbX11_told rfl rfl (Nat.le_of_ble_eq_true rfl) (Nat.le_of_ble_eq_true rfl) (by decide) AL_a0 rfl rfl (k_X11_told (d := 0) AL_d0 AL_d10 AL_d2 (call_told hI.1)) (fun v M1 N1 hp => ?_)
  obtain ⟨r, hv, hw⟩ := hp
  subst hv
  refine l_aload_n 1 dL_771 rfl ?_
  refine l_arg (k := 1) dL_772 dL_773 dL_774 dL_775 dL_776 (by decide) (by omega) hL ?_
  refine l_arg (k := 2) dL_777 dL_778 dL_779 dL_780 dL_781 (by decide) (by omega) hL ?_
  refine l_inv (ν := mX12_told) (ci := 11) (nf := 65) (T := TX12) (d' := 0 + 3) (a := (3, 0, 0)) (As := [.inl (xs (j + 1)), .inl (xs (j + 2))]) (st := [.inl r]) dL_782 mzX12_told mbX12_told rfl rfl (Nat.le_of_ble_eq_true rfl) (Nat.le_of_ble_eq_true rfl) (by decide) AL_a3 rfl rfl (k_X12_told (d := 0) AL_d3 hw) (fun v M2 N2 hp => ?_)
  obtain ⟨r2, hv, e, F, Wi⟩ := hp
  subst hv
  exact l_icmp_eq (tgt := 1253) dL_785 rfl (fun _ => kk _ _ (hI.fx F Wi)) (fun z => absurd e z)
set_option maxRecDepth 100000 in
theorem mzX11_job : am_VS R_law 86 mX11_job := ⟨Or.inl (am_in4 120 rfl rfl), am_in4 121 rfl rfl, am_in4 122 rfl rfl⟩
set_option maxRecDepth 100000 in
theorem mzX12_job : am_VS R_law 89 mX12_job := ⟨Or.inl (am_in7 223 rfl rfl), am_in7 224 rfl rfl, am_in7 225 rfl rfl⟩
theorem lc_16 {L : Nat} {xs : Nat → Int32} {j : Nat} {M : am_I} {N : am_N} (hI : INV M N) (hj : j + 6 < L) (hL : L ≤ 3584) (kk : ∀ M N, INV M N → jl L xs 1253 (lvL (nI j)) [] M N) : jl L xs 790 (lvL (nI j)) [] M N := by
  refine l_aload_n 2 dL_790 rfl ?_
  refine l_arg (k := 1) dL_791 dL_792 dL_793 dL_794 dL_795 (by decide) (by omega) hL ?_
  refine l_arg (k := 2) dL_796 dL_797 dL_798 dL_799 dL_800 (by decide) (by omega) hL ?_
  refine l_inv (ν := mX11_job) (ci := 10) (nf := 10) (T := TX11) (d' := 0 + 3) (a := (0, 0, 0)) (As := [.inl (xs (j + 1)), .inl (xs (j + 2))]) (st := []) dL_801 mzX11_job mbX11_job rfl rfl (Nat.le_of_ble_eq_true rfl) (Nat.le_of_ble_eq_true rfl) (by decide) AL_a0 rfl rfl (k_X11_job (d := 0) AL_d0 AL_d10 AL_d2 (call_job hI.1)) (fun v M1 N1 hp => ?_)
  obtain ⟨r, hv, hw⟩ := hp
  subst hv
  refine l_aload_n 1 dL_804 rfl ?_
  refine l_arg (k := 1) dL_805 dL_806 dL_807 dL_808 dL_809 (by decide) (by omega) hL ?_
  refine l_arg (k := 2) dL_810 dL_811 dL_812 dL_813 dL_814 (by decide) (by omega) hL ?_
  refine l_inv (ν := mX12_job) (ci := 11) (nf := 65) (T := TX12) (d' := 0 + 2) (a := (3, 0, 0)) (As := [.inl (xs (j + 1)), .inl (xs (j + 2))]) (st := [.inl r]) dL_815 mzX12_job mbX12_job rfl rfl (Nat.le_of_ble_eq_true rfl) (Nat.le_of_ble_eq_true rfl) (by decide) AL_a3 rfl rfl (k_X12_job (d := 0) AL_d3 hw) (fun v M2 N2 hp => ?_)
  obtain ⟨r2, hv, e, F, Wi⟩ := hp
  subst hv
  exact l_icmp_eq (tgt := 1253) dL_818 rfl (fun _ => kk _ _ (hI.fx F Wi)) (fun z => absurd e z)
set_option maxRecDepth 100000 in
theorem mzX11_way : am_VS R_law 90 mX11_way := ⟨Or.inl (am_in4 133 rfl rfl), am_in4 134 rfl rfl, am_in4 135 rfl rfl⟩
set_option maxRecDepth 100000 in
theorem mzX12_way : am_VS R_law 93 mX12_way := ⟨Or.inl (am_in7 100 rfl rfl), am_in7 101 rfl rfl, am_in7 102 rfl rfl⟩
theorem lc_17 {L : Nat} {xs : Nat → Int32} {j : Nat} {M : am_I} {N : am_N} (hI : INV M N) (hj : j + 6 < L) (hL : L ≤ 3584) (kk : ∀ M N, INV M N → jl L xs 1253 (lvL (nI j)) [] M N) : jl L xs 823 (lvL (nI j)) [] M N := by
  refine l_aload_n 2 dL_823 rfl ?_
  refine l_arg (k := 1) dL_824 dL_825 dL_826 dL_827 dL_828 (by decide) (by omega) hL ?_
  refine l_arg (k := 2) dL_829 dL_830 dL_831 dL_832 dL_833 (by decide) (by omega) hL ?_
  refine l_arg (k := 3) dL_834 dL_835 dL_836 dL_837 dL_838 (by decide) (by omega) hL ?_
  refine l_inv (ν := mX11_way) (ci := 10) (nf := 10) (T := TX11) (d' := 0 + 4) (a := (0, 0, 0)) (As := [.inl (xs (j + 1)), .inl (xs (j + 2)), .inl (xs (j + 3))]) (st := []) dL_839 mzX11_way mbX11_way rfl rfl (Nat.le_of_ble_eq_true rfl) (Nat.le_of_ble_eq_true rfl) (by decide) AL_a0 rfl rfl (k_X11_way (d := 0) AL_d0 AL_d10 AL_d2 (call_way hI.1)) (fun v M1 N1 hp => ?_)
  obtain ⟨r, hv, hw⟩ := hp
  subst hv
  refine l_aload_n 1 dL_842 rfl ?_
  refine l_arg (k := 1) dL_843 dL_844 dL_845 dL_846 dL_847 (by decide) (by omega) hL ?_
  refine l_arg (k := 2) dL_848 dL_849 dL_850 dL_851 dL_852 (by decide) (by omega) hL ?_
  refine l_arg (k := 3) dL_853 dL_854 dL_855 dL_856 dL_857 (by decide) (by omega) hL ?_
  refine l_inv (ν := mX12_way) (ci := 11) (nf := 65) (T := TX12) (d' := 0 + 5) (a := (3, 0, 0)) (As := [.inl (xs (j + 1)), .inl (xs (j + 2)), .inl (xs (j + 3))]) (st := [.inl r]) dL_858 mzX12_way mbX12_way rfl rfl (Nat.le_of_ble_eq_true rfl) (Nat.le_of_ble_eq_true rfl) (by decide) AL_a3 rfl rfl (k_X12_way (d := 0) AL_d3 hw) (fun v M2 N2 hp => ?_)
  obtain ⟨r2, hv, e, F, Wi⟩ := hp
  subst hv
  exact l_icmp_eq (tgt := 1253) dL_861 rfl (fun _ => kk _ _ (hI.fx F Wi)) (fun z => absurd e z)
set_option maxRecDepth 100000 in
theorem mzX11_water : am_VS R_law 94 mX11_water := ⟨Or.inl (am_in4 145 rfl rfl), am_in4 146 rfl rfl, am_in4 147 rfl rfl⟩
set_option maxRecDepth 100000 in
theorem mzX12_water : am_VS R_law 98 mX12_water := ⟨Or.inl (am_in7 227 rfl rfl), am_in7 228 rfl rfl, am_in7 229 rfl rfl⟩
theorem lc_18 {L : Nat} {xs : Nat → Int32} {j : Nat} {M : am_I} {N : am_N} (hI : INV M N) (hj : j + 6 < L) (hL : L ≤ 3584) (kk : ∀ M N, INV M N → jl L xs 1253 (lvL (nI j)) [] M N) : jl L xs 866 (lvL (nI j)) [] M N := by
  refine l_aload_n 2 dL_866 rfl ?_
  refine l_arg (k := 1) dL_867 dL_868 dL_869 dL_870 dL_871 (by decide) (by omega) hL ?_
  refine l_inv (ν := mX11_water) (ci := 10) (nf := 10) (T := TX11) (d' := 0 + 2) (a := (0, 0, 0)) (As := [.inl (xs (j + 1))]) (st := []) dL_872 mzX11_water mbX11_water rfl rfl (Nat.le_of_ble_eq_true rfl) (Nat.le_of_ble_eq_true rfl) (by decide) AL_a0 rfl rfl (k_X11_water (d := 0) AL_d0 AL_d10 (call_water hI.1)) (fun v M1 N1 hp => ?_)
  obtain ⟨r, hv, hw⟩ := hp
  subst hv
  refine l_aload_n 1 dL_875 rfl ?_
  refine l_arg (k := 1) dL_876 dL_877 dL_878 dL_879 dL_880 (by decide) (by omega) hL ?_
  refine l_inv (ν := mX12_water) (ci := 11) (nf := 65) (T := TX12) (d' := 0 + 1) (a := (3, 0, 0)) (As := [.inl (xs (j + 1))]) (st := [.inr (.inl r)]) dL_881 mzX12_water mbX12_water rfl rfl (Nat.le_of_ble_eq_true rfl) (Nat.le_of_ble_eq_true rfl) (by decide) AL_a3 rfl rfl (k_X12_water (d := 0) AL_d3 hw) (fun v M2 N2 hp => ?_)
  obtain ⟨r2, hv, e, F, Wi⟩ := hp
  subst hv
  exact l_lcmp_eq (tgt := 1253) dL_884 dL_885 rfl (fun _ => kk _ _ (hI.fx F Wi)) (fun z => absurd e z)
set_option maxRecDepth 100000 in
theorem mzX11_spot : am_VS R_law 99 mX11_spot := ⟨Or.inl (am_in4 154 rfl rfl), am_in4 155 rfl rfl, am_in4 156 rfl rfl⟩
set_option maxRecDepth 100000 in
theorem mzX12_spot : am_VS R_law 102 mX12_spot := ⟨Or.inl (am_in7 232 rfl rfl), am_in7 233 rfl rfl, am_in7 234 rfl rfl⟩
theorem lc_19 {L : Nat} {xs : Nat → Int32} {j : Nat} {M : am_I} {N : am_N} (hI : INV M N) (hj : j + 6 < L) (hL : L ≤ 3584) (kk : ∀ M N, INV M N → jl L xs 1253 (lvL (nI j)) [] M N) : jl L xs 890 (lvL (nI j)) [] M N := by
  refine l_aload_n 2 dL_890 rfl ?_
  refine l_arg (k := 1) dL_891 dL_892 dL_893 dL_894 dL_895 (by decide) (by omega) hL ?_
  refine l_arg (k := 2) dL_896 dL_897 dL_898 dL_899 dL_900 (by decide) (by omega) hL ?_
  refine l_inv (ν := mX11_spot) (ci := 10) (nf := 10) (T := TX11) (d' := 0 + 4) (a := (0, 0, 0)) (As := [.inl (xs (j + 1)), .inl (xs (j + 2))]) (st := []) dL_901 mzX11_spot mbX11_spot rfl rfl (Nat.le_of_ble_eq_true rfl) (Nat.le_of_ble_eq_true rfl) (by decide) AL_a0 rfl rfl (k_X11_spot (d := 0) AL_d0 AL_d10 (call_spot hI.1)) (fun v M1 N1 hp => ?_)
  obtain ⟨r, hv, hw⟩ := hp
  subst hv
  refine l_aload_n 1 dL_904 rfl ?_
  refine l_arg (k := 1) dL_905 dL_906 dL_907 dL_908 dL_909 (by decide) (by omega) hL ?_
  refine l_arg (k := 2) dL_910 dL_911 dL_912 dL_913 dL_914 (by decide) (by omega) hL ?_
  refine l_inv (ν := mX12_spot) (ci := 11) (nf := 65) (T := TX12) (d' := 0 + 4) (a := (3, 0, 0)) (As := [.inl (xs (j + 1)), .inl (xs (j + 2))]) (st := [.inl r]) dL_915 mzX12_spot mbX12_spot rfl rfl (Nat.le_of_ble_eq_true rfl) (Nat.le_of_ble_eq_true rfl) (by decide) AL_a3 rfl rfl (k_X12_spot (d := 0) AL_d3 hw) (fun v M2 N2 hp => ?_)
  obtain ⟨r2, hv, e, F, Wi⟩ := hp
  subst hv
  exact l_icmp_eq (tgt := 1253) dL_918 rfl (fun _ => kk _ _ (hI.fx F Wi)) (fun z => absurd e z)
set_option maxRecDepth 100000 in
theorem mzX11_pull : am_VS R_law 103 mX11_pull := ⟨Or.inl (am_in4 171 rfl rfl), am_in4 172 rfl rfl, am_in4 173 rfl rfl⟩
set_option maxRecDepth 100000 in
theorem mzX12_pull : am_VS R_law 106 mX12_pull := ⟨Or.inl (am_in8 8 rfl rfl), am_in8 9 rfl rfl, am_in8 10 rfl rfl⟩
theorem lc_20 {L : Nat} {xs : Nat → Int32} {j : Nat} {M : am_I} {N : am_N} (hI : INV M N) (hj : j + 6 < L) (hL : L ≤ 3584) (kk : ∀ M N, INV M N → jl L xs 1253 (lvL (nI j)) [] M N) : jl L xs 923 (lvL (nI j)) [] M N := by
  refine l_aload_n 2 dL_923 rfl ?_
  refine l_arg (k := 1) dL_924 dL_925 dL_926 dL_927 dL_928 (by decide) (by omega) hL ?_
  refine l_arg (k := 2) dL_929 dL_930 dL_931 dL_932 dL_933 (by decide) (by omega) hL ?_
  refine l_arg (k := 3) dL_934 dL_935 dL_936 dL_937 dL_938 (by decide) (by omega) hL ?_
  refine l_inv (ν := mX11_pull) (ci := 10) (nf := 10) (T := TX11) (d' := 0 + 5) (a := (0, 0, 0)) (As := [.inl (xs (j + 1)), .inl (xs (j + 2)), .inl (xs (j + 3))]) (st := []) dL_939 mzX11_pull mbX11_pull rfl rfl (Nat.le_of_ble_eq_true rfl) (Nat.le_of_ble_eq_true rfl) (by decide) AL_a0 rfl rfl (k_X11_pull (d := 0) AL_d0 AL_d10 (call_pull hI.1)) (fun v M1 N1 hp => ?_)
  obtain ⟨r, hv, hw⟩ := hp
  subst hv
  refine l_aload_n 1 dL_942 rfl ?_
  refine l_arg (k := 1) dL_943 dL_944 dL_945 dL_946 dL_947 (by decide) (by omega) hL ?_
  refine l_arg (k := 2) dL_948 dL_949 dL_950 dL_951 dL_952 (by decide) (by omega) hL ?_
  refine l_arg (k := 3) dL_953 dL_954 dL_955 dL_956 dL_957 (by decide) (by omega) hL ?_
  refine l_inv (ν := mX12_pull) (ci := 11) (nf := 65) (T := TX12) (d' := 0 + 4) (a := (3, 0, 0)) (As := [.inl (xs (j + 1)), .inl (xs (j + 2)), .inl (xs (j + 3))]) (st := [.inl r]) dL_958 mzX12_pull mbX12_pull rfl rfl (Nat.le_of_ble_eq_true rfl) (Nat.le_of_ble_eq_true rfl) (by decide) AL_a3 rfl rfl (k_X12_pull (d := 0) AL_d3 hw) (fun v M2 N2 hp => ?_)
  obtain ⟨r2, hv, e, F, Wi⟩ := hp
  subst hv
  exact l_icmp_eq (tgt := 1253) dL_961 rfl (fun _ => kk _ _ (hI.x1 F Wi)) (fun z => absurd e z)
set_option maxRecDepth 100000 in
theorem mzX11_strip : am_VS R_law 107 mX11_strip := ⟨Or.inl (am_in4 193 rfl rfl), am_in4 194 rfl rfl, am_in4 195 rfl rfl⟩
set_option maxRecDepth 100000 in
theorem mzX12_strip : am_VS R_law 110 mX12_strip := ⟨Or.inl (am_in8 23 rfl rfl), am_in8 24 rfl rfl, am_in8 25 rfl rfl⟩
theorem lc_21 {L : Nat} {xs : Nat → Int32} {j : Nat} {M : am_I} {N : am_N} (hI : INV M N) (hj : j + 6 < L) (hL : L ≤ 3584) (kk : ∀ M N, INV M N → jl L xs 1253 (lvL (nI j)) [] M N) : jl L xs 966 (lvL (nI j)) [] M N := by
  refine l_aload_n 2 dL_966 rfl ?_
  refine l_arg (k := 1) dL_967 dL_968 dL_969 dL_970 dL_971 (by decide) (by omega) hL ?_
  refine l_arg (k := 2) dL_972 dL_973 dL_974 dL_975 dL_976 (by decide) (by omega) hL ?_
  refine l_inv (ν := mX11_strip) (ci := 10) (nf := 10) (T := TX11) (d' := 0 + 3) (a := (0, 0, 0)) (As := [.inl (xs (j + 1)), .inl (xs (j + 2))]) (st := []) dL_977 mzX11_strip mbX11_strip rfl rfl (Nat.le_of_ble_eq_true rfl) (Nat.le_of_ble_eq_true rfl) (by decide) AL_a0 rfl rfl (k_X11_strip (d := 0) AL_d0 AL_d2 (call_strip hI.2.1)) (fun v M1 N1 hp => ?_)
  obtain ⟨r, hv, hw⟩ := hp
  subst hv
  refine l_aload_n 1 dL_980 rfl ?_
  refine l_arg (k := 1) dL_981 dL_982 dL_983 dL_984 dL_985 (by decide) (by omega) hL ?_
  refine l_arg (k := 2) dL_986 dL_987 dL_988 dL_989 dL_990 (by decide) (by omega) hL ?_
  refine l_inv (ν := mX12_strip) (ci := 11) (nf := 65) (T := TX12) (d' := 0 + 2) (a := (3, 0, 0)) (As := [.inl (xs (j + 1)), .inl (xs (j + 2))]) (st := [.inl r]) dL_991 mzX12_strip mbX12_strip rfl rfl (Nat.le_of_ble_eq_true rfl) (Nat.le_of_ble_eq_true rfl) (by decide) AL_a3 rfl rfl (k_X12_strip (d := 0) AL_d3 hw) (fun v M2 N2 hp => ?_)
  obtain ⟨r2, hv, e, F, Wi⟩ := hp
  subst hv
  exact l_icmp_eq (tgt := 1253) dL_994 rfl (fun _ => kk _ _ (hI.fft F Wi)) (fun z => absurd e z)
set_option maxRecDepth 100000 in
theorem mzX11_better : am_VS R_law 111 mX11_better := ⟨Or.inl (am_in4 197 rfl rfl), am_in4 198 rfl rfl, am_in4 199 rfl rfl⟩
set_option maxRecDepth 100000 in
theorem mzX12_better : am_VS R_law 114 mX12_better := ⟨Or.inl (am_in8 27 rfl rfl), am_in8 28 rfl rfl, am_in8 29 rfl rfl⟩
theorem lc_22 {L : Nat} {xs : Nat → Int32} {j : Nat} {M : am_I} {N : am_N} (hI : INV M N) (hj : j + 6 < L) (hL : L ≤ 3584) (kk : ∀ M N, INV M N → jl L xs 1253 (lvL (nI j)) [] M N) : jl L xs 999 (lvL (nI j)) [] M N := by
  refine l_aload_n 2 dL_999 rfl ?_
  refine l_arg (k := 1) dL_1000 dL_1001 dL_1002 dL_1003 dL_1004 (by decide) (by omega) hL ?_
  refine l_inv (ν := mX11_better) (ci := 10) (nf := 10) (T := TX11) (d' := 0 + 5) (a := (0, 0, 0)) (As := [.inl (xs (j + 1))]) (st := []) dL_1005 mzX11_better mbX11_better rfl rfl (Nat.le_of_ble_eq_true rfl) (Nat.le_of_ble_eq_true rfl) (by decide) AL_a0 rfl rfl (k_X11_better (d := 0) AL_d0 AL_d2 (call_better hI.2.1)) (fun v M1 N1 hp => ?_)
  obtain ⟨r, hv, hw⟩ := hp
  subst hv
  refine l_aload_n 1 dL_1008 rfl ?_
  refine l_arg (k := 1) dL_1009 dL_1010 dL_1011 dL_1012 dL_1013 (by decide) (by omega) hL ?_
  refine l_inv (ν := mX12_better) (ci := 11) (nf := 65) (T := TX12) (d' := 0 + 3) (a := (3, 0, 0)) (As := [.inl (xs (j + 1))]) (st := [.inl r]) dL_1014 mzX12_better mbX12_better rfl rfl (Nat.le_of_ble_eq_true rfl) (Nat.le_of_ble_eq_true rfl) (by decide) AL_a3 rfl rfl (k_X12_better (d := 0) AL_d3 hw) (fun v M2 N2 hp => ?_)
  obtain ⟨r2, hv, e, F, Wi⟩ := hp
  subst hv
  exact l_icmp_eq (tgt := 1253) dL_1017 rfl (fun _ => kk _ _ ((by rw [F, Wi]; exact hI))) (fun z => absurd e z)
set_option maxRecDepth 100000 in
theorem mzX11_feed : am_VS R_law 115 mX11_feed := ⟨Or.inl (am_in4 230 rfl rfl), am_in4 231 rfl rfl, am_in4 232 rfl rfl⟩
set_option maxRecDepth 100000 in
theorem mzX12_feed : am_VS R_law 118 mX12_feed := ⟨Or.inl (am_in8 40 rfl rfl), am_in8 41 rfl rfl, am_in8 42 rfl rfl⟩
theorem lc_23 {L : Nat} {xs : Nat → Int32} {j : Nat} {M : am_I} {N : am_N} (hI : INV M N) (hj : j + 6 < L) (hL : L ≤ 3584) (kk : ∀ M N, INV M N → jl L xs 1253 (lvL (nI j)) [] M N) : jl L xs 1022 (lvL (nI j)) [] M N := by
  refine l_aload_n 2 dL_1022 rfl ?_
  refine l_arg (k := 1) dL_1023 dL_1024 dL_1025 dL_1026 dL_1027 (by decide) (by omega) hL ?_
  refine l_arg (k := 2) dL_1028 dL_1029 dL_1030 dL_1031 dL_1032 (by decide) (by omega) hL ?_
  refine l_arg (k := 3) dL_1033 dL_1034 dL_1035 dL_1036 dL_1037 (by decide) (by omega) hL ?_
  refine l_arg (k := 4) dL_1038 dL_1039 dL_1040 dL_1041 dL_1042 (by decide) (by omega) hL ?_
  refine l_arg (k := 5) dL_1043 dL_1044 dL_1045 dL_1046 dL_1047 (by decide) (by omega) hL ?_
  refine l_inv (ν := mX11_feed) (ci := 10) (nf := 10) (T := TX11) (d' := 0 + 2) (a := (0, 0, 0)) (As := [.inl (xs (j + 1)), .inl (xs (j + 2)), .inl (xs (j + 3)), .inl (xs (j + 4)), .inl (xs (j + 5))]) (st := []) dL_1048 mzX11_feed mbX11_feed rfl rfl (Nat.le_of_ble_eq_true rfl) (Nat.le_of_ble_eq_true rfl) (by decide) AL_a0 rfl rfl (k_X11_feed (d := 0) AL_d0 (call_feed hI.2.2)) (fun v M1 N1 hp => ?_)
  obtain ⟨r, hv, hw⟩ := hp
  subst hv
  refine l_aload_n 1 dL_1051 rfl ?_
  refine l_arg (k := 1) dL_1052 dL_1053 dL_1054 dL_1055 dL_1056 (by decide) (by omega) hL ?_
  refine l_arg (k := 2) dL_1057 dL_1058 dL_1059 dL_1060 dL_1061 (by decide) (by omega) hL ?_
  refine l_arg (k := 3) dL_1062 dL_1063 dL_1064 dL_1065 dL_1066 (by decide) (by omega) hL ?_
  refine l_arg (k := 4) dL_1067 dL_1068 dL_1069 dL_1070 dL_1071 (by decide) (by omega) hL ?_
  refine l_arg (k := 5) dL_1072 dL_1073 dL_1074 dL_1075 dL_1076 (by decide) (by omega) hL ?_
  refine l_inv (ν := mX12_feed) (ci := 11) (nf := 65) (T := TX12) (d' := 0 + 2) (a := (3, 0, 0)) (As := [.inl (xs (j + 1)), .inl (xs (j + 2)), .inl (xs (j + 3)), .inl (xs (j + 4)), .inl (xs (j + 5))]) (st := [.inl r]) dL_1077 mzX12_feed mbX12_feed rfl rfl (Nat.le_of_ble_eq_true rfl) (Nat.le_of_ble_eq_true rfl) (by decide) AL_a3 rfl rfl (k_X12_feed (d := 0) AL_d3 hw) (fun v M2 N2 hp => ?_)
  obtain ⟨r2, hv, e, F, Wi⟩ := hp
  subst hv
  exact l_icmp_eq (tgt := 1253) dL_1080 rfl (fun _ => kk _ _ (hI.fy F Wi)) (fun z => absurd e z)
set_option maxRecDepth 100000 in
theorem mzX11_rules : am_VS R_law 119 mX11_rules := ⟨Or.inl (am_in5 2 rfl rfl), am_in5 3 rfl rfl, am_in5 4 rfl rfl⟩
set_option maxRecDepth 100000 in
theorem mzX12_rules : am_VS R_law 122 mX12_rules := ⟨Or.inl (am_in8 48 rfl rfl), am_in8 49 rfl rfl, am_in8 50 rfl rfl⟩
theorem lc_24 {L : Nat} {xs : Nat → Int32} {j : Nat} {M : am_I} {N : am_N} (hI : INV M N) (hj : j + 6 < L) (hL : L ≤ 3584) (kk : ∀ M N, INV M N → jl L xs 1253 (lvL (nI j)) [] M N) : jl L xs 1085 (lvL (nI j)) [] M N := by
  refine l_aload_n 2 dL_1085 rfl ?_
  refine l_arg (k := 1) dL_1086 dL_1087 dL_1088 dL_1089 dL_1090 (by decide) (by omega) hL ?_
  refine l_inv (ν := mX11_rules) (ci := 10) (nf := 10) (T := TX11) (d' := 0 + 45) (a := (0, 0, 0)) (As := [.inl (xs (j + 1))]) (st := []) dL_1091 mzX11_rules mbX11_rules rfl rfl (Nat.le_of_ble_eq_true rfl) (Nat.le_of_ble_eq_true rfl) (by decide) AL_a0 rfl rfl (k_X11_rules (d := 0) AL_d0 (call_rules hI.2.2)) (fun v M1 N1 hp => ?_)
  obtain ⟨r, hv, hw⟩ := hp
  subst hv
  refine l_aload_n 1 dL_1094 rfl ?_
  refine l_arg (k := 1) dL_1095 dL_1096 dL_1097 dL_1098 dL_1099 (by decide) (by omega) hL ?_
  refine l_inv (ν := mX12_rules) (ci := 11) (nf := 65) (T := TX12) (d' := 0 + 46) (a := (3, 0, 0)) (As := [.inl (xs (j + 1))]) (st := [.inl r]) dL_1100 mzX12_rules mbX12_rules rfl rfl (Nat.le_of_ble_eq_true rfl) (Nat.le_of_ble_eq_true rfl) (by decide) AL_a3 rfl rfl (k_X12_rules (d := 0) AL_d3 hw) (fun v M2 N2 hp => ?_)
  obtain ⟨r2, hv, e, F, Wi⟩ := hp
  subst hv
  exact l_icmp_eq (tgt := 1253) dL_1103 rfl (fun _ => kk _ _ (hI.fy F Wi)) (fun z => absurd e z)
set_option maxRecDepth 100000 in
theorem mzX11_fault : am_VS R_law 123 mX11_fault := ⟨Or.inl (am_in5 190 rfl rfl), am_in5 191 rfl rfl, am_in5 192 rfl rfl⟩
set_option maxRecDepth 100000 in
theorem mzX12_fault : am_VS R_law 127 mX12_fault := ⟨Or.inl (am_in8 127 rfl rfl), am_in8 128 rfl rfl, am_in8 129 rfl rfl⟩
theorem lc_25 {L : Nat} {xs : Nat → Int32} {j : Nat} {M : am_I} {N : am_N} (hI : INV M N) (hj : j + 6 < L) (hL : L ≤ 3584) (kk : ∀ M N, INV M N → jl L xs 1253 (lvL (nI j)) [] M N) : jl L xs 1108 (lvL (nI j)) [] M N := by
  refine l_aload_n 2 dL_1108 rfl ?_
  refine l_inv (ν := mX11_fault) (ci := 10) (nf := 10) (T := TX11) (d' := 0 + 1) (a := (0, 0, 0)) (As := []) (st := []) dL_1109 mzX11_fault mbX11_fault rfl rfl (Nat.le_of_ble_eq_true rfl) (Nat.le_of_ble_eq_true rfl) (by decide) AL_a0 rfl rfl (k_X11_fault (d := 0) AL_d0 (call_fault hI.2.2)) (fun v M1 N1 hp => ?_)
  obtain ⟨r, hv, hw⟩ := hp
  subst hv
  refine l_aload_n 1 dL_1112 rfl ?_
  refine l_inv (ν := mX12_fault) (ci := 11) (nf := 65) (T := TX12) (d' := 0 + 1) (a := (3, 0, 0)) (As := []) (st := [.inl r]) dL_1113 mzX12_fault mbX12_fault rfl rfl (Nat.le_of_ble_eq_true rfl) (Nat.le_of_ble_eq_true rfl) (by decide) AL_a3 rfl rfl (k_X12_fault (d := 0) AL_d3 hw) (fun v M2 N2 hp => ?_)
  obtain ⟨r2, hv, e, F, Wi⟩ := hp
  subst hv
  exact l_icmp_eq (tgt := 1253) dL_1116 rfl (fun _ => kk _ _ ((by rw [F, Wi]; exact hI))) (fun z => absurd e z)
set_option maxRecDepth 100000 in
theorem mzX11_act : am_VS R_law 128 mX11_act := ⟨Or.inl (am_in5 194 rfl rfl), am_in5 195 rfl rfl, am_in5 196 rfl rfl⟩
set_option maxRecDepth 100000 in
theorem mzX12_act : am_VS R_law 131 mX12_act := ⟨Or.inl (am_in8 131 rfl rfl), am_in8 132 rfl rfl, am_in8 133 rfl rfl⟩
theorem lc_26 {L : Nat} {xs : Nat → Int32} {j : Nat} {M : am_I} {N : am_N} (hI : INV M N) (hj : j + 6 < L) (hL : L ≤ 3584) (kk : ∀ M N, INV M N → jl L xs 1253 (lvL (nI j)) [] M N) : jl L xs 1121 (lvL (nI j)) [] M N := by
  refine l_aload_n 2 dL_1121 rfl ?_
  refine l_arg (k := 1) dL_1122 dL_1123 dL_1124 dL_1125 dL_1126 (by decide) (by omega) hL ?_
  refine l_arg (k := 2) dL_1127 dL_1128 dL_1129 dL_1130 dL_1131 (by decide) (by omega) hL ?_
  refine l_inv (ν := mX11_act) (ci := 10) (nf := 10) (T := TX11) (d' := 0 + 7) (a := (0, 0, 0)) (As := [.inl (xs (j + 1)), .inl (xs (j + 2))]) (st := []) dL_1132 mzX11_act mbX11_act rfl rfl (Nat.le_of_ble_eq_true rfl) (Nat.le_of_ble_eq_true rfl) (by decide) AL_a0 rfl rfl (k_X11_act (d := 0) AL_d0 AL_d10 AL_d2 (call_act hI.1 hI.2.2)) (fun v M1 N1 hp => ?_)
  obtain ⟨r, hv, hw⟩ := hp
  subst hv
  refine l_aload_n 1 dL_1135 rfl ?_
  refine l_arg (k := 1) dL_1136 dL_1137 dL_1138 dL_1139 dL_1140 (by decide) (by omega) hL ?_
  refine l_arg (k := 2) dL_1141 dL_1142 dL_1143 dL_1144 dL_1145 (by decide) (by omega) hL ?_
  refine l_inv (ν := mX12_act) (ci := 11) (nf := 65) (T := TX12) (d' := 0 + 6) (a := (3, 0, 0)) (As := [.inl (xs (j + 1)), .inl (xs (j + 2))]) (st := [.inl r]) dL_1146 mzX12_act mbX12_act rfl rfl (Nat.le_of_ble_eq_true rfl) (Nat.le_of_ble_eq_true rfl) (by decide) AL_a3 rfl rfl (k_X12_act (d := 0) AL_d3 hw) (fun v M2 N2 hp => ?_)
  obtain ⟨r2, hv, e, F, Wi⟩ := hp
  subst hv
  exact l_icmp_eq (tgt := 1253) dL_1149 rfl (fun _ => kk _ _ (hI.fy F Wi)) (fun z => absurd e z)
set_option maxRecDepth 100000 in
theorem mzX11_plan : am_VS R_law 132 mX11_plan := ⟨Or.inl (am_in6 2 rfl rfl), am_in6 3 rfl rfl, am_in6 4 rfl rfl⟩
set_option maxRecDepth 100000 in
theorem mzX12_plan : am_VS R_law 135 mX12_plan := ⟨Or.inl (am_in8 160 rfl rfl), am_in8 161 rfl rfl, am_in8 162 rfl rfl⟩
theorem lc_27 {L : Nat} {xs : Nat → Int32} {j : Nat} {M : am_I} {N : am_N} (hI : INV M N) (hj : j + 6 < L) (hL : L ≤ 3584) (kk : ∀ M N, INV M N → jl L xs 1253 (lvL (nI j)) [] M N) : jl L xs 1154 (lvL (nI j)) [] M N := by
  refine l_aload_n 2 dL_1154 rfl ?_
  refine l_arg (k := 1) dL_1155 dL_1156 dL_1157 dL_1158 dL_1159 (by decide) (by omega) hL ?_
  refine l_inv (ν := mX11_plan) (ci := 10) (nf := 10) (T := TX11) (d' := 0 + 8) (a := (0, 0, 0)) (As := [.inl (xs (j + 1))]) (st := []) dL_1160 mzX11_plan mbX11_plan rfl rfl (Nat.le_of_ble_eq_true rfl) (Nat.le_of_ble_eq_true rfl) (by decide) AL_a0 rfl rfl (k_X11_plan (d := 0) AL_d0 AL_d10 AL_d2 (call_plan hI)) (fun v M1 N1 hp => ?_)
  obtain ⟨r, hv, hw⟩ := hp
  subst hv
  refine l_aload_n 1 dL_1163 rfl ?_
  refine l_arg (k := 1) dL_1164 dL_1165 dL_1166 dL_1167 dL_1168 (by decide) (by omega) hL ?_
  refine l_inv (ν := mX12_plan) (ci := 11) (nf := 65) (T := TX12) (d' := 0 + 6) (a := (3, 0, 0)) (As := [.inl (xs (j + 1))]) (st := [.inl r]) dL_1169 mzX12_plan mbX12_plan rfl rfl (Nat.le_of_ble_eq_true rfl) (Nat.le_of_ble_eq_true rfl) (by decide) AL_a3 rfl rfl (k_X12_plan (d := 0) AL_d3 hw) (fun v M2 N2 hp => ?_)
  obtain ⟨r2, hv, e, Wi⟩ := hp
  subst hv
  exact l_icmp_eq (tgt := 1253) dL_1172 rfl (fun _ => kk _ _ (Wi)) (fun z => absurd e z)
set_option maxRecDepth 100000 in
theorem mzX11_again : am_VS R_law 136 mX11_again := ⟨Or.inl (am_in6 8 rfl rfl), am_in6 9 rfl rfl, am_in6 10 rfl rfl⟩
set_option maxRecDepth 100000 in
theorem mzX12_again : am_VS R_law 140 mX12_again := ⟨Or.inl (am_in8 36 rfl rfl), am_in8 37 rfl rfl, am_in8 38 rfl rfl⟩
theorem lc_28 {L : Nat} {xs : Nat → Int32} {j : Nat} {M : am_I} {N : am_N} (hI : INV M N) (hj : j + 6 < L) (hL : L ≤ 3584) (kk : ∀ M N, INV M N → jl L xs 1253 (lvL (nI j)) [] M N) : jl L xs 1177 (lvL (nI j)) [] M N := by
  refine l_aload_n 2 dL_1177 rfl ?_
  refine l_arg (k := 1) dL_1178 dL_1179 dL_1180 dL_1181 dL_1182 (by decide) (by omega) hL ?_
  refine l_arg (k := 2) dL_1183 dL_1184 dL_1185 dL_1186 dL_1187 (by decide) (by omega) hL ?_
  refine l_arg (k := 3) dL_1188 dL_1189 dL_1190 dL_1191 dL_1192 (by decide) (by omega) hL ?_
  refine l_arg (k := 4) dL_1193 dL_1194 dL_1195 dL_1196 dL_1197 (by decide) (by omega) hL ?_
  refine l_inv (ν := mX11_again) (ci := 10) (nf := 10) (T := TX11) (d' := 0 + 8) (a := (0, 0, 0)) (As := [.inl (xs (j + 1)), .inl (xs (j + 2)), .inl (xs (j + 3)), .inl (xs (j + 4))]) (st := []) dL_1198 mzX11_again mbX11_again rfl rfl (Nat.le_of_ble_eq_true rfl) (Nat.le_of_ble_eq_true rfl) (by decide) AL_a0 rfl rfl (k_X11_again (d := 0) AL_d0 AL_d10 AL_d11 AL_d2 (call_again hI.1)) (fun v M1 N1 hp => ?_)
  obtain ⟨r, hv, hw⟩ := hp
  subst hv
  refine l_aload_n 1 dL_1201 rfl ?_
  refine l_arg (k := 1) dL_1202 dL_1203 dL_1204 dL_1205 dL_1206 (by decide) (by omega) hL ?_
  refine l_arg (k := 2) dL_1207 dL_1208 dL_1209 dL_1210 dL_1211 (by decide) (by omega) hL ?_
  refine l_arg (k := 3) dL_1212 dL_1213 dL_1214 dL_1215 dL_1216 (by decide) (by omega) hL ?_
  refine l_arg (k := 4) dL_1217 dL_1218 dL_1219 dL_1220 dL_1221 (by decide) (by omega) hL ?_
  refine l_inv (ν := mX12_again) (ci := 11) (nf := 65) (T := TX12) (d' := 0 + 8) (a := (3, 0, 0)) (As := [.inl (xs (j + 1)), .inl (xs (j + 2)), .inl (xs (j + 3)), .inl (xs (j + 4))]) (st := [.inl r]) dL_1222 mzX12_again mbX12_again rfl rfl (Nat.le_of_ble_eq_true rfl) (Nat.le_of_ble_eq_true rfl) (by decide) AL_a3 rfl rfl (k_X12_again (d := 0) AL_d3 hw) (fun v M2 N2 hp => ?_)
  obtain ⟨r2, hv, e, F, Wi⟩ := hp
  subst hv
  exact l_icmp_eq (tgt := 1253) dL_1225 rfl (fun _ => kk _ _ (hI.fx F Wi)) (fun z => absurd e z)
set_option maxRecDepth 100000 in
theorem mzX11_count : am_VS R_law 141 mX11_count := ⟨Or.inl (am_in6 18 rfl rfl), am_in6 19 rfl rfl, am_in6 20 rfl rfl⟩
set_option maxRecDepth 100000 in
theorem mzX12_count : am_VS R_law 144 mX12_count := ⟨Or.inl (am_in8 166 rfl rfl), am_in8 167 rfl rfl, am_in8 168 rfl rfl⟩
theorem lc_29 {L : Nat} {xs : Nat → Int32} {j : Nat} {M : am_I} {N : am_N} (hI : INV M N) (hj : j + 6 < L) (hL : L ≤ 3584) (kk : ∀ M N, INV M N → jl L xs 1253 (lvL (nI j)) [] M N) : jl L xs 1230 (lvL (nI j)) [] M N := by
  refine l_aload_n 2 dL_1230 rfl ?_
  refine l_arg (k := 1) dL_1231 dL_1232 dL_1233 dL_1234 dL_1235 (by decide) (by omega) hL ?_
  refine l_inv (ν := mX11_count) (ci := 10) (nf := 10) (T := TX11) (d' := 0 + 4) (a := (0, 0, 0)) (As := [.inl (xs (j + 1))]) (st := []) dL_1236 mzX11_count mbX11_count rfl rfl (Nat.le_of_ble_eq_true rfl) (Nat.le_of_ble_eq_true rfl) (by decide) AL_a0 rfl rfl (k_X11_count (d := 0) AL_d0 AL_d10 AL_d2 (call_count hI)) (fun v M1 N1 hp => ?_)
  obtain ⟨r, hv, hw⟩ := hp
  subst hv
  refine l_aload_n 1 dL_1239 rfl ?_
  refine l_arg (k := 1) dL_1240 dL_1241 dL_1242 dL_1243 dL_1244 (by decide) (by omega) hL ?_
  refine l_inv (ν := mX12_count) (ci := 11) (nf := 65) (T := TX12) (d' := 0 + 3) (a := (3, 0, 0)) (As := [.inl (xs (j + 1))]) (st := [.inl r]) dL_1245 mzX12_count mbX12_count rfl rfl (Nat.le_of_ble_eq_true rfl) (Nat.le_of_ble_eq_true rfl) (by decide) AL_a3 rfl rfl (k_X12_count (d := 0) AL_d3 hw) (fun v M2 N2 hp => ?_)
  obtain ⟨r2, hv, e, Wi⟩ := hp
  subst hv
  exact l_icmp_eq (tgt := 1253) dL_1248 rfl (fun _ => kk _ _ (Wi)) (fun z => absurd e z)

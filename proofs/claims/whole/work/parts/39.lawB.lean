theorem AGR.ovz {L : List String} {o : OT} {T : Int32} {B : Bool} (h : AGR L o T (bi B)) : OVz L o := by
  rcases h with ⟨h, -⟩ | ⟨c, h1, h2, -⟩
  · exact Or.inl ⟨B, h⟩
  · exact Or.inr ⟨c, h1, h2⟩
theorem AGV.code {L : List String} {o : OT} {T : Int32} {V : Value} (h : AGV L o T V) : T = hcd L o := by
  rcases h with ⟨h1, h2⟩ | ⟨c, -, -, h⟩
  · rw [h1, h2]; rfl
  · exact h
theorem AGV.ovd {L : List String} {o : OT} {T : Int32} {R : UInt64} (h : AGV L o T (.double R)) : OVd L o := by
  rcases h with ⟨h, -⟩ | ⟨c, h1, h2, -⟩
  · exact Or.inl ⟨R, h⟩
  · exact Or.inr ⟨c, h1, h2⟩
theorem AGV.ovf {L : List String} {o : OT} {T : Int32} {R : UInt32} (h : AGV L o T (.float R)) (hne : vf_n64 (FP.f2d R)) : OVf L o := by
  rcases h with ⟨h, -⟩ | ⟨c, h1, h2, -⟩
  · exact Or.inl ⟨R, h, hne⟩
  · exact Or.inr ⟨c, h1, h2⟩
theorem AGV.z {L : List String} {o : OT} {T : Int32} {V : Value} (h : AGV L o T V) (hL : L.length < 100) (h0 : hcd L o = 0) : o = .inl (some V) := by
  rcases h with ⟨h, -⟩ | ⟨c, h1, h2, -⟩
  · exact h
  · rw [h1] at h0; exact absurd h0 (hcd_0 hL h2)
theorem AGV.vd {L : List String} {o : OT} {T : Int32} {R : UInt64} {D : Nat → UInt64} (h : AGV L o T (.double R)) (hL : L.length < 100) (h0 : hcd L o = 0) : hod D o (0 : Int32).toNatClampNeg = R := by
  rw [h.z hL h0]; rfl
theorem AGV.vf {L : List String} {o : OT} {T : Int32} {R : UInt32} {D : Nat → UInt64} (h : AGV L o T (.float R)) (hL : L.length < 100) (h0 : hcd L o = 0) : hod D o (0 : Int32).toNatClampNeg = FP.f2d R := by
  rw [h.z hL h0]; rfl
set_option maxHeartbeats 4000000 in
set_option maxRecDepth 100000 in
theorem law_0 {E : kE} {p : Program} {l : Launch} {e : Env} {s : State} {m : MethodId} {below : List Frame} {meth : Method} {c : Code} {Q : State → Prop} {sb L : Nat} {xs : Nat → Int32} (C : LC E p l s m meth c sb L xs) {a b : Nat → Nat} {o d i k n : Nat} {σ μ σ' μ' : Sto} {F : Nat → Int64} {D : Nat → UInt64} (hi : i + 5 ≤ L) (hk : k + 4 ≤ 3161) (hn : n + 24 ≤ 122043) {oo : OT} {T : Int32} {R : Int32} (hM6 : ∀ wr, KT E l yX6_addPool cX6_addPool 5 (some .int) 7 110 4 24 [.ref (a 0), .int (xs (i + 1)), .int (xs (i + 2)), .int (xs (i + 3)), .int (xs (i + 4))] (WW E b μ a σ wr) oo (WW E b μ a σ' wr)) (hM7 : ∀ wr, KM E l yX7_addPool cX7_addPool 7 (some .int) 2 44 0 0 [.ref (b 0), .int (xs (i + 1)), .int (xs (i + 2)), .int (xs (i + 3)), .int (xs (i + 4))] (WW E b μ a σ' wr) (some (.int R)) (WW E b μ' a σ' wr)) (hT : μ' 0 0 = T) (hA : AGR [xIOB, xIAE, xISE] oo T R) (next : ∀ (F' : Nat → Int64) (D' : Nat → UInt64), G E (LA s) 9 p l e room_1 s m #[.ref sb] below meth c Q (k + 4) (n + 24) (WL E b μ' a σ' o d F' D') 2284 (lvL sb o d a b i) []) : G E (LA s) 9 p l e room_1 s m #[.ref sb] below meth c Q k n (WL E b μ a σ o d F D) 208 (lvL sb o d a b i) [] := by
  obtain ⟨X, hZ, hN, hX, hbl, hL, hlt⟩ := C
  have hbA := LC.nA hbl
  have hL2 : L < 2 ^ 31 := by omega
  have J : G E (LA s) 9 p l e room_1 s m #[.ref sb] below meth c Q (k + 4) (n + 24) (WL E b μ' a σ' o d (hou F oo) D) 297 ((7, .int R) :: (6, .int (hcd [xIOB, xIAE, xISE] oo)) :: lvL sb o d a b i) [] := by
    refine g_goto X dL_law_297 2284 rfl ?_
    exact g_lv _ (fun q hq => List.mem_cons_of_mem _ (List.mem_cons_of_mem _ hq)) (next _ _)
  refine g_aload_n X dL_law_208 209 rfl rfl ?_
  refine g_S X hX hbl hbA hL2 dL_law_209 dL_law_210 dL_law_212 dL_law_213 dL_law_214 (t := 1) rfl rfl rfl (by omega) 215 rfl ?_
  refine g_S X hX hbl hbA hL2 dL_law_215 dL_law_216 dL_law_218 dL_law_219 dL_law_220 (t := 2) rfl rfl rfl (by omega) 221 rfl ?_
  refine g_S X hX hbl hbA hL2 dL_law_221 dL_law_222 dL_law_224 dL_law_225 dL_law_226 (t := 3) rfl rfl rfl (by omega) 227 rfl ?_
  refine g_S X hX hbl hbA hL2 dL_law_227 dL_law_228 dL_law_230 dL_law_231 dL_law_232 (t := 4) rfl rfl rfl (by omega) 233 rfl ?_
  refine g_aload_n X dL_law_233 234 rfl rfl ?_
  refine g_callH X hZ hN Lk_L_125 (k_L_addPool E l b μ a σ σ' o d F D (xs (i + 1)) (xs (i + 2)) (xs (i + 3)) (xs (i + 4)) (hM6 _) hA.ov) dL_law_234 rfl rfl (Nat.le_of_ble_eq_true rfl) ⟨(Nat.le_of_ble_eq_true rfl), (Nat.le_of_ble_eq_true rfl)⟩ ⟨hk, hn⟩ 237 rfl [.int (hcd [xIOB, xIAE, xISE] oo)] rfl ?_
  refine g_istore X dL_law_237 239 rfl (by decide) ((6, .int (hcd [xIOB, xIAE, xISE] oo)) :: lvL sb o d a b i) rfl ?_
  refine g_aload_n X dL_law_239 240 rfl rfl ?_
  refine g_S X hX hbl hbA hL2 dL_law_240 dL_law_241 dL_law_243 dL_law_244 dL_law_245 (t := 1) rfl rfl rfl (by omega) 246 rfl ?_
  refine g_S X hX hbl hbA hL2 dL_law_246 dL_law_247 dL_law_249 dL_law_250 dL_law_251 (t := 2) rfl rfl rfl (by omega) 252 rfl ?_
  refine g_S X hX hbl hbA hL2 dL_law_252 dL_law_253 dL_law_255 dL_law_256 dL_law_257 (t := 3) rfl rfl rfl (by omega) 258 rfl ?_
  refine g_S X hX hbl hbA hL2 dL_law_258 dL_law_259 dL_law_261 dL_law_262 dL_law_263 (t := 4) rfl rfl rfl (by omega) 264 rfl ?_
  refine c_V X Lk_L_130 (hM7 _) dL_law_264 rfl 0 rfl (ci := 7) rfl rfl (Nat.le_of_ble_eq_true rfl) ⟨(Nat.le_of_ble_eq_true rfl), (Nat.le_of_ble_eq_true rfl)⟩ ⟨hk, hn⟩ 267 rfl [.int R] rfl ?_
  refine g_istore X dL_law_267 269 rfl (by decide) ((7, .int R) :: (6, .int (hcd [xIOB, xIAE, xISE] oo)) :: lvL sb o d a b i) rfl ?_
  refine g_aload_n X dL_law_269 270 rfl rfl ?_
  refine c_V X Lk_L_131 (k_X7_thrown E l _ b μ' a σ') dL_law_270 rfl 0 rfl (ci := 7) rfl rfl (Nat.le_of_ble_eq_true rfl) ⟨(Nat.le_of_ble_eq_true rfl), (Nat.le_of_ble_eq_true rfl)⟩ ⟨hk, hn⟩ 273 rfl [.int T] (by rw [hT]; rfl) ?_
  refine g_iload X dL_law_273 275 rfl rfl ?_
  refine g_ic_eq X dL_law_275 280 278 rfl rfl (fun _ => ?_) (fun q => absurd hA.code q)
  refine g_iload X dL_law_280 282 rfl rfl ?_
  refine g_if_ne X dL_law_282 297 285 rfl rfl (fun _ => J) (fun h0 => ?_)
  refine g_aload_n X dL_law_285 286 rfl rfl ?_
  refine g_iconst X dL_law_286 287 rfl (v := 0) rfl ?_
  refine g_lald X dL_law_287 288 rfl 51 rfl in_0 ?_
  refine g_iload X dL_law_288 290 rfl rfl ?_
  refine g_i2l X dL_law_290 291 rfl ?_
  refine g_lcmp X dL_law_291 292 rfl ?_
  exact g_if_eq X dL_law_292 297 295 rfl rfl (fun _ => J) (fun q => absurd (hA.lg (by decide) h0) q)

set_option maxHeartbeats 4000000 in
set_option maxRecDepth 100000 in
theorem law_1 {E : kE} {p : Program} {l : Launch} {e : Env} {s : State} {m : MethodId} {below : List Frame} {meth : Method} {c : Code} {Q : State → Prop} {sb L : Nat} {xs : Nat → Int32} (C : LC E p l s m meth c sb L xs) {a b : Nat → Nat} {o d i k n : Nat} {σ μ σ' μ' : Sto} {F : Nat → Int64} {D : Nat → UInt64} (hi : i + 5 ≤ L) (hk : k + 4 ≤ 3161) (hn : n + 24 ≤ 122043) {oo : OT} {T : Int32} {R : Int32} (hM6 : ∀ wr, KT E l yX6_removePool cX6_removePool 4 (some .int) 7 111 4 24 [.ref (a 0), .int (xs (i + 1))] (WW E b μ a σ wr) oo (WW E b μ a σ' wr)) (hM7 : ∀ wr, KM E l yX7_removePool cX7_removePool 3 (some .int) 2 43 0 0 [.ref (b 0), .int (xs (i + 1))] (WW E b μ a σ' wr) (some (.int R)) (WW E b μ' a σ' wr)) (hT : μ' 0 0 = T) (hA : AGR [xIOB, xISE] oo T R) (next : ∀ (F' : Nat → Int64) (D' : Nat → UInt64), G E (LA s) 9 p l e room_1 s m #[.ref sb] below meth c Q (k + 4) (n + 24) (WL E b μ' a σ' o d F' D') 2284 (lvL sb o d a b i) []) : G E (LA s) 9 p l e room_1 s m #[.ref sb] below meth c Q k n (WL E b μ a σ o d F D) 300 (lvL sb o d a b i) [] := by
  obtain ⟨X, hZ, hN, hX, hbl, hL, hlt⟩ := C
  have hbA := LC.nA hbl
  have hL2 : L < 2 ^ 31 := by omega
  have J : G E (LA s) 9 p l e room_1 s m #[.ref sb] below meth c Q (k + 4) (n + 24) (WL E b μ' a σ' o d (hou F oo) D) 353 ((7, .int R) :: (6, .int (hcd [xIOB, xISE] oo)) :: lvL sb o d a b i) [] := by
    refine g_goto X dL_law_353 2284 rfl ?_
    exact g_lv _ (fun q hq => List.mem_cons_of_mem _ (List.mem_cons_of_mem _ hq)) (next _ _)
  refine g_aload_n X dL_law_300 301 rfl rfl ?_
  refine g_S X hX hbl hbA hL2 dL_law_301 dL_law_302 dL_law_304 dL_law_305 dL_law_306 (t := 1) rfl rfl rfl (by omega) 307 rfl ?_
  refine g_aload_n X dL_law_307 308 rfl rfl ?_
  refine g_callH X hZ hN Lk_L_134 (k_L_removePool E l b μ a σ σ' o d F D (xs (i + 1)) (hM6 _) hA.ov) dL_law_308 rfl rfl (Nat.le_of_ble_eq_true rfl) ⟨(Nat.le_of_ble_eq_true rfl), (Nat.le_of_ble_eq_true rfl)⟩ ⟨hk, hn⟩ 311 rfl [.int (hcd [xIOB, xISE] oo)] rfl ?_
  refine g_istore X dL_law_311 313 rfl (by decide) ((6, .int (hcd [xIOB, xISE] oo)) :: lvL sb o d a b i) rfl ?_
  refine g_aload_n X dL_law_313 314 rfl rfl ?_
  refine g_S X hX hbl hbA hL2 dL_law_314 dL_law_315 dL_law_317 dL_law_318 dL_law_319 (t := 1) rfl rfl rfl (by omega) 320 rfl ?_
  refine c_V X Lk_L_137 (hM7 _) dL_law_320 rfl 0 rfl (ci := 7) rfl rfl (Nat.le_of_ble_eq_true rfl) ⟨(Nat.le_of_ble_eq_true rfl), (Nat.le_of_ble_eq_true rfl)⟩ ⟨hk, hn⟩ 323 rfl [.int R] rfl ?_
  refine g_istore X dL_law_323 325 rfl (by decide) ((7, .int R) :: (6, .int (hcd [xIOB, xISE] oo)) :: lvL sb o d a b i) rfl ?_
  refine g_aload_n X dL_law_325 326 rfl rfl ?_
  refine c_V X Lk_L_131 (k_X7_thrown E l _ b μ' a σ') dL_law_326 rfl 0 rfl (ci := 7) rfl rfl (Nat.le_of_ble_eq_true rfl) ⟨(Nat.le_of_ble_eq_true rfl), (Nat.le_of_ble_eq_true rfl)⟩ ⟨hk, hn⟩ 329 rfl [.int T] (by rw [hT]; rfl) ?_
  refine g_iload X dL_law_329 331 rfl rfl ?_
  refine g_ic_eq X dL_law_331 336 334 rfl rfl (fun _ => ?_) (fun q => absurd hA.code q)
  refine g_iload X dL_law_336 338 rfl rfl ?_
  refine g_if_ne X dL_law_338 353 341 rfl rfl (fun _ => J) (fun h0 => ?_)
  refine g_aload_n X dL_law_341 342 rfl rfl ?_
  refine g_iconst X dL_law_342 343 rfl (v := 0) rfl ?_
  refine g_lald X dL_law_343 344 rfl 51 rfl in_0 ?_
  refine g_iload X dL_law_344 346 rfl rfl ?_
  refine g_i2l X dL_law_346 347 rfl ?_
  refine g_lcmp X dL_law_347 348 rfl ?_
  exact g_if_eq X dL_law_348 353 351 rfl rfl (fun _ => J) (fun q => absurd (hA.lg (by decide) h0) q)

set_option maxHeartbeats 4000000 in
set_option maxRecDepth 100000 in
theorem law_2 {E : kE} {p : Program} {l : Launch} {e : Env} {s : State} {m : MethodId} {below : List Frame} {meth : Method} {c : Code} {Q : State → Prop} {sb L : Nat} {xs : Nat → Int32} (C : LC E p l s m meth c sb L xs) {a b : Nat → Nat} {o d i k n : Nat} {σ μ σ' μ' : Sto} {F : Nat → Int64} {D : Nat → UInt64} (hi : i + 5 ≤ L) (hk : k ≤ 3161) (hn : n ≤ 122043) {u v : Int32} (hM6 : ∀ wr, KM E l yX6_poolCount cX6_poolCount 1 (some .int) 0 0 0 0 [.ref (a 0)] (WW E b μ a σ wr) (some (.int u)) (WW E b μ a σ' wr)) (hM7 : ∀ wr, KM E l yX7_poolCount cX7_poolCount 1 (some .int) 0 0 0 0 [.ref (b 0)] (WW E b μ a σ' wr) (some (.int v)) (WW E b μ' a σ' wr)) (hE : u = v) (next : G E (LA s) 9 p l e room_1 s m #[.ref sb] below meth c Q k n (WL E b μ' a σ' o d F D) 2284 (lvL sb o d a b i) []) : G E (LA s) 9 p l e room_1 s m #[.ref sb] below meth c Q k n (WL E b μ a σ o d F D) 356 (lvL sb o d a b i) [] := by
  obtain ⟨X, hZ, hN, hX, hbl, hL, hlt⟩ := C
  refine g_aload_n X dL_law_356 357 rfl rfl ?_
  refine c_V X Lk_L_138 (hM6 _) dL_law_357 rfl 4 rfl (ci := 6) rfl rfl (Nat.le_of_ble_eq_true rfl) ⟨(Nat.le_of_ble_eq_true rfl), (Nat.le_of_ble_eq_true rfl)⟩ ⟨hk, hn⟩ 360 rfl [.int u] rfl ?_
  refine g_aload_n X dL_law_360 361 rfl rfl ?_
  refine c_V X Lk_L_141 (hM7 _) dL_law_361 rfl 0 rfl (ci := 7) rfl rfl (Nat.le_of_ble_eq_true rfl) ⟨(Nat.le_of_ble_eq_true rfl), (Nat.le_of_ble_eq_true rfl)⟩ ⟨hk, hn⟩ 364 rfl [.int v, .int u] rfl ?_
  exact g_ic_eq X dL_law_364 2284 367 rfl rfl (fun _ => next) (fun q => absurd hE q)

set_option maxHeartbeats 4000000 in
set_option maxRecDepth 100000 in
theorem law_3 {E : kE} {p : Program} {l : Launch} {e : Env} {s : State} {m : MethodId} {below : List Frame} {meth : Method} {c : Code} {Q : State → Prop} {sb L : Nat} {xs : Nat → Int32} (C : LC E p l s m meth c sb L xs) {a b : Nat → Nat} {o d i k n : Nat} {σ μ σ' μ' : Sto} {F : Nat → Int64} {D : Nat → UInt64} (hi : i + 5 ≤ L) (hk : k + 4 ≤ 3161) (hn : n + 24 ≤ 122043) {oo : OT} {T : Int32} {R : Int32} (hM6 : ∀ wr, KT E l yX6_pool cX6_pool 4 (some .int) 7 111 4 24 [.ref (a 0), .int (xs (i + 1)), .int (xs (i + 2))] (WW E b μ a σ wr) oo (WW E b μ a σ' wr)) (hM7 : ∀ wr, KM E l yX7_pool_ cX7_pool_ 5 (some .int) 4 88 0 0 [.ref (b 0), .int (xs (i + 1)), .int (xs (i + 2))] (WW E b μ a σ' wr) (some (.int R)) (WW E b μ' a σ' wr)) (hT : μ' 0 0 = T) (hA : AGR [xIOB, xIAE] oo T R) (next : ∀ (F' : Nat → Int64) (D' : Nat → UInt64), G E (LA s) 9 p l e room_1 s m #[.ref sb] below meth c Q (k + 4) (n + 24) (WL E b μ' a σ' o d F' D') 2284 (lvL sb o d a b i) []) : G E (LA s) 9 p l e room_1 s m #[.ref sb] below meth c Q k n (WL E b μ a σ o d F D) 369 (lvL sb o d a b i) [] := by
  obtain ⟨X, hZ, hN, hX, hbl, hL, hlt⟩ := C
  have hbA := LC.nA hbl
  have hL2 : L < 2 ^ 31 := by omega
  have J : G E (LA s) 9 p l e room_1 s m #[.ref sb] below meth c Q (k + 4) (n + 24) (WL E b μ' a σ' o d (hou F oo) D) 434 ((7, .int R) :: (6, .int (hcd [xIOB, xIAE] oo)) :: lvL sb o d a b i) [] := by
    refine g_goto X dL_law_434 2284 rfl ?_
    exact g_lv _ (fun q hq => List.mem_cons_of_mem _ (List.mem_cons_of_mem _ hq)) (next _ _)
  refine g_aload_n X dL_law_369 370 rfl rfl ?_
  refine g_S X hX hbl hbA hL2 dL_law_370 dL_law_371 dL_law_373 dL_law_374 dL_law_375 (t := 1) rfl rfl rfl (by omega) 376 rfl ?_
  refine g_S X hX hbl hbA hL2 dL_law_376 dL_law_377 dL_law_379 dL_law_380 dL_law_381 (t := 2) rfl rfl rfl (by omega) 382 rfl ?_
  refine g_aload_n X dL_law_382 383 rfl rfl ?_
  refine g_callH X hZ hN Lk_L_142 (k_L_pool E l b μ a σ σ' o d F D (xs (i + 1)) (xs (i + 2)) (hM6 _) hA.ov) dL_law_383 rfl rfl (Nat.le_of_ble_eq_true rfl) ⟨(Nat.le_of_ble_eq_true rfl), (Nat.le_of_ble_eq_true rfl)⟩ ⟨hk, hn⟩ 386 rfl [.int (hcd [xIOB, xIAE] oo)] rfl ?_
  refine g_istore X dL_law_386 388 rfl (by decide) ((6, .int (hcd [xIOB, xIAE] oo)) :: lvL sb o d a b i) rfl ?_
  refine g_aload_n X dL_law_388 389 rfl rfl ?_
  refine g_S X hX hbl hbA hL2 dL_law_389 dL_law_390 dL_law_392 dL_law_393 dL_law_394 (t := 1) rfl rfl rfl (by omega) 395 rfl ?_
  refine g_S X hX hbl hbA hL2 dL_law_395 dL_law_396 dL_law_398 dL_law_399 dL_law_400 (t := 2) rfl rfl rfl (by omega) 401 rfl ?_
  refine c_V X Lk_L_145 (hM7 _) dL_law_401 rfl 0 rfl (ci := 7) rfl rfl (Nat.le_of_ble_eq_true rfl) ⟨(Nat.le_of_ble_eq_true rfl), (Nat.le_of_ble_eq_true rfl)⟩ ⟨hk, hn⟩ 404 rfl [.int R] rfl ?_
  refine g_istore X dL_law_404 406 rfl (by decide) ((7, .int R) :: (6, .int (hcd [xIOB, xIAE] oo)) :: lvL sb o d a b i) rfl ?_
  refine g_aload_n X dL_law_406 407 rfl rfl ?_
  refine c_V X Lk_L_131 (k_X7_thrown E l _ b μ' a σ') dL_law_407 rfl 0 rfl (ci := 7) rfl rfl (Nat.le_of_ble_eq_true rfl) ⟨(Nat.le_of_ble_eq_true rfl), (Nat.le_of_ble_eq_true rfl)⟩ ⟨hk, hn⟩ 410 rfl [.int T] (by rw [hT]; rfl) ?_
  refine g_iload X dL_law_410 412 rfl rfl ?_
  refine g_ic_eq X dL_law_412 417 415 rfl rfl (fun _ => ?_) (fun q => absurd hA.code q)
  refine g_iload X dL_law_417 419 rfl rfl ?_
  refine g_if_ne X dL_law_419 434 422 rfl rfl (fun _ => J) (fun h0 => ?_)
  refine g_aload_n X dL_law_422 423 rfl rfl ?_
  refine g_iconst X dL_law_423 424 rfl (v := 0) rfl ?_
  refine g_lald X dL_law_424 425 rfl 51 rfl in_0 ?_
  refine g_iload X dL_law_425 427 rfl rfl ?_
  refine g_i2l X dL_law_427 428 rfl ?_
  refine g_lcmp X dL_law_428 429 rfl ?_
  exact g_if_eq X dL_law_429 434 432 rfl rfl (fun _ => J) (fun q => absurd (hA.lg (by decide) h0) q)

set_option maxHeartbeats 4000000 in
set_option maxRecDepth 100000 in
theorem law_4 {E : kE} {p : Program} {l : Launch} {e : Env} {s : State} {m : MethodId} {below : List Frame} {meth : Method} {c : Code} {Q : State → Prop} {sb L : Nat} {xs : Nat → Int32} (C : LC E p l s m meth c sb L xs) {a b : Nat → Nat} {o d i k n : Nat} {σ μ σ' μ' : Sto} {F : Nat → Int64} {D : Nat → UInt64} (hi : i + 5 ≤ L) (hk : k + 4 ≤ 3161) (hn : n + 24 ≤ 122043) {oo : OT} {T : Int32} {R : Int32} (hM6 : ∀ wr, KT E l yX6_poolOf cX6_poolOf 2 (some .int) 7 111 4 24 [.ref (a 0), .int (xs (i + 1))] (WW E b μ a σ wr) oo (WW E b μ a σ' wr)) (hM7 : ∀ wr, KM E l yX7_poolOf cX7_poolOf 2 (some .int) 2 44 0 0 [.ref (b 0), .int (xs (i + 1))] (WW E b μ a σ' wr) (some (.int R)) (WW E b μ' a σ' wr)) (hT : μ' 0 0 = T) (hA : AGR [xIOB, xNSE] oo T R) (next : ∀ (F' : Nat → Int64) (D' : Nat → UInt64), G E (LA s) 9 p l e room_1 s m #[.ref sb] below meth c Q (k + 4) (n + 24) (WL E b μ' a σ' o d F' D') 2284 (lvL sb o d a b i) []) : G E (LA s) 9 p l e room_1 s m #[.ref sb] below meth c Q k n (WL E b μ a σ o d F D) 437 (lvL sb o d a b i) [] := by
  obtain ⟨X, hZ, hN, hX, hbl, hL, hlt⟩ := C
  have hbA := LC.nA hbl
  have hL2 : L < 2 ^ 31 := by omega
  have J : G E (LA s) 9 p l e room_1 s m #[.ref sb] below meth c Q (k + 4) (n + 24) (WL E b μ' a σ' o d (hou F oo) D) 490 ((7, .int R) :: (6, .int (hcd [xIOB, xNSE] oo)) :: lvL sb o d a b i) [] := by
    refine g_goto X dL_law_490 2284 rfl ?_
    exact g_lv _ (fun q hq => List.mem_cons_of_mem _ (List.mem_cons_of_mem _ hq)) (next _ _)
  refine g_aload_n X dL_law_437 438 rfl rfl ?_
  refine g_S X hX hbl hbA hL2 dL_law_438 dL_law_439 dL_law_441 dL_law_442 dL_law_443 (t := 1) rfl rfl rfl (by omega) 444 rfl ?_
  refine g_aload_n X dL_law_444 445 rfl rfl ?_
  refine g_callH X hZ hN Lk_L_146 (k_L_poolOf E l b μ a σ σ' o d F D (xs (i + 1)) (hM6 _) hA.ov) dL_law_445 rfl rfl (Nat.le_of_ble_eq_true rfl) ⟨(Nat.le_of_ble_eq_true rfl), (Nat.le_of_ble_eq_true rfl)⟩ ⟨hk, hn⟩ 448 rfl [.int (hcd [xIOB, xNSE] oo)] rfl ?_
  refine g_istore X dL_law_448 450 rfl (by decide) ((6, .int (hcd [xIOB, xNSE] oo)) :: lvL sb o d a b i) rfl ?_
  refine g_aload_n X dL_law_450 451 rfl rfl ?_
  refine g_S X hX hbl hbA hL2 dL_law_451 dL_law_452 dL_law_454 dL_law_455 dL_law_456 (t := 1) rfl rfl rfl (by omega) 457 rfl ?_
  refine c_V X Lk_L_148 (hM7 _) dL_law_457 rfl 0 rfl (ci := 7) rfl rfl (Nat.le_of_ble_eq_true rfl) ⟨(Nat.le_of_ble_eq_true rfl), (Nat.le_of_ble_eq_true rfl)⟩ ⟨hk, hn⟩ 460 rfl [.int R] rfl ?_
  refine g_istore X dL_law_460 462 rfl (by decide) ((7, .int R) :: (6, .int (hcd [xIOB, xNSE] oo)) :: lvL sb o d a b i) rfl ?_
  refine g_aload_n X dL_law_462 463 rfl rfl ?_
  refine c_V X Lk_L_131 (k_X7_thrown E l _ b μ' a σ') dL_law_463 rfl 0 rfl (ci := 7) rfl rfl (Nat.le_of_ble_eq_true rfl) ⟨(Nat.le_of_ble_eq_true rfl), (Nat.le_of_ble_eq_true rfl)⟩ ⟨hk, hn⟩ 466 rfl [.int T] (by rw [hT]; rfl) ?_
  refine g_iload X dL_law_466 468 rfl rfl ?_
  refine g_ic_eq X dL_law_468 473 471 rfl rfl (fun _ => ?_) (fun q => absurd hA.code q)
  refine g_iload X dL_law_473 475 rfl rfl ?_
  refine g_if_ne X dL_law_475 490 478 rfl rfl (fun _ => J) (fun h0 => ?_)
  refine g_aload_n X dL_law_478 479 rfl rfl ?_
  refine g_iconst X dL_law_479 480 rfl (v := 0) rfl ?_
  refine g_lald X dL_law_480 481 rfl 51 rfl in_0 ?_
  refine g_iload X dL_law_481 483 rfl rfl ?_
  refine g_i2l X dL_law_483 484 rfl ?_
  refine g_lcmp X dL_law_484 485 rfl ?_
  exact g_if_eq X dL_law_485 490 488 rfl rfl (fun _ => J) (fun q => absurd (hA.lg (by decide) h0) q)

set_option maxHeartbeats 4000000 in
set_option maxRecDepth 100000 in
theorem law_5 {E : kE} {p : Program} {l : Launch} {e : Env} {s : State} {m : MethodId} {below : List Frame} {meth : Method} {c : Code} {Q : State → Prop} {sb L : Nat} {xs : Nat → Int32} (C : LC E p l s m meth c sb L xs) {a b : Nat → Nat} {o d i k n : Nat} {σ μ σ' μ' : Sto} {F : Nat → Int64} {D : Nat → UInt64} (hi : i + 5 ≤ L) (hk : k + 4 ≤ 3161) (hn : n + 24 ≤ 122043) {oo : OT} {T : Int32} {R : Bool} (hM6 : ∀ wr, KT E l yX6_exclude cX6_exclude 4 (some .boolean) 7 110 4 24 [.ref (a 0), .int (xs (i + 1)), .int (bi (!decide (xs (i + 2) = 0)))] (WW E b μ a σ wr) oo (WW E b μ a σ' wr)) (hM7 : ∀ wr, KM E l yX7_exclude cX7_exclude 3 (some .boolean) 2 46 0 0 [.ref (b 0), .int (xs (i + 1)), .int (bi (!decide (xs (i + 2) = 0)))] (WW E b μ a σ' wr) (some (.int (bi R))) (WW E b μ' a σ' wr)) (hT : μ' 0 0 = T) (hA : AGR [xIOB] oo T (bi R)) (next : ∀ (F' : Nat → Int64) (D' : Nat → UInt64), G E (LA s) 9 p l e room_1 s m #[.ref sb] below meth c Q (k + 4) (n + 24) (WL E b μ' a σ' o d F' D') 2284 (lvL sb o d a b i) []) : G E (LA s) 9 p l e room_1 s m #[.ref sb] below meth c Q k n (WL E b μ a σ o d F D) 493 (lvL sb o d a b i) [] := by
  obtain ⟨X, hZ, hN, hX, hbl, hL, hlt⟩ := C
  have hbA := LC.nA hbl
  have hL2 : L < 2 ^ 31 := by omega
  have J : G E (LA s) 9 p l e room_1 s m #[.ref sb] below meth c Q (k + 4) (n + 24) (WL E b μ' a σ' o d (hou F oo) D) 581 ((7, .int (bi R)) :: (6, .int (hcd [xIOB] oo)) :: lvL sb o d a b i) [] := by
    refine g_goto X dL_law_581 2284 rfl ?_
    exact g_lv _ (fun q hq => List.mem_cons_of_mem _ (List.mem_cons_of_mem _ hq)) (next _ _)
  refine g_aload_n X dL_law_493 494 rfl rfl ?_
  refine g_S X hX hbl hbA hL2 dL_law_494 dL_law_495 dL_law_497 dL_law_498 dL_law_499 (t := 1) rfl rfl rfl (by omega) 500 rfl ?_
  refine g_S X hX hbl hbA hL2 dL_law_500 dL_law_501 dL_law_503 dL_law_504 dL_law_505 (t := 2) rfl rfl rfl (by omega) 506 rfl ?_
  refine g_bl X dL_law_506 dL_law_509 dL_law_510 dL_law_513 514 rfl ?_
  refine g_aload_n X dL_law_514 515 rfl rfl ?_
  refine g_callH X hZ hN Lk_L_149 (k_L_exclude E l b μ a σ σ' o d F D (xs (i + 1)) (!decide (xs (i + 2) = 0)) (hM6 _) hA.ovz) dL_law_515 rfl rfl (Nat.le_of_ble_eq_true rfl) ⟨(Nat.le_of_ble_eq_true rfl), (Nat.le_of_ble_eq_true rfl)⟩ ⟨hk, hn⟩ 518 rfl [.int (hcd [xIOB] oo)] rfl ?_
  refine g_istore X dL_law_518 520 rfl (by decide) ((6, .int (hcd [xIOB] oo)) :: lvL sb o d a b i) rfl ?_
  refine g_aload_n X dL_law_520 521 rfl rfl ?_
  refine g_S X hX hbl hbA hL2 dL_law_521 dL_law_522 dL_law_524 dL_law_525 dL_law_526 (t := 1) rfl rfl rfl (by omega) 527 rfl ?_
  refine g_S X hX hbl hbA hL2 dL_law_527 dL_law_528 dL_law_530 dL_law_531 dL_law_532 (t := 2) rfl rfl rfl (by omega) 533 rfl ?_
  refine g_bl X dL_law_533 dL_law_536 dL_law_537 dL_law_540 541 rfl ?_
  refine c_V X Lk_L_152 (hM7 _) dL_law_541 rfl 0 rfl (ci := 7) rfl rfl (Nat.le_of_ble_eq_true rfl) ⟨(Nat.le_of_ble_eq_true rfl), (Nat.le_of_ble_eq_true rfl)⟩ ⟨hk, hn⟩ 544 rfl [.int (bi R)] rfl ?_
  refine g_istore X dL_law_544 546 rfl (by decide) ((7, .int (bi R)) :: (6, .int (hcd [xIOB] oo)) :: lvL sb o d a b i) rfl ?_
  refine g_aload_n X dL_law_546 547 rfl rfl ?_
  refine c_V X Lk_L_131 (k_X7_thrown E l _ b μ' a σ') dL_law_547 rfl 0 rfl (ci := 7) rfl rfl (Nat.le_of_ble_eq_true rfl) ⟨(Nat.le_of_ble_eq_true rfl), (Nat.le_of_ble_eq_true rfl)⟩ ⟨hk, hn⟩ 550 rfl [.int T] (by rw [hT]; rfl) ?_
  refine g_iload X dL_law_550 552 rfl rfl ?_
  refine g_ic_eq X dL_law_552 557 555 rfl rfl (fun _ => ?_) (fun q => absurd hA.code q)
  refine g_iload X dL_law_557 559 rfl rfl ?_
  refine g_if_ne X dL_law_559 581 562 rfl rfl (fun _ => J) (fun h0 => ?_)
  refine g_aload_n X dL_law_562 563 rfl rfl ?_
  refine g_iconst X dL_law_563 564 rfl (v := 0) rfl ?_
  refine g_lald X dL_law_564 565 rfl 51 rfl in_0 ?_
  refine g_iload X dL_law_565 567 rfl rfl ?_
  refine g_ll X dL_law_567 dL_law_570 dL_law_571 dL_law_574 575 rfl ?_
  refine g_lcmp X dL_law_575 576 rfl ?_
  exact g_if_eq X dL_law_576 581 579 rfl rfl (fun _ => J) (fun q => absurd (hA.lg (by decide) h0) q)

set_option maxHeartbeats 4000000 in
set_option maxRecDepth 100000 in
theorem law_6 {E : kE} {p : Program} {l : Launch} {e : Env} {s : State} {m : MethodId} {below : List Frame} {meth : Method} {c : Code} {Q : State → Prop} {sb L : Nat} {xs : Nat → Int32} (C : LC E p l s m meth c sb L xs) {a b : Nat → Nat} {o d i k n : Nat} {σ μ σ' μ' : Sto} {F : Nat → Int64} {D : Nat → UInt64} (hi : i + 5 ≤ L) (hk : k + 4 ≤ 3161) (hn : n + 24 ≤ 122043) {oo : OT} {T : Int32} {R : Bool} (hM6 : ∀ wr, KT E l yX6_setStranger cX6_setStranger 4 (some .boolean) 7 110 4 24 [.ref (a 0), .int (xs (i + 1)), .int (bi (!decide (xs (i + 2) = 0)))] (WW E b μ a σ wr) oo (WW E b μ a σ' wr)) (hM7 : ∀ wr, KM E l yX7_setStranger cX7_setStranger 3 (some .boolean) 2 46 0 0 [.ref (b 0), .int (xs (i + 1)), .int (bi (!decide (xs (i + 2) = 0)))] (WW E b μ a σ' wr) (some (.int (bi R))) (WW E b μ' a σ' wr)) (hT : μ' 0 0 = T) (hA : AGR [xIOB] oo T (bi R)) (next : ∀ (F' : Nat → Int64) (D' : Nat → UInt64), G E (LA s) 9 p l e room_1 s m #[.ref sb] below meth c Q (k + 4) (n + 24) (WL E b μ' a σ' o d F' D') 2284 (lvL sb o d a b i) []) : G E (LA s) 9 p l e room_1 s m #[.ref sb] below meth c Q k n (WL E b μ a σ o d F D) 584 (lvL sb o d a b i) [] := by
  obtain ⟨X, hZ, hN, hX, hbl, hL, hlt⟩ := C
  have hbA := LC.nA hbl
  have hL2 : L < 2 ^ 31 := by omega
  have J : G E (LA s) 9 p l e room_1 s m #[.ref sb] below meth c Q (k + 4) (n + 24) (WL E b μ' a σ' o d (hou F oo) D) 672 ((7, .int (bi R)) :: (6, .int (hcd [xIOB] oo)) :: lvL sb o d a b i) [] := by
    refine g_goto X dL_law_672 2284 rfl ?_
    exact g_lv _ (fun q hq => List.mem_cons_of_mem _ (List.mem_cons_of_mem _ hq)) (next _ _)
  refine g_aload_n X dL_law_584 585 rfl rfl ?_
  refine g_S X hX hbl hbA hL2 dL_law_585 dL_law_586 dL_law_588 dL_law_589 dL_law_590 (t := 1) rfl rfl rfl (by omega) 591 rfl ?_
  refine g_S X hX hbl hbA hL2 dL_law_591 dL_law_592 dL_law_594 dL_law_595 dL_law_596 (t := 2) rfl rfl rfl (by omega) 597 rfl ?_
  refine g_bl X dL_law_597 dL_law_600 dL_law_601 dL_law_604 605 rfl ?_
  refine g_aload_n X dL_law_605 606 rfl rfl ?_
  refine g_callH X hZ hN Lk_L_153 (k_L_setStranger E l b μ a σ σ' o d F D (xs (i + 1)) (!decide (xs (i + 2) = 0)) (hM6 _) hA.ovz) dL_law_606 rfl rfl (Nat.le_of_ble_eq_true rfl) ⟨(Nat.le_of_ble_eq_true rfl), (Nat.le_of_ble_eq_true rfl)⟩ ⟨hk, hn⟩ 609 rfl [.int (hcd [xIOB] oo)] rfl ?_
  refine g_istore X dL_law_609 611 rfl (by decide) ((6, .int (hcd [xIOB] oo)) :: lvL sb o d a b i) rfl ?_
  refine g_aload_n X dL_law_611 612 rfl rfl ?_
  refine g_S X hX hbl hbA hL2 dL_law_612 dL_law_613 dL_law_615 dL_law_616 dL_law_617 (t := 1) rfl rfl rfl (by omega) 618 rfl ?_
  refine g_S X hX hbl hbA hL2 dL_law_618 dL_law_619 dL_law_621 dL_law_622 dL_law_623 (t := 2) rfl rfl rfl (by omega) 624 rfl ?_
  refine g_bl X dL_law_624 dL_law_627 dL_law_628 dL_law_631 632 rfl ?_
  refine c_V X Lk_L_155 (hM7 _) dL_law_632 rfl 0 rfl (ci := 7) rfl rfl (Nat.le_of_ble_eq_true rfl) ⟨(Nat.le_of_ble_eq_true rfl), (Nat.le_of_ble_eq_true rfl)⟩ ⟨hk, hn⟩ 635 rfl [.int (bi R)] rfl ?_
  refine g_istore X dL_law_635 637 rfl (by decide) ((7, .int (bi R)) :: (6, .int (hcd [xIOB] oo)) :: lvL sb o d a b i) rfl ?_
  refine g_aload_n X dL_law_637 638 rfl rfl ?_
  refine c_V X Lk_L_131 (k_X7_thrown E l _ b μ' a σ') dL_law_638 rfl 0 rfl (ci := 7) rfl rfl (Nat.le_of_ble_eq_true rfl) ⟨(Nat.le_of_ble_eq_true rfl), (Nat.le_of_ble_eq_true rfl)⟩ ⟨hk, hn⟩ 641 rfl [.int T] (by rw [hT]; rfl) ?_
  refine g_iload X dL_law_641 643 rfl rfl ?_
  refine g_ic_eq X dL_law_643 648 646 rfl rfl (fun _ => ?_) (fun q => absurd hA.code q)
  refine g_iload X dL_law_648 650 rfl rfl ?_
  refine g_if_ne X dL_law_650 672 653 rfl rfl (fun _ => J) (fun h0 => ?_)
  refine g_aload_n X dL_law_653 654 rfl rfl ?_
  refine g_iconst X dL_law_654 655 rfl (v := 0) rfl ?_
  refine g_lald X dL_law_655 656 rfl 51 rfl in_0 ?_
  refine g_iload X dL_law_656 658 rfl rfl ?_
  refine g_ll X dL_law_658 dL_law_661 dL_law_662 dL_law_665 666 rfl ?_
  refine g_lcmp X dL_law_666 667 rfl ?_
  exact g_if_eq X dL_law_667 672 670 rfl rfl (fun _ => J) (fun q => absurd (hA.lg (by decide) h0) q)

set_option maxHeartbeats 4000000 in
set_option maxRecDepth 100000 in
theorem law_7 {E : kE} {p : Program} {l : Launch} {e : Env} {s : State} {m : MethodId} {below : List Frame} {meth : Method} {c : Code} {Q : State → Prop} {sb L : Nat} {xs : Nat → Int32} (C : LC E p l s m meth c sb L xs) {a b : Nat → Nat} {o d i k n : Nat} {σ μ σ' μ' : Sto} {F : Nat → Int64} {D : Nat → UInt64} (hi : i + 5 ≤ L) (hk : k + 4 ≤ 3161) (hn : n + 24 ≤ 122043) {oo : OT} {T : Int32} {R : Int32} (hM6 : ∀ wr, KT E l yX6_setHold cX6_setHold 3 (some .int) 6 90 4 24 [.ref (a 0), .int (xs (i + 1))] (WW E b μ a σ wr) oo (WW E b μ a σ' wr)) (hM7 : ∀ wr, KM E l yX7_setHold cX7_setHold 2 (some .int) 1 23 0 0 [.ref (b 0), .int (xs (i + 1))] (WW E b μ a σ' wr) (some (.int R)) (WW E b μ' a σ' wr)) (hT : μ' 0 0 = T) (hA : AGR [xIAE] oo T R) (next : ∀ (F' : Nat → Int64) (D' : Nat → UInt64), G E (LA s) 9 p l e room_1 s m #[.ref sb] below meth c Q (k + 4) (n + 24) (WL E b μ' a σ' o d F' D') 2284 (lvL sb o d a b i) []) : G E (LA s) 9 p l e room_1 s m #[.ref sb] below meth c Q k n (WL E b μ a σ o d F D) 675 (lvL sb o d a b i) [] := by
  obtain ⟨X, hZ, hN, hX, hbl, hL, hlt⟩ := C
  have hbA := LC.nA hbl
  have hL2 : L < 2 ^ 31 := by omega
  have J : G E (LA s) 9 p l e room_1 s m #[.ref sb] below meth c Q (k + 4) (n + 24) (WL E b μ' a σ' o d (hou F oo) D) 728 ((7, .int R) :: (6, .int (hcd [xIAE] oo)) :: lvL sb o d a b i) [] := by
    refine g_goto X dL_law_728 2284 rfl ?_
    exact g_lv _ (fun q hq => List.mem_cons_of_mem _ (List.mem_cons_of_mem _ hq)) (next _ _)
  refine g_aload_n X dL_law_675 676 rfl rfl ?_
  refine g_S X hX hbl hbA hL2 dL_law_676 dL_law_677 dL_law_679 dL_law_680 dL_law_681 (t := 1) rfl rfl rfl (by omega) 682 rfl ?_
  refine g_aload_n X dL_law_682 683 rfl rfl ?_
  refine g_callH X hZ hN Lk_L_156 (k_L_setHold E l b μ a σ σ' o d F D (xs (i + 1)) (hM6 _) hA.ov) dL_law_683 rfl rfl (Nat.le_of_ble_eq_true rfl) ⟨(Nat.le_of_ble_eq_true rfl), (Nat.le_of_ble_eq_true rfl)⟩ ⟨hk, hn⟩ 686 rfl [.int (hcd [xIAE] oo)] rfl ?_
  refine g_istore X dL_law_686 688 rfl (by decide) ((6, .int (hcd [xIAE] oo)) :: lvL sb o d a b i) rfl ?_
  refine g_aload_n X dL_law_688 689 rfl rfl ?_
  refine g_S X hX hbl hbA hL2 dL_law_689 dL_law_690 dL_law_692 dL_law_693 dL_law_694 (t := 1) rfl rfl rfl (by omega) 695 rfl ?_
  refine c_V X Lk_L_158 (hM7 _) dL_law_695 rfl 0 rfl (ci := 7) rfl rfl (Nat.le_of_ble_eq_true rfl) ⟨(Nat.le_of_ble_eq_true rfl), (Nat.le_of_ble_eq_true rfl)⟩ ⟨hk, hn⟩ 698 rfl [.int R] rfl ?_
  refine g_istore X dL_law_698 700 rfl (by decide) ((7, .int R) :: (6, .int (hcd [xIAE] oo)) :: lvL sb o d a b i) rfl ?_
  refine g_aload_n X dL_law_700 701 rfl rfl ?_
  refine c_V X Lk_L_131 (k_X7_thrown E l _ b μ' a σ') dL_law_701 rfl 0 rfl (ci := 7) rfl rfl (Nat.le_of_ble_eq_true rfl) ⟨(Nat.le_of_ble_eq_true rfl), (Nat.le_of_ble_eq_true rfl)⟩ ⟨hk, hn⟩ 704 rfl [.int T] (by rw [hT]; rfl) ?_
  refine g_iload X dL_law_704 706 rfl rfl ?_
  refine g_ic_eq X dL_law_706 711 709 rfl rfl (fun _ => ?_) (fun q => absurd hA.code q)
  refine g_iload X dL_law_711 713 rfl rfl ?_
  refine g_if_ne X dL_law_713 728 716 rfl rfl (fun _ => J) (fun h0 => ?_)
  refine g_aload_n X dL_law_716 717 rfl rfl ?_
  refine g_iconst X dL_law_717 718 rfl (v := 0) rfl ?_
  refine g_lald X dL_law_718 719 rfl 51 rfl in_0 ?_
  refine g_iload X dL_law_719 721 rfl rfl ?_
  refine g_i2l X dL_law_721 722 rfl ?_
  refine g_lcmp X dL_law_722 723 rfl ?_
  exact g_if_eq X dL_law_723 728 726 rfl rfl (fun _ => J) (fun q => absurd (hA.lg (by decide) h0) q)

set_option maxHeartbeats 4000000 in
set_option maxRecDepth 100000 in
theorem law_8 {E : kE} {p : Program} {l : Launch} {e : Env} {s : State} {m : MethodId} {below : List Frame} {meth : Method} {c : Code} {Q : State → Prop} {sb L : Nat} {xs : Nat → Int32} (C : LC E p l s m meth c sb L xs) {a b : Nat → Nat} {o d i k n : Nat} {σ μ σ' μ' : Sto} {F : Nat → Int64} {D : Nat → UInt64} (hi : i + 5 ≤ L) (hk : k + 4 ≤ 3161) (hn : n + 24 ≤ 122043) {oo : OT} {T : Int32} {R : Int32} (hM6 : ∀ wr, KT E l yX6_setQuarantine cX6_setQuarantine 3 (some .int) 6 90 4 24 [.ref (a 0), .int (xs (i + 1))] (WW E b μ a σ wr) oo (WW E b μ a σ' wr)) (hM7 : ∀ wr, KM E l yX7_setQuarantine cX7_setQuarantine 2 (some .int) 1 23 0 0 [.ref (b 0), .int (xs (i + 1))] (WW E b μ a σ' wr) (some (.int R)) (WW E b μ' a σ' wr)) (hT : μ' 0 0 = T) (hA : AGR [xIAE] oo T R) (next : ∀ (F' : Nat → Int64) (D' : Nat → UInt64), G E (LA s) 9 p l e room_1 s m #[.ref sb] below meth c Q (k + 4) (n + 24) (WL E b μ' a σ' o d F' D') 2284 (lvL sb o d a b i) []) : G E (LA s) 9 p l e room_1 s m #[.ref sb] below meth c Q k n (WL E b μ a σ o d F D) 731 (lvL sb o d a b i) [] := by
  obtain ⟨X, hZ, hN, hX, hbl, hL, hlt⟩ := C
  have hbA := LC.nA hbl
  have hL2 : L < 2 ^ 31 := by omega
  have J : G E (LA s) 9 p l e room_1 s m #[.ref sb] below meth c Q (k + 4) (n + 24) (WL E b μ' a σ' o d (hou F oo) D) 784 ((7, .int R) :: (6, .int (hcd [xIAE] oo)) :: lvL sb o d a b i) [] := by
    refine g_goto X dL_law_784 2284 rfl ?_
    exact g_lv _ (fun q hq => List.mem_cons_of_mem _ (List.mem_cons_of_mem _ hq)) (next _ _)
  refine g_aload_n X dL_law_731 732 rfl rfl ?_
  refine g_S X hX hbl hbA hL2 dL_law_732 dL_law_733 dL_law_735 dL_law_736 dL_law_737 (t := 1) rfl rfl rfl (by omega) 738 rfl ?_
  refine g_aload_n X dL_law_738 739 rfl rfl ?_
  refine g_callH X hZ hN Lk_L_159 (k_L_setQuarantine E l b μ a σ σ' o d F D (xs (i + 1)) (hM6 _) hA.ov) dL_law_739 rfl rfl (Nat.le_of_ble_eq_true rfl) ⟨(Nat.le_of_ble_eq_true rfl), (Nat.le_of_ble_eq_true rfl)⟩ ⟨hk, hn⟩ 742 rfl [.int (hcd [xIAE] oo)] rfl ?_
  refine g_istore X dL_law_742 744 rfl (by decide) ((6, .int (hcd [xIAE] oo)) :: lvL sb o d a b i) rfl ?_
  refine g_aload_n X dL_law_744 745 rfl rfl ?_
  refine g_S X hX hbl hbA hL2 dL_law_745 dL_law_746 dL_law_748 dL_law_749 dL_law_750 (t := 1) rfl rfl rfl (by omega) 751 rfl ?_
  refine c_V X Lk_L_161 (hM7 _) dL_law_751 rfl 0 rfl (ci := 7) rfl rfl (Nat.le_of_ble_eq_true rfl) ⟨(Nat.le_of_ble_eq_true rfl), (Nat.le_of_ble_eq_true rfl)⟩ ⟨hk, hn⟩ 754 rfl [.int R] rfl ?_
  refine g_istore X dL_law_754 756 rfl (by decide) ((7, .int R) :: (6, .int (hcd [xIAE] oo)) :: lvL sb o d a b i) rfl ?_
  refine g_aload_n X dL_law_756 757 rfl rfl ?_
  refine c_V X Lk_L_131 (k_X7_thrown E l _ b μ' a σ') dL_law_757 rfl 0 rfl (ci := 7) rfl rfl (Nat.le_of_ble_eq_true rfl) ⟨(Nat.le_of_ble_eq_true rfl), (Nat.le_of_ble_eq_true rfl)⟩ ⟨hk, hn⟩ 760 rfl [.int T] (by rw [hT]; rfl) ?_
  refine g_iload X dL_law_760 762 rfl rfl ?_
  refine g_ic_eq X dL_law_762 767 765 rfl rfl (fun _ => ?_) (fun q => absurd hA.code q)
  refine g_iload X dL_law_767 769 rfl rfl ?_
  refine g_if_ne X dL_law_769 784 772 rfl rfl (fun _ => J) (fun h0 => ?_)
  refine g_aload_n X dL_law_772 773 rfl rfl ?_
  refine g_iconst X dL_law_773 774 rfl (v := 0) rfl ?_
  refine g_lald X dL_law_774 775 rfl 51 rfl in_0 ?_
  refine g_iload X dL_law_775 777 rfl rfl ?_
  refine g_i2l X dL_law_777 778 rfl ?_
  refine g_lcmp X dL_law_778 779 rfl ?_
  exact g_if_eq X dL_law_779 784 782 rfl rfl (fun _ => J) (fun q => absurd (hA.lg (by decide) h0) q)

set_option maxHeartbeats 4000000 in
set_option maxRecDepth 100000 in
theorem law_9 {E : kE} {p : Program} {l : Launch} {e : Env} {s : State} {m : MethodId} {below : List Frame} {meth : Method} {c : Code} {Q : State → Prop} {sb L : Nat} {xs : Nat → Int32} (C : LC E p l s m meth c sb L xs) {a b : Nat → Nat} {o d i k n : Nat} {σ μ σ' μ' : Sto} {F : Nat → Int64} {D : Nat → UInt64} (hi : i + 5 ≤ L) (hk : k + 4 ≤ 3161) (hn : n + 24 ≤ 122043) {oo : OT} {T : Int32} {R : Bool} (hM6 : ∀ wr, KT E l yX6_setDirect cX6_setDirect 4 (some .boolean) 7 110 4 24 [.ref (a 0), .int (xs (i + 1)), .int (bi (!decide (xs (i + 2) = 0)))] (WW E b μ a σ wr) oo (WW E b μ a σ' wr)) (hM7 : ∀ wr, KM E l yX7_setDirect cX7_setDirect 3 (some .boolean) 2 46 0 0 [.ref (b 0), .int (xs (i + 1)), .int (bi (!decide (xs (i + 2) = 0)))] (WW E b μ a σ' wr) (some (.int (bi R))) (WW E b μ' a σ' wr)) (hT : μ' 0 0 = T) (hA : AGR [xIOB] oo T (bi R)) (next : ∀ (F' : Nat → Int64) (D' : Nat → UInt64), G E (LA s) 9 p l e room_1 s m #[.ref sb] below meth c Q (k + 4) (n + 24) (WL E b μ' a σ' o d F' D') 2284 (lvL sb o d a b i) []) : G E (LA s) 9 p l e room_1 s m #[.ref sb] below meth c Q k n (WL E b μ a σ o d F D) 787 (lvL sb o d a b i) [] := by
  obtain ⟨X, hZ, hN, hX, hbl, hL, hlt⟩ := C
  have hbA := LC.nA hbl
  have hL2 : L < 2 ^ 31 := by omega
  have J : G E (LA s) 9 p l e room_1 s m #[.ref sb] below meth c Q (k + 4) (n + 24) (WL E b μ' a σ' o d (hou F oo) D) 875 ((7, .int (bi R)) :: (6, .int (hcd [xIOB] oo)) :: lvL sb o d a b i) [] := by
    refine g_goto X dL_law_875 2284 rfl ?_
    exact g_lv _ (fun q hq => List.mem_cons_of_mem _ (List.mem_cons_of_mem _ hq)) (next _ _)
  refine g_aload_n X dL_law_787 788 rfl rfl ?_
  refine g_S X hX hbl hbA hL2 dL_law_788 dL_law_789 dL_law_791 dL_law_792 dL_law_793 (t := 1) rfl rfl rfl (by omega) 794 rfl ?_
  refine g_S X hX hbl hbA hL2 dL_law_794 dL_law_795 dL_law_797 dL_law_798 dL_law_799 (t := 2) rfl rfl rfl (by omega) 800 rfl ?_
  refine g_bl X dL_law_800 dL_law_803 dL_law_804 dL_law_807 808 rfl ?_
  refine g_aload_n X dL_law_808 809 rfl rfl ?_
  refine g_callH X hZ hN Lk_L_162 (k_L_setDirect E l b μ a σ σ' o d F D (xs (i + 1)) (!decide (xs (i + 2) = 0)) (hM6 _) hA.ovz) dL_law_809 rfl rfl (Nat.le_of_ble_eq_true rfl) ⟨(Nat.le_of_ble_eq_true rfl), (Nat.le_of_ble_eq_true rfl)⟩ ⟨hk, hn⟩ 812 rfl [.int (hcd [xIOB] oo)] rfl ?_
  refine g_istore X dL_law_812 814 rfl (by decide) ((6, .int (hcd [xIOB] oo)) :: lvL sb o d a b i) rfl ?_
  refine g_aload_n X dL_law_814 815 rfl rfl ?_
  refine g_S X hX hbl hbA hL2 dL_law_815 dL_law_816 dL_law_818 dL_law_819 dL_law_820 (t := 1) rfl rfl rfl (by omega) 821 rfl ?_
  refine g_S X hX hbl hbA hL2 dL_law_821 dL_law_822 dL_law_824 dL_law_825 dL_law_826 (t := 2) rfl rfl rfl (by omega) 827 rfl ?_
  refine g_bl X dL_law_827 dL_law_830 dL_law_831 dL_law_834 835 rfl ?_
  refine c_V X Lk_L_164 (hM7 _) dL_law_835 rfl 0 rfl (ci := 7) rfl rfl (Nat.le_of_ble_eq_true rfl) ⟨(Nat.le_of_ble_eq_true rfl), (Nat.le_of_ble_eq_true rfl)⟩ ⟨hk, hn⟩ 838 rfl [.int (bi R)] rfl ?_
  refine g_istore X dL_law_838 840 rfl (by decide) ((7, .int (bi R)) :: (6, .int (hcd [xIOB] oo)) :: lvL sb o d a b i) rfl ?_
  refine g_aload_n X dL_law_840 841 rfl rfl ?_
  refine c_V X Lk_L_131 (k_X7_thrown E l _ b μ' a σ') dL_law_841 rfl 0 rfl (ci := 7) rfl rfl (Nat.le_of_ble_eq_true rfl) ⟨(Nat.le_of_ble_eq_true rfl), (Nat.le_of_ble_eq_true rfl)⟩ ⟨hk, hn⟩ 844 rfl [.int T] (by rw [hT]; rfl) ?_
  refine g_iload X dL_law_844 846 rfl rfl ?_
  refine g_ic_eq X dL_law_846 851 849 rfl rfl (fun _ => ?_) (fun q => absurd hA.code q)
  refine g_iload X dL_law_851 853 rfl rfl ?_
  refine g_if_ne X dL_law_853 875 856 rfl rfl (fun _ => J) (fun h0 => ?_)
  refine g_aload_n X dL_law_856 857 rfl rfl ?_
  refine g_iconst X dL_law_857 858 rfl (v := 0) rfl ?_
  refine g_lald X dL_law_858 859 rfl 51 rfl in_0 ?_
  refine g_iload X dL_law_859 861 rfl rfl ?_
  refine g_ll X dL_law_861 dL_law_864 dL_law_865 dL_law_868 869 rfl ?_
  refine g_lcmp X dL_law_869 870 rfl ?_
  exact g_if_eq X dL_law_870 875 873 rfl rfl (fun _ => J) (fun q => absurd (hA.lg (by decide) h0) q)

set_option maxHeartbeats 4000000 in
set_option maxRecDepth 100000 in
theorem law_10 {E : kE} {p : Program} {l : Launch} {e : Env} {s : State} {m : MethodId} {below : List Frame} {meth : Method} {c : Code} {Q : State → Prop} {sb L : Nat} {xs : Nat → Int32} (C : LC E p l s m meth c sb L xs) {a b : Nat → Nat} {o d i k n : Nat} {σ μ σ' μ' : Sto} {F : Nat → Int64} {D : Nat → UInt64} (hi : i + 5 ≤ L) (hk : k + 4 ≤ 3161) (hn : n + 24 ≤ 122043) {oo : OT} {T : Int32} {R : Bool} (hM6 : ∀ wr, KT E l yX6_setRelay cX6_setRelay 4 (some .boolean) 7 110 4 24 [.ref (a 0), .int (xs (i + 1)), .int (bi (!decide (xs (i + 2) = 0)))] (WW E b μ a σ wr) oo (WW E b μ a σ' wr)) (hM7 : ∀ wr, KM E l yX7_setRelay cX7_setRelay 3 (some .boolean) 2 46 0 0 [.ref (b 0), .int (xs (i + 1)), .int (bi (!decide (xs (i + 2) = 0)))] (WW E b μ a σ' wr) (some (.int (bi R))) (WW E b μ' a σ' wr)) (hT : μ' 0 0 = T) (hA : AGR [xIOB] oo T (bi R)) (next : ∀ (F' : Nat → Int64) (D' : Nat → UInt64), G E (LA s) 9 p l e room_1 s m #[.ref sb] below meth c Q (k + 4) (n + 24) (WL E b μ' a σ' o d F' D') 2284 (lvL sb o d a b i) []) : G E (LA s) 9 p l e room_1 s m #[.ref sb] below meth c Q k n (WL E b μ a σ o d F D) 878 (lvL sb o d a b i) [] := by
  obtain ⟨X, hZ, hN, hX, hbl, hL, hlt⟩ := C
  have hbA := LC.nA hbl
  have hL2 : L < 2 ^ 31 := by omega
  have J : G E (LA s) 9 p l e room_1 s m #[.ref sb] below meth c Q (k + 4) (n + 24) (WL E b μ' a σ' o d (hou F oo) D) 966 ((7, .int (bi R)) :: (6, .int (hcd [xIOB] oo)) :: lvL sb o d a b i) [] := by
    refine g_goto X dL_law_966 2284 rfl ?_
    exact g_lv _ (fun q hq => List.mem_cons_of_mem _ (List.mem_cons_of_mem _ hq)) (next _ _)
  refine g_aload_n X dL_law_878 879 rfl rfl ?_
  refine g_S X hX hbl hbA hL2 dL_law_879 dL_law_880 dL_law_882 dL_law_883 dL_law_884 (t := 1) rfl rfl rfl (by omega) 885 rfl ?_
  refine g_S X hX hbl hbA hL2 dL_law_885 dL_law_886 dL_law_888 dL_law_889 dL_law_890 (t := 2) rfl rfl rfl (by omega) 891 rfl ?_
  refine g_bl X dL_law_891 dL_law_894 dL_law_895 dL_law_898 899 rfl ?_
  refine g_aload_n X dL_law_899 900 rfl rfl ?_
  refine g_callH X hZ hN Lk_L_165 (k_L_setRelay E l b μ a σ σ' o d F D (xs (i + 1)) (!decide (xs (i + 2) = 0)) (hM6 _) hA.ovz) dL_law_900 rfl rfl (Nat.le_of_ble_eq_true rfl) ⟨(Nat.le_of_ble_eq_true rfl), (Nat.le_of_ble_eq_true rfl)⟩ ⟨hk, hn⟩ 903 rfl [.int (hcd [xIOB] oo)] rfl ?_
  refine g_istore X dL_law_903 905 rfl (by decide) ((6, .int (hcd [xIOB] oo)) :: lvL sb o d a b i) rfl ?_
  refine g_aload_n X dL_law_905 906 rfl rfl ?_
  refine g_S X hX hbl hbA hL2 dL_law_906 dL_law_907 dL_law_909 dL_law_910 dL_law_911 (t := 1) rfl rfl rfl (by omega) 912 rfl ?_
  refine g_S X hX hbl hbA hL2 dL_law_912 dL_law_913 dL_law_915 dL_law_916 dL_law_917 (t := 2) rfl rfl rfl (by omega) 918 rfl ?_
  refine g_bl X dL_law_918 dL_law_921 dL_law_922 dL_law_925 926 rfl ?_
  refine c_V X Lk_L_167 (hM7 _) dL_law_926 rfl 0 rfl (ci := 7) rfl rfl (Nat.le_of_ble_eq_true rfl) ⟨(Nat.le_of_ble_eq_true rfl), (Nat.le_of_ble_eq_true rfl)⟩ ⟨hk, hn⟩ 929 rfl [.int (bi R)] rfl ?_
  refine g_istore X dL_law_929 931 rfl (by decide) ((7, .int (bi R)) :: (6, .int (hcd [xIOB] oo)) :: lvL sb o d a b i) rfl ?_
  refine g_aload_n X dL_law_931 932 rfl rfl ?_
  refine c_V X Lk_L_131 (k_X7_thrown E l _ b μ' a σ') dL_law_932 rfl 0 rfl (ci := 7) rfl rfl (Nat.le_of_ble_eq_true rfl) ⟨(Nat.le_of_ble_eq_true rfl), (Nat.le_of_ble_eq_true rfl)⟩ ⟨hk, hn⟩ 935 rfl [.int T] (by rw [hT]; rfl) ?_
  refine g_iload X dL_law_935 937 rfl rfl ?_
  refine g_ic_eq X dL_law_937 942 940 rfl rfl (fun _ => ?_) (fun q => absurd hA.code q)
  refine g_iload X dL_law_942 944 rfl rfl ?_
  refine g_if_ne X dL_law_944 966 947 rfl rfl (fun _ => J) (fun h0 => ?_)
  refine g_aload_n X dL_law_947 948 rfl rfl ?_
  refine g_iconst X dL_law_948 949 rfl (v := 0) rfl ?_
  refine g_lald X dL_law_949 950 rfl 51 rfl in_0 ?_
  refine g_iload X dL_law_950 952 rfl rfl ?_
  refine g_ll X dL_law_952 dL_law_955 dL_law_956 dL_law_959 960 rfl ?_
  refine g_lcmp X dL_law_960 961 rfl ?_
  exact g_if_eq X dL_law_961 966 964 rfl rfl (fun _ => J) (fun q => absurd (hA.lg (by decide) h0) q)

set_option maxHeartbeats 4000000 in
set_option maxRecDepth 100000 in
theorem law_11 {E : kE} {p : Program} {l : Launch} {e : Env} {s : State} {m : MethodId} {below : List Frame} {meth : Method} {c : Code} {Q : State → Prop} {sb L : Nat} {xs : Nat → Int32} (C : LC E p l s m meth c sb L xs) {a b : Nat → Nat} {o d i k n : Nat} {σ μ σ' μ' : Sto} {F : Nat → Int64} {D : Nat → UInt64} (hi : i + 5 ≤ L) (hk : k + 4 ≤ 3161) (hn : n + 24 ≤ 122043) {oo : OT} {T : Int32} {R : Int32} (hM6 : ∀ wr, KT E l yX6_discover cX6_discover 5 (some .int) 7 139 4 24 [.ref (a 0), .int (xs (i + 1)), .int (xs (i + 2)), .int (xs (i + 3))] (WW E b μ a σ wr) oo (WW E b μ a σ' wr)) (hM7 : ∀ wr, KM E l yX7_discover cX7_discover 5 (some .int) 5 114 0 0 [.ref (b 0), .int (xs (i + 1)), .int (xs (i + 2)), .int (xs (i + 3))] (WW E b μ a σ' wr) (some (.int R)) (WW E b μ' a σ' wr)) (hT : μ' 0 0 = T) (hA : AGR [xIOB, xISE, xNSE] oo T R) (next : ∀ (F' : Nat → Int64) (D' : Nat → UInt64), G E (LA s) 9 p l e room_1 s m #[.ref sb] below meth c Q (k + 4) (n + 24) (WL E b μ' a σ' o d F' D') 2284 (lvL sb o d a b i) []) : G E (LA s) 9 p l e room_1 s m #[.ref sb] below meth c Q k n (WL E b μ a σ o d F D) 969 (lvL sb o d a b i) [] := by
  obtain ⟨X, hZ, hN, hX, hbl, hL, hlt⟩ := C
  have hbA := LC.nA hbl
  have hL2 : L < 2 ^ 31 := by omega
  have J : G E (LA s) 9 p l e room_1 s m #[.ref sb] below meth c Q (k + 4) (n + 24) (WL E b μ' a σ' o d (hou F oo) D) 1046 ((7, .int R) :: (6, .int (hcd [xIOB, xISE, xNSE] oo)) :: lvL sb o d a b i) [] := by
    refine g_goto X dL_law_1046 2284 rfl ?_
    exact g_lv _ (fun q hq => List.mem_cons_of_mem _ (List.mem_cons_of_mem _ hq)) (next _ _)
  refine g_aload_n X dL_law_969 970 rfl rfl ?_
  refine g_S X hX hbl hbA hL2 dL_law_970 dL_law_971 dL_law_973 dL_law_974 dL_law_975 (t := 1) rfl rfl rfl (by omega) 976 rfl ?_
  refine g_S X hX hbl hbA hL2 dL_law_976 dL_law_977 dL_law_979 dL_law_980 dL_law_981 (t := 2) rfl rfl rfl (by omega) 982 rfl ?_
  refine g_S X hX hbl hbA hL2 dL_law_982 dL_law_983 dL_law_985 dL_law_986 dL_law_987 (t := 3) rfl rfl rfl (by omega) 988 rfl ?_
  refine g_aload_n X dL_law_988 989 rfl rfl ?_
  refine g_callH X hZ hN Lk_L_168 (k_L_discover E l b μ a σ σ' o d F D (xs (i + 1)) (xs (i + 2)) (xs (i + 3)) (hM6 _) hA.ov) dL_law_989 rfl rfl (Nat.le_of_ble_eq_true rfl) ⟨(Nat.le_of_ble_eq_true rfl), (Nat.le_of_ble_eq_true rfl)⟩ ⟨hk, hn⟩ 992 rfl [.int (hcd [xIOB, xISE, xNSE] oo)] rfl ?_
  refine g_istore X dL_law_992 994 rfl (by decide) ((6, .int (hcd [xIOB, xISE, xNSE] oo)) :: lvL sb o d a b i) rfl ?_
  refine g_aload_n X dL_law_994 995 rfl rfl ?_
  refine g_S X hX hbl hbA hL2 dL_law_995 dL_law_996 dL_law_998 dL_law_999 dL_law_1000 (t := 1) rfl rfl rfl (by omega) 1001 rfl ?_
  refine g_S X hX hbl hbA hL2 dL_law_1001 dL_law_1002 dL_law_1004 dL_law_1005 dL_law_1006 (t := 2) rfl rfl rfl (by omega) 1007 rfl ?_
  refine g_S X hX hbl hbA hL2 dL_law_1007 dL_law_1008 dL_law_1010 dL_law_1011 dL_law_1012 (t := 3) rfl rfl rfl (by omega) 1013 rfl ?_
  refine c_V X Lk_L_171 (hM7 _) dL_law_1013 rfl 0 rfl (ci := 7) rfl rfl (Nat.le_of_ble_eq_true rfl) ⟨(Nat.le_of_ble_eq_true rfl), (Nat.le_of_ble_eq_true rfl)⟩ ⟨hk, hn⟩ 1016 rfl [.int R] rfl ?_
  refine g_istore X dL_law_1016 1018 rfl (by decide) ((7, .int R) :: (6, .int (hcd [xIOB, xISE, xNSE] oo)) :: lvL sb o d a b i) rfl ?_
  refine g_aload_n X dL_law_1018 1019 rfl rfl ?_
  refine c_V X Lk_L_131 (k_X7_thrown E l _ b μ' a σ') dL_law_1019 rfl 0 rfl (ci := 7) rfl rfl (Nat.le_of_ble_eq_true rfl) ⟨(Nat.le_of_ble_eq_true rfl), (Nat.le_of_ble_eq_true rfl)⟩ ⟨hk, hn⟩ 1022 rfl [.int T] (by rw [hT]; rfl) ?_
  refine g_iload X dL_law_1022 1024 rfl rfl ?_
  refine g_ic_eq X dL_law_1024 1029 1027 rfl rfl (fun _ => ?_) (fun q => absurd hA.code q)
  refine g_iload X dL_law_1029 1031 rfl rfl ?_
  refine g_if_ne X dL_law_1031 1046 1034 rfl rfl (fun _ => J) (fun h0 => ?_)
  refine g_aload_n X dL_law_1034 1035 rfl rfl ?_
  refine g_iconst X dL_law_1035 1036 rfl (v := 0) rfl ?_
  refine g_lald X dL_law_1036 1037 rfl 51 rfl in_0 ?_
  refine g_iload X dL_law_1037 1039 rfl rfl ?_
  refine g_i2l X dL_law_1039 1040 rfl ?_
  refine g_lcmp X dL_law_1040 1041 rfl ?_
  exact g_if_eq X dL_law_1041 1046 1044 rfl rfl (fun _ => J) (fun q => absurd (hA.lg (by decide) h0) q)

set_option maxHeartbeats 4000000 in
set_option maxRecDepth 100000 in
theorem law_12 {E : kE} {p : Program} {l : Launch} {e : Env} {s : State} {m : MethodId} {below : List Frame} {meth : Method} {c : Code} {Q : State → Prop} {sb L : Nat} {xs : Nat → Int32} (C : LC E p l s m meth c sb L xs) {a b : Nat → Nat} {o d i k n : Nat} {σ μ σ' μ' : Sto} {F : Nat → Int64} {D : Nat → UInt64} (hi : i + 5 ≤ L) (hk : k + 4 ≤ 3161) (hn : n + 24 ≤ 122043) {oo : OT} {T : Int32} {R : Int32} (hM6 : ∀ wr, KT E l yX6_accept cX6_accept 2 (some .int) 7 110 4 24 [.ref (a 0), .int (xs (i + 1))] (WW E b μ a σ wr) oo (WW E b μ a σ' wr)) (hM7 : ∀ wr, KM E l yX7_accept cX7_accept 3 (some .int) 3 68 0 0 [.ref (b 0), .int (xs (i + 1))] (WW E b μ a σ' wr) (some (.int R)) (WW E b μ' a σ' wr)) (hT : μ' 0 0 = T) (hA : AGR [xIOB, xNSE, xISE] oo T R) (next : ∀ (F' : Nat → Int64) (D' : Nat → UInt64), G E (LA s) 9 p l e room_1 s m #[.ref sb] below meth c Q (k + 4) (n + 24) (WL E b μ' a σ' o d F' D') 2284 (lvL sb o d a b i) []) : G E (LA s) 9 p l e room_1 s m #[.ref sb] below meth c Q k n (WL E b μ a σ o d F D) 1049 (lvL sb o d a b i) [] := by
  obtain ⟨X, hZ, hN, hX, hbl, hL, hlt⟩ := C
  have hbA := LC.nA hbl
  have hL2 : L < 2 ^ 31 := by omega
  have J : G E (LA s) 9 p l e room_1 s m #[.ref sb] below meth c Q (k + 4) (n + 24) (WL E b μ' a σ' o d (hou F oo) D) 1102 ((7, .int R) :: (6, .int (hcd [xIOB, xNSE, xISE] oo)) :: lvL sb o d a b i) [] := by
    refine g_goto X dL_law_1102 2284 rfl ?_
    exact g_lv _ (fun q hq => List.mem_cons_of_mem _ (List.mem_cons_of_mem _ hq)) (next _ _)
  refine g_aload_n X dL_law_1049 1050 rfl rfl ?_
  refine g_S X hX hbl hbA hL2 dL_law_1050 dL_law_1051 dL_law_1053 dL_law_1054 dL_law_1055 (t := 1) rfl rfl rfl (by omega) 1056 rfl ?_
  refine g_aload_n X dL_law_1056 1057 rfl rfl ?_
  refine g_callH X hZ hN Lk_L_172 (k_L_accept E l b μ a σ σ' o d F D (xs (i + 1)) (hM6 _) hA.ov) dL_law_1057 rfl rfl (Nat.le_of_ble_eq_true rfl) ⟨(Nat.le_of_ble_eq_true rfl), (Nat.le_of_ble_eq_true rfl)⟩ ⟨hk, hn⟩ 1060 rfl [.int (hcd [xIOB, xNSE, xISE] oo)] rfl ?_
  refine g_istore X dL_law_1060 1062 rfl (by decide) ((6, .int (hcd [xIOB, xNSE, xISE] oo)) :: lvL sb o d a b i) rfl ?_
  refine g_aload_n X dL_law_1062 1063 rfl rfl ?_
  refine g_S X hX hbl hbA hL2 dL_law_1063 dL_law_1064 dL_law_1066 dL_law_1067 dL_law_1068 (t := 1) rfl rfl rfl (by omega) 1069 rfl ?_
  refine c_V X Lk_L_174 (hM7 _) dL_law_1069 rfl 0 rfl (ci := 7) rfl rfl (Nat.le_of_ble_eq_true rfl) ⟨(Nat.le_of_ble_eq_true rfl), (Nat.le_of_ble_eq_true rfl)⟩ ⟨hk, hn⟩ 1072 rfl [.int R] rfl ?_
  refine g_istore X dL_law_1072 1074 rfl (by decide) ((7, .int R) :: (6, .int (hcd [xIOB, xNSE, xISE] oo)) :: lvL sb o d a b i) rfl ?_
  refine g_aload_n X dL_law_1074 1075 rfl rfl ?_
  refine c_V X Lk_L_131 (k_X7_thrown E l _ b μ' a σ') dL_law_1075 rfl 0 rfl (ci := 7) rfl rfl (Nat.le_of_ble_eq_true rfl) ⟨(Nat.le_of_ble_eq_true rfl), (Nat.le_of_ble_eq_true rfl)⟩ ⟨hk, hn⟩ 1078 rfl [.int T] (by rw [hT]; rfl) ?_
  refine g_iload X dL_law_1078 1080 rfl rfl ?_
  refine g_ic_eq X dL_law_1080 1085 1083 rfl rfl (fun _ => ?_) (fun q => absurd hA.code q)
  refine g_iload X dL_law_1085 1087 rfl rfl ?_
  refine g_if_ne X dL_law_1087 1102 1090 rfl rfl (fun _ => J) (fun h0 => ?_)
  refine g_aload_n X dL_law_1090 1091 rfl rfl ?_
  refine g_iconst X dL_law_1091 1092 rfl (v := 0) rfl ?_
  refine g_lald X dL_law_1092 1093 rfl 51 rfl in_0 ?_
  refine g_iload X dL_law_1093 1095 rfl rfl ?_
  refine g_i2l X dL_law_1095 1096 rfl ?_
  refine g_lcmp X dL_law_1096 1097 rfl ?_
  exact g_if_eq X dL_law_1097 1102 1100 rfl rfl (fun _ => J) (fun q => absurd (hA.lg (by decide) h0) q)

set_option maxHeartbeats 4000000 in
set_option maxRecDepth 100000 in
theorem law_13 {E : kE} {p : Program} {l : Launch} {e : Env} {s : State} {m : MethodId} {below : List Frame} {meth : Method} {c : Code} {Q : State → Prop} {sb L : Nat} {xs : Nat → Int32} (C : LC E p l s m meth c sb L xs) {a b : Nat → Nat} {o d i k n : Nat} {σ μ σ' μ' : Sto} {F : Nat → Int64} {D : Nat → UInt64} (hi : i + 5 ≤ L) (hk : k + 4 ≤ 3161) (hn : n + 24 ≤ 122043) {oo : OT} {T : Int32} {R : Int32} (hM6 : ∀ wr, KT E l yX6_release cX6_release 3 (some .int) 7 111 4 24 [.ref (a 0), .int (xs (i + 1))] (WW E b μ a σ wr) oo (WW E b μ a σ' wr)) (hM7 : ∀ wr, KM E l yX7_release cX7_release 3 (some .int) 3 63 0 0 [.ref (b 0), .int (xs (i + 1))] (WW E b μ a σ' wr) (some (.int R)) (WW E b μ' a σ' wr)) (hT : μ' 0 0 = T) (hA : AGR [xIOB, xNSE] oo T R) (next : ∀ (F' : Nat → Int64) (D' : Nat → UInt64), G E (LA s) 9 p l e room_1 s m #[.ref sb] below meth c Q (k + 4) (n + 24) (WL E b μ' a σ' o d F' D') 2284 (lvL sb o d a b i) []) : G E (LA s) 9 p l e room_1 s m #[.ref sb] below meth c Q k n (WL E b μ a σ o d F D) 1105 (lvL sb o d a b i) [] := by
  obtain ⟨X, hZ, hN, hX, hbl, hL, hlt⟩ := C
  have hbA := LC.nA hbl
  have hL2 : L < 2 ^ 31 := by omega
  have J : G E (LA s) 9 p l e room_1 s m #[.ref sb] below meth c Q (k + 4) (n + 24) (WL E b μ' a σ' o d (hou F oo) D) 1158 ((7, .int R) :: (6, .int (hcd [xIOB, xNSE] oo)) :: lvL sb o d a b i) [] := by
    refine g_goto X dL_law_1158 2284 rfl ?_
    exact g_lv _ (fun q hq => List.mem_cons_of_mem _ (List.mem_cons_of_mem _ hq)) (next _ _)
  refine g_aload_n X dL_law_1105 1106 rfl rfl ?_
  refine g_S X hX hbl hbA hL2 dL_law_1106 dL_law_1107 dL_law_1109 dL_law_1110 dL_law_1111 (t := 1) rfl rfl rfl (by omega) 1112 rfl ?_
  refine g_aload_n X dL_law_1112 1113 rfl rfl ?_
  refine g_callH X hZ hN Lk_L_175 (k_L_release E l b μ a σ σ' o d F D (xs (i + 1)) (hM6 _) hA.ov) dL_law_1113 rfl rfl (Nat.le_of_ble_eq_true rfl) ⟨(Nat.le_of_ble_eq_true rfl), (Nat.le_of_ble_eq_true rfl)⟩ ⟨hk, hn⟩ 1116 rfl [.int (hcd [xIOB, xNSE] oo)] rfl ?_
  refine g_istore X dL_law_1116 1118 rfl (by decide) ((6, .int (hcd [xIOB, xNSE] oo)) :: lvL sb o d a b i) rfl ?_
  refine g_aload_n X dL_law_1118 1119 rfl rfl ?_
  refine g_S X hX hbl hbA hL2 dL_law_1119 dL_law_1120 dL_law_1122 dL_law_1123 dL_law_1124 (t := 1) rfl rfl rfl (by omega) 1125 rfl ?_
  refine c_V X Lk_L_177 (hM7 _) dL_law_1125 rfl 0 rfl (ci := 7) rfl rfl (Nat.le_of_ble_eq_true rfl) ⟨(Nat.le_of_ble_eq_true rfl), (Nat.le_of_ble_eq_true rfl)⟩ ⟨hk, hn⟩ 1128 rfl [.int R] rfl ?_
  refine g_istore X dL_law_1128 1130 rfl (by decide) ((7, .int R) :: (6, .int (hcd [xIOB, xNSE] oo)) :: lvL sb o d a b i) rfl ?_
  refine g_aload_n X dL_law_1130 1131 rfl rfl ?_
  refine c_V X Lk_L_131 (k_X7_thrown E l _ b μ' a σ') dL_law_1131 rfl 0 rfl (ci := 7) rfl rfl (Nat.le_of_ble_eq_true rfl) ⟨(Nat.le_of_ble_eq_true rfl), (Nat.le_of_ble_eq_true rfl)⟩ ⟨hk, hn⟩ 1134 rfl [.int T] (by rw [hT]; rfl) ?_
  refine g_iload X dL_law_1134 1136 rfl rfl ?_
  refine g_ic_eq X dL_law_1136 1141 1139 rfl rfl (fun _ => ?_) (fun q => absurd hA.code q)
  refine g_iload X dL_law_1141 1143 rfl rfl ?_
  refine g_if_ne X dL_law_1143 1158 1146 rfl rfl (fun _ => J) (fun h0 => ?_)
  refine g_aload_n X dL_law_1146 1147 rfl rfl ?_
  refine g_iconst X dL_law_1147 1148 rfl (v := 0) rfl ?_
  refine g_lald X dL_law_1148 1149 rfl 51 rfl in_0 ?_
  refine g_iload X dL_law_1149 1151 rfl rfl ?_
  refine g_i2l X dL_law_1151 1152 rfl ?_
  refine g_lcmp X dL_law_1152 1153 rfl ?_
  exact g_if_eq X dL_law_1153 1158 1156 rfl rfl (fun _ => J) (fun q => absurd (hA.lg (by decide) h0) q)

set_option maxHeartbeats 4000000 in
set_option maxRecDepth 100000 in
theorem law_14 {E : kE} {p : Program} {l : Launch} {e : Env} {s : State} {m : MethodId} {below : List Frame} {meth : Method} {c : Code} {Q : State → Prop} {sb L : Nat} {xs : Nat → Int32} (C : LC E p l s m meth c sb L xs) {a b : Nat → Nat} {o d i k n : Nat} {σ μ σ' μ' : Sto} {F : Nat → Int64} {D : Nat → UInt64} (hi : i + 5 ≤ L) (hk : k + 4 ≤ 3161) (hn : n + 24 ≤ 122043) {oo : OT} {T : Int32} {R : Int32} (hM6 : ∀ wr, KT E l yX6_decline cX6_decline 3 (some .int) 7 111 4 24 [.ref (a 0), .int (xs (i + 1))] (WW E b μ a σ wr) oo (WW E b μ a σ' wr)) (hM7 : ∀ wr, KM E l yX7_decline cX7_decline 3 (some .int) 3 63 0 0 [.ref (b 0), .int (xs (i + 1))] (WW E b μ a σ' wr) (some (.int R)) (WW E b μ' a σ' wr)) (hT : μ' 0 0 = T) (hA : AGR [xIOB, xNSE] oo T R) (next : ∀ (F' : Nat → Int64) (D' : Nat → UInt64), G E (LA s) 9 p l e room_1 s m #[.ref sb] below meth c Q (k + 4) (n + 24) (WL E b μ' a σ' o d F' D') 2284 (lvL sb o d a b i) []) : G E (LA s) 9 p l e room_1 s m #[.ref sb] below meth c Q k n (WL E b μ a σ o d F D) 1161 (lvL sb o d a b i) [] := by
  obtain ⟨X, hZ, hN, hX, hbl, hL, hlt⟩ := C
  have hbA := LC.nA hbl
  have hL2 : L < 2 ^ 31 := by omega
  have J : G E (LA s) 9 p l e room_1 s m #[.ref sb] below meth c Q (k + 4) (n + 24) (WL E b μ' a σ' o d (hou F oo) D) 1214 ((7, .int R) :: (6, .int (hcd [xIOB, xNSE] oo)) :: lvL sb o d a b i) [] := by
    refine g_goto X dL_law_1214 2284 rfl ?_
    exact g_lv _ (fun q hq => List.mem_cons_of_mem _ (List.mem_cons_of_mem _ hq)) (next _ _)
  refine g_aload_n X dL_law_1161 1162 rfl rfl ?_
  refine g_S X hX hbl hbA hL2 dL_law_1162 dL_law_1163 dL_law_1165 dL_law_1166 dL_law_1167 (t := 1) rfl rfl rfl (by omega) 1168 rfl ?_
  refine g_aload_n X dL_law_1168 1169 rfl rfl ?_
  refine g_callH X hZ hN Lk_L_178 (k_L_decline E l b μ a σ σ' o d F D (xs (i + 1)) (hM6 _) hA.ov) dL_law_1169 rfl rfl (Nat.le_of_ble_eq_true rfl) ⟨(Nat.le_of_ble_eq_true rfl), (Nat.le_of_ble_eq_true rfl)⟩ ⟨hk, hn⟩ 1172 rfl [.int (hcd [xIOB, xNSE] oo)] rfl ?_
  refine g_istore X dL_law_1172 1174 rfl (by decide) ((6, .int (hcd [xIOB, xNSE] oo)) :: lvL sb o d a b i) rfl ?_
  refine g_aload_n X dL_law_1174 1175 rfl rfl ?_
  refine g_S X hX hbl hbA hL2 dL_law_1175 dL_law_1176 dL_law_1178 dL_law_1179 dL_law_1180 (t := 1) rfl rfl rfl (by omega) 1181 rfl ?_
  refine c_V X Lk_L_180 (hM7 _) dL_law_1181 rfl 0 rfl (ci := 7) rfl rfl (Nat.le_of_ble_eq_true rfl) ⟨(Nat.le_of_ble_eq_true rfl), (Nat.le_of_ble_eq_true rfl)⟩ ⟨hk, hn⟩ 1184 rfl [.int R] rfl ?_
  refine g_istore X dL_law_1184 1186 rfl (by decide) ((7, .int R) :: (6, .int (hcd [xIOB, xNSE] oo)) :: lvL sb o d a b i) rfl ?_
  refine g_aload_n X dL_law_1186 1187 rfl rfl ?_
  refine c_V X Lk_L_131 (k_X7_thrown E l _ b μ' a σ') dL_law_1187 rfl 0 rfl (ci := 7) rfl rfl (Nat.le_of_ble_eq_true rfl) ⟨(Nat.le_of_ble_eq_true rfl), (Nat.le_of_ble_eq_true rfl)⟩ ⟨hk, hn⟩ 1190 rfl [.int T] (by rw [hT]; rfl) ?_
  refine g_iload X dL_law_1190 1192 rfl rfl ?_
  refine g_ic_eq X dL_law_1192 1197 1195 rfl rfl (fun _ => ?_) (fun q => absurd hA.code q)
  refine g_iload X dL_law_1197 1199 rfl rfl ?_
  refine g_if_ne X dL_law_1199 1214 1202 rfl rfl (fun _ => J) (fun h0 => ?_)
  refine g_aload_n X dL_law_1202 1203 rfl rfl ?_
  refine g_iconst X dL_law_1203 1204 rfl (v := 0) rfl ?_
  refine g_lald X dL_law_1204 1205 rfl 51 rfl in_0 ?_
  refine g_iload X dL_law_1205 1207 rfl rfl ?_
  refine g_i2l X dL_law_1207 1208 rfl ?_
  refine g_lcmp X dL_law_1208 1209 rfl ?_
  exact g_if_eq X dL_law_1209 1214 1212 rfl rfl (fun _ => J) (fun q => absurd (hA.lg (by decide) h0) q)

set_option maxHeartbeats 4000000 in
set_option maxRecDepth 100000 in
theorem law_15 {E : kE} {p : Program} {l : Launch} {e : Env} {s : State} {m : MethodId} {below : List Frame} {meth : Method} {c : Code} {Q : State → Prop} {sb L : Nat} {xs : Nat → Int32} (C : LC E p l s m meth c sb L xs) {a b : Nat → Nat} {o d i k n : Nat} {σ μ σ' μ' : Sto} {F : Nat → Int64} {D : Nat → UInt64} (hi : i + 5 ≤ L) (hk : k + 4 ≤ 3161) (hn : n + 24 ≤ 122043) {oo : OT} {T : Int32} {R : Bool} (hM6 : ∀ wr, KT E l yX6_renew cX6_renew 2 (some .boolean) 7 111 4 24 [.ref (a 0), .int (xs (i + 1))] (WW E b μ a σ wr) oo (WW E b μ a σ' wr)) (hM7 : ∀ wr, KM E l yX7_renew cX7_renew 2 (some .boolean) 4 91 0 0 [.ref (b 0), .int (xs (i + 1))] (WW E b μ a σ' wr) (some (.int (bi R))) (WW E b μ' a σ' wr)) (hT : μ' 0 0 = T) (hA : AGR [xIOB, xNSE, xISE] oo T (bi R)) (next : ∀ (F' : Nat → Int64) (D' : Nat → UInt64), G E (LA s) 9 p l e room_1 s m #[.ref sb] below meth c Q (k + 4) (n + 24) (WL E b μ' a σ' o d F' D') 2284 (lvL sb o d a b i) []) : G E (LA s) 9 p l e room_1 s m #[.ref sb] below meth c Q k n (WL E b μ a σ o d F D) 1217 (lvL sb o d a b i) [] := by
  obtain ⟨X, hZ, hN, hX, hbl, hL, hlt⟩ := C
  have hbA := LC.nA hbl
  have hL2 : L < 2 ^ 31 := by omega
  have J : G E (LA s) 9 p l e room_1 s m #[.ref sb] below meth c Q (k + 4) (n + 24) (WL E b μ' a σ' o d (hou F oo) D) 1277 ((7, .int (bi R)) :: (6, .int (hcd [xIOB, xNSE, xISE] oo)) :: lvL sb o d a b i) [] := by
    refine g_goto X dL_law_1277 2284 rfl ?_
    exact g_lv _ (fun q hq => List.mem_cons_of_mem _ (List.mem_cons_of_mem _ hq)) (next _ _)
  refine g_aload_n X dL_law_1217 1218 rfl rfl ?_
  refine g_S X hX hbl hbA hL2 dL_law_1218 dL_law_1219 dL_law_1221 dL_law_1222 dL_law_1223 (t := 1) rfl rfl rfl (by omega) 1224 rfl ?_
  refine g_aload_n X dL_law_1224 1225 rfl rfl ?_
  refine g_callH X hZ hN Lk_L_181 (k_L_renew E l b μ a σ σ' o d F D (xs (i + 1)) (hM6 _) hA.ovz) dL_law_1225 rfl rfl (Nat.le_of_ble_eq_true rfl) ⟨(Nat.le_of_ble_eq_true rfl), (Nat.le_of_ble_eq_true rfl)⟩ ⟨hk, hn⟩ 1228 rfl [.int (hcd [xIOB, xNSE, xISE] oo)] rfl ?_
  refine g_istore X dL_law_1228 1230 rfl (by decide) ((6, .int (hcd [xIOB, xNSE, xISE] oo)) :: lvL sb o d a b i) rfl ?_
  refine g_aload_n X dL_law_1230 1231 rfl rfl ?_
  refine g_S X hX hbl hbA hL2 dL_law_1231 dL_law_1232 dL_law_1234 dL_law_1235 dL_law_1236 (t := 1) rfl rfl rfl (by omega) 1237 rfl ?_
  refine c_V X Lk_L_183 (hM7 _) dL_law_1237 rfl 0 rfl (ci := 7) rfl rfl (Nat.le_of_ble_eq_true rfl) ⟨(Nat.le_of_ble_eq_true rfl), (Nat.le_of_ble_eq_true rfl)⟩ ⟨hk, hn⟩ 1240 rfl [.int (bi R)] rfl ?_
  refine g_istore X dL_law_1240 1242 rfl (by decide) ((7, .int (bi R)) :: (6, .int (hcd [xIOB, xNSE, xISE] oo)) :: lvL sb o d a b i) rfl ?_
  refine g_aload_n X dL_law_1242 1243 rfl rfl ?_
  refine c_V X Lk_L_131 (k_X7_thrown E l _ b μ' a σ') dL_law_1243 rfl 0 rfl (ci := 7) rfl rfl (Nat.le_of_ble_eq_true rfl) ⟨(Nat.le_of_ble_eq_true rfl), (Nat.le_of_ble_eq_true rfl)⟩ ⟨hk, hn⟩ 1246 rfl [.int T] (by rw [hT]; rfl) ?_
  refine g_iload X dL_law_1246 1248 rfl rfl ?_
  refine g_ic_eq X dL_law_1248 1253 1251 rfl rfl (fun _ => ?_) (fun q => absurd hA.code q)
  refine g_iload X dL_law_1253 1255 rfl rfl ?_
  refine g_if_ne X dL_law_1255 1277 1258 rfl rfl (fun _ => J) (fun h0 => ?_)
  refine g_aload_n X dL_law_1258 1259 rfl rfl ?_
  refine g_iconst X dL_law_1259 1260 rfl (v := 0) rfl ?_
  refine g_lald X dL_law_1260 1261 rfl 51 rfl in_0 ?_
  refine g_iload X dL_law_1261 1263 rfl rfl ?_
  refine g_ll X dL_law_1263 dL_law_1266 dL_law_1267 dL_law_1270 1271 rfl ?_
  refine g_lcmp X dL_law_1271 1272 rfl ?_
  exact g_if_eq X dL_law_1272 1277 1275 rfl rfl (fun _ => J) (fun q => absurd (hA.lg (by decide) h0) q)

set_option maxHeartbeats 4000000 in
set_option maxRecDepth 100000 in
theorem law_16 {E : kE} {p : Program} {l : Launch} {e : Env} {s : State} {m : MethodId} {below : List Frame} {meth : Method} {c : Code} {Q : State → Prop} {sb L : Nat} {xs : Nat → Int32} (C : LC E p l s m meth c sb L xs) {a b : Nat → Nat} {o d i k n : Nat} {σ μ σ' μ' : Sto} {F : Nat → Int64} {D : Nat → UInt64} (hi : i + 5 ≤ L) (hk : k + 4 ≤ 3161) (hn : n + 24 ≤ 122043) {oo : OT} {T : Int32} {R : Int32} (hM6 : ∀ wr, KT E l yX6_advance cX6_advance 3 (some .int) 7 159 4 24 [.ref (a 0), .int (xs (i + 1))] (WW E b μ a σ wr) oo (WW E b μ a σ' wr)) (hM7 : ∀ wr, KM E l yX7_advance cX7_advance 4 (some .int) 6 138 0 0 [.ref (b 0), .int (xs (i + 1))] (WW E b μ a σ' wr) (some (.int R)) (WW E b μ' a σ' wr)) (hT : μ' 0 0 = T) (hA : AGR [xIAE, xISE] oo T R) (next : ∀ (F' : Nat → Int64) (D' : Nat → UInt64), G E (LA s) 9 p l e room_1 s m #[.ref sb] below meth c Q (k + 4) (n + 24) (WL E b μ' a σ' o d F' D') 2284 (lvL sb o d a b i) []) : G E (LA s) 9 p l e room_1 s m #[.ref sb] below meth c Q k n (WL E b μ a σ o d F D) 1280 (lvL sb o d a b i) [] := by
  obtain ⟨X, hZ, hN, hX, hbl, hL, hlt⟩ := C
  have hbA := LC.nA hbl
  have hL2 : L < 2 ^ 31 := by omega
  have J : G E (LA s) 9 p l e room_1 s m #[.ref sb] below meth c Q (k + 4) (n + 24) (WL E b μ' a σ' o d (hou F oo) D) 1333 ((7, .int R) :: (6, .int (hcd [xIAE, xISE] oo)) :: lvL sb o d a b i) [] := by
    refine g_goto X dL_law_1333 2284 rfl ?_
    exact g_lv _ (fun q hq => List.mem_cons_of_mem _ (List.mem_cons_of_mem _ hq)) (next _ _)
  refine g_aload_n X dL_law_1280 1281 rfl rfl ?_
  refine g_S X hX hbl hbA hL2 dL_law_1281 dL_law_1282 dL_law_1284 dL_law_1285 dL_law_1286 (t := 1) rfl rfl rfl (by omega) 1287 rfl ?_
  refine g_aload_n X dL_law_1287 1288 rfl rfl ?_
  refine g_callH X hZ hN Lk_L_184 (k_L_advance E l b μ a σ σ' o d F D (xs (i + 1)) (hM6 _) hA.ov) dL_law_1288 rfl rfl (Nat.le_of_ble_eq_true rfl) ⟨(Nat.le_of_ble_eq_true rfl), (Nat.le_of_ble_eq_true rfl)⟩ ⟨hk, hn⟩ 1291 rfl [.int (hcd [xIAE, xISE] oo)] rfl ?_
  refine g_istore X dL_law_1291 1293 rfl (by decide) ((6, .int (hcd [xIAE, xISE] oo)) :: lvL sb o d a b i) rfl ?_
  refine g_aload_n X dL_law_1293 1294 rfl rfl ?_
  refine g_S X hX hbl hbA hL2 dL_law_1294 dL_law_1295 dL_law_1297 dL_law_1298 dL_law_1299 (t := 1) rfl rfl rfl (by omega) 1300 rfl ?_
  refine c_V X Lk_L_186 (hM7 _) dL_law_1300 rfl 0 rfl (ci := 7) rfl rfl (Nat.le_of_ble_eq_true rfl) ⟨(Nat.le_of_ble_eq_true rfl), (Nat.le_of_ble_eq_true rfl)⟩ ⟨hk, hn⟩ 1303 rfl [.int R] rfl ?_
  refine g_istore X dL_law_1303 1305 rfl (by decide) ((7, .int R) :: (6, .int (hcd [xIAE, xISE] oo)) :: lvL sb o d a b i) rfl ?_
  refine g_aload_n X dL_law_1305 1306 rfl rfl ?_
  refine c_V X Lk_L_131 (k_X7_thrown E l _ b μ' a σ') dL_law_1306 rfl 0 rfl (ci := 7) rfl rfl (Nat.le_of_ble_eq_true rfl) ⟨(Nat.le_of_ble_eq_true rfl), (Nat.le_of_ble_eq_true rfl)⟩ ⟨hk, hn⟩ 1309 rfl [.int T] (by rw [hT]; rfl) ?_
  refine g_iload X dL_law_1309 1311 rfl rfl ?_
  refine g_ic_eq X dL_law_1311 1316 1314 rfl rfl (fun _ => ?_) (fun q => absurd hA.code q)
  refine g_iload X dL_law_1316 1318 rfl rfl ?_
  refine g_if_ne X dL_law_1318 1333 1321 rfl rfl (fun _ => J) (fun h0 => ?_)
  refine g_aload_n X dL_law_1321 1322 rfl rfl ?_
  refine g_iconst X dL_law_1322 1323 rfl (v := 0) rfl ?_
  refine g_lald X dL_law_1323 1324 rfl 51 rfl in_0 ?_
  refine g_iload X dL_law_1324 1326 rfl rfl ?_
  refine g_i2l X dL_law_1326 1327 rfl ?_
  refine g_lcmp X dL_law_1327 1328 rfl ?_
  exact g_if_eq X dL_law_1328 1333 1331 rfl rfl (fun _ => J) (fun q => absurd (hA.lg (by decide) h0) q)

set_option maxHeartbeats 4000000 in
set_option maxRecDepth 100000 in
theorem law_17 {E : kE} {p : Program} {l : Launch} {e : Env} {s : State} {m : MethodId} {below : List Frame} {meth : Method} {c : Code} {Q : State → Prop} {sb L : Nat} {xs : Nat → Int32} (C : LC E p l s m meth c sb L xs) {a b : Nat → Nat} {o d i k n : Nat} {σ μ σ' μ' : Sto} {F : Nat → Int64} {D : Nat → UInt64} (hi : i + 5 ≤ L) (hk : k + 4 ≤ 3161) (hn : n + 24 ≤ 122043) {oo : OT} {T : Int32} {R : Int32} (hM6 : ∀ wr, KT E l yX6_advanceToEvent cX6_advanceToEvent 3 (some .int) 7 159 4 24 [.ref (a 0)] (WW E b μ a σ wr) oo (WW E b μ a σ' wr)) (hM7 : ∀ wr, KM E l yX7_advanceToEvent cX7_advanceToEvent 2 (some .int) 6 138 0 0 [.ref (b 0)] (WW E b μ a σ' wr) (some (.int R)) (WW E b μ' a σ' wr)) (hT : μ' 0 0 = T) (hA : AGR [xNSE, xISE] oo T R) (next : ∀ (F' : Nat → Int64) (D' : Nat → UInt64), G E (LA s) 9 p l e room_1 s m #[.ref sb] below meth c Q (k + 4) (n + 24) (WL E b μ' a σ' o d F' D') 2284 (lvL sb o d a b i) []) : G E (LA s) 9 p l e room_1 s m #[.ref sb] below meth c Q k n (WL E b μ a σ o d F D) 1336 (lvL sb o d a b i) [] := by
  obtain ⟨X, hZ, hN, hX, hbl, hL, hlt⟩ := C
  have hbA := LC.nA hbl
  have hL2 : L < 2 ^ 31 := by omega
  have J : G E (LA s) 9 p l e room_1 s m #[.ref sb] below meth c Q (k + 4) (n + 24) (WL E b μ' a σ' o d (hou F oo) D) 1377 ((7, .int R) :: (6, .int (hcd [xNSE, xISE] oo)) :: lvL sb o d a b i) [] := by
    refine g_goto X dL_law_1377 2284 rfl ?_
    exact g_lv _ (fun q hq => List.mem_cons_of_mem _ (List.mem_cons_of_mem _ hq)) (next _ _)
  refine g_aload_n X dL_law_1336 1337 rfl rfl ?_
  refine g_aload_n X dL_law_1337 1338 rfl rfl ?_
  refine g_callH X hZ hN Lk_L_187 (k_L_advanceToEvent E l b μ a σ σ' o d F D  (hM6 _) hA.ov) dL_law_1338 rfl rfl (Nat.le_of_ble_eq_true rfl) ⟨(Nat.le_of_ble_eq_true rfl), (Nat.le_of_ble_eq_true rfl)⟩ ⟨hk, hn⟩ 1341 rfl [.int (hcd [xNSE, xISE] oo)] rfl ?_
  refine g_istore X dL_law_1341 1343 rfl (by decide) ((6, .int (hcd [xNSE, xISE] oo)) :: lvL sb o d a b i) rfl ?_
  refine g_aload_n X dL_law_1343 1344 rfl rfl ?_
  refine c_V X Lk_L_190 (hM7 _) dL_law_1344 rfl 0 rfl (ci := 7) rfl rfl (Nat.le_of_ble_eq_true rfl) ⟨(Nat.le_of_ble_eq_true rfl), (Nat.le_of_ble_eq_true rfl)⟩ ⟨hk, hn⟩ 1347 rfl [.int R] rfl ?_
  refine g_istore X dL_law_1347 1349 rfl (by decide) ((7, .int R) :: (6, .int (hcd [xNSE, xISE] oo)) :: lvL sb o d a b i) rfl ?_
  refine g_aload_n X dL_law_1349 1350 rfl rfl ?_
  refine c_V X Lk_L_131 (k_X7_thrown E l _ b μ' a σ') dL_law_1350 rfl 0 rfl (ci := 7) rfl rfl (Nat.le_of_ble_eq_true rfl) ⟨(Nat.le_of_ble_eq_true rfl), (Nat.le_of_ble_eq_true rfl)⟩ ⟨hk, hn⟩ 1353 rfl [.int T] (by rw [hT]; rfl) ?_
  refine g_iload X dL_law_1353 1355 rfl rfl ?_
  refine g_ic_eq X dL_law_1355 1360 1358 rfl rfl (fun _ => ?_) (fun q => absurd hA.code q)
  refine g_iload X dL_law_1360 1362 rfl rfl ?_
  refine g_if_ne X dL_law_1362 1377 1365 rfl rfl (fun _ => J) (fun h0 => ?_)
  refine g_aload_n X dL_law_1365 1366 rfl rfl ?_
  refine g_iconst X dL_law_1366 1367 rfl (v := 0) rfl ?_
  refine g_lald X dL_law_1367 1368 rfl 51 rfl in_0 ?_
  refine g_iload X dL_law_1368 1370 rfl rfl ?_
  refine g_i2l X dL_law_1370 1371 rfl ?_
  refine g_lcmp X dL_law_1371 1372 rfl ?_
  exact g_if_eq X dL_law_1372 1377 1375 rfl rfl (fun _ => J) (fun q => absurd (hA.lg (by decide) h0) q)

set_option maxHeartbeats 4000000 in
set_option maxRecDepth 100000 in
theorem law_18 {E : kE} {p : Program} {l : Launch} {e : Env} {s : State} {m : MethodId} {below : List Frame} {meth : Method} {c : Code} {Q : State → Prop} {sb L : Nat} {xs : Nat → Int32} (C : LC E p l s m meth c sb L xs) {a b : Nat → Nat} {o d i k n : Nat} {σ μ σ' μ' : Sto} {F : Nat → Int64} {D : Nat → UInt64} (hi : i + 5 ≤ L) (hk : k ≤ 3161) (hn : n ≤ 122043) {u v : Int32} (hM6 : ∀ wr, KM E l yX6_time cX6_time 1 (some .int) 0 0 0 0 [.ref (a 0)] (WW E b μ a σ wr) (some (.int u)) (WW E b μ a σ' wr)) (hM7 : ∀ wr, KM E l yX7_time cX7_time 1 (some .int) 0 0 0 0 [.ref (b 0)] (WW E b μ a σ' wr) (some (.int v)) (WW E b μ' a σ' wr)) (hE : u = v) (next : G E (LA s) 9 p l e room_1 s m #[.ref sb] below meth c Q k n (WL E b μ' a σ' o d F D) 2284 (lvL sb o d a b i) []) : G E (LA s) 9 p l e room_1 s m #[.ref sb] below meth c Q k n (WL E b μ a σ o d F D) 1380 (lvL sb o d a b i) [] := by
  obtain ⟨X, hZ, hN, hX, hbl, hL, hlt⟩ := C
  refine g_aload_n X dL_law_1380 1381 rfl rfl ?_
  refine c_V X Lk_L_191 (hM6 _) dL_law_1381 rfl 4 rfl (ci := 6) rfl rfl (Nat.le_of_ble_eq_true rfl) ⟨(Nat.le_of_ble_eq_true rfl), (Nat.le_of_ble_eq_true rfl)⟩ ⟨hk, hn⟩ 1384 rfl [.int u] rfl ?_
  refine g_aload_n X dL_law_1384 1385 rfl rfl ?_
  refine c_V X Lk_L_194 (hM7 _) dL_law_1385 rfl 0 rfl (ci := 7) rfl rfl (Nat.le_of_ble_eq_true rfl) ⟨(Nat.le_of_ble_eq_true rfl), (Nat.le_of_ble_eq_true rfl)⟩ ⟨hk, hn⟩ 1388 rfl [.int v, .int u] rfl ?_
  exact g_ic_eq X dL_law_1388 2284 1391 rfl rfl (fun _ => next) (fun q => absurd hE q)

set_option maxHeartbeats 4000000 in
set_option maxRecDepth 100000 in
theorem law_19 {E : kE} {p : Program} {l : Launch} {e : Env} {s : State} {m : MethodId} {below : List Frame} {meth : Method} {c : Code} {Q : State → Prop} {sb L : Nat} {xs : Nat → Int32} (C : LC E p l s m meth c sb L xs) {a b : Nat → Nat} {o d i k n : Nat} {σ μ σ' μ' : Sto} {F : Nat → Int64} {D : Nat → UInt64} (hi : i + 5 ≤ L) (hk : k + 4 ≤ 3161) (hn : n + 24 ≤ 122043) {oo : OT} {T : Int32} {R : Int32} (hM6 : ∀ wr, KT E l yX6_clientState cX6_clientState 2 (some .int) 7 110 4 24 [.ref (a 0), .int (xs (i + 1))] (WW E b μ a σ wr) oo (WW E b μ a σ' wr)) (hM7 : ∀ wr, KM E l yX7_clientState cX7_clientState 2 (some .int) 2 42 0 0 [.ref (b 0), .int (xs (i + 1))] (WW E b μ a σ' wr) (some (.int R)) (WW E b μ' a σ' wr)) (hT : μ' 0 0 = T) (hA : AGR [xIOB] oo T R) (next : ∀ (F' : Nat → Int64) (D' : Nat → UInt64), G E (LA s) 9 p l e room_1 s m #[.ref sb] below meth c Q (k + 4) (n + 24) (WL E b μ' a σ' o d F' D') 2284 (lvL sb o d a b i) []) : G E (LA s) 9 p l e room_1 s m #[.ref sb] below meth c Q k n (WL E b μ a σ o d F D) 1393 (lvL sb o d a b i) [] := by
  obtain ⟨X, hZ, hN, hX, hbl, hL, hlt⟩ := C
  have hbA := LC.nA hbl
  have hL2 : L < 2 ^ 31 := by omega
  have J : G E (LA s) 9 p l e room_1 s m #[.ref sb] below meth c Q (k + 4) (n + 24) (WL E b μ' a σ' o d (hou F oo) D) 1446 ((7, .int R) :: (6, .int (hcd [xIOB] oo)) :: lvL sb o d a b i) [] := by
    refine g_goto X dL_law_1446 2284 rfl ?_
    exact g_lv _ (fun q hq => List.mem_cons_of_mem _ (List.mem_cons_of_mem _ hq)) (next _ _)
  refine g_aload_n X dL_law_1393 1394 rfl rfl ?_
  refine g_S X hX hbl hbA hL2 dL_law_1394 dL_law_1395 dL_law_1397 dL_law_1398 dL_law_1399 (t := 1) rfl rfl rfl (by omega) 1400 rfl ?_
  refine g_aload_n X dL_law_1400 1401 rfl rfl ?_
  refine g_callH X hZ hN Lk_L_195 (k_L_clientState E l b μ a σ σ' o d F D (xs (i + 1)) (hM6 _) hA.ov) dL_law_1401 rfl rfl (Nat.le_of_ble_eq_true rfl) ⟨(Nat.le_of_ble_eq_true rfl), (Nat.le_of_ble_eq_true rfl)⟩ ⟨hk, hn⟩ 1404 rfl [.int (hcd [xIOB] oo)] rfl ?_
  refine g_istore X dL_law_1404 1406 rfl (by decide) ((6, .int (hcd [xIOB] oo)) :: lvL sb o d a b i) rfl ?_
  refine g_aload_n X dL_law_1406 1407 rfl rfl ?_
  refine g_S X hX hbl hbA hL2 dL_law_1407 dL_law_1408 dL_law_1410 dL_law_1411 dL_law_1412 (t := 1) rfl rfl rfl (by omega) 1413 rfl ?_
  refine c_V X Lk_L_197 (hM7 _) dL_law_1413 rfl 0 rfl (ci := 7) rfl rfl (Nat.le_of_ble_eq_true rfl) ⟨(Nat.le_of_ble_eq_true rfl), (Nat.le_of_ble_eq_true rfl)⟩ ⟨hk, hn⟩ 1416 rfl [.int R] rfl ?_
  refine g_istore X dL_law_1416 1418 rfl (by decide) ((7, .int R) :: (6, .int (hcd [xIOB] oo)) :: lvL sb o d a b i) rfl ?_
  refine g_aload_n X dL_law_1418 1419 rfl rfl ?_
  refine c_V X Lk_L_131 (k_X7_thrown E l _ b μ' a σ') dL_law_1419 rfl 0 rfl (ci := 7) rfl rfl (Nat.le_of_ble_eq_true rfl) ⟨(Nat.le_of_ble_eq_true rfl), (Nat.le_of_ble_eq_true rfl)⟩ ⟨hk, hn⟩ 1422 rfl [.int T] (by rw [hT]; rfl) ?_
  refine g_iload X dL_law_1422 1424 rfl rfl ?_
  refine g_ic_eq X dL_law_1424 1429 1427 rfl rfl (fun _ => ?_) (fun q => absurd hA.code q)
  refine g_iload X dL_law_1429 1431 rfl rfl ?_
  refine g_if_ne X dL_law_1431 1446 1434 rfl rfl (fun _ => J) (fun h0 => ?_)
  refine g_aload_n X dL_law_1434 1435 rfl rfl ?_
  refine g_iconst X dL_law_1435 1436 rfl (v := 0) rfl ?_
  refine g_lald X dL_law_1436 1437 rfl 51 rfl in_0 ?_
  refine g_iload X dL_law_1437 1439 rfl rfl ?_
  refine g_i2l X dL_law_1439 1440 rfl ?_
  refine g_lcmp X dL_law_1440 1441 rfl ?_
  exact g_if_eq X dL_law_1441 1446 1444 rfl rfl (fun _ => J) (fun q => absurd (hA.lg (by decide) h0) q)

set_option maxHeartbeats 4000000 in
set_option maxRecDepth 100000 in
theorem law_20 {E : kE} {p : Program} {l : Launch} {e : Env} {s : State} {m : MethodId} {below : List Frame} {meth : Method} {c : Code} {Q : State → Prop} {sb L : Nat} {xs : Nat → Int32} (C : LC E p l s m meth c sb L xs) {a b : Nat → Nat} {o d i k n : Nat} {σ μ σ' μ' : Sto} {F : Nat → Int64} {D : Nat → UInt64} (hi : i + 5 ≤ L) (hk : k + 4 ≤ 3161) (hn : n + 24 ≤ 122043) {oo : OT} {T : Int32} {R : Int32} (hM6 : ∀ wr, KT E l yX6_addressOf cX6_addressOf 2 (some .int) 7 110 4 24 [.ref (a 0), .int (xs (i + 1))] (WW E b μ a σ wr) oo (WW E b μ a σ' wr)) (hM7 : ∀ wr, KM E l yX7_addressOf cX7_addressOf 2 (some .int) 2 42 0 0 [.ref (b 0), .int (xs (i + 1))] (WW E b μ a σ' wr) (some (.int R)) (WW E b μ' a σ' wr)) (hT : μ' 0 0 = T) (hA : AGR [xIOB, xNSE] oo T R) (next : ∀ (F' : Nat → Int64) (D' : Nat → UInt64), G E (LA s) 9 p l e room_1 s m #[.ref sb] below meth c Q (k + 4) (n + 24) (WL E b μ' a σ' o d F' D') 2284 (lvL sb o d a b i) []) : G E (LA s) 9 p l e room_1 s m #[.ref sb] below meth c Q k n (WL E b μ a σ o d F D) 1449 (lvL sb o d a b i) [] := by
  obtain ⟨X, hZ, hN, hX, hbl, hL, hlt⟩ := C
  have hbA := LC.nA hbl
  have hL2 : L < 2 ^ 31 := by omega
  have J : G E (LA s) 9 p l e room_1 s m #[.ref sb] below meth c Q (k + 4) (n + 24) (WL E b μ' a σ' o d (hou F oo) D) 1502 ((7, .int R) :: (6, .int (hcd [xIOB, xNSE] oo)) :: lvL sb o d a b i) [] := by
    refine g_goto X dL_law_1502 2284 rfl ?_
    exact g_lv _ (fun q hq => List.mem_cons_of_mem _ (List.mem_cons_of_mem _ hq)) (next _ _)
  refine g_aload_n X dL_law_1449 1450 rfl rfl ?_
  refine g_S X hX hbl hbA hL2 dL_law_1450 dL_law_1451 dL_law_1453 dL_law_1454 dL_law_1455 (t := 1) rfl rfl rfl (by omega) 1456 rfl ?_
  refine g_aload_n X dL_law_1456 1457 rfl rfl ?_
  refine g_callH X hZ hN Lk_L_198 (k_L_addressOf E l b μ a σ σ' o d F D (xs (i + 1)) (hM6 _) hA.ov) dL_law_1457 rfl rfl (Nat.le_of_ble_eq_true rfl) ⟨(Nat.le_of_ble_eq_true rfl), (Nat.le_of_ble_eq_true rfl)⟩ ⟨hk, hn⟩ 1460 rfl [.int (hcd [xIOB, xNSE] oo)] rfl ?_
  refine g_istore X dL_law_1460 1462 rfl (by decide) ((6, .int (hcd [xIOB, xNSE] oo)) :: lvL sb o d a b i) rfl ?_
  refine g_aload_n X dL_law_1462 1463 rfl rfl ?_
  refine g_S X hX hbl hbA hL2 dL_law_1463 dL_law_1464 dL_law_1466 dL_law_1467 dL_law_1468 (t := 1) rfl rfl rfl (by omega) 1469 rfl ?_
  refine c_V X Lk_L_200 (hM7 _) dL_law_1469 rfl 0 rfl (ci := 7) rfl rfl (Nat.le_of_ble_eq_true rfl) ⟨(Nat.le_of_ble_eq_true rfl), (Nat.le_of_ble_eq_true rfl)⟩ ⟨hk, hn⟩ 1472 rfl [.int R] rfl ?_
  refine g_istore X dL_law_1472 1474 rfl (by decide) ((7, .int R) :: (6, .int (hcd [xIOB, xNSE] oo)) :: lvL sb o d a b i) rfl ?_
  refine g_aload_n X dL_law_1474 1475 rfl rfl ?_
  refine c_V X Lk_L_131 (k_X7_thrown E l _ b μ' a σ') dL_law_1475 rfl 0 rfl (ci := 7) rfl rfl (Nat.le_of_ble_eq_true rfl) ⟨(Nat.le_of_ble_eq_true rfl), (Nat.le_of_ble_eq_true rfl)⟩ ⟨hk, hn⟩ 1478 rfl [.int T] (by rw [hT]; rfl) ?_
  refine g_iload X dL_law_1478 1480 rfl rfl ?_
  refine g_ic_eq X dL_law_1480 1485 1483 rfl rfl (fun _ => ?_) (fun q => absurd hA.code q)
  refine g_iload X dL_law_1485 1487 rfl rfl ?_
  refine g_if_ne X dL_law_1487 1502 1490 rfl rfl (fun _ => J) (fun h0 => ?_)
  refine g_aload_n X dL_law_1490 1491 rfl rfl ?_
  refine g_iconst X dL_law_1491 1492 rfl (v := 0) rfl ?_
  refine g_lald X dL_law_1492 1493 rfl 51 rfl in_0 ?_
  refine g_iload X dL_law_1493 1495 rfl rfl ?_
  refine g_i2l X dL_law_1495 1496 rfl ?_
  refine g_lcmp X dL_law_1496 1497 rfl ?_
  exact g_if_eq X dL_law_1497 1502 1500 rfl rfl (fun _ => J) (fun q => absurd (hA.lg (by decide) h0) q)

set_option maxHeartbeats 4000000 in
set_option maxRecDepth 100000 in
theorem law_21 {E : kE} {p : Program} {l : Launch} {e : Env} {s : State} {m : MethodId} {below : List Frame} {meth : Method} {c : Code} {Q : State → Prop} {sb L : Nat} {xs : Nat → Int32} (C : LC E p l s m meth c sb L xs) {a b : Nat → Nat} {o d i k n : Nat} {σ μ σ' μ' : Sto} {F : Nat → Int64} {D : Nat → UInt64} (hi : i + 5 ≤ L) (hk : k + 4 ≤ 3161) (hn : n + 24 ≤ 122043) {oo : OT} {T : Int32} {R : Int32} (hM6 : ∀ wr, KT E l yX6_remembered cX6_remembered 2 (some .int) 7 110 4 24 [.ref (a 0), .int (xs (i + 1))] (WW E b μ a σ wr) oo (WW E b μ a σ' wr)) (hM7 : ∀ wr, KM E l yX7_remembered cX7_remembered 2 (some .int) 2 42 0 0 [.ref (b 0), .int (xs (i + 1))] (WW E b μ a σ' wr) (some (.int R)) (WW E b μ' a σ' wr)) (hT : μ' 0 0 = T) (hA : AGR [xIOB, xNSE] oo T R) (next : ∀ (F' : Nat → Int64) (D' : Nat → UInt64), G E (LA s) 9 p l e room_1 s m #[.ref sb] below meth c Q (k + 4) (n + 24) (WL E b μ' a σ' o d F' D') 2284 (lvL sb o d a b i) []) : G E (LA s) 9 p l e room_1 s m #[.ref sb] below meth c Q k n (WL E b μ a σ o d F D) 1505 (lvL sb o d a b i) [] := by
  obtain ⟨X, hZ, hN, hX, hbl, hL, hlt⟩ := C
  have hbA := LC.nA hbl
  have hL2 : L < 2 ^ 31 := by omega
  have J : G E (LA s) 9 p l e room_1 s m #[.ref sb] below meth c Q (k + 4) (n + 24) (WL E b μ' a σ' o d (hou F oo) D) 1558 ((7, .int R) :: (6, .int (hcd [xIOB, xNSE] oo)) :: lvL sb o d a b i) [] := by
    refine g_goto X dL_law_1558 2284 rfl ?_
    exact g_lv _ (fun q hq => List.mem_cons_of_mem _ (List.mem_cons_of_mem _ hq)) (next _ _)
  refine g_aload_n X dL_law_1505 1506 rfl rfl ?_
  refine g_S X hX hbl hbA hL2 dL_law_1506 dL_law_1507 dL_law_1509 dL_law_1510 dL_law_1511 (t := 1) rfl rfl rfl (by omega) 1512 rfl ?_
  refine g_aload_n X dL_law_1512 1513 rfl rfl ?_
  refine g_callH X hZ hN Lk_L_201 (k_L_remembered E l b μ a σ σ' o d F D (xs (i + 1)) (hM6 _) hA.ov) dL_law_1513 rfl rfl (Nat.le_of_ble_eq_true rfl) ⟨(Nat.le_of_ble_eq_true rfl), (Nat.le_of_ble_eq_true rfl)⟩ ⟨hk, hn⟩ 1516 rfl [.int (hcd [xIOB, xNSE] oo)] rfl ?_
  refine g_istore X dL_law_1516 1518 rfl (by decide) ((6, .int (hcd [xIOB, xNSE] oo)) :: lvL sb o d a b i) rfl ?_
  refine g_aload_n X dL_law_1518 1519 rfl rfl ?_
  refine g_S X hX hbl hbA hL2 dL_law_1519 dL_law_1520 dL_law_1522 dL_law_1523 dL_law_1524 (t := 1) rfl rfl rfl (by omega) 1525 rfl ?_
  refine c_V X Lk_L_203 (hM7 _) dL_law_1525 rfl 0 rfl (ci := 7) rfl rfl (Nat.le_of_ble_eq_true rfl) ⟨(Nat.le_of_ble_eq_true rfl), (Nat.le_of_ble_eq_true rfl)⟩ ⟨hk, hn⟩ 1528 rfl [.int R] rfl ?_
  refine g_istore X dL_law_1528 1530 rfl (by decide) ((7, .int R) :: (6, .int (hcd [xIOB, xNSE] oo)) :: lvL sb o d a b i) rfl ?_
  refine g_aload_n X dL_law_1530 1531 rfl rfl ?_
  refine c_V X Lk_L_131 (k_X7_thrown E l _ b μ' a σ') dL_law_1531 rfl 0 rfl (ci := 7) rfl rfl (Nat.le_of_ble_eq_true rfl) ⟨(Nat.le_of_ble_eq_true rfl), (Nat.le_of_ble_eq_true rfl)⟩ ⟨hk, hn⟩ 1534 rfl [.int T] (by rw [hT]; rfl) ?_
  refine g_iload X dL_law_1534 1536 rfl rfl ?_
  refine g_ic_eq X dL_law_1536 1541 1539 rfl rfl (fun _ => ?_) (fun q => absurd hA.code q)
  refine g_iload X dL_law_1541 1543 rfl rfl ?_
  refine g_if_ne X dL_law_1543 1558 1546 rfl rfl (fun _ => J) (fun h0 => ?_)
  refine g_aload_n X dL_law_1546 1547 rfl rfl ?_
  refine g_iconst X dL_law_1547 1548 rfl (v := 0) rfl ?_
  refine g_lald X dL_law_1548 1549 rfl 51 rfl in_0 ?_
  refine g_iload X dL_law_1549 1551 rfl rfl ?_
  refine g_i2l X dL_law_1551 1552 rfl ?_
  refine g_lcmp X dL_law_1552 1553 rfl ?_
  exact g_if_eq X dL_law_1553 1558 1556 rfl rfl (fun _ => J) (fun q => absurd (hA.lg (by decide) h0) q)

set_option maxHeartbeats 4000000 in
set_option maxRecDepth 100000 in
theorem law_22 {E : kE} {p : Program} {l : Launch} {e : Env} {s : State} {m : MethodId} {below : List Frame} {meth : Method} {c : Code} {Q : State → Prop} {sb L : Nat} {xs : Nat → Int32} (C : LC E p l s m meth c sb L xs) {a b : Nat → Nat} {o d i k n : Nat} {σ μ σ' μ' : Sto} {F : Nat → Int64} {D : Nat → UInt64} (hi : i + 5 ≤ L) (hk : k + 4 ≤ 3161) (hn : n + 24 ≤ 122043) {oo : OT} {T : Int32} {R : Int32} (hM6 : ∀ wr, KT E l yX6_timer cX6_timer 3 (some .int) 7 111 4 24 [.ref (a 0), .int (xs (i + 1)), .int (xs (i + 2))] (WW E b μ a σ wr) oo (WW E b μ a σ' wr)) (hM7 : ∀ wr, KM E l yX7_timer cX7_timer 3 (some .int) 3 63 0 0 [.ref (b 0), .int (xs (i + 1)), .int (xs (i + 2))] (WW E b μ a σ' wr) (some (.int R)) (WW E b μ' a σ' wr)) (hT : μ' 0 0 = T) (hA : AGR [xIOB, xNSE, xIAE] oo T R) (next : ∀ (F' : Nat → Int64) (D' : Nat → UInt64), G E (LA s) 9 p l e room_1 s m #[.ref sb] below meth c Q (k + 4) (n + 24) (WL E b μ' a σ' o d F' D') 2284 (lvL sb o d a b i) []) : G E (LA s) 9 p l e room_1 s m #[.ref sb] below meth c Q k n (WL E b μ a σ o d F D) 1561 (lvL sb o d a b i) [] := by
  obtain ⟨X, hZ, hN, hX, hbl, hL, hlt⟩ := C
  have hbA := LC.nA hbl
  have hL2 : L < 2 ^ 31 := by omega
  have J : G E (LA s) 9 p l e room_1 s m #[.ref sb] below meth c Q (k + 4) (n + 24) (WL E b μ' a σ' o d (hou F oo) D) 1626 ((7, .int R) :: (6, .int (hcd [xIOB, xNSE, xIAE] oo)) :: lvL sb o d a b i) [] := by
    refine g_goto X dL_law_1626 2284 rfl ?_
    exact g_lv _ (fun q hq => List.mem_cons_of_mem _ (List.mem_cons_of_mem _ hq)) (next _ _)
  refine g_aload_n X dL_law_1561 1562 rfl rfl ?_
  refine g_S X hX hbl hbA hL2 dL_law_1562 dL_law_1563 dL_law_1565 dL_law_1566 dL_law_1567 (t := 1) rfl rfl rfl (by omega) 1568 rfl ?_
  refine g_S X hX hbl hbA hL2 dL_law_1568 dL_law_1569 dL_law_1571 dL_law_1572 dL_law_1573 (t := 2) rfl rfl rfl (by omega) 1574 rfl ?_
  refine g_aload_n X dL_law_1574 1575 rfl rfl ?_
  refine g_callH X hZ hN Lk_L_204 (k_L_timer E l b μ a σ σ' o d F D (xs (i + 1)) (xs (i + 2)) (hM6 _) hA.ov) dL_law_1575 rfl rfl (Nat.le_of_ble_eq_true rfl) ⟨(Nat.le_of_ble_eq_true rfl), (Nat.le_of_ble_eq_true rfl)⟩ ⟨hk, hn⟩ 1578 rfl [.int (hcd [xIOB, xNSE, xIAE] oo)] rfl ?_
  refine g_istore X dL_law_1578 1580 rfl (by decide) ((6, .int (hcd [xIOB, xNSE, xIAE] oo)) :: lvL sb o d a b i) rfl ?_
  refine g_aload_n X dL_law_1580 1581 rfl rfl ?_
  refine g_S X hX hbl hbA hL2 dL_law_1581 dL_law_1582 dL_law_1584 dL_law_1585 dL_law_1586 (t := 1) rfl rfl rfl (by omega) 1587 rfl ?_
  refine g_S X hX hbl hbA hL2 dL_law_1587 dL_law_1588 dL_law_1590 dL_law_1591 dL_law_1592 (t := 2) rfl rfl rfl (by omega) 1593 rfl ?_
  refine c_V X Lk_L_206 (hM7 _) dL_law_1593 rfl 0 rfl (ci := 7) rfl rfl (Nat.le_of_ble_eq_true rfl) ⟨(Nat.le_of_ble_eq_true rfl), (Nat.le_of_ble_eq_true rfl)⟩ ⟨hk, hn⟩ 1596 rfl [.int R] rfl ?_
  refine g_istore X dL_law_1596 1598 rfl (by decide) ((7, .int R) :: (6, .int (hcd [xIOB, xNSE, xIAE] oo)) :: lvL sb o d a b i) rfl ?_
  refine g_aload_n X dL_law_1598 1599 rfl rfl ?_
  refine c_V X Lk_L_131 (k_X7_thrown E l _ b μ' a σ') dL_law_1599 rfl 0 rfl (ci := 7) rfl rfl (Nat.le_of_ble_eq_true rfl) ⟨(Nat.le_of_ble_eq_true rfl), (Nat.le_of_ble_eq_true rfl)⟩ ⟨hk, hn⟩ 1602 rfl [.int T] (by rw [hT]; rfl) ?_
  refine g_iload X dL_law_1602 1604 rfl rfl ?_
  refine g_ic_eq X dL_law_1604 1609 1607 rfl rfl (fun _ => ?_) (fun q => absurd hA.code q)
  refine g_iload X dL_law_1609 1611 rfl rfl ?_
  refine g_if_ne X dL_law_1611 1626 1614 rfl rfl (fun _ => J) (fun h0 => ?_)
  refine g_aload_n X dL_law_1614 1615 rfl rfl ?_
  refine g_iconst X dL_law_1615 1616 rfl (v := 0) rfl ?_
  refine g_lald X dL_law_1616 1617 rfl 51 rfl in_0 ?_
  refine g_iload X dL_law_1617 1619 rfl rfl ?_
  refine g_i2l X dL_law_1619 1620 rfl ?_
  refine g_lcmp X dL_law_1620 1621 rfl ?_
  exact g_if_eq X dL_law_1621 1626 1624 rfl rfl (fun _ => J) (fun q => absurd (hA.lg (by decide) h0) q)

set_option maxHeartbeats 4000000 in
set_option maxRecDepth 100000 in
theorem law_23 {E : kE} {p : Program} {l : Launch} {e : Env} {s : State} {m : MethodId} {below : List Frame} {meth : Method} {c : Code} {Q : State → Prop} {sb L : Nat} {xs : Nat → Int32} (C : LC E p l s m meth c sb L xs) {a b : Nat → Nat} {o d i k n : Nat} {σ μ σ' μ' : Sto} {F : Nat → Int64} {D : Nat → UInt64} (hi : i + 5 ≤ L) (hk : k + 4 ≤ 3161) (hn : n + 24 ≤ 122043) {oo : OT} {T : Int32} {R : Int32} (hM6 : ∀ wr, KT E l yX6_addressState cX6_addressState 2 (some .int) 7 111 4 24 [.ref (a 0), .int (xs (i + 1))] (WW E b μ a σ wr) oo (WW E b μ a σ' wr)) (hM7 : ∀ wr, KM E l yX7_addressState cX7_addressState 2 (some .int) 3 65 0 0 [.ref (b 0), .int (xs (i + 1))] (WW E b μ a σ' wr) (some (.int R)) (WW E b μ' a σ' wr)) (hT : μ' 0 0 = T) (hA : AGR [xIOB, xNSE] oo T R) (next : ∀ (F' : Nat → Int64) (D' : Nat → UInt64), G E (LA s) 9 p l e room_1 s m #[.ref sb] below meth c Q (k + 4) (n + 24) (WL E b μ' a σ' o d F' D') 2284 (lvL sb o d a b i) []) : G E (LA s) 9 p l e room_1 s m #[.ref sb] below meth c Q k n (WL E b μ a σ o d F D) 1629 (lvL sb o d a b i) [] := by
  obtain ⟨X, hZ, hN, hX, hbl, hL, hlt⟩ := C
  have hbA := LC.nA hbl
  have hL2 : L < 2 ^ 31 := by omega
  have J : G E (LA s) 9 p l e room_1 s m #[.ref sb] below meth c Q (k + 4) (n + 24) (WL E b μ' a σ' o d (hou F oo) D) 1682 ((7, .int R) :: (6, .int (hcd [xIOB, xNSE] oo)) :: lvL sb o d a b i) [] := by
    refine g_goto X dL_law_1682 2284 rfl ?_
    exact g_lv _ (fun q hq => List.mem_cons_of_mem _ (List.mem_cons_of_mem _ hq)) (next _ _)
  refine g_aload_n X dL_law_1629 1630 rfl rfl ?_
  refine g_S X hX hbl hbA hL2 dL_law_1630 dL_law_1631 dL_law_1633 dL_law_1634 dL_law_1635 (t := 1) rfl rfl rfl (by omega) 1636 rfl ?_
  refine g_aload_n X dL_law_1636 1637 rfl rfl ?_
  refine g_callH X hZ hN Lk_L_207 (k_L_addressState E l b μ a σ σ' o d F D (xs (i + 1)) (hM6 _) hA.ov) dL_law_1637 rfl rfl (Nat.le_of_ble_eq_true rfl) ⟨(Nat.le_of_ble_eq_true rfl), (Nat.le_of_ble_eq_true rfl)⟩ ⟨hk, hn⟩ 1640 rfl [.int (hcd [xIOB, xNSE] oo)] rfl ?_
  refine g_istore X dL_law_1640 1642 rfl (by decide) ((6, .int (hcd [xIOB, xNSE] oo)) :: lvL sb o d a b i) rfl ?_
  refine g_aload_n X dL_law_1642 1643 rfl rfl ?_
  refine g_S X hX hbl hbA hL2 dL_law_1643 dL_law_1644 dL_law_1646 dL_law_1647 dL_law_1648 (t := 1) rfl rfl rfl (by omega) 1649 rfl ?_
  refine c_V X Lk_L_209 (hM7 _) dL_law_1649 rfl 0 rfl (ci := 7) rfl rfl (Nat.le_of_ble_eq_true rfl) ⟨(Nat.le_of_ble_eq_true rfl), (Nat.le_of_ble_eq_true rfl)⟩ ⟨hk, hn⟩ 1652 rfl [.int R] rfl ?_
  refine g_istore X dL_law_1652 1654 rfl (by decide) ((7, .int R) :: (6, .int (hcd [xIOB, xNSE] oo)) :: lvL sb o d a b i) rfl ?_
  refine g_aload_n X dL_law_1654 1655 rfl rfl ?_
  refine c_V X Lk_L_131 (k_X7_thrown E l _ b μ' a σ') dL_law_1655 rfl 0 rfl (ci := 7) rfl rfl (Nat.le_of_ble_eq_true rfl) ⟨(Nat.le_of_ble_eq_true rfl), (Nat.le_of_ble_eq_true rfl)⟩ ⟨hk, hn⟩ 1658 rfl [.int T] (by rw [hT]; rfl) ?_
  refine g_iload X dL_law_1658 1660 rfl rfl ?_
  refine g_ic_eq X dL_law_1660 1665 1663 rfl rfl (fun _ => ?_) (fun q => absurd hA.code q)
  refine g_iload X dL_law_1665 1667 rfl rfl ?_
  refine g_if_ne X dL_law_1667 1682 1670 rfl rfl (fun _ => J) (fun h0 => ?_)
  refine g_aload_n X dL_law_1670 1671 rfl rfl ?_
  refine g_iconst X dL_law_1671 1672 rfl (v := 0) rfl ?_
  refine g_lald X dL_law_1672 1673 rfl 51 rfl in_0 ?_
  refine g_iload X dL_law_1673 1675 rfl rfl ?_
  refine g_i2l X dL_law_1675 1676 rfl ?_
  refine g_lcmp X dL_law_1676 1677 rfl ?_
  exact g_if_eq X dL_law_1677 1682 1680 rfl rfl (fun _ => J) (fun q => absurd (hA.lg (by decide) h0) q)

set_option maxHeartbeats 4000000 in
set_option maxRecDepth 100000 in
theorem law_24 {E : kE} {p : Program} {l : Launch} {e : Env} {s : State} {m : MethodId} {below : List Frame} {meth : Method} {c : Code} {Q : State → Prop} {sb L : Nat} {xs : Nat → Int32} (C : LC E p l s m meth c sb L xs) {a b : Nat → Nat} {o d i k n : Nat} {σ μ σ' μ' : Sto} {F : Nat → Int64} {D : Nat → UInt64} (hi : i + 5 ≤ L) (hk : k + 4 ≤ 3161) (hn : n + 24 ≤ 122043) {oo : OT} {T : Int32} {R : Int32} (hM6 : ∀ wr, KT E l yX6_holder cX6_holder 2 (some .int) 7 111 4 24 [.ref (a 0), .int (xs (i + 1))] (WW E b μ a σ wr) oo (WW E b μ a σ' wr)) (hM7 : ∀ wr, KM E l yX7_holder cX7_holder 2 (some .int) 3 65 0 0 [.ref (b 0), .int (xs (i + 1))] (WW E b μ a σ' wr) (some (.int R)) (WW E b μ' a σ' wr)) (hT : μ' 0 0 = T) (hA : AGR [xIOB, xNSE] oo T R) (next : ∀ (F' : Nat → Int64) (D' : Nat → UInt64), G E (LA s) 9 p l e room_1 s m #[.ref sb] below meth c Q (k + 4) (n + 24) (WL E b μ' a σ' o d F' D') 2284 (lvL sb o d a b i) []) : G E (LA s) 9 p l e room_1 s m #[.ref sb] below meth c Q k n (WL E b μ a σ o d F D) 1685 (lvL sb o d a b i) [] := by
  obtain ⟨X, hZ, hN, hX, hbl, hL, hlt⟩ := C
  have hbA := LC.nA hbl
  have hL2 : L < 2 ^ 31 := by omega
  have J : G E (LA s) 9 p l e room_1 s m #[.ref sb] below meth c Q (k + 4) (n + 24) (WL E b μ' a σ' o d (hou F oo) D) 1738 ((7, .int R) :: (6, .int (hcd [xIOB, xNSE] oo)) :: lvL sb o d a b i) [] := by
    refine g_goto X dL_law_1738 2284 rfl ?_
    exact g_lv _ (fun q hq => List.mem_cons_of_mem _ (List.mem_cons_of_mem _ hq)) (next _ _)
  refine g_aload_n X dL_law_1685 1686 rfl rfl ?_
  refine g_S X hX hbl hbA hL2 dL_law_1686 dL_law_1687 dL_law_1689 dL_law_1690 dL_law_1691 (t := 1) rfl rfl rfl (by omega) 1692 rfl ?_
  refine g_aload_n X dL_law_1692 1693 rfl rfl ?_
  refine g_callH X hZ hN Lk_L_210 (k_L_holder E l b μ a σ σ' o d F D (xs (i + 1)) (hM6 _) hA.ov) dL_law_1693 rfl rfl (Nat.le_of_ble_eq_true rfl) ⟨(Nat.le_of_ble_eq_true rfl), (Nat.le_of_ble_eq_true rfl)⟩ ⟨hk, hn⟩ 1696 rfl [.int (hcd [xIOB, xNSE] oo)] rfl ?_
  refine g_istore X dL_law_1696 1698 rfl (by decide) ((6, .int (hcd [xIOB, xNSE] oo)) :: lvL sb o d a b i) rfl ?_
  refine g_aload_n X dL_law_1698 1699 rfl rfl ?_
  refine g_S X hX hbl hbA hL2 dL_law_1699 dL_law_1700 dL_law_1702 dL_law_1703 dL_law_1704 (t := 1) rfl rfl rfl (by omega) 1705 rfl ?_
  refine c_V X Lk_L_212 (hM7 _) dL_law_1705 rfl 0 rfl (ci := 7) rfl rfl (Nat.le_of_ble_eq_true rfl) ⟨(Nat.le_of_ble_eq_true rfl), (Nat.le_of_ble_eq_true rfl)⟩ ⟨hk, hn⟩ 1708 rfl [.int R] rfl ?_
  refine g_istore X dL_law_1708 1710 rfl (by decide) ((7, .int R) :: (6, .int (hcd [xIOB, xNSE] oo)) :: lvL sb o d a b i) rfl ?_
  refine g_aload_n X dL_law_1710 1711 rfl rfl ?_
  refine c_V X Lk_L_131 (k_X7_thrown E l _ b μ' a σ') dL_law_1711 rfl 0 rfl (ci := 7) rfl rfl (Nat.le_of_ble_eq_true rfl) ⟨(Nat.le_of_ble_eq_true rfl), (Nat.le_of_ble_eq_true rfl)⟩ ⟨hk, hn⟩ 1714 rfl [.int T] (by rw [hT]; rfl) ?_
  refine g_iload X dL_law_1714 1716 rfl rfl ?_
  refine g_ic_eq X dL_law_1716 1721 1719 rfl rfl (fun _ => ?_) (fun q => absurd hA.code q)
  refine g_iload X dL_law_1721 1723 rfl rfl ?_
  refine g_if_ne X dL_law_1723 1738 1726 rfl rfl (fun _ => J) (fun h0 => ?_)
  refine g_aload_n X dL_law_1726 1727 rfl rfl ?_
  refine g_iconst X dL_law_1727 1728 rfl (v := 0) rfl ?_
  refine g_lald X dL_law_1728 1729 rfl 51 rfl in_0 ?_
  refine g_iload X dL_law_1729 1731 rfl rfl ?_
  refine g_i2l X dL_law_1731 1732 rfl ?_
  refine g_lcmp X dL_law_1732 1733 rfl ?_
  exact g_if_eq X dL_law_1733 1738 1736 rfl rfl (fun _ => J) (fun q => absurd (hA.lg (by decide) h0) q)

set_option maxHeartbeats 4000000 in
set_option maxRecDepth 100000 in
theorem law_25 {E : kE} {p : Program} {l : Launch} {e : Env} {s : State} {m : MethodId} {below : List Frame} {meth : Method} {c : Code} {Q : State → Prop} {sb L : Nat} {xs : Nat → Int32} (C : LC E p l s m meth c sb L xs) {a b : Nat → Nat} {o d i k n : Nat} {σ μ σ' μ' : Sto} {F : Nat → Int64} {D : Nat → UInt64} (hi : i + 5 ≤ L) (hk : k + 4 ≤ 3161) (hn : n + 24 ≤ 122043) {oo : OT} {T : Int32} {R : Int32} (hM6 : ∀ wr, KT E l yX6_until cX6_until 2 (some .int) 7 111 4 24 [.ref (a 0), .int (xs (i + 1))] (WW E b μ a σ wr) oo (WW E b μ a σ' wr)) (hM7 : ∀ wr, KM E l yX7_until cX7_until 2 (some .int) 3 65 0 0 [.ref (b 0), .int (xs (i + 1))] (WW E b μ a σ' wr) (some (.int R)) (WW E b μ' a σ' wr)) (hT : μ' 0 0 = T) (hA : AGR [xIOB, xNSE] oo T R) (next : ∀ (F' : Nat → Int64) (D' : Nat → UInt64), G E (LA s) 9 p l e room_1 s m #[.ref sb] below meth c Q (k + 4) (n + 24) (WL E b μ' a σ' o d F' D') 2284 (lvL sb o d a b i) []) : G E (LA s) 9 p l e room_1 s m #[.ref sb] below meth c Q k n (WL E b μ a σ o d F D) 1741 (lvL sb o d a b i) [] := by
  obtain ⟨X, hZ, hN, hX, hbl, hL, hlt⟩ := C
  have hbA := LC.nA hbl
  have hL2 : L < 2 ^ 31 := by omega
  have J : G E (LA s) 9 p l e room_1 s m #[.ref sb] below meth c Q (k + 4) (n + 24) (WL E b μ' a σ' o d (hou F oo) D) 1794 ((7, .int R) :: (6, .int (hcd [xIOB, xNSE] oo)) :: lvL sb o d a b i) [] := by
    refine g_goto X dL_law_1794 2284 rfl ?_
    exact g_lv _ (fun q hq => List.mem_cons_of_mem _ (List.mem_cons_of_mem _ hq)) (next _ _)
  refine g_aload_n X dL_law_1741 1742 rfl rfl ?_
  refine g_S X hX hbl hbA hL2 dL_law_1742 dL_law_1743 dL_law_1745 dL_law_1746 dL_law_1747 (t := 1) rfl rfl rfl (by omega) 1748 rfl ?_
  refine g_aload_n X dL_law_1748 1749 rfl rfl ?_
  refine g_callH X hZ hN Lk_L_213 (k_L_until E l b μ a σ σ' o d F D (xs (i + 1)) (hM6 _) hA.ov) dL_law_1749 rfl rfl (Nat.le_of_ble_eq_true rfl) ⟨(Nat.le_of_ble_eq_true rfl), (Nat.le_of_ble_eq_true rfl)⟩ ⟨hk, hn⟩ 1752 rfl [.int (hcd [xIOB, xNSE] oo)] rfl ?_
  refine g_istore X dL_law_1752 1754 rfl (by decide) ((6, .int (hcd [xIOB, xNSE] oo)) :: lvL sb o d a b i) rfl ?_
  refine g_aload_n X dL_law_1754 1755 rfl rfl ?_
  refine g_S X hX hbl hbA hL2 dL_law_1755 dL_law_1756 dL_law_1758 dL_law_1759 dL_law_1760 (t := 1) rfl rfl rfl (by omega) 1761 rfl ?_
  refine c_V X Lk_L_215 (hM7 _) dL_law_1761 rfl 0 rfl (ci := 7) rfl rfl (Nat.le_of_ble_eq_true rfl) ⟨(Nat.le_of_ble_eq_true rfl), (Nat.le_of_ble_eq_true rfl)⟩ ⟨hk, hn⟩ 1764 rfl [.int R] rfl ?_
  refine g_istore X dL_law_1764 1766 rfl (by decide) ((7, .int R) :: (6, .int (hcd [xIOB, xNSE] oo)) :: lvL sb o d a b i) rfl ?_
  refine g_aload_n X dL_law_1766 1767 rfl rfl ?_
  refine c_V X Lk_L_131 (k_X7_thrown E l _ b μ' a σ') dL_law_1767 rfl 0 rfl (ci := 7) rfl rfl (Nat.le_of_ble_eq_true rfl) ⟨(Nat.le_of_ble_eq_true rfl), (Nat.le_of_ble_eq_true rfl)⟩ ⟨hk, hn⟩ 1770 rfl [.int T] (by rw [hT]; rfl) ?_
  refine g_iload X dL_law_1770 1772 rfl rfl ?_
  refine g_ic_eq X dL_law_1772 1777 1775 rfl rfl (fun _ => ?_) (fun q => absurd hA.code q)
  refine g_iload X dL_law_1777 1779 rfl rfl ?_
  refine g_if_ne X dL_law_1779 1794 1782 rfl rfl (fun _ => J) (fun h0 => ?_)
  refine g_aload_n X dL_law_1782 1783 rfl rfl ?_
  refine g_iconst X dL_law_1783 1784 rfl (v := 0) rfl ?_
  refine g_lald X dL_law_1784 1785 rfl 51 rfl in_0 ?_
  refine g_iload X dL_law_1785 1787 rfl rfl ?_
  refine g_i2l X dL_law_1787 1788 rfl ?_
  refine g_lcmp X dL_law_1788 1789 rfl ?_
  exact g_if_eq X dL_law_1789 1794 1792 rfl rfl (fun _ => J) (fun q => absurd (hA.lg (by decide) h0) q)

set_option maxHeartbeats 4000000 in
set_option maxRecDepth 100000 in
theorem law_26 {E : kE} {p : Program} {l : Launch} {e : Env} {s : State} {m : MethodId} {below : List Frame} {meth : Method} {c : Code} {Q : State → Prop} {sb L : Nat} {xs : Nat → Int32} (C : LC E p l s m meth c sb L xs) {a b : Nat → Nat} {o d i k n : Nat} {σ μ σ' μ' : Sto} {F : Nat → Int64} {D : Nat → UInt64} (hi : i + 5 ≤ L) (hk : k + 4 ≤ 3161) (hn : n + 24 ≤ 122043) {oo : OT} {T : Int32} {R : Int32} (hM6 : ∀ wr, KT E l yX6_freeSince cX6_freeSince 2 (some .int) 7 111 4 24 [.ref (a 0), .int (xs (i + 1))] (WW E b μ a σ wr) oo (WW E b μ a σ' wr)) (hM7 : ∀ wr, KM E l yX7_freeSince cX7_freeSince 2 (some .int) 3 65 0 0 [.ref (b 0), .int (xs (i + 1))] (WW E b μ a σ' wr) (some (.int R)) (WW E b μ' a σ' wr)) (hT : μ' 0 0 = T) (hA : AGR [xIOB, xNSE] oo T R) (next : ∀ (F' : Nat → Int64) (D' : Nat → UInt64), G E (LA s) 9 p l e room_1 s m #[.ref sb] below meth c Q (k + 4) (n + 24) (WL E b μ' a σ' o d F' D') 2284 (lvL sb o d a b i) []) : G E (LA s) 9 p l e room_1 s m #[.ref sb] below meth c Q k n (WL E b μ a σ o d F D) 1797 (lvL sb o d a b i) [] := by
  obtain ⟨X, hZ, hN, hX, hbl, hL, hlt⟩ := C
  have hbA := LC.nA hbl
  have hL2 : L < 2 ^ 31 := by omega
  have J : G E (LA s) 9 p l e room_1 s m #[.ref sb] below meth c Q (k + 4) (n + 24) (WL E b μ' a σ' o d (hou F oo) D) 1850 ((7, .int R) :: (6, .int (hcd [xIOB, xNSE] oo)) :: lvL sb o d a b i) [] := by
    refine g_goto X dL_law_1850 2284 rfl ?_
    exact g_lv _ (fun q hq => List.mem_cons_of_mem _ (List.mem_cons_of_mem _ hq)) (next _ _)
  refine g_aload_n X dL_law_1797 1798 rfl rfl ?_
  refine g_S X hX hbl hbA hL2 dL_law_1798 dL_law_1799 dL_law_1801 dL_law_1802 dL_law_1803 (t := 1) rfl rfl rfl (by omega) 1804 rfl ?_
  refine g_aload_n X dL_law_1804 1805 rfl rfl ?_
  refine g_callH X hZ hN Lk_L_216 (k_L_freeSince E l b μ a σ σ' o d F D (xs (i + 1)) (hM6 _) hA.ov) dL_law_1805 rfl rfl (Nat.le_of_ble_eq_true rfl) ⟨(Nat.le_of_ble_eq_true rfl), (Nat.le_of_ble_eq_true rfl)⟩ ⟨hk, hn⟩ 1808 rfl [.int (hcd [xIOB, xNSE] oo)] rfl ?_
  refine g_istore X dL_law_1808 1810 rfl (by decide) ((6, .int (hcd [xIOB, xNSE] oo)) :: lvL sb o d a b i) rfl ?_
  refine g_aload_n X dL_law_1810 1811 rfl rfl ?_
  refine g_S X hX hbl hbA hL2 dL_law_1811 dL_law_1812 dL_law_1814 dL_law_1815 dL_law_1816 (t := 1) rfl rfl rfl (by omega) 1817 rfl ?_
  refine c_V X Lk_L_218 (hM7 _) dL_law_1817 rfl 0 rfl (ci := 7) rfl rfl (Nat.le_of_ble_eq_true rfl) ⟨(Nat.le_of_ble_eq_true rfl), (Nat.le_of_ble_eq_true rfl)⟩ ⟨hk, hn⟩ 1820 rfl [.int R] rfl ?_
  refine g_istore X dL_law_1820 1822 rfl (by decide) ((7, .int R) :: (6, .int (hcd [xIOB, xNSE] oo)) :: lvL sb o d a b i) rfl ?_
  refine g_aload_n X dL_law_1822 1823 rfl rfl ?_
  refine c_V X Lk_L_131 (k_X7_thrown E l _ b μ' a σ') dL_law_1823 rfl 0 rfl (ci := 7) rfl rfl (Nat.le_of_ble_eq_true rfl) ⟨(Nat.le_of_ble_eq_true rfl), (Nat.le_of_ble_eq_true rfl)⟩ ⟨hk, hn⟩ 1826 rfl [.int T] (by rw [hT]; rfl) ?_
  refine g_iload X dL_law_1826 1828 rfl rfl ?_
  refine g_ic_eq X dL_law_1828 1833 1831 rfl rfl (fun _ => ?_) (fun q => absurd hA.code q)
  refine g_iload X dL_law_1833 1835 rfl rfl ?_
  refine g_if_ne X dL_law_1835 1850 1838 rfl rfl (fun _ => J) (fun h0 => ?_)
  refine g_aload_n X dL_law_1838 1839 rfl rfl ?_
  refine g_iconst X dL_law_1839 1840 rfl (v := 0) rfl ?_
  refine g_lald X dL_law_1840 1841 rfl 51 rfl in_0 ?_
  refine g_iload X dL_law_1841 1843 rfl rfl ?_
  refine g_i2l X dL_law_1843 1844 rfl ?_
  refine g_lcmp X dL_law_1844 1845 rfl ?_
  exact g_if_eq X dL_law_1845 1850 1848 rfl rfl (fun _ => J) (fun q => absurd (hA.lg (by decide) h0) q)

set_option maxHeartbeats 4000000 in
set_option maxRecDepth 100000 in
theorem law_27 {E : kE} {p : Program} {l : Launch} {e : Env} {s : State} {m : MethodId} {below : List Frame} {meth : Method} {c : Code} {Q : State → Prop} {sb L : Nat} {xs : Nat → Int32} (C : LC E p l s m meth c sb L xs) {a b : Nat → Nat} {o d i k n : Nat} {σ μ σ' μ' : Sto} {F : Nat → Int64} {D : Nat → UInt64} (hi : i + 5 ≤ L) (hk : k + 4 ≤ 3161) (hn : n + 24 ≤ 122043) {oo : OT} {T : Int32} {R : Int32} (hM6 : ∀ wr, KT E l yX6_nextCandidate cX6_nextCandidate 4 (some .int) 7 114 4 24 [.ref (a 0), .int (xs (i + 1)), .int (xs (i + 2))] (WW E b μ a σ wr) oo (WW E b μ a σ' wr)) (hM7 : ∀ wr, KM E l yX7_nextCandidate cX7_nextCandidate 4 (some .int) 5 114 0 0 [.ref (b 0), .int (xs (i + 1)), .int (xs (i + 2))] (WW E b μ a σ' wr) (some (.int R)) (WW E b μ' a σ' wr)) (hT : μ' 0 0 = T) (hA : AGR [xIOB, xNSE] oo T R) (next : ∀ (F' : Nat → Int64) (D' : Nat → UInt64), G E (LA s) 9 p l e room_1 s m #[.ref sb] below meth c Q (k + 4) (n + 24) (WL E b μ' a σ' o d F' D') 2284 (lvL sb o d a b i) []) : G E (LA s) 9 p l e room_1 s m #[.ref sb] below meth c Q k n (WL E b μ a σ o d F D) 1853 (lvL sb o d a b i) [] := by
  obtain ⟨X, hZ, hN, hX, hbl, hL, hlt⟩ := C
  have hbA := LC.nA hbl
  have hL2 : L < 2 ^ 31 := by omega
  have J : G E (LA s) 9 p l e room_1 s m #[.ref sb] below meth c Q (k + 4) (n + 24) (WL E b μ' a σ' o d (hou F oo) D) 1918 ((7, .int R) :: (6, .int (hcd [xIOB, xNSE] oo)) :: lvL sb o d a b i) [] := by
    refine g_goto X dL_law_1918 2284 rfl ?_
    exact g_lv _ (fun q hq => List.mem_cons_of_mem _ (List.mem_cons_of_mem _ hq)) (next _ _)
  refine g_aload_n X dL_law_1853 1854 rfl rfl ?_
  refine g_S X hX hbl hbA hL2 dL_law_1854 dL_law_1855 dL_law_1857 dL_law_1858 dL_law_1859 (t := 1) rfl rfl rfl (by omega) 1860 rfl ?_
  refine g_S X hX hbl hbA hL2 dL_law_1860 dL_law_1861 dL_law_1863 dL_law_1864 dL_law_1865 (t := 2) rfl rfl rfl (by omega) 1866 rfl ?_
  refine g_aload_n X dL_law_1866 1867 rfl rfl ?_
  refine g_callH X hZ hN Lk_L_219 (k_L_nextCandidate E l b μ a σ σ' o d F D (xs (i + 1)) (xs (i + 2)) (hM6 _) hA.ov) dL_law_1867 rfl rfl (Nat.le_of_ble_eq_true rfl) ⟨(Nat.le_of_ble_eq_true rfl), (Nat.le_of_ble_eq_true rfl)⟩ ⟨hk, hn⟩ 1870 rfl [.int (hcd [xIOB, xNSE] oo)] rfl ?_
  refine g_istore X dL_law_1870 1872 rfl (by decide) ((6, .int (hcd [xIOB, xNSE] oo)) :: lvL sb o d a b i) rfl ?_
  refine g_aload_n X dL_law_1872 1873 rfl rfl ?_
  refine g_S X hX hbl hbA hL2 dL_law_1873 dL_law_1874 dL_law_1876 dL_law_1877 dL_law_1878 (t := 1) rfl rfl rfl (by omega) 1879 rfl ?_
  refine g_S X hX hbl hbA hL2 dL_law_1879 dL_law_1880 dL_law_1882 dL_law_1883 dL_law_1884 (t := 2) rfl rfl rfl (by omega) 1885 rfl ?_
  refine c_V X Lk_L_221 (hM7 _) dL_law_1885 rfl 0 rfl (ci := 7) rfl rfl (Nat.le_of_ble_eq_true rfl) ⟨(Nat.le_of_ble_eq_true rfl), (Nat.le_of_ble_eq_true rfl)⟩ ⟨hk, hn⟩ 1888 rfl [.int R] rfl ?_
  refine g_istore X dL_law_1888 1890 rfl (by decide) ((7, .int R) :: (6, .int (hcd [xIOB, xNSE] oo)) :: lvL sb o d a b i) rfl ?_
  refine g_aload_n X dL_law_1890 1891 rfl rfl ?_
  refine c_V X Lk_L_131 (k_X7_thrown E l _ b μ' a σ') dL_law_1891 rfl 0 rfl (ci := 7) rfl rfl (Nat.le_of_ble_eq_true rfl) ⟨(Nat.le_of_ble_eq_true rfl), (Nat.le_of_ble_eq_true rfl)⟩ ⟨hk, hn⟩ 1894 rfl [.int T] (by rw [hT]; rfl) ?_
  refine g_iload X dL_law_1894 1896 rfl rfl ?_
  refine g_ic_eq X dL_law_1896 1901 1899 rfl rfl (fun _ => ?_) (fun q => absurd hA.code q)
  refine g_iload X dL_law_1901 1903 rfl rfl ?_
  refine g_if_ne X dL_law_1903 1918 1906 rfl rfl (fun _ => J) (fun h0 => ?_)
  refine g_aload_n X dL_law_1906 1907 rfl rfl ?_
  refine g_iconst X dL_law_1907 1908 rfl (v := 0) rfl ?_
  refine g_lald X dL_law_1908 1909 rfl 51 rfl in_0 ?_
  refine g_iload X dL_law_1909 1911 rfl rfl ?_
  refine g_i2l X dL_law_1911 1912 rfl ?_
  refine g_lcmp X dL_law_1912 1913 rfl ?_
  exact g_if_eq X dL_law_1913 1918 1916 rfl rfl (fun _ => J) (fun q => absurd (hA.lg (by decide) h0) q)

set_option maxHeartbeats 4000000 in
set_option maxRecDepth 100000 in
theorem law_28 {E : kE} {p : Program} {l : Launch} {e : Env} {s : State} {m : MethodId} {below : List Frame} {meth : Method} {c : Code} {Q : State → Prop} {sb L : Nat} {xs : Nat → Int32} (C : LC E p l s m meth c sb L xs) {a b : Nat → Nat} {o d i k n : Nat} {σ μ σ' μ' : Sto} {F : Nat → Int64} {D : Nat → UInt64} (hi : i + 5 ≤ L) (hk : k + 4 ≤ 3161) (hn : n + 24 ≤ 122043) {oo : OT} {T : Int32} {R : Int32} (hM6 : ∀ wr, KT E l yX6_countState cX6_countState 3 (some .int) 7 110 4 24 [.ref (a 0), .int (xs (i + 1)), .int (xs (i + 2))] (WW E b μ a σ wr) oo (WW E b μ a σ' wr)) (hM7 : ∀ wr, KM E l yX7_countState cX7_countState 3 (some .int) 4 90 0 0 [.ref (b 0), .int (xs (i + 1)), .int (xs (i + 2))] (WW E b μ a σ' wr) (some (.int R)) (WW E b μ' a σ' wr)) (hT : μ' 0 0 = T) (hA : AGR [xIOB, xIAE] oo T R) (next : ∀ (F' : Nat → Int64) (D' : Nat → UInt64), G E (LA s) 9 p l e room_1 s m #[.ref sb] below meth c Q (k + 4) (n + 24) (WL E b μ' a σ' o d F' D') 2284 (lvL sb o d a b i) []) : G E (LA s) 9 p l e room_1 s m #[.ref sb] below meth c Q k n (WL E b μ a σ o d F D) 1921 (lvL sb o d a b i) [] := by
  obtain ⟨X, hZ, hN, hX, hbl, hL, hlt⟩ := C
  have hbA := LC.nA hbl
  have hL2 : L < 2 ^ 31 := by omega
  have J : G E (LA s) 9 p l e room_1 s m #[.ref sb] below meth c Q (k + 4) (n + 24) (WL E b μ' a σ' o d (hou F oo) D) 1986 ((7, .int R) :: (6, .int (hcd [xIOB, xIAE] oo)) :: lvL sb o d a b i) [] := by
    refine g_goto X dL_law_1986 2284 rfl ?_
    exact g_lv _ (fun q hq => List.mem_cons_of_mem _ (List.mem_cons_of_mem _ hq)) (next _ _)
  refine g_aload_n X dL_law_1921 1922 rfl rfl ?_
  refine g_S X hX hbl hbA hL2 dL_law_1922 dL_law_1923 dL_law_1925 dL_law_1926 dL_law_1927 (t := 1) rfl rfl rfl (by omega) 1928 rfl ?_
  refine g_S X hX hbl hbA hL2 dL_law_1928 dL_law_1929 dL_law_1931 dL_law_1932 dL_law_1933 (t := 2) rfl rfl rfl (by omega) 1934 rfl ?_
  refine g_aload_n X dL_law_1934 1935 rfl rfl ?_
  refine g_callH X hZ hN Lk_L_222 (k_L_countState E l b μ a σ σ' o d F D (xs (i + 1)) (xs (i + 2)) (hM6 _) hA.ov) dL_law_1935 rfl rfl (Nat.le_of_ble_eq_true rfl) ⟨(Nat.le_of_ble_eq_true rfl), (Nat.le_of_ble_eq_true rfl)⟩ ⟨hk, hn⟩ 1938 rfl [.int (hcd [xIOB, xIAE] oo)] rfl ?_
  refine g_istore X dL_law_1938 1940 rfl (by decide) ((6, .int (hcd [xIOB, xIAE] oo)) :: lvL sb o d a b i) rfl ?_
  refine g_aload_n X dL_law_1940 1941 rfl rfl ?_
  refine g_S X hX hbl hbA hL2 dL_law_1941 dL_law_1942 dL_law_1944 dL_law_1945 dL_law_1946 (t := 1) rfl rfl rfl (by omega) 1947 rfl ?_
  refine g_S X hX hbl hbA hL2 dL_law_1947 dL_law_1948 dL_law_1950 dL_law_1951 dL_law_1952 (t := 2) rfl rfl rfl (by omega) 1953 rfl ?_
  refine c_V X Lk_L_224 (hM7 _) dL_law_1953 rfl 0 rfl (ci := 7) rfl rfl (Nat.le_of_ble_eq_true rfl) ⟨(Nat.le_of_ble_eq_true rfl), (Nat.le_of_ble_eq_true rfl)⟩ ⟨hk, hn⟩ 1956 rfl [.int R] rfl ?_
  refine g_istore X dL_law_1956 1958 rfl (by decide) ((7, .int R) :: (6, .int (hcd [xIOB, xIAE] oo)) :: lvL sb o d a b i) rfl ?_
  refine g_aload_n X dL_law_1958 1959 rfl rfl ?_
  refine c_V X Lk_L_131 (k_X7_thrown E l _ b μ' a σ') dL_law_1959 rfl 0 rfl (ci := 7) rfl rfl (Nat.le_of_ble_eq_true rfl) ⟨(Nat.le_of_ble_eq_true rfl), (Nat.le_of_ble_eq_true rfl)⟩ ⟨hk, hn⟩ 1962 rfl [.int T] (by rw [hT]; rfl) ?_
  refine g_iload X dL_law_1962 1964 rfl rfl ?_
  refine g_ic_eq X dL_law_1964 1969 1967 rfl rfl (fun _ => ?_) (fun q => absurd hA.code q)
  refine g_iload X dL_law_1969 1971 rfl rfl ?_
  refine g_if_ne X dL_law_1971 1986 1974 rfl rfl (fun _ => J) (fun h0 => ?_)
  refine g_aload_n X dL_law_1974 1975 rfl rfl ?_
  refine g_iconst X dL_law_1975 1976 rfl (v := 0) rfl ?_
  refine g_lald X dL_law_1976 1977 rfl 51 rfl in_0 ?_
  refine g_iload X dL_law_1977 1979 rfl rfl ?_
  refine g_i2l X dL_law_1979 1980 rfl ?_
  refine g_lcmp X dL_law_1980 1981 rfl ?_
  exact g_if_eq X dL_law_1981 1986 1984 rfl rfl (fun _ => J) (fun q => absurd (hA.lg (by decide) h0) q)

set_option maxHeartbeats 4000000 in
set_option maxRecDepth 100000 in
theorem law_29 {E : kE} {p : Program} {l : Launch} {e : Env} {s : State} {m : MethodId} {below : List Frame} {meth : Method} {c : Code} {Q : State → Prop} {sb L : Nat} {xs : Nat → Int32} (C : LC E p l s m meth c sb L xs) {a b : Nat → Nat} {o d i k n : Nat} {σ μ σ' μ' : Sto} {F : Nat → Int64} {D : Nat → UInt64} (hi : i + 5 ≤ L) (hk : k ≤ 3161) (hn : n ≤ 122043) {u v : Int32} (hM6 : ∀ wr, KM E l yX6_bound cX6_bound 1 (some .int) 3 63 0 0 [.ref (a 0)] (WW E b μ a σ wr) (some (.int u)) (WW E b μ a σ' wr)) (hM7 : ∀ wr, KM E l yX7_bound cX7_bound 1 (some .int) 2 43 0 0 [.ref (b 0)] (WW E b μ a σ' wr) (some (.int v)) (WW E b μ' a σ' wr)) (hE : u = v) (next : G E (LA s) 9 p l e room_1 s m #[.ref sb] below meth c Q k n (WL E b μ' a σ' o d F D) 2284 (lvL sb o d a b i) []) : G E (LA s) 9 p l e room_1 s m #[.ref sb] below meth c Q k n (WL E b μ a σ o d F D) 1989 (lvL sb o d a b i) [] := by
  obtain ⟨X, hZ, hN, hX, hbl, hL, hlt⟩ := C
  refine g_aload_n X dL_law_1989 1990 rfl rfl ?_
  refine c_V X Lk_L_225 (hM6 _) dL_law_1990 rfl 4 rfl (ci := 6) rfl rfl (Nat.le_of_ble_eq_true rfl) ⟨(Nat.le_of_ble_eq_true rfl), (Nat.le_of_ble_eq_true rfl)⟩ ⟨hk, hn⟩ 1993 rfl [.int u] rfl ?_
  refine g_aload_n X dL_law_1993 1994 rfl rfl ?_
  refine c_V X Lk_L_228 (hM7 _) dL_law_1994 rfl 0 rfl (ci := 7) rfl rfl (Nat.le_of_ble_eq_true rfl) ⟨(Nat.le_of_ble_eq_true rfl), (Nat.le_of_ble_eq_true rfl)⟩ ⟨hk, hn⟩ 1997 rfl [.int v, .int u] rfl ?_
  exact g_ic_eq X dL_law_1997 2284 2000 rfl rfl (fun _ => next) (fun q => absurd hE q)

set_option maxHeartbeats 4000000 in
set_option maxRecDepth 100000 in
theorem law_30 {E : kE} {p : Program} {l : Launch} {e : Env} {s : State} {m : MethodId} {below : List Frame} {meth : Method} {c : Code} {Q : State → Prop} {sb L : Nat} {xs : Nat → Int32} (C : LC E p l s m meth c sb L xs) {a b : Nat → Nat} {o d i k n : Nat} {σ μ σ' μ' : Sto} {F : Nat → Int64} {D : Nat → UInt64} (hi : i + 5 ≤ L) (hk : k ≤ 3161) (hn : n ≤ 122043) {u v : Int32} (hM6 : ∀ wr, KM E l yX6_conflicts cX6_conflicts 1 (some .int) 0 0 0 0 [.ref (a 0)] (WW E b μ a σ wr) (some (.int u)) (WW E b μ a σ' wr)) (hM7 : ∀ wr, KM E l yX7_conflicts cX7_conflicts 1 (some .int) 0 0 0 0 [.ref (b 0)] (WW E b μ a σ' wr) (some (.int v)) (WW E b μ' a σ' wr)) (hE : u = v) (next : G E (LA s) 9 p l e room_1 s m #[.ref sb] below meth c Q k n (WL E b μ' a σ' o d F D) 2284 (lvL sb o d a b i) []) : G E (LA s) 9 p l e room_1 s m #[.ref sb] below meth c Q k n (WL E b μ a σ o d F D) 2002 (lvL sb o d a b i) [] := by
  obtain ⟨X, hZ, hN, hX, hbl, hL, hlt⟩ := C
  refine g_aload_n X dL_law_2002 2003 rfl rfl ?_
  refine c_V X Lk_L_229 (hM6 _) dL_law_2003 rfl 4 rfl (ci := 6) rfl rfl (Nat.le_of_ble_eq_true rfl) ⟨(Nat.le_of_ble_eq_true rfl), (Nat.le_of_ble_eq_true rfl)⟩ ⟨hk, hn⟩ 2006 rfl [.int u] rfl ?_
  refine g_aload_n X dL_law_2006 2007 rfl rfl ?_
  refine c_V X Lk_L_232 (hM7 _) dL_law_2007 rfl 0 rfl (ci := 7) rfl rfl (Nat.le_of_ble_eq_true rfl) ⟨(Nat.le_of_ble_eq_true rfl), (Nat.le_of_ble_eq_true rfl)⟩ ⟨hk, hn⟩ 2010 rfl [.int v, .int u] rfl ?_
  exact g_ic_eq X dL_law_2010 2284 2013 rfl rfl (fun _ => next) (fun q => absurd hE q)

set_option maxHeartbeats 4000000 in
set_option maxRecDepth 100000 in
theorem law_31 {E : kE} {p : Program} {l : Launch} {e : Env} {s : State} {m : MethodId} {below : List Frame} {meth : Method} {c : Code} {Q : State → Prop} {sb L : Nat} {xs : Nat → Int32} (C : LC E p l s m meth c sb L xs) {a b : Nat → Nat} {o d i k n : Nat} {σ μ σ' μ' : Sto} {F : Nat → Int64} {D : Nat → UInt64} (hi : i + 5 ≤ L) (hk : k ≤ 3161) (hn : n ≤ 122043) {u v : Int32} (hM6 : ∀ wr, KM E l yX6_logSize cX6_logSize 1 (some .int) 0 0 0 0 [.ref (a 0)] (WW E b μ a σ wr) (some (.int u)) (WW E b μ a σ' wr)) (hM7 : ∀ wr, KM E l yX7_logSize cX7_logSize 1 (some .int) 0 0 0 0 [.ref (b 0)] (WW E b μ a σ' wr) (some (.int v)) (WW E b μ' a σ' wr)) (hE : u = v) (next : G E (LA s) 9 p l e room_1 s m #[.ref sb] below meth c Q k n (WL E b μ' a σ' o d F D) 2284 (lvL sb o d a b i) []) : G E (LA s) 9 p l e room_1 s m #[.ref sb] below meth c Q k n (WL E b μ a σ o d F D) 2015 (lvL sb o d a b i) [] := by
  obtain ⟨X, hZ, hN, hX, hbl, hL, hlt⟩ := C
  refine g_aload_n X dL_law_2015 2016 rfl rfl ?_
  refine c_V X Lk_L_233 (hM6 _) dL_law_2016 rfl 4 rfl (ci := 6) rfl rfl (Nat.le_of_ble_eq_true rfl) ⟨(Nat.le_of_ble_eq_true rfl), (Nat.le_of_ble_eq_true rfl)⟩ ⟨hk, hn⟩ 2019 rfl [.int u] rfl ?_
  refine g_aload_n X dL_law_2019 2020 rfl rfl ?_
  refine c_V X Lk_L_236 (hM7 _) dL_law_2020 rfl 0 rfl (ci := 7) rfl rfl (Nat.le_of_ble_eq_true rfl) ⟨(Nat.le_of_ble_eq_true rfl), (Nat.le_of_ble_eq_true rfl)⟩ ⟨hk, hn⟩ 2023 rfl [.int v, .int u] rfl ?_
  exact g_ic_eq X dL_law_2023 2284 2026 rfl rfl (fun _ => next) (fun q => absurd hE q)

set_option maxHeartbeats 4000000 in
set_option maxRecDepth 100000 in
theorem law_32 {E : kE} {p : Program} {l : Launch} {e : Env} {s : State} {m : MethodId} {below : List Frame} {meth : Method} {c : Code} {Q : State → Prop} {sb L : Nat} {xs : Nat → Int32} (C : LC E p l s m meth c sb L xs) {a b : Nat → Nat} {o d i k n : Nat} {σ μ σ' μ' : Sto} {F : Nat → Int64} {D : Nat → UInt64} (hi : i + 5 ≤ L) (hk : k + 4 ≤ 3161) (hn : n + 24 ≤ 122043) {oo : OT} {T : Int32} {R : Int32} (hM6 : ∀ wr, KT E l yX6_log cX6_log 2 (some .int) 6 90 4 24 [.ref (a 0), .int (xs (i + 1))] (WW E b μ a σ wr) oo (WW E b μ a σ' wr)) (hM7 : ∀ wr, KM E l yX7_log cX7_log 2 (some .int) 1 22 0 0 [.ref (b 0), .int (xs (i + 1))] (WW E b μ a σ' wr) (some (.int R)) (WW E b μ' a σ' wr)) (hT : μ' 0 0 = T) (hA : AGR [xIOB] oo T R) (next : ∀ (F' : Nat → Int64) (D' : Nat → UInt64), G E (LA s) 9 p l e room_1 s m #[.ref sb] below meth c Q (k + 4) (n + 24) (WL E b μ' a σ' o d F' D') 2284 (lvL sb o d a b i) []) : G E (LA s) 9 p l e room_1 s m #[.ref sb] below meth c Q k n (WL E b μ a σ o d F D) 2028 (lvL sb o d a b i) [] := by
  obtain ⟨X, hZ, hN, hX, hbl, hL, hlt⟩ := C
  have hbA := LC.nA hbl
  have hL2 : L < 2 ^ 31 := by omega
  have J : G E (LA s) 9 p l e room_1 s m #[.ref sb] below meth c Q (k + 4) (n + 24) (WL E b μ' a σ' o d (hou F oo) D) 2081 ((7, .int R) :: (6, .int (hcd [xIOB] oo)) :: lvL sb o d a b i) [] := by
    refine g_goto X dL_law_2081 2284 rfl ?_
    exact g_lv _ (fun q hq => List.mem_cons_of_mem _ (List.mem_cons_of_mem _ hq)) (next _ _)
  refine g_aload_n X dL_law_2028 2029 rfl rfl ?_
  refine g_S X hX hbl hbA hL2 dL_law_2029 dL_law_2030 dL_law_2032 dL_law_2033 dL_law_2034 (t := 1) rfl rfl rfl (by omega) 2035 rfl ?_
  refine g_aload_n X dL_law_2035 2036 rfl rfl ?_
  refine g_callH X hZ hN Lk_L_237 (k_L_log E l b μ a σ σ' o d F D (xs (i + 1)) (hM6 _) hA.ov) dL_law_2036 rfl rfl (Nat.le_of_ble_eq_true rfl) ⟨(Nat.le_of_ble_eq_true rfl), (Nat.le_of_ble_eq_true rfl)⟩ ⟨hk, hn⟩ 2039 rfl [.int (hcd [xIOB] oo)] rfl ?_
  refine g_istore X dL_law_2039 2041 rfl (by decide) ((6, .int (hcd [xIOB] oo)) :: lvL sb o d a b i) rfl ?_
  refine g_aload_n X dL_law_2041 2042 rfl rfl ?_
  refine g_S X hX hbl hbA hL2 dL_law_2042 dL_law_2043 dL_law_2045 dL_law_2046 dL_law_2047 (t := 1) rfl rfl rfl (by omega) 2048 rfl ?_
  refine c_V X Lk_L_239 (hM7 _) dL_law_2048 rfl 0 rfl (ci := 7) rfl rfl (Nat.le_of_ble_eq_true rfl) ⟨(Nat.le_of_ble_eq_true rfl), (Nat.le_of_ble_eq_true rfl)⟩ ⟨hk, hn⟩ 2051 rfl [.int R] rfl ?_
  refine g_istore X dL_law_2051 2053 rfl (by decide) ((7, .int R) :: (6, .int (hcd [xIOB] oo)) :: lvL sb o d a b i) rfl ?_
  refine g_aload_n X dL_law_2053 2054 rfl rfl ?_
  refine c_V X Lk_L_131 (k_X7_thrown E l _ b μ' a σ') dL_law_2054 rfl 0 rfl (ci := 7) rfl rfl (Nat.le_of_ble_eq_true rfl) ⟨(Nat.le_of_ble_eq_true rfl), (Nat.le_of_ble_eq_true rfl)⟩ ⟨hk, hn⟩ 2057 rfl [.int T] (by rw [hT]; rfl) ?_
  refine g_iload X dL_law_2057 2059 rfl rfl ?_
  refine g_ic_eq X dL_law_2059 2064 2062 rfl rfl (fun _ => ?_) (fun q => absurd hA.code q)
  refine g_iload X dL_law_2064 2066 rfl rfl ?_
  refine g_if_ne X dL_law_2066 2081 2069 rfl rfl (fun _ => J) (fun h0 => ?_)
  refine g_aload_n X dL_law_2069 2070 rfl rfl ?_
  refine g_iconst X dL_law_2070 2071 rfl (v := 0) rfl ?_
  refine g_lald X dL_law_2071 2072 rfl 51 rfl in_0 ?_
  refine g_iload X dL_law_2072 2074 rfl rfl ?_
  refine g_i2l X dL_law_2074 2075 rfl ?_
  refine g_lcmp X dL_law_2075 2076 rfl ?_
  exact g_if_eq X dL_law_2076 2081 2079 rfl rfl (fun _ => J) (fun q => absurd (hA.lg (by decide) h0) q)

set_option maxHeartbeats 4000000 in
set_option maxRecDepth 100000 in
theorem law_33 {E : kE} {p : Program} {l : Launch} {e : Env} {s : State} {m : MethodId} {below : List Frame} {meth : Method} {c : Code} {Q : State → Prop} {sb L : Nat} {xs : Nat → Int32} (C : LC E p l s m meth c sb L xs) {a b : Nat → Nat} {o d i k n : Nat} {σ μ σ' μ' : Sto} {F : Nat → Int64} {D : Nat → UInt64} (hi : i + 5 ≤ L) (hk : k + 4 ≤ 3161) (hn : n + 24 ≤ 122043) {oo : OT} {T : Int32} {R : UInt64} (hM6 : ∀ wr, KT E l yX6_utilization cX6_utilization 3 (some .double) 7 110 4 24 [.ref (a 0), .int (xs (i + 1))] (WW E b μ a σ wr) oo (WW E b μ a σ' wr)) (hM7 : ∀ wr, KM E l yX7_utilization cX7_utilization 3 (some .double) 4 90 0 0 [.ref (b 0), .int (xs (i + 1))] (WW E b μ a σ' wr) (some (.double R)) (WW E b μ' a σ' wr)) (hT : μ' 0 0 = T) (hA : AGV [xIOB, xARE] oo T (.double R)) (next : ∀ (F' : Nat → Int64) (D' : Nat → UInt64), G E (LA s) 9 p l e room_1 s m #[.ref sb] below meth c Q (k + 4) (n + 24) (WL E b μ' a σ' o d F' D') 2284 (lvL sb o d a b i) []) : G E (LA s) 9 p l e room_1 s m #[.ref sb] below meth c Q k n (WL E b μ a σ o d F D) 2084 (lvL sb o d a b i) [] := by
  obtain ⟨X, hZ, hN, hX, hbl, hL, hlt⟩ := C
  have hbA := LC.nA hbl
  have hL2 : L < 2 ^ 31 := by omega
  have J : G E (LA s) 9 p l e room_1 s m #[.ref sb] below meth c Q (k + 4) (n + 24) (WL E b μ' a σ' o d F (hod D oo)) 2158 ((7, .double R) :: (6, .int (hcd [xIOB, xARE] oo)) :: lvL sb o d a b i) [] := by
    refine g_goto X dL_law_2158 2284 rfl ?_
    exact g_lv _ (fun q hq => List.mem_cons_of_mem _ (List.mem_cons_of_mem _ hq)) (next _ _)
  refine g_aload_n X dL_law_2084 2085 rfl rfl ?_
  refine g_S X hX hbl hbA hL2 dL_law_2085 dL_law_2086 dL_law_2088 dL_law_2089 dL_law_2090 (t := 1) rfl rfl rfl (by omega) 2091 rfl ?_
  refine g_aload X dL_law_2091 2093 rfl rfl ?_
  refine g_callH X hZ hN Lk_L_240 (k_L_utilization E l b μ a σ σ' o d F D (xs (i + 1)) (hM6 _) hA.ovd) dL_law_2093 rfl rfl (Nat.le_of_ble_eq_true rfl) ⟨(Nat.le_of_ble_eq_true rfl), (Nat.le_of_ble_eq_true rfl)⟩ ⟨hk, hn⟩ 2096 rfl [.int (hcd [xIOB, xARE] oo)] rfl ?_
  refine g_istore X dL_law_2096 2098 rfl (by decide) ((6, .int (hcd [xIOB, xARE] oo)) :: lvL sb o d a b i) rfl ?_
  refine g_aload_n X dL_law_2098 2099 rfl rfl ?_
  refine g_S X hX hbl hbA hL2 dL_law_2099 dL_law_2100 dL_law_2102 dL_law_2103 dL_law_2104 (t := 1) rfl rfl rfl (by omega) 2105 rfl ?_
  refine c_V X Lk_L_243 (hM7 _) dL_law_2105 rfl 0 rfl (ci := 7) rfl rfl (Nat.le_of_ble_eq_true rfl) ⟨(Nat.le_of_ble_eq_true rfl), (Nat.le_of_ble_eq_true rfl)⟩ ⟨hk, hn⟩ 2108 rfl [.double R] rfl ?_
  refine g_dstore X dL_law_2108 2110 rfl (by decide) ((7, .double R) :: (6, .int (hcd [xIOB, xARE] oo)) :: lvL sb o d a b i) rfl ?_
  refine g_aload_n X dL_law_2110 2111 rfl rfl ?_
  refine c_V X Lk_L_131 (k_X7_thrown E l _ b μ' a σ') dL_law_2111 rfl 0 rfl (ci := 7) rfl rfl (Nat.le_of_ble_eq_true rfl) ⟨(Nat.le_of_ble_eq_true rfl), (Nat.le_of_ble_eq_true rfl)⟩ ⟨hk, hn⟩ 2114 rfl [.int T] (by rw [hT]; rfl) ?_
  refine g_iload X dL_law_2114 2116 rfl rfl ?_
  refine g_ic_eq X dL_law_2116 2121 2119 rfl rfl (fun _ => ?_) (fun q => absurd hA.code q)
  refine g_iload X dL_law_2121 2123 rfl rfl ?_
  refine g_if_ne X dL_law_2123 2158 2126 rfl rfl (fun _ => J) (fun h0 => ?_)
  refine g_aload X dL_law_2126 2128 rfl rfl ?_
  refine g_iconst X dL_law_2128 2129 rfl (v := 0) rfl ?_
  refine g_dald X dL_law_2129 2130 rfl 52 rfl in_0 ?_
  rw [hA.vd (by decide) h0]
  refine g_dload X dL_law_2130 2132 rfl rfl ?_
  refine g_dcmp X dL_law_2132 2133 rfl ?_
  refine g_if_eq X dL_law_2133 2158 2136 rfl rfl (fun _ => J) (fun hz => ?_)
  refine g_aload X dL_law_2136 2138 rfl rfl ?_
  refine g_iconst X dL_law_2138 2139 rfl (v := 0) rfl ?_
  refine g_dald X dL_law_2139 2140 rfl 52 rfl in_0 ?_
  refine g_aload X dL_law_2140 2142 rfl rfl ?_
  refine g_iconst X dL_law_2142 2143 rfl (v := 0) rfl ?_
  refine g_dald X dL_law_2143 2144 rfl 52 rfl in_0 ?_
  rw [hA.vd (by decide) h0]
  refine g_dcmp X dL_law_2144 2145 rfl ?_
  refine g_if_eq X dL_law_2145 2156 2148 rfl rfl (fun q => absurd q hz) (fun _ => ?_)
  refine g_dload X dL_law_2148 2150 rfl rfl ?_
  refine g_dload X dL_law_2150 2152 rfl rfl ?_
  refine g_dcmp X dL_law_2152 2153 rfl ?_
  exact g_if_ne X dL_law_2153 2158 2156 rfl rfl (fun _ => J) (fun q => absurd q hz)

set_option maxHeartbeats 4000000 in
set_option maxRecDepth 100000 in
theorem law_34 {E : kE} {p : Program} {l : Launch} {e : Env} {s : State} {m : MethodId} {below : List Frame} {meth : Method} {c : Code} {Q : State → Prop} {sb L : Nat} {xs : Nat → Int32} (C : LC E p l s m meth c sb L xs) {a b : Nat → Nat} {o d i k n : Nat} {σ μ σ' μ' : Sto} {F : Nat → Int64} {D : Nat → UInt64} (hi : i + 5 ≤ L) (hk : k + 4 ≤ 3161) (hn : n + 24 ≤ 122043) {oo : OT} {T : Int32} {R : UInt32} (hM6 : ∀ wr, KT E l yX6_averageRest cX6_averageRest 2 (some .float) 6 90 4 24 [.ref (a 0)] (WW E b μ a σ wr) oo (WW E b μ a σ' wr)) (hM7 : ∀ wr, KM E l yX7_averageRest cX7_averageRest 3 (some .float) 2 43 0 0 [.ref (b 0)] (WW E b μ a σ' wr) (some (.float R)) (WW E b μ' a σ' wr)) (hT : μ' 0 0 = T) (hA : AGV [xARE] oo T (.float R)) (hne : vf_n64 (FP.f2d R)) (hnz : Op.cmpValue (FP.dcmp (FP.f2d R) (FP.f2d R)) .l = 0) (next : ∀ (F' : Nat → Int64) (D' : Nat → UInt64), G E (LA s) 9 p l e room_1 s m #[.ref sb] below meth c Q (k + 4) (n + 24) (WL E b μ' a σ' o d F' D') 2284 (lvL sb o d a b i) []) : G E (LA s) 9 p l e room_1 s m #[.ref sb] below meth c Q k n (WL E b μ a σ o d F D) 2161 (lvL sb o d a b i) [] := by
  obtain ⟨X, hZ, hN, hX, hbl, hL, hlt⟩ := C
  have hbA := LC.nA hbl
  have hL2 : L < 2 ^ 31 := by omega
  have J : G E (LA s) 9 p l e room_1 s m #[.ref sb] below meth c Q (k + 4) (n + 24) (WL E b μ' a σ' o d F (hod D oo)) 2224 ((7, .float R) :: (6, .int (hcd [xARE] oo)) :: lvL sb o d a b i) [] := by
    refine g_goto X dL_law_2224 2284 rfl ?_
    exact g_lv _ (fun q hq => List.mem_cons_of_mem _ (List.mem_cons_of_mem _ hq)) (next _ _)
  refine g_aload_n X dL_law_2161 2162 rfl rfl ?_
  refine g_aload X dL_law_2162 2164 rfl rfl ?_
  refine g_callH X hZ hN Lk_L_244 (k_L_averageRest E l b μ a σ σ' o d F D  (hM6 _) (hA.ovf hne)) dL_law_2164 rfl rfl (Nat.le_of_ble_eq_true rfl) ⟨(Nat.le_of_ble_eq_true rfl), (Nat.le_of_ble_eq_true rfl)⟩ ⟨hk, hn⟩ 2167 rfl [.int (hcd [xARE] oo)] rfl ?_
  refine g_istore X dL_law_2167 2169 rfl (by decide) ((6, .int (hcd [xARE] oo)) :: lvL sb o d a b i) rfl ?_
  refine g_aload_n X dL_law_2169 2170 rfl rfl ?_
  refine c_V X Lk_L_247 (hM7 _) dL_law_2170 rfl 0 rfl (ci := 7) rfl rfl (Nat.le_of_ble_eq_true rfl) ⟨(Nat.le_of_ble_eq_true rfl), (Nat.le_of_ble_eq_true rfl)⟩ ⟨hk, hn⟩ 2173 rfl [.float R] rfl ?_
  refine g_fstore X dL_law_2173 2175 rfl (by decide) ((7, .float R) :: (6, .int (hcd [xARE] oo)) :: lvL sb o d a b i) rfl ?_
  refine g_aload_n X dL_law_2175 2176 rfl rfl ?_
  refine c_V X Lk_L_131 (k_X7_thrown E l _ b μ' a σ') dL_law_2176 rfl 0 rfl (ci := 7) rfl rfl (Nat.le_of_ble_eq_true rfl) ⟨(Nat.le_of_ble_eq_true rfl), (Nat.le_of_ble_eq_true rfl)⟩ ⟨hk, hn⟩ 2179 rfl [.int T] (by rw [hT]; rfl) ?_
  refine g_iload X dL_law_2179 2181 rfl rfl ?_
  refine g_ic_eq X dL_law_2181 2186 2184 rfl rfl (fun _ => ?_) (fun q => absurd hA.code q)
  refine g_iload X dL_law_2186 2188 rfl rfl ?_
  refine g_if_ne X dL_law_2188 2224 2191 rfl rfl (fun _ => J) (fun h0 => ?_)
  refine g_aload X dL_law_2191 2193 rfl rfl ?_
  refine g_iconst X dL_law_2193 2194 rfl (v := 0) rfl ?_
  refine g_dald X dL_law_2194 2195 rfl 52 rfl in_0 ?_
  rw [hA.vf (by decide) h0]
  refine g_fload X dL_law_2195 2197 rfl rfl ?_
  refine g_f2d X dL_law_2197 2198 rfl hne ?_
  refine g_dcmp X dL_law_2198 2199 rfl ?_
  exact g_if_eq X dL_law_2199 2224 2202 rfl rfl (fun _ => J) (fun q => absurd hnz q)

set_option maxHeartbeats 4000000 in
set_option maxRecDepth 100000 in
theorem law_35 {E : kE} {p : Program} {l : Launch} {e : Env} {s : State} {m : MethodId} {below : List Frame} {meth : Method} {c : Code} {Q : State → Prop} {sb L : Nat} {xs : Nat → Int32} (C : LC E p l s m meth c sb L xs) {a b : Nat → Nat} {o d i k n : Nat} {σ μ σ' μ' : Sto} {F : Nat → Int64} {D : Nat → UInt64} (hi : i + 5 ≤ L) (hk : k ≤ 3161) (hn : n ≤ 122043) {u v : Int32} (hM6 : ∀ wr, KM E l yX6_save cX6_save 1 (some .int) 4 123 0 0 [.ref (a 0)] (WW E b μ a σ wr) (some (.int u)) (WW E b μ a σ' wr)) (hM7 : ∀ wr, KM E l yX7_save cX7_save 2 (some .int) 2 43 0 0 [.ref (b 0)] (WW E b μ a σ' wr) (some (.int v)) (WW E b μ' a σ' wr)) (hE : u = v) (next : G E (LA s) 9 p l e room_1 s m #[.ref sb] below meth c Q k n (WL E b μ' a σ' o d F D) 2284 (lvL sb o d a b i) []) : G E (LA s) 9 p l e room_1 s m #[.ref sb] below meth c Q k n (WL E b μ a σ o d F D) 2227 (lvL sb o d a b i) [] := by
  obtain ⟨X, hZ, hN, hX, hbl, hL, hlt⟩ := C
  refine g_aload_n X dL_law_2227 2228 rfl rfl ?_
  refine c_V X Lk_L_248 (hM6 _) dL_law_2228 rfl 4 rfl (ci := 6) rfl rfl (Nat.le_of_ble_eq_true rfl) ⟨(Nat.le_of_ble_eq_true rfl), (Nat.le_of_ble_eq_true rfl)⟩ ⟨hk, hn⟩ 2231 rfl [.int u] rfl ?_
  refine g_aload_n X dL_law_2231 2232 rfl rfl ?_
  refine c_V X Lk_L_251 (hM7 _) dL_law_2232 rfl 0 rfl (ci := 7) rfl rfl (Nat.le_of_ble_eq_true rfl) ⟨(Nat.le_of_ble_eq_true rfl), (Nat.le_of_ble_eq_true rfl)⟩ ⟨hk, hn⟩ 2235 rfl [.int v, .int u] rfl ?_
  exact g_ic_eq X dL_law_2235 2284 2238 rfl rfl (fun _ => next) (fun q => absurd hE q)

set_option maxHeartbeats 4000000 in
set_option maxRecDepth 100000 in
theorem law_36 {E : kE} {p : Program} {l : Launch} {e : Env} {s : State} {m : MethodId} {below : List Frame} {meth : Method} {c : Code} {Q : State → Prop} {sb L : Nat} {xs : Nat → Int32} (C : LC E p l s m meth c sb L xs) {a b : Nat → Nat} {o d i k n : Nat} {σ μ σ' μ' : Sto} {F : Nat → Int64} {D : Nat → UInt64} (hi : i + 5 ≤ L) (hk : k + 4 ≤ 3161) (hn : n + 24 ≤ 122043) {oo : OT} {T : Int32} {R : Int32} (hM6 : ∀ wr, KT E l yX6_restore cX6_restore 1 (some .int) 6 123 4 24 [.ref (a 0)] (WW E b μ a σ wr) oo (WW E b μ a σ' wr)) (hM7 : ∀ wr, KM E l yX7_restore cX7_restore 2 (some .int) 2 43 0 0 [.ref (b 0)] (WW E b μ a σ' wr) (some (.int R)) (WW E b μ' a σ' wr)) (hT : μ' 0 0 = T) (hA : AGR [xISE] oo T R) (next : ∀ (F' : Nat → Int64) (D' : Nat → UInt64), G E (LA s) 9 p l e room_1 s m #[.ref sb] below meth c Q (k + 4) (n + 24) (WL E b μ' a σ' o d F' D') 2284 (lvL sb o d a b i) []) : G E (LA s) 9 p l e room_1 s m #[.ref sb] below meth c Q k n (WL E b μ a σ o d F D) 2240 (lvL sb o d a b i) [] := by
  obtain ⟨X, hZ, hN, hX, hbl, hL, hlt⟩ := C
  have hbA := LC.nA hbl
  have hL2 : L < 2 ^ 31 := by omega
  have J : G E (LA s) 9 p l e room_1 s m #[.ref sb] below meth c Q (k + 4) (n + 24) (WL E b μ' a σ' o d (hou F oo) D) 2281 ((7, .int R) :: (6, .int (hcd [xISE] oo)) :: lvL sb o d a b i) [] := by
    refine g_goto X dL_law_2281 2284 rfl ?_
    exact g_lv _ (fun q hq => List.mem_cons_of_mem _ (List.mem_cons_of_mem _ hq)) (next _ _)
  refine g_aload_n X dL_law_2240 2241 rfl rfl ?_
  refine g_aload_n X dL_law_2241 2242 rfl rfl ?_
  refine g_callH X hZ hN Lk_L_252 (k_L_restore E l b μ a σ σ' o d F D  (hM6 _) hA.ov) dL_law_2242 rfl rfl (Nat.le_of_ble_eq_true rfl) ⟨(Nat.le_of_ble_eq_true rfl), (Nat.le_of_ble_eq_true rfl)⟩ ⟨hk, hn⟩ 2245 rfl [.int (hcd [xISE] oo)] rfl ?_
  refine g_istore X dL_law_2245 2247 rfl (by decide) ((6, .int (hcd [xISE] oo)) :: lvL sb o d a b i) rfl ?_
  refine g_aload_n X dL_law_2247 2248 rfl rfl ?_
  refine c_V X Lk_L_254 (hM7 _) dL_law_2248 rfl 0 rfl (ci := 7) rfl rfl (Nat.le_of_ble_eq_true rfl) ⟨(Nat.le_of_ble_eq_true rfl), (Nat.le_of_ble_eq_true rfl)⟩ ⟨hk, hn⟩ 2251 rfl [.int R] rfl ?_
  refine g_istore X dL_law_2251 2253 rfl (by decide) ((7, .int R) :: (6, .int (hcd [xISE] oo)) :: lvL sb o d a b i) rfl ?_
  refine g_aload_n X dL_law_2253 2254 rfl rfl ?_
  refine c_V X Lk_L_131 (k_X7_thrown E l _ b μ' a σ') dL_law_2254 rfl 0 rfl (ci := 7) rfl rfl (Nat.le_of_ble_eq_true rfl) ⟨(Nat.le_of_ble_eq_true rfl), (Nat.le_of_ble_eq_true rfl)⟩ ⟨hk, hn⟩ 2257 rfl [.int T] (by rw [hT]; rfl) ?_
  refine g_iload X dL_law_2257 2259 rfl rfl ?_
  refine g_ic_eq X dL_law_2259 2264 2262 rfl rfl (fun _ => ?_) (fun q => absurd hA.code q)
  refine g_iload X dL_law_2264 2266 rfl rfl ?_
  refine g_if_ne X dL_law_2266 2281 2269 rfl rfl (fun _ => J) (fun h0 => ?_)
  refine g_aload_n X dL_law_2269 2270 rfl rfl ?_
  refine g_iconst X dL_law_2270 2271 rfl (v := 0) rfl ?_
  refine g_lald X dL_law_2271 2272 rfl 51 rfl in_0 ?_
  refine g_iload X dL_law_2272 2274 rfl rfl ?_
  refine g_i2l X dL_law_2274 2275 rfl ?_
  refine g_lcmp X dL_law_2275 2276 rfl ?_
  exact g_if_eq X dL_law_2276 2281 2279 rfl rfl (fun _ => J) (fun q => absurd (hA.lg (by decide) h0) q)

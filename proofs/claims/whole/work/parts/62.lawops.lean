theorem law_row {p : Program} {l : Launch} {e : Env} {s : State} {m : MethodId} {below : List Frame} {meth : Method} {c : Code} {b L : Nat} {xs : Nat → Int32} (hL : L ≤ 3072) (C0 : lw_At p s m meth c b L xs) {Ec Er : wq_E} (hF : lw_F2 s Ec Er) {i : Nat} (hi : i + 6 ≤ L) {Mc Mr : wq_M} {H : Heap} {locs : List Loc} (hP6 : va_P Ec.1 wq_cl (wq_ws Ec wq_yC Mc) H) (hP7 : va_P Er.1 wq_cl (wq_ws Er wq_yR Mr) H) (hS : va_S (fun q : Nat => s.heap.size ≤ q) s.heap H locs) (hI : Inv Mc Mr) {ls : Array Slot} (hl : lv_has ls 4 [(0, .ref b), (1, .ref (Ec.2.1 0)), (2, .ref (Er.2.1 0)), (3, .int (nI i))]) {kc ks : Nat} {Z : State → Prop} (kk : ∀ (Mc Mr : wq_M) (H : Heap) (locs : List Loc), va_P Ec.1 wq_cl (wq_ws Ec wq_yC Mc) H → va_P Er.1 wq_cl (wq_ws Er wq_yR Mr) H → va_S (fun q : Nat => s.heap.size ≤ q) s.heap H locs → Inv Mc Mr → W p l e room_1 s m #[Value.ref b] below meth c H locs kc ks Z (F0 m 1157 ls [])) (hkc : kc ≤ 600000) (hks : ks ≤ 7302250) : W p l e room_1 s m #[Value.ref b] below meth c H locs kc ks Z (F0 m 184 ls []) := by
  have hx := C0.1
  have hb := C0.2.1
  obtain ⟨a, C, N, e1, e2, hI2⟩ := E_row hI (xs (i + 1)) (xs (i + 2)) (xs (i + 3))
  refine lv_aload_n hx hb dL_law_184 rfl (lv_at hl 1 rfl) ?_
  refine lw_arg C0 hi hL 1 (by decide) hl hS dL_law_185 dL_law_186 dL_law_187 (by decide) dL_law_188 dL_law_189 ?_
  refine lw_arg C0 hi hL 2 (by decide) hl hS dL_law_190 dL_law_191 dL_law_192 (by decide) dL_law_193 dL_law_194 ?_
  refine lw_arg C0 hi hL 3 (by decide) hl hS dL_law_195 dL_law_196 dL_law_197 (by decide) dL_law_198 dL_law_199 ?_
  refine lw_call6 hkc hks (As := [.int (xs (i + 1)), .int (xs (i + 2)), .int (xs (i + 3))]) (n := 3) (st := []) C0 hF (ctX6_row (E := Ec) (d := 60) (by omega) e1) (by decide) rfl npX6_row tw_263 tw_264 tw_265 tw_266 (Nat.le_of_ble_eq_true rfl) hl.1 hP6 hP7 hS dL_law_200 (fun H locs hP6 hP7 hS => ?_)
  refine W.eq (g2 := F0 m 203 ls [.int a]) rfl ?_
  refine lv_aload_n hx hb dL_law_203 rfl (lv_at hl 2 rfl) ?_
  refine lw_arg C0 hi hL 1 (by decide) hl hS dL_law_204 dL_law_205 dL_law_206 (by decide) dL_law_207 dL_law_208 ?_
  refine lw_arg C0 hi hL 2 (by decide) hl hS dL_law_209 dL_law_210 dL_law_211 (by decide) dL_law_212 dL_law_213 ?_
  refine lw_arg C0 hi hL 3 (by decide) hl hS dL_law_214 dL_law_215 dL_law_216 (by decide) dL_law_217 dL_law_218 ?_
  refine lw_call7 hkc hks (As := [.int (xs (i + 1)), .int (xs (i + 2)), .int (xs (i + 3))]) (n := 3) (st := [.int a]) C0 hF (ctX7_row (E := Er) (d := 60) (by omega) e2) (by decide) rfl npX7_row tw_798 tw_799 tw_800 tw_801 (Nat.le_of_ble_eq_true rfl) hl.1 hP6 hP7 hS dL_law_219 (fun H locs hP6 hP7 hS => ?_)
  refine W.eq (g2 := F0 m 222 ls [.int a, .int a]) rfl ?_
  exact lv_icmp_eq (tgt := 1157) hx hb dL_law_222 (by decide) (fun _ => kk _ _ _ _ hP6 hP7 hS hI2) (fun c => absurd rfl c)
theorem law_set {p : Program} {l : Launch} {e : Env} {s : State} {m : MethodId} {below : List Frame} {meth : Method} {c : Code} {b L : Nat} {xs : Nat → Int32} (hL : L ≤ 3072) (C0 : lw_At p s m meth c b L xs) {Ec Er : wq_E} (hF : lw_F2 s Ec Er) {i : Nat} (hi : i + 6 ≤ L) {Mc Mr : wq_M} {H : Heap} {locs : List Loc} (hP6 : va_P Ec.1 wq_cl (wq_ws Ec wq_yC Mc) H) (hP7 : va_P Er.1 wq_cl (wq_ws Er wq_yR Mr) H) (hS : va_S (fun q : Nat => s.heap.size ≤ q) s.heap H locs) (hI : Inv Mc Mr) {ls : Array Slot} (hl : lv_has ls 4 [(0, .ref b), (1, .ref (Ec.2.1 0)), (2, .ref (Er.2.1 0)), (3, .int (nI i))]) {kc ks : Nat} {Z : State → Prop} (kk : ∀ (Mc Mr : wq_M) (H : Heap) (locs : List Loc), va_P Ec.1 wq_cl (wq_ws Ec wq_yC Mc) H → va_P Er.1 wq_cl (wq_ws Er wq_yR Mr) H → va_S (fun q : Nat => s.heap.size ≤ q) s.heap H locs → Inv Mc Mr → W p l e room_1 s m #[Value.ref b] below meth c H locs kc ks Z (F0 m 1157 ls [])) (hkc : kc ≤ 600000) (hks : ks ≤ 7302250) : W p l e room_1 s m #[Value.ref b] below meth c H locs kc ks Z (F0 m 227 ls []) := by
  have hx := C0.1
  have hb := C0.2.1
  obtain ⟨a, C, N, e1, e2, hI2⟩ := E_set hI (xs (i + 1)) (xs (i + 2)) (xs (i + 3))
  refine lv_aload_n hx hb dL_law_227 rfl (lv_at hl 1 rfl) ?_
  refine lw_arg C0 hi hL 1 (by decide) hl hS dL_law_228 dL_law_229 dL_law_230 (by decide) dL_law_231 dL_law_232 ?_
  refine lw_arg C0 hi hL 2 (by decide) hl hS dL_law_233 dL_law_234 dL_law_235 (by decide) dL_law_236 dL_law_237 ?_
  refine lw_arg C0 hi hL 3 (by decide) hl hS dL_law_238 dL_law_239 dL_law_240 (by decide) dL_law_241 dL_law_242 ?_
  refine lw_call6 hkc hks (As := [.int (xs (i + 1)), .int (xs (i + 2)), .int (xs (i + 3))]) (n := 3) (st := []) C0 hF (ctX6_set (E := Ec) (d := 60) (by omega) e1) (by decide) rfl npX6_set tw_287 tw_288 tw_289 tw_290 (Nat.le_of_ble_eq_true rfl) hl.1 hP6 hP7 hS dL_law_243 (fun H locs hP6 hP7 hS => ?_)
  refine W.eq (g2 := F0 m 246 ls [.int a]) rfl ?_
  refine lv_aload_n hx hb dL_law_246 rfl (lv_at hl 2 rfl) ?_
  refine lw_arg C0 hi hL 1 (by decide) hl hS dL_law_247 dL_law_248 dL_law_249 (by decide) dL_law_250 dL_law_251 ?_
  refine lw_arg C0 hi hL 2 (by decide) hl hS dL_law_252 dL_law_253 dL_law_254 (by decide) dL_law_255 dL_law_256 ?_
  refine lw_arg C0 hi hL 3 (by decide) hl hS dL_law_257 dL_law_258 dL_law_259 (by decide) dL_law_260 dL_law_261 ?_
  refine lw_call7 hkc hks (As := [.int (xs (i + 1)), .int (xs (i + 2)), .int (xs (i + 3))]) (n := 3) (st := [.int a]) C0 hF (ctX7_set (E := Er) (d := 60) (by omega) e2) (by decide) rfl npX7_set tw_816 tw_817 tw_818 tw_819 (Nat.le_of_ble_eq_true rfl) hl.1 hP6 hP7 hS dL_law_262 (fun H locs hP6 hP7 hS => ?_)
  refine W.eq (g2 := F0 m 265 ls [.int a, .int a]) rfl ?_
  exact lv_icmp_eq (tgt := 1157) hx hb dL_law_265 (by decide) (fun _ => kk _ _ _ _ hP6 hP7 hS hI2) (fun c => absurd rfl c)
theorem law_copy {p : Program} {l : Launch} {e : Env} {s : State} {m : MethodId} {below : List Frame} {meth : Method} {c : Code} {b L : Nat} {xs : Nat → Int32} (hL : L ≤ 3072) (C0 : lw_At p s m meth c b L xs) {Ec Er : wq_E} (hF : lw_F2 s Ec Er) {i : Nat} (hi : i + 6 ≤ L) {Mc Mr : wq_M} {H : Heap} {locs : List Loc} (hP6 : va_P Ec.1 wq_cl (wq_ws Ec wq_yC Mc) H) (hP7 : va_P Er.1 wq_cl (wq_ws Er wq_yR Mr) H) (hS : va_S (fun q : Nat => s.heap.size ≤ q) s.heap H locs) (hI : Inv Mc Mr) {ls : Array Slot} (hl : lv_has ls 4 [(0, .ref b), (1, .ref (Ec.2.1 0)), (2, .ref (Er.2.1 0)), (3, .int (nI i))]) {kc ks : Nat} {Z : State → Prop} (kk : ∀ (Mc Mr : wq_M) (H : Heap) (locs : List Loc), va_P Ec.1 wq_cl (wq_ws Ec wq_yC Mc) H → va_P Er.1 wq_cl (wq_ws Er wq_yR Mr) H → va_S (fun q : Nat => s.heap.size ≤ q) s.heap H locs → Inv Mc Mr → W p l e room_1 s m #[Value.ref b] below meth c H locs kc ks Z (F0 m 1157 ls [])) (hkc : kc ≤ 600000) (hks : ks ≤ 7302250) : W p l e room_1 s m #[Value.ref b] below meth c H locs kc ks Z (F0 m 270 ls []) := by
  have hx := C0.1
  have hb := C0.2.1
  obtain ⟨a, C, N, e1, e2, hI2⟩ := E_copy hI (xs (i + 1)) (xs (i + 2)) (xs (i + 3)) (xs (i + 4)) (xs (i + 5))
  refine lv_aload_n hx hb dL_law_270 rfl (lv_at hl 1 rfl) ?_
  refine lw_arg C0 hi hL 1 (by decide) hl hS dL_law_271 dL_law_272 dL_law_273 (by decide) dL_law_274 dL_law_275 ?_
  refine lw_arg C0 hi hL 2 (by decide) hl hS dL_law_276 dL_law_277 dL_law_278 (by decide) dL_law_279 dL_law_280 ?_
  refine lw_arg C0 hi hL 3 (by decide) hl hS dL_law_281 dL_law_282 dL_law_283 (by decide) dL_law_284 dL_law_285 ?_
  refine lw_arg C0 hi hL 4 (by decide) hl hS dL_law_286 dL_law_287 dL_law_288 (by decide) dL_law_289 dL_law_290 ?_
  refine lw_arg C0 hi hL 5 (by decide) hl hS dL_law_291 dL_law_292 dL_law_293 (by decide) dL_law_294 dL_law_295 ?_
  refine lw_call6 hkc hks (As := [.int (xs (i + 1)), .int (xs (i + 2)), .int (xs (i + 3)), .int (xs (i + 4)), .int (xs (i + 5))]) (n := 5) (st := []) C0 hF (ctX6_copy (E := Ec) (d := 60) (by omega) e1) (by decide) rfl npX6_copy tw_303 tw_304 tw_305 tw_306 (Nat.le_of_ble_eq_true rfl) hl.1 hP6 hP7 hS dL_law_296 (fun H locs hP6 hP7 hS => ?_)
  refine W.eq (g2 := F0 m 299 ls [.int a]) rfl ?_
  refine lv_aload_n hx hb dL_law_299 rfl (lv_at hl 2 rfl) ?_
  refine lw_arg C0 hi hL 1 (by decide) hl hS dL_law_300 dL_law_301 dL_law_302 (by decide) dL_law_303 dL_law_304 ?_
  refine lw_arg C0 hi hL 2 (by decide) hl hS dL_law_305 dL_law_306 dL_law_307 (by decide) dL_law_308 dL_law_309 ?_
  refine lw_arg C0 hi hL 3 (by decide) hl hS dL_law_310 dL_law_311 dL_law_312 (by decide) dL_law_313 dL_law_314 ?_
  refine lw_arg C0 hi hL 4 (by decide) hl hS dL_law_315 dL_law_316 dL_law_317 (by decide) dL_law_318 dL_law_319 ?_
  refine lw_arg C0 hi hL 5 (by decide) hl hS dL_law_320 dL_law_321 dL_law_322 (by decide) dL_law_323 dL_law_324 ?_
  refine lw_call7 hkc hks (As := [.int (xs (i + 1)), .int (xs (i + 2)), .int (xs (i + 3)), .int (xs (i + 4)), .int (xs (i + 5))]) (n := 5) (st := [.int a]) C0 hF (ctX7_copy (E := Er) (d := 60) (by omega) e2) (by decide) rfl npX7_copy tw_820 tw_821 tw_822 tw_823 (Nat.le_of_ble_eq_true rfl) hl.1 hP6 hP7 hS dL_law_325 (fun H locs hP6 hP7 hS => ?_)
  refine W.eq (g2 := F0 m 328 ls [.int a, .int a]) rfl ?_
  exact lv_icmp_eq (tgt := 1157) hx hb dL_law_328 (by decide) (fun _ => kk _ _ _ _ hP6 hP7 hS hI2) (fun c => absurd rfl c)
theorem law_drop {p : Program} {l : Launch} {e : Env} {s : State} {m : MethodId} {below : List Frame} {meth : Method} {c : Code} {b L : Nat} {xs : Nat → Int32} (hL : L ≤ 3072) (C0 : lw_At p s m meth c b L xs) {Ec Er : wq_E} (hF : lw_F2 s Ec Er) {i : Nat} (hi : i + 6 ≤ L) {Mc Mr : wq_M} {H : Heap} {locs : List Loc} (hP6 : va_P Ec.1 wq_cl (wq_ws Ec wq_yC Mc) H) (hP7 : va_P Er.1 wq_cl (wq_ws Er wq_yR Mr) H) (hS : va_S (fun q : Nat => s.heap.size ≤ q) s.heap H locs) (hI : Inv Mc Mr) {ls : Array Slot} (hl : lv_has ls 4 [(0, .ref b), (1, .ref (Ec.2.1 0)), (2, .ref (Er.2.1 0)), (3, .int (nI i))]) {kc ks : Nat} {Z : State → Prop} (kk : ∀ (Mc Mr : wq_M) (H : Heap) (locs : List Loc), va_P Ec.1 wq_cl (wq_ws Ec wq_yC Mc) H → va_P Er.1 wq_cl (wq_ws Er wq_yR Mr) H → va_S (fun q : Nat => s.heap.size ≤ q) s.heap H locs → Inv Mc Mr → W p l e room_1 s m #[Value.ref b] below meth c H locs kc ks Z (F0 m 1157 ls [])) (hkc : kc ≤ 600000) (hks : ks ≤ 7302250) : W p l e room_1 s m #[Value.ref b] below meth c H locs kc ks Z (F0 m 333 ls []) := by
  have hx := C0.1
  have hb := C0.2.1
  obtain ⟨a, C, N, e1, e2, hI2⟩ := E_drop hI (xs (i + 1))
  refine lv_aload_n hx hb dL_law_333 rfl (lv_at hl 1 rfl) ?_
  refine lw_arg C0 hi hL 1 (by decide) hl hS dL_law_334 dL_law_335 dL_law_336 (by decide) dL_law_337 dL_law_338 ?_
  refine lw_call6 hkc hks (As := [.int (xs (i + 1))]) (n := 1) (st := []) C0 hF (ctX6_drop (E := Ec) (d := 60) (by omega) e1) (by decide) rfl npX6_drop tw_310 tw_311 tw_312 tw_313 (Nat.le_of_ble_eq_true rfl) hl.1 hP6 hP7 hS dL_law_339 (fun H locs hP6 hP7 hS => ?_)
  refine W.eq (g2 := F0 m 342 ls [.int a]) rfl ?_
  refine lv_aload_n hx hb dL_law_342 rfl (lv_at hl 2 rfl) ?_
  refine lw_arg C0 hi hL 1 (by decide) hl hS dL_law_343 dL_law_344 dL_law_345 (by decide) dL_law_346 dL_law_347 ?_
  refine lw_call7 hkc hks (As := [.int (xs (i + 1))]) (n := 1) (st := [.int a]) C0 hF (ctX7_drop (E := Er) (d := 60) (by omega) e2) (by decide) rfl npX7_drop tw_824 tw_825 tw_826 tw_827 (Nat.le_of_ble_eq_true rfl) hl.1 hP6 hP7 hS dL_law_348 (fun H locs hP6 hP7 hS => ?_)
  refine W.eq (g2 := F0 m 351 ls [.int a, .int a]) rfl ?_
  exact lv_icmp_eq (tgt := 1157) hx hb dL_law_351 (by decide) (fun _ => kk _ _ _ _ hP6 hP7 hS hI2) (fun c => absurd rfl c)
theorem law_feed {p : Program} {l : Launch} {e : Env} {s : State} {m : MethodId} {below : List Frame} {meth : Method} {c : Code} {b L : Nat} {xs : Nat → Int32} (hL : L ≤ 3072) (C0 : lw_At p s m meth c b L xs) {Ec Er : wq_E} (hF : lw_F2 s Ec Er) {i : Nat} (hi : i + 6 ≤ L) {Mc Mr : wq_M} {H : Heap} {locs : List Loc} (hP6 : va_P Ec.1 wq_cl (wq_ws Ec wq_yC Mc) H) (hP7 : va_P Er.1 wq_cl (wq_ws Er wq_yR Mr) H) (hS : va_S (fun q : Nat => s.heap.size ≤ q) s.heap H locs) (hI : Inv Mc Mr) {ls : Array Slot} (hl : lv_has ls 4 [(0, .ref b), (1, .ref (Ec.2.1 0)), (2, .ref (Er.2.1 0)), (3, .int (nI i))]) {kc ks : Nat} {Z : State → Prop} (kk : ∀ (Mc Mr : wq_M) (H : Heap) (locs : List Loc), va_P Ec.1 wq_cl (wq_ws Ec wq_yC Mc) H → va_P Er.1 wq_cl (wq_ws Er wq_yR Mr) H → va_S (fun q : Nat => s.heap.size ≤ q) s.heap H locs → Inv Mc Mr → W p l e room_1 s m #[Value.ref b] below meth c H locs kc ks Z (F0 m 1157 ls [])) (hkc : kc ≤ 600000) (hks : ks ≤ 7302250) : W p l e room_1 s m #[Value.ref b] below meth c H locs kc ks Z (F0 m 356 ls []) := by
  have hx := C0.1
  have hb := C0.2.1
  obtain ⟨a, C, N, e1, e2, hI2⟩ := E_feed hI (xs (i + 1))
  refine lv_aload_n hx hb dL_law_356 rfl (lv_at hl 1 rfl) ?_
  refine lw_arg C0 hi hL 1 (by decide) hl hS dL_law_357 dL_law_358 dL_law_359 (by decide) dL_law_360 dL_law_361 ?_
  refine lw_call6 hkc hks (As := [.int (xs (i + 1))]) (n := 1) (st := []) C0 hF (ctX6_feed (E := Ec) (d := 60) (by omega) e1) (by decide) rfl npX6_feed tw_314 tw_315 tw_316 tw_317 (Nat.le_of_ble_eq_true rfl) hl.1 hP6 hP7 hS dL_law_362 (fun H locs hP6 hP7 hS => ?_)
  refine W.eq (g2 := F0 m 365 ls [.int a]) rfl ?_
  refine lv_aload_n hx hb dL_law_365 rfl (lv_at hl 2 rfl) ?_
  refine lw_arg C0 hi hL 1 (by decide) hl hS dL_law_366 dL_law_367 dL_law_368 (by decide) dL_law_369 dL_law_370 ?_
  refine lw_call7 hkc hks (As := [.int (xs (i + 1))]) (n := 1) (st := [.int a]) C0 hF (ctX7_feed (E := Er) (d := 60) (by omega) e2) (by decide) rfl npX7_feed tw_828 tw_829 tw_830 tw_831 (Nat.le_of_ble_eq_true rfl) hl.1 hP6 hP7 hS dL_law_371 (fun H locs hP6 hP7 hS => ?_)
  refine W.eq (g2 := F0 m 374 ls [.int a, .int a]) rfl ?_
  exact lv_icmp_eq (tgt := 1157) hx hb dL_law_374 (by decide) (fun _ => kk _ _ _ _ hP6 hP7 hS hI2) (fun c => absurd rfl c)
theorem law_well {p : Program} {l : Launch} {e : Env} {s : State} {m : MethodId} {below : List Frame} {meth : Method} {c : Code} {b L : Nat} {xs : Nat → Int32} (hL : L ≤ 3072) (C0 : lw_At p s m meth c b L xs) {Ec Er : wq_E} (hF : lw_F2 s Ec Er) {i : Nat} (hi : i + 6 ≤ L) {Mc Mr : wq_M} {H : Heap} {locs : List Loc} (hP6 : va_P Ec.1 wq_cl (wq_ws Ec wq_yC Mc) H) (hP7 : va_P Er.1 wq_cl (wq_ws Er wq_yR Mr) H) (hS : va_S (fun q : Nat => s.heap.size ≤ q) s.heap H locs) (hI : Inv Mc Mr) {ls : Array Slot} (hl : lv_has ls 4 [(0, .ref b), (1, .ref (Ec.2.1 0)), (2, .ref (Er.2.1 0)), (3, .int (nI i))]) {kc ks : Nat} {Z : State → Prop} (kk : ∀ (Mc Mr : wq_M) (H : Heap) (locs : List Loc), va_P Ec.1 wq_cl (wq_ws Ec wq_yC Mc) H → va_P Er.1 wq_cl (wq_ws Er wq_yR Mr) H → va_S (fun q : Nat => s.heap.size ≤ q) s.heap H locs → Inv Mc Mr → W p l e room_1 s m #[Value.ref b] below meth c H locs kc ks Z (F0 m 1157 ls [])) (hkc : kc ≤ 600000) (hks : ks ≤ 7302250) : W p l e room_1 s m #[Value.ref b] below meth c H locs kc ks Z (F0 m 379 ls []) := by
  have hx := C0.1
  have hb := C0.2.1
  obtain ⟨a, C, N, e1, e2, hI2⟩ := E_well hI 
  refine lv_aload_n hx hb dL_law_379 rfl (lv_at hl 1 rfl) ?_
  refine lw_call6 hkc hks (As := []) (n := 0) (st := []) C0 hF (ctX6_well (E := Ec) (d := 60) (by omega) e1) (by decide) rfl npX6_well tw_323 tw_324 tw_325 tw_326 (Nat.le_of_ble_eq_true rfl) hl.1 hP6 hP7 hS dL_law_380 (fun H locs hP6 hP7 hS => ?_)
  refine W.eq (g2 := F0 m 383 ls [.int a]) rfl ?_
  refine lv_aload_n hx hb dL_law_383 rfl (lv_at hl 2 rfl) ?_
  refine lw_call7 hkc hks (As := []) (n := 0) (st := [.int a]) C0 hF (ctX7_well (E := Er) (d := 60) (by omega) e2) (by decide) rfl npX7_well tw_838 tw_839 tw_840 tw_841 (Nat.le_of_ble_eq_true rfl) hl.1 hP6 hP7 hS dL_law_384 (fun H locs hP6 hP7 hS => ?_)
  refine W.eq (g2 := F0 m 387 ls [.int a, .int a]) rfl ?_
  exact lv_icmp_eq (tgt := 1157) hx hb dL_law_387 (by decide) (fun _ => kk _ _ _ _ hP6 hP7 hS hI2) (fun c => absurd rfl c)
theorem law_fault {p : Program} {l : Launch} {e : Env} {s : State} {m : MethodId} {below : List Frame} {meth : Method} {c : Code} {b L : Nat} {xs : Nat → Int32} (hL : L ≤ 3072) (C0 : lw_At p s m meth c b L xs) {Ec Er : wq_E} (hF : lw_F2 s Ec Er) {i : Nat} (hi : i + 6 ≤ L) {Mc Mr : wq_M} {H : Heap} {locs : List Loc} (hP6 : va_P Ec.1 wq_cl (wq_ws Ec wq_yC Mc) H) (hP7 : va_P Er.1 wq_cl (wq_ws Er wq_yR Mr) H) (hS : va_S (fun q : Nat => s.heap.size ≤ q) s.heap H locs) (hI : Inv Mc Mr) {ls : Array Slot} (hl : lv_has ls 4 [(0, .ref b), (1, .ref (Ec.2.1 0)), (2, .ref (Er.2.1 0)), (3, .int (nI i))]) {kc ks : Nat} {Z : State → Prop} (kk : ∀ (Mc Mr : wq_M) (H : Heap) (locs : List Loc), va_P Ec.1 wq_cl (wq_ws Ec wq_yC Mc) H → va_P Er.1 wq_cl (wq_ws Er wq_yR Mr) H → va_S (fun q : Nat => s.heap.size ≤ q) s.heap H locs → Inv Mc Mr → W p l e room_1 s m #[Value.ref b] below meth c H locs kc ks Z (F0 m 1157 ls [])) (hkc : kc ≤ 600000) (hks : ks ≤ 7302250) : W p l e room_1 s m #[Value.ref b] below meth c H locs kc ks Z (F0 m 392 ls []) := by
  have hx := C0.1
  have hb := C0.2.1
  obtain ⟨a, N, e1, e2, hI2⟩ := E_fault hI 
  refine lv_aload_n hx hb dL_law_392 rfl (lv_at hl 1 rfl) ?_
  refine lw_call6 hkc hks (As := []) (n := 0) (st := []) C0 hF (ctX6_fault (E := Ec) (d := 60) (by omega) e1) (by decide) rfl npX6_fault tw_384 tw_385 tw_386 tw_387 (Nat.le_of_ble_eq_true rfl) hl.1 hP6 hP7 hS dL_law_393 (fun H locs hP6 hP7 hS => ?_)
  refine W.eq (g2 := F0 m 396 ls [.int a]) rfl ?_
  refine lv_aload_n hx hb dL_law_396 rfl (lv_at hl 2 rfl) ?_
  refine lw_call7 hkc hks (As := []) (n := 0) (st := [.int a]) C0 hF (ctX7_fault (E := Er) (d := 60) (by omega) e2) (by decide) rfl npX7_fault tw_834 tw_835 tw_836 tw_837 (Nat.le_of_ble_eq_true rfl) hl.1 hP6 hP7 hS dL_law_397 (fun H locs hP6 hP7 hS => ?_)
  refine W.eq (g2 := F0 m 400 ls [.int a, .int a]) rfl ?_
  exact lv_icmp_eq (tgt := 1157) hx hb dL_law_400 (by decide) (fun _ => kk _ _ _ _ hP6 hP7 hS hI2) (fun c => absurd rfl c)
theorem law_undo {p : Program} {l : Launch} {e : Env} {s : State} {m : MethodId} {below : List Frame} {meth : Method} {c : Code} {b L : Nat} {xs : Nat → Int32} (hL : L ≤ 3072) (C0 : lw_At p s m meth c b L xs) {Ec Er : wq_E} (hF : lw_F2 s Ec Er) {i : Nat} (hi : i + 6 ≤ L) {Mc Mr : wq_M} {H : Heap} {locs : List Loc} (hP6 : va_P Ec.1 wq_cl (wq_ws Ec wq_yC Mc) H) (hP7 : va_P Er.1 wq_cl (wq_ws Er wq_yR Mr) H) (hS : va_S (fun q : Nat => s.heap.size ≤ q) s.heap H locs) (hI : Inv Mc Mr) {ls : Array Slot} (hl : lv_has ls 4 [(0, .ref b), (1, .ref (Ec.2.1 0)), (2, .ref (Er.2.1 0)), (3, .int (nI i))]) {kc ks : Nat} {Z : State → Prop} (kk : ∀ (Mc Mr : wq_M) (H : Heap) (locs : List Loc), va_P Ec.1 wq_cl (wq_ws Ec wq_yC Mc) H → va_P Er.1 wq_cl (wq_ws Er wq_yR Mr) H → va_S (fun q : Nat => s.heap.size ≤ q) s.heap H locs → Inv Mc Mr → W p l e room_1 s m #[Value.ref b] below meth c H locs kc ks Z (F0 m 1157 ls [])) (hkc : kc ≤ 600000) (hks : ks ≤ 7302250) : W p l e room_1 s m #[Value.ref b] below meth c H locs kc ks Z (F0 m 405 ls []) := by
  have hx := C0.1
  have hb := C0.2.1
  obtain ⟨a, C, N, e1, e2, hI2⟩ := E_undo hI 
  refine lv_aload_n hx hb dL_law_405 rfl (lv_at hl 1 rfl) ?_
  refine lw_call6 hkc hks (As := []) (n := 0) (st := []) C0 hF (ctX6_undo (E := Ec) (d := 60) (by omega) e1) (by decide) rfl npX6_undo tw_388 tw_389 tw_390 tw_391 (Nat.le_of_ble_eq_true rfl) hl.1 hP6 hP7 hS dL_law_406 (fun H locs hP6 hP7 hS => ?_)
  refine W.eq (g2 := F0 m 409 ls [.int a]) rfl ?_
  refine lv_aload_n hx hb dL_law_409 rfl (lv_at hl 2 rfl) ?_
  refine lw_call7 hkc hks (As := []) (n := 0) (st := [.int a]) C0 hF (ctX7_undo (E := Er) (d := 60) (by omega) e2) (by decide) rfl npX7_undo tw_967 tw_968 tw_969 tw_970 (Nat.le_of_ble_eq_true rfl) hl.1 hP6 hP7 hS dL_law_410 (fun H locs hP6 hP7 hS => ?_)
  refine W.eq (g2 := F0 m 413 ls [.int a, .int a]) rfl ?_
  exact lv_icmp_eq (tgt := 1157) hx hb dL_law_413 (by decide) (fun _ => kk _ _ _ _ hP6 hP7 hS hI2) (fun c => absurd rfl c)
theorem law_lay {p : Program} {l : Launch} {e : Env} {s : State} {m : MethodId} {below : List Frame} {meth : Method} {c : Code} {b L : Nat} {xs : Nat → Int32} (hL : L ≤ 3072) (C0 : lw_At p s m meth c b L xs) {Ec Er : wq_E} (hF : lw_F2 s Ec Er) {i : Nat} (hi : i + 6 ≤ L) {Mc Mr : wq_M} {H : Heap} {locs : List Loc} (hP6 : va_P Ec.1 wq_cl (wq_ws Ec wq_yC Mc) H) (hP7 : va_P Er.1 wq_cl (wq_ws Er wq_yR Mr) H) (hS : va_S (fun q : Nat => s.heap.size ≤ q) s.heap H locs) (hI : Inv Mc Mr) {ls : Array Slot} (hl : lv_has ls 4 [(0, .ref b), (1, .ref (Ec.2.1 0)), (2, .ref (Er.2.1 0)), (3, .int (nI i))]) {kc ks : Nat} {Z : State → Prop} (kk : ∀ (Mc Mr : wq_M) (H : Heap) (locs : List Loc), va_P Ec.1 wq_cl (wq_ws Ec wq_yC Mc) H → va_P Er.1 wq_cl (wq_ws Er wq_yR Mr) H → va_S (fun q : Nat => s.heap.size ≤ q) s.heap H locs → Inv Mc Mr → W p l e room_1 s m #[Value.ref b] below meth c H locs kc ks Z (F0 m 1157 ls [])) (hkc : kc ≤ 600000) (hks : ks ≤ 7302250) : W p l e room_1 s m #[Value.ref b] below meth c H locs kc ks Z (F0 m 418 ls []) := by
  have hx := C0.1
  have hb := C0.2.1
  obtain ⟨a, C, N, e1, e2, hI2⟩ := E_lay hI (xs (i + 1)) (xs (i + 2))
  refine lv_aload_n hx hb dL_law_418 rfl (lv_at hl 1 rfl) ?_
  refine lw_arg C0 hi hL 1 (by decide) hl hS dL_law_419 dL_law_420 dL_law_421 (by decide) dL_law_422 dL_law_423 ?_
  refine lw_arg C0 hi hL 2 (by decide) hl hS dL_law_424 dL_law_425 dL_law_426 (by decide) dL_law_427 dL_law_428 ?_
  refine lw_call6 hkc hks (As := [.int (xs (i + 1)), .int (xs (i + 2))]) (n := 2) (st := []) C0 hF (ctX6_lay (E := Ec) (d := 60) (by omega) e1) (by decide) rfl npX6_lay tw_402 tw_403 tw_404 tw_405 (Nat.le_of_ble_eq_true rfl) hl.1 hP6 hP7 hS dL_law_429 (fun H locs hP6 hP7 hS => ?_)
  refine W.eq (g2 := F0 m 432 ls [.int a]) rfl ?_
  refine lv_aload_n hx hb dL_law_432 rfl (lv_at hl 2 rfl) ?_
  refine lw_arg C0 hi hL 1 (by decide) hl hS dL_law_433 dL_law_434 dL_law_435 (by decide) dL_law_436 dL_law_437 ?_
  refine lw_arg C0 hi hL 2 (by decide) hl hS dL_law_438 dL_law_439 dL_law_440 (by decide) dL_law_441 dL_law_442 ?_
  refine lw_call7 hkc hks (As := [.int (xs (i + 1)), .int (xs (i + 2))]) (n := 2) (st := [.int a]) C0 hF (ctX7_lay (E := Er) (d := 60) (by omega) e2) (by decide) rfl npX7_lay tw_891 tw_892 tw_893 tw_894 (Nat.le_of_ble_eq_true rfl) hl.1 hP6 hP7 hS dL_law_443 (fun H locs hP6 hP7 hS => ?_)
  refine W.eq (g2 := F0 m 446 ls [.int a, .int a]) rfl ?_
  exact lv_icmp_eq (tgt := 1157) hx hb dL_law_446 (by decide) (fun _ => kk _ _ _ _ hP6 hP7 hS hI2) (fun c => absurd rfl c)
theorem law_layBest {p : Program} {l : Launch} {e : Env} {s : State} {m : MethodId} {below : List Frame} {meth : Method} {c : Code} {b L : Nat} {xs : Nat → Int32} (hL : L ≤ 3072) (C0 : lw_At p s m meth c b L xs) {Ec Er : wq_E} (hF : lw_F2 s Ec Er) {i : Nat} (hi : i + 6 ≤ L) {Mc Mr : wq_M} {H : Heap} {locs : List Loc} (hP6 : va_P Ec.1 wq_cl (wq_ws Ec wq_yC Mc) H) (hP7 : va_P Er.1 wq_cl (wq_ws Er wq_yR Mr) H) (hS : va_S (fun q : Nat => s.heap.size ≤ q) s.heap H locs) (hI : Inv Mc Mr) {ls : Array Slot} (hl : lv_has ls 4 [(0, .ref b), (1, .ref (Ec.2.1 0)), (2, .ref (Er.2.1 0)), (3, .int (nI i))]) {kc ks : Nat} {Z : State → Prop} (kk : ∀ (Mc Mr : wq_M) (H : Heap) (locs : List Loc), va_P Ec.1 wq_cl (wq_ws Ec wq_yC Mc) H → va_P Er.1 wq_cl (wq_ws Er wq_yR Mr) H → va_S (fun q : Nat => s.heap.size ≤ q) s.heap H locs → Inv Mc Mr → W p l e room_1 s m #[Value.ref b] below meth c H locs kc ks Z (F0 m 1157 ls [])) (hkc : kc ≤ 600000) (hks : ks ≤ 7302250) : W p l e room_1 s m #[Value.ref b] below meth c H locs kc ks Z (F0 m 451 ls []) := by
  have hx := C0.1
  have hb := C0.2.1
  obtain ⟨a, C, N, e1, e2, hI2⟩ := E_layBest hI 
  refine lv_aload_n hx hb dL_law_451 rfl (lv_at hl 1 rfl) ?_
  refine lw_call6 hkc hks (As := []) (n := 0) (st := []) C0 hF (ctX6_layBest (E := Ec) (d := 60) (by omega) e1) (by decide) rfl npX6_layBest tw_423 tw_424 tw_425 tw_426 (Nat.le_of_ble_eq_true rfl) hl.1 hP6 hP7 hS dL_law_452 (fun H locs hP6 hP7 hS => ?_)
  refine W.eq (g2 := F0 m 455 ls [.int a]) rfl ?_
  refine lv_aload_n hx hb dL_law_455 rfl (lv_at hl 2 rfl) ?_
  refine lw_call7 hkc hks (As := []) (n := 0) (st := [.int a]) C0 hF (ctX7_layBest (E := Er) (d := 60) (by omega) e2) (by decide) rfl npX7_layBest tw_908 tw_909 tw_910 tw_911 (Nat.le_of_ble_eq_true rfl) hl.1 hP6 hP7 hS dL_law_456 (fun H locs hP6 hP7 hS => ?_)
  refine W.eq (g2 := F0 m 459 ls [.int a, .int a]) rfl ?_
  exact lv_icmp_eq (tgt := 1157) hx hb dL_law_459 (by decide) (fun _ => kk _ _ _ _ hP6 hP7 hS hI2) (fun c => absurd rfl c)
theorem law_rule {p : Program} {l : Launch} {e : Env} {s : State} {m : MethodId} {below : List Frame} {meth : Method} {c : Code} {b L : Nat} {xs : Nat → Int32} (hL : L ≤ 3072) (C0 : lw_At p s m meth c b L xs) {Ec Er : wq_E} (hF : lw_F2 s Ec Er) {i : Nat} (hi : i + 6 ≤ L) {Mc Mr : wq_M} {H : Heap} {locs : List Loc} (hP6 : va_P Ec.1 wq_cl (wq_ws Ec wq_yC Mc) H) (hP7 : va_P Er.1 wq_cl (wq_ws Er wq_yR Mr) H) (hS : va_S (fun q : Nat => s.heap.size ≤ q) s.heap H locs) (hI : Inv Mc Mr) {ls : Array Slot} (hl : lv_has ls 4 [(0, .ref b), (1, .ref (Ec.2.1 0)), (2, .ref (Er.2.1 0)), (3, .int (nI i))]) {kc ks : Nat} {Z : State → Prop} (kk : ∀ (Mc Mr : wq_M) (H : Heap) (locs : List Loc), va_P Ec.1 wq_cl (wq_ws Ec wq_yC Mc) H → va_P Er.1 wq_cl (wq_ws Er wq_yR Mr) H → va_S (fun q : Nat => s.heap.size ≤ q) s.heap H locs → Inv Mc Mr → W p l e room_1 s m #[Value.ref b] below meth c H locs kc ks Z (F0 m 1157 ls [])) (hkc : kc ≤ 600000) (hks : ks ≤ 7302250) : W p l e room_1 s m #[Value.ref b] below meth c H locs kc ks Z (F0 m 464 ls []) := by
  have hx := C0.1
  have hb := C0.2.1
  obtain ⟨a, C, N, e1, e2, hI2⟩ := E_rule hI (xs (i + 1)) (xs (i + 2))
  refine lv_aload_n hx hb dL_law_464 rfl (lv_at hl 1 rfl) ?_
  refine lw_arg C0 hi hL 1 (by decide) hl hS dL_law_465 dL_law_466 dL_law_467 (by decide) dL_law_468 dL_law_469 ?_
  refine lw_arg C0 hi hL 2 (by decide) hl hS dL_law_470 dL_law_471 dL_law_472 (by decide) dL_law_473 dL_law_474 ?_
  refine lw_call6 hkc hks (As := [.int (xs (i + 1)), .int (xs (i + 2))]) (n := 2) (st := []) C0 hF (ctX6_rule (E := Ec) (d := 60) (by omega) e1) (by decide) rfl npX6_rule tw_504 tw_505 tw_506 tw_507 (Nat.le_of_ble_eq_true rfl) hl.1 hP6 hP7 hS dL_law_475 (fun H locs hP6 hP7 hS => ?_)
  refine W.eq (g2 := F0 m 478 ls [.int a]) rfl ?_
  refine lv_aload_n hx hb dL_law_478 rfl (lv_at hl 2 rfl) ?_
  refine lw_arg C0 hi hL 1 (by decide) hl hS dL_law_479 dL_law_480 dL_law_481 (by decide) dL_law_482 dL_law_483 ?_
  refine lw_arg C0 hi hL 2 (by decide) hl hS dL_law_484 dL_law_485 dL_law_486 (by decide) dL_law_487 dL_law_488 ?_
  refine lw_call7 hkc hks (As := [.int (xs (i + 1)), .int (xs (i + 2))]) (n := 2) (st := [.int a]) C0 hF (ctX7_rule (E := Er) (d := 60) (by omega) e2) (by decide) rfl npX7_rule tw_956 tw_957 tw_958 tw_959 (Nat.le_of_ble_eq_true rfl) hl.1 hP6 hP7 hS dL_law_489 (fun H locs hP6 hP7 hS => ?_)
  refine W.eq (g2 := F0 m 492 ls [.int a, .int a]) rfl ?_
  exact lv_icmp_eq (tgt := 1157) hx hb dL_law_492 (by decide) (fun _ => kk _ _ _ _ hP6 hP7 hS hI2) (fun c => absurd rfl c)
theorem law_price {p : Program} {l : Launch} {e : Env} {s : State} {m : MethodId} {below : List Frame} {meth : Method} {c : Code} {b L : Nat} {xs : Nat → Int32} (hL : L ≤ 3072) (C0 : lw_At p s m meth c b L xs) {Ec Er : wq_E} (hF : lw_F2 s Ec Er) {i : Nat} (hi : i + 6 ≤ L) {Mc Mr : wq_M} {H : Heap} {locs : List Loc} (hP6 : va_P Ec.1 wq_cl (wq_ws Ec wq_yC Mc) H) (hP7 : va_P Er.1 wq_cl (wq_ws Er wq_yR Mr) H) (hS : va_S (fun q : Nat => s.heap.size ≤ q) s.heap H locs) (hI : Inv Mc Mr) {ls : Array Slot} (hl : lv_has ls 4 [(0, .ref b), (1, .ref (Ec.2.1 0)), (2, .ref (Er.2.1 0)), (3, .int (nI i))]) {kc ks : Nat} {Z : State → Prop} (kk : ∀ (Mc Mr : wq_M) (H : Heap) (locs : List Loc), va_P Ec.1 wq_cl (wq_ws Ec wq_yC Mc) H → va_P Er.1 wq_cl (wq_ws Er wq_yR Mr) H → va_S (fun q : Nat => s.heap.size ≤ q) s.heap H locs → Inv Mc Mr → W p l e room_1 s m #[Value.ref b] below meth c H locs kc ks Z (F0 m 1157 ls [])) (hkc : kc ≤ 600000) (hks : ks ≤ 7302250) : W p l e room_1 s m #[Value.ref b] below meth c H locs kc ks Z (F0 m 497 ls []) := by
  have hx := C0.1
  have hb := C0.2.1
  obtain ⟨a, C, N, e1, e2, hI2⟩ := E_price hI (xs (i + 1)) (xs (i + 2))
  refine lv_aload_n hx hb dL_law_497 rfl (lv_at hl 1 rfl) ?_
  refine lw_arg C0 hi hL 1 (by decide) hl hS dL_law_498 dL_law_499 dL_law_500 (by decide) dL_law_501 dL_law_502 ?_
  refine lw_arg C0 hi hL 2 (by decide) hl hS dL_law_503 dL_law_504 dL_law_505 (by decide) dL_law_506 dL_law_507 ?_
  refine lw_call6 hkc hks (As := [.int (xs (i + 1)), .int (xs (i + 2))]) (n := 2) (st := []) C0 hF (ctX6_price (E := Ec) (d := 60) (by omega) e1) (by decide) rfl npX6_price tw_510 tw_511 tw_512 tw_513 (Nat.le_of_ble_eq_true rfl) hl.1 hP6 hP7 hS dL_law_508 (fun H locs hP6 hP7 hS => ?_)
  refine W.eq (g2 := F0 m 511 ls [.int a]) rfl ?_
  refine lv_aload_n hx hb dL_law_511 rfl (lv_at hl 2 rfl) ?_
  refine lw_arg C0 hi hL 1 (by decide) hl hS dL_law_512 dL_law_513 dL_law_514 (by decide) dL_law_515 dL_law_516 ?_
  refine lw_arg C0 hi hL 2 (by decide) hl hS dL_law_517 dL_law_518 dL_law_519 (by decide) dL_law_520 dL_law_521 ?_
  refine lw_call7 hkc hks (As := [.int (xs (i + 1)), .int (xs (i + 2))]) (n := 2) (st := [.int a]) C0 hF (ctX7_price (E := Er) (d := 60) (by omega) e2) (by decide) rfl npX7_price tw_963 tw_964 tw_965 tw_966 (Nat.le_of_ble_eq_true rfl) hl.1 hP6 hP7 hS dL_law_522 (fun H locs hP6 hP7 hS => ?_)
  refine W.eq (g2 := F0 m 525 ls [.int a, .int a]) rfl ?_
  exact lv_icmp_eq (tgt := 1157) hx hb dL_law_525 (by decide) (fun _ => kk _ _ _ _ hP6 hP7 hS hI2) (fun c => absurd rfl c)
theorem law_grade {p : Program} {l : Launch} {e : Env} {s : State} {m : MethodId} {below : List Frame} {meth : Method} {c : Code} {b L : Nat} {xs : Nat → Int32} (hL : L ≤ 3072) (C0 : lw_At p s m meth c b L xs) {Ec Er : wq_E} (hF : lw_F2 s Ec Er) {i : Nat} (hi : i + 6 ≤ L) {Mc Mr : wq_M} {H : Heap} {locs : List Loc} (hP6 : va_P Ec.1 wq_cl (wq_ws Ec wq_yC Mc) H) (hP7 : va_P Er.1 wq_cl (wq_ws Er wq_yR Mr) H) (hS : va_S (fun q : Nat => s.heap.size ≤ q) s.heap H locs) (hI : Inv Mc Mr) {ls : Array Slot} (hl : lv_has ls 4 [(0, .ref b), (1, .ref (Ec.2.1 0)), (2, .ref (Er.2.1 0)), (3, .int (nI i))]) {kc ks : Nat} {Z : State → Prop} (kk : ∀ (Mc Mr : wq_M) (H : Heap) (locs : List Loc), va_P Ec.1 wq_cl (wq_ws Ec wq_yC Mc) H → va_P Er.1 wq_cl (wq_ws Er wq_yR Mr) H → va_S (fun q : Nat => s.heap.size ≤ q) s.heap H locs → Inv Mc Mr → W p l e room_1 s m #[Value.ref b] below meth c H locs kc ks Z (F0 m 1157 ls [])) (hkc : kc ≤ 600000) (hks : ks ≤ 7302250) : W p l e room_1 s m #[Value.ref b] below meth c H locs kc ks Z (F0 m 530 ls []) := by
  have hx := C0.1
  have hb := C0.2.1
  obtain ⟨a, N, e1, e2, hI2⟩ := E_grade hI (xs (i + 1)) (xs (i + 2))
  refine lv_aload_n hx hb dL_law_530 rfl (lv_at hl 1 rfl) ?_
  refine lw_arg C0 hi hL 1 (by decide) hl hS dL_law_531 dL_law_532 dL_law_533 (by decide) dL_law_534 dL_law_535 ?_
  refine lw_arg C0 hi hL 2 (by decide) hl hS dL_law_536 dL_law_537 dL_law_538 (by decide) dL_law_539 dL_law_540 ?_
  refine lw_call6 hkc hks (As := [.int (xs (i + 1)), .int (xs (i + 2))]) (n := 2) (st := []) C0 hF (ctX6_grade (E := Ec) (d := 60) (by omega) e1) (by decide) rfl npX6_grade tw_517 tw_518 tw_519 tw_520 (Nat.le_of_ble_eq_true rfl) hl.1 hP6 hP7 hS dL_law_541 (fun H locs hP6 hP7 hS => ?_)
  refine W.eq (g2 := F0 m 544 ls [.int a]) rfl ?_
  refine lv_aload_n hx hb dL_law_544 rfl (lv_at hl 2 rfl) ?_
  refine lw_arg C0 hi hL 1 (by decide) hl hS dL_law_545 dL_law_546 dL_law_547 (by decide) dL_law_548 dL_law_549 ?_
  refine lw_arg C0 hi hL 2 (by decide) hl hS dL_law_550 dL_law_551 dL_law_552 (by decide) dL_law_553 dL_law_554 ?_
  refine lw_call7 hkc hks (As := [.int (xs (i + 1)), .int (xs (i + 2))]) (n := 2) (st := [.int a]) C0 hF (ctX7_grade (E := Er) (d := 60) (by omega) e2) (by decide) rfl npX7_grade tw_971 tw_972 tw_973 tw_974 (Nat.le_of_ble_eq_true rfl) hl.1 hP6 hP7 hS dL_law_555 (fun H locs hP6 hP7 hS => ?_)
  refine W.eq (g2 := F0 m 558 ls [.int a, .int a]) rfl ?_
  exact lv_icmp_eq (tgt := 1157) hx hb dL_law_558 (by decide) (fun _ => kk _ _ _ _ hP6 hP7 hS hI2) (fun c => absurd rfl c)
theorem law_step {p : Program} {l : Launch} {e : Env} {s : State} {m : MethodId} {below : List Frame} {meth : Method} {c : Code} {b L : Nat} {xs : Nat → Int32} (hL : L ≤ 3072) (C0 : lw_At p s m meth c b L xs) {Ec Er : wq_E} (hF : lw_F2 s Ec Er) {i : Nat} (hi : i + 6 ≤ L) {Mc Mr : wq_M} {H : Heap} {locs : List Loc} (hP6 : va_P Ec.1 wq_cl (wq_ws Ec wq_yC Mc) H) (hP7 : va_P Er.1 wq_cl (wq_ws Er wq_yR Mr) H) (hS : va_S (fun q : Nat => s.heap.size ≤ q) s.heap H locs) (hI : Inv Mc Mr) {ls : Array Slot} (hl : lv_has ls 4 [(0, .ref b), (1, .ref (Ec.2.1 0)), (2, .ref (Er.2.1 0)), (3, .int (nI i))]) {kc ks : Nat} {Z : State → Prop} (kk : ∀ (Mc Mr : wq_M) (H : Heap) (locs : List Loc), va_P Ec.1 wq_cl (wq_ws Ec wq_yC Mc) H → va_P Er.1 wq_cl (wq_ws Er wq_yR Mr) H → va_S (fun q : Nat => s.heap.size ≤ q) s.heap H locs → Inv Mc Mr → W p l e room_1 s m #[Value.ref b] below meth c H locs kc ks Z (F0 m 1157 ls [])) (hkc : kc ≤ 600000) (hks : ks ≤ 7302250) : W p l e room_1 s m #[Value.ref b] below meth c H locs kc ks Z (F0 m 563 ls []) := by
  have hx := C0.1
  have hb := C0.2.1
  obtain ⟨a, N, e1, e2, hI2⟩ := E_step hI (xs (i + 1)) (xs (i + 2))
  refine lv_aload_n hx hb dL_law_563 rfl (lv_at hl 1 rfl) ?_
  refine lw_arg C0 hi hL 1 (by decide) hl hS dL_law_564 dL_law_565 dL_law_566 (by decide) dL_law_567 dL_law_568 ?_
  refine lw_arg C0 hi hL 2 (by decide) hl hS dL_law_569 dL_law_570 dL_law_571 (by decide) dL_law_572 dL_law_573 ?_
  refine lw_call6 hkc hks (As := [.int (xs (i + 1)), .int (xs (i + 2))]) (n := 2) (st := []) C0 hF (ctX6_step (E := Ec) (d := 60) (by omega) e1) (by decide) rfl npX6_step tw_521 tw_522 tw_523 tw_524 (Nat.le_of_ble_eq_true rfl) hl.1 hP6 hP7 hS dL_law_574 (fun H locs hP6 hP7 hS => ?_)
  refine W.eq (g2 := F0 m 577 ls [.int a]) rfl ?_
  refine lv_aload_n hx hb dL_law_577 rfl (lv_at hl 2 rfl) ?_
  refine lw_arg C0 hi hL 1 (by decide) hl hS dL_law_578 dL_law_579 dL_law_580 (by decide) dL_law_581 dL_law_582 ?_
  refine lw_arg C0 hi hL 2 (by decide) hl hS dL_law_583 dL_law_584 dL_law_585 (by decide) dL_law_586 dL_law_587 ?_
  refine lw_call7 hkc hks (As := [.int (xs (i + 1)), .int (xs (i + 2))]) (n := 2) (st := [.int a]) C0 hF (ctX7_step (E := Er) (d := 60) (by omega) e2) (by decide) rfl npX7_step tw_976 tw_977 tw_978 tw_979 (Nat.le_of_ble_eq_true rfl) hl.1 hP6 hP7 hS dL_law_588 (fun H locs hP6 hP7 hS => ?_)
  refine W.eq (g2 := F0 m 591 ls [.int a, .int a]) rfl ?_
  exact lv_icmp_eq (tgt := 1157) hx hb dL_law_591 (by decide) (fun _ => kk _ _ _ _ hP6 hP7 hS hI2) (fun c => absurd rfl c)
theorem law_bears {p : Program} {l : Launch} {e : Env} {s : State} {m : MethodId} {below : List Frame} {meth : Method} {c : Code} {b L : Nat} {xs : Nat → Int32} (hL : L ≤ 3072) (C0 : lw_At p s m meth c b L xs) {Ec Er : wq_E} (hF : lw_F2 s Ec Er) {i : Nat} (hi : i + 6 ≤ L) {Mc Mr : wq_M} {H : Heap} {locs : List Loc} (hP6 : va_P Ec.1 wq_cl (wq_ws Ec wq_yC Mc) H) (hP7 : va_P Er.1 wq_cl (wq_ws Er wq_yR Mr) H) (hS : va_S (fun q : Nat => s.heap.size ≤ q) s.heap H locs) (hI : Inv Mc Mr) {ls : Array Slot} (hl : lv_has ls 4 [(0, .ref b), (1, .ref (Ec.2.1 0)), (2, .ref (Er.2.1 0)), (3, .int (nI i))]) {kc ks : Nat} {Z : State → Prop} (kk : ∀ (Mc Mr : wq_M) (H : Heap) (locs : List Loc), va_P Ec.1 wq_cl (wq_ws Ec wq_yC Mc) H → va_P Er.1 wq_cl (wq_ws Er wq_yR Mr) H → va_S (fun q : Nat => s.heap.size ≤ q) s.heap H locs → Inv Mc Mr → W p l e room_1 s m #[Value.ref b] below meth c H locs kc ks Z (F0 m 1157 ls [])) (hkc : kc ≤ 600000) (hks : ks ≤ 7302250) : W p l e room_1 s m #[Value.ref b] below meth c H locs kc ks Z (F0 m 596 ls []) := by
  have hx := C0.1
  have hb := C0.2.1
  obtain ⟨a, N, e1, e2, hI2⟩ := E_bears hI (xs (i + 1)) (xs (i + 2))
  refine lv_aload_n hx hb dL_law_596 rfl (lv_at hl 1 rfl) ?_
  refine lw_arg C0 hi hL 1 (by decide) hl hS dL_law_597 dL_law_598 dL_law_599 (by decide) dL_law_600 dL_law_601 ?_
  refine lw_arg C0 hi hL 2 (by decide) hl hS dL_law_602 dL_law_603 dL_law_604 (by decide) dL_law_605 dL_law_606 ?_
  refine lw_call6 hkc hks (As := [.int (xs (i + 1)), .int (xs (i + 2))]) (n := 2) (st := []) C0 hF (ctX6_bears (E := Ec) (d := 60) (by omega) e1) (by decide) rfl npX6_bears tw_545 tw_546 tw_547 tw_548 (Nat.le_of_ble_eq_true rfl) hl.1 hP6 hP7 hS dL_law_607 (fun H locs hP6 hP7 hS => ?_)
  refine W.eq (g2 := F0 m 610 ls [.int a]) rfl ?_
  refine lv_aload_n hx hb dL_law_610 rfl (lv_at hl 2 rfl) ?_
  refine lw_arg C0 hi hL 1 (by decide) hl hS dL_law_611 dL_law_612 dL_law_613 (by decide) dL_law_614 dL_law_615 ?_
  refine lw_arg C0 hi hL 2 (by decide) hl hS dL_law_616 dL_law_617 dL_law_618 (by decide) dL_law_619 dL_law_620 ?_
  refine lw_call7 hkc hks (As := [.int (xs (i + 1)), .int (xs (i + 2))]) (n := 2) (st := [.int a]) C0 hF (ctX7_bears (E := Er) (d := 60) (by omega) e2) (by decide) rfl npX7_bears tw_989 tw_990 tw_991 tw_992 (Nat.le_of_ble_eq_true rfl) hl.1 hP6 hP7 hS dL_law_621 (fun H locs hP6 hP7 hS => ?_)
  refine W.eq (g2 := F0 m 624 ls [.int a, .int a]) rfl ?_
  exact lv_icmp_eq (tgt := 1157) hx hb dL_law_624 (by decide) (fun _ => kk _ _ _ _ hP6 hP7 hS hI2) (fun c => absurd rfl c)
theorem law_stand {p : Program} {l : Launch} {e : Env} {s : State} {m : MethodId} {below : List Frame} {meth : Method} {c : Code} {b L : Nat} {xs : Nat → Int32} (hL : L ≤ 3072) (C0 : lw_At p s m meth c b L xs) {Ec Er : wq_E} (hF : lw_F2 s Ec Er) {i : Nat} (hi : i + 6 ≤ L) {Mc Mr : wq_M} {H : Heap} {locs : List Loc} (hP6 : va_P Ec.1 wq_cl (wq_ws Ec wq_yC Mc) H) (hP7 : va_P Er.1 wq_cl (wq_ws Er wq_yR Mr) H) (hS : va_S (fun q : Nat => s.heap.size ≤ q) s.heap H locs) (hI : Inv Mc Mr) {ls : Array Slot} (hl : lv_has ls 4 [(0, .ref b), (1, .ref (Ec.2.1 0)), (2, .ref (Er.2.1 0)), (3, .int (nI i))]) {kc ks : Nat} {Z : State → Prop} (kk : ∀ (Mc Mr : wq_M) (H : Heap) (locs : List Loc), va_P Ec.1 wq_cl (wq_ws Ec wq_yC Mc) H → va_P Er.1 wq_cl (wq_ws Er wq_yR Mr) H → va_S (fun q : Nat => s.heap.size ≤ q) s.heap H locs → Inv Mc Mr → W p l e room_1 s m #[Value.ref b] below meth c H locs kc ks Z (F0 m 1157 ls [])) (hkc : kc ≤ 600000) (hks : ks ≤ 7302250) : W p l e room_1 s m #[Value.ref b] below meth c H locs kc ks Z (F0 m 629 ls []) := by
  have hx := C0.1
  have hb := C0.2.1
  obtain ⟨a, N, e1, e2, hI2⟩ := E_stand hI (xs (i + 1))
  refine lv_aload_n hx hb dL_law_629 rfl (lv_at hl 1 rfl) ?_
  refine lw_arg C0 hi hL 1 (by decide) hl hS dL_law_630 dL_law_631 dL_law_632 (by decide) dL_law_633 dL_law_634 ?_
  refine lw_call6 hkc hks (As := [.int (xs (i + 1))]) (n := 1) (st := []) C0 hF (ctX6_stand (E := Ec) (d := 60) (by omega) e1) (by decide) rfl npX6_stand tw_552 tw_553 tw_554 tw_555 (Nat.le_of_ble_eq_true rfl) hl.1 hP6 hP7 hS dL_law_635 (fun H locs hP6 hP7 hS => ?_)
  refine W.eq (g2 := F0 m 638 ls [.int a]) rfl ?_
  refine lv_aload_n hx hb dL_law_638 rfl (lv_at hl 2 rfl) ?_
  refine lw_arg C0 hi hL 1 (by decide) hl hS dL_law_639 dL_law_640 dL_law_641 (by decide) dL_law_642 dL_law_643 ?_
  refine lw_call7 hkc hks (As := [.int (xs (i + 1))]) (n := 1) (st := [.int a]) C0 hF (ctX7_stand (E := Er) (d := 60) (by omega) e2) (by decide) rfl npX7_stand tw_993 tw_994 tw_995 tw_996 (Nat.le_of_ble_eq_true rfl) hl.1 hP6 hP7 hS dL_law_644 (fun H locs hP6 hP7 hS => ?_)
  refine W.eq (g2 := F0 m 647 ls [.int a, .int a]) rfl ?_
  exact lv_icmp_eq (tgt := 1157) hx hb dL_law_647 (by decide) (fun _ => kk _ _ _ _ hP6 hP7 hS hI2) (fun c => absurd rfl c)
theorem law_best {p : Program} {l : Launch} {e : Env} {s : State} {m : MethodId} {below : List Frame} {meth : Method} {c : Code} {b L : Nat} {xs : Nat → Int32} (hL : L ≤ 3072) (C0 : lw_At p s m meth c b L xs) {Ec Er : wq_E} (hF : lw_F2 s Ec Er) {i : Nat} (hi : i + 6 ≤ L) {Mc Mr : wq_M} {H : Heap} {locs : List Loc} (hP6 : va_P Ec.1 wq_cl (wq_ws Ec wq_yC Mc) H) (hP7 : va_P Er.1 wq_cl (wq_ws Er wq_yR Mr) H) (hS : va_S (fun q : Nat => s.heap.size ≤ q) s.heap H locs) (hI : Inv Mc Mr) {ls : Array Slot} (hl : lv_has ls 4 [(0, .ref b), (1, .ref (Ec.2.1 0)), (2, .ref (Er.2.1 0)), (3, .int (nI i))]) {kc ks : Nat} {Z : State → Prop} (kk : ∀ (Mc Mr : wq_M) (H : Heap) (locs : List Loc), va_P Ec.1 wq_cl (wq_ws Ec wq_yC Mc) H → va_P Er.1 wq_cl (wq_ws Er wq_yR Mr) H → va_S (fun q : Nat => s.heap.size ≤ q) s.heap H locs → Inv Mc Mr → W p l e room_1 s m #[Value.ref b] below meth c H locs kc ks Z (F0 m 1157 ls [])) (hkc : kc ≤ 600000) (hks : ks ≤ 7302250) : W p l e room_1 s m #[Value.ref b] below meth c H locs kc ks Z (F0 m 652 ls []) := by
  have hx := C0.1
  have hb := C0.2.1
  obtain ⟨a, C, N, e1, e2, hI2⟩ := E_best hI (xs (i + 1))
  refine lv_aload_n hx hb dL_law_652 rfl (lv_at hl 1 rfl) ?_
  refine lw_arg C0 hi hL 1 (by decide) hl hS dL_law_653 dL_law_654 dL_law_655 (by decide) dL_law_656 dL_law_657 ?_
  refine lw_call6 hkc hks (As := [.int (xs (i + 1))]) (n := 1) (st := []) C0 hF (ctX6_best (E := Ec) (d := 60) (by omega) e1) (by decide) rfl npX6_best tw_572 tw_573 tw_574 tw_575 (Nat.le_of_ble_eq_true rfl) hl.1 hP6 hP7 hS dL_law_658 (fun H locs hP6 hP7 hS => ?_)
  refine W.eq (g2 := F0 m 661 ls [.int a]) rfl ?_
  refine lv_aload_n hx hb dL_law_661 rfl (lv_at hl 2 rfl) ?_
  refine lw_arg C0 hi hL 1 (by decide) hl hS dL_law_662 dL_law_663 dL_law_664 (by decide) dL_law_665 dL_law_666 ?_
  refine lw_call7 hkc hks (As := [.int (xs (i + 1))]) (n := 1) (st := [.int a]) C0 hF (ctX7_best (E := Er) (d := 60) (by omega) e2) (by decide) rfl npX7_best tw_1004 tw_1005 tw_1006 tw_1007 (Nat.le_of_ble_eq_true rfl) hl.1 hP6 hP7 hS dL_law_667 (fun H locs hP6 hP7 hS => ?_)
  refine W.eq (g2 := F0 m 670 ls [.int a, .int a]) rfl ?_
  exact lv_icmp_eq (tgt := 1157) hx hb dL_law_670 (by decide) (fun _ => kk _ _ _ _ hP6 hP7 hS hI2) (fun c => absurd rfl c)
theorem law_without {p : Program} {l : Launch} {e : Env} {s : State} {m : MethodId} {below : List Frame} {meth : Method} {c : Code} {b L : Nat} {xs : Nat → Int32} (hL : L ≤ 3072) (C0 : lw_At p s m meth c b L xs) {Ec Er : wq_E} (hF : lw_F2 s Ec Er) {i : Nat} (hi : i + 6 ≤ L) {Mc Mr : wq_M} {H : Heap} {locs : List Loc} (hP6 : va_P Ec.1 wq_cl (wq_ws Ec wq_yC Mc) H) (hP7 : va_P Er.1 wq_cl (wq_ws Er wq_yR Mr) H) (hS : va_S (fun q : Nat => s.heap.size ≤ q) s.heap H locs) (hI : Inv Mc Mr) {ls : Array Slot} (hl : lv_has ls 4 [(0, .ref b), (1, .ref (Ec.2.1 0)), (2, .ref (Er.2.1 0)), (3, .int (nI i))]) {kc ks : Nat} {Z : State → Prop} (kk : ∀ (Mc Mr : wq_M) (H : Heap) (locs : List Loc), va_P Ec.1 wq_cl (wq_ws Ec wq_yC Mc) H → va_P Er.1 wq_cl (wq_ws Er wq_yR Mr) H → va_S (fun q : Nat => s.heap.size ≤ q) s.heap H locs → Inv Mc Mr → W p l e room_1 s m #[Value.ref b] below meth c H locs kc ks Z (F0 m 1157 ls [])) (hkc : kc ≤ 600000) (hks : ks ≤ 7302250) : W p l e room_1 s m #[Value.ref b] below meth c H locs kc ks Z (F0 m 675 ls []) := by
  have hx := C0.1
  have hb := C0.2.1
  obtain ⟨a, C, N, e1, e2, hI2⟩ := E_without hI (xs (i + 1))
  refine lv_aload_n hx hb dL_law_675 rfl (lv_at hl 1 rfl) ?_
  refine lw_arg C0 hi hL 1 (by decide) hl hS dL_law_676 dL_law_677 dL_law_678 (by decide) dL_law_679 dL_law_680 ?_
  refine lw_call6 hkc hks (As := [.int (xs (i + 1))]) (n := 1) (st := []) C0 hF (ctX6_without (E := Ec) (d := 60) (by omega) e1) (by decide) rfl npX6_without tw_576 tw_577 tw_578 tw_579 (Nat.le_of_ble_eq_true rfl) hl.1 hP6 hP7 hS dL_law_681 (fun H locs hP6 hP7 hS => ?_)
  refine W.eq (g2 := F0 m 684 ls [.int a]) rfl ?_
  refine lv_aload_n hx hb dL_law_684 rfl (lv_at hl 2 rfl) ?_
  refine lw_arg C0 hi hL 1 (by decide) hl hS dL_law_685 dL_law_686 dL_law_687 (by decide) dL_law_688 dL_law_689 ?_
  refine lw_call7 hkc hks (As := [.int (xs (i + 1))]) (n := 1) (st := [.int a]) C0 hF (ctX7_without (E := Er) (d := 60) (by omega) e2) (by decide) rfl npX7_without tw_1008 tw_1009 tw_1010 tw_1011 (Nat.le_of_ble_eq_true rfl) hl.1 hP6 hP7 hS dL_law_690 (fun H locs hP6 hP7 hS => ?_)
  refine W.eq (g2 := F0 m 693 ls [.int a, .int a]) rfl ?_
  exact lv_icmp_eq (tgt := 1157) hx hb dL_law_693 (by decide) (fun _ => kk _ _ _ _ hP6 hP7 hS hI2) (fun c => absurd rfl c)
theorem law_most {p : Program} {l : Launch} {e : Env} {s : State} {m : MethodId} {below : List Frame} {meth : Method} {c : Code} {b L : Nat} {xs : Nat → Int32} (hL : L ≤ 3072) (C0 : lw_At p s m meth c b L xs) {Ec Er : wq_E} (hF : lw_F2 s Ec Er) {i : Nat} (hi : i + 6 ≤ L) {Mc Mr : wq_M} {H : Heap} {locs : List Loc} (hP6 : va_P Ec.1 wq_cl (wq_ws Ec wq_yC Mc) H) (hP7 : va_P Er.1 wq_cl (wq_ws Er wq_yR Mr) H) (hS : va_S (fun q : Nat => s.heap.size ≤ q) s.heap H locs) (hI : Inv Mc Mr) {ls : Array Slot} (hl : lv_has ls 4 [(0, .ref b), (1, .ref (Ec.2.1 0)), (2, .ref (Er.2.1 0)), (3, .int (nI i))]) {kc ks : Nat} {Z : State → Prop} (kk : ∀ (Mc Mr : wq_M) (H : Heap) (locs : List Loc), va_P Ec.1 wq_cl (wq_ws Ec wq_yC Mc) H → va_P Er.1 wq_cl (wq_ws Er wq_yR Mr) H → va_S (fun q : Nat => s.heap.size ≤ q) s.heap H locs → Inv Mc Mr → W p l e room_1 s m #[Value.ref b] below meth c H locs kc ks Z (F0 m 1157 ls [])) (hkc : kc ≤ 600000) (hks : ks ≤ 7302250) : W p l e room_1 s m #[Value.ref b] below meth c H locs kc ks Z (F0 m 698 ls []) := by
  have hx := C0.1
  have hb := C0.2.1
  obtain ⟨a, C, N, e1, e2, hI2⟩ := E_most hI (xs (i + 1))
  refine lv_aload_n hx hb dL_law_698 rfl (lv_at hl 1 rfl) ?_
  refine lw_arg C0 hi hL 1 (by decide) hl hS dL_law_699 dL_law_700 dL_law_701 (by decide) dL_law_702 dL_law_703 ?_
  refine lw_call6 hkc hks (As := [.int (xs (i + 1))]) (n := 1) (st := []) C0 hF (ctX6_most (E := Ec) (d := 60) (by omega) e1) (by decide) rfl npX6_most tw_580 tw_581 tw_582 tw_583 (Nat.le_of_ble_eq_true rfl) hl.1 hP6 hP7 hS dL_law_704 (fun H locs hP6 hP7 hS => ?_)
  refine W.eq (g2 := F0 m 707 ls [.int a]) rfl ?_
  refine lv_aload_n hx hb dL_law_707 rfl (lv_at hl 2 rfl) ?_
  refine lw_arg C0 hi hL 1 (by decide) hl hS dL_law_708 dL_law_709 dL_law_710 (by decide) dL_law_711 dL_law_712 ?_
  refine lw_call7 hkc hks (As := [.int (xs (i + 1))]) (n := 1) (st := [.int a]) C0 hF (ctX7_most (E := Er) (d := 60) (by omega) e2) (by decide) rfl npX7_most tw_1012 tw_1013 tw_1014 tw_1015 (Nat.le_of_ble_eq_true rfl) hl.1 hP6 hP7 hS dL_law_713 (fun H locs hP6 hP7 hS => ?_)
  refine W.eq (g2 := F0 m 716 ls [.int a, .int a]) rfl ?_
  exact lv_icmp_eq (tgt := 1157) hx hb dL_law_716 (by decide) (fun _ => kk _ _ _ _ hP6 hP7 hS hI2) (fun c => absurd rfl c)
theorem law_need {p : Program} {l : Launch} {e : Env} {s : State} {m : MethodId} {below : List Frame} {meth : Method} {c : Code} {b L : Nat} {xs : Nat → Int32} (hL : L ≤ 3072) (C0 : lw_At p s m meth c b L xs) {Ec Er : wq_E} (hF : lw_F2 s Ec Er) {i : Nat} (hi : i + 6 ≤ L) {Mc Mr : wq_M} {H : Heap} {locs : List Loc} (hP6 : va_P Ec.1 wq_cl (wq_ws Ec wq_yC Mc) H) (hP7 : va_P Er.1 wq_cl (wq_ws Er wq_yR Mr) H) (hS : va_S (fun q : Nat => s.heap.size ≤ q) s.heap H locs) (hI : Inv Mc Mr) {ls : Array Slot} (hl : lv_has ls 4 [(0, .ref b), (1, .ref (Ec.2.1 0)), (2, .ref (Er.2.1 0)), (3, .int (nI i))]) {kc ks : Nat} {Z : State → Prop} (kk : ∀ (Mc Mr : wq_M) (H : Heap) (locs : List Loc), va_P Ec.1 wq_cl (wq_ws Ec wq_yC Mc) H → va_P Er.1 wq_cl (wq_ws Er wq_yR Mr) H → va_S (fun q : Nat => s.heap.size ≤ q) s.heap H locs → Inv Mc Mr → W p l e room_1 s m #[Value.ref b] below meth c H locs kc ks Z (F0 m 1157 ls [])) (hkc : kc ≤ 600000) (hks : ks ≤ 7302250) : W p l e room_1 s m #[Value.ref b] below meth c H locs kc ks Z (F0 m 721 ls []) := by
  have hx := C0.1
  have hb := C0.2.1
  obtain ⟨a, C, N, e1, e2, hI2⟩ := E_need hI (xs (i + 1))
  refine lv_aload_n hx hb dL_law_721 rfl (lv_at hl 1 rfl) ?_
  refine lw_arg C0 hi hL 1 (by decide) hl hS dL_law_722 dL_law_723 dL_law_724 (by decide) dL_law_725 dL_law_726 ?_
  refine lw_call6 hkc hks (As := [.int (xs (i + 1))]) (n := 1) (st := []) C0 hF (ctX6_need (E := Ec) (d := 60) (by omega) e1) (by decide) rfl npX6_need tw_584 tw_585 tw_586 tw_587 (Nat.le_of_ble_eq_true rfl) hl.1 hP6 hP7 hS dL_law_727 (fun H locs hP6 hP7 hS => ?_)
  refine W.eq (g2 := F0 m 730 ls [.int a]) rfl ?_
  refine lv_aload_n hx hb dL_law_730 rfl (lv_at hl 2 rfl) ?_
  refine lw_arg C0 hi hL 1 (by decide) hl hS dL_law_731 dL_law_732 dL_law_733 (by decide) dL_law_734 dL_law_735 ?_
  refine lw_call7 hkc hks (As := [.int (xs (i + 1))]) (n := 1) (st := [.int a]) C0 hF (ctX7_need (E := Er) (d := 60) (by omega) e2) (by decide) rfl npX7_need tw_1023 tw_1024 tw_1025 tw_1026 (Nat.le_of_ble_eq_true rfl) hl.1 hP6 hP7 hS dL_law_736 (fun H locs hP6 hP7 hS => ?_)
  refine W.eq (g2 := F0 m 739 ls [.int a, .int a]) rfl ?_
  exact lv_icmp_eq (tgt := 1157) hx hb dL_law_739 (by decide) (fun _ => kk _ _ _ _ hP6 hP7 hS hI2) (fun c => absurd rfl c)
theorem law_sets {p : Program} {l : Launch} {e : Env} {s : State} {m : MethodId} {below : List Frame} {meth : Method} {c : Code} {b L : Nat} {xs : Nat → Int32} (hL : L ≤ 3072) (C0 : lw_At p s m meth c b L xs) {Ec Er : wq_E} (hF : lw_F2 s Ec Er) {i : Nat} (hi : i + 6 ≤ L) {Mc Mr : wq_M} {H : Heap} {locs : List Loc} (hP6 : va_P Ec.1 wq_cl (wq_ws Ec wq_yC Mc) H) (hP7 : va_P Er.1 wq_cl (wq_ws Er wq_yR Mr) H) (hS : va_S (fun q : Nat => s.heap.size ≤ q) s.heap H locs) (hI : Inv Mc Mr) {ls : Array Slot} (hl : lv_has ls 4 [(0, .ref b), (1, .ref (Ec.2.1 0)), (2, .ref (Er.2.1 0)), (3, .int (nI i))]) {kc ks : Nat} {Z : State → Prop} (kk : ∀ (Mc Mr : wq_M) (H : Heap) (locs : List Loc), va_P Ec.1 wq_cl (wq_ws Ec wq_yC Mc) H → va_P Er.1 wq_cl (wq_ws Er wq_yR Mr) H → va_S (fun q : Nat => s.heap.size ≤ q) s.heap H locs → Inv Mc Mr → W p l e room_1 s m #[Value.ref b] below meth c H locs kc ks Z (F0 m 1157 ls [])) (hkc : kc ≤ 600000) (hks : ks ≤ 7302250) : W p l e room_1 s m #[Value.ref b] below meth c H locs kc ks Z (F0 m 744 ls []) := by
  have hx := C0.1
  have hb := C0.2.1
  obtain ⟨a, N, e1, e2, hI2⟩ := E_sets hI (xs (i + 1)) (xs (i + 2))
  refine lv_aload_n hx hb dL_law_744 rfl (lv_at hl 1 rfl) ?_
  refine lw_arg C0 hi hL 1 (by decide) hl hS dL_law_745 dL_law_746 dL_law_747 (by decide) dL_law_748 dL_law_749 ?_
  refine lw_arg C0 hi hL 2 (by decide) hl hS dL_law_750 dL_law_751 dL_law_752 (by decide) dL_law_753 dL_law_754 ?_
  refine lw_call6 hkc hks (As := [.int (xs (i + 1)), .int (xs (i + 2))]) (n := 2) (st := []) C0 hF (ctX6_sets (E := Ec) (d := 60) (by omega) e1) (by decide) rfl npX6_sets tw_588 tw_589 tw_590 tw_591 (Nat.le_of_ble_eq_true rfl) hl.1 hP6 hP7 hS dL_law_755 (fun H locs hP6 hP7 hS => ?_)
  refine W.eq (g2 := F0 m 758 ls [.int a]) rfl ?_
  refine lv_aload_n hx hb dL_law_758 rfl (lv_at hl 2 rfl) ?_
  refine lw_arg C0 hi hL 1 (by decide) hl hS dL_law_759 dL_law_760 dL_law_761 (by decide) dL_law_762 dL_law_763 ?_
  refine lw_arg C0 hi hL 2 (by decide) hl hS dL_law_764 dL_law_765 dL_law_766 (by decide) dL_law_767 dL_law_768 ?_
  refine lw_call7 hkc hks (As := [.int (xs (i + 1)), .int (xs (i + 2))]) (n := 2) (st := [.int a]) C0 hF (ctX7_sets (E := Er) (d := 60) (by omega) e2) (by decide) rfl npX7_sets tw_1027 tw_1028 tw_1029 tw_1030 (Nat.le_of_ble_eq_true rfl) hl.1 hP6 hP7 hS dL_law_769 (fun H locs hP6 hP7 hS => ?_)
  refine W.eq (g2 := F0 m 772 ls [.int a, .int a]) rfl ?_
  exact lv_icmp_eq (tgt := 1157) hx hb dL_law_772 (by decide) (fun _ => kk _ _ _ _ hP6 hP7 hS hI2) (fun c => absurd rfl c)
theorem law_share {p : Program} {l : Launch} {e : Env} {s : State} {m : MethodId} {below : List Frame} {meth : Method} {c : Code} {b L : Nat} {xs : Nat → Int32} (hL : L ≤ 3072) (C0 : lw_At p s m meth c b L xs) {Ec Er : wq_E} (hF : lw_F2 s Ec Er) {i : Nat} (hi : i + 6 ≤ L) {Mc Mr : wq_M} {H : Heap} {locs : List Loc} (hP6 : va_P Ec.1 wq_cl (wq_ws Ec wq_yC Mc) H) (hP7 : va_P Er.1 wq_cl (wq_ws Er wq_yR Mr) H) (hS : va_S (fun q : Nat => s.heap.size ≤ q) s.heap H locs) (hI : Inv Mc Mr) {ls : Array Slot} (hl : lv_has ls 4 [(0, .ref b), (1, .ref (Ec.2.1 0)), (2, .ref (Er.2.1 0)), (3, .int (nI i))]) {kc ks : Nat} {Z : State → Prop} (kk : ∀ (Mc Mr : wq_M) (H : Heap) (locs : List Loc), va_P Ec.1 wq_cl (wq_ws Ec wq_yC Mc) H → va_P Er.1 wq_cl (wq_ws Er wq_yR Mr) H → va_S (fun q : Nat => s.heap.size ≤ q) s.heap H locs → Inv Mc Mr → W p l e room_1 s m #[Value.ref b] below meth c H locs kc ks Z (F0 m 1157 ls [])) (hkc : kc ≤ 600000) (hks : ks ≤ 7302250) : W p l e room_1 s m #[Value.ref b] below meth c H locs kc ks Z (F0 m 777 ls []) := by
  have hx := C0.1
  have hb := C0.2.1
  obtain ⟨a, N, e1, e2, hI2⟩ := E_share hI (xs (i + 1)) (xs (i + 2))
  refine lv_aload_n hx hb dL_law_777 rfl (lv_at hl 1 rfl) ?_
  refine lw_arg C0 hi hL 1 (by decide) hl hS dL_law_778 dL_law_779 dL_law_780 (by decide) dL_law_781 dL_law_782 ?_
  refine lw_arg C0 hi hL 2 (by decide) hl hS dL_law_783 dL_law_784 dL_law_785 (by decide) dL_law_786 dL_law_787 ?_
  refine lw_call6 hkc hks (As := [.int (xs (i + 1)), .int (xs (i + 2))]) (n := 2) (st := []) C0 hF (ctX6_share (E := Ec) (d := 60) (by omega) e1) (by decide) rfl npX6_share tw_596 tw_597 tw_598 tw_599 (Nat.le_of_ble_eq_true rfl) hl.1 hP6 hP7 hS dL_law_788 (fun H locs hP6 hP7 hS => ?_)
  refine W.eq (g2 := F0 m 791 ls [.int a]) rfl ?_
  refine lv_aload_n hx hb dL_law_791 rfl (lv_at hl 2 rfl) ?_
  refine lw_arg C0 hi hL 1 (by decide) hl hS dL_law_792 dL_law_793 dL_law_794 (by decide) dL_law_795 dL_law_796 ?_
  refine lw_arg C0 hi hL 2 (by decide) hl hS dL_law_797 dL_law_798 dL_law_799 (by decide) dL_law_800 dL_law_801 ?_
  refine lw_call7 hkc hks (As := [.int (xs (i + 1)), .int (xs (i + 2))]) (n := 2) (st := [.int a]) C0 hF (ctX7_share (E := Er) (d := 60) (by omega) e2) (by decide) rfl npX7_share tw_1035 tw_1036 tw_1037 tw_1038 (Nat.le_of_ble_eq_true rfl) hl.1 hP6 hP7 hS dL_law_802 (fun H locs hP6 hP7 hS => ?_)
  refine W.eq (g2 := F0 m 805 ls [.int a, .int a]) rfl ?_
  exact lv_icmp_eq (tgt := 1157) hx hb dL_law_805 (by decide) (fun _ => kk _ _ _ _ hP6 hP7 hS hI2) (fun c => absurd rfl c)
theorem law_byTurns {p : Program} {l : Launch} {e : Env} {s : State} {m : MethodId} {below : List Frame} {meth : Method} {c : Code} {b L : Nat} {xs : Nat → Int32} (hL : L ≤ 3072) (C0 : lw_At p s m meth c b L xs) {Ec Er : wq_E} (hF : lw_F2 s Ec Er) {i : Nat} (hi : i + 6 ≤ L) {Mc Mr : wq_M} {H : Heap} {locs : List Loc} (hP6 : va_P Ec.1 wq_cl (wq_ws Ec wq_yC Mc) H) (hP7 : va_P Er.1 wq_cl (wq_ws Er wq_yR Mr) H) (hS : va_S (fun q : Nat => s.heap.size ≤ q) s.heap H locs) (hI : Inv Mc Mr) {ls : Array Slot} (hl : lv_has ls 4 [(0, .ref b), (1, .ref (Ec.2.1 0)), (2, .ref (Er.2.1 0)), (3, .int (nI i))]) {kc ks : Nat} {Z : State → Prop} (kk : ∀ (Mc Mr : wq_M) (H : Heap) (locs : List Loc), va_P Ec.1 wq_cl (wq_ws Ec wq_yC Mc) H → va_P Er.1 wq_cl (wq_ws Er wq_yR Mr) H → va_S (fun q : Nat => s.heap.size ≤ q) s.heap H locs → Inv Mc Mr → W p l e room_1 s m #[Value.ref b] below meth c H locs kc ks Z (F0 m 1157 ls [])) (hkc : kc ≤ 600000) (hks : ks ≤ 7302250) : W p l e room_1 s m #[Value.ref b] below meth c H locs kc ks Z (F0 m 810 ls []) := by
  have hx := C0.1
  have hb := C0.2.1
  obtain ⟨a, N, e1, e2, hI2⟩ := E_byTurns hI (xs (i + 1))
  refine lv_aload_n hx hb dL_law_810 rfl (lv_at hl 1 rfl) ?_
  refine lw_arg C0 hi hL 1 (by decide) hl hS dL_law_811 dL_law_812 dL_law_813 (by decide) dL_law_814 dL_law_815 ?_
  refine lw_call6 hkc hks (As := [.int (xs (i + 1))]) (n := 1) (st := []) C0 hF (ctX6_byTurns (E := Ec) (d := 60) (by omega) e1) (by decide) rfl npX6_byTurns tw_601 tw_602 tw_603 tw_604 (Nat.le_of_ble_eq_true rfl) hl.1 hP6 hP7 hS dL_law_816 (fun H locs hP6 hP7 hS => ?_)
  refine W.eq (g2 := F0 m 819 ls [.int a]) rfl ?_
  refine lv_aload_n hx hb dL_law_819 rfl (lv_at hl 2 rfl) ?_
  refine lw_arg C0 hi hL 1 (by decide) hl hS dL_law_820 dL_law_821 dL_law_822 (by decide) dL_law_823 dL_law_824 ?_
  refine lw_call7 hkc hks (As := [.int (xs (i + 1))]) (n := 1) (st := [.int a]) C0 hF (ctX7_byTurns (E := Er) (d := 60) (by omega) e2) (by decide) rfl npX7_byTurns tw_1044 tw_1045 tw_1046 tw_1047 (Nat.le_of_ble_eq_true rfl) hl.1 hP6 hP7 hS dL_law_825 (fun H locs hP6 hP7 hS => ?_)
  refine W.eq (g2 := F0 m 828 ls [.int a, .int a]) rfl ?_
  exact lv_icmp_eq (tgt := 1157) hx hb dL_law_828 (by decide) (fun _ => kk _ _ _ _ hP6 hP7 hS hI2) (fun c => absurd rfl c)
theorem law_who {p : Program} {l : Launch} {e : Env} {s : State} {m : MethodId} {below : List Frame} {meth : Method} {c : Code} {b L : Nat} {xs : Nat → Int32} (hL : L ≤ 3072) (C0 : lw_At p s m meth c b L xs) {Ec Er : wq_E} (hF : lw_F2 s Ec Er) {i : Nat} (hi : i + 6 ≤ L) {Mc Mr : wq_M} {H : Heap} {locs : List Loc} (hP6 : va_P Ec.1 wq_cl (wq_ws Ec wq_yC Mc) H) (hP7 : va_P Er.1 wq_cl (wq_ws Er wq_yR Mr) H) (hS : va_S (fun q : Nat => s.heap.size ≤ q) s.heap H locs) (hI : Inv Mc Mr) {ls : Array Slot} (hl : lv_has ls 4 [(0, .ref b), (1, .ref (Ec.2.1 0)), (2, .ref (Er.2.1 0)), (3, .int (nI i))]) {kc ks : Nat} {Z : State → Prop} (kk : ∀ (Mc Mr : wq_M) (H : Heap) (locs : List Loc), va_P Ec.1 wq_cl (wq_ws Ec wq_yC Mc) H → va_P Er.1 wq_cl (wq_ws Er wq_yR Mr) H → va_S (fun q : Nat => s.heap.size ≤ q) s.heap H locs → Inv Mc Mr → W p l e room_1 s m #[Value.ref b] below meth c H locs kc ks Z (F0 m 1157 ls [])) (hkc : kc ≤ 600000) (hks : ks ≤ 7302250) : W p l e room_1 s m #[Value.ref b] below meth c H locs kc ks Z (F0 m 833 ls []) := by
  have hx := C0.1
  have hb := C0.2.1
  obtain ⟨a, C, N, e1, e2, hI2⟩ := E_who hI (xs (i + 1)) (xs (i + 2)) (xs (i + 3)) (xs (i + 4))
  refine lv_aload_n hx hb dL_law_833 rfl (lv_at hl 1 rfl) ?_
  refine lw_arg C0 hi hL 1 (by decide) hl hS dL_law_834 dL_law_835 dL_law_836 (by decide) dL_law_837 dL_law_838 ?_
  refine lw_arg C0 hi hL 2 (by decide) hl hS dL_law_839 dL_law_840 dL_law_841 (by decide) dL_law_842 dL_law_843 ?_
  refine lw_arg C0 hi hL 3 (by decide) hl hS dL_law_844 dL_law_845 dL_law_846 (by decide) dL_law_847 dL_law_848 ?_
  refine lw_arg C0 hi hL 4 (by decide) hl hS dL_law_849 dL_law_850 dL_law_851 (by decide) dL_law_852 dL_law_853 ?_
  refine lw_call6 hkc hks (As := [.int (xs (i + 1)), .int (xs (i + 2)), .int (xs (i + 3)), .int (xs (i + 4))]) (n := 4) (st := []) C0 hF (ctX6_who (E := Ec) (d := 60) (by omega) e1) (by decide) rfl npX6_who tw_609 tw_610 tw_611 tw_612 (Nat.le_of_ble_eq_true rfl) hl.1 hP6 hP7 hS dL_law_854 (fun H locs hP6 hP7 hS => ?_)
  refine W.eq (g2 := F0 m 857 ls [.int a]) rfl ?_
  refine lv_aload_n hx hb dL_law_857 rfl (lv_at hl 2 rfl) ?_
  refine lw_arg C0 hi hL 1 (by decide) hl hS dL_law_858 dL_law_859 dL_law_860 (by decide) dL_law_861 dL_law_862 ?_
  refine lw_arg C0 hi hL 2 (by decide) hl hS dL_law_863 dL_law_864 dL_law_865 (by decide) dL_law_866 dL_law_867 ?_
  refine lw_arg C0 hi hL 3 (by decide) hl hS dL_law_868 dL_law_869 dL_law_870 (by decide) dL_law_871 dL_law_872 ?_
  refine lw_arg C0 hi hL 4 (by decide) hl hS dL_law_873 dL_law_874 dL_law_875 (by decide) dL_law_876 dL_law_877 ?_
  refine lw_call7 hkc hks (As := [.int (xs (i + 1)), .int (xs (i + 2)), .int (xs (i + 3)), .int (xs (i + 4))]) (n := 4) (st := [.int a]) C0 hF (ctX7_who (E := Er) (d := 60) (by omega) e2) (by decide) rfl npX7_who tw_1052 tw_1053 tw_1054 tw_1055 (Nat.le_of_ble_eq_true rfl) hl.1 hP6 hP7 hS dL_law_878 (fun H locs hP6 hP7 hS => ?_)
  refine W.eq (g2 := F0 m 881 ls [.int a, .int a]) rfl ?_
  exact lv_icmp_eq (tgt := 1157) hx hb dL_law_881 (by decide) (fun _ => kk _ _ _ _ hP6 hP7 hS hI2) (fun c => absurd rfl c)
theorem law_flaws {p : Program} {l : Launch} {e : Env} {s : State} {m : MethodId} {below : List Frame} {meth : Method} {c : Code} {b L : Nat} {xs : Nat → Int32} (hL : L ≤ 3072) (C0 : lw_At p s m meth c b L xs) {Ec Er : wq_E} (hF : lw_F2 s Ec Er) {i : Nat} (hi : i + 6 ≤ L) {Mc Mr : wq_M} {H : Heap} {locs : List Loc} (hP6 : va_P Ec.1 wq_cl (wq_ws Ec wq_yC Mc) H) (hP7 : va_P Er.1 wq_cl (wq_ws Er wq_yR Mr) H) (hS : va_S (fun q : Nat => s.heap.size ≤ q) s.heap H locs) (hI : Inv Mc Mr) {ls : Array Slot} (hl : lv_has ls 4 [(0, .ref b), (1, .ref (Ec.2.1 0)), (2, .ref (Er.2.1 0)), (3, .int (nI i))]) {kc ks : Nat} {Z : State → Prop} (kk : ∀ (Mc Mr : wq_M) (H : Heap) (locs : List Loc), va_P Ec.1 wq_cl (wq_ws Ec wq_yC Mc) H → va_P Er.1 wq_cl (wq_ws Er wq_yR Mr) H → va_S (fun q : Nat => s.heap.size ≤ q) s.heap H locs → Inv Mc Mr → W p l e room_1 s m #[Value.ref b] below meth c H locs kc ks Z (F0 m 1157 ls [])) (hkc : kc ≤ 600000) (hks : ks ≤ 7302250) : W p l e room_1 s m #[Value.ref b] below meth c H locs kc ks Z (F0 m 886 ls []) := by
  have hx := C0.1
  have hb := C0.2.1
  obtain ⟨a, N, e1, e2, hI2⟩ := E_flaws hI (xs (i + 1)) (xs (i + 2))
  refine lv_aload_n hx hb dL_law_886 rfl (lv_at hl 1 rfl) ?_
  refine lw_arg C0 hi hL 1 (by decide) hl hS dL_law_887 dL_law_888 dL_law_889 (by decide) dL_law_890 dL_law_891 ?_
  refine lw_arg C0 hi hL 2 (by decide) hl hS dL_law_892 dL_law_893 dL_law_894 (by decide) dL_law_895 dL_law_896 ?_
  refine lw_call6 hkc hks (As := [.int (xs (i + 1)), .int (xs (i + 2))]) (n := 2) (st := []) C0 hF (ctX6_flaws (E := Ec) (d := 60) (by omega) e1) (by decide) rfl npX6_flaws tw_617 tw_618 tw_619 tw_620 (Nat.le_of_ble_eq_true rfl) hl.1 hP6 hP7 hS dL_law_897 (fun H locs hP6 hP7 hS => ?_)
  refine W.eq (g2 := F0 m 900 ls [.long a]) rfl ?_
  refine lv_aload_n hx hb dL_law_900 rfl (lv_at hl 2 rfl) ?_
  refine lw_arg C0 hi hL 1 (by decide) hl hS dL_law_901 dL_law_902 dL_law_903 (by decide) dL_law_904 dL_law_905 ?_
  refine lw_arg C0 hi hL 2 (by decide) hl hS dL_law_906 dL_law_907 dL_law_908 (by decide) dL_law_909 dL_law_910 ?_
  refine lw_call7 hkc hks (As := [.int (xs (i + 1)), .int (xs (i + 2))]) (n := 2) (st := [.long a]) C0 hF (ctX7_flaws (E := Er) (d := 60) (by omega) e2) (by decide) rfl npX7_flaws tw_1060 tw_1061 tw_1062 tw_1063 (Nat.le_of_ble_eq_true rfl) hl.1 hP6 hP7 hS dL_law_911 (fun H locs hP6 hP7 hS => ?_)
  refine W.eq (g2 := F0 m 914 ls [.long a, .long a]) rfl ?_
  refine W.lcmp hx hb dL_law_914 ?_
  exact lv_if_eq (tgt := 1157) hx hb dL_law_915 (by decide) (fun _ => kk _ _ _ _ hP6 hP7 hS hI2) (fun c => absurd ((cmp_eq0 a a).mpr rfl) c)
theorem law_drawn {p : Program} {l : Launch} {e : Env} {s : State} {m : MethodId} {below : List Frame} {meth : Method} {c : Code} {b L : Nat} {xs : Nat → Int32} (hL : L ≤ 3072) (C0 : lw_At p s m meth c b L xs) {Ec Er : wq_E} (hF : lw_F2 s Ec Er) {i : Nat} (hi : i + 6 ≤ L) {Mc Mr : wq_M} {H : Heap} {locs : List Loc} (hP6 : va_P Ec.1 wq_cl (wq_ws Ec wq_yC Mc) H) (hP7 : va_P Er.1 wq_cl (wq_ws Er wq_yR Mr) H) (hS : va_S (fun q : Nat => s.heap.size ≤ q) s.heap H locs) (hI : Inv Mc Mr) {ls : Array Slot} (hl : lv_has ls 4 [(0, .ref b), (1, .ref (Ec.2.1 0)), (2, .ref (Er.2.1 0)), (3, .int (nI i))]) {kc ks : Nat} {Z : State → Prop} (kk : ∀ (Mc Mr : wq_M) (H : Heap) (locs : List Loc), va_P Ec.1 wq_cl (wq_ws Ec wq_yC Mc) H → va_P Er.1 wq_cl (wq_ws Er wq_yR Mr) H → va_S (fun q : Nat => s.heap.size ≤ q) s.heap H locs → Inv Mc Mr → W p l e room_1 s m #[Value.ref b] below meth c H locs kc ks Z (F0 m 1157 ls [])) (hkc : kc ≤ 600000) (hks : ks ≤ 7302250) : W p l e room_1 s m #[Value.ref b] below meth c H locs kc ks Z (F0 m 920 ls []) := by
  have hx := C0.1
  have hb := C0.2.1
  obtain ⟨a, C, N, e1, e2, hI2⟩ := E_drawn hI (xs (i + 1)) (xs (i + 2)) (xs (i + 3))
  refine lv_aload_n hx hb dL_law_920 rfl (lv_at hl 1 rfl) ?_
  refine lw_arg C0 hi hL 1 (by decide) hl hS dL_law_921 dL_law_922 dL_law_923 (by decide) dL_law_924 dL_law_925 ?_
  refine lw_arg C0 hi hL 2 (by decide) hl hS dL_law_926 dL_law_927 dL_law_928 (by decide) dL_law_929 dL_law_930 ?_
  refine lw_arg C0 hi hL 3 (by decide) hl hS dL_law_931 dL_law_932 dL_law_933 (by decide) dL_law_934 dL_law_935 ?_
  refine lw_call6 hkc hks (As := [.int (xs (i + 1)), .int (xs (i + 2)), .int (xs (i + 3))]) (n := 3) (st := []) C0 hF (ctX6_drawn (E := Ec) (d := 60) (by omega) e1) (by decide) rfl npX6_drawn tw_634 tw_635 tw_636 tw_637 (Nat.le_of_ble_eq_true rfl) hl.1 hP6 hP7 hS dL_law_936 (fun H locs hP6 hP7 hS => ?_)
  refine W.eq (g2 := F0 m 939 ls [.int a]) rfl ?_
  refine lv_aload_n hx hb dL_law_939 rfl (lv_at hl 2 rfl) ?_
  refine lw_arg C0 hi hL 1 (by decide) hl hS dL_law_940 dL_law_941 dL_law_942 (by decide) dL_law_943 dL_law_944 ?_
  refine lw_arg C0 hi hL 2 (by decide) hl hS dL_law_945 dL_law_946 dL_law_947 (by decide) dL_law_948 dL_law_949 ?_
  refine lw_arg C0 hi hL 3 (by decide) hl hS dL_law_950 dL_law_951 dL_law_952 (by decide) dL_law_953 dL_law_954 ?_
  refine lw_call7 hkc hks (As := [.int (xs (i + 1)), .int (xs (i + 2)), .int (xs (i + 3))]) (n := 3) (st := [.int a]) C0 hF (ctX7_drawn (E := Er) (d := 60) (by omega) e2) (by decide) rfl npX7_drawn tw_1067 tw_1068 tw_1069 tw_1070 (Nat.le_of_ble_eq_true rfl) hl.1 hP6 hP7 hS dL_law_955 (fun H locs hP6 hP7 hS => ?_)
  refine W.eq (g2 := F0 m 958 ls [.int a, .int a]) rfl ?_
  exact lv_icmp_eq (tgt := 1157) hx hb dL_law_958 (by decide) (fun _ => kk _ _ _ _ hP6 hP7 hS hI2) (fun c => absurd rfl c)
theorem law_image {p : Program} {l : Launch} {e : Env} {s : State} {m : MethodId} {below : List Frame} {meth : Method} {c : Code} {b L : Nat} {xs : Nat → Int32} (hL : L ≤ 3072) (C0 : lw_At p s m meth c b L xs) {Ec Er : wq_E} (hF : lw_F2 s Ec Er) {i : Nat} (hi : i + 6 ≤ L) {Mc Mr : wq_M} {H : Heap} {locs : List Loc} (hP6 : va_P Ec.1 wq_cl (wq_ws Ec wq_yC Mc) H) (hP7 : va_P Er.1 wq_cl (wq_ws Er wq_yR Mr) H) (hS : va_S (fun q : Nat => s.heap.size ≤ q) s.heap H locs) (hI : Inv Mc Mr) {ls : Array Slot} (hl : lv_has ls 4 [(0, .ref b), (1, .ref (Ec.2.1 0)), (2, .ref (Er.2.1 0)), (3, .int (nI i))]) {kc ks : Nat} {Z : State → Prop} (kk : ∀ (Mc Mr : wq_M) (H : Heap) (locs : List Loc), va_P Ec.1 wq_cl (wq_ws Ec wq_yC Mc) H → va_P Er.1 wq_cl (wq_ws Er wq_yR Mr) H → va_S (fun q : Nat => s.heap.size ≤ q) s.heap H locs → Inv Mc Mr → W p l e room_1 s m #[Value.ref b] below meth c H locs kc ks Z (F0 m 1157 ls [])) (hkc : kc ≤ 600000) (hks : ks ≤ 7302250) : W p l e room_1 s m #[Value.ref b] below meth c H locs kc ks Z (F0 m 963 ls []) := by
  have hx := C0.1
  have hb := C0.2.1
  obtain ⟨a, C, N, e1, e2, hI2⟩ := E_image hI (xs (i + 1))
  refine lv_aload_n hx hb dL_law_963 rfl (lv_at hl 1 rfl) ?_
  refine lw_arg C0 hi hL 1 (by decide) hl hS dL_law_964 dL_law_965 dL_law_966 (by decide) dL_law_967 dL_law_968 ?_
  refine lw_call6 hkc hks (As := [.int (xs (i + 1))]) (n := 1) (st := []) C0 hF (ctX6_image (E := Ec) (d := 60) (by omega) e1) (by decide) rfl npX6_image tw_649 tw_650 tw_651 tw_652 (Nat.le_of_ble_eq_true rfl) hl.1 hP6 hP7 hS dL_law_969 (fun H locs hP6 hP7 hS => ?_)
  refine W.eq (g2 := F0 m 972 ls [.int a]) rfl ?_
  refine lv_aload_n hx hb dL_law_972 rfl (lv_at hl 2 rfl) ?_
  refine lw_arg C0 hi hL 1 (by decide) hl hS dL_law_973 dL_law_974 dL_law_975 (by decide) dL_law_976 dL_law_977 ?_
  refine lw_call7 hkc hks (As := [.int (xs (i + 1))]) (n := 1) (st := [.int a]) C0 hF (ctX7_image (E := Er) (d := 60) (by omega) e2) (by decide) rfl npX7_image tw_1079 tw_1080 tw_1081 tw_1082 (Nat.le_of_ble_eq_true rfl) hl.1 hP6 hP7 hS dL_law_978 (fun H locs hP6 hP7 hS => ?_)
  refine W.eq (g2 := F0 m 981 ls [.int a, .int a]) rfl ?_
  exact lv_icmp_eq (tgt := 1157) hx hb dL_law_981 (by decide) (fun _ => kk _ _ _ _ hP6 hP7 hS hI2) (fun c => absurd rfl c)
theorem law_restore {p : Program} {l : Launch} {e : Env} {s : State} {m : MethodId} {below : List Frame} {meth : Method} {c : Code} {b L : Nat} {xs : Nat → Int32} (hL : L ≤ 3072) (C0 : lw_At p s m meth c b L xs) {Ec Er : wq_E} (hF : lw_F2 s Ec Er) {i : Nat} (hi : i + 6 ≤ L) {Mc Mr : wq_M} {H : Heap} {locs : List Loc} (hP6 : va_P Ec.1 wq_cl (wq_ws Ec wq_yC Mc) H) (hP7 : va_P Er.1 wq_cl (wq_ws Er wq_yR Mr) H) (hS : va_S (fun q : Nat => s.heap.size ≤ q) s.heap H locs) (hI : Inv Mc Mr) {ls : Array Slot} (hl : lv_has ls 4 [(0, .ref b), (1, .ref (Ec.2.1 0)), (2, .ref (Er.2.1 0)), (3, .int (nI i))]) {kc ks : Nat} {Z : State → Prop} (kk : ∀ (Mc Mr : wq_M) (H : Heap) (locs : List Loc), va_P Ec.1 wq_cl (wq_ws Ec wq_yC Mc) H → va_P Er.1 wq_cl (wq_ws Er wq_yR Mr) H → va_S (fun q : Nat => s.heap.size ≤ q) s.heap H locs → Inv Mc Mr → W p l e room_1 s m #[Value.ref b] below meth c H locs kc ks Z (F0 m 1157 ls [])) (hkc : kc ≤ 600000) (hks : ks ≤ 7302250) : W p l e room_1 s m #[Value.ref b] below meth c H locs kc ks Z (F0 m 986 ls []) := by
  have hx := C0.1
  have hb := C0.2.1
  obtain ⟨a, C, N, e1, e2, hI2⟩ := E_restore hI (xs (i + 1))
  refine lv_aload_n hx hb dL_law_986 rfl (lv_at hl 1 rfl) ?_
  refine lw_arg C0 hi hL 1 (by decide) hl hS dL_law_987 dL_law_988 dL_law_989 (by decide) dL_law_990 dL_law_991 ?_
  refine lw_call6 hkc hks (As := [.int (xs (i + 1))]) (n := 1) (st := []) C0 hF (ctX6_restore (E := Ec) (d := 60) (by omega) e1) (by decide) rfl npX6_restore tw_653 tw_654 tw_655 tw_656 (Nat.le_of_ble_eq_true rfl) hl.1 hP6 hP7 hS dL_law_992 (fun H locs hP6 hP7 hS => ?_)
  refine W.eq (g2 := F0 m 995 ls [.int a]) rfl ?_
  refine lv_aload_n hx hb dL_law_995 rfl (lv_at hl 2 rfl) ?_
  refine lw_arg C0 hi hL 1 (by decide) hl hS dL_law_996 dL_law_997 dL_law_998 (by decide) dL_law_999 dL_law_1000 ?_
  refine lw_call7 hkc hks (As := [.int (xs (i + 1))]) (n := 1) (st := [.int a]) C0 hF (ctX7_restore (E := Er) (d := 60) (by omega) e2) (by decide) rfl npX7_restore tw_1083 tw_1084 tw_1085 tw_1086 (Nat.le_of_ble_eq_true rfl) hl.1 hP6 hP7 hS dL_law_1001 (fun H locs hP6 hP7 hS => ?_)
  refine W.eq (g2 := F0 m 1004 ls [.int a, .int a]) rfl ?_
  exact lv_icmp_eq (tgt := 1157) hx hb dL_law_1004 (by decide) (fun _ => kk _ _ _ _ hP6 hP7 hS hI2) (fun c => absurd rfl c)
theorem law_kind {p : Program} {l : Launch} {e : Env} {s : State} {m : MethodId} {below : List Frame} {meth : Method} {c : Code} {b L : Nat} {xs : Nat → Int32} (hL : L ≤ 3072) (C0 : lw_At p s m meth c b L xs) {Ec Er : wq_E} (hF : lw_F2 s Ec Er) {i : Nat} (hi : i + 6 ≤ L) {Mc Mr : wq_M} {H : Heap} {locs : List Loc} (hP6 : va_P Ec.1 wq_cl (wq_ws Ec wq_yC Mc) H) (hP7 : va_P Er.1 wq_cl (wq_ws Er wq_yR Mr) H) (hS : va_S (fun q : Nat => s.heap.size ≤ q) s.heap H locs) (hI : Inv Mc Mr) {ls : Array Slot} (hl : lv_has ls 4 [(0, .ref b), (1, .ref (Ec.2.1 0)), (2, .ref (Er.2.1 0)), (3, .int (nI i))]) {kc ks : Nat} {Z : State → Prop} (kk : ∀ (Mc Mr : wq_M) (H : Heap) (locs : List Loc), va_P Ec.1 wq_cl (wq_ws Ec wq_yC Mc) H → va_P Er.1 wq_cl (wq_ws Er wq_yR Mr) H → va_S (fun q : Nat => s.heap.size ≤ q) s.heap H locs → Inv Mc Mr → W p l e room_1 s m #[Value.ref b] below meth c H locs kc ks Z (F0 m 1157 ls [])) (hkc : kc ≤ 600000) (hks : ks ≤ 7302250) : W p l e room_1 s m #[Value.ref b] below meth c H locs kc ks Z (F0 m 1009 ls []) := by
  have hx := C0.1
  have hb := C0.2.1
  obtain ⟨a, N, e1, e2, hI2⟩ := E_kind hI (xs (i + 1))
  refine lv_aload_n hx hb dL_law_1009 rfl (lv_at hl 1 rfl) ?_
  refine lw_arg C0 hi hL 1 (by decide) hl hS dL_law_1010 dL_law_1011 dL_law_1012 (by decide) dL_law_1013 dL_law_1014 ?_
  refine lw_call6 hkc hks (As := [.int (xs (i + 1))]) (n := 1) (st := []) C0 hF (ctX6_kind (E := Ec) (d := 60) (by omega) e1) (by decide) rfl npX6_kind tw_657 tw_658 tw_659 tw_660 (Nat.le_of_ble_eq_true rfl) hl.1 hP6 hP7 hS dL_law_1015 (fun H locs hP6 hP7 hS => ?_)
  refine W.eq (g2 := F0 m 1018 ls [.int a]) rfl ?_
  refine lv_aload_n hx hb dL_law_1018 rfl (lv_at hl 2 rfl) ?_
  refine lw_arg C0 hi hL 1 (by decide) hl hS dL_law_1019 dL_law_1020 dL_law_1021 (by decide) dL_law_1022 dL_law_1023 ?_
  refine lw_call7 hkc hks (As := [.int (xs (i + 1))]) (n := 1) (st := [.int a]) C0 hF (ctX7_kind (E := Er) (d := 60) (by omega) e2) (by decide) rfl npX7_kind tw_1087 tw_1088 tw_1089 tw_1090 (Nat.le_of_ble_eq_true rfl) hl.1 hP6 hP7 hS dL_law_1024 (fun H locs hP6 hP7 hS => ?_)
  refine W.eq (g2 := F0 m 1027 ls [.int a, .int a]) rfl ?_
  exact lv_icmp_eq (tgt := 1157) hx hb dL_law_1027 (by decide) (fun _ => kk _ _ _ _ hP6 hP7 hS hI2) (fun c => absurd rfl c)
theorem law_as {p : Program} {l : Launch} {e : Env} {s : State} {m : MethodId} {below : List Frame} {meth : Method} {c : Code} {b L : Nat} {xs : Nat → Int32} (hL : L ≤ 3072) (C0 : lw_At p s m meth c b L xs) {Ec Er : wq_E} (hF : lw_F2 s Ec Er) {i : Nat} (hi : i + 6 ≤ L) {Mc Mr : wq_M} {H : Heap} {locs : List Loc} (hP6 : va_P Ec.1 wq_cl (wq_ws Ec wq_yC Mc) H) (hP7 : va_P Er.1 wq_cl (wq_ws Er wq_yR Mr) H) (hS : va_S (fun q : Nat => s.heap.size ≤ q) s.heap H locs) (hI : Inv Mc Mr) {ls : Array Slot} (hl : lv_has ls 4 [(0, .ref b), (1, .ref (Ec.2.1 0)), (2, .ref (Er.2.1 0)), (3, .int (nI i))]) {kc ks : Nat} {Z : State → Prop} (kk : ∀ (Mc Mr : wq_M) (H : Heap) (locs : List Loc), va_P Ec.1 wq_cl (wq_ws Ec wq_yC Mc) H → va_P Er.1 wq_cl (wq_ws Er wq_yR Mr) H → va_S (fun q : Nat => s.heap.size ≤ q) s.heap H locs → Inv Mc Mr → W p l e room_1 s m #[Value.ref b] below meth c H locs kc ks Z (F0 m 1157 ls [])) (hkc : kc ≤ 600000) (hks : ks ≤ 7302250) : W p l e room_1 s m #[Value.ref b] below meth c H locs kc ks Z (F0 m 1032 ls []) := by
  have hx := C0.1
  have hb := C0.2.1
  obtain ⟨a, C, N, e1, e2, hI2⟩ := E_as hI (xs (i + 1)) (xs (i + 2))
  refine lv_aload_n hx hb dL_law_1032 rfl (lv_at hl 1 rfl) ?_
  refine lw_arg C0 hi hL 1 (by decide) hl hS dL_law_1033 dL_law_1034 dL_law_1035 (by decide) dL_law_1036 dL_law_1037 ?_
  refine lw_arg C0 hi hL 2 (by decide) hl hS dL_law_1038 dL_law_1039 dL_law_1040 (by decide) dL_law_1041 dL_law_1042 ?_
  refine lw_call6 hkc hks (As := [.int (xs (i + 1)), .int (xs (i + 2))]) (n := 2) (st := []) C0 hF (ctX6_as (E := Ec) (d := 60) (by omega) e1) (by decide) rfl npX6_as tw_661 tw_662 tw_663 tw_664 (Nat.le_of_ble_eq_true rfl) hl.1 hP6 hP7 hS dL_law_1043 (fun H locs hP6 hP7 hS => ?_)
  refine W.eq (g2 := F0 m 1046 ls [.int a]) rfl ?_
  refine lv_aload_n hx hb dL_law_1046 rfl (lv_at hl 2 rfl) ?_
  refine lw_arg C0 hi hL 1 (by decide) hl hS dL_law_1047 dL_law_1048 dL_law_1049 (by decide) dL_law_1050 dL_law_1051 ?_
  refine lw_arg C0 hi hL 2 (by decide) hl hS dL_law_1052 dL_law_1053 dL_law_1054 (by decide) dL_law_1055 dL_law_1056 ?_
  refine lw_call7 hkc hks (As := [.int (xs (i + 1)), .int (xs (i + 2))]) (n := 2) (st := [.int a]) C0 hF (ctX7_as (E := Er) (d := 60) (by omega) e2) (by decide) rfl npX7_as tw_1091 tw_1092 tw_1093 tw_1094 (Nat.le_of_ble_eq_true rfl) hl.1 hP6 hP7 hS dL_law_1057 (fun H locs hP6 hP7 hS => ?_)
  refine W.eq (g2 := F0 m 1060 ls [.int a, .int a]) rfl ?_
  exact lv_icmp_eq (tgt := 1157) hx hb dL_law_1060 (by decide) (fun _ => kk _ _ _ _ hP6 hP7 hS hI2) (fun c => absurd rfl c)
theorem law_ask {p : Program} {l : Launch} {e : Env} {s : State} {m : MethodId} {below : List Frame} {meth : Method} {c : Code} {b L : Nat} {xs : Nat → Int32} (hL : L ≤ 3072) (C0 : lw_At p s m meth c b L xs) {Ec Er : wq_E} (hF : lw_F2 s Ec Er) {i : Nat} (hi : i + 6 ≤ L) {Mc Mr : wq_M} {H : Heap} {locs : List Loc} (hP6 : va_P Ec.1 wq_cl (wq_ws Ec wq_yC Mc) H) (hP7 : va_P Er.1 wq_cl (wq_ws Er wq_yR Mr) H) (hS : va_S (fun q : Nat => s.heap.size ≤ q) s.heap H locs) (hI : Inv Mc Mr) {ls : Array Slot} (hl : lv_has ls 4 [(0, .ref b), (1, .ref (Ec.2.1 0)), (2, .ref (Er.2.1 0)), (3, .int (nI i))]) {kc ks : Nat} {Z : State → Prop} (kk : ∀ (Mc Mr : wq_M) (H : Heap) (locs : List Loc), va_P Ec.1 wq_cl (wq_ws Ec wq_yC Mc) H → va_P Er.1 wq_cl (wq_ws Er wq_yR Mr) H → va_S (fun q : Nat => s.heap.size ≤ q) s.heap H locs → Inv Mc Mr → W p l e room_1 s m #[Value.ref b] below meth c H locs kc ks Z (F0 m 1157 ls [])) (hkc : kc ≤ 600000) (hks : ks ≤ 7302250) : W p l e room_1 s m #[Value.ref b] below meth c H locs kc ks Z (F0 m 1065 ls []) := by
  have hx := C0.1
  have hb := C0.2.1
  obtain ⟨a, C, N, e1, e2, hI2⟩ := E_ask hI (xs (i + 1)) (xs (i + 2))
  refine lv_aload_n hx hb dL_law_1065 rfl (lv_at hl 1 rfl) ?_
  refine lw_arg C0 hi hL 1 (by decide) hl hS dL_law_1066 dL_law_1067 dL_law_1068 (by decide) dL_law_1069 dL_law_1070 ?_
  refine lw_arg C0 hi hL 2 (by decide) hl hS dL_law_1071 dL_law_1072 dL_law_1073 (by decide) dL_law_1074 dL_law_1075 ?_
  refine lw_call6 hkc hks (As := [.int (xs (i + 1)), .int (xs (i + 2))]) (n := 2) (st := []) C0 hF (ctX6_ask (E := Ec) (d := 60) (by omega) e1) (by decide) rfl npX6_ask tw_667 tw_668 tw_669 tw_670 (Nat.le_of_ble_eq_true rfl) hl.1 hP6 hP7 hS dL_law_1076 (fun H locs hP6 hP7 hS => ?_)
  refine W.eq (g2 := F0 m 1079 ls [.int a]) rfl ?_
  refine lv_aload_n hx hb dL_law_1079 rfl (lv_at hl 2 rfl) ?_
  refine lw_arg C0 hi hL 1 (by decide) hl hS dL_law_1080 dL_law_1081 dL_law_1082 (by decide) dL_law_1083 dL_law_1084 ?_
  refine lw_arg C0 hi hL 2 (by decide) hl hS dL_law_1085 dL_law_1086 dL_law_1087 (by decide) dL_law_1088 dL_law_1089 ?_
  refine lw_call7 hkc hks (As := [.int (xs (i + 1)), .int (xs (i + 2))]) (n := 2) (st := [.int a]) C0 hF (ctX7_ask (E := Er) (d := 60) (by omega) e2) (by decide) rfl npX7_ask tw_1098 tw_1099 tw_1100 tw_1101 (Nat.le_of_ble_eq_true rfl) hl.1 hP6 hP7 hS dL_law_1090 (fun H locs hP6 hP7 hS => ?_)
  refine W.eq (g2 := F0 m 1093 ls [.int a, .int a]) rfl ?_
  exact lv_icmp_eq (tgt := 1157) hx hb dL_law_1093 (by decide) (fun _ => kk _ _ _ _ hP6 hP7 hS hI2) (fun c => absurd rfl c)
theorem law_trace {p : Program} {l : Launch} {e : Env} {s : State} {m : MethodId} {below : List Frame} {meth : Method} {c : Code} {b L : Nat} {xs : Nat → Int32} (hL : L ≤ 3072) (C0 : lw_At p s m meth c b L xs) {Ec Er : wq_E} (hF : lw_F2 s Ec Er) {i : Nat} (hi : i + 6 ≤ L) {Mc Mr : wq_M} {H : Heap} {locs : List Loc} (hP6 : va_P Ec.1 wq_cl (wq_ws Ec wq_yC Mc) H) (hP7 : va_P Er.1 wq_cl (wq_ws Er wq_yR Mr) H) (hS : va_S (fun q : Nat => s.heap.size ≤ q) s.heap H locs) (hI : Inv Mc Mr) {ls : Array Slot} (hl : lv_has ls 4 [(0, .ref b), (1, .ref (Ec.2.1 0)), (2, .ref (Er.2.1 0)), (3, .int (nI i))]) {kc ks : Nat} {Z : State → Prop} (kk : ∀ (Mc Mr : wq_M) (H : Heap) (locs : List Loc), va_P Ec.1 wq_cl (wq_ws Ec wq_yC Mc) H → va_P Er.1 wq_cl (wq_ws Er wq_yR Mr) H → va_S (fun q : Nat => s.heap.size ≤ q) s.heap H locs → Inv Mc Mr → W p l e room_1 s m #[Value.ref b] below meth c H locs kc ks Z (F0 m 1157 ls [])) (hkc : kc ≤ 600000) (hks : ks ≤ 7302250) : W p l e room_1 s m #[Value.ref b] below meth c H locs kc ks Z (F0 m 1098 ls []) := by
  have hx := C0.1
  have hb := C0.2.1
  obtain ⟨a, N, e1, e2, hI2⟩ := E_trace hI (xs (i + 1))
  refine lv_aload_n hx hb dL_law_1098 rfl (lv_at hl 1 rfl) ?_
  refine lw_arg C0 hi hL 1 (by decide) hl hS dL_law_1099 dL_law_1100 dL_law_1101 (by decide) dL_law_1102 dL_law_1103 ?_
  refine lw_call6 hkc hks (As := [.int (xs (i + 1))]) (n := 1) (st := []) C0 hF (ctX6_trace (E := Ec) (d := 60) (by omega) e1) (by decide) rfl npX6_trace tw_688 tw_689 tw_690 tw_691 (Nat.le_of_ble_eq_true rfl) hl.1 hP6 hP7 hS dL_law_1104 (fun H locs hP6 hP7 hS => ?_)
  refine W.eq (g2 := F0 m 1107 ls [.int a]) rfl ?_
  refine lv_aload_n hx hb dL_law_1107 rfl (lv_at hl 2 rfl) ?_
  refine lw_arg C0 hi hL 1 (by decide) hl hS dL_law_1108 dL_law_1109 dL_law_1110 (by decide) dL_law_1111 dL_law_1112 ?_
  refine lw_call7 hkc hks (As := [.int (xs (i + 1))]) (n := 1) (st := [.int a]) C0 hF (ctX7_trace (E := Er) (d := 60) (by omega) e2) (by decide) rfl npX7_trace tw_1122 tw_1123 tw_1124 tw_1125 (Nat.le_of_ble_eq_true rfl) hl.1 hP6 hP7 hS dL_law_1113 (fun H locs hP6 hP7 hS => ?_)
  refine W.eq (g2 := F0 m 1116 ls [.int a, .int a]) rfl ?_
  exact lv_icmp_eq (tgt := 1157) hx hb dL_law_1116 (by decide) (fun _ => kk _ _ _ _ hP6 hP7 hS hI2) (fun c => absurd rfl c)
theorem law_count {p : Program} {l : Launch} {e : Env} {s : State} {m : MethodId} {below : List Frame} {meth : Method} {c : Code} {b L : Nat} {xs : Nat → Int32} (hL : L ≤ 3072) (C0 : lw_At p s m meth c b L xs) {Ec Er : wq_E} (hF : lw_F2 s Ec Er) {i : Nat} (hi : i + 6 ≤ L) {Mc Mr : wq_M} {H : Heap} {locs : List Loc} (hP6 : va_P Ec.1 wq_cl (wq_ws Ec wq_yC Mc) H) (hP7 : va_P Er.1 wq_cl (wq_ws Er wq_yR Mr) H) (hS : va_S (fun q : Nat => s.heap.size ≤ q) s.heap H locs) (hI : Inv Mc Mr) {ls : Array Slot} (hl : lv_has ls 4 [(0, .ref b), (1, .ref (Ec.2.1 0)), (2, .ref (Er.2.1 0)), (3, .int (nI i))]) {kc ks : Nat} {Z : State → Prop} (kk : ∀ (Mc Mr : wq_M) (H : Heap) (locs : List Loc), va_P Ec.1 wq_cl (wq_ws Ec wq_yC Mc) H → va_P Er.1 wq_cl (wq_ws Er wq_yR Mr) H → va_S (fun q : Nat => s.heap.size ≤ q) s.heap H locs → Inv Mc Mr → W p l e room_1 s m #[Value.ref b] below meth c H locs kc ks Z (F0 m 1157 ls [])) (hkc : kc ≤ 600000) (hks : ks ≤ 7302250) : W p l e room_1 s m #[Value.ref b] below meth c H locs kc ks Z (F0 m 1121 ls []) := by
  have hx := C0.1
  have hb := C0.2.1
  obtain ⟨a, N, e1, e2, hI2⟩ := E_count hI (xs (i + 1))
  refine lv_aload_n hx hb dL_law_1121 rfl (lv_at hl 1 rfl) ?_
  refine lw_arg C0 hi hL 1 (by decide) hl hS dL_law_1122 dL_law_1123 dL_law_1124 (by decide) dL_law_1125 dL_law_1126 ?_
  refine lw_call6 hkc hks (As := [.int (xs (i + 1))]) (n := 1) (st := []) C0 hF (ctX6_count (E := Ec) (d := 60) (by omega) e1) (by decide) rfl npX6_count tw_692 tw_693 tw_694 tw_695 (Nat.le_of_ble_eq_true rfl) hl.1 hP6 hP7 hS dL_law_1127 (fun H locs hP6 hP7 hS => ?_)
  refine W.eq (g2 := F0 m 1130 ls [.int a]) rfl ?_
  refine lv_aload_n hx hb dL_law_1130 rfl (lv_at hl 2 rfl) ?_
  refine lw_arg C0 hi hL 1 (by decide) hl hS dL_law_1131 dL_law_1132 dL_law_1133 (by decide) dL_law_1134 dL_law_1135 ?_
  refine lw_call7 hkc hks (As := [.int (xs (i + 1))]) (n := 1) (st := [.int a]) C0 hF (ctX7_count (E := Er) (d := 60) (by omega) e2) (by decide) rfl npX7_count tw_1126 tw_1127 tw_1128 tw_1129 (Nat.le_of_ble_eq_true rfl) hl.1 hP6 hP7 hS dL_law_1136 (fun H locs hP6 hP7 hS => ?_)
  refine W.eq (g2 := F0 m 1139 ls [.int a, .int a]) rfl ?_
  exact lv_icmp_eq (tgt := 1157) hx hb dL_law_1139 (by decide) (fun _ => kk _ _ _ _ hP6 hP7 hS hI2) (fun c => absurd rfl c)
theorem law_status {p : Program} {l : Launch} {e : Env} {s : State} {m : MethodId} {below : List Frame} {meth : Method} {c : Code} {b L : Nat} {xs : Nat → Int32} (hL : L ≤ 3072) (C0 : lw_At p s m meth c b L xs) {Ec Er : wq_E} (hF : lw_F2 s Ec Er) {i : Nat} (hi : i + 6 ≤ L) {Mc Mr : wq_M} {H : Heap} {locs : List Loc} (hP6 : va_P Ec.1 wq_cl (wq_ws Ec wq_yC Mc) H) (hP7 : va_P Er.1 wq_cl (wq_ws Er wq_yR Mr) H) (hS : va_S (fun q : Nat => s.heap.size ≤ q) s.heap H locs) (hI : Inv Mc Mr) {ls : Array Slot} (hl : lv_has ls 4 [(0, .ref b), (1, .ref (Ec.2.1 0)), (2, .ref (Er.2.1 0)), (3, .int (nI i))]) {kc ks : Nat} {Z : State → Prop} (kk : ∀ (Mc Mr : wq_M) (H : Heap) (locs : List Loc), va_P Ec.1 wq_cl (wq_ws Ec wq_yC Mc) H → va_P Er.1 wq_cl (wq_ws Er wq_yR Mr) H → va_S (fun q : Nat => s.heap.size ≤ q) s.heap H locs → Inv Mc Mr → W p l e room_1 s m #[Value.ref b] below meth c H locs kc ks Z (F0 m 1157 ls [])) (hkc : kc ≤ 600000) (hks : ks ≤ 7302250) : W p l e room_1 s m #[Value.ref b] below meth c H locs kc ks Z (F0 m 1144 ls []) := by
  have hx := C0.1
  have hb := C0.2.1
  obtain ⟨a, N, e1, e2, hI2⟩ := E_status hI 
  refine lv_aload_n hx hb dL_law_1144 rfl (lv_at hl 1 rfl) ?_
  refine lw_call6 hkc hks (As := []) (n := 0) (st := []) C0 hF (ctX6_status (E := Ec) (d := 60) (by omega) e1) (by decide) rfl npX6_status tw_708 tw_709 tw_710 tw_711 (Nat.le_of_ble_eq_true rfl) hl.1 hP6 hP7 hS dL_law_1145 (fun H locs hP6 hP7 hS => ?_)
  refine W.eq (g2 := F0 m 1148 ls [.int a]) rfl ?_
  refine lv_aload_n hx hb dL_law_1148 rfl (lv_at hl 2 rfl) ?_
  refine lw_call7 hkc hks (As := []) (n := 0) (st := [.int a]) C0 hF (ctX7_status (E := Er) (d := 60) (by omega) e2) (by decide) rfl npX7_status tw_1133 tw_1134 tw_1135 tw_1136 (Nat.le_of_ble_eq_true rfl) hl.1 hP6 hP7 hS dL_law_1149 (fun H locs hP6 hP7 hS => ?_)
  refine W.eq (g2 := F0 m 1152 ls [.int a, .int a]) rfl ?_
  exact lv_icmp_eq (tgt := 1157) hx hb dL_law_1152 (by decide) (fun _ => kk _ _ _ _ hP6 hP7 hS hI2) (fun c => absurd rfl c)

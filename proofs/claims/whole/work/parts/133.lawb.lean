section LWS
variable {p : Program} {l : Launch} {e : Env} {s : State} {m : MethodId} {below : List Frame} {meth : Method} {c : Code} {H : Heap} {locs : List Loc} {Q : State → Prop}
variable {ls : Array Slot} {D : va_G} {cy : Nat → ClassId} {cJ : ClassId} {L : List Nat} {ad : Nat → Nat} {u : Mm} {f : Nat → Int64} {b Ls k a1 a2 qo : Nat} {xs : Nat → Int32}
set_option maxHeartbeats 4000000 in
set_option maxRecDepth 100000 in
theorem law_c1 (X : Lx p s m meth c b Ls xs D cy cJ) (hst : l.stackTraces = false) (hk : 5 * k + 5 ≤ Ls) (hL : Ls ≤ 2560) (I : LW k s D cy cJ a1 a2 qo L ad u f H locs) (hl : lv_has ls 7 [(0, .ref b), (1, .ref a1), (2, .ref a2), (3, .ref qo), (4, .int (i3 (5 * k)))])
    (KK : ∀ (L : List Nat) (ad : Nat → Nat) (u : Mm) (f : Nat → Int64) (H : Heap) (locs : List Loc) (ls : Array Slot), LW (k + 1) s D cy cJ a1 a2 qo L ad u f H locs → lv_has ls 7 [(0, .ref b), (1, .ref a1), (2, .ref a2), (3, .ref qo), (4, .int (i3 (5 * k)))] → W p l e room_1 s m #[Value.ref b] below meth c H locs (43 + 2 * (k + 1)) (3226 + 17 * (k + 1)) Q (F0 m 878 ls [])) : W p l e room_1 s m #[Value.ref b] below meth c H locs (43 + 2 * k) (3226 + 17 * k) Q (F0 m 231 ls []) := by
  have hI := I
  obtain ⟨hx, hb, hr, hml, hown, hts, hX, hbl, hlocks, hK, hT, hC, hNc⟩ := X
  obtain ⟨hw, hJ, h40, h0, hv7, hv8, hlt, h41, h43⟩ := I
  have hA : ∀ q : Nat, s.heap.size ≤ q → (fun q : Nat => s.heap.size ≤ q) q := fun _ h => h
  have hbA : ¬ (fun q : Nat => s.heap.size ≤ q) b := Nat.not_le.mpr hbl
  obtain ⟨kx, a, bb, v1, a9, v2, e1, e2, h00, hac, hkx, hJ2⟩ := st_make (N := 5000) (t := 72 + 4 * k) (Nat.le_refl _) hJ (by omega) (lw_T hI).2 (xs (5 * k + 1))
  refine lv_aload_n hx hb dL_law_231 rfl (lv_at hl 1 rfl) ?_
  refine q_ld hx hb hX hbl hbA hw.2.2.1 hl 0 4 rfl rfl dL_law_232 dL_law_233 dL_law_235 dL_law_236 dL_law_237 (j := 1) rfl (by omega) hL ?_
  refine lv_aload_n hx hb dL_law_238 rfl (lv_at hl 3 rfl) ?_
  have hM := c_L_make l hst D cy cJ L ad 5000 (72 + 4 * k) (xs (5 * k + 1)) qo f u (kx, a, bb, v1) hv7 (lw_T hI).1 (n2_make _ e1) e1
  rw [h40] at hM
  refine q_sJ (As := [.ref a1, .int (xs (5 * k + 1)), .ref qo]) (rest := []) ⟨hx, hb, hml, hown, hts⟩ hM (vx_cwSW 3 hts gL_law_L_make rfl rfl rfl (by decide +kernel) ⟨Nat.le_of_ble_eq_true rfl, Nat.le_of_ble_eq_true rfl⟩) hw hA hK hT hC hNc rfl hl.1 rfl (Nat.le_of_ble_eq_true rfl) dL_law_239 ⟨show 43 + 2 * k + 2 ≤ 601024 by omega, show 3226 + 17 * k + 17 ≤ 7293034 by omega⟩ (fun kk g ad2 H locs hok hag hw => ?_)
  replace hw : Wj D cy cJ (LoX L [72 + 4 * k, 72 + 4 * k + 1] bb) ad2 (fun q : Nat => s.heap.size ≤ q) s.heap v1 qo g H locs := hw
  have hkk := oOk_k hok
  have hv7 := lo_vn (nw := [72 + 4 * k, 72 + 4 * k + 1]) (b := bb) hv7
  have h40 : ad2 40 = a1 := (hag 40 hI.2.2.2.2.1.1).trans h40
  have h0 : ad2 0 = a2 := (hag 0 hv8.1).trans h0
  have hv8 := lo_vn (nw := [72 + 4 * k, 72 + 4 * k + 1]) (b := bb) hv8
  have hlt : ∀ c ∈ LoX L [72 + 4 * k, 72 + 4 * k + 1] bb, c < 72 + 4 * (k + 1) := fun c hc => by
    rcases lo_in hc with h | h
    · have := hlt c h; omega
    · simp only [List.mem_cons, List.not_mem_nil, or_false] at h; omega
  have h41 := lo_of (nw := [72 + 4 * k, 72 + 4 * k + 1]) (b := bb) h41
  have h43 := lo_of (nw := [72 + 4 * k, 72 + 4 * k + 1]) (b := bb) h43
  refine lv_istore (lv' := [(5, .int kk), (0, .ref b), (1, .ref a1), (2, .ref a2), (3, .ref qo), (4, .int (i3 (5 * k)))]) hx hb dL_law_242 hl (by decide) rfl (fun ls hl => ?_)
  refine lv_aload_n hx hb dL_law_244 rfl (lv_at hl 3 rfl) ?_
  refine q_ld hx hb hX hbl hbA hw.2.2.1 hl 1 5 rfl rfl dL_law_245 dL_law_246 dL_law_248 dL_law_249 dL_law_250 (j := 1) rfl (by omega) hL ?_
  refine q_vI (As := [.int (xs (5 * k + 1))]) (rest := []) ⟨hx, hb, hml, hown, hts⟩ (c_X8_make l D cy _ _ 5000 (xs (5 * k + 1)) v1 (a9, v2) hv8 e2) (cwV 1 hts gL_law_X8_make rfl rfl rfl (by decide +kernel) ⟨Nat.le_of_ble_eq_true rfl, Nat.le_of_ble_eq_true rfl⟩) hw hA hK h0 hv8 (by decide) rfl rfl hl.1 rfl (Nat.le_of_ble_eq_true rfl) dL_law_251 ⟨show 43 + 2 * k + 2 + 0 ≤ 601024 by omega, show 3226 + 17 * k + 17 + 0 ≤ 7293034 by omega⟩ (fun H locs hw => ?_)
  refine lv_istore (lv' := [(6, .int a9), (5, .int kk), (0, .ref b), (1, .ref a1), (2, .ref a2), (3, .ref qo), (4, .int (i3 (5 * k)))]) hx hb dL_law_254 hl (by decide) rfl (fun ls hl => ?_)
  refine lv_aload_n hx hb dL_law_256 rfl (lv_at hl 4 rfl) ?_
  refine q_vI (As := []) (rest := []) ⟨hx, hb, hml, hown, hts⟩ (c_X8_thrown l D cy _ _ 5000  v2 (v2.1 0 0, v2) hv8 rfl) (cwV 0 hts gL_law_X8_thrown rfl rfl rfl (by decide +kernel) ⟨Nat.le_of_ble_eq_true rfl, Nat.le_of_ble_eq_true rfl⟩) hw hA hK h0 hv8 (by decide) rfl rfl hl.1 rfl (Nat.le_of_ble_eq_true rfl) dL_law_257 ⟨show 43 + 2 * k + 2 + 0 ≤ 601024 by omega, show 3226 + 17 * k + 17 + 0 ≤ 7293034 by omega⟩ (fun H locs hw => ?_)
  refine lv_iload hx hb dL_law_260 (lv_at hl 1 rfl) ?_
  refine lv_icmp_eq (tgt := 267) hx hb dL_law_262 (by decide) (fun _ => ?_) (fun z => absurd (h00.trans hkk.symm) z)
  refine lv_iload hx hb dL_law_267 (lv_at hl 1 rfl) ?_
  have fin : ∀ ls, lv_has ls 7 [(6, .int a9), (5, .int kk), (0, .ref b), (1, .ref a1), (2, .ref a2), (3, .ref qo), (4, .int (i3 (5 * k)))] → W p l e room_1 s m #[Value.ref b] below meth c H locs (43 + 2 * k + 2) (3226 + 17 * k + 17) Q (F0 m 284 ls []) := fun ls hl => by
    refine lv_goto (tgt := 878) hx hb dL_law_284 (by decide) ?_
    refine W.widen (k := 43 + 2 * (k + 1)) (n := 3226 + 17 * (k + 1)) (by omega) (by omega) ?_
    exact KK _ _ _ _ _ _ _ ⟨hw, hJ2, h40, h0, hv7, hv8, hlt, h41, h43⟩ (lv_sub hl [2, 3, 4, 5, 6] rfl)
  refine lv_if_ne (tgt := 284) hx hb dL_law_269 (by decide) (fun _ => fin ls hl) (fun hk0 => ?_)
  have hz := oOk_0 hok hk0
  have hga : g 0 = a9.toInt64 := by rw [hz.2, hac hz.1]
  refine lv_aload_n hx hb dL_law_272 rfl (lv_at hl 5 rfl) ?_
  refine lv_iconst (v := 0) hx hb dL_law_273 (by decide) ?_
  refine q_lald hx hb hK hw dL_law_274 ?_
  rw [hga]
  refine lv_iload hx hb dL_law_275 (lv_at hl 0 rfl) ?_
  refine lv_i2l (v := a9.toInt64) hx hb dL_law_277 rfl ?_
  refine W.lcmp hx hb dL_law_278 ?_
  refine lv_if_eq (tgt := 284) hx hb dL_law_279 (by decide) (fun _ => fin ls hl) (fun z => absurd (lg_rf _) z)
set_option maxHeartbeats 4000000 in
set_option maxRecDepth 100000 in
theorem law_c4 (X : Lx p s m meth c b Ls xs D cy cJ) (hst : l.stackTraces = false) (hk : 5 * k + 5 ≤ Ls) (hL : Ls ≤ 2560) (I : LW k s D cy cJ a1 a2 qo L ad u f H locs) (hl : lv_has ls 7 [(0, .ref b), (1, .ref a1), (2, .ref a2), (3, .ref qo), (4, .int (i3 (5 * k)))])
    (KK : ∀ (L : List Nat) (ad : Nat → Nat) (u : Mm) (f : Nat → Int64) (H : Heap) (locs : List Loc) (ls : Array Slot), LW (k + 1) s D cy cJ a1 a2 qo L ad u f H locs → lv_has ls 7 [(0, .ref b), (1, .ref a1), (2, .ref a2), (3, .ref qo), (4, .int (i3 (5 * k)))] → W p l e room_1 s m #[Value.ref b] below meth c H locs (43 + 2 * (k + 1)) (3226 + 17 * (k + 1)) Q (F0 m 878 ls [])) : W p l e room_1 s m #[Value.ref b] below meth c H locs (43 + 2 * k) (3226 + 17 * k) Q (F0 m 337 ls []) := by
  have hI := I
  obtain ⟨hx, hb, hr, hml, hown, hts, hX, hbl, hlocks, hK, hT, hC, hNc⟩ := X
  obtain ⟨hw, hJ, h40, h0, hv7, hv8, hlt, h41, h43⟩ := I
  have hA : ∀ q : Nat, s.heap.size ≤ q → (fun q : Nat => s.heap.size ≤ q) q := fun _ h => h
  have hbA : ¬ (fun q : Nat => s.heap.size ≤ q) b := Nat.not_le.mpr hbl
  obtain ⟨kx, a, bb, v1, a9, v2, e1, e2, h00, hac, hkx, hJ2⟩ := st_set (N := 5000) (Nat.le_refl _) hJ (by omega) (xs (5 * k + 1)) (xs (5 * k + 2)) (xs (5 * k + 3))
  refine lv_aload_n hx hb dL_law_337 rfl (lv_at hl 1 rfl) ?_
  refine q_ld hx hb hX hbl hbA hw.2.2.1 hl 0 4 rfl rfl dL_law_338 dL_law_339 dL_law_341 dL_law_342 dL_law_343 (j := 1) rfl (by omega) hL ?_
  refine q_ld hx hb hX hbl hbA hw.2.2.1 hl 0 4 rfl rfl dL_law_344 dL_law_345 dL_law_347 dL_law_348 dL_law_349 (j := 2) rfl (by omega) hL ?_
  refine q_ld hx hb hX hbl hbA hw.2.2.1 hl 0 4 rfl rfl dL_law_350 dL_law_351 dL_law_353 dL_law_354 dL_law_355 (j := 3) rfl (by omega) hL ?_
  refine lv_aload_n hx hb dL_law_356 rfl (lv_at hl 3 rfl) ?_
  have hM := c_L_set l hst D cy cJ L [] ad 5000 (xs (5 * k + 1)) (xs (5 * k + 2)) (xs (5 * k + 3)) qo f u (kx, a, bb, v1) hv7 (n2_set _ e1) e1
  rw [h40] at hM
  refine q_sJ (As := [.ref a1, .int (xs (5 * k + 1)), .int (xs (5 * k + 2)), .int (xs (5 * k + 3)), .ref qo]) (rest := []) ⟨hx, hb, hml, hown, hts⟩ hM (vx_cwSW 5 hts gL_law_L_set rfl rfl rfl (by decide +kernel) ⟨Nat.le_of_ble_eq_true rfl, Nat.le_of_ble_eq_true rfl⟩) hw hA hK hT hC hNc rfl hl.1 rfl (Nat.le_of_ble_eq_true rfl) dL_law_357 ⟨show 43 + 2 * k + 1 ≤ 601024 by omega, show 3226 + 17 * k + 6 ≤ 7293034 by omega⟩ (fun kk g ad2 H locs hok hag hw => ?_)
  replace hw : Wj D cy cJ (LoX L [] bb) ad2 (fun q : Nat => s.heap.size ≤ q) s.heap v1 qo g H locs := hw
  have hkk := oOk_k hok
  have hv7 := lo_vn (nw := []) (b := bb) hv7
  have h40 : ad2 40 = a1 := (hag 40 hI.2.2.2.2.1.1).trans h40
  have h0 : ad2 0 = a2 := (hag 0 hv8.1).trans h0
  have hv8 := lo_vn (nw := []) (b := bb) hv8
  have hlt : ∀ c ∈ LoX L [] bb, c < 72 + 4 * (k + 1) := fun c hc => by
    rcases lo_in hc with h | h
    · have := hlt c h; omega
    · cases h
  have h41 := lo_of (nw := []) (b := bb) h41
  have h43 := lo_of (nw := []) (b := bb) h43
  refine lv_istore (lv' := [(5, .int kk), (0, .ref b), (1, .ref a1), (2, .ref a2), (3, .ref qo), (4, .int (i3 (5 * k)))]) hx hb dL_law_360 hl (by decide) rfl (fun ls hl => ?_)
  refine lv_aload_n hx hb dL_law_362 rfl (lv_at hl 3 rfl) ?_
  refine q_ld hx hb hX hbl hbA hw.2.2.1 hl 1 5 rfl rfl dL_law_363 dL_law_364 dL_law_366 dL_law_367 dL_law_368 (j := 1) rfl (by omega) hL ?_
  refine q_ld hx hb hX hbl hbA hw.2.2.1 hl 1 5 rfl rfl dL_law_369 dL_law_370 dL_law_372 dL_law_373 dL_law_374 (j := 2) rfl (by omega) hL ?_
  refine q_ld hx hb hX hbl hbA hw.2.2.1 hl 1 5 rfl rfl dL_law_375 dL_law_376 dL_law_378 dL_law_379 dL_law_380 (j := 3) rfl (by omega) hL ?_
  refine q_vI (As := [.int (xs (5 * k + 1)), .int (xs (5 * k + 2)), .int (xs (5 * k + 3))]) (rest := []) ⟨hx, hb, hml, hown, hts⟩ (c_X8_set l D cy _ _ 5000 (xs (5 * k + 1)) (xs (5 * k + 2)) (xs (5 * k + 3)) v1 (a9, v2) hv8 e2) (cwV 3 hts gL_law_X8_set rfl rfl rfl (by decide +kernel) ⟨Nat.le_of_ble_eq_true rfl, Nat.le_of_ble_eq_true rfl⟩) hw hA hK h0 hv8 (by decide) rfl rfl hl.1 rfl (Nat.le_of_ble_eq_true rfl) dL_law_381 ⟨show 43 + 2 * k + 1 + 0 ≤ 601024 by omega, show 3226 + 17 * k + 6 + 0 ≤ 7293034 by omega⟩ (fun H locs hw => ?_)
  refine lv_istore (lv' := [(6, .int a9), (5, .int kk), (0, .ref b), (1, .ref a1), (2, .ref a2), (3, .ref qo), (4, .int (i3 (5 * k)))]) hx hb dL_law_384 hl (by decide) rfl (fun ls hl => ?_)
  refine lv_aload_n hx hb dL_law_386 rfl (lv_at hl 4 rfl) ?_
  refine q_vI (As := []) (rest := []) ⟨hx, hb, hml, hown, hts⟩ (c_X8_thrown l D cy _ _ 5000  v2 (v2.1 0 0, v2) hv8 rfl) (cwV 0 hts gL_law_X8_thrown rfl rfl rfl (by decide +kernel) ⟨Nat.le_of_ble_eq_true rfl, Nat.le_of_ble_eq_true rfl⟩) hw hA hK h0 hv8 (by decide) rfl rfl hl.1 rfl (Nat.le_of_ble_eq_true rfl) dL_law_387 ⟨show 43 + 2 * k + 1 + 0 ≤ 601024 by omega, show 3226 + 17 * k + 6 + 0 ≤ 7293034 by omega⟩ (fun H locs hw => ?_)
  refine lv_iload hx hb dL_law_390 (lv_at hl 1 rfl) ?_
  refine lv_icmp_eq (tgt := 397) hx hb dL_law_392 (by decide) (fun _ => ?_) (fun z => absurd (h00.trans hkk.symm) z)
  refine lv_iload hx hb dL_law_397 (lv_at hl 1 rfl) ?_
  have fin : ∀ ls, lv_has ls 7 [(6, .int a9), (5, .int kk), (0, .ref b), (1, .ref a1), (2, .ref a2), (3, .ref qo), (4, .int (i3 (5 * k)))] → W p l e room_1 s m #[Value.ref b] below meth c H locs (43 + 2 * k + 1) (3226 + 17 * k + 6) Q (F0 m 414 ls []) := fun ls hl => by
    refine lv_goto (tgt := 878) hx hb dL_law_414 (by decide) ?_
    refine W.widen (k := 43 + 2 * (k + 1)) (n := 3226 + 17 * (k + 1)) (by omega) (by omega) ?_
    exact KK _ _ _ _ _ _ _ ⟨hw, hJ2, h40, h0, hv7, hv8, hlt, h41, h43⟩ (lv_sub hl [2, 3, 4, 5, 6] rfl)
  refine lv_if_ne (tgt := 414) hx hb dL_law_399 (by decide) (fun _ => fin ls hl) (fun hk0 => ?_)
  have hz := oOk_0 hok hk0
  have hga : g 0 = a9.toInt64 := by rw [hz.2, hac hz.1]
  refine lv_aload_n hx hb dL_law_402 rfl (lv_at hl 5 rfl) ?_
  refine lv_iconst (v := 0) hx hb dL_law_403 (by decide) ?_
  refine q_lald hx hb hK hw dL_law_404 ?_
  rw [hga]
  refine lv_iload hx hb dL_law_405 (lv_at hl 0 rfl) ?_
  refine lv_i2l (v := a9.toInt64) hx hb dL_law_407 rfl ?_
  refine W.lcmp hx hb dL_law_408 ?_
  refine lv_if_eq (tgt := 414) hx hb dL_law_409 (by decide) (fun _ => fin ls hl) (fun z => absurd (lg_rf _) z)
set_option maxHeartbeats 4000000 in
set_option maxRecDepth 100000 in
theorem law_c5 (X : Lx p s m meth c b Ls xs D cy cJ) (hst : l.stackTraces = false) (hk : 5 * k + 5 ≤ Ls) (hL : Ls ≤ 2560) (I : LW k s D cy cJ a1 a2 qo L ad u f H locs) (hl : lv_has ls 7 [(0, .ref b), (1, .ref a1), (2, .ref a2), (3, .ref qo), (4, .int (i3 (5 * k)))])
    (KK : ∀ (L : List Nat) (ad : Nat → Nat) (u : Mm) (f : Nat → Int64) (H : Heap) (locs : List Loc) (ls : Array Slot), LW (k + 1) s D cy cJ a1 a2 qo L ad u f H locs → lv_has ls 7 [(0, .ref b), (1, .ref a1), (2, .ref a2), (3, .ref qo), (4, .int (i3 (5 * k)))] → W p l e room_1 s m #[Value.ref b] below meth c H locs (43 + 2 * (k + 1)) (3226 + 17 * (k + 1)) Q (F0 m 878 ls [])) : W p l e room_1 s m #[Value.ref b] below meth c H locs (43 + 2 * k) (3226 + 17 * k) Q (F0 m 417 ls []) := by
  have hI := I
  obtain ⟨hx, hb, hr, hml, hown, hts, hX, hbl, hlocks, hK, hT, hC, hNc⟩ := X
  obtain ⟨hw, hJ, h40, h0, hv7, hv8, hlt, h41, h43⟩ := I
  have hA : ∀ q : Nat, s.heap.size ≤ q → (fun q : Nat => s.heap.size ≤ q) q := fun _ h => h
  have hbA : ¬ (fun q : Nat => s.heap.size ≤ q) b := Nat.not_le.mpr hbl
  obtain ⟨kx, a, bb, v1, a9, v2, e1, e2, h00, hac, hkx, hJ2⟩ := st_get (N := 5000) (Nat.le_refl _) hJ (by omega) (xs (5 * k + 1)) (xs (5 * k + 2))
  refine lv_aload_n hx hb dL_law_417 rfl (lv_at hl 1 rfl) ?_
  refine q_ld hx hb hX hbl hbA hw.2.2.1 hl 0 4 rfl rfl dL_law_418 dL_law_419 dL_law_421 dL_law_422 dL_law_423 (j := 1) rfl (by omega) hL ?_
  refine q_ld hx hb hX hbl hbA hw.2.2.1 hl 0 4 rfl rfl dL_law_424 dL_law_425 dL_law_427 dL_law_428 dL_law_429 (j := 2) rfl (by omega) hL ?_
  refine lv_aload_n hx hb dL_law_430 rfl (lv_at hl 3 rfl) ?_
  have hM := c_L_get l hst D cy cJ L [] ad 5000 (xs (5 * k + 1)) (xs (5 * k + 2)) qo f u (kx, a, bb, v1) hv7 (n2_get _ e1) e1
  rw [h40] at hM
  refine q_sJ (As := [.ref a1, .int (xs (5 * k + 1)), .int (xs (5 * k + 2)), .ref qo]) (rest := []) ⟨hx, hb, hml, hown, hts⟩ hM (vx_cwSW 4 hts gL_law_L_get rfl rfl rfl (by decide +kernel) ⟨Nat.le_of_ble_eq_true rfl, Nat.le_of_ble_eq_true rfl⟩) hw hA hK hT hC hNc rfl hl.1 rfl (Nat.le_of_ble_eq_true rfl) dL_law_431 ⟨show 43 + 2 * k + 1 ≤ 601024 by omega, show 3226 + 17 * k + 6 ≤ 7293034 by omega⟩ (fun kk g ad2 H locs hok hag hw => ?_)
  replace hw : Wj D cy cJ (LoX L [] bb) ad2 (fun q : Nat => s.heap.size ≤ q) s.heap v1 qo g H locs := hw
  have hkk := oOk_k hok
  have hv7 := lo_vn (nw := []) (b := bb) hv7
  have h40 : ad2 40 = a1 := (hag 40 hI.2.2.2.2.1.1).trans h40
  have h0 : ad2 0 = a2 := (hag 0 hv8.1).trans h0
  have hv8 := lo_vn (nw := []) (b := bb) hv8
  have hlt : ∀ c ∈ LoX L [] bb, c < 72 + 4 * (k + 1) := fun c hc => by
    rcases lo_in hc with h | h
    · have := hlt c h; omega
    · cases h
  have h41 := lo_of (nw := []) (b := bb) h41
  have h43 := lo_of (nw := []) (b := bb) h43
  refine lv_istore (lv' := [(5, .int kk), (0, .ref b), (1, .ref a1), (2, .ref a2), (3, .ref qo), (4, .int (i3 (5 * k)))]) hx hb dL_law_434 hl (by decide) rfl (fun ls hl => ?_)
  refine lv_aload_n hx hb dL_law_436 rfl (lv_at hl 3 rfl) ?_
  refine q_ld hx hb hX hbl hbA hw.2.2.1 hl 1 5 rfl rfl dL_law_437 dL_law_438 dL_law_440 dL_law_441 dL_law_442 (j := 1) rfl (by omega) hL ?_
  refine q_ld hx hb hX hbl hbA hw.2.2.1 hl 1 5 rfl rfl dL_law_443 dL_law_444 dL_law_446 dL_law_447 dL_law_448 (j := 2) rfl (by omega) hL ?_
  refine q_vI (As := [.int (xs (5 * k + 1)), .int (xs (5 * k + 2))]) (rest := []) ⟨hx, hb, hml, hown, hts⟩ (c_X8_get l D cy _ _ 5000 (xs (5 * k + 1)) (xs (5 * k + 2)) v1 (a9, v2) hv8 e2) (cwV 2 hts gL_law_X8_get rfl rfl rfl (by decide +kernel) ⟨Nat.le_of_ble_eq_true rfl, Nat.le_of_ble_eq_true rfl⟩) hw hA hK h0 hv8 (by decide) rfl rfl hl.1 rfl (Nat.le_of_ble_eq_true rfl) dL_law_449 ⟨show 43 + 2 * k + 1 + 0 ≤ 601024 by omega, show 3226 + 17 * k + 6 + 0 ≤ 7293034 by omega⟩ (fun H locs hw => ?_)
  refine lv_istore (lv' := [(6, .int a9), (5, .int kk), (0, .ref b), (1, .ref a1), (2, .ref a2), (3, .ref qo), (4, .int (i3 (5 * k)))]) hx hb dL_law_452 hl (by decide) rfl (fun ls hl => ?_)
  refine lv_aload_n hx hb dL_law_454 rfl (lv_at hl 4 rfl) ?_
  refine q_vI (As := []) (rest := []) ⟨hx, hb, hml, hown, hts⟩ (c_X8_thrown l D cy _ _ 5000  v2 (v2.1 0 0, v2) hv8 rfl) (cwV 0 hts gL_law_X8_thrown rfl rfl rfl (by decide +kernel) ⟨Nat.le_of_ble_eq_true rfl, Nat.le_of_ble_eq_true rfl⟩) hw hA hK h0 hv8 (by decide) rfl rfl hl.1 rfl (Nat.le_of_ble_eq_true rfl) dL_law_455 ⟨show 43 + 2 * k + 1 + 0 ≤ 601024 by omega, show 3226 + 17 * k + 6 + 0 ≤ 7293034 by omega⟩ (fun H locs hw => ?_)
  refine lv_iload hx hb dL_law_458 (lv_at hl 1 rfl) ?_
  refine lv_icmp_eq (tgt := 465) hx hb dL_law_460 (by decide) (fun _ => ?_) (fun z => absurd (h00.trans hkk.symm) z)
  refine lv_iload hx hb dL_law_465 (lv_at hl 1 rfl) ?_
  have fin : ∀ ls, lv_has ls 7 [(6, .int a9), (5, .int kk), (0, .ref b), (1, .ref a1), (2, .ref a2), (3, .ref qo), (4, .int (i3 (5 * k)))] → W p l e room_1 s m #[Value.ref b] below meth c H locs (43 + 2 * k + 1) (3226 + 17 * k + 6) Q (F0 m 482 ls []) := fun ls hl => by
    refine lv_goto (tgt := 878) hx hb dL_law_482 (by decide) ?_
    refine W.widen (k := 43 + 2 * (k + 1)) (n := 3226 + 17 * (k + 1)) (by omega) (by omega) ?_
    exact KK _ _ _ _ _ _ _ ⟨hw, hJ2, h40, h0, hv7, hv8, hlt, h41, h43⟩ (lv_sub hl [2, 3, 4, 5, 6] rfl)
  refine lv_if_ne (tgt := 482) hx hb dL_law_467 (by decide) (fun _ => fin ls hl) (fun hk0 => ?_)
  have hz := oOk_0 hok hk0
  have hga : g 0 = a9.toInt64 := by rw [hz.2, hac hz.1]
  refine lv_aload_n hx hb dL_law_470 rfl (lv_at hl 5 rfl) ?_
  refine lv_iconst (v := 0) hx hb dL_law_471 (by decide) ?_
  refine q_lald hx hb hK hw dL_law_472 ?_
  rw [hga]
  refine lv_iload hx hb dL_law_473 (lv_at hl 0 rfl) ?_
  refine lv_i2l (v := a9.toInt64) hx hb dL_law_475 rfl ?_
  refine W.lcmp hx hb dL_law_476 ?_
  refine lv_if_eq (tgt := 482) hx hb dL_law_477 (by decide) (fun _ => fin ls hl) (fun z => absurd (lg_rf _) z)
set_option maxHeartbeats 4000000 in
set_option maxRecDepth 100000 in
theorem law_c9 (X : Lx p s m meth c b Ls xs D cy cJ) (hst : l.stackTraces = false) (hk : 5 * k + 5 ≤ Ls) (hL : Ls ≤ 2560) (I : LW k s D cy cJ a1 a2 qo L ad u f H locs) (hl : lv_has ls 7 [(0, .ref b), (1, .ref a1), (2, .ref a2), (3, .ref qo), (4, .int (i3 (5 * k)))])
    (KK : ∀ (L : List Nat) (ad : Nat → Nat) (u : Mm) (f : Nat → Int64) (H : Heap) (locs : List Loc) (ls : Array Slot), LW (k + 1) s D cy cJ a1 a2 qo L ad u f H locs → lv_has ls 7 [(0, .ref b), (1, .ref a1), (2, .ref a2), (3, .ref qo), (4, .int (i3 (5 * k)))] → W p l e room_1 s m #[Value.ref b] below meth c H locs (43 + 2 * (k + 1)) (3226 + 17 * (k + 1)) Q (F0 m 878 ls [])) : W p l e room_1 s m #[Value.ref b] below meth c H locs (43 + 2 * k) (3226 + 17 * k) Q (F0 m 524 ls []) := by
  have hI := I
  obtain ⟨hx, hb, hr, hml, hown, hts, hX, hbl, hlocks, hK, hT, hC, hNc⟩ := X
  obtain ⟨hw, hJ, h40, h0, hv7, hv8, hlt, h41, h43⟩ := I
  have hA : ∀ q : Nat, s.heap.size ≤ q → (fun q : Nat => s.heap.size ≤ q) q := fun _ h => h
  have hbA : ¬ (fun q : Nat => s.heap.size ≤ q) b := Nat.not_le.mpr hbl
  obtain ⟨kx, a, bb, v1, a9, v2, e1, e2, h00, hac, hkx, hJ2⟩ := st_weak (N := 5000) (Nat.le_refl _) hJ (by omega) (xs (5 * k + 1)) (xs (5 * k + 2))
  refine lv_aload_n hx hb dL_law_524 rfl (lv_at hl 1 rfl) ?_
  refine q_ld hx hb hX hbl hbA hw.2.2.1 hl 0 4 rfl rfl dL_law_525 dL_law_526 dL_law_528 dL_law_529 dL_law_530 (j := 1) rfl (by omega) hL ?_
  refine q_ld hx hb hX hbl hbA hw.2.2.1 hl 0 4 rfl rfl dL_law_531 dL_law_532 dL_law_534 dL_law_535 dL_law_536 (j := 2) rfl (by omega) hL ?_
  refine lv_aload_n hx hb dL_law_537 rfl (lv_at hl 3 rfl) ?_
  have hM := c_L_weak l hst D cy cJ L [] ad 5000 (xs (5 * k + 1)) (xs (5 * k + 2)) qo f u (kx, a, bb, v1) hv7 (n2_weak _ e1) e1
  rw [h40] at hM
  refine q_sJ (As := [.ref a1, .int (xs (5 * k + 1)), .int (xs (5 * k + 2)), .ref qo]) (rest := []) ⟨hx, hb, hml, hown, hts⟩ hM (vx_cwSW 4 hts gL_law_L_weak rfl rfl rfl (by decide +kernel) ⟨Nat.le_of_ble_eq_true rfl, Nat.le_of_ble_eq_true rfl⟩) hw hA hK hT hC hNc rfl hl.1 rfl (Nat.le_of_ble_eq_true rfl) dL_law_538 ⟨show 43 + 2 * k + 1 ≤ 601024 by omega, show 3226 + 17 * k + 6 ≤ 7293034 by omega⟩ (fun kk g ad2 H locs hok hag hw => ?_)
  replace hw : Wj D cy cJ (LoX L [] bb) ad2 (fun q : Nat => s.heap.size ≤ q) s.heap v1 qo g H locs := hw
  have hkk := oOk_k hok
  have hv7 := lo_vn (nw := []) (b := bb) hv7
  have h40 : ad2 40 = a1 := (hag 40 hI.2.2.2.2.1.1).trans h40
  have h0 : ad2 0 = a2 := (hag 0 hv8.1).trans h0
  have hv8 := lo_vn (nw := []) (b := bb) hv8
  have hlt : ∀ c ∈ LoX L [] bb, c < 72 + 4 * (k + 1) := fun c hc => by
    rcases lo_in hc with h | h
    · have := hlt c h; omega
    · cases h
  have h41 := lo_of (nw := []) (b := bb) h41
  have h43 := lo_of (nw := []) (b := bb) h43
  refine lv_istore (lv' := [(5, .int kk), (0, .ref b), (1, .ref a1), (2, .ref a2), (3, .ref qo), (4, .int (i3 (5 * k)))]) hx hb dL_law_541 hl (by decide) rfl (fun ls hl => ?_)
  refine lv_aload_n hx hb dL_law_543 rfl (lv_at hl 3 rfl) ?_
  refine q_ld hx hb hX hbl hbA hw.2.2.1 hl 1 5 rfl rfl dL_law_544 dL_law_545 dL_law_547 dL_law_548 dL_law_549 (j := 1) rfl (by omega) hL ?_
  refine q_ld hx hb hX hbl hbA hw.2.2.1 hl 1 5 rfl rfl dL_law_550 dL_law_551 dL_law_553 dL_law_554 dL_law_555 (j := 2) rfl (by omega) hL ?_
  refine q_vI (As := [.int (xs (5 * k + 1)), .int (xs (5 * k + 2))]) (rest := []) ⟨hx, hb, hml, hown, hts⟩ (c_X8_weak l D cy _ _ 5000 (xs (5 * k + 1)) (xs (5 * k + 2)) v1 (a9, v2) hv8 e2) (cwV 2 hts gL_law_X8_weak rfl rfl rfl (by decide +kernel) ⟨Nat.le_of_ble_eq_true rfl, Nat.le_of_ble_eq_true rfl⟩) hw hA hK h0 hv8 (by decide) rfl rfl hl.1 rfl (Nat.le_of_ble_eq_true rfl) dL_law_556 ⟨show 43 + 2 * k + 1 + 0 ≤ 601024 by omega, show 3226 + 17 * k + 6 + 0 ≤ 7293034 by omega⟩ (fun H locs hw => ?_)
  refine lv_istore (lv' := [(6, .int a9), (5, .int kk), (0, .ref b), (1, .ref a1), (2, .ref a2), (3, .ref qo), (4, .int (i3 (5 * k)))]) hx hb dL_law_559 hl (by decide) rfl (fun ls hl => ?_)
  refine lv_aload_n hx hb dL_law_561 rfl (lv_at hl 4 rfl) ?_
  refine q_vI (As := []) (rest := []) ⟨hx, hb, hml, hown, hts⟩ (c_X8_thrown l D cy _ _ 5000  v2 (v2.1 0 0, v2) hv8 rfl) (cwV 0 hts gL_law_X8_thrown rfl rfl rfl (by decide +kernel) ⟨Nat.le_of_ble_eq_true rfl, Nat.le_of_ble_eq_true rfl⟩) hw hA hK h0 hv8 (by decide) rfl rfl hl.1 rfl (Nat.le_of_ble_eq_true rfl) dL_law_562 ⟨show 43 + 2 * k + 1 + 0 ≤ 601024 by omega, show 3226 + 17 * k + 6 + 0 ≤ 7293034 by omega⟩ (fun H locs hw => ?_)
  refine lv_iload hx hb dL_law_565 (lv_at hl 1 rfl) ?_
  refine lv_icmp_eq (tgt := 572) hx hb dL_law_567 (by decide) (fun _ => ?_) (fun z => absurd (h00.trans hkk.symm) z)
  refine lv_iload hx hb dL_law_572 (lv_at hl 1 rfl) ?_
  have fin : ∀ ls, lv_has ls 7 [(6, .int a9), (5, .int kk), (0, .ref b), (1, .ref a1), (2, .ref a2), (3, .ref qo), (4, .int (i3 (5 * k)))] → W p l e room_1 s m #[Value.ref b] below meth c H locs (43 + 2 * k + 1) (3226 + 17 * k + 6) Q (F0 m 589 ls []) := fun ls hl => by
    refine lv_goto (tgt := 878) hx hb dL_law_589 (by decide) ?_
    refine W.widen (k := 43 + 2 * (k + 1)) (n := 3226 + 17 * (k + 1)) (by omega) (by omega) ?_
    exact KK _ _ _ _ _ _ _ ⟨hw, hJ2, h40, h0, hv7, hv8, hlt, h41, h43⟩ (lv_sub hl [2, 3, 4, 5, 6] rfl)
  refine lv_if_ne (tgt := 589) hx hb dL_law_574 (by decide) (fun _ => fin ls hl) (fun hk0 => ?_)
  have hz := oOk_0 hok hk0
  have hga : g 0 = a9.toInt64 := by rw [hz.2, hac hz.1]
  refine lv_aload_n hx hb dL_law_577 rfl (lv_at hl 5 rfl) ?_
  refine lv_iconst (v := 0) hx hb dL_law_578 (by decide) ?_
  refine q_lald hx hb hK hw dL_law_579 ?_
  rw [hga]
  refine lv_iload hx hb dL_law_580 (lv_at hl 0 rfl) ?_
  refine lv_i2l (v := a9.toInt64) hx hb dL_law_582 rfl ?_
  refine W.lcmp hx hb dL_law_583 ?_
  refine lv_if_eq (tgt := 589) hx hb dL_law_584 (by decide) (fun _ => fin ls hl) (fun z => absurd (lg_rf _) z)
end LWS

section LWS
variable {p : Program} {l : Launch} {e : Env} {s : State} {m : MethodId} {below : List Frame} {meth : Method} {c : Code} {H : Heap} {locs : List Loc} {Q : State → Prop}
variable {ls : Array Slot} {D : va_G} {cy : Nat → ClassId} {cJ : ClassId} {L : List Nat} {ad : Nat → Nat} {u : Mm} {f : Nat → Int64} {b Ls k a1 a2 qo : Nat} {xs : Nat → Int32}
set_option maxHeartbeats 4000000 in
set_option maxRecDepth 100000 in
theorem law_c2 (X : Lx p s m meth c b Ls xs D cy cJ) (hst : l.stackTraces = false) (hk : 5 * k + 5 ≤ Ls) (hL : Ls ≤ 2560) (I : LW k s D cy cJ a1 a2 qo L ad u f H locs) (hl : lv_has ls 7 [(0, .ref b), (1, .ref a1), (2, .ref a2), (3, .ref qo), (4, .int (i3 (5 * k)))])
    (KK : ∀ (L : List Nat) (ad : Nat → Nat) (u : Mm) (f : Nat → Int64) (H : Heap) (locs : List Loc) (ls : Array Slot), LW (k + 1) s D cy cJ a1 a2 qo L ad u f H locs → lv_has ls 7 [(0, .ref b), (1, .ref a1), (2, .ref a2), (3, .ref qo), (4, .int (i3 (5 * k)))] → W p l e room_1 s m #[Value.ref b] below meth c H locs (43 + 2 * (k + 1)) (3226 + 17 * (k + 1)) Q (F0 m 878 ls [])) : W p l e room_1 s m #[Value.ref b] below meth c H locs (43 + 2 * k) (3226 + 17 * k) Q (F0 m 287 ls []) := by
  have hI := I
  obtain ⟨hx, hb, hr, hml, hown, hts, hX, hbl, hlocks, hK, hT, hC, hNc⟩ := X
  obtain ⟨hw, hJ, h40, h0, hv7, hv8, hlt, h41, h43⟩ := I
  have hA : ∀ q : Nat, s.heap.size ≤ q → (fun q : Nat => s.heap.size ≤ q) q := fun _ h => h
  have hbA : ¬ (fun q : Nat => s.heap.size ≤ q) b := Nat.not_le.mpr hbl
  obtain ⟨a, v1, v2, e1, e2, hJ2⟩ := st_hold (N := 5000) (Nat.le_refl _) hJ (by omega) (xs (5 * k + 1))
  refine lv_aload_n hx hb dL_law_287 rfl (lv_at hl 1 rfl) ?_
  refine q_ld hx hb hX hbl hbA hw.2.2.1 hl 0 4 rfl rfl dL_law_288 dL_law_289 dL_law_291 dL_law_292 dL_law_293 (j := 1) rfl (by omega) hL ?_
  refine q_vI (As := [.int (xs (5 * k + 1))]) (rest := []) ⟨hx, hb, hml, hown, hts⟩ (c_X7_hold l D cy _ _ 5000 (xs (5 * k + 1)) u (a, v1) hv7 e1) (cwV 1 hts gL_law_X7_hold rfl rfl rfl (by decide +kernel) ⟨Nat.le_of_ble_eq_true rfl, Nat.le_of_ble_eq_true rfl⟩) hw hA hK h40 hv7 (by decide) rfl rfl hl.1 rfl (Nat.le_of_ble_eq_true rfl) dL_law_294 ⟨show 43 + 2 * k + 0 ≤ 601024 by omega, show 3226 + 17 * k + 0 ≤ 7293034 by omega⟩ (fun H locs hw => ?_)
  refine lv_aload_n hx hb dL_law_297 rfl (lv_at hl 2 rfl) ?_
  refine q_ld hx hb hX hbl hbA hw.2.2.1 hl 0 4 rfl rfl dL_law_298 dL_law_299 dL_law_301 dL_law_302 dL_law_303 (j := 1) rfl (by omega) hL ?_
  refine q_vI (As := [.int (xs (5 * k + 1))]) (rest := [.int a]) ⟨hx, hb, hml, hown, hts⟩ (c_X8_hold l D cy _ _ 5000 (xs (5 * k + 1)) v1 (a, v2) hv8 e2) (cwV 1 hts gL_law_X8_hold rfl rfl rfl (by decide +kernel) ⟨Nat.le_of_ble_eq_true rfl, Nat.le_of_ble_eq_true rfl⟩) hw hA hK h0 hv8 (by decide) rfl rfl hl.1 rfl (Nat.le_of_ble_eq_true rfl) dL_law_304 ⟨show 43 + 2 * k + 0 ≤ 601024 by omega, show 3226 + 17 * k + 0 ≤ 7293034 by omega⟩ (fun H locs hw => ?_)
  refine lv_icmp_eq (tgt := 878) hx hb dL_law_307 (by decide) (fun _ => ?_) (fun z => absurd rfl z)
  refine W.widen (k := 43 + 2 * (k + 1)) (n := 3226 + 17 * (k + 1)) (by omega) (by omega) ?_
  exact KK _ _ _ _ _ _ _ ⟨hw, hJ2, h40, h0, hv7, hv8, fun c hc => by have := hlt c hc; omega, h41, h43⟩ hl
set_option maxHeartbeats 4000000 in
set_option maxRecDepth 100000 in
theorem law_c3 (X : Lx p s m meth c b Ls xs D cy cJ) (hst : l.stackTraces = false) (hk : 5 * k + 5 ≤ Ls) (hL : Ls ≤ 2560) (I : LW k s D cy cJ a1 a2 qo L ad u f H locs) (hl : lv_has ls 7 [(0, .ref b), (1, .ref a1), (2, .ref a2), (3, .ref qo), (4, .int (i3 (5 * k)))])
    (KK : ∀ (L : List Nat) (ad : Nat → Nat) (u : Mm) (f : Nat → Int64) (H : Heap) (locs : List Loc) (ls : Array Slot), LW (k + 1) s D cy cJ a1 a2 qo L ad u f H locs → lv_has ls 7 [(0, .ref b), (1, .ref a1), (2, .ref a2), (3, .ref qo), (4, .int (i3 (5 * k)))] → W p l e room_1 s m #[Value.ref b] below meth c H locs (43 + 2 * (k + 1)) (3226 + 17 * (k + 1)) Q (F0 m 878 ls [])) : W p l e room_1 s m #[Value.ref b] below meth c H locs (43 + 2 * k) (3226 + 17 * k) Q (F0 m 312 ls []) := by
  have hI := I
  obtain ⟨hx, hb, hr, hml, hown, hts, hX, hbl, hlocks, hK, hT, hC, hNc⟩ := X
  obtain ⟨hw, hJ, h40, h0, hv7, hv8, hlt, h41, h43⟩ := I
  have hA : ∀ q : Nat, s.heap.size ≤ q → (fun q : Nat => s.heap.size ≤ q) q := fun _ h => h
  have hbA : ¬ (fun q : Nat => s.heap.size ≤ q) b := Nat.not_le.mpr hbl
  obtain ⟨a, v1, v2, e1, e2, hJ2⟩ := st_loose (N := 5000) (Nat.le_refl _) hJ (by omega) (xs (5 * k + 1))
  refine lv_aload_n hx hb dL_law_312 rfl (lv_at hl 1 rfl) ?_
  refine q_ld hx hb hX hbl hbA hw.2.2.1 hl 0 4 rfl rfl dL_law_313 dL_law_314 dL_law_316 dL_law_317 dL_law_318 (j := 1) rfl (by omega) hL ?_
  refine q_vI (As := [.int (xs (5 * k + 1))]) (rest := []) ⟨hx, hb, hml, hown, hts⟩ (c_X7_loose l D cy _ _ 5000 (xs (5 * k + 1)) u (a, v1) hv7 e1) (cwV 1 hts gL_law_X7_loose rfl rfl rfl (by decide +kernel) ⟨Nat.le_of_ble_eq_true rfl, Nat.le_of_ble_eq_true rfl⟩) hw hA hK h40 hv7 (by decide) rfl rfl hl.1 rfl (Nat.le_of_ble_eq_true rfl) dL_law_319 ⟨show 43 + 2 * k + 0 ≤ 601024 by omega, show 3226 + 17 * k + 0 ≤ 7293034 by omega⟩ (fun H locs hw => ?_)
  refine lv_aload_n hx hb dL_law_322 rfl (lv_at hl 2 rfl) ?_
  refine q_ld hx hb hX hbl hbA hw.2.2.1 hl 0 4 rfl rfl dL_law_323 dL_law_324 dL_law_326 dL_law_327 dL_law_328 (j := 1) rfl (by omega) hL ?_
  refine q_vI (As := [.int (xs (5 * k + 1))]) (rest := [.int a]) ⟨hx, hb, hml, hown, hts⟩ (c_X8_loose l D cy _ _ 5000 (xs (5 * k + 1)) v1 (a, v2) hv8 e2) (cwV 1 hts gL_law_X8_loose rfl rfl rfl (by decide +kernel) ⟨Nat.le_of_ble_eq_true rfl, Nat.le_of_ble_eq_true rfl⟩) hw hA hK h0 hv8 (by decide) rfl rfl hl.1 rfl (Nat.le_of_ble_eq_true rfl) dL_law_329 ⟨show 43 + 2 * k + 0 ≤ 601024 by omega, show 3226 + 17 * k + 0 ≤ 7293034 by omega⟩ (fun H locs hw => ?_)
  refine lv_icmp_eq (tgt := 878) hx hb dL_law_332 (by decide) (fun _ => ?_) (fun z => absurd rfl z)
  refine W.widen (k := 43 + 2 * (k + 1)) (n := 3226 + 17 * (k + 1)) (by omega) (by omega) ?_
  exact KK _ _ _ _ _ _ _ ⟨hw, hJ2, h40, h0, hv7, hv8, fun c hc => by have := hlt c hc; omega, h41, h43⟩ hl
set_option maxHeartbeats 4000000 in
set_option maxRecDepth 100000 in
theorem law_c6 (X : Lx p s m meth c b Ls xs D cy cJ) (hst : l.stackTraces = false) (hk : 5 * k + 5 ≤ Ls) (hL : Ls ≤ 2560) (I : LW k s D cy cJ a1 a2 qo L ad u f H locs) (hl : lv_has ls 7 [(0, .ref b), (1, .ref a1), (2, .ref a2), (3, .ref qo), (4, .int (i3 (5 * k)))])
    (KK : ∀ (L : List Nat) (ad : Nat → Nat) (u : Mm) (f : Nat → Int64) (H : Heap) (locs : List Loc) (ls : Array Slot), LW (k + 1) s D cy cJ a1 a2 qo L ad u f H locs → lv_has ls 7 [(0, .ref b), (1, .ref a1), (2, .ref a2), (3, .ref qo), (4, .int (i3 (5 * k)))] → W p l e room_1 s m #[Value.ref b] below meth c H locs (43 + 2 * (k + 1)) (3226 + 17 * (k + 1)) Q (F0 m 878 ls [])) : W p l e room_1 s m #[Value.ref b] below meth c H locs (43 + 2 * k) (3226 + 17 * k) Q (F0 m 485 ls []) := by
  have hI := I
  obtain ⟨hx, hb, hr, hml, hown, hts, hX, hbl, hlocks, hK, hT, hC, hNc⟩ := X
  obtain ⟨hw, hJ, h40, h0, hv7, hv8, hlt, h41, h43⟩ := I
  have hA : ∀ q : Nat, s.heap.size ≤ q → (fun q : Nat => s.heap.size ≤ q) q := fun _ h => h
  have hbA : ¬ (fun q : Nat => s.heap.size ≤ q) b := Nat.not_le.mpr hbl
  obtain ⟨a, v1, v2, e1, e2, hJ2⟩ := st_wish (N := 5000) (Nat.le_refl _) hJ (by omega)
  refine lv_aload_n hx hb dL_law_485 rfl (lv_at hl 1 rfl) ?_
  refine q_vI (As := []) (rest := []) ⟨hx, hb, hml, hown, hts⟩ (c_X7_wish l D cy _ _ 5000  u (a, v1) hv7 e1) (cwV 0 hts gL_law_X7_wish rfl rfl rfl (by decide +kernel) ⟨Nat.le_of_ble_eq_true rfl, Nat.le_of_ble_eq_true rfl⟩) hw hA hK h40 hv7 (by decide) rfl rfl hl.1 rfl (Nat.le_of_ble_eq_true rfl) dL_law_486 ⟨show 43 + 2 * k + 0 ≤ 601024 by omega, show 3226 + 17 * k + 0 ≤ 7293034 by omega⟩ (fun H locs hw => ?_)
  refine lv_aload_n hx hb dL_law_489 rfl (lv_at hl 2 rfl) ?_
  refine q_vI (As := []) (rest := [.int a]) ⟨hx, hb, hml, hown, hts⟩ (c_X8_wish l D cy _ _ 5000  v1 (a, v2) hv8 e2) (cwV 0 hts gL_law_X8_wish rfl rfl rfl (by decide +kernel) ⟨Nat.le_of_ble_eq_true rfl, Nat.le_of_ble_eq_true rfl⟩) hw hA hK h0 hv8 (by decide) rfl rfl hl.1 rfl (Nat.le_of_ble_eq_true rfl) dL_law_490 ⟨show 43 + 2 * k + 0 ≤ 601024 by omega, show 3226 + 17 * k + 0 ≤ 7293034 by omega⟩ (fun H locs hw => ?_)
  refine lv_icmp_eq (tgt := 878) hx hb dL_law_493 (by decide) (fun _ => ?_) (fun z => absurd rfl z)
  refine W.widen (k := 43 + 2 * (k + 1)) (n := 3226 + 17 * (k + 1)) (by omega) (by omega) ?_
  exact KK _ _ _ _ _ _ _ ⟨hw, hJ2, h40, h0, hv7, hv8, fun c hc => by have := hlt c hc; omega, h41, h43⟩ hl
set_option maxHeartbeats 4000000 in
set_option maxRecDepth 100000 in
theorem law_c7 (X : Lx p s m meth c b Ls xs D cy cJ) (hst : l.stackTraces = false) (hk : 5 * k + 5 ≤ Ls) (hL : Ls ≤ 2560) (I : LW k s D cy cJ a1 a2 qo L ad u f H locs) (hl : lv_has ls 7 [(0, .ref b), (1, .ref a1), (2, .ref a2), (3, .ref qo), (4, .int (i3 (5 * k)))])
    (KK : ∀ (L : List Nat) (ad : Nat → Nat) (u : Mm) (f : Nat → Int64) (H : Heap) (locs : List Loc) (ls : Array Slot), LW (k + 1) s D cy cJ a1 a2 qo L ad u f H locs → lv_has ls 7 [(0, .ref b), (1, .ref a1), (2, .ref a2), (3, .ref qo), (4, .int (i3 (5 * k)))] → W p l e room_1 s m #[Value.ref b] below meth c H locs (43 + 2 * (k + 1)) (3226 + 17 * (k + 1)) Q (F0 m 878 ls [])) : W p l e room_1 s m #[Value.ref b] below meth c H locs (43 + 2 * k) (3226 + 17 * k) Q (F0 m 498 ls []) := by
  have hI := I
  obtain ⟨hx, hb, hr, hml, hown, hts, hX, hbl, hlocks, hK, hT, hC, hNc⟩ := X
  obtain ⟨hw, hJ, h40, h0, hv7, hv8, hlt, h41, h43⟩ := I
  have hA : ∀ q : Nat, s.heap.size ≤ q → (fun q : Nat => s.heap.size ≤ q) q := fun _ h => h
  have hbA : ¬ (fun q : Nat => s.heap.size ≤ q) b := Nat.not_le.mpr hbl
  obtain ⟨a, v1, v2, e1, e2, hJ2⟩ := st_collect (N := 5000) (Nat.le_refl _) hJ (by omega)
  refine lv_aload_n hx hb dL_law_498 rfl (lv_at hl 1 rfl) ?_
  refine q_vI (As := []) (rest := []) ⟨hx, hb, hml, hown, hts⟩ (c_X7_collect l D cy _ _ 5000  u (a, v1) hv7 e1) (cwV 0 hts gL_law_X7_collect rfl rfl rfl (by decide +kernel) ⟨Nat.le_of_ble_eq_true rfl, Nat.le_of_ble_eq_true rfl⟩) hw hA hK h40 hv7 (by decide) rfl rfl hl.1 rfl (Nat.le_of_ble_eq_true rfl) dL_law_499 ⟨show 43 + 2 * k + 0 ≤ 601024 by omega, show 3226 + 17 * k + 0 ≤ 7293034 by omega⟩ (fun H locs hw => ?_)
  refine lv_aload_n hx hb dL_law_502 rfl (lv_at hl 2 rfl) ?_
  refine q_vI (As := []) (rest := [.int a]) ⟨hx, hb, hml, hown, hts⟩ (c_X8_collect l D cy _ _ 5000  v1 (a, v2) hv8 e2) (cwV 0 hts gL_law_X8_collect rfl rfl rfl (by decide +kernel) ⟨Nat.le_of_ble_eq_true rfl, Nat.le_of_ble_eq_true rfl⟩) hw hA hK h0 hv8 (by decide) rfl rfl hl.1 rfl (Nat.le_of_ble_eq_true rfl) dL_law_503 ⟨show 43 + 2 * k + 0 ≤ 601024 by omega, show 3226 + 17 * k + 0 ≤ 7293034 by omega⟩ (fun H locs hw => ?_)
  refine lv_icmp_eq (tgt := 878) hx hb dL_law_506 (by decide) (fun _ => ?_) (fun z => absurd rfl z)
  refine W.widen (k := 43 + 2 * (k + 1)) (n := 3226 + 17 * (k + 1)) (by omega) (by omega) ?_
  exact KK _ _ _ _ _ _ _ ⟨hw, hJ2, h40, h0, hv7, hv8, fun c hc => by have := hlt c hc; omega, h41, h43⟩ hl
set_option maxHeartbeats 4000000 in
set_option maxRecDepth 100000 in
theorem law_c8 (X : Lx p s m meth c b Ls xs D cy cJ) (hst : l.stackTraces = false) (hk : 5 * k + 5 ≤ Ls) (hL : Ls ≤ 2560) (I : LW k s D cy cJ a1 a2 qo L ad u f H locs) (hl : lv_has ls 7 [(0, .ref b), (1, .ref a1), (2, .ref a2), (3, .ref qo), (4, .int (i3 (5 * k)))])
    (KK : ∀ (L : List Nat) (ad : Nat → Nat) (u : Mm) (f : Nat → Int64) (H : Heap) (locs : List Loc) (ls : Array Slot), LW (k + 1) s D cy cJ a1 a2 qo L ad u f H locs → lv_has ls 7 [(0, .ref b), (1, .ref a1), (2, .ref a2), (3, .ref qo), (4, .int (i3 (5 * k)))] → W p l e room_1 s m #[Value.ref b] below meth c H locs (43 + 2 * (k + 1)) (3226 + 17 * (k + 1)) Q (F0 m 878 ls [])) : W p l e room_1 s m #[Value.ref b] below meth c H locs (43 + 2 * k) (3226 + 17 * k) Q (F0 m 511 ls []) := by
  have hI := I
  obtain ⟨hx, hb, hr, hml, hown, hts, hX, hbl, hlocks, hK, hT, hC, hNc⟩ := X
  obtain ⟨hw, hJ, h40, h0, hv7, hv8, hlt, h41, h43⟩ := I
  have hA : ∀ q : Nat, s.heap.size ≤ q → (fun q : Nat => s.heap.size ≤ q) q := fun _ h => h
  have hbA : ¬ (fun q : Nat => s.heap.size ≤ q) b := Nat.not_le.mpr hbl
  obtain ⟨a, v1, v2, e1, e2, hJ2⟩ := st_pack (N := 5000) (Nat.le_refl _) hJ (by omega)
  refine lv_aload_n hx hb dL_law_511 rfl (lv_at hl 1 rfl) ?_
  refine q_vI (As := []) (rest := []) ⟨hx, hb, hml, hown, hts⟩ (c_X7_pack l D cy _ _ 5000  u (a, v1) hv7 e1) (cwV 0 hts gL_law_X7_pack rfl rfl rfl (by decide +kernel) ⟨Nat.le_of_ble_eq_true rfl, Nat.le_of_ble_eq_true rfl⟩) hw hA hK h40 hv7 (by decide) rfl rfl hl.1 rfl (Nat.le_of_ble_eq_true rfl) dL_law_512 ⟨show 43 + 2 * k + 0 ≤ 601024 by omega, show 3226 + 17 * k + 0 ≤ 7293034 by omega⟩ (fun H locs hw => ?_)
  refine lv_aload_n hx hb dL_law_515 rfl (lv_at hl 2 rfl) ?_
  refine q_vI (As := []) (rest := [.int a]) ⟨hx, hb, hml, hown, hts⟩ (c_X8_pack l D cy _ _ 5000  v1 (a, v2) hv8 e2) (cwV 0 hts gL_law_X8_pack rfl rfl rfl (by decide +kernel) ⟨Nat.le_of_ble_eq_true rfl, Nat.le_of_ble_eq_true rfl⟩) hw hA hK h0 hv8 (by decide) rfl rfl hl.1 rfl (Nat.le_of_ble_eq_true rfl) dL_law_516 ⟨show 43 + 2 * k + 0 ≤ 601024 by omega, show 3226 + 17 * k + 0 ≤ 7293034 by omega⟩ (fun H locs hw => ?_)
  refine lv_icmp_eq (tgt := 878) hx hb dL_law_519 (by decide) (fun _ => ?_) (fun z => absurd rfl z)
  refine W.widen (k := 43 + 2 * (k + 1)) (n := 3226 + 17 * (k + 1)) (by omega) (by omega) ?_
  exact KK _ _ _ _ _ _ _ ⟨hw, hJ2, h40, h0, hv7, hv8, fun c hc => by have := hlt c hc; omega, h41, h43⟩ hl
set_option maxHeartbeats 4000000 in
set_option maxRecDepth 100000 in
theorem law_c13 (X : Lx p s m meth c b Ls xs D cy cJ) (hst : l.stackTraces = false) (hk : 5 * k + 5 ≤ Ls) (hL : Ls ≤ 2560) (I : LW k s D cy cJ a1 a2 qo L ad u f H locs) (hl : lv_has ls 7 [(0, .ref b), (1, .ref a1), (2, .ref a2), (3, .ref qo), (4, .int (i3 (5 * k)))])
    (KK : ∀ (L : List Nat) (ad : Nat → Nat) (u : Mm) (f : Nat → Int64) (H : Heap) (locs : List Loc) (ls : Array Slot), LW (k + 1) s D cy cJ a1 a2 qo L ad u f H locs → lv_has ls 7 [(0, .ref b), (1, .ref a1), (2, .ref a2), (3, .ref qo), (4, .int (i3 (5 * k)))] → W p l e room_1 s m #[Value.ref b] below meth c H locs (43 + 2 * (k + 1)) (3226 + 17 * (k + 1)) Q (F0 m 878 ls [])) : W p l e room_1 s m #[Value.ref b] below meth c H locs (43 + 2 * k) (3226 + 17 * k) Q (F0 m 772 ls []) := by
  have hI := I
  obtain ⟨hx, hb, hr, hml, hown, hts, hX, hbl, hlocks, hK, hT, hC, hNc⟩ := X
  obtain ⟨hw, hJ, h40, h0, hv7, hv8, hlt, h41, h43⟩ := I
  have hA : ∀ q : Nat, s.heap.size ≤ q → (fun q : Nat => s.heap.size ≤ q) q := fun _ h => h
  have hbA : ¬ (fun q : Nat => s.heap.size ≤ q) b := Nat.not_le.mpr hbl
  obtain ⟨a, v1, v2, e1, e2, hJ2⟩ := st_listed (N := 5000) (Nat.le_refl _) hJ (by omega) (xs (5 * k + 1))
  refine lv_aload_n hx hb dL_law_772 rfl (lv_at hl 1 rfl) ?_
  refine q_ld hx hb hX hbl hbA hw.2.2.1 hl 0 4 rfl rfl dL_law_773 dL_law_774 dL_law_776 dL_law_777 dL_law_778 (j := 1) rfl (by omega) hL ?_
  refine q_vI (As := [.int (xs (5 * k + 1))]) (rest := []) ⟨hx, hb, hml, hown, hts⟩ (c_X7_listed l D cy _ _ 5000 (xs (5 * k + 1)) u (a, v1) hv7 e1) (cwV 1 hts gL_law_X7_listed rfl rfl rfl (by decide +kernel) ⟨Nat.le_of_ble_eq_true rfl, Nat.le_of_ble_eq_true rfl⟩) hw hA hK h40 hv7 (by decide) rfl rfl hl.1 rfl (Nat.le_of_ble_eq_true rfl) dL_law_779 ⟨show 43 + 2 * k + 0 ≤ 601024 by omega, show 3226 + 17 * k + 0 ≤ 7293034 by omega⟩ (fun H locs hw => ?_)
  refine lv_aload_n hx hb dL_law_782 rfl (lv_at hl 2 rfl) ?_
  refine q_ld hx hb hX hbl hbA hw.2.2.1 hl 0 4 rfl rfl dL_law_783 dL_law_784 dL_law_786 dL_law_787 dL_law_788 (j := 1) rfl (by omega) hL ?_
  refine q_vI (As := [.int (xs (5 * k + 1))]) (rest := [.int a]) ⟨hx, hb, hml, hown, hts⟩ (c_X8_listed l D cy _ _ 5000 (xs (5 * k + 1)) v1 (a, v2) hv8 e2) (cwV 1 hts gL_law_X8_listed rfl rfl rfl (by decide +kernel) ⟨Nat.le_of_ble_eq_true rfl, Nat.le_of_ble_eq_true rfl⟩) hw hA hK h0 hv8 (by decide) rfl rfl hl.1 rfl (Nat.le_of_ble_eq_true rfl) dL_law_789 ⟨show 43 + 2 * k + 0 ≤ 601024 by omega, show 3226 + 17 * k + 0 ≤ 7293034 by omega⟩ (fun H locs hw => ?_)
  refine lv_icmp_eq (tgt := 878) hx hb dL_law_792 (by decide) (fun _ => ?_) (fun z => absurd rfl z)
  refine W.widen (k := 43 + 2 * (k + 1)) (n := 3226 + 17 * (k + 1)) (by omega) (by omega) ?_
  exact KK _ _ _ _ _ _ _ ⟨hw, hJ2, h40, h0, hv7, hv8, fun c hc => by have := hlt c hc; omega, h41, h43⟩ hl
set_option maxHeartbeats 4000000 in
set_option maxRecDepth 100000 in
theorem law_c14 (X : Lx p s m meth c b Ls xs D cy cJ) (hst : l.stackTraces = false) (hk : 5 * k + 5 ≤ Ls) (hL : Ls ≤ 2560) (I : LW k s D cy cJ a1 a2 qo L ad u f H locs) (hl : lv_has ls 7 [(0, .ref b), (1, .ref a1), (2, .ref a2), (3, .ref qo), (4, .int (i3 (5 * k)))])
    (KK : ∀ (L : List Nat) (ad : Nat → Nat) (u : Mm) (f : Nat → Int64) (H : Heap) (locs : List Loc) (ls : Array Slot), LW (k + 1) s D cy cJ a1 a2 qo L ad u f H locs → lv_has ls 7 [(0, .ref b), (1, .ref a1), (2, .ref a2), (3, .ref qo), (4, .int (i3 (5 * k)))] → W p l e room_1 s m #[Value.ref b] below meth c H locs (43 + 2 * (k + 1)) (3226 + 17 * (k + 1)) Q (F0 m 878 ls [])) : W p l e room_1 s m #[Value.ref b] below meth c H locs (43 + 2 * k) (3226 + 17 * k) Q (F0 m 797 ls []) := by
  have hI := I
  obtain ⟨hx, hb, hr, hml, hown, hts, hX, hbl, hlocks, hK, hT, hC, hNc⟩ := X
  obtain ⟨hw, hJ, h40, h0, hv7, hv8, hlt, h41, h43⟩ := I
  have hA : ∀ q : Nat, s.heap.size ≤ q → (fun q : Nat => s.heap.size ≤ q) q := fun _ h => h
  have hbA : ¬ (fun q : Nat => s.heap.size ≤ q) b := Nat.not_le.mpr hbl
  obtain ⟨a, v1, v2, e1, e2, hJ2⟩ := st_freed (N := 5000) (Nat.le_refl _) hJ (by omega) (xs (5 * k + 1))
  refine lv_aload_n hx hb dL_law_797 rfl (lv_at hl 1 rfl) ?_
  refine q_ld hx hb hX hbl hbA hw.2.2.1 hl 0 4 rfl rfl dL_law_798 dL_law_799 dL_law_801 dL_law_802 dL_law_803 (j := 1) rfl (by omega) hL ?_
  refine q_vI (As := [.int (xs (5 * k + 1))]) (rest := []) ⟨hx, hb, hml, hown, hts⟩ (c_X7_freed l D cy _ _ 5000 (xs (5 * k + 1)) u (a, v1) hv7 e1) (cwV 1 hts gL_law_X7_freed rfl rfl rfl (by decide +kernel) ⟨Nat.le_of_ble_eq_true rfl, Nat.le_of_ble_eq_true rfl⟩) hw hA hK h40 hv7 (by decide) rfl rfl hl.1 rfl (Nat.le_of_ble_eq_true rfl) dL_law_804 ⟨show 43 + 2 * k + 0 ≤ 601024 by omega, show 3226 + 17 * k + 0 ≤ 7293034 by omega⟩ (fun H locs hw => ?_)
  refine lv_aload_n hx hb dL_law_807 rfl (lv_at hl 2 rfl) ?_
  refine q_ld hx hb hX hbl hbA hw.2.2.1 hl 0 4 rfl rfl dL_law_808 dL_law_809 dL_law_811 dL_law_812 dL_law_813 (j := 1) rfl (by omega) hL ?_
  refine q_vI (As := [.int (xs (5 * k + 1))]) (rest := [.int a]) ⟨hx, hb, hml, hown, hts⟩ (c_X8_freed l D cy _ _ 5000 (xs (5 * k + 1)) v1 (a, v2) hv8 e2) (cwV 1 hts gL_law_X8_freed rfl rfl rfl (by decide +kernel) ⟨Nat.le_of_ble_eq_true rfl, Nat.le_of_ble_eq_true rfl⟩) hw hA hK h0 hv8 (by decide) rfl rfl hl.1 rfl (Nat.le_of_ble_eq_true rfl) dL_law_814 ⟨show 43 + 2 * k + 0 ≤ 601024 by omega, show 3226 + 17 * k + 0 ≤ 7293034 by omega⟩ (fun H locs hw => ?_)
  refine lv_icmp_eq (tgt := 878) hx hb dL_law_817 (by decide) (fun _ => ?_) (fun z => absurd rfl z)
  refine W.widen (k := 43 + 2 * (k + 1)) (n := 3226 + 17 * (k + 1)) (by omega) (by omega) ?_
  exact KK _ _ _ _ _ _ _ ⟨hw, hJ2, h40, h0, hv7, hv8, fun c hc => by have := hlt c hc; omega, h41, h43⟩ hl
end LWS

section LWS
variable {p : Program} {l : Launch} {e : Env} {s : State} {m : MethodId} {below : List Frame} {meth : Method} {c : Code} {H : Heap} {locs : List Loc} {Q : State → Prop}
variable {ls : Array Slot} {D : va_G} {cy : Nat → ClassId} {cJ : ClassId} {L : List Nat} {ad : Nat → Nat} {u : Mm} {f : Nat → Int64} {b Ls k a1 a2 qo : Nat} {xs : Nat → Int32}
set_option maxHeartbeats 4000000 in
set_option maxRecDepth 100000 in
theorem law_c10 (X : Lx p s m meth c b Ls xs D cy cJ) (hst : l.stackTraces = false) (hk : 5 * k + 5 ≤ Ls) (hL : Ls ≤ 2560) (I : LW k s D cy cJ a1 a2 qo L ad u f H locs) (hl : lv_has ls 7 [(0, .ref b), (1, .ref a1), (2, .ref a2), (3, .ref qo), (4, .int (i3 (5 * k)))])
    (KK : ∀ (L : List Nat) (ad : Nat → Nat) (u : Mm) (f : Nat → Int64) (H : Heap) (locs : List Loc) (ls : Array Slot), LW (k + 1) s D cy cJ a1 a2 qo L ad u f H locs → lv_has ls 7 [(0, .ref b), (1, .ref a1), (2, .ref a2), (3, .ref qo), (4, .int (i3 (5 * k)))] → W p l e room_1 s m #[Value.ref b] below meth c H locs (43 + 2 * (k + 1)) (3226 + 17 * (k + 1)) Q (F0 m 878 ls [])) : W p l e room_1 s m #[Value.ref b] below meth c H locs (43 + 2 * k) (3226 + 17 * k) Q (F0 m 592 ls []) := by
  have hI := I
  obtain ⟨hx, hb, hr, hml, hown, hts, hX, hbl, hlocks, hK, hT, hC, hNc⟩ := X
  obtain ⟨hw, hJ, h40, h0, hv7, hv8, hlt, h41, h43⟩ := I
  have hA : ∀ q : Nat, s.heap.size ≤ q → (fun q : Nat => s.heap.size ≤ q) q := fun _ h => h
  have hbA : ¬ (fun q : Nat => s.heap.size ≤ q) b := Nat.not_le.mpr hbl
  obtain ⟨kx, a, bb, v1, a9, v2, e1, e2, h00, hac, hkx, hJ2⟩ := st_seen (N := 5000) (Nat.le_refl _) hJ (by omega) (xs (5 * k + 1))
  refine lv_aload_n hx hb dL_law_592 rfl (lv_at hl 1 rfl) ?_
  refine q_ld hx hb hX hbl hbA hw.2.2.1 hl 0 4 rfl rfl dL_law_593 dL_law_594 dL_law_596 dL_law_597 dL_law_598 (j := 1) rfl (by omega) hL ?_
  refine lv_aload_n hx hb dL_law_599 rfl (lv_at hl 3 rfl) ?_
  have hM := c_L_seen l hst D cy cJ L [] ad 5000 (xs (5 * k + 1)) qo f u (kx, a, bb, v1) hv7 (n2_seen _ e1) e1
  rw [h40] at hM
  refine q_sJ (As := [.ref a1, .int (xs (5 * k + 1)), .ref qo]) (rest := []) ⟨hx, hb, hml, hown, hts⟩ hM (vx_cwSW 3 hts gL_law_L_seen rfl rfl rfl (by decide +kernel) ⟨Nat.le_of_ble_eq_true rfl, Nat.le_of_ble_eq_true rfl⟩) hw hA hK hT hC hNc rfl hl.1 rfl (Nat.le_of_ble_eq_true rfl) dL_law_600 ⟨show 43 + 2 * k + 1 ≤ 601024 by omega, show 3226 + 17 * k + 6 ≤ 7293034 by omega⟩ (fun kk g ad2 H locs hok hag hw => ?_)
  replace hw : Wj D cy cJ (LoX L [] bb) ad2 (fun q : Nat => s.heap.size ≤ q) s.heap v1 qo g H locs := hw
  have hkk := oOk_k hok
  have hv7 := lo_vn (nw := []) (b := bb) hv7
  have h40 : ad2 40 = a1 := (hag 40 hI.2.2.2.2.1.1).trans h40
  have h0 : ad2 0 = a2 := (hag 0 hv8.1).trans h0
  have hv8 := lo_vn (nw := []) (b := bb) hv8
  have hlt : ∀ c ∈ LoX L [] bb, c < 72 + 4 * (k + 1) := fun c hc => by
    rcases lo_in hc with h | h
    · have := hlt c h; omega
    · cases h
  have h41 := lo_of (nw := []) (b := bb) h41
  have h43 := lo_of (nw := []) (b := bb) h43
  refine lv_istore (lv' := [(5, .int kk), (0, .ref b), (1, .ref a1), (2, .ref a2), (3, .ref qo), (4, .int (i3 (5 * k)))]) hx hb dL_law_603 hl (by decide) rfl (fun ls hl => ?_)
  refine lv_aload_n hx hb dL_law_605 rfl (lv_at hl 3 rfl) ?_
  refine q_ld hx hb hX hbl hbA hw.2.2.1 hl 1 5 rfl rfl dL_law_606 dL_law_607 dL_law_609 dL_law_610 dL_law_611 (j := 1) rfl (by omega) hL ?_
  refine q_vI (As := [.int (xs (5 * k + 1))]) (rest := []) ⟨hx, hb, hml, hown, hts⟩ (c_X8_seen l D cy _ _ 5000 (xs (5 * k + 1)) v1 (a9, v2) hv8 e2) (cwV 1 hts gL_law_X8_seen rfl rfl rfl (by decide +kernel) ⟨Nat.le_of_ble_eq_true rfl, Nat.le_of_ble_eq_true rfl⟩) hw hA hK h0 hv8 (by decide) rfl rfl hl.1 rfl (Nat.le_of_ble_eq_true rfl) dL_law_612 ⟨show 43 + 2 * k + 1 + 0 ≤ 601024 by omega, show 3226 + 17 * k + 6 + 0 ≤ 7293034 by omega⟩ (fun H locs hw => ?_)
  refine lv_istore (lv' := [(6, .int a9), (5, .int kk), (0, .ref b), (1, .ref a1), (2, .ref a2), (3, .ref qo), (4, .int (i3 (5 * k)))]) hx hb dL_law_615 hl (by decide) rfl (fun ls hl => ?_)
  refine lv_aload_n hx hb dL_law_617 rfl (lv_at hl 4 rfl) ?_
  refine q_vI (As := []) (rest := []) ⟨hx, hb, hml, hown, hts⟩ (c_X8_thrown l D cy _ _ 5000  v2 (v2.1 0 0, v2) hv8 rfl) (cwV 0 hts gL_law_X8_thrown rfl rfl rfl (by decide +kernel) ⟨Nat.le_of_ble_eq_true rfl, Nat.le_of_ble_eq_true rfl⟩) hw hA hK h0 hv8 (by decide) rfl rfl hl.1 rfl (Nat.le_of_ble_eq_true rfl) dL_law_618 ⟨show 43 + 2 * k + 1 + 0 ≤ 601024 by omega, show 3226 + 17 * k + 6 + 0 ≤ 7293034 by omega⟩ (fun H locs hw => ?_)
  refine lv_iload hx hb dL_law_621 (lv_at hl 1 rfl) ?_
  refine lv_icmp_eq (tgt := 628) hx hb dL_law_623 (by decide) (fun _ => ?_) (fun z => absurd (h00.trans hkk.symm) z)
  refine lv_iload hx hb dL_law_628 (lv_at hl 1 rfl) ?_
  have fin : ∀ ls, lv_has ls 7 [(6, .int a9), (5, .int kk), (0, .ref b), (1, .ref a1), (2, .ref a2), (3, .ref qo), (4, .int (i3 (5 * k)))] → W p l e room_1 s m #[Value.ref b] below meth c H locs (43 + 2 * k + 1) (3226 + 17 * k + 6) Q (F0 m 645 ls []) := fun ls hl => by
    refine lv_goto (tgt := 878) hx hb dL_law_645 (by decide) ?_
    refine W.widen (k := 43 + 2 * (k + 1)) (n := 3226 + 17 * (k + 1)) (by omega) (by omega) ?_
    exact KK _ _ _ _ _ _ _ ⟨hw, hJ2, h40, h0, hv7, hv8, hlt, h41, h43⟩ (lv_sub hl [2, 3, 4, 5, 6] rfl)
  refine lv_if_ne (tgt := 645) hx hb dL_law_630 (by decide) (fun _ => fin ls hl) (fun hk0 => ?_)
  have hz := oOk_0 hok hk0
  have hga : g 0 = a9.toInt64 := by rw [hz.2, hac hz.1]
  refine lv_aload_n hx hb dL_law_633 rfl (lv_at hl 5 rfl) ?_
  refine lv_iconst (v := 0) hx hb dL_law_634 (by decide) ?_
  refine q_lald hx hb hK hw dL_law_635 ?_
  rw [hga]
  refine lv_iload hx hb dL_law_636 (lv_at hl 0 rfl) ?_
  refine lv_i2l (v := a9.toInt64) hx hb dL_law_638 rfl ?_
  refine W.lcmp hx hb dL_law_639 ?_
  refine lv_if_eq (tgt := 645) hx hb dL_law_640 (by decide) (fun _ => fin ls hl) (fun z => absurd (lg_rf _) z)
set_option maxHeartbeats 4000000 in
set_option maxRecDepth 100000 in
theorem law_c11 (X : Lx p s m meth c b Ls xs D cy cJ) (hst : l.stackTraces = false) (hk : 5 * k + 5 ≤ Ls) (hL : Ls ≤ 2560) (I : LW k s D cy cJ a1 a2 qo L ad u f H locs) (hl : lv_has ls 7 [(0, .ref b), (1, .ref a1), (2, .ref a2), (3, .ref qo), (4, .int (i3 (5 * k)))])
    (KK : ∀ (L : List Nat) (ad : Nat → Nat) (u : Mm) (f : Nat → Int64) (H : Heap) (locs : List Loc) (ls : Array Slot), LW (k + 1) s D cy cJ a1 a2 qo L ad u f H locs → lv_has ls 7 [(0, .ref b), (1, .ref a1), (2, .ref a2), (3, .ref qo), (4, .int (i3 (5 * k)))] → W p l e room_1 s m #[Value.ref b] below meth c H locs (43 + 2 * (k + 1)) (3226 + 17 * (k + 1)) Q (F0 m 878 ls [])) : W p l e room_1 s m #[Value.ref b] below meth c H locs (43 + 2 * k) (3226 + 17 * k) Q (F0 m 648 ls []) := by
  have hI := I
  obtain ⟨hx, hb, hr, hml, hown, hts, hX, hbl, hlocks, hK, hT, hC, hNc⟩ := X
  obtain ⟨hw, hJ, h40, h0, hv7, hv8, hlt, h41, h43⟩ := I
  have hA : ∀ q : Nat, s.heap.size ≤ q → (fun q : Nat => s.heap.size ≤ q) q := fun _ h => h
  have hbA : ¬ (fun q : Nat => s.heap.size ≤ q) b := Nat.not_le.mpr hbl
  obtain ⟨kx, a, bb, v1, a9, v2, e1, e2, h00, hac, hkx, hJ2⟩ := st_object (N := 5000) (Nat.le_refl _) hJ (by omega) (xs (5 * k + 1)) (xs (5 * k + 2))
  refine lv_aload_n hx hb dL_law_648 rfl (lv_at hl 1 rfl) ?_
  refine q_ld hx hb hX hbl hbA hw.2.2.1 hl 0 4 rfl rfl dL_law_649 dL_law_650 dL_law_652 dL_law_653 dL_law_654 (j := 1) rfl (by omega) hL ?_
  refine q_ld hx hb hX hbl hbA hw.2.2.1 hl 0 4 rfl rfl dL_law_655 dL_law_656 dL_law_658 dL_law_659 dL_law_660 (j := 2) rfl (by omega) hL ?_
  refine lv_aload_n hx hb dL_law_661 rfl (lv_at hl 3 rfl) ?_
  have hM := c_L_object l hst D cy cJ L [] ad 5000 (xs (5 * k + 1)) (xs (5 * k + 2)) qo f u (kx, a, bb, v1) hv7 (n2_object _ e1) e1
  rw [h40] at hM
  refine q_sJ (As := [.ref a1, .int (xs (5 * k + 1)), .int (xs (5 * k + 2)), .ref qo]) (rest := []) ⟨hx, hb, hml, hown, hts⟩ hM (vx_cwSW 4 hts gL_law_L_object rfl rfl rfl (by decide +kernel) ⟨Nat.le_of_ble_eq_true rfl, Nat.le_of_ble_eq_true rfl⟩) hw hA hK hT hC hNc rfl hl.1 rfl (Nat.le_of_ble_eq_true rfl) dL_law_662 ⟨show 43 + 2 * k + 1 ≤ 601024 by omega, show 3226 + 17 * k + 6 ≤ 7293034 by omega⟩ (fun kk g ad2 H locs hok hag hw => ?_)
  replace hw : Wj D cy cJ (LoX L [] bb) ad2 (fun q : Nat => s.heap.size ≤ q) s.heap v1 qo g H locs := hw
  have hkk := oOk_k hok
  have hv7 := lo_vn (nw := []) (b := bb) hv7
  have h40 : ad2 40 = a1 := (hag 40 hI.2.2.2.2.1.1).trans h40
  have h0 : ad2 0 = a2 := (hag 0 hv8.1).trans h0
  have hv8 := lo_vn (nw := []) (b := bb) hv8
  have hlt : ∀ c ∈ LoX L [] bb, c < 72 + 4 * (k + 1) := fun c hc => by
    rcases lo_in hc with h | h
    · have := hlt c h; omega
    · cases h
  have h41 := lo_of (nw := []) (b := bb) h41
  have h43 := lo_of (nw := []) (b := bb) h43
  refine lv_istore (lv' := [(5, .int kk), (0, .ref b), (1, .ref a1), (2, .ref a2), (3, .ref qo), (4, .int (i3 (5 * k)))]) hx hb dL_law_665 hl (by decide) rfl (fun ls hl => ?_)
  refine lv_aload_n hx hb dL_law_667 rfl (lv_at hl 3 rfl) ?_
  refine q_ld hx hb hX hbl hbA hw.2.2.1 hl 1 5 rfl rfl dL_law_668 dL_law_669 dL_law_671 dL_law_672 dL_law_673 (j := 1) rfl (by omega) hL ?_
  refine q_ld hx hb hX hbl hbA hw.2.2.1 hl 1 5 rfl rfl dL_law_674 dL_law_675 dL_law_677 dL_law_678 dL_law_679 (j := 2) rfl (by omega) hL ?_
  refine q_vI (As := [.int (xs (5 * k + 1)), .int (xs (5 * k + 2))]) (rest := []) ⟨hx, hb, hml, hown, hts⟩ (c_X8_object l D cy _ _ 5000 (xs (5 * k + 1)) (xs (5 * k + 2)) v1 (a9, v2) hv8 e2) (cwV 2 hts gL_law_X8_object rfl rfl rfl (by decide +kernel) ⟨Nat.le_of_ble_eq_true rfl, Nat.le_of_ble_eq_true rfl⟩) hw hA hK h0 hv8 (by decide) rfl rfl hl.1 rfl (Nat.le_of_ble_eq_true rfl) dL_law_680 ⟨show 43 + 2 * k + 1 + 0 ≤ 601024 by omega, show 3226 + 17 * k + 6 + 0 ≤ 7293034 by omega⟩ (fun H locs hw => ?_)
  refine lv_istore (lv' := [(6, .int a9), (5, .int kk), (0, .ref b), (1, .ref a1), (2, .ref a2), (3, .ref qo), (4, .int (i3 (5 * k)))]) hx hb dL_law_683 hl (by decide) rfl (fun ls hl => ?_)
  refine lv_aload_n hx hb dL_law_685 rfl (lv_at hl 4 rfl) ?_
  refine q_vI (As := []) (rest := []) ⟨hx, hb, hml, hown, hts⟩ (c_X8_thrown l D cy _ _ 5000  v2 (v2.1 0 0, v2) hv8 rfl) (cwV 0 hts gL_law_X8_thrown rfl rfl rfl (by decide +kernel) ⟨Nat.le_of_ble_eq_true rfl, Nat.le_of_ble_eq_true rfl⟩) hw hA hK h0 hv8 (by decide) rfl rfl hl.1 rfl (Nat.le_of_ble_eq_true rfl) dL_law_686 ⟨show 43 + 2 * k + 1 + 0 ≤ 601024 by omega, show 3226 + 17 * k + 6 + 0 ≤ 7293034 by omega⟩ (fun H locs hw => ?_)
  refine lv_iload hx hb dL_law_689 (lv_at hl 1 rfl) ?_
  refine lv_icmp_eq (tgt := 696) hx hb dL_law_691 (by decide) (fun _ => ?_) (fun z => absurd (h00.trans hkk.symm) z)
  refine lv_iload hx hb dL_law_696 (lv_at hl 1 rfl) ?_
  have fin : ∀ ls, lv_has ls 7 [(6, .int a9), (5, .int kk), (0, .ref b), (1, .ref a1), (2, .ref a2), (3, .ref qo), (4, .int (i3 (5 * k)))] → W p l e room_1 s m #[Value.ref b] below meth c H locs (43 + 2 * k + 1) (3226 + 17 * k + 6) Q (F0 m 713 ls []) := fun ls hl => by
    refine lv_goto (tgt := 878) hx hb dL_law_713 (by decide) ?_
    refine W.widen (k := 43 + 2 * (k + 1)) (n := 3226 + 17 * (k + 1)) (by omega) (by omega) ?_
    exact KK _ _ _ _ _ _ _ ⟨hw, hJ2, h40, h0, hv7, hv8, hlt, h41, h43⟩ (lv_sub hl [2, 3, 4, 5, 6] rfl)
  refine lv_if_ne (tgt := 713) hx hb dL_law_698 (by decide) (fun _ => fin ls hl) (fun hk0 => ?_)
  have hz := oOk_0 hok hk0
  have hga : g 0 = a9.toInt64 := by rw [hz.2, hac hz.1]
  refine lv_aload_n hx hb dL_law_701 rfl (lv_at hl 5 rfl) ?_
  refine lv_iconst (v := 0) hx hb dL_law_702 (by decide) ?_
  refine q_lald hx hb hK hw dL_law_703 ?_
  rw [hga]
  refine lv_iload hx hb dL_law_704 (lv_at hl 0 rfl) ?_
  refine lv_i2l (v := a9.toInt64) hx hb dL_law_706 rfl ?_
  refine W.lcmp hx hb dL_law_707 ?_
  refine lv_if_eq (tgt := 713) hx hb dL_law_708 (by decide) (fun _ => fin ls hl) (fun z => absurd (lg_rf _) z)
set_option maxHeartbeats 4000000 in
set_option maxRecDepth 100000 in
theorem law_c12 (X : Lx p s m meth c b Ls xs D cy cJ) (hst : l.stackTraces = false) (hk : 5 * k + 5 ≤ Ls) (hL : Ls ≤ 2560) (I : LW k s D cy cJ a1 a2 qo L ad u f H locs) (hl : lv_has ls 7 [(0, .ref b), (1, .ref a1), (2, .ref a2), (3, .ref qo), (4, .int (i3 (5 * k)))])
    (KK : ∀ (L : List Nat) (ad : Nat → Nat) (u : Mm) (f : Nat → Int64) (H : Heap) (locs : List Loc) (ls : Array Slot), LW (k + 1) s D cy cJ a1 a2 qo L ad u f H locs → lv_has ls 7 [(0, .ref b), (1, .ref a1), (2, .ref a2), (3, .ref qo), (4, .int (i3 (5 * k)))] → W p l e room_1 s m #[Value.ref b] below meth c H locs (43 + 2 * (k + 1)) (3226 + 17 * (k + 1)) Q (F0 m 878 ls [])) : W p l e room_1 s m #[Value.ref b] below meth c H locs (43 + 2 * k) (3226 + 17 * k) Q (F0 m 716 ls []) := by
  have hI := I
  obtain ⟨hx, hb, hr, hml, hown, hts, hX, hbl, hlocks, hK, hT, hC, hNc⟩ := X
  obtain ⟨hw, hJ, h40, h0, hv7, hv8, hlt, h41, h43⟩ := I
  have hA : ∀ q : Nat, s.heap.size ≤ q → (fun q : Nat => s.heap.size ≤ q) q := fun _ h => h
  have hbA : ¬ (fun q : Nat => s.heap.size ≤ q) b := Nat.not_le.mpr hbl
  obtain ⟨kx, a, bb, v1, a9, v2, e1, e2, h00, hac, hkx, hJ2⟩ := st_count (N := 5000) (Nat.le_refl _) hJ (by omega) (xs (5 * k + 1))
  refine lv_aload_n hx hb dL_law_716 rfl (lv_at hl 1 rfl) ?_
  refine q_ld hx hb hX hbl hbA hw.2.2.1 hl 0 4 rfl rfl dL_law_717 dL_law_718 dL_law_720 dL_law_721 dL_law_722 (j := 1) rfl (by omega) hL ?_
  refine lv_aload_n hx hb dL_law_723 rfl (lv_at hl 3 rfl) ?_
  have hM := c_L_count l hst D cy cJ L [] ad 5000 (xs (5 * k + 1)) qo f u (kx, a, bb, v1) hv7 (n2_count _ e1) e1
  rw [h40] at hM
  refine q_sJ (As := [.ref a1, .int (xs (5 * k + 1)), .ref qo]) (rest := []) ⟨hx, hb, hml, hown, hts⟩ hM (vx_cwSW 3 hts gL_law_L_count rfl rfl rfl (by decide +kernel) ⟨Nat.le_of_ble_eq_true rfl, Nat.le_of_ble_eq_true rfl⟩) hw hA hK hT hC hNc rfl hl.1 rfl (Nat.le_of_ble_eq_true rfl) dL_law_724 ⟨show 43 + 2 * k + 1 ≤ 601024 by omega, show 3226 + 17 * k + 6 ≤ 7293034 by omega⟩ (fun kk g ad2 H locs hok hag hw => ?_)
  replace hw : Wj D cy cJ (LoX L [] bb) ad2 (fun q : Nat => s.heap.size ≤ q) s.heap v1 qo g H locs := hw
  have hkk := oOk_k hok
  have hv7 := lo_vn (nw := []) (b := bb) hv7
  have h40 : ad2 40 = a1 := (hag 40 hI.2.2.2.2.1.1).trans h40
  have h0 : ad2 0 = a2 := (hag 0 hv8.1).trans h0
  have hv8 := lo_vn (nw := []) (b := bb) hv8
  have hlt : ∀ c ∈ LoX L [] bb, c < 72 + 4 * (k + 1) := fun c hc => by
    rcases lo_in hc with h | h
    · have := hlt c h; omega
    · cases h
  have h41 := lo_of (nw := []) (b := bb) h41
  have h43 := lo_of (nw := []) (b := bb) h43
  refine lv_istore (lv' := [(5, .int kk), (0, .ref b), (1, .ref a1), (2, .ref a2), (3, .ref qo), (4, .int (i3 (5 * k)))]) hx hb dL_law_727 hl (by decide) rfl (fun ls hl => ?_)
  refine lv_aload_n hx hb dL_law_729 rfl (lv_at hl 3 rfl) ?_
  refine q_ld hx hb hX hbl hbA hw.2.2.1 hl 1 5 rfl rfl dL_law_730 dL_law_731 dL_law_733 dL_law_734 dL_law_735 (j := 1) rfl (by omega) hL ?_
  refine q_vI (As := [.int (xs (5 * k + 1))]) (rest := []) ⟨hx, hb, hml, hown, hts⟩ (c_X8_count l D cy _ _ 5000 (xs (5 * k + 1)) v1 (a9, v2) hv8 e2) (cwV 1 hts gL_law_X8_count rfl rfl rfl (by decide +kernel) ⟨Nat.le_of_ble_eq_true rfl, Nat.le_of_ble_eq_true rfl⟩) hw hA hK h0 hv8 (by decide) rfl rfl hl.1 rfl (Nat.le_of_ble_eq_true rfl) dL_law_736 ⟨show 43 + 2 * k + 1 + 0 ≤ 601024 by omega, show 3226 + 17 * k + 6 + 0 ≤ 7293034 by omega⟩ (fun H locs hw => ?_)
  refine lv_istore (lv' := [(6, .int a9), (5, .int kk), (0, .ref b), (1, .ref a1), (2, .ref a2), (3, .ref qo), (4, .int (i3 (5 * k)))]) hx hb dL_law_739 hl (by decide) rfl (fun ls hl => ?_)
  refine lv_aload_n hx hb dL_law_741 rfl (lv_at hl 4 rfl) ?_
  refine q_vI (As := []) (rest := []) ⟨hx, hb, hml, hown, hts⟩ (c_X8_thrown l D cy _ _ 5000  v2 (v2.1 0 0, v2) hv8 rfl) (cwV 0 hts gL_law_X8_thrown rfl rfl rfl (by decide +kernel) ⟨Nat.le_of_ble_eq_true rfl, Nat.le_of_ble_eq_true rfl⟩) hw hA hK h0 hv8 (by decide) rfl rfl hl.1 rfl (Nat.le_of_ble_eq_true rfl) dL_law_742 ⟨show 43 + 2 * k + 1 + 0 ≤ 601024 by omega, show 3226 + 17 * k + 6 + 0 ≤ 7293034 by omega⟩ (fun H locs hw => ?_)
  refine lv_iload hx hb dL_law_745 (lv_at hl 1 rfl) ?_
  refine lv_icmp_eq (tgt := 752) hx hb dL_law_747 (by decide) (fun _ => ?_) (fun z => absurd (h00.trans hkk.symm) z)
  refine lv_iload hx hb dL_law_752 (lv_at hl 1 rfl) ?_
  have fin : ∀ ls, lv_has ls 7 [(6, .int a9), (5, .int kk), (0, .ref b), (1, .ref a1), (2, .ref a2), (3, .ref qo), (4, .int (i3 (5 * k)))] → W p l e room_1 s m #[Value.ref b] below meth c H locs (43 + 2 * k + 1) (3226 + 17 * k + 6) Q (F0 m 769 ls []) := fun ls hl => by
    refine lv_goto (tgt := 878) hx hb dL_law_769 (by decide) ?_
    refine W.widen (k := 43 + 2 * (k + 1)) (n := 3226 + 17 * (k + 1)) (by omega) (by omega) ?_
    exact KK _ _ _ _ _ _ _ ⟨hw, hJ2, h40, h0, hv7, hv8, hlt, h41, h43⟩ (lv_sub hl [2, 3, 4, 5, 6] rfl)
  refine lv_if_ne (tgt := 769) hx hb dL_law_754 (by decide) (fun _ => fin ls hl) (fun hk0 => ?_)
  have hz := oOk_0 hok hk0
  have hga : g 0 = a9.toInt64 := by rw [hz.2, hac hz.1]
  refine lv_aload_n hx hb dL_law_757 rfl (lv_at hl 5 rfl) ?_
  refine lv_iconst (v := 0) hx hb dL_law_758 (by decide) ?_
  refine q_lald hx hb hK hw dL_law_759 ?_
  rw [hga]
  refine lv_iload hx hb dL_law_760 (lv_at hl 0 rfl) ?_
  refine lv_i2l (v := a9.toInt64) hx hb dL_law_762 rfl ?_
  refine W.lcmp hx hb dL_law_763 ?_
  refine lv_if_eq (tgt := 769) hx hb dL_law_764 (by decide) (fun _ => fin ls hl) (fun z => absurd (lg_rf _) z)
set_option maxHeartbeats 4000000 in
set_option maxRecDepth 100000 in
theorem law_c15 (X : Lx p s m meth c b Ls xs D cy cJ) (hst : l.stackTraces = false) (hk : 5 * k + 5 ≤ Ls) (hL : Ls ≤ 2560) (I : LW k s D cy cJ a1 a2 qo L ad u f H locs) (hl : lv_has ls 7 [(0, .ref b), (1, .ref a1), (2, .ref a2), (3, .ref qo), (4, .int (i3 (5 * k)))])
    (KK : ∀ (L : List Nat) (ad : Nat → Nat) (u : Mm) (f : Nat → Int64) (H : Heap) (locs : List Loc) (ls : Array Slot), LW (k + 1) s D cy cJ a1 a2 qo L ad u f H locs → lv_has ls 7 [(0, .ref b), (1, .ref a1), (2, .ref a2), (3, .ref qo), (4, .int (i3 (5 * k)))] → W p l e room_1 s m #[Value.ref b] below meth c H locs (43 + 2 * (k + 1)) (3226 + 17 * (k + 1)) Q (F0 m 878 ls [])) : W p l e room_1 s m #[Value.ref b] below meth c H locs (43 + 2 * k) (3226 + 17 * k) Q (F0 m 822 ls []) := by
  have hI := I
  obtain ⟨hx, hb, hr, hml, hown, hts, hX, hbl, hlocks, hK, hT, hC, hNc⟩ := X
  obtain ⟨hw, hJ, h40, h0, hv7, hv8, hlt, h41, h43⟩ := I
  have hA : ∀ q : Nat, s.heap.size ≤ q → (fun q : Nat => s.heap.size ≤ q) q := fun _ h => h
  have hbA : ¬ (fun q : Nat => s.heap.size ≤ q) b := Nat.not_le.mpr hbl
  obtain ⟨kx, a, bb, v1, a9, v2, e1, e2, h00, hac, hkx, hJ2⟩ := st_at (N := 5000) (Nat.le_refl _) hJ (by omega) (xs (5 * k + 1))
  refine lv_aload_n hx hb dL_law_822 rfl (lv_at hl 1 rfl) ?_
  refine q_ld hx hb hX hbl hbA hw.2.2.1 hl 0 4 rfl rfl dL_law_823 dL_law_824 dL_law_826 dL_law_827 dL_law_828 (j := 1) rfl (by omega) hL ?_
  refine lv_aload_n hx hb dL_law_829 rfl (lv_at hl 3 rfl) ?_
  have hM := c_L_at l hst D cy cJ L [] ad 5000 (xs (5 * k + 1)) qo f u (kx, a, bb, v1) hv7 (n2_at _ e1) e1
  rw [h40] at hM
  refine q_sJ (As := [.ref a1, .int (xs (5 * k + 1)), .ref qo]) (rest := []) ⟨hx, hb, hml, hown, hts⟩ hM (vx_cwSW 3 hts gL_law_L_at rfl rfl rfl (by decide +kernel) ⟨Nat.le_of_ble_eq_true rfl, Nat.le_of_ble_eq_true rfl⟩) hw hA hK hT hC hNc rfl hl.1 rfl (Nat.le_of_ble_eq_true rfl) dL_law_830 ⟨show 43 + 2 * k + 1 ≤ 601024 by omega, show 3226 + 17 * k + 6 ≤ 7293034 by omega⟩ (fun kk g ad2 H locs hok hag hw => ?_)
  replace hw : Wj D cy cJ (LoX L [] bb) ad2 (fun q : Nat => s.heap.size ≤ q) s.heap v1 qo g H locs := hw
  have hkk := oOk_k hok
  have hv7 := lo_vn (nw := []) (b := bb) hv7
  have h40 : ad2 40 = a1 := (hag 40 hI.2.2.2.2.1.1).trans h40
  have h0 : ad2 0 = a2 := (hag 0 hv8.1).trans h0
  have hv8 := lo_vn (nw := []) (b := bb) hv8
  have hlt : ∀ c ∈ LoX L [] bb, c < 72 + 4 * (k + 1) := fun c hc => by
    rcases lo_in hc with h | h
    · have := hlt c h; omega
    · cases h
  have h41 := lo_of (nw := []) (b := bb) h41
  have h43 := lo_of (nw := []) (b := bb) h43
  refine lv_istore (lv' := [(5, .int kk), (0, .ref b), (1, .ref a1), (2, .ref a2), (3, .ref qo), (4, .int (i3 (5 * k)))]) hx hb dL_law_833 hl (by decide) rfl (fun ls hl => ?_)
  refine lv_aload_n hx hb dL_law_835 rfl (lv_at hl 3 rfl) ?_
  refine q_ld hx hb hX hbl hbA hw.2.2.1 hl 1 5 rfl rfl dL_law_836 dL_law_837 dL_law_839 dL_law_840 dL_law_841 (j := 1) rfl (by omega) hL ?_
  refine q_vI (As := [.int (xs (5 * k + 1))]) (rest := []) ⟨hx, hb, hml, hown, hts⟩ (c_X8_at l D cy _ _ 5000 (xs (5 * k + 1)) v1 (a9, v2) hv8 e2) (cwV 1 hts gL_law_X8_at rfl rfl rfl (by decide +kernel) ⟨Nat.le_of_ble_eq_true rfl, Nat.le_of_ble_eq_true rfl⟩) hw hA hK h0 hv8 (by decide) rfl rfl hl.1 rfl (Nat.le_of_ble_eq_true rfl) dL_law_842 ⟨show 43 + 2 * k + 1 + 0 ≤ 601024 by omega, show 3226 + 17 * k + 6 + 0 ≤ 7293034 by omega⟩ (fun H locs hw => ?_)
  refine lv_istore (lv' := [(6, .int a9), (5, .int kk), (0, .ref b), (1, .ref a1), (2, .ref a2), (3, .ref qo), (4, .int (i3 (5 * k)))]) hx hb dL_law_845 hl (by decide) rfl (fun ls hl => ?_)
  refine lv_aload_n hx hb dL_law_847 rfl (lv_at hl 4 rfl) ?_
  refine q_vI (As := []) (rest := []) ⟨hx, hb, hml, hown, hts⟩ (c_X8_thrown l D cy _ _ 5000  v2 (v2.1 0 0, v2) hv8 rfl) (cwV 0 hts gL_law_X8_thrown rfl rfl rfl (by decide +kernel) ⟨Nat.le_of_ble_eq_true rfl, Nat.le_of_ble_eq_true rfl⟩) hw hA hK h0 hv8 (by decide) rfl rfl hl.1 rfl (Nat.le_of_ble_eq_true rfl) dL_law_848 ⟨show 43 + 2 * k + 1 + 0 ≤ 601024 by omega, show 3226 + 17 * k + 6 + 0 ≤ 7293034 by omega⟩ (fun H locs hw => ?_)
  refine lv_iload hx hb dL_law_851 (lv_at hl 1 rfl) ?_
  refine lv_icmp_eq (tgt := 858) hx hb dL_law_853 (by decide) (fun _ => ?_) (fun z => absurd (h00.trans hkk.symm) z)
  refine lv_iload hx hb dL_law_858 (lv_at hl 1 rfl) ?_
  have fin : ∀ ls, lv_has ls 7 [(6, .int a9), (5, .int kk), (0, .ref b), (1, .ref a1), (2, .ref a2), (3, .ref qo), (4, .int (i3 (5 * k)))] → W p l e room_1 s m #[Value.ref b] below meth c H locs (43 + 2 * k + 1) (3226 + 17 * k + 6) Q (F0 m 875 ls []) := fun ls hl => by
    refine lv_goto (tgt := 878) hx hb dL_law_875 (by decide) ?_
    refine W.widen (k := 43 + 2 * (k + 1)) (n := 3226 + 17 * (k + 1)) (by omega) (by omega) ?_
    exact KK _ _ _ _ _ _ _ ⟨hw, hJ2, h40, h0, hv7, hv8, hlt, h41, h43⟩ (lv_sub hl [2, 3, 4, 5, 6] rfl)
  refine lv_if_ne (tgt := 875) hx hb dL_law_860 (by decide) (fun _ => fin ls hl) (fun hk0 => ?_)
  have hz := oOk_0 hok hk0
  have hga : g 0 = a9.toInt64 := by rw [hz.2, hac hz.1]
  refine lv_aload_n hx hb dL_law_863 rfl (lv_at hl 5 rfl) ?_
  refine lv_iconst (v := 0) hx hb dL_law_864 (by decide) ?_
  refine q_lald hx hb hK hw dL_law_865 ?_
  rw [hga]
  refine lv_iload hx hb dL_law_866 (lv_at hl 0 rfl) ?_
  refine lv_i2l (v := a9.toInt64) hx hb dL_law_868 rfl ?_
  refine W.lcmp hx hb dL_law_869 ?_
  refine lv_if_eq (tgt := 875) hx hb dL_law_870 (by decide) (fun _ => fin ls hl) (fun z => absurd (lg_rf _) z)
end LWS

theorem k_X7_set_3 : Cond.fieldLink RX7 18 "RingHeap" "store" "LRingHeap$Store;" ∈ wsX7_set := List.mem_of_getElem? (i := 3) (by rfl)
theorem n_X7_set_X7 : ∀ w ∈ u_ws RX7 TX7 5, w ∈ wsX7_set := fun _ h => List.mem_cons_of_mem _ (List.mem_append_left _ (List.mem_append_left _ (List.mem_append_left _ (List.mem_append_left _ (List.mem_append_left _ (List.mem_append_left _ (List.mem_append_left _ (List.mem_append_right _ h))))))))
theorem k_X7_set_4 : Cond.fieldLink RX7 97 "RingHeap$Thing" "held" "[LRingHeap$Thing;" ∈ wsX7_set := List.mem_of_getElem? (i := 4) (by rfl)
theorem n_X7_set_X5 : ∀ w ∈ u_ws RX5 TX5 11, w ∈ wsX7_set := fun _ h => List.mem_cons_of_mem _ (List.mem_append_left _ (List.mem_append_left _ (List.mem_append_left _ (List.mem_append_left _ (List.mem_append_left _ (List.mem_append_left _ (List.mem_append_right _ h)))))))
theorem k_X7_set_5 : Cond.fieldLink RX7 27 "RingHeap" "counting" "LRingHeap$Counting;" ∈ wsX7_set := List.mem_of_getElem? (i := 5) (by rfl)
theorem k_X7_set_2 : Cond.initialized "java/lang/IndexOutOfBoundsException" ∈ wsX7_set := List.mem_of_getElem? (i := 2) (by rfl)
theorem k_X7_set_1 : Cond.classLink RX7 40 "java/lang/IndexOutOfBoundsException" ∈ wsX7_set := List.mem_of_getElem? (i := 1) (by rfl)
def f_X7_set_90 (N : Nat)   (r6 : Option Nat) (u : Mm) : Option (Nat × Int32 × Bool × Mm) :=
  nl r6 (some (0, 0, false, u)) (fun t15 => bd (f_X1_less N t15 u) (fun x18 u => some (0, x18, false, u)))
set_option maxHeartbeats 4000000 in
set_option maxRecDepth 100000 in
theorem j_X7_set_90 {p : Program} {l : Launch} {e : Env} {s : State} {m : MethodId} {args : Array Value} {below : List Frame} {meth : Method} {c : Code} {D : va_G} {cy : Nat → ClassId} {L : List Nat} {ad : Nat → Nat} {A : Nat → Prop} {o : Nat × Int32 × Bool × Mm} (N : Nat)   {nw : List Nat} (C0 : Cx p m meth c cX7_set (some .int) 7 s args wsX7_set RX7 D cy) (hA : ∀ q : Nat, s.heap.size ≤ q → A q) (hst : l.stackTraces = false) (hT : TX A s.heap s) (ht : ∀ x ∈ c.exceptionTable.toList, False) (hC : CN s)  : ∀ (r6 : Option Nat) (u : Mm) (H : Heap) (locs : List Loc) (ls : Array Slot), vn L 7 40 → vr L 5 r6 → Wd D cy L ad A s.heap u H locs → lv_has ls 7 [(0, .ref (ad 40)), (6, va_re ad r6)] → f_X7_set_90 N   r6 u = some o → W p l e ({ frames := 6, cells := 1, slots := 6, locals := 92 } : Room) s m args below meth c H locs 0 0 (vx_MQ below (QcX D cy L nw ad A o) (XcX D cy L ad A o) args s 1 6 A) (F0 m 90 ls []) := by
  obtain ⟨hx, hb, hr, hml, hown, hts, hlocks, hK⟩ := id C0
  intro r6 u H locs ls hv_t0 hv_r6 hw hl h
  unfold f_X7_set_90 at h
  refine r_aload hx hb dX7_set_90 (lv_at hl 1 rfl) ?_
  refine r_ifnonnull (tgt := 99) hx hb hv_r6 dX7_set_92 (by decide) h (fun e16 h9 => ?_) (fun t15 e16 hv_t15 h9 => ?_)
  · clear h
    subst e16
    have h := h9
    have hl : lv_has ls 7 [(0, .ref (ad 40)), (6, va_re ad none)] := hl
    refine lv_iconst (v := 0) hx hb dX7_set_95 (by decide) ?_
    refine lv_goto (tgt := 108) hx hb dX7_set_96 (by decide) ?_
    exact x_iret (b := false) (ad2 := ad) hx hb hr hlocks hK (fun _ _ => rfl) hw h (by decide) (by decide) dX7_set_108
  · clear h
    subst e16
    have h := h9
    have hl : lv_has ls 7 [(0, .ref (ad 40)), (6, .ref (ad t15))] := hl
    refine lv_aload_n hx hb dX7_set_99 rfl (lv_at hl 0 rfl) ?_
    refine r_getC (t2 := 1) (d := 48) hx hb hts n_X7_set_X7 hown hK hw hv_t0 (by decide) rfl 2 (by decide) rfl rfl (hts _ k_X7_set_5) (fun _ q => q) dX7_set_100 (fun hv17 => ?_)
    refine lv_aload hx hb dX7_set_103 (lv_at hl 1 rfl) ?_
    refine r_bI (fun o ho => r_vI (As := [.ref (ad t15)]) (rest := []) ⟨hx, hb, hml, hown, hts⟩ (c_X1_less l D cy L ad N t15 u o hv17 hv_t15 ho) (cwV 1 hts gX7_set_X1_less rfl rfl rfl (by decide +kernel) ⟨Nat.le_of_ble_eq_true rfl, Nat.le_of_ble_eq_true rfl⟩) hw hK hv17 (by decide) rfl rfl hl.1 rfl (Nat.le_of_ble_eq_true rfl) dX7_set_105 ⟨Nat.zero_le _, Nat.zero_le _⟩) hw hA h (fun x18 u H locs hw h => ?_)
    exact x_iret (b := false) (ad2 := ad) hx hb hr hlocks hK (fun _ _ => rfl) hw h (by decide) (by decide) dX7_set_108
def f_X7_set_58 (N : Nat)   (v2 : Int32) (t4 : Nat) (r5 : Option Nat) (u : Mm) : Option (Nat × Int32 × Bool × Mm) :=
  ck (bI v2 6) (pt (u.2 (t4 + 1) (ix v2)) (fun r11 => ck (bI v2 6) (pt (sR u (t4 + 1) (ix v2) r5) (fun u => nl r5 (f_X7_set_90 N r11 u) (fun t13 => bv (f_X1_more N t13 u) (fun u => f_X7_set_90 N r11 u))))))
set_option maxHeartbeats 4000000 in
set_option maxRecDepth 100000 in
theorem j_X7_set_58 {p : Program} {l : Launch} {e : Env} {s : State} {m : MethodId} {args : Array Value} {below : List Frame} {meth : Method} {c : Code} {D : va_G} {cy : Nat → ClassId} {L : List Nat} {ad : Nat → Nat} {A : Nat → Prop} {o : Nat × Int32 × Bool × Mm} (N : Nat)   {nw : List Nat} (C0 : Cx p m meth c cX7_set (some .int) 7 s args wsX7_set RX7 D cy) (hA : ∀ q : Nat, s.heap.size ≤ q → A q) (hst : l.stackTraces = false) (hT : TX A s.heap s) (ht : ∀ x ∈ c.exceptionTable.toList, False) (hC : CN s)  : ∀ (v2 : Int32) (t4 : Nat) (r5 : Option Nat) (u : Mm) (H : Heap) (locs : List Loc) (ls : Array Slot), vn L 7 40 → vn L 5 t4 → vr L 5 r5 → Wd D cy L ad A s.heap u H locs → lv_has ls 7 [(0, .ref (ad 40)), (2, .int v2), (4, .ref (ad t4)), (5, va_re ad r5)] → f_X7_set_58 N   v2 t4 r5 u = some o → W p l e ({ frames := 6, cells := 1, slots := 6, locals := 92 } : Room) s m args below meth c H locs 0 0 (vx_MQ below (QcX D cy L nw ad A o) (XcX D cy L ad A o) args s 1 6 A) (F0 m 58 ls []) := by
  obtain ⟨hx, hb, hr, hml, hown, hts, hlocks, hK⟩ := id C0
  intro v2 t4 r5 u H locs ls hv_t0 hv_t4 hv_r5 hw hl h
  unfold f_X7_set_58 at h
  refine lv_aload hx hb dX7_set_58 (lv_at hl 2 rfl) ?_
  refine r_getC (t2 := 12) (d := (t4 + 1)) hx hb hts n_X7_set_X5 hown hK hw hv_t4 (by decide) rfl 2 (by decide) rfl (cst5 hv_t4.2) (hts _ k_X7_set_4) (fun _ q => q) dX7_set_60 (fun hv10 => ?_)
  refine lv_iload_n hx hb dX7_set_63 rfl (lv_at hl 1 rfl) ?_
  refine r_tald (n := 6) hx hb hK hw hv10 (ln5s hv_t4.2) dX7_set_64 h (fun r11 hv_r11 h => ?_)
  refine r_astore (lv' := [(6, va_re ad r11), (0, .ref (ad 40)), (2, .int v2), (4, .ref (ad t4)), (5, va_re ad r5)]) hx hb dX7_set_65 hl (by decide) (by simp [va_re_cat]) (fun ls hl => ?_)
  refine lv_aload hx hb dX7_set_67 (lv_at hl 3 rfl) ?_
  refine r_getC (t2 := 12) (d := (t4 + 1)) hx hb hts n_X7_set_X5 hown hK hw hv_t4 (by decide) rfl 2 (by decide) rfl (cst5 hv_t4.2) (hts _ k_X7_set_4) (fun _ q => q) dX7_set_69 (fun hv12 => ?_)
  refine lv_iload_n hx hb dX7_set_72 rfl (lv_at hl 2 rfl) ?_
  refine r_aload hx hb dX7_set_73 (lv_at hl 4 rfl) ?_
  refine r_tast (n := 6) (v := r5) hx hb hK hw hv12 (ln5s hv_t4.2) hv_r5 dX7_set_75 h (fun u H locs hw h => ?_)
  refine r_aload hx hb dX7_set_76 (lv_at hl 4 rfl) ?_
  refine r_ifnull (tgt := 90) hx hb hv_r5 dX7_set_78 (by decide) h (fun e14 h9 => ?_) (fun t13 e14 hv_t13 h9 => ?_)
  · clear h
    subst e14
    have h := h9
    have hl : lv_has ls 7 [(6, va_re ad r11), (0, .ref (ad 40)), (2, .int v2), (4, .ref (ad t4)), (5, va_re ad none)] := hl
    exact j_X7_set_90 N C0 hA hst hT ht hC r11 u _ _ _ hv_t0 hv_r11 hw (lv_sub hl [1, 0] rfl) h
  · clear h
    subst e14
    have h := h9
    have hl : lv_has ls 7 [(6, va_re ad r11), (0, .ref (ad 40)), (2, .int v2), (4, .ref (ad t4)), (5, .ref (ad t13))] := hl
    refine lv_aload_n hx hb dX7_set_81 rfl (lv_at hl 1 rfl) ?_
    refine r_getC (t2 := 1) (d := 48) hx hb hts n_X7_set_X7 hown hK hw hv_t0 (by decide) rfl 2 (by decide) rfl rfl (hts _ k_X7_set_5) (fun _ q => q) dX7_set_82 (fun hv19 => ?_)
    refine lv_aload hx hb dX7_set_85 (lv_at hl 4 rfl) ?_
    refine r_bV (fun o ho => r_vV (As := [.ref (ad t13)]) (rest := []) ⟨hx, hb, hml, hown, hts⟩ (c_X1_more l D cy L ad N t13 u o hv19 hv_t13 ho) (cwV 1 hts gX7_set_X1_more rfl rfl rfl (by decide +kernel) ⟨Nat.le_of_ble_eq_true rfl, Nat.le_of_ble_eq_true rfl⟩) hw hK hv19 (by decide) rfl rfl hl.1 rfl (Nat.le_of_ble_eq_true rfl) dX7_set_87 ⟨Nat.zero_le _, Nat.zero_le _⟩) hw hA h (fun u H locs hw h => ?_)
    exact j_X7_set_90 N C0 hA hst hT ht hC r11 u _ _ _ hv_t0 hv_r11 hw (lv_sub hl [1, 0] rfl) h
def f_X7_set (N : Nat) (p0 : Int32) (p1 : Int32) (p2 : Int32) (u : Mm) : Option (Nat × Int32 × Bool × Mm) :=
  bd (f_X4_living N p0 u) (fun r2 u => nl r2 (some (0, (-1), false, u)) (fun t3 => bd (f_X5_hasField N t3 p1 u) (fun x5 u => if x5 = 0 then (some (1, 0, false, u)) else (bd (f_X4_living N p2 u) (fun r7 u => nl r7 (if p2 = (-1) then (f_X7_set_58 N p1 t3 none u) else (some (0, (-1), false, u))) (fun t8 => f_X7_set_58 N p1 t3 (some t8) u))))))
set_option maxHeartbeats 4000000 in
set_option maxRecDepth 100000 in
theorem c_X7_set (l : Launch) (hst : l.stackTraces = false) (D : va_G) (cy : Nat → ClassId) (L nw : List Nat) (ad : Nat → Nat) (N : Nat) (p0 : Int32) (p1 : Int32) (p2 : Int32) (u : Mm) (o : Nat × Int32 × Bool × Mm) (h_this : vn L 7 40) (h : f_X7_set N p0 p1 p2 u = some o) : MtX l yX7_set wsX7_set ({ frames := 6, cells := 1, slots := 6, locals := 92 } : Room) D cy L nw ad 1 6 [.ref (ad 40), .int p0, .int p1, .int p2] u o := by
  intro sz
  refine vx_ofW (cc := cX7_set) (maxL := 7) (ret := (some .int)) (by decide) rfl ?_
  intro p e s m args below meth c s₁ B hml ht hv
  obtain ⟨rfl, hsz, ⟨hP, hK, hD0, hok⟩, hT, hC⟩ := hv
  have hx := B.exec
  have hb := B.bytes
  have hr := B.returns
  have hts := atoms_spec (ws := wsX7_set) B.pre
  have hown : s.vm.findClass RX7 = some m.cls := findClass_of_methodNamed B.named
  have hlocks := B.notSynchronized
  subst hsz
  have hw := wd_start hP hD0 hok
  have hA : ∀ q : Nat, s.heap.size ≤ q → va_A (wl cy L ad u) s.heap.size q := fun q h => Or.inr h
  generalize va_A (wl cy L ad u) s.heap.size = A at hw hA hT ⊢
  have C0 : Cx p m meth c cX7_set (some .int) 7 s _ wsX7_set RX7 D cy := ⟨hx, hb, hr, hml, hown, hts, hlocks, hK⟩
  have hl := lv_entry ([.ref (ad 40), .int p0, .int p1, .int p2]) (n := 7) (Nat.le_of_ble_eq_true rfl)
  rw [lg_entry_eq]
  generalize (lg_sl ([.ref (ad 40), .int p0, .int p1, .int p2]) ++ List.replicate (7 - (lg_sl ([.ref (ad 40), .int p0, .int p1, .int p2])).length) Slot.unset).toArray = ls at hl ⊢
  have hl : lv_has ls 7 [(0, .ref (ad 40)), (1, .int p0), (2, .int p1), (3, .int p2)] := hl
  unfold f_X7_set at h
  refine lv_aload_n hx hb dX7_set_0 rfl (lv_at hl 0 rfl) ?_
  refine r_getC (t2 := 4) (d := 42) hx hb hts n_X7_set_X7 hown hK hw h_this (by decide) rfl 1 (by decide) rfl rfl (hts _ k_X7_set_3) (fun _ q => q) dX7_set_1 (fun hv1 => ?_)
  refine lv_iload_n hx hb dX7_set_4 rfl (lv_at hl 1 rfl) ?_
  refine r_bQ (fun o ho => r_vQ (As := [.int p0]) (rest := []) ⟨hx, hb, hml, hown, hts⟩ (c_X4_living l D cy L ad N p0 u o hv1 ho) (cwV 1 hts gX7_set_X4_living rfl rfl rfl (by decide +kernel) ⟨Nat.le_of_ble_eq_true rfl, Nat.le_of_ble_eq_true rfl⟩) hw hK hv1 (by decide) rfl rfl hl.1 rfl (Nat.le_of_ble_eq_true rfl) dX7_set_5 ⟨Nat.zero_le _, Nat.zero_le _⟩) hw hA h (fun r2 u H locs hw hv_r2 h => ?_)
  refine r_astore (lv' := [(4, va_re ad r2), (0, .ref (ad 40)), (1, .int p0), (2, .int p1), (3, .int p2)]) hx hb dX7_set_8 hl (by decide) rfl (fun ls hl => ?_)
  refine r_aload hx hb dX7_set_10 (lv_at hl 0 rfl) ?_
  refine r_ifnonnull (tgt := 17) hx hb hv_r2 dX7_set_12 (by decide) h (fun e4 h9 => ?_) (fun t3 e4 hv_t3 h9 => ?_)
  · clear h
    subst e4
    have h := h9
    have hl : lv_has ls 7 [(4, va_re ad none), (0, .ref (ad 40)), (1, .int p0), (2, .int p1), (3, .int p2)] := hl
    refine lv_iconst (v := (-1)) hx hb dX7_set_15 (by decide) ?_
    exact x_iret (b := false) (ad2 := ad) hx hb hr hlocks hK (fun _ _ => rfl) hw h (by decide) (by decide) dX7_set_16
  · clear h
    subst e4
    have h := h9
    have hl : lv_has ls 7 [(4, .ref (ad t3)), (0, .ref (ad 40)), (1, .int p0), (2, .int p1), (3, .int p2)] := hl
    refine lv_aload hx hb dX7_set_17 (lv_at hl 0 rfl) ?_
    refine lv_iload_n hx hb dX7_set_19 rfl (lv_at hl 3 rfl) ?_
    refine r_bI (fun o ho => r_vI (As := [.int p1]) (rest := []) ⟨hx, hb, hml, hown, hts⟩ (c_X5_hasField l D cy L ad N t3 p1 u o hv_t3 ho) (cwV 1 hts gX7_set_X5_hasField rfl rfl rfl (by decide +kernel) ⟨Nat.le_of_ble_eq_true rfl, Nat.le_of_ble_eq_true rfl⟩) hw hK hv_t3 (by decide) rfl rfl hl.1 rfl (Nat.le_of_ble_eq_true rfl) dX7_set_20 ⟨Nat.zero_le _, Nat.zero_le _⟩) hw hA h (fun x5 u H locs hw h => ?_)
    refine lv_if_ne (tgt := 36) hx hb dX7_set_23 (by decide) (fun hc => ?_) (fun hc => ?_)
    · rw [if_neg hc] at h
      refine lv_aload_n hx hb dX7_set_36 rfl (lv_at hl 1 rfl) ?_
      refine r_getC (t2 := 4) (d := 42) hx hb hts n_X7_set_X7 hown hK hw h_this (by decide) rfl 1 (by decide) rfl rfl (hts _ k_X7_set_3) (fun _ q => q) dX7_set_37 (fun hv6 => ?_)
      refine lv_iload_n hx hb dX7_set_40 rfl (lv_at hl 4 rfl) ?_
      refine r_bQ (fun o ho => r_vQ (As := [.int p2]) (rest := []) ⟨hx, hb, hml, hown, hts⟩ (c_X4_living l D cy L ad N p2 u o hv6 ho) (cwV 1 hts gX7_set_X4_living rfl rfl rfl (by decide +kernel) ⟨Nat.le_of_ble_eq_true rfl, Nat.le_of_ble_eq_true rfl⟩) hw hK hv6 (by decide) rfl rfl hl.1 rfl (Nat.le_of_ble_eq_true rfl) dX7_set_41 ⟨Nat.zero_le _, Nat.zero_le _⟩) hw hA h (fun r7 u H locs hw hv_r7 h => ?_)
      refine r_astore (lv' := [(5, va_re ad r7), (4, .ref (ad t3)), (0, .ref (ad 40)), (1, .int p0), (2, .int p1), (3, .int p2)]) hx hb dX7_set_44 hl (by decide) rfl (fun ls hl => ?_)
      refine r_aload hx hb dX7_set_46 (lv_at hl 0 rfl) ?_
      refine r_ifnonnull (tgt := 58) hx hb hv_r7 dX7_set_48 (by decide) h (fun e9 h9 => ?_) (fun t8 e9 hv_t8 h9 => ?_)
      · clear h
        subst e9
        have h := h9
        have hl : lv_has ls 7 [(5, va_re ad none), (4, .ref (ad t3)), (0, .ref (ad 40)), (1, .int p0), (2, .int p1), (3, .int p2)] := hl
        refine lv_iload_n hx hb dX7_set_51 rfl (lv_at hl 5 rfl) ?_
        refine lv_iconst (v := (-1)) hx hb dX7_set_52 (by decide) ?_
        refine lv_icmp_eq (tgt := 58) hx hb dX7_set_53 (by decide) (fun hc => ?_) (fun hc => ?_)
        · rw [if_pos hc] at h
          exact j_X7_set_58 N C0 hA hst hT ht hC p1 t3 none u _ _ _ h_this hv_t3 vr_none hw (lv_sub hl [2, 4, 1, 0] rfl) h
        · rw [if_neg hc] at h
          refine lv_iconst (v := (-1)) hx hb dX7_set_56 (by decide) ?_
          exact x_iret (b := false) (ad2 := ad) hx hb hr hlocks hK (fun _ _ => rfl) hw h (by decide) (by decide) dX7_set_57
      · clear h
        subst e9
        have h := h9
        have hl : lv_has ls 7 [(5, .ref (ad t8)), (4, .ref (ad t3)), (0, .ref (ad 40)), (1, .int p0), (2, .int p1), (3, .int p2)] := hl
        exact j_X7_set_58 N C0 hA hst hT ht hC p1 t3 (some t8) u _ _ _ h_this hv_t3 (vr_some hv_t8) hw (lv_sub hl [2, 4, 1, 0] rfl) h
    · rw [if_pos hc] at h
      exact x_throwIO (text := "no such field") hx hb hst hown (hts _ k_X7_set_1) (hts _ k_X7_set_2) (fun w h => hts w ((fun _ h => List.mem_cons_of_mem _ (List.mem_append_right _ h)) w h)) hT (by decide +kernel) hK hw (hl.1.trans hml.symm) dX7_set_26 dX7_set_29 dX7_set_30 dX7_set_32 dX7_set_35 ht (Nat.le_of_ble_eq_true rfl) (Nat.le_of_ble_eq_true rfl) (Nat.le_of_ble_eq_true rfl) (Nat.le_of_ble_eq_true rfl) hlocks (by decide) (by decide) h
theorem k_X7_get_3 : Cond.fieldLink RX7 18 "RingHeap" "store" "LRingHeap$Store;" ∈ wsX7_get := List.mem_of_getElem? (i := 3) (by rfl)
theorem n_X7_get_X7 : ∀ w ∈ u_ws RX7 TX7 5, w ∈ wsX7_get := fun _ h => List.mem_cons_of_mem _ (List.mem_append_left _ (List.mem_append_left _ (List.mem_append_left _ (List.mem_append_left _ (List.mem_append_right _ h)))))
theorem k_X7_get_2 : Cond.initialized "java/lang/IndexOutOfBoundsException" ∈ wsX7_get := List.mem_of_getElem? (i := 2) (by rfl)
theorem k_X7_get_1 : Cond.classLink RX7 40 "java/lang/IndexOutOfBoundsException" ∈ wsX7_get := List.mem_of_getElem? (i := 1) (by rfl)
theorem k_X7_get_4 : Cond.fieldLink RX7 97 "RingHeap$Thing" "held" "[LRingHeap$Thing;" ∈ wsX7_get := List.mem_of_getElem? (i := 4) (by rfl)
theorem n_X7_get_X5 : ∀ w ∈ u_ws RX5 TX5 11, w ∈ wsX7_get := fun _ h => List.mem_cons_of_mem _ (List.mem_append_left _ (List.mem_append_left _ (List.mem_append_left _ (List.mem_append_right _ h))))
def f_X7_get (N : Nat) (p0 : Int32) (p1 : Int32) (u : Mm) : Option (Nat × Int32 × Bool × Mm) :=
  bd (f_X4_thing N p0 u) (fun r2 u => nl r2 (some (1, 0, false, u)) (fun t3 => bd (f_X5_hasField N t3 p1 u) (fun x5 u => if x5 = 0 then (some (1, 0, false, u)) else (ck (bI p1 6) (pt (u.2 (t3 + 1) (ix p1)) (fun r7 => bd (f_X7_numberOf N r7 u) (fun x8 u => some (0, x8, false, u))))))))
set_option maxHeartbeats 4000000 in
set_option maxRecDepth 100000 in
theorem c_X7_get (l : Launch) (hst : l.stackTraces = false) (D : va_G) (cy : Nat → ClassId) (L nw : List Nat) (ad : Nat → Nat) (N : Nat) (p0 : Int32) (p1 : Int32) (u : Mm) (o : Nat × Int32 × Bool × Mm) (h_this : vn L 7 40) (h : f_X7_get N p0 p1 u = some o) : MtX l yX7_get wsX7_get ({ frames := 6, cells := 1, slots := 6, locals := 82 } : Room) D cy L nw ad 1 6 [.ref (ad 40), .int p0, .int p1] u o := by
  intro sz
  refine vx_ofW (cc := cX7_get) (maxL := 4) (ret := (some .int)) (by decide) rfl ?_
  intro p e s m args below meth c s₁ B hml ht hv
  obtain ⟨rfl, hsz, ⟨hP, hK, hD0, hok⟩, hT, hC⟩ := hv
  have hx := B.exec
  have hb := B.bytes
  have hr := B.returns
  have hts := atoms_spec (ws := wsX7_get) B.pre
  have hown : s.vm.findClass RX7 = some m.cls := findClass_of_methodNamed B.named
  have hlocks := B.notSynchronized
  subst hsz
  have hw := wd_start hP hD0 hok
  have hA : ∀ q : Nat, s.heap.size ≤ q → va_A (wl cy L ad u) s.heap.size q := fun q h => Or.inr h
  generalize va_A (wl cy L ad u) s.heap.size = A at hw hA hT ⊢
  have C0 : Cx p m meth c cX7_get (some .int) 4 s _ wsX7_get RX7 D cy := ⟨hx, hb, hr, hml, hown, hts, hlocks, hK⟩
  have hl := lv_entry ([.ref (ad 40), .int p0, .int p1]) (n := 4) (Nat.le_of_ble_eq_true rfl)
  rw [lg_entry_eq]
  generalize (lg_sl ([.ref (ad 40), .int p0, .int p1]) ++ List.replicate (4 - (lg_sl ([.ref (ad 40), .int p0, .int p1])).length) Slot.unset).toArray = ls at hl ⊢
  have hl : lv_has ls 4 [(0, .ref (ad 40)), (1, .int p0), (2, .int p1)] := hl
  unfold f_X7_get at h
  refine lv_aload_n hx hb dX7_get_0 rfl (lv_at hl 0 rfl) ?_
  refine r_getC (t2 := 4) (d := 42) hx hb hts n_X7_get_X7 hown hK hw h_this (by decide) rfl 1 (by decide) rfl rfl (hts _ k_X7_get_3) (fun _ q => q) dX7_get_1 (fun hv1 => ?_)
  refine lv_iload_n hx hb dX7_get_4 rfl (lv_at hl 1 rfl) ?_
  refine r_bQ (fun o ho => r_vQ (As := [.int p0]) (rest := []) ⟨hx, hb, hml, hown, hts⟩ (c_X4_thing l D cy L ad N p0 u o hv1 ho) (cwV 1 hts gX7_get_X4_thing rfl rfl rfl (by decide +kernel) ⟨Nat.le_of_ble_eq_true rfl, Nat.le_of_ble_eq_true rfl⟩) hw hK hv1 (by decide) rfl rfl hl.1 rfl (Nat.le_of_ble_eq_true rfl) dX7_get_5 ⟨Nat.zero_le _, Nat.zero_le _⟩) hw hA h (fun r2 u H locs hw hv_r2 h => ?_)
  refine r_astoren (lv' := [(3, va_re ad r2), (0, .ref (ad 40)), (1, .int p0), (2, .int p1)]) hx hb dX7_get_8 rfl hl (by decide) rfl (fun ls hl => ?_)
  refine r_aloadn hx hb dX7_get_9 rfl (lv_at hl 0 rfl) ?_
  refine r_ifnull (tgt := 21) hx hb hv_r2 dX7_get_10 (by decide) h (fun e4 h9 => ?_) (fun t3 e4 hv_t3 h9 => ?_)
  · clear h
    subst e4
    have h := h9
    have hl : lv_has ls 4 [(3, va_re ad none), (0, .ref (ad 40)), (1, .int p0), (2, .int p1)] := hl
    exact x_throwIO (text := "no such object or field") hx hb hst hown (hts _ k_X7_get_1) (hts _ k_X7_get_2) (fun w h => hts w ((fun _ h => List.mem_cons_of_mem _ (List.mem_append_right _ h)) w h)) hT (by decide +kernel) hK hw (hl.1.trans hml.symm) dX7_get_21 dX7_get_24 dX7_get_25 dX7_get_27 dX7_get_30 ht (Nat.le_of_ble_eq_true rfl) (Nat.le_of_ble_eq_true rfl) (Nat.le_of_ble_eq_true rfl) (Nat.le_of_ble_eq_true rfl) hlocks (by decide) (by decide) h
  · clear h
    subst e4
    have h := h9
    have hl : lv_has ls 4 [(3, .ref (ad t3)), (0, .ref (ad 40)), (1, .int p0), (2, .int p1)] := hl
    refine lv_aload_n hx hb dX7_get_13 rfl (lv_at hl 0 rfl) ?_
    refine lv_iload_n hx hb dX7_get_14 rfl (lv_at hl 3 rfl) ?_
    refine r_bI (fun o ho => r_vI (As := [.int p1]) (rest := []) ⟨hx, hb, hml, hown, hts⟩ (c_X5_hasField l D cy L ad N t3 p1 u o hv_t3 ho) (cwV 1 hts gX7_get_X5_hasField rfl rfl rfl (by decide +kernel) ⟨Nat.le_of_ble_eq_true rfl, Nat.le_of_ble_eq_true rfl⟩) hw hK hv_t3 (by decide) rfl rfl hl.1 rfl (Nat.le_of_ble_eq_true rfl) dX7_get_15 ⟨Nat.zero_le _, Nat.zero_le _⟩) hw hA h (fun x5 u H locs hw h => ?_)
    refine lv_if_ne (tgt := 31) hx hb dX7_get_18 (by decide) (fun hc => ?_) (fun hc => ?_)
    · rw [if_neg hc] at h
      refine lv_aload_n hx hb dX7_get_31 rfl (lv_at hl 0 rfl) ?_
      refine r_getC (t2 := 12) (d := (t3 + 1)) hx hb hts n_X7_get_X5 hown hK hw hv_t3 (by decide) rfl 2 (by decide) rfl (cst5 hv_t3.2) (hts _ k_X7_get_4) (fun _ q => q) dX7_get_32 (fun hv6 => ?_)
      refine lv_iload_n hx hb dX7_get_35 rfl (lv_at hl 3 rfl) ?_
      refine r_tald (n := 6) hx hb hK hw hv6 (ln5s hv_t3.2) dX7_get_36 h (fun r7 hv_r7 h => ?_)
      refine r_bI (fun o ho => r_sI (As := [va_re ad r7]) (rest := []) ⟨hx, hb, hml, hown, hts⟩ (c_X7_numberOf l D cy L ad N r7 u o hv_r7 ho) (va_cwS 1 hts gX7_get_X7_numberOf rfl rfl rfl (by decide +kernel) ⟨Nat.le_of_ble_eq_true rfl, Nat.le_of_ble_eq_true rfl⟩) hw hK rfl hl.1 rfl (Nat.le_of_ble_eq_true rfl) dX7_get_37 ⟨Nat.zero_le _, Nat.zero_le _⟩) hw hA h (fun x8 u H locs hw h => ?_)
      exact x_iret (b := false) (ad2 := ad) hx hb hr hlocks hK (fun _ _ => rfl) hw h (by decide) (by decide) dX7_get_40
    · rw [if_pos hc] at h
      exact x_throwIO (text := "no such object or field") hx hb hst hown (hts _ k_X7_get_1) (hts _ k_X7_get_2) (fun w h => hts w ((fun _ h => List.mem_cons_of_mem _ (List.mem_append_right _ h)) w h)) hT (by decide +kernel) hK hw (hl.1.trans hml.symm) dX7_get_21 dX7_get_24 dX7_get_25 dX7_get_27 dX7_get_30 ht (Nat.le_of_ble_eq_true rfl) (Nat.le_of_ble_eq_true rfl) (Nat.le_of_ble_eq_true rfl) (Nat.le_of_ble_eq_true rfl) hlocks (by decide) (by decide) h
theorem k_X7_weak_2 : Cond.initialized "java/lang/IndexOutOfBoundsException" ∈ wsX7_weak := List.mem_of_getElem? (i := 2) (by rfl)
theorem k_X7_weak_1 : Cond.classLink RX7 40 "java/lang/IndexOutOfBoundsException" ∈ wsX7_weak := List.mem_of_getElem? (i := 1) (by rfl)
theorem k_X7_weak_3 : Cond.fieldLink RX7 18 "RingHeap" "store" "LRingHeap$Store;" ∈ wsX7_weak := List.mem_of_getElem? (i := 3) (by rfl)
theorem n_X7_weak_X7 : ∀ w ∈ u_ws RX7 TX7 5, w ∈ wsX7_weak := fun _ h => List.mem_cons_of_mem _ (List.mem_append_left _ (List.mem_append_left _ (List.mem_append_left _ (List.mem_append_right _ h))))
theorem k_X7_weak_4 : Cond.fieldLink RX7 136 "RingHeap$Store" "weaks" "[LRingHeap$Thing;" ∈ wsX7_weak := List.mem_of_getElem? (i := 4) (by rfl)
theorem n_X7_weak_X4 : ∀ w ∈ u_ws RX4 TX4 6, w ∈ wsX7_weak := fun _ h => List.mem_cons_of_mem _ (List.mem_append_left _ (List.mem_append_left _ (List.mem_append_right _ h)))
def f_X7_weak_40 (N : Nat)   (v1 : Int32) (r3 : Option Nat) (u : Mm) : Option (Nat × Int32 × Bool × Mm) :=
  ck (bI v1 20) (pt (u.2 45 (ix v1)) (fun r7 => bd (f_X7_numberOf N r7 u) (fun x8 u => ck (bI v1 20) (pt (sR u 45 (ix v1) r3) (fun u => some (0, x8, false, u))))))
set_option maxHeartbeats 4000000 in
set_option maxRecDepth 100000 in
theorem j_X7_weak_40 {p : Program} {l : Launch} {e : Env} {s : State} {m : MethodId} {args : Array Value} {below : List Frame} {meth : Method} {c : Code} {D : va_G} {cy : Nat → ClassId} {L : List Nat} {ad : Nat → Nat} {A : Nat → Prop} {o : Nat × Int32 × Bool × Mm} (N : Nat)   {nw : List Nat} (C0 : Cx p m meth c cX7_weak (some .int) 5 s args wsX7_weak RX7 D cy) (hA : ∀ q : Nat, s.heap.size ≤ q → A q) (hst : l.stackTraces = false) (hT : TX A s.heap s) (ht : ∀ x ∈ c.exceptionTable.toList, False) (hC : CN s)  : ∀ (v1 : Int32) (r3 : Option Nat) (u : Mm) (H : Heap) (locs : List Loc) (ls : Array Slot), vn L 7 40 → vr L 5 r3 → Wd D cy L ad A s.heap u H locs → lv_has ls 5 [(0, .ref (ad 40)), (1, .int v1), (3, va_re ad r3)] → f_X7_weak_40 N   v1 r3 u = some o → W p l e ({ frames := 6, cells := 1, slots := 6, locals := 82 } : Room) s m args below meth c H locs 0 0 (vx_MQ below (QcX D cy L nw ad A o) (XcX D cy L ad A o) args s 1 6 A) (F0 m 40 ls []) := by
  obtain ⟨hx, hb, hr, hml, hown, hts, hlocks, hK⟩ := id C0
  intro v1 r3 u H locs ls hv_t0 hv_r3 hw hl h
  unfold f_X7_weak_40 at h
  refine lv_aload_n hx hb dX7_weak_40 rfl (lv_at hl 0 rfl) ?_
  refine r_getC (t2 := 4) (d := 42) hx hb hts n_X7_weak_X7 hown hK hw hv_t0 (by decide) rfl 1 (by decide) rfl rfl (hts _ k_X7_weak_3) (fun _ q => q) dX7_weak_41 (fun hv5 => ?_)
  refine r_getC (t2 := 12) (d := 45) hx hb hts n_X7_weak_X4 hown hK hw hv5 (by decide) rfl 2 (by decide) rfl rfl (hts _ k_X7_weak_4) (fun _ q => q) dX7_weak_44 (fun hv6 => ?_)
  refine lv_iload_n hx hb dX7_weak_47 rfl (lv_at hl 1 rfl) ?_
  refine r_tald (n := 20) hx hb hK hw hv6 rfl dX7_weak_48 h (fun r7 hv_r7 h => ?_)
  refine r_bI (fun o ho => r_sI (As := [va_re ad r7]) (rest := []) ⟨hx, hb, hml, hown, hts⟩ (c_X7_numberOf l D cy L ad N r7 u o hv_r7 ho) (va_cwS 1 hts gX7_weak_X7_numberOf rfl rfl rfl (by decide +kernel) ⟨Nat.le_of_ble_eq_true rfl, Nat.le_of_ble_eq_true rfl⟩) hw hK rfl hl.1 rfl (Nat.le_of_ble_eq_true rfl) dX7_weak_49 ⟨Nat.zero_le _, Nat.zero_le _⟩) hw hA h (fun x8 u H locs hw h => ?_)
  refine lv_istore (lv' := [(4, .int x8), (0, .ref (ad 40)), (1, .int v1), (3, va_re ad r3)]) hx hb dX7_weak_52 hl (by decide) (by simp [va_re_cat]) (fun ls hl => ?_)
  refine lv_aload_n hx hb dX7_weak_54 rfl (lv_at hl 1 rfl) ?_
  refine r_getC (t2 := 4) (d := 42) hx hb hts n_X7_weak_X7 hown hK hw hv_t0 (by decide) rfl 1 (by decide) rfl rfl (hts _ k_X7_weak_3) (fun _ q => q) dX7_weak_55 (fun hv9 => ?_)
  refine r_getC (t2 := 12) (d := 45) hx hb hts n_X7_weak_X4 hown hK hw hv9 (by decide) rfl 2 (by decide) rfl rfl (hts _ k_X7_weak_4) (fun _ q => q) dX7_weak_58 (fun hv10 => ?_)
  refine lv_iload_n hx hb dX7_weak_61 rfl (lv_at hl 2 rfl) ?_
  refine r_aloadn hx hb dX7_weak_62 rfl (lv_at hl 3 rfl) ?_
  refine r_tast (n := 20) (v := r3) hx hb hK hw hv10 rfl hv_r3 dX7_weak_63 h (fun u H locs hw h => ?_)
  refine lv_iload hx hb dX7_weak_64 (lv_at hl 0 rfl) ?_
  exact x_iret (b := false) (ad2 := ad) hx hb hr hlocks hK (fun _ _ => rfl) hw h (by decide) (by decide) dX7_weak_66
def f_X7_weak (N : Nat) (p0 : Int32) (p1 : Int32) (u : Mm) : Option (Nat × Int32 × Bool × Mm) :=
  if p0 < 0 then (some (1, 0, false, u)) else (if p0 < 20 then (bd (f_X4_living N p1 u) (fun r2 u => nl r2 (if p1 = (-1) then (f_X7_weak_40 N p0 none u) else (some (0, (-1), false, u))) (fun t3 => f_X7_weak_40 N p0 (some t3) u))) else (some (1, 0, false, u)))
set_option maxHeartbeats 4000000 in
set_option maxRecDepth 100000 in
theorem c_X7_weak (l : Launch) (hst : l.stackTraces = false) (D : va_G) (cy : Nat → ClassId) (L nw : List Nat) (ad : Nat → Nat) (N : Nat) (p0 : Int32) (p1 : Int32) (u : Mm) (o : Nat × Int32 × Bool × Mm) (h_this : vn L 7 40) (h : f_X7_weak N p0 p1 u = some o) : MtX l yX7_weak wsX7_weak ({ frames := 6, cells := 1, slots := 6, locals := 82 } : Room) D cy L nw ad 1 6 [.ref (ad 40), .int p0, .int p1] u o := by
  intro sz
  refine vx_ofW (cc := cX7_weak) (maxL := 5) (ret := (some .int)) (by decide) rfl ?_
  intro p e s m args below meth c s₁ B hml ht hv
  obtain ⟨rfl, hsz, ⟨hP, hK, hD0, hok⟩, hT, hC⟩ := hv
  have hx := B.exec
  have hb := B.bytes
  have hr := B.returns
  have hts := atoms_spec (ws := wsX7_weak) B.pre
  have hown : s.vm.findClass RX7 = some m.cls := findClass_of_methodNamed B.named
  have hlocks := B.notSynchronized
  subst hsz
  have hw := wd_start hP hD0 hok
  have hA : ∀ q : Nat, s.heap.size ≤ q → va_A (wl cy L ad u) s.heap.size q := fun q h => Or.inr h
  generalize va_A (wl cy L ad u) s.heap.size = A at hw hA hT ⊢
  have C0 : Cx p m meth c cX7_weak (some .int) 5 s _ wsX7_weak RX7 D cy := ⟨hx, hb, hr, hml, hown, hts, hlocks, hK⟩
  have hl := lv_entry ([.ref (ad 40), .int p0, .int p1]) (n := 5) (Nat.le_of_ble_eq_true rfl)
  rw [lg_entry_eq]
  generalize (lg_sl ([.ref (ad 40), .int p0, .int p1]) ++ List.replicate (5 - (lg_sl ([.ref (ad 40), .int p0, .int p1])).length) Slot.unset).toArray = ls at hl ⊢
  have hl : lv_has ls 5 [(0, .ref (ad 40)), (1, .int p0), (2, .int p1)] := hl
  unfold f_X7_weak at h
  refine lv_iload_n hx hb dX7_weak_0 rfl (lv_at hl 1 rfl) ?_
  refine lv_if_lt (tgt := 10) hx hb dX7_weak_1 (by decide) (fun hc => ?_) (fun hc => ?_)
  · rw [if_pos hc] at h
    exact x_throwIO (text := "no such weak reference") hx hb hst hown (hts _ k_X7_weak_1) (hts _ k_X7_weak_2) (fun w h => hts w ((fun _ h => List.mem_cons_of_mem _ (List.mem_append_right _ h)) w h)) hT (by decide +kernel) hK hw (hl.1.trans hml.symm) dX7_weak_10 dX7_weak_13 dX7_weak_14 dX7_weak_16 dX7_weak_19 ht (Nat.le_of_ble_eq_true rfl) (Nat.le_of_ble_eq_true rfl) (Nat.le_of_ble_eq_true rfl) (Nat.le_of_ble_eq_true rfl) hlocks (by decide) (by decide) h
  · rw [if_neg hc] at h
    refine lv_iload_n hx hb dX7_weak_4 rfl (lv_at hl 1 rfl) ?_
    refine lv_bipush (v := 20) hx hb dX7_weak_5 (by decide) ?_
    refine lv_icmp_lt (tgt := 20) hx hb dX7_weak_7 (by decide) (fun hc => ?_) (fun hc => ?_)
    · rw [if_pos hc] at h
      refine lv_aload_n hx hb dX7_weak_20 rfl (lv_at hl 0 rfl) ?_
      refine r_getC (t2 := 4) (d := 42) hx hb hts n_X7_weak_X7 hown hK hw h_this (by decide) rfl 1 (by decide) rfl rfl (hts _ k_X7_weak_3) (fun _ q => q) dX7_weak_21 (fun hv1 => ?_)
      refine lv_iload_n hx hb dX7_weak_24 rfl (lv_at hl 2 rfl) ?_
      refine r_bQ (fun o ho => r_vQ (As := [.int p1]) (rest := []) ⟨hx, hb, hml, hown, hts⟩ (c_X4_living l D cy L ad N p1 u o hv1 ho) (cwV 1 hts gX7_weak_X4_living rfl rfl rfl (by decide +kernel) ⟨Nat.le_of_ble_eq_true rfl, Nat.le_of_ble_eq_true rfl⟩) hw hK hv1 (by decide) rfl rfl hl.1 rfl (Nat.le_of_ble_eq_true rfl) dX7_weak_25 ⟨Nat.zero_le _, Nat.zero_le _⟩) hw hA h (fun r2 u H locs hw hv_r2 h => ?_)
      refine r_astoren (lv' := [(3, va_re ad r2), (0, .ref (ad 40)), (1, .int p0), (2, .int p1)]) hx hb dX7_weak_28 rfl hl (by decide) rfl (fun ls hl => ?_)
      refine r_aloadn hx hb dX7_weak_29 rfl (lv_at hl 0 rfl) ?_
      refine r_ifnonnull (tgt := 40) hx hb hv_r2 dX7_weak_30 (by decide) h (fun e4 h9 => ?_) (fun t3 e4 hv_t3 h9 => ?_)
      · clear h
        subst e4
        have h := h9
        have hl : lv_has ls 5 [(3, va_re ad none), (0, .ref (ad 40)), (1, .int p0), (2, .int p1)] := hl
        refine lv_iload_n hx hb dX7_weak_33 rfl (lv_at hl 3 rfl) ?_
        refine lv_iconst (v := (-1)) hx hb dX7_weak_34 (by decide) ?_
        refine lv_icmp_eq (tgt := 40) hx hb dX7_weak_35 (by decide) (fun hc => ?_) (fun hc => ?_)
        · rw [if_pos hc] at h
          exact j_X7_weak_40 N C0 hA hst hT ht hC p0 none u _ _ _ h_this vr_none hw (lv_sub hl [1, 2, 0] rfl) h
        · rw [if_neg hc] at h
          refine lv_iconst (v := (-1)) hx hb dX7_weak_38 (by decide) ?_
          exact x_iret (b := false) (ad2 := ad) hx hb hr hlocks hK (fun _ _ => rfl) hw h (by decide) (by decide) dX7_weak_39
      · clear h
        subst e4
        have h := h9
        have hl : lv_has ls 5 [(3, .ref (ad t3)), (0, .ref (ad 40)), (1, .int p0), (2, .int p1)] := hl
        exact j_X7_weak_40 N C0 hA hst hT ht hC p0 (some t3) u _ _ _ h_this (vr_some hv_t3) hw (lv_sub hl [1, 2, 0] rfl) h
    · rw [if_neg hc] at h
      exact x_throwIO (text := "no such weak reference") hx hb hst hown (hts _ k_X7_weak_1) (hts _ k_X7_weak_2) (fun w h => hts w ((fun _ h => List.mem_cons_of_mem _ (List.mem_append_right _ h)) w h)) hT (by decide +kernel) hK hw (hl.1.trans hml.symm) dX7_weak_10 dX7_weak_13 dX7_weak_14 dX7_weak_16 dX7_weak_19 ht (Nat.le_of_ble_eq_true rfl) (Nat.le_of_ble_eq_true rfl) (Nat.le_of_ble_eq_true rfl) (Nat.le_of_ble_eq_true rfl) hlocks (by decide) (by decide) h
theorem k_X7_seen_2 : Cond.initialized "java/lang/IndexOutOfBoundsException" ∈ wsX7_seen := List.mem_of_getElem? (i := 2) (by rfl)
theorem k_X7_seen_1 : Cond.classLink RX7 40 "java/lang/IndexOutOfBoundsException" ∈ wsX7_seen := List.mem_of_getElem? (i := 1) (by rfl)
theorem k_X7_seen_3 : Cond.fieldLink RX7 18 "RingHeap" "store" "LRingHeap$Store;" ∈ wsX7_seen := List.mem_of_getElem? (i := 3) (by rfl)
theorem n_X7_seen_X7 : ∀ w ∈ u_ws RX7 TX7 5, w ∈ wsX7_seen := fun _ h => List.mem_cons_of_mem _ (List.mem_append_left _ (List.mem_append_left _ (List.mem_append_left _ (List.mem_append_right _ h))))
theorem k_X7_seen_4 : Cond.fieldLink RX7 136 "RingHeap$Store" "weaks" "[LRingHeap$Thing;" ∈ wsX7_seen := List.mem_of_getElem? (i := 4) (by rfl)
theorem n_X7_seen_X4 : ∀ w ∈ u_ws RX4 TX4 6, w ∈ wsX7_seen := fun _ h => List.mem_cons_of_mem _ (List.mem_append_left _ (List.mem_append_left _ (List.mem_append_right _ h)))
def f_X7_seen (N : Nat) (p0 : Int32) (u : Mm) : Option (Nat × Int32 × Bool × Mm) :=
  if p0 < 0 then (some (1, 0, false, u)) else (if p0 < 20 then (ck (bI p0 20) (pt (u.2 45 (ix p0)) (fun r3 => bd (f_X7_numberOf N r3 u) (fun x4 u => some (0, x4, false, u))))) else (some (1, 0, false, u)))
set_option maxHeartbeats 4000000 in
set_option maxRecDepth 100000 in
theorem c_X7_seen (l : Launch) (hst : l.stackTraces = false) (D : va_G) (cy : Nat → ClassId) (L nw : List Nat) (ad : Nat → Nat) (N : Nat) (p0 : Int32) (u : Mm) (o : Nat × Int32 × Bool × Mm) (h_this : vn L 7 40) (h : f_X7_seen N p0 u = some o) : MtX l yX7_seen wsX7_seen ({ frames := 6, cells := 1, slots := 6, locals := 82 } : Room) D cy L nw ad 1 6 [.ref (ad 40), .int p0] u o := by
  intro sz
  refine vx_ofW (cc := cX7_seen) (maxL := 2) (ret := (some .int)) (by decide) rfl ?_
  intro p e s m args below meth c s₁ B hml ht hv
  obtain ⟨rfl, hsz, ⟨hP, hK, hD0, hok⟩, hT, hC⟩ := hv
  have hx := B.exec
  have hb := B.bytes
  have hr := B.returns
  have hts := atoms_spec (ws := wsX7_seen) B.pre
  have hown : s.vm.findClass RX7 = some m.cls := findClass_of_methodNamed B.named
  have hlocks := B.notSynchronized
  subst hsz
  have hw := wd_start hP hD0 hok
  have hA : ∀ q : Nat, s.heap.size ≤ q → va_A (wl cy L ad u) s.heap.size q := fun q h => Or.inr h
  generalize va_A (wl cy L ad u) s.heap.size = A at hw hA hT ⊢
  have C0 : Cx p m meth c cX7_seen (some .int) 2 s _ wsX7_seen RX7 D cy := ⟨hx, hb, hr, hml, hown, hts, hlocks, hK⟩
  have hl := lv_entry ([.ref (ad 40), .int p0]) (n := 2) (Nat.le_of_ble_eq_true rfl)
  rw [lg_entry_eq]
  generalize (lg_sl ([.ref (ad 40), .int p0]) ++ List.replicate (2 - (lg_sl ([.ref (ad 40), .int p0])).length) Slot.unset).toArray = ls at hl ⊢
  have hl : lv_has ls 2 [(0, .ref (ad 40)), (1, .int p0)] := hl
  unfold f_X7_seen at h
  refine lv_iload_n hx hb dX7_seen_0 rfl (lv_at hl 1 rfl) ?_
  refine lv_if_lt (tgt := 10) hx hb dX7_seen_1 (by decide) (fun hc => ?_) (fun hc => ?_)
  · rw [if_pos hc] at h
    exact x_throwIO (text := "no such weak reference") hx hb hst hown (hts _ k_X7_seen_1) (hts _ k_X7_seen_2) (fun w h => hts w ((fun _ h => List.mem_cons_of_mem _ (List.mem_append_right _ h)) w h)) hT (by decide +kernel) hK hw (hl.1.trans hml.symm) dX7_seen_10 dX7_seen_13 dX7_seen_14 dX7_seen_16 dX7_seen_19 ht (Nat.le_of_ble_eq_true rfl) (Nat.le_of_ble_eq_true rfl) (Nat.le_of_ble_eq_true rfl) (Nat.le_of_ble_eq_true rfl) hlocks (by decide) (by decide) h
  · rw [if_neg hc] at h
    refine lv_iload_n hx hb dX7_seen_4 rfl (lv_at hl 1 rfl) ?_
    refine lv_bipush (v := 20) hx hb dX7_seen_5 (by decide) ?_
    refine lv_icmp_lt (tgt := 20) hx hb dX7_seen_7 (by decide) (fun hc => ?_) (fun hc => ?_)
    · rw [if_pos hc] at h
      refine lv_aload_n hx hb dX7_seen_20 rfl (lv_at hl 0 rfl) ?_
      refine r_getC (t2 := 4) (d := 42) hx hb hts n_X7_seen_X7 hown hK hw h_this (by decide) rfl 1 (by decide) rfl rfl (hts _ k_X7_seen_3) (fun _ q => q) dX7_seen_21 (fun hv1 => ?_)
      refine r_getC (t2 := 12) (d := 45) hx hb hts n_X7_seen_X4 hown hK hw hv1 (by decide) rfl 2 (by decide) rfl rfl (hts _ k_X7_seen_4) (fun _ q => q) dX7_seen_24 (fun hv2 => ?_)
      refine lv_iload_n hx hb dX7_seen_27 rfl (lv_at hl 1 rfl) ?_
      refine r_tald (n := 20) hx hb hK hw hv2 rfl dX7_seen_28 h (fun r3 hv_r3 h => ?_)
      refine r_bI (fun o ho => r_sI (As := [va_re ad r3]) (rest := []) ⟨hx, hb, hml, hown, hts⟩ (c_X7_numberOf l D cy L ad N r3 u o hv_r3 ho) (va_cwS 1 hts gX7_seen_X7_numberOf rfl rfl rfl (by decide +kernel) ⟨Nat.le_of_ble_eq_true rfl, Nat.le_of_ble_eq_true rfl⟩) hw hK rfl hl.1 rfl (Nat.le_of_ble_eq_true rfl) dX7_seen_29 ⟨Nat.zero_le _, Nat.zero_le _⟩) hw hA h (fun x4 u H locs hw h => ?_)
      exact x_iret (b := false) (ad2 := ad) hx hb hr hlocks hK (fun _ _ => rfl) hw h (by decide) (by decide) dX7_seen_32
    · rw [if_neg hc] at h
      exact x_throwIO (text := "no such weak reference") hx hb hst hown (hts _ k_X7_seen_1) (hts _ k_X7_seen_2) (fun w h => hts w ((fun _ h => List.mem_cons_of_mem _ (List.mem_append_right _ h)) w h)) hT (by decide +kernel) hK hw (hl.1.trans hml.symm) dX7_seen_10 dX7_seen_13 dX7_seen_14 dX7_seen_16 dX7_seen_19 ht (Nat.le_of_ble_eq_true rfl) (Nat.le_of_ble_eq_true rfl) (Nat.le_of_ble_eq_true rfl) (Nat.le_of_ble_eq_true rfl) hlocks (by decide) (by decide) h
theorem k_X7_object_2 : Cond.initialized "java/lang/IndexOutOfBoundsException" ∈ wsX7_object := List.mem_of_getElem? (i := 2) (by rfl)
theorem k_X7_object_1 : Cond.classLink RX7 40 "java/lang/IndexOutOfBoundsException" ∈ wsX7_object := List.mem_of_getElem? (i := 1) (by rfl)
theorem k_X7_object_3 : Cond.fieldLink RX7 18 "RingHeap" "store" "LRingHeap$Store;" ∈ wsX7_object := List.mem_of_getElem? (i := 3) (by rfl)
theorem n_X7_object_X7 : ∀ w ∈ u_ws RX7 TX7 5, w ∈ wsX7_object := fun _ h => List.mem_cons_of_mem _ (List.mem_append_left _ (List.mem_append_left _ (List.mem_append_left _ (List.mem_append_left _ (List.mem_append_right _ h)))))
def f_X7_object (N : Nat) (p0 : Int32) (p1 : Int32) (u : Mm) : Option (Nat × Int32 × Bool × Mm) :=
  if p1 < 0 then (some (1, 0, false, u)) else (if p1 < 8 then (bd (f_X4_thing N p0 u) (fun r2 u => nl r2 (some (0, (-1), false, u)) (fun t3 => bd (f_X5_tell N t3 p1 u) (fun x5 u => some (0, x5, false, u))))) else (some (1, 0, false, u)))
set_option maxHeartbeats 4000000 in
set_option maxRecDepth 100000 in
theorem c_X7_object (l : Launch) (hst : l.stackTraces = false) (D : va_G) (cy : Nat → ClassId) (L nw : List Nat) (ad : Nat → Nat) (N : Nat) (p0 : Int32) (p1 : Int32) (u : Mm) (o : Nat × Int32 × Bool × Mm) (h_this : vn L 7 40) (h : f_X7_object N p0 p1 u = some o) : MtX l yX7_object wsX7_object ({ frames := 6, cells := 1, slots := 6, locals := 82 } : Room) D cy L nw ad 1 6 [.ref (ad 40), .int p0, .int p1] u o := by
  intro sz
  refine vx_ofW (cc := cX7_object) (maxL := 4) (ret := (some .int)) (by decide) rfl ?_
  intro p e s m args below meth c s₁ B hml ht hv
  obtain ⟨rfl, hsz, ⟨hP, hK, hD0, hok⟩, hT, hC⟩ := hv
  have hx := B.exec
  have hb := B.bytes
  have hr := B.returns
  have hts := atoms_spec (ws := wsX7_object) B.pre
  have hown : s.vm.findClass RX7 = some m.cls := findClass_of_methodNamed B.named
  have hlocks := B.notSynchronized
  subst hsz
  have hw := wd_start hP hD0 hok
  have hA : ∀ q : Nat, s.heap.size ≤ q → va_A (wl cy L ad u) s.heap.size q := fun q h => Or.inr h
  generalize va_A (wl cy L ad u) s.heap.size = A at hw hA hT ⊢
  have C0 : Cx p m meth c cX7_object (some .int) 4 s _ wsX7_object RX7 D cy := ⟨hx, hb, hr, hml, hown, hts, hlocks, hK⟩
  have hl := lv_entry ([.ref (ad 40), .int p0, .int p1]) (n := 4) (Nat.le_of_ble_eq_true rfl)
  rw [lg_entry_eq]
  generalize (lg_sl ([.ref (ad 40), .int p0, .int p1]) ++ List.replicate (4 - (lg_sl ([.ref (ad 40), .int p0, .int p1])).length) Slot.unset).toArray = ls at hl ⊢
  have hl : lv_has ls 4 [(0, .ref (ad 40)), (1, .int p0), (2, .int p1)] := hl
  unfold f_X7_object at h
  refine lv_iload_n hx hb dX7_object_0 rfl (lv_at hl 2 rfl) ?_
  refine lv_if_lt (tgt := 10) hx hb dX7_object_1 (by decide) (fun hc => ?_) (fun hc => ?_)
  · rw [if_pos hc] at h
    exact x_throwIO (text := "no such what") hx hb hst hown (hts _ k_X7_object_1) (hts _ k_X7_object_2) (fun w h => hts w ((fun _ h => List.mem_cons_of_mem _ (List.mem_append_right _ h)) w h)) hT (by decide +kernel) hK hw (hl.1.trans hml.symm) dX7_object_10 dX7_object_13 dX7_object_14 dX7_object_16 dX7_object_19 ht (Nat.le_of_ble_eq_true rfl) (Nat.le_of_ble_eq_true rfl) (Nat.le_of_ble_eq_true rfl) (Nat.le_of_ble_eq_true rfl) hlocks (by decide) (by decide) h
  · rw [if_neg hc] at h
    refine lv_iload_n hx hb dX7_object_4 rfl (lv_at hl 2 rfl) ?_
    refine lv_bipush (v := 8) hx hb dX7_object_5 (by decide) ?_
    refine lv_icmp_lt (tgt := 20) hx hb dX7_object_7 (by decide) (fun hc => ?_) (fun hc => ?_)
    · rw [if_pos hc] at h
      refine lv_aload_n hx hb dX7_object_20 rfl (lv_at hl 0 rfl) ?_
      refine r_getC (t2 := 4) (d := 42) hx hb hts n_X7_object_X7 hown hK hw h_this (by decide) rfl 1 (by decide) rfl rfl (hts _ k_X7_object_3) (fun _ q => q) dX7_object_21 (fun hv1 => ?_)
      refine lv_iload_n hx hb dX7_object_24 rfl (lv_at hl 1 rfl) ?_
      refine r_bQ (fun o ho => r_vQ (As := [.int p0]) (rest := []) ⟨hx, hb, hml, hown, hts⟩ (c_X4_thing l D cy L ad N p0 u o hv1 ho) (cwV 1 hts gX7_object_X4_thing rfl rfl rfl (by decide +kernel) ⟨Nat.le_of_ble_eq_true rfl, Nat.le_of_ble_eq_true rfl⟩) hw hK hv1 (by decide) rfl rfl hl.1 rfl (Nat.le_of_ble_eq_true rfl) dX7_object_25 ⟨Nat.zero_le _, Nat.zero_le _⟩) hw hA h (fun r2 u H locs hw hv_r2 h => ?_)
      refine r_astoren (lv' := [(3, va_re ad r2), (0, .ref (ad 40)), (1, .int p0), (2, .int p1)]) hx hb dX7_object_28 rfl hl (by decide) rfl (fun ls hl => ?_)
      refine r_aloadn hx hb dX7_object_29 rfl (lv_at hl 0 rfl) ?_
      refine r_ifnonnull (tgt := 37) hx hb hv_r2 dX7_object_30 (by decide) h (fun e4 h9 => ?_) (fun t3 e4 hv_t3 h9 => ?_)
      · clear h
        subst e4
        have h := h9
        have hl : lv_has ls 4 [(3, va_re ad none), (0, .ref (ad 40)), (1, .int p0), (2, .int p1)] := hl
        refine lv_iconst (v := (-1)) hx hb dX7_object_33 (by decide) ?_
        refine lv_goto (tgt := 42) hx hb dX7_object_34 (by decide) ?_
        exact x_iret (b := false) (ad2 := ad) hx hb hr hlocks hK (fun _ _ => rfl) hw h (by decide) (by decide) dX7_object_42
      · clear h
        subst e4
        have h := h9
        have hl : lv_has ls 4 [(3, .ref (ad t3)), (0, .ref (ad 40)), (1, .int p0), (2, .int p1)] := hl
        refine lv_aload_n hx hb dX7_object_37 rfl (lv_at hl 0 rfl) ?_
        refine lv_iload_n hx hb dX7_object_38 rfl (lv_at hl 3 rfl) ?_
        refine r_bI (fun o ho => r_vI (As := [.int p1]) (rest := []) ⟨hx, hb, hml, hown, hts⟩ (c_X5_tell l D cy L ad N t3 p1 u o hv_t3 ho) (cwV 1 hts gX7_object_X5_tell rfl rfl rfl (by decide +kernel) ⟨Nat.le_of_ble_eq_true rfl, Nat.le_of_ble_eq_true rfl⟩) hw hK hv_t3 (by decide) rfl rfl hl.1 rfl (Nat.le_of_ble_eq_true rfl) dX7_object_39 ⟨Nat.zero_le _, Nat.zero_le _⟩) hw hA h (fun x5 u H locs hw h => ?_)
        exact x_iret (b := false) (ad2 := ad) hx hb hr hlocks hK (fun _ _ => rfl) hw h (by decide) (by decide) dX7_object_42
    · rw [if_neg hc] at h
      exact x_throwIO (text := "no such what") hx hb hst hown (hts _ k_X7_object_1) (hts _ k_X7_object_2) (fun w h => hts w ((fun _ h => List.mem_cons_of_mem _ (List.mem_append_right _ h)) w h)) hT (by decide +kernel) hK hw (hl.1.trans hml.symm) dX7_object_10 dX7_object_13 dX7_object_14 dX7_object_16 dX7_object_19 ht (Nat.le_of_ble_eq_true rfl) (Nat.le_of_ble_eq_true rfl) (Nat.le_of_ble_eq_true rfl) (Nat.le_of_ble_eq_true rfl) hlocks (by decide) (by decide) h
theorem k_X7_count_2 : Cond.initialized "java/lang/IndexOutOfBoundsException" ∈ wsX7_count := List.mem_of_getElem? (i := 2) (by rfl)
theorem k_X7_count_1 : Cond.classLink RX7 40 "java/lang/IndexOutOfBoundsException" ∈ wsX7_count := List.mem_of_getElem? (i := 1) (by rfl)
theorem k_X7_count_3 : Cond.fieldLink RX7 18 "RingHeap" "store" "LRingHeap$Store;" ∈ wsX7_count := List.mem_of_getElem? (i := 3) (by rfl)
theorem n_X7_count_X7 : ∀ w ∈ u_ws RX7 TX7 5, w ∈ wsX7_count := fun _ h => List.mem_cons_of_mem _ (List.mem_append_left _ (List.mem_append_left _ (List.mem_append_left _ (List.mem_append_left _ (List.mem_append_left _ (List.mem_append_left _ (List.mem_append_right _ h)))))))
theorem k_X7_count_4 : Cond.fieldLink RX7 145 "RingHeap$Store" "thingsThere" "I" ∈ wsX7_count := List.mem_of_getElem? (i := 4) (by rfl)
theorem n_X7_count_X4 : ∀ w ∈ u_ws RX4 TX4 6, w ∈ wsX7_count := fun _ h => List.mem_cons_of_mem _ (List.mem_append_left _ (List.mem_append_left _ (List.mem_append_left _ (List.mem_append_left _ (List.mem_append_left _ (List.mem_append_right _ h))))))
theorem k_X7_count_5 : Cond.fieldLink RX7 27 "RingHeap" "counting" "LRingHeap$Counting;" ∈ wsX7_count := List.mem_of_getElem? (i := 5) (by rfl)
theorem k_X7_count_6 : Cond.fieldLink RX7 148 "RingHeap$Counting" "list" "LRingHeap$Row;" ∈ wsX7_count := List.mem_of_getElem? (i := 6) (by rfl)
theorem n_X7_count_X1 : ∀ w ∈ u_ws RX1 TX1 4, w ∈ wsX7_count := fun _ h => List.mem_cons_of_mem _ (List.mem_append_left _ (List.mem_append_left _ (List.mem_append_left _ (List.mem_append_left _ (List.mem_append_right _ h)))))
theorem k_X7_count_7 : Cond.fieldLink RX7 151 "RingHeap$Row" "length" "I" ∈ wsX7_count := List.mem_of_getElem? (i := 7) (by rfl)
theorem n_X7_count_X3 : ∀ w ∈ u_ws RX3 TX3 2, w ∈ wsX7_count := fun _ h => List.mem_cons_of_mem _ (List.mem_append_left _ (List.mem_append_left _ (List.mem_append_left _ (List.mem_append_right _ h))))
theorem k_X7_count_8 : Cond.fieldLink RX7 109 "RingHeap$Counting" "wishes" "LRingHeap$Row;" ∈ wsX7_count := List.mem_of_getElem? (i := 8) (by rfl)
theorem k_X7_count_9 : Cond.fieldLink RX7 125 "RingHeap$Store" "words" "LRingHeap$Words;" ∈ wsX7_count := List.mem_of_getElem? (i := 9) (by rfl)
theorem k_X7_count_10 : Cond.fieldLink RX7 154 "RingHeap$Words" "free" "I" ∈ wsX7_count := List.mem_of_getElem? (i := 10) (by rfl)
theorem n_X7_count_X6 : ∀ w ∈ u_ws RX6 TX6 2, w ∈ wsX7_count := fun _ h => List.mem_cons_of_mem _ (List.mem_append_left _ (List.mem_append_left _ (List.mem_append_right _ h)))
theorem k_X7_count_11 : Cond.fieldLink RX7 157 "RingHeap$Store" "freedEver" "I" ∈ wsX7_count := List.mem_of_getElem? (i := 11) (by rfl)
theorem k_X7_count_12 : Cond.fieldLink RX7 36 "RingHeap" "collector" "LRingHeap$Collector;" ∈ wsX7_count := List.mem_of_getElem? (i := 12) (by rfl)
theorem k_X7_count_13 : Cond.fieldLink RX7 160 "RingHeap$Collector" "collections" "I" ∈ wsX7_count := List.mem_of_getElem? (i := 13) (by rfl)
theorem n_X7_count_X0 : ∀ w ∈ u_ws RX0 TX0 7, w ∈ wsX7_count := fun _ h => List.mem_cons_of_mem _ (List.mem_append_left _ (List.mem_append_right _ h))
theorem k_X7_count_14 : Cond.fieldLink RX7 122 "RingHeap" "moves" "I" ∈ wsX7_count := List.mem_of_getElem? (i := 14) (by rfl)
theorem k_X7_count_15 : Cond.fieldLink RX7 163 "RingHeap$Collector" "grayed" "I" ∈ wsX7_count := List.mem_of_getElem? (i := 15) (by rfl)
theorem k_X7_count_16 : Cond.fieldLink RX7 166 "RingHeap$Collector" "blackened" "I" ∈ wsX7_count := List.mem_of_getElem? (i := 16) (by rfl)
def f_X7_count (N : Nat) (p0 : Int32) (u : Mm) : Option (Nat × Int32 × Bool × Mm) :=
  if p0 < 0 then (some (1, 0, false, u)) else (if p0 < 9 then (if p0 = 0 then (pt (u.1 42 4) (fun x2 => some (0, x2, false, u))) else (if p0 = 1 then (pt (u.1 51 1) (fun x6 => some (0, x6, false, u))) else (if p0 = 2 then (pt (u.1 53 1) (fun x10 => some (0, x10, false, u))) else (if p0 = 3 then (pt (u.1 46 1) (fun x14 => some (0, x14, false, u))) else (if p0 = 4 then (pt (u.1 42 5) (fun x17 => some (0, x17, false, u))) else (if p0 = 5 then (pt (u.1 55 4) (fun x20 => some (0, x20, false, u))) else (if p0 = 6 then (pt (u.1 40 4) (fun x22 => some (0, x22, false, u))) else (if p0 = 7 then (pt (u.1 55 5) (fun x25 => some (0, x25, false, u))) else (pt (u.1 55 6) (fun x28 => some (0, x28, false, u))))))))))) else (some (1, 0, false, u)))
set_option maxHeartbeats 4000000 in
set_option maxRecDepth 100000 in
theorem c_X7_count (l : Launch) (hst : l.stackTraces = false) (D : va_G) (cy : Nat → ClassId) (L nw : List Nat) (ad : Nat → Nat) (N : Nat) (p0 : Int32) (u : Mm) (o : Nat × Int32 × Bool × Mm) (h_this : vn L 7 40) (h : f_X7_count N p0 u = some o) : MtX l yX7_count wsX7_count ({ frames := 6, cells := 1, slots := 6, locals := 82 } : Room) D cy L nw ad 1 6 [.ref (ad 40), .int p0] u o := by
  intro sz
  refine vx_ofW (cc := cX7_count) (maxL := 2) (ret := (some .int)) (by decide) rfl ?_
  intro p e s m args below meth c s₁ B hml ht hv
  obtain ⟨rfl, hsz, ⟨hP, hK, hD0, hok⟩, hT, hC⟩ := hv
  have hx := B.exec
  have hb := B.bytes
  have hr := B.returns
  have hts := atoms_spec (ws := wsX7_count) B.pre
  have hown : s.vm.findClass RX7 = some m.cls := findClass_of_methodNamed B.named
  have hlocks := B.notSynchronized
  subst hsz
  have hw := wd_start hP hD0 hok
  have hA : ∀ q : Nat, s.heap.size ≤ q → va_A (wl cy L ad u) s.heap.size q := fun q h => Or.inr h
  generalize va_A (wl cy L ad u) s.heap.size = A at hw hA hT ⊢
  have C0 : Cx p m meth c cX7_count (some .int) 2 s _ wsX7_count RX7 D cy := ⟨hx, hb, hr, hml, hown, hts, hlocks, hK⟩
  have hl := lv_entry ([.ref (ad 40), .int p0]) (n := 2) (Nat.le_of_ble_eq_true rfl)
  rw [lg_entry_eq]
  generalize (lg_sl ([.ref (ad 40), .int p0]) ++ List.replicate (2 - (lg_sl ([.ref (ad 40), .int p0])).length) Slot.unset).toArray = ls at hl ⊢
  have hl : lv_has ls 2 [(0, .ref (ad 40)), (1, .int p0)] := hl
  unfold f_X7_count at h
  refine lv_iload_n hx hb dX7_count_0 rfl (lv_at hl 1 rfl) ?_
  refine lv_if_lt (tgt := 10) hx hb dX7_count_1 (by decide) (fun hc => ?_) (fun hc => ?_)
  · rw [if_pos hc] at h
    exact x_throwIO (text := "no such what") hx hb hst hown (hts _ k_X7_count_1) (hts _ k_X7_count_2) (fun w h => hts w ((fun _ h => List.mem_cons_of_mem _ (List.mem_append_right _ h)) w h)) hT (by decide +kernel) hK hw (hl.1.trans hml.symm) dX7_count_10 dX7_count_13 dX7_count_14 dX7_count_16 dX7_count_19 ht (Nat.le_of_ble_eq_true rfl) (Nat.le_of_ble_eq_true rfl) (Nat.le_of_ble_eq_true rfl) (Nat.le_of_ble_eq_true rfl) hlocks (by decide) (by decide) h
  · rw [if_neg hc] at h
    refine lv_iload_n hx hb dX7_count_4 rfl (lv_at hl 1 rfl) ?_
    refine lv_bipush (v := 9) hx hb dX7_count_5 (by decide) ?_
    refine lv_icmp_lt (tgt := 20) hx hb dX7_count_7 (by decide) (fun hc => ?_) (fun hc => ?_)
    · rw [if_pos hc] at h
      refine lv_iload_n hx hb dX7_count_20 rfl (lv_at hl 1 rfl) ?_
      by_cases hq3 : p0 = 0
      · rw [if_pos hq3] at h
        refine r_tin (tgt := 68) (k := 0) (off := 47) hx hb dX7_count_21 hq3 (by decide) (by decide) (by decide) (by decide) ?_
        refine lv_aload_n hx hb dX7_count_68 rfl (lv_at hl 0 rfl) ?_
        refine r_getC (t2 := 4) (d := 42) hx hb hts n_X7_count_X7 hown hK hw h_this (by decide) rfl 1 (by decide) rfl rfl (hts _ k_X7_count_3) (fun _ q => q) dX7_count_69 (fun hv1 => ?_)
        refine r_getI hx hb hts n_X7_count_X4 hown hK hw hv1 (by decide) rfl 4 (by decide) rfl (hts _ k_X7_count_4) (fun _ q => q) dX7_count_72 h (fun x2 h => ?_)
        exact x_iret (b := false) (ad2 := ad) hx hb hr hlocks hK (fun _ _ => rfl) hw h (by decide) (by decide) dX7_count_75
      · rw [if_neg hq3] at h
        by_cases hq7 : p0 = 1
        · rw [if_pos hq7] at h
          refine r_tin (tgt := 76) (k := 1) (off := 55) hx hb dX7_count_21 hq7 (by decide) (by decide) (by decide) (by decide) ?_
          refine lv_aload_n hx hb dX7_count_76 rfl (lv_at hl 0 rfl) ?_
          refine r_getC (t2 := 1) (d := 48) hx hb hts n_X7_count_X7 hown hK hw h_this (by decide) rfl 2 (by decide) rfl rfl (hts _ k_X7_count_5) (fun _ q => q) dX7_count_77 (fun hv4 => ?_)
          refine r_getC (t2 := 3) (d := 51) hx hb hts n_X7_count_X1 hown hK hw hv4 (by decide) rfl 2 (by decide) rfl rfl (hts _ k_X7_count_6) (fun _ q => q) dX7_count_80 (fun hv5 => ?_)
          refine r_getI hx hb hts n_X7_count_X3 hown hK hw hv5 (by decide) rfl 1 (by decide) rfl (hts _ k_X7_count_7) (fun _ q => q) dX7_count_83 h (fun x6 h => ?_)
          exact x_iret (b := false) (ad2 := ad) hx hb hr hlocks hK (fun _ _ => rfl) hw h (by decide) (by decide) dX7_count_86
        · rw [if_neg hq7] at h
          by_cases hq11 : p0 = 2
          · rw [if_pos hq11] at h
            refine r_tin (tgt := 87) (k := 2) (off := 66) hx hb dX7_count_21 hq11 (by decide) (by decide) (by decide) (by decide) ?_
            refine lv_aload_n hx hb dX7_count_87 rfl (lv_at hl 0 rfl) ?_
            refine r_getC (t2 := 1) (d := 48) hx hb hts n_X7_count_X7 hown hK hw h_this (by decide) rfl 2 (by decide) rfl rfl (hts _ k_X7_count_5) (fun _ q => q) dX7_count_88 (fun hv8 => ?_)
            refine r_getC (t2 := 3) (d := 53) hx hb hts n_X7_count_X1 hown hK hw hv8 (by decide) rfl 3 (by decide) rfl rfl (hts _ k_X7_count_8) (fun _ q => q) dX7_count_91 (fun hv9 => ?_)
            refine r_getI hx hb hts n_X7_count_X3 hown hK hw hv9 (by decide) rfl 1 (by decide) rfl (hts _ k_X7_count_7) (fun _ q => q) dX7_count_94 h (fun x10 h => ?_)
            exact x_iret (b := false) (ad2 := ad) hx hb hr hlocks hK (fun _ _ => rfl) hw h (by decide) (by decide) dX7_count_97
          · rw [if_neg hq11] at h
            by_cases hq15 : p0 = 3
            · rw [if_pos hq15] at h
              refine r_tin (tgt := 98) (k := 3) (off := 77) hx hb dX7_count_21 hq15 (by decide) (by decide) (by decide) (by decide) ?_
              refine lv_aload_n hx hb dX7_count_98 rfl (lv_at hl 0 rfl) ?_
              refine r_getC (t2 := 4) (d := 42) hx hb hts n_X7_count_X7 hown hK hw h_this (by decide) rfl 1 (by decide) rfl rfl (hts _ k_X7_count_3) (fun _ q => q) dX7_count_99 (fun hv12 => ?_)
              refine r_getC (t2 := 6) (d := 46) hx hb hts n_X7_count_X4 hown hK hw hv12 (by decide) rfl 3 (by decide) rfl rfl (hts _ k_X7_count_9) (fun _ q => q) dX7_count_102 (fun hv13 => ?_)
              refine r_getI hx hb hts n_X7_count_X6 hown hK hw hv13 (by decide) rfl 1 (by decide) rfl (hts _ k_X7_count_10) (fun _ q => q) dX7_count_105 h (fun x14 h => ?_)
              exact x_iret (b := false) (ad2 := ad) hx hb hr hlocks hK (fun _ _ => rfl) hw h (by decide) (by decide) dX7_count_108
            · rw [if_neg hq15] at h
              by_cases hq18 : p0 = 4
              · rw [if_pos hq18] at h
                refine r_tin (tgt := 109) (k := 4) (off := 88) hx hb dX7_count_21 hq18 (by decide) (by decide) (by decide) (by decide) ?_
                refine lv_aload_n hx hb dX7_count_109 rfl (lv_at hl 0 rfl) ?_
                refine r_getC (t2 := 4) (d := 42) hx hb hts n_X7_count_X7 hown hK hw h_this (by decide) rfl 1 (by decide) rfl rfl (hts _ k_X7_count_3) (fun _ q => q) dX7_count_110 (fun hv16 => ?_)
                refine r_getI hx hb hts n_X7_count_X4 hown hK hw hv16 (by decide) rfl 5 (by decide) rfl (hts _ k_X7_count_11) (fun _ q => q) dX7_count_113 h (fun x17 h => ?_)
                exact x_iret (b := false) (ad2 := ad) hx hb hr hlocks hK (fun _ _ => rfl) hw h (by decide) (by decide) dX7_count_116
              · rw [if_neg hq18] at h
                by_cases hq21 : p0 = 5
                · rw [if_pos hq21] at h
                  refine r_tin (tgt := 117) (k := 5) (off := 96) hx hb dX7_count_21 hq21 (by decide) (by decide) (by decide) (by decide) ?_
                  refine lv_aload_n hx hb dX7_count_117 rfl (lv_at hl 0 rfl) ?_
                  refine r_getC (t2 := 0) (d := 55) hx hb hts n_X7_count_X7 hown hK hw h_this (by decide) rfl 3 (by decide) rfl rfl (hts _ k_X7_count_12) (fun _ q => q) dX7_count_118 (fun hv19 => ?_)
                  refine r_getI hx hb hts n_X7_count_X0 hown hK hw hv19 (by decide) rfl 4 (by decide) rfl (hts _ k_X7_count_13) (fun _ q => q) dX7_count_121 h (fun x20 h => ?_)
                  exact x_iret (b := false) (ad2 := ad) hx hb hr hlocks hK (fun _ _ => rfl) hw h (by decide) (by decide) dX7_count_124
                · rw [if_neg hq21] at h
                  by_cases hq23 : p0 = 6
                  · rw [if_pos hq23] at h
                    refine r_tin (tgt := 125) (k := 6) (off := 104) hx hb dX7_count_21 hq23 (by decide) (by decide) (by decide) (by decide) ?_
                    refine lv_aload_n hx hb dX7_count_125 rfl (lv_at hl 0 rfl) ?_
                    refine r_getI hx hb hts n_X7_count_X7 hown hK hw h_this (by decide) rfl 4 (by decide) rfl (hts _ k_X7_count_14) (fun _ q => q) dX7_count_126 h (fun x22 h => ?_)
                    exact x_iret (b := false) (ad2 := ad) hx hb hr hlocks hK (fun _ _ => rfl) hw h (by decide) (by decide) dX7_count_129
                  · rw [if_neg hq23] at h
                    by_cases hq26 : p0 = 7
                    · rw [if_pos hq26] at h
                      refine r_tin (tgt := 130) (k := 7) (off := 109) hx hb dX7_count_21 hq26 (by decide) (by decide) (by decide) (by decide) ?_
                      refine lv_aload_n hx hb dX7_count_130 rfl (lv_at hl 0 rfl) ?_
                      refine r_getC (t2 := 0) (d := 55) hx hb hts n_X7_count_X7 hown hK hw h_this (by decide) rfl 3 (by decide) rfl rfl (hts _ k_X7_count_12) (fun _ q => q) dX7_count_131 (fun hv24 => ?_)
                      refine r_getI hx hb hts n_X7_count_X0 hown hK hw hv24 (by decide) rfl 5 (by decide) rfl (hts _ k_X7_count_15) (fun _ q => q) dX7_count_134 h (fun x25 h => ?_)
                      exact x_iret (b := false) (ad2 := ad) hx hb hr hlocks hK (fun _ _ => rfl) hw h (by decide) (by decide) dX7_count_137
                    · rw [if_neg hq26] at h
                      refine lv_tableOut (tgt := 138) hx hb dX7_count_21 (by have := i32_ne hq3; have := i32_ne hq7; have := i32_ne hq11; have := i32_ne hq15; have := i32_ne hq18; have := i32_ne hq21; have := i32_ne hq23; have := i32_ne hq26; simp only [i32_0, i32_1, i32_2, i32_3, i32_4, i32_5, i32_6, i32_7] at *; omega) (by decide) ?_
                      refine lv_aload_n hx hb dX7_count_138 rfl (lv_at hl 0 rfl) ?_
                      refine r_getC (t2 := 0) (d := 55) hx hb hts n_X7_count_X7 hown hK hw h_this (by decide) rfl 3 (by decide) rfl rfl (hts _ k_X7_count_12) (fun _ q => q) dX7_count_139 (fun hv27 => ?_)
                      refine r_getI hx hb hts n_X7_count_X0 hown hK hw hv27 (by decide) rfl 6 (by decide) rfl (hts _ k_X7_count_16) (fun _ q => q) dX7_count_142 h (fun x28 h => ?_)
                      exact x_iret (b := false) (ad2 := ad) hx hb hr hlocks hK (fun _ _ => rfl) hw h (by decide) (by decide) dX7_count_145
    · rw [if_neg hc] at h
      exact x_throwIO (text := "no such what") hx hb hst hown (hts _ k_X7_count_1) (hts _ k_X7_count_2) (fun w h => hts w ((fun _ h => List.mem_cons_of_mem _ (List.mem_append_right _ h)) w h)) hT (by decide +kernel) hK hw (hl.1.trans hml.symm) dX7_count_10 dX7_count_13 dX7_count_14 dX7_count_16 dX7_count_19 ht (Nat.le_of_ble_eq_true rfl) (Nat.le_of_ble_eq_true rfl) (Nat.le_of_ble_eq_true rfl) (Nat.le_of_ble_eq_true rfl) hlocks (by decide) (by decide) h
theorem k_X7_at_2 : Cond.initialized "java/lang/IndexOutOfBoundsException" ∈ wsX7_at := List.mem_of_getElem? (i := 2) (by rfl)
theorem k_X7_at_1 : Cond.classLink RX7 40 "java/lang/IndexOutOfBoundsException" ∈ wsX7_at := List.mem_of_getElem? (i := 1) (by rfl)
theorem k_X7_at_3 : Cond.fieldLink RX7 18 "RingHeap" "store" "LRingHeap$Store;" ∈ wsX7_at := List.mem_of_getElem? (i := 3) (by rfl)
theorem n_X7_at_X7 : ∀ w ∈ u_ws RX7 TX7 5, w ∈ wsX7_at := fun _ h => List.mem_cons_of_mem _ (List.mem_append_left _ (List.mem_append_left _ (List.mem_append_left _ (List.mem_append_left _ (List.mem_append_right _ h)))))
theorem k_X7_at_4 : Cond.fieldLink RX7 125 "RingHeap$Store" "words" "LRingHeap$Words;" ∈ wsX7_at := List.mem_of_getElem? (i := 4) (by rfl)
theorem n_X7_at_X4 : ∀ w ∈ u_ws RX4 TX4 6, w ∈ wsX7_at := fun _ h => List.mem_cons_of_mem _ (List.mem_append_left _ (List.mem_append_left _ (List.mem_append_left _ (List.mem_append_right _ h))))
def f_X7_at (N : Nat) (p0 : Int32) (u : Mm) : Option (Nat × Int32 × Bool × Mm) :=
  if p0 < 0 then (some (1, 0, false, u)) else (if p0 < 400 then (bd (f_X6_owner N p0 u) (fun r3 u => bd (f_X7_numberOf N r3 u) (fun x4 u => some (0, x4, false, u)))) else (some (1, 0, false, u)))
set_option maxHeartbeats 4000000 in
set_option maxRecDepth 100000 in
theorem c_X7_at (l : Launch) (hst : l.stackTraces = false) (D : va_G) (cy : Nat → ClassId) (L nw : List Nat) (ad : Nat → Nat) (N : Nat) (p0 : Int32) (u : Mm) (o : Nat × Int32 × Bool × Mm) (h_this : vn L 7 40) (h : f_X7_at N p0 u = some o) : MtX l yX7_at wsX7_at ({ frames := 6, cells := 1, slots := 6, locals := 82 } : Room) D cy L nw ad 1 6 [.ref (ad 40), .int p0] u o := by
  intro sz
  refine vx_ofW (cc := cX7_at) (maxL := 2) (ret := (some .int)) (by decide) rfl ?_
  intro p e s m args below meth c s₁ B hml ht hv
  obtain ⟨rfl, hsz, ⟨hP, hK, hD0, hok⟩, hT, hC⟩ := hv
  have hx := B.exec
  have hb := B.bytes
  have hr := B.returns
  have hts := atoms_spec (ws := wsX7_at) B.pre
  have hown : s.vm.findClass RX7 = some m.cls := findClass_of_methodNamed B.named
  have hlocks := B.notSynchronized
  subst hsz
  have hw := wd_start hP hD0 hok
  have hA : ∀ q : Nat, s.heap.size ≤ q → va_A (wl cy L ad u) s.heap.size q := fun q h => Or.inr h
  generalize va_A (wl cy L ad u) s.heap.size = A at hw hA hT ⊢
  have C0 : Cx p m meth c cX7_at (some .int) 2 s _ wsX7_at RX7 D cy := ⟨hx, hb, hr, hml, hown, hts, hlocks, hK⟩
  have hl := lv_entry ([.ref (ad 40), .int p0]) (n := 2) (Nat.le_of_ble_eq_true rfl)
  rw [lg_entry_eq]
  generalize (lg_sl ([.ref (ad 40), .int p0]) ++ List.replicate (2 - (lg_sl ([.ref (ad 40), .int p0])).length) Slot.unset).toArray = ls at hl ⊢
  have hl : lv_has ls 2 [(0, .ref (ad 40)), (1, .int p0)] := hl
  unfold f_X7_at at h
  refine lv_iload_n hx hb dX7_at_0 rfl (lv_at hl 1 rfl) ?_
  refine lv_if_lt (tgt := 11) hx hb dX7_at_1 (by decide) (fun hc => ?_) (fun hc => ?_)
  · rw [if_pos hc] at h
    exact x_throwIO (text := "no such word") hx hb hst hown (hts _ k_X7_at_1) (hts _ k_X7_at_2) (fun w h => hts w ((fun _ h => List.mem_cons_of_mem _ (List.mem_append_right _ h)) w h)) hT (by decide +kernel) hK hw (hl.1.trans hml.symm) dX7_at_11 dX7_at_14 dX7_at_15 dX7_at_17 dX7_at_20 ht (Nat.le_of_ble_eq_true rfl) (Nat.le_of_ble_eq_true rfl) (Nat.le_of_ble_eq_true rfl) (Nat.le_of_ble_eq_true rfl) hlocks (by decide) (by decide) h
  · rw [if_neg hc] at h
    refine lv_iload_n hx hb dX7_at_4 rfl (lv_at hl 1 rfl) ?_
    refine lv_sipush (v := 400) hx hb dX7_at_5 (by decide) ?_
    refine lv_icmp_lt (tgt := 21) hx hb dX7_at_8 (by decide) (fun hc => ?_) (fun hc => ?_)
    · rw [if_pos hc] at h
      refine lv_aload_n hx hb dX7_at_21 rfl (lv_at hl 0 rfl) ?_
      refine r_getC (t2 := 4) (d := 42) hx hb hts n_X7_at_X7 hown hK hw h_this (by decide) rfl 1 (by decide) rfl rfl (hts _ k_X7_at_3) (fun _ q => q) dX7_at_22 (fun hv1 => ?_)
      refine r_getC (t2 := 6) (d := 46) hx hb hts n_X7_at_X4 hown hK hw hv1 (by decide) rfl 3 (by decide) rfl rfl (hts _ k_X7_at_4) (fun _ q => q) dX7_at_25 (fun hv2 => ?_)
      refine lv_iload_n hx hb dX7_at_28 rfl (lv_at hl 1 rfl) ?_
      refine r_bQ (fun o ho => r_vQ (As := [.int p0]) (rest := []) ⟨hx, hb, hml, hown, hts⟩ (c_X6_owner l D cy L ad N p0 u o hv2 ho) (cwV 1 hts gX7_at_X6_owner rfl rfl rfl (by decide +kernel) ⟨Nat.le_of_ble_eq_true rfl, Nat.le_of_ble_eq_true rfl⟩) hw hK hv2 (by decide) rfl rfl hl.1 rfl (Nat.le_of_ble_eq_true rfl) dX7_at_29 ⟨Nat.zero_le _, Nat.zero_le _⟩) hw hA h (fun r3 u H locs hw hv_r3 h => ?_)
      refine r_bI (fun o ho => r_sI (As := [va_re ad r3]) (rest := []) ⟨hx, hb, hml, hown, hts⟩ (c_X7_numberOf l D cy L ad N r3 u o hv_r3 ho) (va_cwS 1 hts gX7_at_X7_numberOf rfl rfl rfl (by decide +kernel) ⟨Nat.le_of_ble_eq_true rfl, Nat.le_of_ble_eq_true rfl⟩) hw hK rfl hl.1 rfl (Nat.le_of_ble_eq_true rfl) dX7_at_32 ⟨Nat.zero_le _, Nat.zero_le _⟩) hw hA h (fun x4 u H locs hw h => ?_)
      exact x_iret (b := false) (ad2 := ad) hx hb hr hlocks hK (fun _ _ => rfl) hw h (by decide) (by decide) dX7_at_35
    · rw [if_neg hc] at h
      exact x_throwIO (text := "no such word") hx hb hst hown (hts _ k_X7_at_1) (hts _ k_X7_at_2) (fun w h => hts w ((fun _ h => List.mem_cons_of_mem _ (List.mem_append_right _ h)) w h)) hT (by decide +kernel) hK hw (hl.1.trans hml.symm) dX7_at_11 dX7_at_14 dX7_at_15 dX7_at_17 dX7_at_20 ht (Nat.le_of_ble_eq_true rfl) (Nat.le_of_ble_eq_true rfl) (Nat.le_of_ble_eq_true rfl) (Nat.le_of_ble_eq_true rfl) hlocks (by decide) (by decide) h

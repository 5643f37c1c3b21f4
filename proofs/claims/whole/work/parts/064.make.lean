theorem k_X4_place_1 : Cond.fieldLink RX4 27 "RingHeap$Store" "words" "LRingHeap$Words;" ∈ wsX4_place := List.mem_of_getElem? (i := 1) (by rfl)
theorem n_X4_place_X4 : ∀ w ∈ u_ws RX4 TX4 6, w ∈ wsX4_place := fun _ h => List.mem_cons_of_mem _ (List.mem_append_left _ (List.mem_append_left _ (List.mem_append_left _ (List.mem_append_right _ h))))
theorem k_X4_place_2 : Cond.fieldLink RX4 43 "RingHeap$Kind" "size" "I" ∈ wsX4_place := List.mem_of_getElem? (i := 2) (by rfl)
theorem n_X4_place_X2 : ∀ w ∈ u_ws RX2 TX2 4, w ∈ wsX4_place := fun _ h => List.mem_cons_of_mem _ (List.mem_append_left _ (List.mem_append_left _ (List.mem_append_right _ h)))
theorem k_X4_place_3 : Cond.classLink RX4 9 RX5 ∈ wsX4_place := List.mem_of_getElem? (i := 3) (by rfl)
theorem k_X4_place_4 : Cond.instantiable RX5 11 ∈ wsX4_place := List.mem_of_getElem? (i := 4) (by rfl)
theorem k_X4_place_5 : Cond.initialized RX5 ∈ wsX4_place := List.mem_of_getElem? (i := 5) (by rfl)
theorem n_X4_place_X5 : ∀ w ∈ u_ws RX5 TX5 11, w ∈ wsX4_place := fun _ h => List.mem_cons_of_mem _ (List.mem_append_left _ (List.mem_append_right _ h))
theorem k_X4_place_19 : Cond.methodLink RX4 53 yX5_init ∈ wsX4_place := List.mem_of_getElem? (i := 19) (by rfl)
theorem k_X4_place_20 : Cond.instanceMethod yX5_init ∈ wsX4_place := List.mem_of_getElem? (i := 20) (by rfl)
theorem k_X4_place_6 : Cond.fieldLink RX4 11 "RingHeap$Store" "things" "[LRingHeap$Thing;" ∈ wsX4_place := List.mem_of_getElem? (i := 6) (by rfl)
theorem k_X4_place_7 : Cond.fieldLink RX4 60 "RingHeap$Store" "thingsThere" "I" ∈ wsX4_place := List.mem_of_getElem? (i := 7) (by rfl)
def f_X4_place (N : Nat) (t : Nat) (p0 : Nat) (u : Mm) : Option (Int32 × Bool × Mm) :=
  bd (f_X4_leastFreeNumber N u) (fun x1 u => pt (u.1 p0 2) (fun x3 => bd (f_X6_gapFor N x3 u) (fun x4 u => if x1 < 0 then (some ((-2), false, u)) else (if 80 ≤ x1 then (some ((-2), false, u)) else (if 0 ≤ x4 then (ck (zB (u.1 p0 3)) (pt (nT u t x1 p0) (fun u => bv (f_X6_give N t x4 u) (fun u => ck (bI x1 80) (pt (sR u 43 (ix x1) (some t)) (fun u => pt (u.1 42 4) (fun x7 => pt (sI u 42 4 (x7 + 1)) (fun u => some (x1, true, u))))))))) else (some ((-2), false, u)))))))
set_option maxHeartbeats 4000000 in
set_option maxRecDepth 100000 in
theorem c_X4_place (l : Launch) (D : va_G) (cy : Nat → ClassId) (L : List Nat) (ad : Nat → Nat) (N : Nat) (t : Nat) (p0 : Nat) (u : Mm) (o : Int32 × Bool × Mm) (h_this : vn L 4 42) (h_p0 : vn L 2 p0) (h_t : fT L t) (h : f_X4_place N t p0 u = some o) : MtP l yX4_place wsX4_place ({ frames := 2, cells := 2, slots := 17, locals := 34 } : Room) D cy L [t, t + 1] ad 2 17 [.ref (ad 42), .ref (ad p0)] u o := by
  intro sz
  refine Met.ofW (cc := cX4_place) (maxL := 5) (ret := (some .int)) (by decide) rfl ?_
  intro p e s m args below meth c s₁ B hml hv
  obtain ⟨rfl, hsz, ⟨hP, hK, hD0, hok⟩, hC⟩ := hv
  have hx := B.exec
  have hb := B.bytes
  have hr := B.returns
  have hts := atoms_spec (ws := wsX4_place) B.pre
  have hown : s.vm.findClass RX4 = some m.cls := findClass_of_methodNamed B.named
  have hlocks := B.notSynchronized
  subst hsz
  have hw := wd_start hP hD0 hok
  have hA : ∀ q : Nat, s.heap.size ≤ q → va_A (wl cy L ad u) s.heap.size q := fun q h => Or.inr h
  generalize va_A (wl cy L ad u) s.heap.size = A at hw hA ⊢
  have C0 : Cx p m meth c cX4_place (some .int) 5 s _ wsX4_place RX4 D cy := ⟨hx, hb, hr, hml, hown, hts, hlocks, hK⟩
  have hl := lv_entry ([.ref (ad 42), .ref (ad p0)]) (n := 5) (Nat.le_of_ble_eq_true rfl)
  rw [lg_entry_eq]
  generalize (lg_sl ([.ref (ad 42), .ref (ad p0)]) ++ List.replicate (5 - (lg_sl ([.ref (ad 42), .ref (ad p0)])).length) Slot.unset).toArray = ls at hl ⊢
  have hl : lv_has ls 5 [(0, .ref (ad 42)), (1, .ref (ad p0))] := hl
  unfold f_X4_place at h
  refine lv_aload_n hx hb dX4_place_0 rfl (lv_at hl 0 rfl) ?_
  refine r_bI (fun o ho => r_vI (As := []) (rest := []) ⟨hx, hb, hml, hown, hts⟩ (c_X4_leastFreeNumber l D cy L ad N u o h_this ho) (cwV 0 hts gX4_place_X4_leastFreeNumber rfl rfl rfl (by decide +kernel) ⟨Nat.le_of_ble_eq_true rfl, Nat.le_of_ble_eq_true rfl⟩) hw hK h_this (by decide) rfl rfl hl.1 rfl (Nat.le_of_ble_eq_true rfl) dX4_place_1 ⟨Nat.zero_le _, Nat.zero_le _⟩) hw hA h (fun x1 u H locs hw h => ?_)
  refine lv_istore_n (lv' := [(2, .int x1), (0, .ref (ad 42)), (1, .ref (ad p0))]) hx hb dX4_place_4 rfl hl (by decide) rfl (fun ls hl => ?_)
  refine lv_aload_n hx hb dX4_place_5 rfl (lv_at hl 1 rfl) ?_
  refine r_getC (t2 := 6) (d := 46) hx hb hts n_X4_place_X4 hown hK hw h_this (by decide) rfl 3 (by decide) rfl rfl (hts _ k_X4_place_1) (fun _ q => q) dX4_place_6 (fun hv2 => ?_)
  refine lv_aload_n hx hb dX4_place_9 rfl (lv_at hl 2 rfl) ?_
  refine r_getI hx hb hts n_X4_place_X2 hown hK hw h_p0 (by decide) rfl 2 (by decide) rfl (hts _ k_X4_place_2) (fun _ q => q) dX4_place_10 h (fun x3 h => ?_)
  refine r_bI (fun o ho => r_vI (As := [.int x3]) (rest := []) ⟨hx, hb, hml, hown, hts⟩ (c_X6_gapFor l D cy L ad N x3 u o hv2 ho) (cwV 1 hts gX4_place_X6_gapFor rfl rfl rfl (by decide +kernel) ⟨Nat.le_of_ble_eq_true rfl, Nat.le_of_ble_eq_true rfl⟩) hw hK hv2 (by decide) rfl rfl hl.1 rfl (Nat.le_of_ble_eq_true rfl) dX4_place_13 ⟨Nat.zero_le _, Nat.zero_le _⟩) hw hA h (fun x4 u H locs hw h => ?_)
  refine lv_istore_n (lv' := [(3, .int x4), (2, .int x1), (0, .ref (ad 42)), (1, .ref (ad p0))]) hx hb dX4_place_16 rfl hl (by decide) rfl (fun ls hl => ?_)
  refine lv_iload_n hx hb dX4_place_17 rfl (lv_at hl 1 rfl) ?_
  refine lv_if_lt (tgt := 31) hx hb dX4_place_18 (by decide) (fun hc => ?_) (fun hc => ?_)
  · rw [if_pos hc] at h
    refine lv_bipush (v := (-2)) hx hb dX4_place_31 (by decide) ?_
    exact p_iret (b := false) (ad2 := ad) hx hb hr hlocks hK (fun _ _ => rfl) hw h (by decide) (by decide) dX4_place_33
  · rw [if_neg hc] at h
    refine lv_iload_n hx hb dX4_place_21 rfl (lv_at hl 1 rfl) ?_
    refine lv_bipush (v := 80) hx hb dX4_place_22 (by decide) ?_
    refine lv_icmp_ge (tgt := 31) hx hb dX4_place_24 (by decide) (fun hc => ?_) (fun hc => ?_)
    · rw [if_pos hc] at h
      refine lv_bipush (v := (-2)) hx hb dX4_place_31 (by decide) ?_
      exact p_iret (b := false) (ad2 := ad) hx hb hr hlocks hK (fun _ _ => rfl) hw h (by decide) (by decide) dX4_place_33
    · rw [if_neg hc] at h
      refine lv_iload_n hx hb dX4_place_27 rfl (lv_at hl 0 rfl) ?_
      refine lv_if_ge (tgt := 34) hx hb dX4_place_28 (by decide) (fun hc => ?_) (fun hc => ?_)
      · rw [if_pos hc] at h
        refine va_new (ci := 5) (fs := [.int 0, .null, .null, .int 0, .int 0, .int 0, .int 0, .int 0, .int 0, .int 0, .int 0]) (C := RX5) (T := TX5) (N := 11) hx hb hts n_X4_place_X5 tyX5 tyX5_ok hown (hts _ k_X4_place_3) (hts _ k_X4_place_4) (hts _ k_X4_place_5) hK hw.1 hw.2.1 hw.2.2.1 hA rfl (fun j hj => by rcases (show j = 0 ∨ j = 1 ∨ j = 2 ∨ j = 3 ∨ j = 4 ∨ j = 5 ∨ j = 6 ∨ j = 7 ∨ j = 8 ∨ j = 9 ∨ j = 10 by omega) with rfl | rfl | rfl | rfl | rfl | rfl | rfl | rfl | rfl | rfl | rfl <;> rfl) (Nat.le_of_ble_eq_true rfl) (Nat.le_of_ble_eq_true rfl) dX4_place_34 (fun q0 H hP hD hS => ?_)
        refine W.widen (k := 1) (n := 11) (Nat.le_of_ble_eq_true rfl) (Nat.le_of_ble_eq_true rfl) ?_
        refine lv_dup hx hb dX4_place_37 rfl ?_
        refine lv_iload_n hx hb dX4_place_38 rfl (lv_at hl 1 rfl) ?_
        refine lv_aload_n hx hb dX4_place_39 rfl (lv_at hl 3 rfl) ?_
        have hOk := hw.2.2.2
        have hA1 : ∀ q : Nat, H.size ≤ q → A q := fun q h => hA q (Nat.le_trans hS.1 h)
        obtain ⟨hz0, h⟩ := ck_e h
        have hz := zB_e hz0
        obtain ⟨hPc, hDc, hFc⟩ := thing_cut hP hD h_p0 hA1
        refine va_callv (va_runI (As := [.int x1, .ref (ad p0)]) (rest := [.ref q0]) ⟨hx, hb, hml, hown, hts⟩ (c_X5_init l D cy q0 (ad p0) x1 (u.1 p0 0) (u.1 p0 1) (u.1 p0 2) (u.1 p0 3) H.size hz) (cwI 2 hts gX4_place_X5_init rfl rfl rfl (hts _ k_X4_place_5) (hts _ k_X4_place_19) (hts _ k_X4_place_20) rfl (by decide +kernel) ⟨Nat.le_of_ble_eq_true rfl, Nat.le_of_ble_eq_true rfl⟩) ⟨pcn_blind, fun U hU hW => pcn_of hPc hDc hK hC hU hW⟩ rfl rfl hl.1 rfl (lv_room (Nat.le_of_ble_eq_true rfl)) dX4_place_40 ⟨Nat.le_of_ble_eq_true rfl, Nat.le_of_ble_eq_true rfl⟩) hS (fun q _ h => hFc q h) hFc (fun q1 t9 H1 locs ht9 hvm hw9 hB hz1 hk1 hS => ?_)
        obtain ⟨hP1, hK1, hD1⟩ := hB
        rw [ht9] at hP1
        obtain ⟨ad9, hag, had9, hw⟩ := thing_join (num := x1) hOk hP hD hS h_p0 h_t.1 h_t.2.1 h_t.2.2 hA1 hk1 hP1 hD1
        subst had9
        obtain ⟨u, hu, h⟩ := pt_e h
        rw [← hu] at hw
        refine W.widen (k := 2) (n := 17) (Nat.le_of_ble_eq_true rfl) (Nat.le_of_ble_eq_true rfl) ?_
        have hl : lv_has ls 5 [(3, .int x4), (2, .int x1), (0, .ref (ad9 42)), (1, .ref (ad9 p0))] := by rw [hag 42 h_this.1, hag p0 h_p0.1]; exact hl
        refine lv_astore (lv' := [(4, .ref (ad9 t)), (3, .int x4), (2, .int x1), (0, .ref (ad9 42)), (1, .ref (ad9 p0))]) hx hb dX4_place_43 hl (by decide) rfl (fun ls hl => ?_)
        refine lv_aload_n hx hb dX4_place_45 rfl (lv_at hl 3 rfl) ?_
        refine r_getC (t2 := 6) (d := 46) hx hb hts n_X4_place_X4 hown hK hw (vn_app h_this) (by decide) rfl 3 (by decide) rfl rfl (hts _ k_X4_place_1) (fun _ q => q) dX4_place_46 (fun hv5 => ?_)
        refine lv_aload hx hb dX4_place_49 (lv_at hl 0 rfl) ?_
        refine lv_iload_n hx hb dX4_place_51 rfl (lv_at hl 1 rfl) ?_
        refine r_bV (fun o ho => r_vV (As := [.ref (ad9 t), .int x4]) (rest := []) ⟨hx, hb, hml, hown, hts⟩ (c_X6_give l D cy (L ++ [t, t + 1]) ad9 N t x4 u o hv5 (fT_vn h_t) ho) (cwV 2 hts gX4_place_X6_give rfl rfl rfl (by decide +kernel) ⟨Nat.le_of_ble_eq_true rfl, Nat.le_of_ble_eq_true rfl⟩) hw hK hv5 (by decide) rfl rfl hl.1 rfl (Nat.le_of_ble_eq_true rfl) dX4_place_52 ⟨Nat.le_of_ble_eq_true rfl, Nat.le_of_ble_eq_true rfl⟩) hw hA h (fun u H locs hw h => ?_)
        refine lv_aload_n hx hb dX4_place_55 rfl (lv_at hl 3 rfl) ?_
        refine r_getC (t2 := 12) (d := 43) hx hb hts n_X4_place_X4 hown hK hw (vn_app h_this) (by decide) rfl 0 (by decide) rfl rfl (hts _ k_X4_place_6) (fun _ q => q) dX4_place_56 (fun hv6 => ?_)
        refine lv_iload_n hx hb dX4_place_59 rfl (lv_at hl 2 rfl) ?_
        refine lv_aload hx hb dX4_place_60 (lv_at hl 0 rfl) ?_
        refine r_tast (n := 80) (v := (some t)) hx hb hK hw hv6 rfl (vr_some (fT_vn h_t)) dX4_place_62 h (fun u H locs hw h => ?_)
        refine lv_aload_n hx hb dX4_place_63 rfl (lv_at hl 3 rfl) ?_
        refine lv_dup hx hb dX4_place_64 rfl ?_
        refine r_getI hx hb hts n_X4_place_X4 hown hK hw (vn_app h_this) (by decide) rfl 4 (by decide) rfl (hts _ k_X4_place_7) (fun _ q => q) dX4_place_65 h (fun x7 h => ?_)
        refine lv_iconst (v := 1) hx hb dX4_place_68 (by decide) ?_
        refine lv_iadd hx hb dX4_place_69 ?_
        refine r_putI (ty := .int) hx hb hts n_X4_place_X4 tyX4 tyX4_ok nmX4 hown hK hw (vn_app h_this) (by decide) rfl 4 (by decide) rfl (hts _ k_X4_place_7) (fun _ q => q) rfl rfl rfl rfl dX4_place_70 h (fun u H locs hw h => ?_)
        refine lv_iload_n hx hb dX4_place_73 rfl (lv_at hl 2 rfl) ?_
        exact p_iret (b := true) (ad2 := ad9) hx hb hr hlocks hK hag hw h (by decide) (by decide) dX4_place_74
      · rw [if_neg hc] at h
        refine lv_bipush (v := (-2)) hx hb dX4_place_31 (by decide) ?_
        exact p_iret (b := false) (ad2 := ad) hx hb hr hlocks hK (fun _ _ => rfl) hw h (by decide) (by decide) dX4_place_33
theorem k_X7_make_2 : Cond.initialized "java/lang/IndexOutOfBoundsException" ∈ wsX7_make := List.mem_of_getElem? (i := 2) (by rfl)
theorem k_X7_make_1 : Cond.classLink RX7 40 "java/lang/IndexOutOfBoundsException" ∈ wsX7_make := List.mem_of_getElem? (i := 1) (by rfl)
theorem k_X7_make_3 : Cond.fieldLink RX7 11 "RingHeap" "kinds" "[LRingHeap$Kind;" ∈ wsX7_make := List.mem_of_getElem? (i := 3) (by rfl)
theorem n_X7_make_X7 : ∀ w ∈ u_ws RX7 TX7 5, w ∈ wsX7_make := fun _ h => List.mem_cons_of_mem _ (List.mem_append_left _ (List.mem_append_left _ (List.mem_append_left _ (List.mem_append_left _ (List.mem_append_left _ (List.mem_append_left _ (List.mem_append_left _ (List.mem_append_left _ (List.mem_append_right _ h)))))))))
theorem k_X7_make_4 : Cond.fieldLink RX7 18 "RingHeap" "store" "LRingHeap$Store;" ∈ wsX7_make := List.mem_of_getElem? (i := 4) (by rfl)
theorem k_X7_make_5 : Cond.fieldLink RX7 36 "RingHeap" "collector" "LRingHeap$Collector;" ∈ wsX7_make := List.mem_of_getElem? (i := 5) (by rfl)
def f_X7_make_77 (N : Nat) (t : Nat)  (r2 : Option Nat) (u : Mm) : Option (Nat × Int32 × Bool × Mm) :=
  nl r2 none (fun t12 => bd (f_X4_place N t t12 u) (fun x9 v9 => some (0, x9, v9.1, v9.2)))
set_option maxHeartbeats 4000000 in
set_option maxRecDepth 100000 in
theorem j_X7_make_77 {p : Program} {l : Launch} {e : Env} {s : State} {m : MethodId} {args : Array Value} {below : List Frame} {meth : Method} {c : Code} {D : va_G} {cy : Nat → ClassId} {L : List Nat} {ad : Nat → Nat} {A : Nat → Prop} {o : Nat × Int32 × Bool × Mm} (N : Nat) (t : Nat) (h_t : fT L t) (C0 : Cx p m meth c cX7_make (some .int) 3 s args wsX7_make RX7 D cy) (hA : ∀ q : Nat, s.heap.size ≤ q → A q) (hst : l.stackTraces = false) (hT : TX A s.heap s) (ht : ∀ x ∈ c.exceptionTable.toList, False) (hC : CN s)  : ∀ (r2 : Option Nat) (u : Mm) (H : Heap) (locs : List Loc) (ls : Array Slot), vn L 7 40 → vr L 2 r2 → Wd D cy L ad A s.heap u H locs → lv_has ls 3 [(0, .ref (ad 40)), (2, va_re ad r2)] → f_X7_make_77 N t  r2 u = some o → W p l e ({ frames := 7, cells := 2, slots := 17, locals := 161 } : Room) s m args below meth c H locs 0 0 (vx_MQ below (QcX D cy L [t, t + 1] ad A o) (XcX D cy L ad A o) args s 2 17 A) (F0 m 77 ls []) := by
  obtain ⟨hx, hb, hr, hml, hown, hts, hlocks, hK⟩ := id C0
  intro r2 u H locs ls hv_t0 hv_r2 hw hl h
  unfold f_X7_make_77 at h
  refine lv_aload_n hx hb dX7_make_77 rfl (lv_at hl 0 rfl) ?_
  refine r_getC (t2 := 4) (d := 42) hx hb hts n_X7_make_X7 hown hK hw hv_t0 (by decide) rfl 1 (by decide) rfl rfl (hts _ k_X7_make_4) (fun _ q => q) dX7_make_78 (fun hv11 => ?_)
  refine r_aloadn hx hb dX7_make_81 rfl (lv_at hl 1 rfl) ?_
  refine r_nn hv_r2 h (fun t12 e13 hv_t12 h9 => ?_)
  clear h
  subst e13
  have h := h9
  have hl : lv_has ls 3 [(0, .ref (ad 40)), (2, .ref (ad t12))] := hl
  refine r_bP (nw := [t, t + 1]) (fun o ho => r_vP (As := [.ref (ad t12)]) (rest := []) ⟨hx, hb, hml, hown, hts⟩ (c_X4_place l D cy L ad N t t12 u o hv11 hv_t12 h_t ho) (cwV 1 hts gX7_make_X4_place rfl rfl rfl (by decide +kernel) ⟨Nat.le_of_ble_eq_true rfl, Nat.le_of_ble_eq_true rfl⟩) hw hK hC hv11 (by decide) rfl rfl hl.1 rfl (Nat.le_of_ble_eq_true rfl) dX7_make_82 ⟨Nat.le_of_ble_eq_true rfl, Nat.le_of_ble_eq_true rfl⟩) hw hA h (fun x9 v9 ad9 H locs hag hw h => ?_)
  exact x_iret (b := v9.1) (ad2 := ad9) hx hb hr hlocks hK hag hw h (by decide) (by decide) dX7_make_85
def f_X7_make (N : Nat) (t : Nat) (p0 : Int32) (u : Mm) : Option (Nat × Int32 × Bool × Mm) :=
  if p0 < 0 then (some (1, 0, false, u)) else (if 10 ≤ p0 then (some (1, 0, false, u)) else (ck (bI p0 10) (pt (u.2 41 (ix p0)) (fun r2 => nl r2 (some (1, 0, false, u)) (fun t3 => ck (bI p0 10) (pt (u.2 41 (ix p0)) (fun r6 => nl r6 none (fun t8 => bd (f_X4_hasRoomFor N t8 u) (fun x10 u => if x10 = 0 then (bd (f_X0_run N u) (fun x16 u => bd (f_X4_hasRoomFor N t8 u) (fun x18 u => if x18 = 0 then (bd (f_X7_makeRoomByMoving N t8 u) (fun x19 u => if x19 = 0 then (some (0, (-2), false, u)) else (f_X7_make_77 N t (some t8) u))) else (f_X7_make_77 N t (some t8) u)))) else (f_X7_make_77 N t (some t8) u))))))))))
set_option maxHeartbeats 4000000 in
set_option maxRecDepth 100000 in
theorem c_X7_make (l : Launch) (hst : l.stackTraces = false) (D : va_G) (cy : Nat → ClassId) (L : List Nat) (ad : Nat → Nat) (N : Nat) (t : Nat) (p0 : Int32) (u : Mm) (o : Nat × Int32 × Bool × Mm) (h_this : vn L 7 40) (h_t : fT L t) (h : f_X7_make N t p0 u = some o) : MtX l yX7_make wsX7_make ({ frames := 7, cells := 2, slots := 17, locals := 161 } : Room) D cy L [t, t + 1] ad 2 17 [.ref (ad 40), .int p0] u o := by
  intro sz
  refine vx_ofW (cc := cX7_make) (maxL := 3) (ret := (some .int)) (by decide) rfl ?_
  intro p e s m args below meth c s₁ B hml ht hv
  obtain ⟨rfl, hsz, ⟨hP, hK, hD0, hok⟩, hT, hC⟩ := hv
  have hx := B.exec
  have hb := B.bytes
  have hr := B.returns
  have hts := atoms_spec (ws := wsX7_make) B.pre
  have hown : s.vm.findClass RX7 = some m.cls := findClass_of_methodNamed B.named
  have hlocks := B.notSynchronized
  subst hsz
  have hw := wd_start hP hD0 hok
  have hA : ∀ q : Nat, s.heap.size ≤ q → va_A (wl cy L ad u) s.heap.size q := fun q h => Or.inr h
  generalize va_A (wl cy L ad u) s.heap.size = A at hw hA hT ⊢
  have C0 : Cx p m meth c cX7_make (some .int) 3 s _ wsX7_make RX7 D cy := ⟨hx, hb, hr, hml, hown, hts, hlocks, hK⟩
  have hl := lv_entry ([.ref (ad 40), .int p0]) (n := 3) (Nat.le_of_ble_eq_true rfl)
  rw [lg_entry_eq]
  generalize (lg_sl ([.ref (ad 40), .int p0]) ++ List.replicate (3 - (lg_sl ([.ref (ad 40), .int p0])).length) Slot.unset).toArray = ls at hl ⊢
  have hl : lv_has ls 3 [(0, .ref (ad 40)), (1, .int p0)] := hl
  unfold f_X7_make at h
  refine lv_iload_n hx hb dX7_make_0 rfl (lv_at hl 1 rfl) ?_
  refine lv_if_lt (tgt := 19) hx hb dX7_make_1 (by decide) (fun hc => ?_) (fun hc => ?_)
  · rw [if_pos hc] at h
    exact x_throwIO (text := "no such type") hx hb hst hown (hts _ k_X7_make_1) (hts _ k_X7_make_2) (fun w h => hts w ((fun _ h => List.mem_cons_of_mem _ (List.mem_append_right _ h)) w h)) hT (by decide +kernel) hK hw (hl.1.trans hml.symm) dX7_make_19 dX7_make_22 dX7_make_23 dX7_make_25 dX7_make_28 ht (Nat.le_of_ble_eq_true rfl) (Nat.le_of_ble_eq_true rfl) (Nat.le_of_ble_eq_true rfl) (Nat.le_of_ble_eq_true rfl) hlocks (by decide) (by decide) h
  · rw [if_neg hc] at h
    refine lv_iload_n hx hb dX7_make_4 rfl (lv_at hl 1 rfl) ?_
    refine lv_bipush (v := 10) hx hb dX7_make_5 (by decide) ?_
    refine lv_icmp_ge (tgt := 19) hx hb dX7_make_7 (by decide) (fun hc => ?_) (fun hc => ?_)
    · rw [if_pos hc] at h
      exact x_throwIO (text := "no such type") hx hb hst hown (hts _ k_X7_make_1) (hts _ k_X7_make_2) (fun w h => hts w ((fun _ h => List.mem_cons_of_mem _ (List.mem_append_right _ h)) w h)) hT (by decide +kernel) hK hw (hl.1.trans hml.symm) dX7_make_19 dX7_make_22 dX7_make_23 dX7_make_25 dX7_make_28 ht (Nat.le_of_ble_eq_true rfl) (Nat.le_of_ble_eq_true rfl) (Nat.le_of_ble_eq_true rfl) (Nat.le_of_ble_eq_true rfl) hlocks (by decide) (by decide) h
    · rw [if_neg hc] at h
      refine lv_aload_n hx hb dX7_make_10 rfl (lv_at hl 0 rfl) ?_
      refine r_getC (t2 := 11) (d := 41) hx hb hts n_X7_make_X7 hown hK hw h_this (by decide) rfl 0 (by decide) rfl rfl (hts _ k_X7_make_3) (fun _ q => q) dX7_make_11 (fun hv1 => ?_)
      refine lv_iload_n hx hb dX7_make_14 rfl (lv_at hl 1 rfl) ?_
      refine r_kald (n := 10) hx hb hK hw hv1 rfl dX7_make_15 h (fun r2 hv_r2 h => ?_)
      refine r_ifnonnull (tgt := 29) hx hb hv_r2 dX7_make_16 (by decide) h (fun e4 h9 => ?_) (fun t3 e4 hv_t3 h9 => ?_)
      · clear h
        subst e4
        have h := h9
        have hl : lv_has ls 3 [(0, .ref (ad 40)), (1, .int p0)] := hl
        exact x_throwIO (text := "no such type") hx hb hst hown (hts _ k_X7_make_1) (hts _ k_X7_make_2) (fun w h => hts w ((fun _ h => List.mem_cons_of_mem _ (List.mem_append_right _ h)) w h)) hT (by decide +kernel) hK hw (hl.1.trans hml.symm) dX7_make_19 dX7_make_22 dX7_make_23 dX7_make_25 dX7_make_28 ht (Nat.le_of_ble_eq_true rfl) (Nat.le_of_ble_eq_true rfl) (Nat.le_of_ble_eq_true rfl) (Nat.le_of_ble_eq_true rfl) hlocks (by decide) (by decide) h
      · clear h
        subst e4
        have h := h9
        have hl : lv_has ls 3 [(0, .ref (ad 40)), (1, .int p0)] := hl
        refine lv_aload_n hx hb dX7_make_29 rfl (lv_at hl 0 rfl) ?_
        refine r_getC (t2 := 11) (d := 41) hx hb hts n_X7_make_X7 hown hK hw h_this (by decide) rfl 0 (by decide) rfl rfl (hts _ k_X7_make_3) (fun _ q => q) dX7_make_30 (fun hv5 => ?_)
        refine lv_iload_n hx hb dX7_make_33 rfl (lv_at hl 1 rfl) ?_
        refine r_kald (n := 10) hx hb hK hw hv5 rfl dX7_make_34 h (fun r6 hv_r6 h => ?_)
        refine r_astoren (lv' := [(2, va_re ad r6), (0, .ref (ad 40)), (1, .int p0)]) hx hb dX7_make_35 rfl hl (by decide) rfl (fun ls hl => ?_)
        refine lv_aload_n hx hb dX7_make_36 rfl (lv_at hl 1 rfl) ?_
        refine r_getC (t2 := 4) (d := 42) hx hb hts n_X7_make_X7 hown hK hw h_this (by decide) rfl 1 (by decide) rfl rfl (hts _ k_X7_make_4) (fun _ q => q) dX7_make_37 (fun hv7 => ?_)
        refine r_aloadn hx hb dX7_make_40 rfl (lv_at hl 0 rfl) ?_
        refine r_nn hv_r6 h (fun t8 e9 hv_t8 h9 => ?_)
        clear h
        subst e9
        have h := h9
        have hl : lv_has ls 3 [(2, .ref (ad t8)), (0, .ref (ad 40)), (1, .int p0)] := hl
        refine r_bI (fun o ho => r_vI (As := [.ref (ad t8)]) (rest := []) ⟨hx, hb, hml, hown, hts⟩ (c_X4_hasRoomFor l D cy L ad N t8 u o hv7 hv_t8 ho) (cwV 1 hts gX7_make_X4_hasRoomFor rfl rfl rfl (by decide +kernel) ⟨Nat.le_of_ble_eq_true rfl, Nat.le_of_ble_eq_true rfl⟩) hw hK hv7 (by decide) rfl rfl hl.1 rfl (Nat.le_of_ble_eq_true rfl) dX7_make_41 ⟨Nat.zero_le _, Nat.zero_le _⟩) hw hA h (fun x10 u H locs hw h => ?_)
        refine lv_if_ne (tgt := 77) hx hb dX7_make_44 (by decide) (fun hc => ?_) (fun hc => ?_)
        · rw [if_neg hc] at h
          exact j_X7_make_77 N t h_t C0 hA hst hT ht hC (some t8) u _ _ _ h_this (vr_some hv_t8) hw (lv_sub hl [1, 0] rfl) h
        · rw [if_pos hc] at h
          refine lv_aload_n hx hb dX7_make_47 rfl (lv_at hl 1 rfl) ?_
          refine r_getC (t2 := 0) (d := 55) hx hb hts n_X7_make_X7 hown hK hw h_this (by decide) rfl 3 (by decide) rfl rfl (hts _ k_X7_make_5) (fun _ q => q) dX7_make_48 (fun hv15 => ?_)
          refine r_bI (fun o ho => r_vI (As := []) (rest := []) ⟨hx, hb, hml, hown, hts⟩ (c_X0_run l D cy L ad N u o hv15 ho) (cwV 0 hts gX7_make_X0_run rfl rfl rfl (by decide +kernel) ⟨Nat.le_of_ble_eq_true rfl, Nat.le_of_ble_eq_true rfl⟩) hw hK hv15 (by decide) rfl rfl hl.1 rfl (Nat.le_of_ble_eq_true rfl) dX7_make_51 ⟨Nat.zero_le _, Nat.zero_le _⟩) hw hA h (fun x16 u H locs hw h => ?_)
          refine lv_pop hx hb dX7_make_54 rfl ?_
          refine lv_aload_n hx hb dX7_make_55 rfl (lv_at hl 1 rfl) ?_
          refine r_getC (t2 := 4) (d := 42) hx hb hts n_X7_make_X7 hown hK hw h_this (by decide) rfl 1 (by decide) rfl rfl (hts _ k_X7_make_4) (fun _ q => q) dX7_make_56 (fun hv17 => ?_)
          refine lv_aload_n hx hb dX7_make_59 rfl (lv_at hl 0 rfl) ?_
          refine r_bI (fun o ho => r_vI (As := [.ref (ad t8)]) (rest := []) ⟨hx, hb, hml, hown, hts⟩ (c_X4_hasRoomFor l D cy L ad N t8 u o hv17 hv_t8 ho) (cwV 1 hts gX7_make_X4_hasRoomFor rfl rfl rfl (by decide +kernel) ⟨Nat.le_of_ble_eq_true rfl, Nat.le_of_ble_eq_true rfl⟩) hw hK hv17 (by decide) rfl rfl hl.1 rfl (Nat.le_of_ble_eq_true rfl) dX7_make_60 ⟨Nat.zero_le _, Nat.zero_le _⟩) hw hA h (fun x18 u H locs hw h => ?_)
          refine lv_if_ne (tgt := 77) hx hb dX7_make_63 (by decide) (fun hc => ?_) (fun hc => ?_)
          · rw [if_neg hc] at h
            exact j_X7_make_77 N t h_t C0 hA hst hT ht hC (some t8) u _ _ _ h_this (vr_some hv_t8) hw (lv_sub hl [1, 0] rfl) h
          · rw [if_pos hc] at h
            refine lv_aload_n hx hb dX7_make_66 rfl (lv_at hl 1 rfl) ?_
            refine lv_aload_n hx hb dX7_make_67 rfl (lv_at hl 0 rfl) ?_
            refine r_bI (fun o ho => r_vI (As := [.ref (ad t8)]) (rest := []) ⟨hx, hb, hml, hown, hts⟩ (c_X7_makeRoomByMoving l D cy L ad N t8 u o h_this hv_t8 ho) (cwV 1 hts gX7_make_X7_makeRoomByMoving rfl rfl rfl (by decide +kernel) ⟨Nat.le_of_ble_eq_true rfl, Nat.le_of_ble_eq_true rfl⟩) hw hK h_this (by decide) rfl rfl hl.1 rfl (Nat.le_of_ble_eq_true rfl) dX7_make_68 ⟨Nat.zero_le _, Nat.zero_le _⟩) hw hA h (fun x19 u H locs hw h => ?_)
            refine lv_if_ne (tgt := 77) hx hb dX7_make_71 (by decide) (fun hc => ?_) (fun hc => ?_)
            · rw [if_neg hc] at h
              exact j_X7_make_77 N t h_t C0 hA hst hT ht hC (some t8) u _ _ _ h_this (vr_some hv_t8) hw (lv_sub hl [1, 0] rfl) h
            · rw [if_pos hc] at h
              refine lv_bipush (v := (-2)) hx hb dX7_make_74 (by decide) ?_
              exact x_iret (b := false) (ad2 := ad) hx hb hr hlocks hK (fun _ _ => rfl) hw h (by decide) (by decide) dX7_make_76
theorem k_X7_type_2 : Cond.initialized "java/lang/IndexOutOfBoundsException" ∈ wsX7_type := List.mem_of_getElem? (i := 2) (by rfl)
theorem k_X7_type_1 : Cond.classLink RX7 40 "java/lang/IndexOutOfBoundsException" ∈ wsX7_type := List.mem_of_getElem? (i := 1) (by rfl)
theorem k_X7_type_4 : Cond.initialized "java/lang/IllegalArgumentException" ∈ wsX7_type := List.mem_of_getElem? (i := 4) (by rfl)
theorem k_X7_type_3 : Cond.classLink RX7 47 "java/lang/IllegalArgumentException" ∈ wsX7_type := List.mem_of_getElem? (i := 3) (by rfl)
theorem k_X7_type_5 : Cond.fieldLink RX7 11 "RingHeap" "kinds" "[LRingHeap$Kind;" ∈ wsX7_type := List.mem_of_getElem? (i := 5) (by rfl)
theorem n_X7_type_X7 : ∀ w ∈ u_ws RX7 TX7 5, w ∈ wsX7_type := fun _ h => List.mem_cons_of_mem _ (List.mem_append_left _ (List.mem_append_left _ (List.mem_append_left _ (List.mem_append_right _ h))))
theorem k_X7_type_6 : Cond.classLink RX7 9 RX2 ∈ wsX7_type := List.mem_of_getElem? (i := 6) (by rfl)
theorem k_X7_type_7 : Cond.instantiable RX2 4 ∈ wsX7_type := List.mem_of_getElem? (i := 7) (by rfl)
theorem k_X7_type_8 : Cond.initialized RX2 ∈ wsX7_type := List.mem_of_getElem? (i := 8) (by rfl)
theorem n_X7_type_X2 : ∀ w ∈ u_ws RX2 TX2 4, w ∈ wsX7_type := fun _ h => List.mem_cons_of_mem _ (List.mem_append_left _ (List.mem_append_left _ (List.mem_append_right _ h)))
theorem k_X7_type_9 : Cond.methodLink RX7 52 yX2_init ∈ wsX7_type := List.mem_of_getElem? (i := 9) (by rfl)
theorem k_X7_type_10 : Cond.instanceMethod yX2_init ∈ wsX7_type := List.mem_of_getElem? (i := 10) (by rfl)
def f_X7_type (N : Nat) (t : Nat) (p0 : Int32) (p1 : Int32) (p2 : Int32) (p3 : Int32) (u : Mm) : Option (Nat × Int32 × Bool × Mm) :=
  if p0 < 0 then (some (1, 0, false, u)) else (if p0 < 10 then (if p1 < 0 then (some (2, 0, false, u)) else (if 6 < p1 then (some (2, 0, false, u)) else (if p2 < 0 then (some (2, 0, false, u)) else (if p2 ≤ 60 then (ck (bI p0 10) (pt (u.2 41 (ix p0)) (fun r2 => nl r2 (ck (zB p3) (pt (nK u t p0 p1 ((2 + p1) + p2) p3) (fun u => ck (bI p0 10) (pt (sR u 41 (ix p0) (some t)) (fun u => some (0, 1, true, u)))))) (fun t3 => some (0, 0, false, u))))) else (some (2, 0, false, u)))))) else (some (1, 0, false, u)))
set_option maxHeartbeats 4000000 in
set_option maxRecDepth 100000 in
theorem c_X7_type (l : Launch) (hst : l.stackTraces = false) (D : va_G) (cy : Nat → ClassId) (L : List Nat) (ad : Nat → Nat) (N : Nat) (t : Nat) (p0 : Int32) (p1 : Int32) (p2 : Int32) (p3 : Int32) (u : Mm) (o : Nat × Int32 × Bool × Mm) (h_this : vn L 7 40) (h_t : fK L t) (h : f_X7_type N t p0 p1 p2 p3 u = some o) : MtX l yX7_type wsX7_type ({ frames := 6, cells := 1, slots := 6, locals := 82 } : Room) D cy L [t] ad 1 6 [.ref (ad 40), .int p0, .int p1, .int p2, .int p3] u o := by
  intro sz
  refine vx_ofW (cc := cX7_type) (maxL := 5) (ret := (some .boolean)) (by decide) rfl ?_
  intro p e s m args below meth c s₁ B hml ht hv
  obtain ⟨rfl, hsz, ⟨hP, hK, hD0, hok⟩, hT, hC⟩ := hv
  have hx := B.exec
  have hb := B.bytes
  have hr := B.returns
  have hts := atoms_spec (ws := wsX7_type) B.pre
  have hown : s.vm.findClass RX7 = some m.cls := findClass_of_methodNamed B.named
  have hlocks := B.notSynchronized
  subst hsz
  have hw := wd_start hP hD0 hok
  have hA : ∀ q : Nat, s.heap.size ≤ q → va_A (wl cy L ad u) s.heap.size q := fun q h => Or.inr h
  generalize va_A (wl cy L ad u) s.heap.size = A at hw hA hT ⊢
  have C0 : Cx p m meth c cX7_type (some .boolean) 5 s _ wsX7_type RX7 D cy := ⟨hx, hb, hr, hml, hown, hts, hlocks, hK⟩
  have hl := lv_entry ([.ref (ad 40), .int p0, .int p1, .int p2, .int p3]) (n := 5) (Nat.le_of_ble_eq_true rfl)
  rw [lg_entry_eq]
  generalize (lg_sl ([.ref (ad 40), .int p0, .int p1, .int p2, .int p3]) ++ List.replicate (5 - (lg_sl ([.ref (ad 40), .int p0, .int p1, .int p2, .int p3])).length) Slot.unset).toArray = ls at hl ⊢
  have hl : lv_has ls 5 [(0, .ref (ad 40)), (1, .int p0), (2, .int p1), (3, .int p2), (4, .int p3)] := hl
  unfold f_X7_type at h
  refine lv_iload_n hx hb dX7_type_0 rfl (lv_at hl 1 rfl) ?_
  refine lv_if_lt (tgt := 10) hx hb dX7_type_1 (by decide) (fun hc => ?_) (fun hc => ?_)
  · rw [if_pos hc] at h
    exact x_throwIO (text := "no such type") hx hb hst hown (hts _ k_X7_type_1) (hts _ k_X7_type_2) (fun w h => hts w ((fun _ h => List.mem_cons_of_mem _ (List.mem_append_left _ (List.mem_append_right _ h))) w h)) hT (by decide +kernel) hK hw (hl.1.trans hml.symm) dX7_type_10 dX7_type_13 dX7_type_14 dX7_type_16 dX7_type_19 ht (Nat.le_of_ble_eq_true rfl) (Nat.le_of_ble_eq_true rfl) (Nat.le_of_ble_eq_true rfl) (Nat.le_of_ble_eq_true rfl) hlocks (by decide) (by decide) h
  · rw [if_neg hc] at h
    refine lv_iload_n hx hb dX7_type_4 rfl (lv_at hl 1 rfl) ?_
    refine lv_bipush (v := 10) hx hb dX7_type_5 (by decide) ?_
    refine lv_icmp_lt (tgt := 20) hx hb dX7_type_7 (by decide) (fun hc => ?_) (fun hc => ?_)
    · rw [if_pos hc] at h
      refine lv_iload_n hx hb dX7_type_20 rfl (lv_at hl 2 rfl) ?_
      refine lv_if_lt (tgt := 40) hx hb dX7_type_21 (by decide) (fun hc => ?_) (fun hc => ?_)
      · rw [if_pos hc] at h
        exact x_throwIA (text := "too few or too many fields or extra words") hx hb hst hown (hts _ k_X7_type_3) (hts _ k_X7_type_4) (fun w h => hts w ((fun _ h => List.mem_cons_of_mem _ (List.mem_append_right _ h)) w h)) hT (by decide +kernel) hK hw (hl.1.trans hml.symm) dX7_type_40 dX7_type_43 dX7_type_44 dX7_type_46 dX7_type_49 ht (Nat.le_of_ble_eq_true rfl) (Nat.le_of_ble_eq_true rfl) (Nat.le_of_ble_eq_true rfl) (Nat.le_of_ble_eq_true rfl) hlocks (by decide) (by decide) h
      · rw [if_neg hc] at h
        refine lv_iload_n hx hb dX7_type_24 rfl (lv_at hl 2 rfl) ?_
        refine lv_bipush (v := 6) hx hb dX7_type_25 (by decide) ?_
        refine lv_icmp_gt (tgt := 40) hx hb dX7_type_27 (by decide) (fun hc => ?_) (fun hc => ?_)
        · rw [if_pos hc] at h
          exact x_throwIA (text := "too few or too many fields or extra words") hx hb hst hown (hts _ k_X7_type_3) (hts _ k_X7_type_4) (fun w h => hts w ((fun _ h => List.mem_cons_of_mem _ (List.mem_append_right _ h)) w h)) hT (by decide +kernel) hK hw (hl.1.trans hml.symm) dX7_type_40 dX7_type_43 dX7_type_44 dX7_type_46 dX7_type_49 ht (Nat.le_of_ble_eq_true rfl) (Nat.le_of_ble_eq_true rfl) (Nat.le_of_ble_eq_true rfl) (Nat.le_of_ble_eq_true rfl) hlocks (by decide) (by decide) h
        · rw [if_neg hc] at h
          refine lv_iload_n hx hb dX7_type_30 rfl (lv_at hl 3 rfl) ?_
          refine lv_if_lt (tgt := 40) hx hb dX7_type_31 (by decide) (fun hc => ?_) (fun hc => ?_)
          · rw [if_pos hc] at h
            exact x_throwIA (text := "too few or too many fields or extra words") hx hb hst hown (hts _ k_X7_type_3) (hts _ k_X7_type_4) (fun w h => hts w ((fun _ h => List.mem_cons_of_mem _ (List.mem_append_right _ h)) w h)) hT (by decide +kernel) hK hw (hl.1.trans hml.symm) dX7_type_40 dX7_type_43 dX7_type_44 dX7_type_46 dX7_type_49 ht (Nat.le_of_ble_eq_true rfl) (Nat.le_of_ble_eq_true rfl) (Nat.le_of_ble_eq_true rfl) (Nat.le_of_ble_eq_true rfl) hlocks (by decide) (by decide) h
          · rw [if_neg hc] at h
            refine lv_iload_n hx hb dX7_type_34 rfl (lv_at hl 3 rfl) ?_
            refine lv_bipush (v := 60) hx hb dX7_type_35 (by decide) ?_
            refine lv_icmp_le (tgt := 50) hx hb dX7_type_37 (by decide) (fun hc => ?_) (fun hc => ?_)
            · rw [if_pos hc] at h
              refine lv_aload_n hx hb dX7_type_50 rfl (lv_at hl 0 rfl) ?_
              refine r_getC (t2 := 11) (d := 41) hx hb hts n_X7_type_X7 hown hK hw h_this (by decide) rfl 0 (by decide) rfl rfl (hts _ k_X7_type_5) (fun _ q => q) dX7_type_51 (fun hv1 => ?_)
              refine lv_iload_n hx hb dX7_type_54 rfl (lv_at hl 1 rfl) ?_
              refine r_kald (n := 10) hx hb hK hw hv1 rfl dX7_type_55 h (fun r2 hv_r2 h => ?_)
              refine r_ifnull (tgt := 61) hx hb hv_r2 dX7_type_56 (by decide) h (fun e4 h9 => ?_) (fun t3 e4 hv_t3 h9 => ?_)
              · clear h
                subst e4
                have h := h9
                have hl : lv_has ls 5 [(0, .ref (ad 40)), (1, .int p0), (2, .int p1), (3, .int p2), (4, .int p3)] := hl
                refine lv_aload_n hx hb dX7_type_61 rfl (lv_at hl 0 rfl) ?_
                refine r_getC (t2 := 11) (d := 41) hx hb hts n_X7_type_X7 hown hK hw h_this (by decide) rfl 0 (by decide) rfl rfl (hts _ k_X7_type_5) (fun _ q => q) dX7_type_62 (fun hv5 => ?_)
                refine lv_iload_n hx hb dX7_type_65 rfl (lv_at hl 1 rfl) ?_
                refine va_new (ci := 2) (fs := [.int 0, .int 0, .int 0, .int 0]) (C := RX2) (T := TX2) (N := 4) hx hb hts n_X7_type_X2 tyX2 tyX2_ok hown (hts _ k_X7_type_6) (hts _ k_X7_type_7) (hts _ k_X7_type_8) hK hw.1 hw.2.1 hw.2.2.1 hA rfl (fun j hj => by rcases (show j = 0 ∨ j = 1 ∨ j = 2 ∨ j = 3 by omega) with rfl | rfl | rfl | rfl <;> rfl) (Nat.le_of_ble_eq_true rfl) (Nat.le_of_ble_eq_true rfl) dX7_type_66 (fun q0 H hP hD hS => ?_)
                refine W.widen (k := 1) (n := 4) (Nat.le_of_ble_eq_true rfl) (Nat.le_of_ble_eq_true rfl) ?_
                refine lv_dup hx hb dX7_type_69 rfl ?_
                refine lv_iload_n hx hb dX7_type_70 rfl (lv_at hl 1 rfl) ?_
                refine lv_iload_n hx hb dX7_type_71 rfl (lv_at hl 2 rfl) ?_
                refine lv_iconst (v := 2) hx hb dX7_type_72 (by decide) ?_
                refine lv_iload_n hx hb dX7_type_73 rfl (lv_at hl 2 rfl) ?_
                refine lv_iadd hx hb dX7_type_74 ?_
                refine lv_iload_n hx hb dX7_type_75 rfl (lv_at hl 3 rfl) ?_
                refine lv_iadd hx hb dX7_type_76 ?_
                refine lv_iload hx hb dX7_type_77 (lv_at hl 4 rfl) ?_
                have hOk := hw.2.2.2
                have hA1 : ∀ q : Nat, H.size ≤ q → A q := fun q h => hA q (Nat.le_trans hS.1 h)
                obtain ⟨hz0, h⟩ := ck_e h
                have hz := zB_e hz0
                obtain ⟨hPc, hDc, hFc⟩ := kind_cut hP hD hA1
                refine va_callv (va_runI (As := [.int p0, .int p1, .int ((2 + p1) + p2), .int p3]) (rest := [.ref q0, .int p0, .ref (ad 41)]) ⟨hx, hb, hml, hown, hts⟩ (c_X2_init l D cy q0 p0 p1 ((2 + p1) + p2) p3 H.size hz) (cwI 4 hts gX7_type_X2_init rfl rfl rfl (hts _ k_X7_type_8) (hts _ k_X7_type_9) (hts _ k_X7_type_10) rfl (by decide +kernel) ⟨Nat.le_of_ble_eq_true rfl, Nat.le_of_ble_eq_true rfl⟩) ⟨pcn_blind, fun U hU hW => pcn_of hPc hDc hK hC hU hW⟩ rfl rfl hl.1 rfl (lv_room (Nat.le_of_ble_eq_true rfl)) dX7_type_79 ⟨Nat.le_of_ble_eq_true rfl, Nat.le_of_ble_eq_true rfl⟩) hS (fun q _ h => hFc q h) hFc (fun q1 t9 H1 locs ht9 hvm hw9 hB hz1 hk1 hS => ?_)
                obtain ⟨hP1, hK1, hD1⟩ := hB
                rw [ht9] at hP1
                obtain ⟨ad9, hag, had9, hw⟩ := kind_join (t := t) hOk hP hD hS h_t.1 h_t.2 hk1 hP1
                subst had9
                obtain ⟨u, hu, h⟩ := pt_e h
                rw [← hu] at hw
                refine W.widen (k := 1) (n := 4) (Nat.le_of_ble_eq_true rfl) (Nat.le_of_ble_eq_true rfl) ?_
                rw [← hag 41 hv5.1]
                have hl : lv_has ls 5 [(0, .ref (ad9 40)), (1, .int p0), (2, .int p1), (3, .int p2), (4, .int p3)] := by rw [hag 40 h_this.1]; exact hl
                refine r_kast (n := 10) hx hb hK hw (vn_app hv5) rfl (fK_vn h_t) dX7_type_82 h (fun u H locs hw h => ?_)
                refine lv_iconst (v := 1) hx hb dX7_type_83 (by decide) ?_
                exact x_zret (b := true) (ad2 := ad9) hx hb hr hlocks hK hag hw (by decide) h (by decide) (by decide) dX7_type_84
              · clear h
                subst e4
                have h := h9
                have hl : lv_has ls 5 [(0, .ref (ad 40)), (1, .int p0), (2, .int p1), (3, .int p2), (4, .int p3)] := hl
                refine lv_iconst (v := 0) hx hb dX7_type_59 (by decide) ?_
                exact x_zret (b := false) (ad2 := ad) hx hb hr hlocks hK (fun _ _ => rfl) hw (by decide) h (by decide) (by decide) dX7_type_60
            · rw [if_neg hc] at h
              exact x_throwIA (text := "too few or too many fields or extra words") hx hb hst hown (hts _ k_X7_type_3) (hts _ k_X7_type_4) (fun w h => hts w ((fun _ h => List.mem_cons_of_mem _ (List.mem_append_right _ h)) w h)) hT (by decide +kernel) hK hw (hl.1.trans hml.symm) dX7_type_40 dX7_type_43 dX7_type_44 dX7_type_46 dX7_type_49 ht (Nat.le_of_ble_eq_true rfl) (Nat.le_of_ble_eq_true rfl) (Nat.le_of_ble_eq_true rfl) (Nat.le_of_ble_eq_true rfl) hlocks (by decide) (by decide) h
    · rw [if_neg hc] at h
      exact x_throwIO (text := "no such type") hx hb hst hown (hts _ k_X7_type_1) (hts _ k_X7_type_2) (fun w h => hts w ((fun _ h => List.mem_cons_of_mem _ (List.mem_append_left _ (List.mem_append_right _ h))) w h)) hT (by decide +kernel) hK hw (hl.1.trans hml.symm) dX7_type_10 dX7_type_13 dX7_type_14 dX7_type_16 dX7_type_19 ht (Nat.le_of_ble_eq_true rfl) (Nat.le_of_ble_eq_true rfl) (Nat.le_of_ble_eq_true rfl) (Nat.le_of_ble_eq_true rfl) hlocks (by decide) (by decide) h

theorem k_X7_numberOf_1 : Cond.fieldLink RX7 119 "RingHeap$Thing" "number" "I" ∈ wsX7_numberOf := List.mem_of_getElem? (i := 1) (by rfl)
theorem n_X7_numberOf_X5 : ∀ w ∈ u_ws RX5 TX5 11, w ∈ wsX7_numberOf := fun _ h => List.mem_cons_of_mem _ (List.mem_append_right _ h)
def f_X7_numberOf (N : Nat) (p0 : Option Nat) (u : Mm) : Option (Int32 × Mm) :=
  nl p0 (some ((-1), u)) (fun t1 => pt (u.1 t1 0) (fun x3 => some (x3, u)))
set_option maxHeartbeats 4000000 in
set_option maxRecDepth 100000 in
theorem c_X7_numberOf (l : Launch) (D : va_G) (cy : Nat → ClassId) (L : List Nat) (ad : Nat → Nat) (N : Nat) (p0 : Option Nat) (u : Mm) (o : Int32 × Mm) (h_p0 : vr L 5 p0) (h : f_X7_numberOf N p0 u = some o) : MtI l yX7_numberOf wsX7_numberOf ({ frames := 0, cells := 0, slots := 0, locals := 0 } : Room) D cy L ad [va_re ad p0] u o := by
  intro sz
  refine Met.ofW (cc := cX7_numberOf) (maxL := 1) (ret := (some .int)) (by decide) rfl ?_
  intro p e s m args below meth c s₁ B hml hv
  obtain ⟨rfl, hsz, hP, hK, hD0, hok⟩ := hv
  have hx := B.exec
  have hb := B.bytes
  have hr := B.returns
  have hts := atoms_spec (ws := wsX7_numberOf) B.pre
  have hown : s.vm.findClass RX7 = some m.cls := findClass_of_methodNamed B.named
  have hlocks := B.notSynchronized
  subst hsz
  have hw := wd_start hP hD0 hok
  have hA : ∀ q : Nat, s.heap.size ≤ q → va_A (wl cy L ad u) s.heap.size q := fun q h => Or.inr h
  generalize va_A (wl cy L ad u) s.heap.size = A at hw hA ⊢
  have C0 : Cx p m meth c cX7_numberOf (some .int) 1 s _ wsX7_numberOf RX7 D cy := ⟨hx, hb, hr, hml, hown, hts, hlocks, hK⟩
  have hl := lv_entry ([va_re ad p0]) (n := 1) (by simp [lg_sl, va_re_cat])
  rw [lg_entry_eq]
  generalize (lg_sl ([va_re ad p0]) ++ List.replicate (1 - (lg_sl ([va_re ad p0])).length) Slot.unset).toArray = ls at hl ⊢
  have hl : lv_has ls 1 [(0, va_re ad p0)] := hl
  unfold f_X7_numberOf at h
  refine r_aloadn hx hb dX7_numberOf_0 rfl (lv_at hl 0 rfl) ?_
  refine r_ifnonnull (tgt := 8) hx hb h_p0 dX7_numberOf_1 (by decide) h (fun e2 h9 => ?_) (fun t1 e2 hv_t1 h9 => ?_)
  · clear h
    subst e2
    have h := h9
    have hl : lv_has ls 1 [(0, va_re ad none)] := hl
    refine lv_iconst (v := (-1)) hx hb dX7_numberOf_4 (by decide) ?_
    refine lv_goto (tgt := 12) hx hb dX7_numberOf_5 (by decide) ?_
    exact r_iret hx hb hr hlocks hK hw h dX7_numberOf_12
  · clear h
    subst e2
    have h := h9
    have hl : lv_has ls 1 [(0, .ref (ad t1))] := hl
    refine lv_aload_n hx hb dX7_numberOf_8 rfl (lv_at hl 0 rfl) ?_
    refine r_getI hx hb hts n_X7_numberOf_X5 hown hK hw hv_t1 (by decide) rfl 0 (by decide) rfl (hts _ k_X7_numberOf_1) (fun _ q => q) dX7_numberOf_9 h (fun x3 h => ?_)
    exact r_iret hx hb hr hlocks hK hw h dX7_numberOf_12
theorem k_X7_hold_1 : Cond.fieldLink RX7 18 "RingHeap" "store" "LRingHeap$Store;" ∈ wsX7_hold := List.mem_of_getElem? (i := 1) (by rfl)
theorem n_X7_hold_X7 : ∀ w ∈ u_ws RX7 TX7 5, w ∈ wsX7_hold := fun _ h => List.mem_cons_of_mem _ (List.mem_append_left _ (List.mem_append_left _ (List.mem_append_right _ h)))
theorem k_X7_hold_2 : Cond.fieldLink RX7 74 "RingHeap$Thing" "hands" "I" ∈ wsX7_hold := List.mem_of_getElem? (i := 2) (by rfl)
theorem n_X7_hold_X5 : ∀ w ∈ u_ws RX5 TX5 11, w ∈ wsX7_hold := fun _ h => List.mem_cons_of_mem _ (List.mem_append_left _ (List.mem_append_right _ h))
theorem k_X7_hold_3 : Cond.fieldLink RX7 27 "RingHeap" "counting" "LRingHeap$Counting;" ∈ wsX7_hold := List.mem_of_getElem? (i := 3) (by rfl)
theorem k_X7_hold_4 : Cond.fieldLink RX7 84 "RingHeap$Thing" "count" "I" ∈ wsX7_hold := List.mem_of_getElem? (i := 4) (by rfl)
def f_X7_hold (N : Nat) (p0 : Int32) (u : Mm) : Option (Int32 × Mm) :=
  bd (f_X4_living N p0 u) (fun r2 u => nl r2 (some ((-1), u)) (fun t3 => pt (u.1 t3 4) (fun x5 => pt (sI u t3 4 (x5 + 1)) (fun u => bv (f_X1_more N t3 u) (fun u => pt (u.1 t3 3) (fun x7 => some (x7, u)))))))
set_option maxHeartbeats 4000000 in
set_option maxRecDepth 100000 in
theorem c_X7_hold (l : Launch) (D : va_G) (cy : Nat → ClassId) (L : List Nat) (ad : Nat → Nat) (N : Nat) (p0 : Int32) (u : Mm) (o : Int32 × Mm) (h_this : vn L 7 40) (h : f_X7_hold N p0 u = some o) : MtI l yX7_hold wsX7_hold ({ frames := 3, cells := 0, slots := 0, locals := 61 } : Room) D cy L ad [.ref (ad 40), .int p0] u o := by
  intro sz
  refine Met.ofW (cc := cX7_hold) (maxL := 3) (ret := (some .int)) (by decide) rfl ?_
  intro p e s m args below meth c s₁ B hml hv
  obtain ⟨rfl, hsz, hP, hK, hD0, hok⟩ := hv
  have hx := B.exec
  have hb := B.bytes
  have hr := B.returns
  have hts := atoms_spec (ws := wsX7_hold) B.pre
  have hown : s.vm.findClass RX7 = some m.cls := findClass_of_methodNamed B.named
  have hlocks := B.notSynchronized
  subst hsz
  have hw := wd_start hP hD0 hok
  have hA : ∀ q : Nat, s.heap.size ≤ q → va_A (wl cy L ad u) s.heap.size q := fun q h => Or.inr h
  generalize va_A (wl cy L ad u) s.heap.size = A at hw hA ⊢
  have C0 : Cx p m meth c cX7_hold (some .int) 3 s _ wsX7_hold RX7 D cy := ⟨hx, hb, hr, hml, hown, hts, hlocks, hK⟩
  have hl := lv_entry ([.ref (ad 40), .int p0]) (n := 3) (Nat.le_of_ble_eq_true rfl)
  rw [lg_entry_eq]
  generalize (lg_sl ([.ref (ad 40), .int p0]) ++ List.replicate (3 - (lg_sl ([.ref (ad 40), .int p0])).length) Slot.unset).toArray = ls at hl ⊢
  have hl : lv_has ls 3 [(0, .ref (ad 40)), (1, .int p0)] := hl
  unfold f_X7_hold at h
  refine lv_aload_n hx hb dX7_hold_0 rfl (lv_at hl 0 rfl) ?_
  refine r_getC (t2 := 4) (d := 42) hx hb hts n_X7_hold_X7 hown hK hw h_this (by decide) rfl 1 (by decide) rfl rfl (hts _ k_X7_hold_1) (fun _ q => q) dX7_hold_1 (fun hv1 => ?_)
  refine lv_iload_n hx hb dX7_hold_4 rfl (lv_at hl 1 rfl) ?_
  refine r_bQ (fun o ho => r_vQ (As := [.int p0]) (rest := []) ⟨hx, hb, hml, hown, hts⟩ (c_X4_living l D cy L ad N p0 u o hv1 ho) (cwV 1 hts gX7_hold_X4_living rfl rfl rfl (by decide +kernel) ⟨Nat.le_of_ble_eq_true rfl, Nat.le_of_ble_eq_true rfl⟩) hw hK hv1 (by decide) rfl rfl hl.1 rfl (Nat.le_of_ble_eq_true rfl) dX7_hold_5 ⟨Nat.zero_le _, Nat.zero_le _⟩) hw hA h (fun r2 u H locs hw hv_r2 h => ?_)
  refine r_astoren (lv' := [(2, va_re ad r2), (0, .ref (ad 40)), (1, .int p0)]) hx hb dX7_hold_8 rfl hl (by decide) rfl (fun ls hl => ?_)
  refine r_aloadn hx hb dX7_hold_9 rfl (lv_at hl 0 rfl) ?_
  refine r_ifnonnull (tgt := 15) hx hb hv_r2 dX7_hold_10 (by decide) h (fun e4 h9 => ?_) (fun t3 e4 hv_t3 h9 => ?_)
  · clear h
    subst e4
    have h := h9
    have hl : lv_has ls 3 [(2, va_re ad none), (0, .ref (ad 40)), (1, .int p0)] := hl
    refine lv_iconst (v := (-1)) hx hb dX7_hold_13 (by decide) ?_
    exact r_iret hx hb hr hlocks hK hw h dX7_hold_14
  · clear h
    subst e4
    have h := h9
    have hl : lv_has ls 3 [(2, .ref (ad t3)), (0, .ref (ad 40)), (1, .int p0)] := hl
    refine lv_aload_n hx hb dX7_hold_15 rfl (lv_at hl 0 rfl) ?_
    refine lv_dup hx hb dX7_hold_16 rfl ?_
    refine r_getI hx hb hts n_X7_hold_X5 hown hK hw hv_t3 (by decide) rfl 4 (by decide) rfl (hts _ k_X7_hold_2) (fun _ q => q) dX7_hold_17 h (fun x5 h => ?_)
    refine lv_iconst (v := 1) hx hb dX7_hold_20 (by decide) ?_
    refine lv_iadd hx hb dX7_hold_21 ?_
    refine r_putI (ty := .int) hx hb hts n_X7_hold_X5 tyX5 tyX5_ok nmX5 hown hK hw hv_t3 (by decide) rfl 4 (by decide) rfl (hts _ k_X7_hold_2) (fun _ q => q) rfl rfl rfl rfl dX7_hold_22 h (fun u H locs hw h => ?_)
    refine lv_aload_n hx hb dX7_hold_25 rfl (lv_at hl 1 rfl) ?_
    refine r_getC (t2 := 1) (d := 48) hx hb hts n_X7_hold_X7 hown hK hw h_this (by decide) rfl 2 (by decide) rfl rfl (hts _ k_X7_hold_3) (fun _ q => q) dX7_hold_26 (fun hv6 => ?_)
    refine lv_aload_n hx hb dX7_hold_29 rfl (lv_at hl 0 rfl) ?_
    refine r_bV (fun o ho => r_vV (As := [.ref (ad t3)]) (rest := []) ⟨hx, hb, hml, hown, hts⟩ (c_X1_more l D cy L ad N t3 u o hv6 hv_t3 ho) (cwV 1 hts gX7_hold_X1_more rfl rfl rfl (by decide +kernel) ⟨Nat.le_of_ble_eq_true rfl, Nat.le_of_ble_eq_true rfl⟩) hw hK hv6 (by decide) rfl rfl hl.1 rfl (Nat.le_of_ble_eq_true rfl) dX7_hold_30 ⟨Nat.zero_le _, Nat.zero_le _⟩) hw hA h (fun u H locs hw h => ?_)
    refine lv_aload_n hx hb dX7_hold_33 rfl (lv_at hl 0 rfl) ?_
    refine r_getI hx hb hts n_X7_hold_X5 hown hK hw hv_t3 (by decide) rfl 3 (by decide) rfl (hts _ k_X7_hold_4) (fun _ q => q) dX7_hold_34 h (fun x7 h => ?_)
    exact r_iret hx hb hr hlocks hK hw h dX7_hold_37
theorem k_X7_loose_1 : Cond.fieldLink RX7 18 "RingHeap" "store" "LRingHeap$Store;" ∈ wsX7_loose := List.mem_of_getElem? (i := 1) (by rfl)
theorem n_X7_loose_X7 : ∀ w ∈ u_ws RX7 TX7 5, w ∈ wsX7_loose := fun _ h => List.mem_cons_of_mem _ (List.mem_append_left _ (List.mem_append_left _ (List.mem_append_left _ (List.mem_append_left _ (List.mem_append_left _ (List.mem_append_left _ (List.mem_append_right _ h)))))))
theorem k_X7_loose_2 : Cond.fieldLink RX7 74 "RingHeap$Thing" "hands" "I" ∈ wsX7_loose := List.mem_of_getElem? (i := 2) (by rfl)
theorem n_X7_loose_X5 : ∀ w ∈ u_ws RX5 TX5 11, w ∈ wsX7_loose := fun _ h => List.mem_cons_of_mem _ (List.mem_append_left _ (List.mem_append_left _ (List.mem_append_left _ (List.mem_append_left _ (List.mem_append_left _ (List.mem_append_right _ h))))))
theorem k_X7_loose_3 : Cond.fieldLink RX7 27 "RingHeap" "counting" "LRingHeap$Counting;" ∈ wsX7_loose := List.mem_of_getElem? (i := 3) (by rfl)
def f_X7_loose (N : Nat) (p0 : Int32) (u : Mm) : Option (Int32 × Mm) :=
  bd (f_X4_living N p0 u) (fun r2 u => nl r2 (some ((-1), u)) (fun t3 => pt (u.1 t3 4) (fun x5 => if x5 = 0 then (some ((-1), u)) else (pt (u.1 t3 4) (fun x6 => pt (sI u t3 4 (x6 - 1)) (fun u => bd (f_X1_less N t3 u) (fun x8 u => some (x8, u))))))))
set_option maxHeartbeats 4000000 in
set_option maxRecDepth 100000 in
theorem c_X7_loose (l : Launch) (D : va_G) (cy : Nat → ClassId) (L : List Nat) (ad : Nat → Nat) (N : Nat) (p0 : Int32) (u : Mm) (o : Int32 × Mm) (h_this : vn L 7 40) (h : f_X7_loose N p0 u = some o) : MtI l yX7_loose wsX7_loose ({ frames := 4, cells := 0, slots := 0, locals := 92 } : Room) D cy L ad [.ref (ad 40), .int p0] u o := by
  intro sz
  refine Met.ofW (cc := cX7_loose) (maxL := 3) (ret := (some .int)) (by decide) rfl ?_
  intro p e s m args below meth c s₁ B hml hv
  obtain ⟨rfl, hsz, hP, hK, hD0, hok⟩ := hv
  have hx := B.exec
  have hb := B.bytes
  have hr := B.returns
  have hts := atoms_spec (ws := wsX7_loose) B.pre
  have hown : s.vm.findClass RX7 = some m.cls := findClass_of_methodNamed B.named
  have hlocks := B.notSynchronized
  subst hsz
  have hw := wd_start hP hD0 hok
  have hA : ∀ q : Nat, s.heap.size ≤ q → va_A (wl cy L ad u) s.heap.size q := fun q h => Or.inr h
  generalize va_A (wl cy L ad u) s.heap.size = A at hw hA ⊢
  have C0 : Cx p m meth c cX7_loose (some .int) 3 s _ wsX7_loose RX7 D cy := ⟨hx, hb, hr, hml, hown, hts, hlocks, hK⟩
  have hl := lv_entry ([.ref (ad 40), .int p0]) (n := 3) (Nat.le_of_ble_eq_true rfl)
  rw [lg_entry_eq]
  generalize (lg_sl ([.ref (ad 40), .int p0]) ++ List.replicate (3 - (lg_sl ([.ref (ad 40), .int p0])).length) Slot.unset).toArray = ls at hl ⊢
  have hl : lv_has ls 3 [(0, .ref (ad 40)), (1, .int p0)] := hl
  unfold f_X7_loose at h
  refine lv_aload_n hx hb dX7_loose_0 rfl (lv_at hl 0 rfl) ?_
  refine r_getC (t2 := 4) (d := 42) hx hb hts n_X7_loose_X7 hown hK hw h_this (by decide) rfl 1 (by decide) rfl rfl (hts _ k_X7_loose_1) (fun _ q => q) dX7_loose_1 (fun hv1 => ?_)
  refine lv_iload_n hx hb dX7_loose_4 rfl (lv_at hl 1 rfl) ?_
  refine r_bQ (fun o ho => r_vQ (As := [.int p0]) (rest := []) ⟨hx, hb, hml, hown, hts⟩ (c_X4_living l D cy L ad N p0 u o hv1 ho) (cwV 1 hts gX7_loose_X4_living rfl rfl rfl (by decide +kernel) ⟨Nat.le_of_ble_eq_true rfl, Nat.le_of_ble_eq_true rfl⟩) hw hK hv1 (by decide) rfl rfl hl.1 rfl (Nat.le_of_ble_eq_true rfl) dX7_loose_5 ⟨Nat.zero_le _, Nat.zero_le _⟩) hw hA h (fun r2 u H locs hw hv_r2 h => ?_)
  refine r_astoren (lv' := [(2, va_re ad r2), (0, .ref (ad 40)), (1, .int p0)]) hx hb dX7_loose_8 rfl hl (by decide) rfl (fun ls hl => ?_)
  refine r_aloadn hx hb dX7_loose_9 rfl (lv_at hl 0 rfl) ?_
  refine r_ifnull (tgt := 20) hx hb hv_r2 dX7_loose_10 (by decide) h (fun e4 h9 => ?_) (fun t3 e4 hv_t3 h9 => ?_)
  · clear h
    subst e4
    have h := h9
    have hl : lv_has ls 3 [(2, va_re ad none), (0, .ref (ad 40)), (1, .int p0)] := hl
    refine lv_iconst (v := (-1)) hx hb dX7_loose_20 (by decide) ?_
    exact r_iret hx hb hr hlocks hK hw h dX7_loose_21
  · clear h
    subst e4
    have h := h9
    have hl : lv_has ls 3 [(2, .ref (ad t3)), (0, .ref (ad 40)), (1, .int p0)] := hl
    refine lv_aload_n hx hb dX7_loose_13 rfl (lv_at hl 0 rfl) ?_
    refine r_getI hx hb hts n_X7_loose_X5 hown hK hw hv_t3 (by decide) rfl 4 (by decide) rfl (hts _ k_X7_loose_2) (fun _ q => q) dX7_loose_14 h (fun x5 h => ?_)
    refine lv_if_ne (tgt := 22) hx hb dX7_loose_17 (by decide) (fun hc => ?_) (fun hc => ?_)
    · rw [if_neg hc] at h
      refine lv_aload_n hx hb dX7_loose_22 rfl (lv_at hl 0 rfl) ?_
      refine lv_dup hx hb dX7_loose_23 rfl ?_
      refine r_getI hx hb hts n_X7_loose_X5 hown hK hw hv_t3 (by decide) rfl 4 (by decide) rfl (hts _ k_X7_loose_2) (fun _ q => q) dX7_loose_24 h (fun x6 h => ?_)
      refine lv_iconst (v := 1) hx hb dX7_loose_27 (by decide) ?_
      refine lv_isub hx hb dX7_loose_28 ?_
      refine r_putI (ty := .int) hx hb hts n_X7_loose_X5 tyX5 tyX5_ok nmX5 hown hK hw hv_t3 (by decide) rfl 4 (by decide) rfl (hts _ k_X7_loose_2) (fun _ q => q) rfl rfl rfl rfl dX7_loose_29 h (fun u H locs hw h => ?_)
      refine lv_aload_n hx hb dX7_loose_32 rfl (lv_at hl 1 rfl) ?_
      refine r_getC (t2 := 1) (d := 48) hx hb hts n_X7_loose_X7 hown hK hw h_this (by decide) rfl 2 (by decide) rfl rfl (hts _ k_X7_loose_3) (fun _ q => q) dX7_loose_33 (fun hv7 => ?_)
      refine lv_aload_n hx hb dX7_loose_36 rfl (lv_at hl 0 rfl) ?_
      refine r_bI (fun o ho => r_vI (As := [.ref (ad t3)]) (rest := []) ⟨hx, hb, hml, hown, hts⟩ (c_X1_less l D cy L ad N t3 u o hv7 hv_t3 ho) (cwV 1 hts gX7_loose_X1_less rfl rfl rfl (by decide +kernel) ⟨Nat.le_of_ble_eq_true rfl, Nat.le_of_ble_eq_true rfl⟩) hw hK hv7 (by decide) rfl rfl hl.1 rfl (Nat.le_of_ble_eq_true rfl) dX7_loose_37 ⟨Nat.zero_le _, Nat.zero_le _⟩) hw hA h (fun x8 u H locs hw h => ?_)
      exact r_iret hx hb hr hlocks hK hw h dX7_loose_40
    · rw [if_pos hc] at h
      refine lv_iconst (v := (-1)) hx hb dX7_loose_20 (by decide) ?_
      exact r_iret hx hb hr hlocks hK hw h dX7_loose_21
theorem k_X7_wish_1 : Cond.fieldLink RX7 27 "RingHeap" "counting" "LRingHeap$Counting;" ∈ wsX7_wish := List.mem_of_getElem? (i := 1) (by rfl)
theorem n_X7_wish_X7 : ∀ w ∈ u_ws RX7 TX7 5, w ∈ wsX7_wish := fun _ h => List.mem_cons_of_mem _ (List.mem_append_left _ (List.mem_append_left _ (List.mem_append_left _ (List.mem_append_right _ h))))
theorem k_X7_wish_2 : Cond.fieldLink RX7 109 "RingHeap$Counting" "wishes" "LRingHeap$Row;" ∈ wsX7_wish := List.mem_of_getElem? (i := 2) (by rfl)
theorem n_X7_wish_X1 : ∀ w ∈ u_ws RX1 TX1 4, w ∈ wsX7_wish := fun _ h => List.mem_cons_of_mem _ (List.mem_append_left _ (List.mem_append_left _ (List.mem_append_right _ h)))
theorem k_X7_wish_3 : Cond.fieldLink RX7 74 "RingHeap$Thing" "hands" "I" ∈ wsX7_wish := List.mem_of_getElem? (i := 3) (by rfl)
theorem n_X7_wish_X5 : ∀ w ∈ u_ws RX5 TX5 11, w ∈ wsX7_wish := fun _ h => List.mem_cons_of_mem _ (List.mem_append_left _ (List.mem_append_right _ h))
theorem k_X7_wish_4 : Cond.fieldLink RX7 119 "RingHeap$Thing" "number" "I" ∈ wsX7_wish := List.mem_of_getElem? (i := 4) (by rfl)
def f_X7_wish (N : Nat)  (u : Mm) : Option (Int32 × Mm) :=
  bd (f_X3_takeFirst N 53 u) (fun r3 u => nl r3 (some ((-1), u)) (fun t4 => pt (u.1 t4 4) (fun x6 => pt (sI u t4 4 (x6 + 1)) (fun u => pt (u.1 t4 0) (fun x7 => some (x7, u))))))
set_option maxHeartbeats 4000000 in
set_option maxRecDepth 100000 in
theorem c_X7_wish (l : Launch) (D : va_G) (cy : Nat → ClassId) (L : List Nat) (ad : Nat → Nat) (N : Nat)  (u : Mm) (o : Int32 × Mm) (h_this : vn L 7 40) (h : f_X7_wish N  u = some o) : MtI l yX7_wish wsX7_wish ({ frames := 2, cells := 0, slots := 0, locals := 43 } : Room) D cy L ad [.ref (ad 40)] u o := by
  intro sz
  refine Met.ofW (cc := cX7_wish) (maxL := 2) (ret := (some .int)) (by decide) rfl ?_
  intro p e s m args below meth c s₁ B hml hv
  obtain ⟨rfl, hsz, hP, hK, hD0, hok⟩ := hv
  have hx := B.exec
  have hb := B.bytes
  have hr := B.returns
  have hts := atoms_spec (ws := wsX7_wish) B.pre
  have hown : s.vm.findClass RX7 = some m.cls := findClass_of_methodNamed B.named
  have hlocks := B.notSynchronized
  subst hsz
  have hw := wd_start hP hD0 hok
  have hA : ∀ q : Nat, s.heap.size ≤ q → va_A (wl cy L ad u) s.heap.size q := fun q h => Or.inr h
  generalize va_A (wl cy L ad u) s.heap.size = A at hw hA ⊢
  have C0 : Cx p m meth c cX7_wish (some .int) 2 s _ wsX7_wish RX7 D cy := ⟨hx, hb, hr, hml, hown, hts, hlocks, hK⟩
  have hl := lv_entry ([.ref (ad 40)]) (n := 2) (Nat.le_of_ble_eq_true rfl)
  rw [lg_entry_eq]
  generalize (lg_sl ([.ref (ad 40)]) ++ List.replicate (2 - (lg_sl ([.ref (ad 40)])).length) Slot.unset).toArray = ls at hl ⊢
  have hl : lv_has ls 2 [(0, .ref (ad 40))] := hl
  unfold f_X7_wish at h
  refine lv_aload_n hx hb dX7_wish_0 rfl (lv_at hl 0 rfl) ?_
  refine r_getC (t2 := 1) (d := 48) hx hb hts n_X7_wish_X7 hown hK hw h_this (by decide) rfl 2 (by decide) rfl rfl (hts _ k_X7_wish_1) (fun _ q => q) dX7_wish_1 (fun hv1 => ?_)
  refine r_getC (t2 := 3) (d := 53) hx hb hts n_X7_wish_X1 hown hK hw hv1 (by decide) rfl 3 (by decide) rfl rfl (hts _ k_X7_wish_2) (fun _ q => q) dX7_wish_4 (fun hv2 => ?_)
  refine r_bQ (fun o ho => r_vQ (As := []) (rest := []) ⟨hx, hb, hml, hown, hts⟩ (c_X3_takeFirst l D cy L ad N 53 u o hv2 ho) (cwV 0 hts gX7_wish_X3_takeFirst rfl rfl rfl (by decide +kernel) ⟨Nat.le_of_ble_eq_true rfl, Nat.le_of_ble_eq_true rfl⟩) hw hK hv2 (by decide) rfl rfl hl.1 rfl (Nat.le_of_ble_eq_true rfl) dX7_wish_7 ⟨Nat.zero_le _, Nat.zero_le _⟩) hw hA h (fun r3 u H locs hw hv_r3 h => ?_)
  refine r_astoren (lv' := [(1, va_re ad r3), (0, .ref (ad 40))]) hx hb dX7_wish_10 rfl hl (by decide) rfl (fun ls hl => ?_)
  refine r_aloadn hx hb dX7_wish_11 rfl (lv_at hl 0 rfl) ?_
  refine r_ifnonnull (tgt := 17) hx hb hv_r3 dX7_wish_12 (by decide) h (fun e5 h9 => ?_) (fun t4 e5 hv_t4 h9 => ?_)
  · clear h
    subst e5
    have h := h9
    have hl : lv_has ls 2 [(1, va_re ad none), (0, .ref (ad 40))] := hl
    refine lv_iconst (v := (-1)) hx hb dX7_wish_15 (by decide) ?_
    exact r_iret hx hb hr hlocks hK hw h dX7_wish_16
  · clear h
    subst e5
    have h := h9
    have hl : lv_has ls 2 [(1, .ref (ad t4)), (0, .ref (ad 40))] := hl
    refine lv_aload_n hx hb dX7_wish_17 rfl (lv_at hl 0 rfl) ?_
    refine lv_dup hx hb dX7_wish_18 rfl ?_
    refine r_getI hx hb hts n_X7_wish_X5 hown hK hw hv_t4 (by decide) rfl 4 (by decide) rfl (hts _ k_X7_wish_3) (fun _ q => q) dX7_wish_19 h (fun x6 h => ?_)
    refine lv_iconst (v := 1) hx hb dX7_wish_22 (by decide) ?_
    refine lv_iadd hx hb dX7_wish_23 ?_
    refine r_putI (ty := .int) hx hb hts n_X7_wish_X5 tyX5 tyX5_ok nmX5 hown hK hw hv_t4 (by decide) rfl 4 (by decide) rfl (hts _ k_X7_wish_3) (fun _ q => q) rfl rfl rfl rfl dX7_wish_24 h (fun u H locs hw h => ?_)
    refine lv_aload_n hx hb dX7_wish_27 rfl (lv_at hl 0 rfl) ?_
    refine r_getI hx hb hts n_X7_wish_X5 hown hK hw hv_t4 (by decide) rfl 0 (by decide) rfl (hts _ k_X7_wish_4) (fun _ q => q) dX7_wish_28 h (fun x7 h => ?_)
    exact r_iret hx hb hr hlocks hK hw h dX7_wish_31
theorem k_X7_collect_1 : Cond.fieldLink RX7 36 "RingHeap" "collector" "LRingHeap$Collector;" ∈ wsX7_collect := List.mem_of_getElem? (i := 1) (by rfl)
theorem n_X7_collect_X7 : ∀ w ∈ u_ws RX7 TX7 5, w ∈ wsX7_collect := fun _ h => List.mem_cons_of_mem _ (List.mem_append_left _ (List.mem_append_left _ (List.mem_append_left _ (List.mem_append_left _ (List.mem_append_left _ (List.mem_append_left _ (List.mem_append_left _ (List.mem_append_right _ h))))))))
def f_X7_collect (N : Nat)  (u : Mm) : Option (Int32 × Mm) :=
  bd (f_X0_run N u) (fun x2 u => some (x2, u))
set_option maxHeartbeats 4000000 in
set_option maxRecDepth 100000 in
theorem c_X7_collect (l : Launch) (D : va_G) (cy : Nat → ClassId) (L : List Nat) (ad : Nat → Nat) (N : Nat)  (u : Mm) (o : Int32 × Mm) (h_this : vn L 7 40) (h : f_X7_collect N  u = some o) : MtI l yX7_collect wsX7_collect ({ frames := 7, cells := 0, slots := 0, locals := 161 } : Room) D cy L ad [.ref (ad 40)] u o := by
  intro sz
  refine Met.ofW (cc := cX7_collect) (maxL := 1) (ret := (some .int)) (by decide) rfl ?_
  intro p e s m args below meth c s₁ B hml hv
  obtain ⟨rfl, hsz, hP, hK, hD0, hok⟩ := hv
  have hx := B.exec
  have hb := B.bytes
  have hr := B.returns
  have hts := atoms_spec (ws := wsX7_collect) B.pre
  have hown : s.vm.findClass RX7 = some m.cls := findClass_of_methodNamed B.named
  have hlocks := B.notSynchronized
  subst hsz
  have hw := wd_start hP hD0 hok
  have hA : ∀ q : Nat, s.heap.size ≤ q → va_A (wl cy L ad u) s.heap.size q := fun q h => Or.inr h
  generalize va_A (wl cy L ad u) s.heap.size = A at hw hA ⊢
  have C0 : Cx p m meth c cX7_collect (some .int) 1 s _ wsX7_collect RX7 D cy := ⟨hx, hb, hr, hml, hown, hts, hlocks, hK⟩
  have hl := lv_entry ([.ref (ad 40)]) (n := 1) (Nat.le_of_ble_eq_true rfl)
  rw [lg_entry_eq]
  generalize (lg_sl ([.ref (ad 40)]) ++ List.replicate (1 - (lg_sl ([.ref (ad 40)])).length) Slot.unset).toArray = ls at hl ⊢
  have hl : lv_has ls 1 [(0, .ref (ad 40))] := hl
  unfold f_X7_collect at h
  refine lv_aload_n hx hb dX7_collect_0 rfl (lv_at hl 0 rfl) ?_
  refine r_getC (t2 := 0) (d := 55) hx hb hts n_X7_collect_X7 hown hK hw h_this (by decide) rfl 3 (by decide) rfl rfl (hts _ k_X7_collect_1) (fun _ q => q) dX7_collect_1 (fun hv1 => ?_)
  refine r_bI (fun o ho => r_vI (As := []) (rest := []) ⟨hx, hb, hml, hown, hts⟩ (c_X0_run l D cy L ad N u o hv1 ho) (cwV 0 hts gX7_collect_X0_run rfl rfl rfl (by decide +kernel) ⟨Nat.le_of_ble_eq_true rfl, Nat.le_of_ble_eq_true rfl⟩) hw hK hv1 (by decide) rfl rfl hl.1 rfl (Nat.le_of_ble_eq_true rfl) dX7_collect_4 ⟨Nat.zero_le _, Nat.zero_le _⟩) hw hA h (fun x2 u H locs hw h => ?_)
  exact r_iret hx hb hr hlocks hK hw h dX7_collect_7
theorem k_X7_pack_1 : Cond.fieldLink RX7 122 "RingHeap" "moves" "I" ∈ wsX7_pack := List.mem_of_getElem? (i := 1) (by rfl)
theorem n_X7_pack_X7 : ∀ w ∈ u_ws RX7 TX7 5, w ∈ wsX7_pack := fun _ h => List.mem_cons_of_mem _ (List.mem_append_left _ (List.mem_append_left _ (List.mem_append_left _ (List.mem_append_left _ (List.mem_append_right _ h)))))
theorem k_X7_pack_2 : Cond.fieldLink RX7 18 "RingHeap" "store" "LRingHeap$Store;" ∈ wsX7_pack := List.mem_of_getElem? (i := 2) (by rfl)
theorem k_X7_pack_3 : Cond.fieldLink RX7 125 "RingHeap$Store" "words" "LRingHeap$Words;" ∈ wsX7_pack := List.mem_of_getElem? (i := 3) (by rfl)
theorem n_X7_pack_X4 : ∀ w ∈ u_ws RX4 TX4 6, w ∈ wsX7_pack := fun _ h => List.mem_cons_of_mem _ (List.mem_append_left _ (List.mem_append_left _ (List.mem_append_left _ (List.mem_append_right _ h))))
def f_X7_pack (N : Nat)  (u : Mm) : Option (Int32 × Mm) :=
  pt (u.1 40 4) (fun x1 => pt (sI u 40 4 (x1 + 1)) (fun u => bd (f_X6_moveAllDown N u) (fun x4 u => some (x4, u))))
set_option maxHeartbeats 4000000 in
set_option maxRecDepth 100000 in
theorem c_X7_pack (l : Launch) (D : va_G) (cy : Nat → ClassId) (L : List Nat) (ad : Nat → Nat) (N : Nat)  (u : Mm) (o : Int32 × Mm) (h_this : vn L 7 40) (h : f_X7_pack N  u = some o) : MtI l yX7_pack wsX7_pack ({ frames := 3, cells := 0, slots := 0, locals := 67 } : Room) D cy L ad [.ref (ad 40)] u o := by
  intro sz
  refine Met.ofW (cc := cX7_pack) (maxL := 1) (ret := (some .int)) (by decide) rfl ?_
  intro p e s m args below meth c s₁ B hml hv
  obtain ⟨rfl, hsz, hP, hK, hD0, hok⟩ := hv
  have hx := B.exec
  have hb := B.bytes
  have hr := B.returns
  have hts := atoms_spec (ws := wsX7_pack) B.pre
  have hown : s.vm.findClass RX7 = some m.cls := findClass_of_methodNamed B.named
  have hlocks := B.notSynchronized
  subst hsz
  have hw := wd_start hP hD0 hok
  have hA : ∀ q : Nat, s.heap.size ≤ q → va_A (wl cy L ad u) s.heap.size q := fun q h => Or.inr h
  generalize va_A (wl cy L ad u) s.heap.size = A at hw hA ⊢
  have C0 : Cx p m meth c cX7_pack (some .int) 1 s _ wsX7_pack RX7 D cy := ⟨hx, hb, hr, hml, hown, hts, hlocks, hK⟩
  have hl := lv_entry ([.ref (ad 40)]) (n := 1) (Nat.le_of_ble_eq_true rfl)
  rw [lg_entry_eq]
  generalize (lg_sl ([.ref (ad 40)]) ++ List.replicate (1 - (lg_sl ([.ref (ad 40)])).length) Slot.unset).toArray = ls at hl ⊢
  have hl : lv_has ls 1 [(0, .ref (ad 40))] := hl
  unfold f_X7_pack at h
  refine lv_aload_n hx hb dX7_pack_0 rfl (lv_at hl 0 rfl) ?_
  refine lv_dup hx hb dX7_pack_1 rfl ?_
  refine r_getI hx hb hts n_X7_pack_X7 hown hK hw h_this (by decide) rfl 4 (by decide) rfl (hts _ k_X7_pack_1) (fun _ q => q) dX7_pack_2 h (fun x1 h => ?_)
  refine lv_iconst (v := 1) hx hb dX7_pack_5 (by decide) ?_
  refine lv_iadd hx hb dX7_pack_6 ?_
  refine r_putI (ty := .int) hx hb hts n_X7_pack_X7 tyX7 tyX7_ok nmX7 hown hK hw h_this (by decide) rfl 4 (by decide) rfl (hts _ k_X7_pack_1) (fun _ q => q) rfl rfl rfl rfl dX7_pack_7 h (fun u H locs hw h => ?_)
  refine lv_aload_n hx hb dX7_pack_10 rfl (lv_at hl 0 rfl) ?_
  refine r_getC (t2 := 4) (d := 42) hx hb hts n_X7_pack_X7 hown hK hw h_this (by decide) rfl 1 (by decide) rfl rfl (hts _ k_X7_pack_2) (fun _ q => q) dX7_pack_11 (fun hv2 => ?_)
  refine r_getC (t2 := 6) (d := 46) hx hb hts n_X7_pack_X4 hown hK hw hv2 (by decide) rfl 3 (by decide) rfl rfl (hts _ k_X7_pack_3) (fun _ q => q) dX7_pack_14 (fun hv3 => ?_)
  refine r_bI (fun o ho => r_vI (As := []) (rest := []) ⟨hx, hb, hml, hown, hts⟩ (c_X6_moveAllDown l D cy L ad N u o hv3 ho) (cwV 0 hts gX7_pack_X6_moveAllDown rfl rfl rfl (by decide +kernel) ⟨Nat.le_of_ble_eq_true rfl, Nat.le_of_ble_eq_true rfl⟩) hw hK hv3 (by decide) rfl rfl hl.1 rfl (Nat.le_of_ble_eq_true rfl) dX7_pack_17 ⟨Nat.zero_le _, Nat.zero_le _⟩) hw hA h (fun x4 u H locs hw h => ?_)
  exact r_iret hx hb hr hlocks hK hw h dX7_pack_20
theorem k_X7_listed_1 : Cond.fieldLink RX7 27 "RingHeap" "counting" "LRingHeap$Counting;" ∈ wsX7_listed := List.mem_of_getElem? (i := 1) (by rfl)
theorem n_X7_listed_X7 : ∀ w ∈ u_ws RX7 TX7 5, w ∈ wsX7_listed := fun _ h => List.mem_cons_of_mem _ (List.mem_append_left _ (List.mem_append_left _ (List.mem_append_left _ (List.mem_append_right _ h))))
theorem k_X7_listed_2 : Cond.fieldLink RX7 148 "RingHeap$Counting" "list" "LRingHeap$Row;" ∈ wsX7_listed := List.mem_of_getElem? (i := 2) (by rfl)
theorem n_X7_listed_X1 : ∀ w ∈ u_ws RX1 TX1 4, w ∈ wsX7_listed := fun _ h => List.mem_cons_of_mem _ (List.mem_append_left _ (List.mem_append_left _ (List.mem_append_right _ h)))
def f_X7_listed (N : Nat) (p0 : Int32) (u : Mm) : Option (Int32 × Mm) :=
  bd (f_X3_item N 51 p0 u) (fun r3 u => bd (f_X7_numberOf N r3 u) (fun x4 u => some (x4, u)))
set_option maxHeartbeats 4000000 in
set_option maxRecDepth 100000 in
theorem c_X7_listed (l : Launch) (D : va_G) (cy : Nat → ClassId) (L : List Nat) (ad : Nat → Nat) (N : Nat) (p0 : Int32) (u : Mm) (o : Int32 × Mm) (h_this : vn L 7 40) (h : f_X7_listed N p0 u = some o) : MtI l yX7_listed wsX7_listed ({ frames := 1, cells := 0, slots := 0, locals := 21 } : Room) D cy L ad [.ref (ad 40), .int p0] u o := by
  intro sz
  refine Met.ofW (cc := cX7_listed) (maxL := 2) (ret := (some .int)) (by decide) rfl ?_
  intro p e s m args below meth c s₁ B hml hv
  obtain ⟨rfl, hsz, hP, hK, hD0, hok⟩ := hv
  have hx := B.exec
  have hb := B.bytes
  have hr := B.returns
  have hts := atoms_spec (ws := wsX7_listed) B.pre
  have hown : s.vm.findClass RX7 = some m.cls := findClass_of_methodNamed B.named
  have hlocks := B.notSynchronized
  subst hsz
  have hw := wd_start hP hD0 hok
  have hA : ∀ q : Nat, s.heap.size ≤ q → va_A (wl cy L ad u) s.heap.size q := fun q h => Or.inr h
  generalize va_A (wl cy L ad u) s.heap.size = A at hw hA ⊢
  have C0 : Cx p m meth c cX7_listed (some .int) 2 s _ wsX7_listed RX7 D cy := ⟨hx, hb, hr, hml, hown, hts, hlocks, hK⟩
  have hl := lv_entry ([.ref (ad 40), .int p0]) (n := 2) (Nat.le_of_ble_eq_true rfl)
  rw [lg_entry_eq]
  generalize (lg_sl ([.ref (ad 40), .int p0]) ++ List.replicate (2 - (lg_sl ([.ref (ad 40), .int p0])).length) Slot.unset).toArray = ls at hl ⊢
  have hl : lv_has ls 2 [(0, .ref (ad 40)), (1, .int p0)] := hl
  unfold f_X7_listed at h
  refine lv_aload_n hx hb dX7_listed_0 rfl (lv_at hl 0 rfl) ?_
  refine r_getC (t2 := 1) (d := 48) hx hb hts n_X7_listed_X7 hown hK hw h_this (by decide) rfl 2 (by decide) rfl rfl (hts _ k_X7_listed_1) (fun _ q => q) dX7_listed_1 (fun hv1 => ?_)
  refine r_getC (t2 := 3) (d := 51) hx hb hts n_X7_listed_X1 hown hK hw hv1 (by decide) rfl 2 (by decide) rfl rfl (hts _ k_X7_listed_2) (fun _ q => q) dX7_listed_4 (fun hv2 => ?_)
  refine lv_iload_n hx hb dX7_listed_7 rfl (lv_at hl 1 rfl) ?_
  refine r_bQ (fun o ho => r_vQ (As := [.int p0]) (rest := []) ⟨hx, hb, hml, hown, hts⟩ (c_X3_item l D cy L ad N 51 p0 u o hv2 ho) (cwV 1 hts gX7_listed_X3_item rfl rfl rfl (by decide +kernel) ⟨Nat.le_of_ble_eq_true rfl, Nat.le_of_ble_eq_true rfl⟩) hw hK hv2 (by decide) rfl rfl hl.1 rfl (Nat.le_of_ble_eq_true rfl) dX7_listed_8 ⟨Nat.zero_le _, Nat.zero_le _⟩) hw hA h (fun r3 u H locs hw hv_r3 h => ?_)
  refine r_bI (fun o ho => r_sI (As := [va_re ad r3]) (rest := []) ⟨hx, hb, hml, hown, hts⟩ (c_X7_numberOf l D cy L ad N r3 u o hv_r3 ho) (va_cwS 1 hts gX7_listed_X7_numberOf rfl rfl rfl (by decide +kernel) ⟨Nat.le_of_ble_eq_true rfl, Nat.le_of_ble_eq_true rfl⟩) hw hK rfl hl.1 rfl (Nat.le_of_ble_eq_true rfl) dX7_listed_11 ⟨Nat.zero_le _, Nat.zero_le _⟩) hw hA h (fun x4 u H locs hw h => ?_)
  exact r_iret hx hb hr hlocks hK hw h dX7_listed_14
theorem k_X7_freed_1 : Cond.fieldLink RX7 18 "RingHeap" "store" "LRingHeap$Store;" ∈ wsX7_freed := List.mem_of_getElem? (i := 1) (by rfl)
theorem n_X7_freed_X7 : ∀ w ∈ u_ws RX7 TX7 5, w ∈ wsX7_freed := fun _ h => List.mem_cons_of_mem _ (List.mem_append_left _ (List.mem_append_right _ h))
def f_X7_freed (N : Nat) (p0 : Int32) (u : Mm) : Option (Int32 × Mm) :=
  bd (f_X4_freedNumber N p0 u) (fun x2 u => some (x2, u))
set_option maxHeartbeats 4000000 in
set_option maxRecDepth 100000 in
theorem c_X7_freed (l : Launch) (D : va_G) (cy : Nat → ClassId) (L : List Nat) (ad : Nat → Nat) (N : Nat) (p0 : Int32) (u : Mm) (o : Int32 × Mm) (h_this : vn L 7 40) (h : f_X7_freed N p0 u = some o) : MtI l yX7_freed wsX7_freed ({ frames := 1, cells := 0, slots := 0, locals := 21 } : Room) D cy L ad [.ref (ad 40), .int p0] u o := by
  intro sz
  refine Met.ofW (cc := cX7_freed) (maxL := 2) (ret := (some .int)) (by decide) rfl ?_
  intro p e s m args below meth c s₁ B hml hv
  obtain ⟨rfl, hsz, hP, hK, hD0, hok⟩ := hv
  have hx := B.exec
  have hb := B.bytes
  have hr := B.returns
  have hts := atoms_spec (ws := wsX7_freed) B.pre
  have hown : s.vm.findClass RX7 = some m.cls := findClass_of_methodNamed B.named
  have hlocks := B.notSynchronized
  subst hsz
  have hw := wd_start hP hD0 hok
  have hA : ∀ q : Nat, s.heap.size ≤ q → va_A (wl cy L ad u) s.heap.size q := fun q h => Or.inr h
  generalize va_A (wl cy L ad u) s.heap.size = A at hw hA ⊢
  have C0 : Cx p m meth c cX7_freed (some .int) 2 s _ wsX7_freed RX7 D cy := ⟨hx, hb, hr, hml, hown, hts, hlocks, hK⟩
  have hl := lv_entry ([.ref (ad 40), .int p0]) (n := 2) (Nat.le_of_ble_eq_true rfl)
  rw [lg_entry_eq]
  generalize (lg_sl ([.ref (ad 40), .int p0]) ++ List.replicate (2 - (lg_sl ([.ref (ad 40), .int p0])).length) Slot.unset).toArray = ls at hl ⊢
  have hl : lv_has ls 2 [(0, .ref (ad 40)), (1, .int p0)] := hl
  unfold f_X7_freed at h
  refine lv_aload_n hx hb dX7_freed_0 rfl (lv_at hl 0 rfl) ?_
  refine r_getC (t2 := 4) (d := 42) hx hb hts n_X7_freed_X7 hown hK hw h_this (by decide) rfl 1 (by decide) rfl rfl (hts _ k_X7_freed_1) (fun _ q => q) dX7_freed_1 (fun hv1 => ?_)
  refine lv_iload_n hx hb dX7_freed_4 rfl (lv_at hl 1 rfl) ?_
  refine r_bI (fun o ho => r_vI (As := [.int p0]) (rest := []) ⟨hx, hb, hml, hown, hts⟩ (c_X4_freedNumber l D cy L ad N p0 u o hv1 ho) (cwV 1 hts gX7_freed_X4_freedNumber rfl rfl rfl (by decide +kernel) ⟨Nat.le_of_ble_eq_true rfl, Nat.le_of_ble_eq_true rfl⟩) hw hK hv1 (by decide) rfl rfl hl.1 rfl (Nat.le_of_ble_eq_true rfl) dX7_freed_5 ⟨Nat.zero_le _, Nat.zero_le _⟩) hw hA h (fun x2 u H locs hw h => ?_)
  exact r_iret hx hb hr hlocks hK hw h dX7_freed_8
theorem k_X7_makeRoomByMoving_1 : Cond.fieldLink RX7 18 "RingHeap" "store" "LRingHeap$Store;" ∈ wsX7_makeRoomByMoving := List.mem_of_getElem? (i := 1) (by rfl)
theorem n_X7_makeRoomByMoving_X7 : ∀ w ∈ u_ws RX7 TX7 5, w ∈ wsX7_makeRoomByMoving := fun _ h => List.mem_cons_of_mem _ (List.mem_append_left _ (List.mem_append_left _ (List.mem_append_left _ (List.mem_append_left _ (List.mem_append_right _ h)))))
theorem k_X7_makeRoomByMoving_2 : Cond.fieldLink RX7 125 "RingHeap$Store" "words" "LRingHeap$Words;" ∈ wsX7_makeRoomByMoving := List.mem_of_getElem? (i := 2) (by rfl)
theorem n_X7_makeRoomByMoving_X4 : ∀ w ∈ u_ws RX4 TX4 6, w ∈ wsX7_makeRoomByMoving := fun _ h => List.mem_cons_of_mem _ (List.mem_append_left _ (List.mem_append_left _ (List.mem_append_left _ (List.mem_append_right _ h))))
theorem k_X7_makeRoomByMoving_3 : Cond.fieldLink RX7 154 "RingHeap$Words" "free" "I" ∈ wsX7_makeRoomByMoving := List.mem_of_getElem? (i := 3) (by rfl)
theorem n_X7_makeRoomByMoving_X6 : ∀ w ∈ u_ws RX6 TX6 2, w ∈ wsX7_makeRoomByMoving := fun _ h => List.mem_cons_of_mem _ (List.mem_append_left _ (List.mem_append_left _ (List.mem_append_right _ h)))
theorem k_X7_makeRoomByMoving_4 : Cond.fieldLink RX7 183 "RingHeap$Kind" "size" "I" ∈ wsX7_makeRoomByMoving := List.mem_of_getElem? (i := 4) (by rfl)
theorem n_X7_makeRoomByMoving_X2 : ∀ w ∈ u_ws RX2 TX2 4, w ∈ wsX7_makeRoomByMoving := fun _ h => List.mem_cons_of_mem _ (List.mem_append_left _ (List.mem_append_right _ h))
theorem k_X7_makeRoomByMoving_5 : Cond.fieldLink RX7 122 "RingHeap" "moves" "I" ∈ wsX7_makeRoomByMoving := List.mem_of_getElem? (i := 5) (by rfl)
def f_X7_makeRoomByMoving (N : Nat) (p0 : Nat) (u : Mm) : Option (Int32 × Mm) :=
  bd (f_X4_leastFreeNumber N u) (fun x2 u => if x2 = (-1) then (some (0, u)) else (pt (u.1 46 1) (fun x5 => pt (u.1 p0 2) (fun x6 => if x6 ≤ x5 then (pt (u.1 40 4) (fun x7 => pt (sI u 40 4 (x7 + 1)) (fun u => bd (f_X6_moveAllDown N u) (fun x10 u => some (1, u))))) else (some (0, u))))))
set_option maxHeartbeats 4000000 in
set_option maxRecDepth 100000 in
theorem c_X7_makeRoomByMoving (l : Launch) (D : va_G) (cy : Nat → ClassId) (L : List Nat) (ad : Nat → Nat) (N : Nat) (p0 : Nat) (u : Mm) (o : Int32 × Mm) (h_this : vn L 7 40) (h_p0 : vn L 2 p0) (h : f_X7_makeRoomByMoving N p0 u = some o) : MtI l yX7_makeRoomByMoving wsX7_makeRoomByMoving ({ frames := 3, cells := 0, slots := 0, locals := 67 } : Room) D cy L ad [.ref (ad 40), .ref (ad p0)] u o := by
  intro sz
  refine Met.ofW (cc := cX7_makeRoomByMoving) (maxL := 2) (ret := (some .boolean)) (by decide) rfl ?_
  intro p e s m args below meth c s₁ B hml hv
  obtain ⟨rfl, hsz, hP, hK, hD0, hok⟩ := hv
  have hx := B.exec
  have hb := B.bytes
  have hr := B.returns
  have hts := atoms_spec (ws := wsX7_makeRoomByMoving) B.pre
  have hown : s.vm.findClass RX7 = some m.cls := findClass_of_methodNamed B.named
  have hlocks := B.notSynchronized
  subst hsz
  have hw := wd_start hP hD0 hok
  have hA : ∀ q : Nat, s.heap.size ≤ q → va_A (wl cy L ad u) s.heap.size q := fun q h => Or.inr h
  generalize va_A (wl cy L ad u) s.heap.size = A at hw hA ⊢
  have C0 : Cx p m meth c cX7_makeRoomByMoving (some .boolean) 2 s _ wsX7_makeRoomByMoving RX7 D cy := ⟨hx, hb, hr, hml, hown, hts, hlocks, hK⟩
  have hl := lv_entry ([.ref (ad 40), .ref (ad p0)]) (n := 2) (Nat.le_of_ble_eq_true rfl)
  rw [lg_entry_eq]
  generalize (lg_sl ([.ref (ad 40), .ref (ad p0)]) ++ List.replicate (2 - (lg_sl ([.ref (ad 40), .ref (ad p0)])).length) Slot.unset).toArray = ls at hl ⊢
  have hl : lv_has ls 2 [(0, .ref (ad 40)), (1, .ref (ad p0))] := hl
  unfold f_X7_makeRoomByMoving at h
  refine lv_aload_n hx hb dX7_makeRoomByMoving_0 rfl (lv_at hl 0 rfl) ?_
  refine r_getC (t2 := 4) (d := 42) hx hb hts n_X7_makeRoomByMoving_X7 hown hK hw h_this (by decide) rfl 1 (by decide) rfl rfl (hts _ k_X7_makeRoomByMoving_1) (fun _ q => q) dX7_makeRoomByMoving_1 (fun hv1 => ?_)
  refine r_bI (fun o ho => r_vI (As := []) (rest := []) ⟨hx, hb, hml, hown, hts⟩ (c_X4_leastFreeNumber l D cy L ad N u o hv1 ho) (cwV 0 hts gX7_makeRoomByMoving_X4_leastFreeNumber rfl rfl rfl (by decide +kernel) ⟨Nat.le_of_ble_eq_true rfl, Nat.le_of_ble_eq_true rfl⟩) hw hK hv1 (by decide) rfl rfl hl.1 rfl (Nat.le_of_ble_eq_true rfl) dX7_makeRoomByMoving_4 ⟨Nat.zero_le _, Nat.zero_le _⟩) hw hA h (fun x2 u H locs hw h => ?_)
  refine lv_iconst (v := (-1)) hx hb dX7_makeRoomByMoving_7 (by decide) ?_
  refine lv_icmp_eq (tgt := 28) hx hb dX7_makeRoomByMoving_8 (by decide) (fun hc => ?_) (fun hc => ?_)
  · rw [if_pos hc] at h
    refine lv_iconst (v := 0) hx hb dX7_makeRoomByMoving_28 (by decide) ?_
    exact r_zret hx hb hr hlocks hK hw (by decide) h dX7_makeRoomByMoving_29
  · rw [if_neg hc] at h
    refine lv_aload_n hx hb dX7_makeRoomByMoving_11 rfl (lv_at hl 0 rfl) ?_
    refine r_getC (t2 := 4) (d := 42) hx hb hts n_X7_makeRoomByMoving_X7 hown hK hw h_this (by decide) rfl 1 (by decide) rfl rfl (hts _ k_X7_makeRoomByMoving_1) (fun _ q => q) dX7_makeRoomByMoving_12 (fun hv3 => ?_)
    refine r_getC (t2 := 6) (d := 46) hx hb hts n_X7_makeRoomByMoving_X4 hown hK hw hv3 (by decide) rfl 3 (by decide) rfl rfl (hts _ k_X7_makeRoomByMoving_2) (fun _ q => q) dX7_makeRoomByMoving_15 (fun hv4 => ?_)
    refine r_getI hx hb hts n_X7_makeRoomByMoving_X6 hown hK hw hv4 (by decide) rfl 1 (by decide) rfl (hts _ k_X7_makeRoomByMoving_3) (fun _ q => q) dX7_makeRoomByMoving_18 h (fun x5 h => ?_)
    refine lv_aload_n hx hb dX7_makeRoomByMoving_21 rfl (lv_at hl 1 rfl) ?_
    refine r_getI hx hb hts n_X7_makeRoomByMoving_X2 hown hK hw h_p0 (by decide) rfl 2 (by decide) rfl (hts _ k_X7_makeRoomByMoving_4) (fun _ q => q) dX7_makeRoomByMoving_22 h (fun x6 h => ?_)
    refine lv_icmp_ge (tgt := 30) hx hb dX7_makeRoomByMoving_25 (by decide) (fun hc => ?_) (fun hc => ?_)
    · rw [if_pos hc] at h
      refine lv_aload_n hx hb dX7_makeRoomByMoving_30 rfl (lv_at hl 0 rfl) ?_
      refine lv_dup hx hb dX7_makeRoomByMoving_31 rfl ?_
      refine r_getI hx hb hts n_X7_makeRoomByMoving_X7 hown hK hw h_this (by decide) rfl 4 (by decide) rfl (hts _ k_X7_makeRoomByMoving_5) (fun _ q => q) dX7_makeRoomByMoving_32 h (fun x7 h => ?_)
      refine lv_iconst (v := 1) hx hb dX7_makeRoomByMoving_35 (by decide) ?_
      refine lv_iadd hx hb dX7_makeRoomByMoving_36 ?_
      refine r_putI (ty := .int) hx hb hts n_X7_makeRoomByMoving_X7 tyX7 tyX7_ok nmX7 hown hK hw h_this (by decide) rfl 4 (by decide) rfl (hts _ k_X7_makeRoomByMoving_5) (fun _ q => q) rfl rfl rfl rfl dX7_makeRoomByMoving_37 h (fun u H locs hw h => ?_)
      refine lv_aload_n hx hb dX7_makeRoomByMoving_40 rfl (lv_at hl 0 rfl) ?_
      refine r_getC (t2 := 4) (d := 42) hx hb hts n_X7_makeRoomByMoving_X7 hown hK hw h_this (by decide) rfl 1 (by decide) rfl rfl (hts _ k_X7_makeRoomByMoving_1) (fun _ q => q) dX7_makeRoomByMoving_41 (fun hv8 => ?_)
      refine r_getC (t2 := 6) (d := 46) hx hb hts n_X7_makeRoomByMoving_X4 hown hK hw hv8 (by decide) rfl 3 (by decide) rfl rfl (hts _ k_X7_makeRoomByMoving_2) (fun _ q => q) dX7_makeRoomByMoving_44 (fun hv9 => ?_)
      refine r_bI (fun o ho => r_vI (As := []) (rest := []) ⟨hx, hb, hml, hown, hts⟩ (c_X6_moveAllDown l D cy L ad N u o hv9 ho) (cwV 0 hts gX7_makeRoomByMoving_X6_moveAllDown rfl rfl rfl (by decide +kernel) ⟨Nat.le_of_ble_eq_true rfl, Nat.le_of_ble_eq_true rfl⟩) hw hK hv9 (by decide) rfl rfl hl.1 rfl (Nat.le_of_ble_eq_true rfl) dX7_makeRoomByMoving_47 ⟨Nat.zero_le _, Nat.zero_le _⟩) hw hA h (fun x10 u H locs hw h => ?_)
      refine lv_pop hx hb dX7_makeRoomByMoving_50 rfl ?_
      refine lv_iconst (v := 1) hx hb dX7_makeRoomByMoving_51 (by decide) ?_
      exact r_zret hx hb hr hlocks hK hw (by decide) h dX7_makeRoomByMoving_52
    · rw [if_neg hc] at h
      refine lv_iconst (v := 0) hx hb dX7_makeRoomByMoving_28 (by decide) ?_
      exact r_zret hx hb hr hlocks hK hw (by decide) h dX7_makeRoomByMoving_29

theorem k_X3_init_1 : Cond.methodLink RX3 3 objectInit ∈ wsX3_init := List.mem_of_getElem? (i := 1) (by rfl)
theorem k_X3_init_2 : Cond.instanceMethod objectInit ∈ wsX3_init := List.mem_of_getElem? (i := 2) (by rfl)
theorem k_X3_init_3 : Cond.code objectInit ⟨#[0xb1]⟩ 1 none ∈ wsX3_init := List.mem_of_getElem? (i := 3) (by rfl)
theorem k_X3_init_4 : Cond.classLink RX3 9 RX5 ∈ wsX3_init := List.mem_of_getElem? (i := 4) (by rfl)
theorem n_X3_init_X3 : ∀ w ∈ u_ws RX3 TX3 2, w ∈ wsX3_init := fun _ h => List.mem_cons_of_mem _ (List.mem_append_right _ h)
theorem k_X3_init_5 : Cond.fieldLink RX3 11 "RingHeap$Row" "things" "[LRingHeap$Thing;" ∈ wsX3_init := List.mem_of_getElem? (i := 5) (by rfl)
set_option maxHeartbeats 4000000 in
set_option maxRecDepth 100000 in
theorem c_X3_init (l : Launch) (D : va_G) (cy : Nat → ClassId) (h0 : Nat)  (sz : Nat) : Met l yX3_init wsX3_init ({ frames := 1, cells := 1, slots := 80, locals := 12 } : Room) (PcN D cy [(h0, .inr (3, [.null, .int 0]))] sz [.ref h0]) (QcN D cy (fun v : Nat => [(h0, .inr (3, [.ref v, .int 0])), (v, .inl (cy 3, 80, .inr (.inr (.inr (.inr (fun _ => none))))))]) (va_A [(h0, .inr (3, [.null, .int 0]))] sz)) 1 80 (va_A [(h0, .inr (3, [.null, .int 0]))] sz) := by
  refine Met.ofW (cc := cX3_init) (maxL := 1) (ret := none) (by decide) rfl ?_
  intro p e s m args below meth c s₁ B hml hv
  obtain ⟨rfl, hsz, hP, hK, hD0, hC⟩ := hv
  have hx := B.exec
  have hb := B.bytes
  have hr := B.returns
  have hts := atoms_spec (ws := wsX3_init) B.pre
  have hown : s.vm.findClass RX3 = some m.cls := findClass_of_methodNamed B.named
  have hlocks := B.notSynchronized
  have hin : meth.name = "<init>" := (name_of_methodNamed B.named B.method).1
  subst hsz
  have hD := hD0.self (sz := s.heap.size)
  generalize hAe : va_A [(h0, .inr (3, [.null, .int 0]))] s.heap.size = A at hD ⊢
  have hA : ∀ q : Nat, s.heap.size ≤ q → A q := fun q h => by rw [← hAe]; exact Or.inr h
  have hS : va_S A s.heap s.heap [] := va_S.rf
  have hl := lv_entry ([.ref h0]) (n := 1) (Nat.le_of_ble_eq_true rfl)
  rw [lg_entry_eq]
  generalize (lg_sl ([.ref h0]) ++ List.replicate (1 - (lg_sl ([.ref h0])).length) Slot.unset).toArray = ls at hl ⊢
  have hl : lv_has ls 1 [(0, .ref h0)] := hl
  refine lv_aload_n hx hb dX3_init_0 rfl (lv_at hl 0 rfl) ?_
  refine W.objInit hx hb hown (hts _ k_X3_init_1) (hts _ k_X3_init_2) (hts _ k_X3_init_3) rfl (by rw [hml]; exact hl.1) rfl dX3_init_1 (Nat.le_of_ble_eq_true rfl) (Nat.le_of_ble_eq_true rfl) ?_
  refine W.eq (g2 := F0 m 4 ls []) rfl ?_
  refine lv_aload_n hx hb dX3_init_4 rfl (lv_at hl 0 rfl) ?_
  refine lv_bipush (v := 80) hx hb dX3_init_5 (by decide) ?_
  refine va_newq hx hb hown (hts _ k_X3_init_4) hC.1 hK hP hD hS hA (N' := 80) (by decide) (by decide) (Nat.le_of_ble_eq_true rfl) (Nat.le_of_ble_eq_true rfl) (Nat.le_of_ble_eq_true rfl) dX3_init_7 (fun q1 cA H hK2 hP hD hS => ?_)
  obtain rfl := cn_eq3 hK2
  have hP : va_P D vwCl [(h0, .inr (3, [.null, .int 0])), (q1, .inl (cy 3, 80, .inr (.inr (.inr (.inr (fun _ => none))))))] H := hP
  have hD : va_D A [(h0, .inr (3, [.null, .int 0])), (q1, .inl (cy 3, 80, .inr (.inr (.inr (.inr (fun _ => none))))))] := hD
  refine W.widen (k := 1) (n := 80) (Nat.le_of_ble_eq_true rfl) (Nat.le_of_ble_eq_true rfl) ?_
  refine va_putF (D := D) (ci := 3) (v := .ref q1) (ty := .array (.object "RingHeap$Thing")) (C := RX3) (T := TX3) (N := 2) hx hb hts n_X3_init_X3 tyX3 tyX3_ok nmX3 hown hK hP hD hS 0 rfl rfl 0 (by decide) (hts _ k_X3_init_5) (fun _ h9 => h9) rfl hin rfl (by decide +kernel) rfl rfl (Nat.le_of_ble_eq_true rfl) dX3_init_10 (fun H locs hP hD hS => ?_)
  have hP : va_P D vwCl [(h0, .inr (3, [.ref q1, .int 0])), (q1, .inl (cy 3, 80, .inr (.inr (.inr (.inr (fun _ => none))))))] H := hP
  have hD : va_D A [(h0, .inr (3, [.ref q1, .int 0])), (q1, .inl (cy 3, 80, .inr (.inr (.inr (.inr (fun _ => none))))))] := hD
  exact W.vret hx hb hr (fun t ht hW => ⟨⟨q1, rfl, trivial, by rw [ht]; exact hP, va_K.moved hW.alike hK, hD⟩, hS.F ht⟩) hS.2.2 dX3_init_13
theorem k_X6_init_1 : Cond.methodLink RX6 3 objectInit ∈ wsX6_init := List.mem_of_getElem? (i := 1) (by rfl)
theorem k_X6_init_2 : Cond.instanceMethod objectInit ∈ wsX6_init := List.mem_of_getElem? (i := 2) (by rfl)
theorem k_X6_init_3 : Cond.code objectInit ⟨#[0xb1]⟩ 1 none ∈ wsX6_init := List.mem_of_getElem? (i := 3) (by rfl)
theorem k_X6_init_4 : Cond.classLink RX6 9 RX5 ∈ wsX6_init := List.mem_of_getElem? (i := 4) (by rfl)
theorem n_X6_init_X6 : ∀ w ∈ u_ws RX6 TX6 2, w ∈ wsX6_init := fun _ h => List.mem_cons_of_mem _ (List.mem_append_right _ h)
theorem k_X6_init_5 : Cond.fieldLink RX6 11 "RingHeap$Words" "owners" "[LRingHeap$Thing;" ∈ wsX6_init := List.mem_of_getElem? (i := 5) (by rfl)
theorem k_X6_init_6 : Cond.fieldLink RX6 17 "RingHeap$Words" "free" "I" ∈ wsX6_init := List.mem_of_getElem? (i := 6) (by rfl)
set_option maxHeartbeats 4000000 in
set_option maxRecDepth 100000 in
theorem c_X6_init (l : Launch) (D : va_G) (cy : Nat → ClassId) (h0 : Nat)  (sz : Nat) : Met l yX6_init wsX6_init ({ frames := 1, cells := 1, slots := 400, locals := 12 } : Room) (PcN D cy [(h0, .inr (6, [.null, .int 0]))] sz [.ref h0]) (QcN D cy (fun v : Nat => [(h0, .inr (6, [.ref v, .int 400])), (v, .inl (cy 3, 400, .inr (.inr (.inr (.inr (fun _ => none))))))]) (va_A [(h0, .inr (6, [.null, .int 0]))] sz)) 1 400 (va_A [(h0, .inr (6, [.null, .int 0]))] sz) := by
  refine Met.ofW (cc := cX6_init) (maxL := 1) (ret := none) (by decide) rfl ?_
  intro p e s m args below meth c s₁ B hml hv
  obtain ⟨rfl, hsz, hP, hK, hD0, hC⟩ := hv
  have hx := B.exec
  have hb := B.bytes
  have hr := B.returns
  have hts := atoms_spec (ws := wsX6_init) B.pre
  have hown : s.vm.findClass RX6 = some m.cls := findClass_of_methodNamed B.named
  have hlocks := B.notSynchronized
  have hin : meth.name = "<init>" := (name_of_methodNamed B.named B.method).1
  subst hsz
  have hD := hD0.self (sz := s.heap.size)
  generalize hAe : va_A [(h0, .inr (6, [.null, .int 0]))] s.heap.size = A at hD ⊢
  have hA : ∀ q : Nat, s.heap.size ≤ q → A q := fun q h => by rw [← hAe]; exact Or.inr h
  have hS : va_S A s.heap s.heap [] := va_S.rf
  have hl := lv_entry ([.ref h0]) (n := 1) (Nat.le_of_ble_eq_true rfl)
  rw [lg_entry_eq]
  generalize (lg_sl ([.ref h0]) ++ List.replicate (1 - (lg_sl ([.ref h0])).length) Slot.unset).toArray = ls at hl ⊢
  have hl : lv_has ls 1 [(0, .ref h0)] := hl
  refine lv_aload_n hx hb dX6_init_0 rfl (lv_at hl 0 rfl) ?_
  refine W.objInit hx hb hown (hts _ k_X6_init_1) (hts _ k_X6_init_2) (hts _ k_X6_init_3) rfl (by rw [hml]; exact hl.1) rfl dX6_init_1 (Nat.le_of_ble_eq_true rfl) (Nat.le_of_ble_eq_true rfl) ?_
  refine W.eq (g2 := F0 m 4 ls []) rfl ?_
  refine lv_aload_n hx hb dX6_init_4 rfl (lv_at hl 0 rfl) ?_
  refine lv_sipush (v := 400) hx hb dX6_init_5 (by decide) ?_
  refine va_newq hx hb hown (hts _ k_X6_init_4) hC.1 hK hP hD hS hA (N' := 400) (by decide) (by decide) (Nat.le_of_ble_eq_true rfl) (Nat.le_of_ble_eq_true rfl) (Nat.le_of_ble_eq_true rfl) dX6_init_8 (fun q1 cA H hK2 hP hD hS => ?_)
  obtain rfl := cn_eq3 hK2
  have hP : va_P D vwCl [(h0, .inr (6, [.null, .int 0])), (q1, .inl (cy 3, 400, .inr (.inr (.inr (.inr (fun _ => none))))))] H := hP
  have hD : va_D A [(h0, .inr (6, [.null, .int 0])), (q1, .inl (cy 3, 400, .inr (.inr (.inr (.inr (fun _ => none))))))] := hD
  refine W.widen (k := 1) (n := 400) (Nat.le_of_ble_eq_true rfl) (Nat.le_of_ble_eq_true rfl) ?_
  refine va_putF (D := D) (ci := 6) (v := .ref q1) (ty := .array (.object "RingHeap$Thing")) (C := RX6) (T := TX6) (N := 2) hx hb hts n_X6_init_X6 tyX6 tyX6_ok nmX6 hown hK hP hD hS 0 rfl rfl 0 (by decide) (hts _ k_X6_init_5) (fun _ h9 => h9) rfl hin rfl (by decide +kernel) rfl rfl (Nat.le_of_ble_eq_true rfl) dX6_init_11 (fun H locs hP hD hS => ?_)
  have hP : va_P D vwCl [(h0, .inr (6, [.ref q1, .int 0])), (q1, .inl (cy 3, 400, .inr (.inr (.inr (.inr (fun _ => none))))))] H := hP
  have hD : va_D A [(h0, .inr (6, [.ref q1, .int 0])), (q1, .inl (cy 3, 400, .inr (.inr (.inr (.inr (fun _ => none))))))] := hD
  refine lv_aload_n hx hb dX6_init_14 rfl (lv_at hl 0 rfl) ?_
  refine lv_sipush (v := 400) hx hb dX6_init_15 (by decide) ?_
  refine va_put (D := D) (ci := 6) (v := .int 400) (ty := .int) (C := RX6) (T := TX6) (N := 2) hx hb hts n_X6_init_X6 tyX6 tyX6_ok nmX6 hown hK hP hD hS 0 rfl rfl 1 (by decide) (hts _ k_X6_init_6) (fun _ h9 => h9) rfl (by decide +kernel) rfl rfl (Nat.le_of_ble_eq_true rfl) dX6_init_18 (fun H locs hP hD hS => ?_)
  have hP : va_P D vwCl [(h0, .inr (6, [.ref q1, .int 400])), (q1, .inl (cy 3, 400, .inr (.inr (.inr (.inr (fun _ => none))))))] H := hP
  have hD : va_D A [(h0, .inr (6, [.ref q1, .int 400])), (q1, .inl (cy 3, 400, .inr (.inr (.inr (.inr (fun _ => none))))))] := hD
  exact W.vret hx hb hr (fun t ht hW => ⟨⟨q1, rfl, trivial, by rw [ht]; exact hP, va_K.moved hW.alike hK, hD⟩, hS.F ht⟩) hS.2.2 dX6_init_21
theorem k_X4_init_1 : Cond.methodLink RX4 3 objectInit ∈ wsX4_init := List.mem_of_getElem? (i := 1) (by rfl)
theorem k_X4_init_2 : Cond.instanceMethod objectInit ∈ wsX4_init := List.mem_of_getElem? (i := 2) (by rfl)
theorem k_X4_init_3 : Cond.code objectInit ⟨#[0xb1]⟩ 1 none ∈ wsX4_init := List.mem_of_getElem? (i := 3) (by rfl)
theorem k_X4_init_4 : Cond.classLink RX4 9 RX5 ∈ wsX4_init := List.mem_of_getElem? (i := 4) (by rfl)
theorem n_X4_init_X4 : ∀ w ∈ u_ws RX4 TX4 6, w ∈ wsX4_init := fun _ h => List.mem_cons_of_mem _ (List.mem_append_left _ (List.mem_append_right _ h))
theorem k_X4_init_5 : Cond.fieldLink RX4 11 "RingHeap$Store" "things" "[LRingHeap$Thing;" ∈ wsX4_init := List.mem_of_getElem? (i := 5) (by rfl)
theorem k_X4_init_6 : Cond.arrayClass .int ∈ wsX4_init := List.mem_of_getElem? (i := 6) (by rfl)
theorem k_X4_init_7 : Cond.fieldLink RX4 17 "RingHeap$Store" "freedNumbers" "[I" ∈ wsX4_init := List.mem_of_getElem? (i := 7) (by rfl)
theorem k_X4_init_8 : Cond.fieldLink RX4 21 "RingHeap$Store" "weaks" "[LRingHeap$Thing;" ∈ wsX4_init := List.mem_of_getElem? (i := 8) (by rfl)
theorem n_X4_init_X6 : ∀ w ∈ u_ws RX6 TX6 2, w ∈ wsX4_init := fun _ h => List.mem_cons_of_mem _ (List.mem_append_right _ h)
theorem k_X4_init_9 : Cond.classLink RX4 24 RX6 ∈ wsX4_init := List.mem_of_getElem? (i := 9) (by rfl)
theorem k_X4_init_10 : Cond.instantiable RX6 2 ∈ wsX4_init := List.mem_of_getElem? (i := 10) (by rfl)
theorem k_X4_init_11 : Cond.initialized RX6 ∈ wsX4_init := List.mem_of_getElem? (i := 11) (by rfl)
theorem k_X4_init_13 : Cond.instanceMethod yX6_init ∈ wsX4_init := List.mem_of_getElem? (i := 13) (by rfl)
theorem k_X4_init_12 : Cond.fieldLink RX4 27 "RingHeap$Store" "words" "LRingHeap$Words;" ∈ wsX4_init := List.mem_of_getElem? (i := 12) (by rfl)
set_option maxHeartbeats 4000000 in
set_option maxRecDepth 100000 in
theorem c_X4_init (l : Launch) (D : va_G) (cy : Nat → ClassId) (h0 : Nat)  (sz : Nat) : Met l yX4_init wsX4_init ({ frames := 2, cells := 5, slots := 602, locals := 32 } : Room) (PcN D cy [(h0, .inr (4, [.null, .null, .null, .null, .int 0, .int 0]))] sz [.ref h0]) (QcN D cy (fun v : Nat × Nat × Nat × Nat × Nat => [(h0, .inr (4, [.ref v.1, .ref v.2.1, .ref v.2.2.1, .ref v.2.2.2.1, .int 0, .int 0])), (v.1, .inl (cy 3, 80, .inr (.inr (.inr (.inr (fun _ => none)))))), (v.2.1, .inl (cy 0, 100, .inl (fun _ => 0))), (v.2.2.1, .inl (cy 3, 20, .inr (.inr (.inr (.inr (fun _ => none)))))), (v.2.2.2.1, .inr (6, [.ref v.2.2.2.2, .int 400])), (v.2.2.2.2, .inl (cy 3, 400, .inr (.inr (.inr (.inr (fun _ => none))))))]) (va_A [(h0, .inr (4, [.null, .null, .null, .null, .int 0, .int 0]))] sz)) 5 602 (va_A [(h0, .inr (4, [.null, .null, .null, .null, .int 0, .int 0]))] sz) := by
  refine Met.ofW (cc := cX4_init) (maxL := 1) (ret := none) (by decide) rfl ?_
  intro p e s m args below meth c s₁ B hml hv
  obtain ⟨rfl, hsz, hP, hK, hD0, hC⟩ := hv
  have hx := B.exec
  have hb := B.bytes
  have hr := B.returns
  have hts := atoms_spec (ws := wsX4_init) B.pre
  have hown : s.vm.findClass RX4 = some m.cls := findClass_of_methodNamed B.named
  have hlocks := B.notSynchronized
  have hin : meth.name = "<init>" := (name_of_methodNamed B.named B.method).1
  subst hsz
  have hD := hD0.self (sz := s.heap.size)
  generalize hAe : va_A [(h0, .inr (4, [.null, .null, .null, .null, .int 0, .int 0]))] s.heap.size = A at hD ⊢
  have hA : ∀ q : Nat, s.heap.size ≤ q → A q := fun q h => by rw [← hAe]; exact Or.inr h
  have hS : va_S A s.heap s.heap [] := va_S.rf
  have hl := lv_entry ([.ref h0]) (n := 1) (Nat.le_of_ble_eq_true rfl)
  rw [lg_entry_eq]
  generalize (lg_sl ([.ref h0]) ++ List.replicate (1 - (lg_sl ([.ref h0])).length) Slot.unset).toArray = ls at hl ⊢
  have hl : lv_has ls 1 [(0, .ref h0)] := hl
  refine lv_aload_n hx hb dX4_init_0 rfl (lv_at hl 0 rfl) ?_
  refine W.objInit hx hb hown (hts _ k_X4_init_1) (hts _ k_X4_init_2) (hts _ k_X4_init_3) rfl (by rw [hml]; exact hl.1) rfl dX4_init_1 (Nat.le_of_ble_eq_true rfl) (Nat.le_of_ble_eq_true rfl) ?_
  refine W.eq (g2 := F0 m 4 ls []) rfl ?_
  refine lv_aload_n hx hb dX4_init_4 rfl (lv_at hl 0 rfl) ?_
  refine lv_bipush (v := 80) hx hb dX4_init_5 (by decide) ?_
  refine va_newq hx hb hown (hts _ k_X4_init_4) hC.1 hK hP hD hS hA (N' := 80) (by decide) (by decide) (Nat.le_of_ble_eq_true rfl) (Nat.le_of_ble_eq_true rfl) (Nat.le_of_ble_eq_true rfl) dX4_init_7 (fun q1 cA H hK2 hP hD hS => ?_)
  obtain rfl := cn_eq3 hK2
  have hP : va_P D vwCl [(h0, .inr (4, [.null, .null, .null, .null, .int 0, .int 0])), (q1, .inl (cy 3, 80, .inr (.inr (.inr (.inr (fun _ => none))))))] H := hP
  have hD : va_D A [(h0, .inr (4, [.null, .null, .null, .null, .int 0, .int 0])), (q1, .inl (cy 3, 80, .inr (.inr (.inr (.inr (fun _ => none))))))] := hD
  refine W.widen (k := 1) (n := 80) (Nat.le_of_ble_eq_true rfl) (Nat.le_of_ble_eq_true rfl) ?_
  refine va_putF (D := D) (ci := 4) (v := .ref q1) (ty := .array (.object "RingHeap$Thing")) (C := RX4) (T := TX4) (N := 6) hx hb hts n_X4_init_X4 tyX4 tyX4_ok nmX4 hown hK hP hD hS 0 rfl rfl 0 (by decide) (hts _ k_X4_init_5) (fun _ h9 => h9) rfl hin rfl (by decide +kernel) rfl rfl (Nat.le_of_ble_eq_true rfl) dX4_init_10 (fun H locs hP hD hS => ?_)
  have hP : va_P D vwCl [(h0, .inr (4, [.ref q1, .null, .null, .null, .int 0, .int 0])), (q1, .inl (cy 3, 80, .inr (.inr (.inr (.inr (fun _ => none))))))] H := hP
  have hD : va_D A [(h0, .inr (4, [.ref q1, .null, .null, .null, .int 0, .int 0])), (q1, .inl (cy 3, 80, .inr (.inr (.inr (.inr (fun _ => none))))))] := hD
  refine lv_aload_n hx hb dX4_init_13 rfl (lv_at hl 0 rfl) ?_
  refine lv_bipush (v := 100) hx hb dX4_init_14 (by decide) ?_
  refine va_newa (atype := .int) (ty := .int) (a0 := (100, .inl (fun _ => 0))) (N' := 100) hx hb (hts _ k_X4_init_6) rfl hK hP hD hS hA (fun _ => by first | rfl | (rw [vp_cell_i]; rfl)) (by decide) (by decide) (Nat.le_of_ble_eq_true rfl) (Nat.le_of_ble_eq_true rfl) (Nat.le_of_ble_eq_true rfl) dX4_init_16 (fun q2 cA H hK2 hP hD hS => ?_)
  obtain rfl := cn_eq0 hK2
  have hP : va_P D vwCl [(h0, .inr (4, [.ref q1, .null, .null, .null, .int 0, .int 0])), (q1, .inl (cy 3, 80, .inr (.inr (.inr (.inr (fun _ => none)))))), (q2, .inl (cy 0, 100, .inl (fun _ => 0)))] H := hP
  have hD : va_D A [(h0, .inr (4, [.ref q1, .null, .null, .null, .int 0, .int 0])), (q1, .inl (cy 3, 80, .inr (.inr (.inr (.inr (fun _ => none)))))), (q2, .inl (cy 0, 100, .inl (fun _ => 0)))] := hD
  refine W.widen (k := 2) (n := 180) (Nat.le_of_ble_eq_true rfl) (Nat.le_of_ble_eq_true rfl) ?_
  refine va_putF (D := D) (ci := 4) (v := .ref q2) (ty := .array .int) (C := RX4) (T := TX4) (N := 6) hx hb hts n_X4_init_X4 tyX4 tyX4_ok nmX4 hown hK hP hD hS 0 rfl rfl 1 (by decide) (hts _ k_X4_init_7) (fun _ h9 => h9) rfl hin rfl (by decide +kernel) rfl rfl (Nat.le_of_ble_eq_true rfl) dX4_init_18 (fun H locs hP hD hS => ?_)
  have hP : va_P D vwCl [(h0, .inr (4, [.ref q1, .ref q2, .null, .null, .int 0, .int 0])), (q1, .inl (cy 3, 80, .inr (.inr (.inr (.inr (fun _ => none)))))), (q2, .inl (cy 0, 100, .inl (fun _ => 0)))] H := hP
  have hD : va_D A [(h0, .inr (4, [.ref q1, .ref q2, .null, .null, .int 0, .int 0])), (q1, .inl (cy 3, 80, .inr (.inr (.inr (.inr (fun _ => none)))))), (q2, .inl (cy 0, 100, .inl (fun _ => 0)))] := hD
  refine lv_aload_n hx hb dX4_init_21 rfl (lv_at hl 0 rfl) ?_
  refine lv_bipush (v := 20) hx hb dX4_init_22 (by decide) ?_
  refine va_newq hx hb hown (hts _ k_X4_init_4) hC.1 hK hP hD hS hA (N' := 20) (by decide) (by decide) (Nat.le_of_ble_eq_true rfl) (Nat.le_of_ble_eq_true rfl) (Nat.le_of_ble_eq_true rfl) dX4_init_24 (fun q3 cA H hK2 hP hD hS => ?_)
  obtain rfl := cn_eq3 hK2
  have hP : va_P D vwCl [(h0, .inr (4, [.ref q1, .ref q2, .null, .null, .int 0, .int 0])), (q1, .inl (cy 3, 80, .inr (.inr (.inr (.inr (fun _ => none)))))), (q2, .inl (cy 0, 100, .inl (fun _ => 0))), (q3, .inl (cy 3, 20, .inr (.inr (.inr (.inr (fun _ => none))))))] H := hP
  have hD : va_D A [(h0, .inr (4, [.ref q1, .ref q2, .null, .null, .int 0, .int 0])), (q1, .inl (cy 3, 80, .inr (.inr (.inr (.inr (fun _ => none)))))), (q2, .inl (cy 0, 100, .inl (fun _ => 0))), (q3, .inl (cy 3, 20, .inr (.inr (.inr (.inr (fun _ => none))))))] := hD
  refine W.widen (k := 3) (n := 200) (Nat.le_of_ble_eq_true rfl) (Nat.le_of_ble_eq_true rfl) ?_
  refine va_putF (D := D) (ci := 4) (v := .ref q3) (ty := .array (.object "RingHeap$Thing")) (C := RX4) (T := TX4) (N := 6) hx hb hts n_X4_init_X4 tyX4 tyX4_ok nmX4 hown hK hP hD hS 0 rfl rfl 2 (by decide) (hts _ k_X4_init_8) (fun _ h9 => h9) rfl hin rfl (by decide +kernel) rfl rfl (Nat.le_of_ble_eq_true rfl) dX4_init_27 (fun H locs hP hD hS => ?_)
  have hP : va_P D vwCl [(h0, .inr (4, [.ref q1, .ref q2, .ref q3, .null, .int 0, .int 0])), (q1, .inl (cy 3, 80, .inr (.inr (.inr (.inr (fun _ => none)))))), (q2, .inl (cy 0, 100, .inl (fun _ => 0))), (q3, .inl (cy 3, 20, .inr (.inr (.inr (.inr (fun _ => none))))))] H := hP
  have hD : va_D A [(h0, .inr (4, [.ref q1, .ref q2, .ref q3, .null, .int 0, .int 0])), (q1, .inl (cy 3, 80, .inr (.inr (.inr (.inr (fun _ => none)))))), (q2, .inl (cy 0, 100, .inl (fun _ => 0))), (q3, .inl (cy 3, 20, .inr (.inr (.inr (.inr (fun _ => none))))))] := hD
  refine lv_aload_n hx hb dX4_init_30 rfl (lv_at hl 0 rfl) ?_
  refine va_new (ci := 6) (fs := [.null, .int 0]) (C := RX6) (T := TX6) (N := 2) hx hb hts n_X4_init_X6 tyX6 tyX6_ok hown (hts _ k_X4_init_9) (hts _ k_X4_init_10) (hts _ k_X4_init_11) hK hP hD hS hA rfl (fun j hj => by rcases (show j = 0 ∨ j = 1 by omega) with rfl | rfl <;> rfl) (Nat.le_of_ble_eq_true rfl) (Nat.le_of_ble_eq_true rfl) dX4_init_31 (fun q4 H hP hD hS => ?_)
  have hP : va_P D vwCl [(h0, .inr (4, [.ref q1, .ref q2, .ref q3, .null, .int 0, .int 0])), (q1, .inl (cy 3, 80, .inr (.inr (.inr (.inr (fun _ => none)))))), (q2, .inl (cy 0, 100, .inl (fun _ => 0))), (q3, .inl (cy 3, 20, .inr (.inr (.inr (.inr (fun _ => none)))))), (q4, .inr (6, [.null, .int 0]))] H := hP
  have hD : va_D A [(h0, .inr (4, [.ref q1, .ref q2, .ref q3, .null, .int 0, .int 0])), (q1, .inl (cy 3, 80, .inr (.inr (.inr (.inr (fun _ => none)))))), (q2, .inl (cy 0, 100, .inl (fun _ => 0))), (q3, .inl (cy 3, 20, .inr (.inr (.inr (.inr (fun _ => none)))))), (q4, .inr (6, [.null, .int 0]))] := hD
  refine W.widen (k := 4) (n := 202) (Nat.le_of_ble_eq_true rfl) (Nat.le_of_ble_eq_true rfl) ?_
  refine lv_dup hx hb dX4_init_34 rfl ?_
  have hPc := hP.sub (ws' := [(q4, .inr (6, [.null, .int 0]))]) [4] rfl
  have hDc := hD.sub (ws' := [(q4, .inr (6, [.null, .int 0]))]) [4] (by decide) rfl
  have hFc := va_free (wc := [(q4, .inr (6, [.null, .int 0]))]) hD hS hA [4] rfl
  refine va_callv (va_runIN (As := []) (rest := [.ref q4, .ref h0]) ⟨hx, hb, hml, hown, hts⟩ (c_X6_init l D cy q4  H.size) ⟨va_cnB 0 hts gX4_init_X6_init_n26 rfl rfl rfl hC.2.2.2.2.2 (hts _ k_X4_init_11) (by decide +kernel) ⟨Nat.le_of_ble_eq_true rfl, Nat.le_of_ble_eq_true rfl⟩, rfl, (hts _ k_X4_init_13)⟩ ⟨pcn_blind, fun U hU hW => pcn_of hPc hDc hK hC hU hW⟩ rfl rfl hl.1 rfl (lv_room (Nat.le_of_ble_eq_true rfl)) dX4_init_35 ⟨Nat.le_of_ble_eq_true rfl, Nat.le_of_ble_eq_true rfl⟩) hS (fun q _ h => hFc q h) hFc (fun v t H1 locs ht hvm hw hB hz1 hk1 hS => ?_)
  obtain ⟨q5, rfl⟩ : ∃ z, z = v := ⟨_, rfl⟩
  obtain ⟨hP1, hK1, hD1⟩ := hB
  rw [ht] at hP1
  obtain ⟨hP, hD⟩ := va_join (wr := [(h0, .inr (4, [.ref q1, .ref q2, .ref q3, .null, .int 0, .int 0])), (q1, .inl (cy 3, 80, .inr (.inr (.inr (.inr (fun _ => none)))))), (q2, .inl (cy 0, 100, .inl (fun _ => 0))), (q3, .inl (cy 3, 20, .inr (.inr (.inr (.inr (fun _ => none))))))]) (w1 := [(q4, .inr (6, [.ref q5, .int 400])), (q5, .inl (cy 3, 400, .inr (.inr (.inr (.inr (fun _ => none))))))]) hP hD [4] [0, 1, 2, 3] rfl rfl (by decide) (by decide) hk1 hFc hP1 hD1
  generalize H1 = H at hP hS ⊢
  have hP : va_P D vwCl [(h0, .inr (4, [.ref q1, .ref q2, .ref q3, .null, .int 0, .int 0])), (q1, .inl (cy 3, 80, .inr (.inr (.inr (.inr (fun _ => none)))))), (q2, .inl (cy 0, 100, .inl (fun _ => 0))), (q3, .inl (cy 3, 20, .inr (.inr (.inr (.inr (fun _ => none)))))), (q4, .inr (6, [.ref q5, .int 400])), (q5, .inl (cy 3, 400, .inr (.inr (.inr (.inr (fun _ => none))))))] H := hP
  have hD : va_D A [(h0, .inr (4, [.ref q1, .ref q2, .ref q3, .null, .int 0, .int 0])), (q1, .inl (cy 3, 80, .inr (.inr (.inr (.inr (fun _ => none)))))), (q2, .inl (cy 0, 100, .inl (fun _ => 0))), (q3, .inl (cy 3, 20, .inr (.inr (.inr (.inr (fun _ => none)))))), (q4, .inr (6, [.ref q5, .int 400])), (q5, .inl (cy 3, 400, .inr (.inr (.inr (.inr (fun _ => none))))))] := hD
  refine W.widen (k := 5) (n := 602) (Nat.le_of_ble_eq_true rfl) (Nat.le_of_ble_eq_true rfl) ?_
  refine va_putF (D := D) (ci := 4) (v := .ref q4) (ty := .object "RingHeap$Words") (C := RX4) (T := TX4) (N := 6) hx hb hts n_X4_init_X4 tyX4 tyX4_ok nmX4 hown hK hP hD hS 0 rfl rfl 3 (by decide) (hts _ k_X4_init_12) (fun _ h9 => h9) rfl hin rfl (by decide +kernel) rfl rfl (Nat.le_of_ble_eq_true rfl) dX4_init_38 (fun H locs hP hD hS => ?_)
  have hP : va_P D vwCl [(h0, .inr (4, [.ref q1, .ref q2, .ref q3, .ref q4, .int 0, .int 0])), (q1, .inl (cy 3, 80, .inr (.inr (.inr (.inr (fun _ => none)))))), (q2, .inl (cy 0, 100, .inl (fun _ => 0))), (q3, .inl (cy 3, 20, .inr (.inr (.inr (.inr (fun _ => none)))))), (q4, .inr (6, [.ref q5, .int 400])), (q5, .inl (cy 3, 400, .inr (.inr (.inr (.inr (fun _ => none))))))] H := hP
  have hD : va_D A [(h0, .inr (4, [.ref q1, .ref q2, .ref q3, .ref q4, .int 0, .int 0])), (q1, .inl (cy 3, 80, .inr (.inr (.inr (.inr (fun _ => none)))))), (q2, .inl (cy 0, 100, .inl (fun _ => 0))), (q3, .inl (cy 3, 20, .inr (.inr (.inr (.inr (fun _ => none)))))), (q4, .inr (6, [.ref q5, .int 400])), (q5, .inl (cy 3, 400, .inr (.inr (.inr (.inr (fun _ => none))))))] := hD
  exact W.vret hx hb hr (fun t ht hW => ⟨⟨(q1, q2, q3, q4, q5), rfl, trivial, by rw [ht]; exact hP, va_K.moved hW.alike hK, hD⟩, hS.F ht⟩) hS.2.2 dX4_init_41
theorem k_X1_init_1 : Cond.methodLink RX1 3 objectInit ∈ wsX1_init := List.mem_of_getElem? (i := 1) (by rfl)
theorem k_X1_init_2 : Cond.instanceMethod objectInit ∈ wsX1_init := List.mem_of_getElem? (i := 2) (by rfl)
theorem k_X1_init_3 : Cond.code objectInit ⟨#[0xb1]⟩ 1 none ∈ wsX1_init := List.mem_of_getElem? (i := 3) (by rfl)
theorem n_X1_init_X3 : ∀ w ∈ u_ws RX3 TX3 2, w ∈ wsX1_init := fun _ h => List.mem_cons_of_mem _ (List.mem_append_left _ (List.mem_append_right _ h))
theorem k_X1_init_4 : Cond.classLink RX1 9 RX3 ∈ wsX1_init := List.mem_of_getElem? (i := 4) (by rfl)
theorem k_X1_init_5 : Cond.instantiable RX3 2 ∈ wsX1_init := List.mem_of_getElem? (i := 5) (by rfl)
theorem k_X1_init_6 : Cond.initialized RX3 ∈ wsX1_init := List.mem_of_getElem? (i := 6) (by rfl)
theorem k_X1_init_11 : Cond.instanceMethod yX3_init ∈ wsX1_init := List.mem_of_getElem? (i := 11) (by rfl)
theorem n_X1_init_X1 : ∀ w ∈ u_ws RX1 TX1 4, w ∈ wsX1_init := fun _ h => List.mem_cons_of_mem _ (List.mem_append_right _ h)
theorem k_X1_init_7 : Cond.fieldLink RX1 12 "RingHeap$Counting" "going" "LRingHeap$Row;" ∈ wsX1_init := List.mem_of_getElem? (i := 7) (by rfl)
theorem k_X1_init_8 : Cond.fieldLink RX1 18 "RingHeap$Counting" "list" "LRingHeap$Row;" ∈ wsX1_init := List.mem_of_getElem? (i := 8) (by rfl)
theorem k_X1_init_9 : Cond.fieldLink RX1 21 "RingHeap$Counting" "wishes" "LRingHeap$Row;" ∈ wsX1_init := List.mem_of_getElem? (i := 9) (by rfl)
theorem k_X1_init_10 : Cond.fieldLink RX1 24 "RingHeap$Counting" "store" "LRingHeap$Store;" ∈ wsX1_init := List.mem_of_getElem? (i := 10) (by rfl)
set_option maxHeartbeats 4000000 in
set_option maxRecDepth 100000 in
theorem c_X1_init (l : Launch) (D : va_G) (cy : Nat → ClassId) (h0 : Nat) (a1 : Nat) (sz : Nat) : Met l yX1_init wsX1_init ({ frames := 2, cells := 6, slots := 246, locals := 32 } : Room) (PcN D cy [(h0, .inr (1, [.null, .null, .null, .null]))] sz [.ref h0, .ref a1]) (QcN D cy (fun v : Nat × Nat × Nat × Nat × Nat × Nat => [(h0, .inr (1, [.ref a1, .ref v.1, .ref v.2.2.1, .ref v.2.2.2.2.1])), (v.1, .inr (3, [.ref v.2.1, .int 0])), (v.2.1, .inl (cy 3, 80, .inr (.inr (.inr (.inr (fun _ => none)))))), (v.2.2.1, .inr (3, [.ref v.2.2.2.1, .int 0])), (v.2.2.2.1, .inl (cy 3, 80, .inr (.inr (.inr (.inr (fun _ => none)))))), (v.2.2.2.2.1, .inr (3, [.ref v.2.2.2.2.2, .int 0])), (v.2.2.2.2.2, .inl (cy 3, 80, .inr (.inr (.inr (.inr (fun _ => none))))))]) (va_A [(h0, .inr (1, [.null, .null, .null, .null]))] sz)) 6 246 (va_A [(h0, .inr (1, [.null, .null, .null, .null]))] sz) := by
  refine Met.ofW (cc := cX1_init) (maxL := 2) (ret := none) (by decide) rfl ?_
  intro p e s m args below meth c s₁ B hml hv
  obtain ⟨rfl, hsz, hP, hK, hD0, hC⟩ := hv
  have hx := B.exec
  have hb := B.bytes
  have hr := B.returns
  have hts := atoms_spec (ws := wsX1_init) B.pre
  have hown : s.vm.findClass RX1 = some m.cls := findClass_of_methodNamed B.named
  have hlocks := B.notSynchronized
  have hin : meth.name = "<init>" := (name_of_methodNamed B.named B.method).1
  subst hsz
  have hD := hD0.self (sz := s.heap.size)
  generalize hAe : va_A [(h0, .inr (1, [.null, .null, .null, .null]))] s.heap.size = A at hD ⊢
  have hA : ∀ q : Nat, s.heap.size ≤ q → A q := fun q h => by rw [← hAe]; exact Or.inr h
  have hS : va_S A s.heap s.heap [] := va_S.rf
  have hl := lv_entry ([.ref h0, .ref a1]) (n := 2) (Nat.le_of_ble_eq_true rfl)
  rw [lg_entry_eq]
  generalize (lg_sl ([.ref h0, .ref a1]) ++ List.replicate (2 - (lg_sl ([.ref h0, .ref a1])).length) Slot.unset).toArray = ls at hl ⊢
  have hl : lv_has ls 2 [(0, .ref h0), (1, .ref a1)] := hl
  refine lv_aload_n hx hb dX1_init_0 rfl (lv_at hl 0 rfl) ?_
  refine W.objInit hx hb hown (hts _ k_X1_init_1) (hts _ k_X1_init_2) (hts _ k_X1_init_3) rfl (by rw [hml]; exact hl.1) rfl dX1_init_1 (Nat.le_of_ble_eq_true rfl) (Nat.le_of_ble_eq_true rfl) ?_
  refine W.eq (g2 := F0 m 4 ls []) rfl ?_
  refine lv_aload_n hx hb dX1_init_4 rfl (lv_at hl 0 rfl) ?_
  refine va_new (ci := 3) (fs := [.null, .int 0]) (C := RX3) (T := TX3) (N := 2) hx hb hts n_X1_init_X3 tyX3 tyX3_ok hown (hts _ k_X1_init_4) (hts _ k_X1_init_5) (hts _ k_X1_init_6) hK hP hD hS hA rfl (fun j hj => by rcases (show j = 0 ∨ j = 1 by omega) with rfl | rfl <;> rfl) (Nat.le_of_ble_eq_true rfl) (Nat.le_of_ble_eq_true rfl) dX1_init_5 (fun q1 H hP hD hS => ?_)
  have hP : va_P D vwCl [(h0, .inr (1, [.null, .null, .null, .null])), (q1, .inr (3, [.null, .int 0]))] H := hP
  have hD : va_D A [(h0, .inr (1, [.null, .null, .null, .null])), (q1, .inr (3, [.null, .int 0]))] := hD
  refine W.widen (k := 1) (n := 2) (Nat.le_of_ble_eq_true rfl) (Nat.le_of_ble_eq_true rfl) ?_
  refine lv_dup hx hb dX1_init_8 rfl ?_
  have hPc := hP.sub (ws' := [(q1, .inr (3, [.null, .int 0]))]) [1] rfl
  have hDc := hD.sub (ws' := [(q1, .inr (3, [.null, .int 0]))]) [1] (by decide) rfl
  have hFc := va_free (wc := [(q1, .inr (3, [.null, .int 0]))]) hD hS hA [1] rfl
  refine va_callv (va_runIN (As := []) (rest := [.ref q1, .ref h0]) ⟨hx, hb, hml, hown, hts⟩ (c_X3_init l D cy q1  H.size) ⟨va_cnB 0 hts gX1_init_X3_init_n11 rfl rfl rfl hC.2.2.2.2.1 (hts _ k_X1_init_6) (by decide +kernel) ⟨Nat.le_of_ble_eq_true rfl, Nat.le_of_ble_eq_true rfl⟩, rfl, (hts _ k_X1_init_11)⟩ ⟨pcn_blind, fun U hU hW => pcn_of hPc hDc hK hC hU hW⟩ rfl rfl hl.1 rfl (lv_room (Nat.le_of_ble_eq_true rfl)) dX1_init_9 ⟨Nat.le_of_ble_eq_true rfl, Nat.le_of_ble_eq_true rfl⟩) hS (fun q _ h => hFc q h) hFc (fun v t H1 locs ht hvm hw hB hz1 hk1 hS => ?_)
  obtain ⟨q2, rfl⟩ : ∃ z, z = v := ⟨_, rfl⟩
  obtain ⟨hP1, hK1, hD1⟩ := hB
  rw [ht] at hP1
  obtain ⟨hP, hD⟩ := va_join (wr := [(h0, .inr (1, [.null, .null, .null, .null]))]) (w1 := [(q1, .inr (3, [.ref q2, .int 0])), (q2, .inl (cy 3, 80, .inr (.inr (.inr (.inr (fun _ => none))))))]) hP hD [1] [0] rfl rfl (by decide) (by decide) hk1 hFc hP1 hD1
  generalize H1 = H at hP hS ⊢
  have hP : va_P D vwCl [(h0, .inr (1, [.null, .null, .null, .null])), (q1, .inr (3, [.ref q2, .int 0])), (q2, .inl (cy 3, 80, .inr (.inr (.inr (.inr (fun _ => none))))))] H := hP
  have hD : va_D A [(h0, .inr (1, [.null, .null, .null, .null])), (q1, .inr (3, [.ref q2, .int 0])), (q2, .inl (cy 3, 80, .inr (.inr (.inr (.inr (fun _ => none))))))] := hD
  refine W.widen (k := 2) (n := 82) (Nat.le_of_ble_eq_true rfl) (Nat.le_of_ble_eq_true rfl) ?_
  refine va_putF (D := D) (ci := 1) (v := .ref q1) (ty := .object "RingHeap$Row") (C := RX1) (T := TX1) (N := 4) hx hb hts n_X1_init_X1 tyX1 tyX1_ok nmX1 hown hK hP hD hS 0 rfl rfl 1 (by decide) (hts _ k_X1_init_7) (fun _ h9 => h9) rfl hin rfl (by decide +kernel) rfl rfl (Nat.le_of_ble_eq_true rfl) dX1_init_12 (fun H locs hP hD hS => ?_)
  have hP : va_P D vwCl [(h0, .inr (1, [.null, .ref q1, .null, .null])), (q1, .inr (3, [.ref q2, .int 0])), (q2, .inl (cy 3, 80, .inr (.inr (.inr (.inr (fun _ => none))))))] H := hP
  have hD : va_D A [(h0, .inr (1, [.null, .ref q1, .null, .null])), (q1, .inr (3, [.ref q2, .int 0])), (q2, .inl (cy 3, 80, .inr (.inr (.inr (.inr (fun _ => none))))))] := hD
  refine lv_aload_n hx hb dX1_init_15 rfl (lv_at hl 0 rfl) ?_
  refine va_new (ci := 3) (fs := [.null, .int 0]) (C := RX3) (T := TX3) (N := 2) hx hb hts n_X1_init_X3 tyX3 tyX3_ok hown (hts _ k_X1_init_4) (hts _ k_X1_init_5) (hts _ k_X1_init_6) hK hP hD hS hA rfl (fun j hj => by rcases (show j = 0 ∨ j = 1 by omega) with rfl | rfl <;> rfl) (Nat.le_of_ble_eq_true rfl) (Nat.le_of_ble_eq_true rfl) dX1_init_16 (fun q3 H hP hD hS => ?_)
  have hP : va_P D vwCl [(h0, .inr (1, [.null, .ref q1, .null, .null])), (q1, .inr (3, [.ref q2, .int 0])), (q2, .inl (cy 3, 80, .inr (.inr (.inr (.inr (fun _ => none)))))), (q3, .inr (3, [.null, .int 0]))] H := hP
  have hD : va_D A [(h0, .inr (1, [.null, .ref q1, .null, .null])), (q1, .inr (3, [.ref q2, .int 0])), (q2, .inl (cy 3, 80, .inr (.inr (.inr (.inr (fun _ => none)))))), (q3, .inr (3, [.null, .int 0]))] := hD
  refine W.widen (k := 3) (n := 84) (Nat.le_of_ble_eq_true rfl) (Nat.le_of_ble_eq_true rfl) ?_
  refine lv_dup hx hb dX1_init_19 rfl ?_
  have hPc := hP.sub (ws' := [(q3, .inr (3, [.null, .int 0]))]) [3] rfl
  have hDc := hD.sub (ws' := [(q3, .inr (3, [.null, .int 0]))]) [3] (by decide) rfl
  have hFc := va_free (wc := [(q3, .inr (3, [.null, .int 0]))]) hD hS hA [3] rfl
  refine va_callv (va_runIN (As := []) (rest := [.ref q3, .ref h0]) ⟨hx, hb, hml, hown, hts⟩ (c_X3_init l D cy q3  H.size) ⟨va_cnB 0 hts gX1_init_X3_init_n11 rfl rfl rfl hC.2.2.2.2.1 (hts _ k_X1_init_6) (by decide +kernel) ⟨Nat.le_of_ble_eq_true rfl, Nat.le_of_ble_eq_true rfl⟩, rfl, (hts _ k_X1_init_11)⟩ ⟨pcn_blind, fun U hU hW => pcn_of hPc hDc hK hC hU hW⟩ rfl rfl hl.1 rfl (lv_room (Nat.le_of_ble_eq_true rfl)) dX1_init_20 ⟨Nat.le_of_ble_eq_true rfl, Nat.le_of_ble_eq_true rfl⟩) hS (fun q _ h => hFc q h) hFc (fun v t H1 locs ht hvm hw hB hz1 hk1 hS => ?_)
  obtain ⟨q4, rfl⟩ : ∃ z, z = v := ⟨_, rfl⟩
  obtain ⟨hP1, hK1, hD1⟩ := hB
  rw [ht] at hP1
  obtain ⟨hP, hD⟩ := va_join (wr := [(h0, .inr (1, [.null, .ref q1, .null, .null])), (q1, .inr (3, [.ref q2, .int 0])), (q2, .inl (cy 3, 80, .inr (.inr (.inr (.inr (fun _ => none))))))]) (w1 := [(q3, .inr (3, [.ref q4, .int 0])), (q4, .inl (cy 3, 80, .inr (.inr (.inr (.inr (fun _ => none))))))]) hP hD [3] [0, 1, 2] rfl rfl (by decide) (by decide) hk1 hFc hP1 hD1
  generalize H1 = H at hP hS ⊢
  have hP : va_P D vwCl [(h0, .inr (1, [.null, .ref q1, .null, .null])), (q1, .inr (3, [.ref q2, .int 0])), (q2, .inl (cy 3, 80, .inr (.inr (.inr (.inr (fun _ => none)))))), (q3, .inr (3, [.ref q4, .int 0])), (q4, .inl (cy 3, 80, .inr (.inr (.inr (.inr (fun _ => none))))))] H := hP
  have hD : va_D A [(h0, .inr (1, [.null, .ref q1, .null, .null])), (q1, .inr (3, [.ref q2, .int 0])), (q2, .inl (cy 3, 80, .inr (.inr (.inr (.inr (fun _ => none)))))), (q3, .inr (3, [.ref q4, .int 0])), (q4, .inl (cy 3, 80, .inr (.inr (.inr (.inr (fun _ => none))))))] := hD
  refine W.widen (k := 4) (n := 164) (Nat.le_of_ble_eq_true rfl) (Nat.le_of_ble_eq_true rfl) ?_
  refine va_putF (D := D) (ci := 1) (v := .ref q3) (ty := .object "RingHeap$Row") (C := RX1) (T := TX1) (N := 4) hx hb hts n_X1_init_X1 tyX1 tyX1_ok nmX1 hown hK hP hD hS 0 rfl rfl 2 (by decide) (hts _ k_X1_init_8) (fun _ h9 => h9) rfl hin rfl (by decide +kernel) rfl rfl (Nat.le_of_ble_eq_true rfl) dX1_init_23 (fun H locs hP hD hS => ?_)
  have hP : va_P D vwCl [(h0, .inr (1, [.null, .ref q1, .ref q3, .null])), (q1, .inr (3, [.ref q2, .int 0])), (q2, .inl (cy 3, 80, .inr (.inr (.inr (.inr (fun _ => none)))))), (q3, .inr (3, [.ref q4, .int 0])), (q4, .inl (cy 3, 80, .inr (.inr (.inr (.inr (fun _ => none))))))] H := hP
  have hD : va_D A [(h0, .inr (1, [.null, .ref q1, .ref q3, .null])), (q1, .inr (3, [.ref q2, .int 0])), (q2, .inl (cy 3, 80, .inr (.inr (.inr (.inr (fun _ => none)))))), (q3, .inr (3, [.ref q4, .int 0])), (q4, .inl (cy 3, 80, .inr (.inr (.inr (.inr (fun _ => none))))))] := hD
  refine lv_aload_n hx hb dX1_init_26 rfl (lv_at hl 0 rfl) ?_
  refine va_new (ci := 3) (fs := [.null, .int 0]) (C := RX3) (T := TX3) (N := 2) hx hb hts n_X1_init_X3 tyX3 tyX3_ok hown (hts _ k_X1_init_4) (hts _ k_X1_init_5) (hts _ k_X1_init_6) hK hP hD hS hA rfl (fun j hj => by rcases (show j = 0 ∨ j = 1 by omega) with rfl | rfl <;> rfl) (Nat.le_of_ble_eq_true rfl) (Nat.le_of_ble_eq_true rfl) dX1_init_27 (fun q5 H hP hD hS => ?_)
  have hP : va_P D vwCl [(h0, .inr (1, [.null, .ref q1, .ref q3, .null])), (q1, .inr (3, [.ref q2, .int 0])), (q2, .inl (cy 3, 80, .inr (.inr (.inr (.inr (fun _ => none)))))), (q3, .inr (3, [.ref q4, .int 0])), (q4, .inl (cy 3, 80, .inr (.inr (.inr (.inr (fun _ => none)))))), (q5, .inr (3, [.null, .int 0]))] H := hP
  have hD : va_D A [(h0, .inr (1, [.null, .ref q1, .ref q3, .null])), (q1, .inr (3, [.ref q2, .int 0])), (q2, .inl (cy 3, 80, .inr (.inr (.inr (.inr (fun _ => none)))))), (q3, .inr (3, [.ref q4, .int 0])), (q4, .inl (cy 3, 80, .inr (.inr (.inr (.inr (fun _ => none)))))), (q5, .inr (3, [.null, .int 0]))] := hD
  refine W.widen (k := 5) (n := 166) (Nat.le_of_ble_eq_true rfl) (Nat.le_of_ble_eq_true rfl) ?_
  refine lv_dup hx hb dX1_init_30 rfl ?_
  have hPc := hP.sub (ws' := [(q5, .inr (3, [.null, .int 0]))]) [5] rfl
  have hDc := hD.sub (ws' := [(q5, .inr (3, [.null, .int 0]))]) [5] (by decide) rfl
  have hFc := va_free (wc := [(q5, .inr (3, [.null, .int 0]))]) hD hS hA [5] rfl
  refine va_callv (va_runIN (As := []) (rest := [.ref q5, .ref h0]) ⟨hx, hb, hml, hown, hts⟩ (c_X3_init l D cy q5  H.size) ⟨va_cnB 0 hts gX1_init_X3_init_n11 rfl rfl rfl hC.2.2.2.2.1 (hts _ k_X1_init_6) (by decide +kernel) ⟨Nat.le_of_ble_eq_true rfl, Nat.le_of_ble_eq_true rfl⟩, rfl, (hts _ k_X1_init_11)⟩ ⟨pcn_blind, fun U hU hW => pcn_of hPc hDc hK hC hU hW⟩ rfl rfl hl.1 rfl (lv_room (Nat.le_of_ble_eq_true rfl)) dX1_init_31 ⟨Nat.le_of_ble_eq_true rfl, Nat.le_of_ble_eq_true rfl⟩) hS (fun q _ h => hFc q h) hFc (fun v t H1 locs ht hvm hw hB hz1 hk1 hS => ?_)
  obtain ⟨q6, rfl⟩ : ∃ z, z = v := ⟨_, rfl⟩
  obtain ⟨hP1, hK1, hD1⟩ := hB
  rw [ht] at hP1
  obtain ⟨hP, hD⟩ := va_join (wr := [(h0, .inr (1, [.null, .ref q1, .ref q3, .null])), (q1, .inr (3, [.ref q2, .int 0])), (q2, .inl (cy 3, 80, .inr (.inr (.inr (.inr (fun _ => none)))))), (q3, .inr (3, [.ref q4, .int 0])), (q4, .inl (cy 3, 80, .inr (.inr (.inr (.inr (fun _ => none))))))]) (w1 := [(q5, .inr (3, [.ref q6, .int 0])), (q6, .inl (cy 3, 80, .inr (.inr (.inr (.inr (fun _ => none))))))]) hP hD [5] [0, 1, 2, 3, 4] rfl rfl (by decide) (by decide) hk1 hFc hP1 hD1
  generalize H1 = H at hP hS ⊢
  have hP : va_P D vwCl [(h0, .inr (1, [.null, .ref q1, .ref q3, .null])), (q1, .inr (3, [.ref q2, .int 0])), (q2, .inl (cy 3, 80, .inr (.inr (.inr (.inr (fun _ => none)))))), (q3, .inr (3, [.ref q4, .int 0])), (q4, .inl (cy 3, 80, .inr (.inr (.inr (.inr (fun _ => none)))))), (q5, .inr (3, [.ref q6, .int 0])), (q6, .inl (cy 3, 80, .inr (.inr (.inr (.inr (fun _ => none))))))] H := hP
  have hD : va_D A [(h0, .inr (1, [.null, .ref q1, .ref q3, .null])), (q1, .inr (3, [.ref q2, .int 0])), (q2, .inl (cy 3, 80, .inr (.inr (.inr (.inr (fun _ => none)))))), (q3, .inr (3, [.ref q4, .int 0])), (q4, .inl (cy 3, 80, .inr (.inr (.inr (.inr (fun _ => none)))))), (q5, .inr (3, [.ref q6, .int 0])), (q6, .inl (cy 3, 80, .inr (.inr (.inr (.inr (fun _ => none))))))] := hD
  refine W.widen (k := 6) (n := 246) (Nat.le_of_ble_eq_true rfl) (Nat.le_of_ble_eq_true rfl) ?_
  refine va_putF (D := D) (ci := 1) (v := .ref q5) (ty := .object "RingHeap$Row") (C := RX1) (T := TX1) (N := 4) hx hb hts n_X1_init_X1 tyX1 tyX1_ok nmX1 hown hK hP hD hS 0 rfl rfl 3 (by decide) (hts _ k_X1_init_9) (fun _ h9 => h9) rfl hin rfl (by decide +kernel) rfl rfl (Nat.le_of_ble_eq_true rfl) dX1_init_34 (fun H locs hP hD hS => ?_)
  have hP : va_P D vwCl [(h0, .inr (1, [.null, .ref q1, .ref q3, .ref q5])), (q1, .inr (3, [.ref q2, .int 0])), (q2, .inl (cy 3, 80, .inr (.inr (.inr (.inr (fun _ => none)))))), (q3, .inr (3, [.ref q4, .int 0])), (q4, .inl (cy 3, 80, .inr (.inr (.inr (.inr (fun _ => none)))))), (q5, .inr (3, [.ref q6, .int 0])), (q6, .inl (cy 3, 80, .inr (.inr (.inr (.inr (fun _ => none))))))] H := hP
  have hD : va_D A [(h0, .inr (1, [.null, .ref q1, .ref q3, .ref q5])), (q1, .inr (3, [.ref q2, .int 0])), (q2, .inl (cy 3, 80, .inr (.inr (.inr (.inr (fun _ => none)))))), (q3, .inr (3, [.ref q4, .int 0])), (q4, .inl (cy 3, 80, .inr (.inr (.inr (.inr (fun _ => none)))))), (q5, .inr (3, [.ref q6, .int 0])), (q6, .inl (cy 3, 80, .inr (.inr (.inr (.inr (fun _ => none))))))] := hD
  refine lv_aload_n hx hb dX1_init_37 rfl (lv_at hl 0 rfl) ?_
  refine lv_aload_n hx hb dX1_init_38 rfl (lv_at hl 1 rfl) ?_
  refine va_putF (D := D) (ci := 1) (v := .ref a1) (ty := .object "RingHeap$Store") (C := RX1) (T := TX1) (N := 4) hx hb hts n_X1_init_X1 tyX1 tyX1_ok nmX1 hown hK hP hD hS 0 rfl rfl 0 (by decide) (hts _ k_X1_init_10) (fun _ h9 => h9) rfl hin rfl (by decide +kernel) rfl rfl (Nat.le_of_ble_eq_true rfl) dX1_init_39 (fun H locs hP hD hS => ?_)
  have hP : va_P D vwCl [(h0, .inr (1, [.ref a1, .ref q1, .ref q3, .ref q5])), (q1, .inr (3, [.ref q2, .int 0])), (q2, .inl (cy 3, 80, .inr (.inr (.inr (.inr (fun _ => none)))))), (q3, .inr (3, [.ref q4, .int 0])), (q4, .inl (cy 3, 80, .inr (.inr (.inr (.inr (fun _ => none)))))), (q5, .inr (3, [.ref q6, .int 0])), (q6, .inl (cy 3, 80, .inr (.inr (.inr (.inr (fun _ => none))))))] H := hP
  have hD : va_D A [(h0, .inr (1, [.ref a1, .ref q1, .ref q3, .ref q5])), (q1, .inr (3, [.ref q2, .int 0])), (q2, .inl (cy 3, 80, .inr (.inr (.inr (.inr (fun _ => none)))))), (q3, .inr (3, [.ref q4, .int 0])), (q4, .inl (cy 3, 80, .inr (.inr (.inr (.inr (fun _ => none)))))), (q5, .inr (3, [.ref q6, .int 0])), (q6, .inl (cy 3, 80, .inr (.inr (.inr (.inr (fun _ => none))))))] := hD
  exact W.vret hx hb hr (fun t ht hW => ⟨⟨(q1, q2, q3, q4, q5, q6), rfl, trivial, by rw [ht]; exact hP, va_K.moved hW.alike hK, hD⟩, hS.F ht⟩) hS.2.2 dX1_init_42
theorem k_X0_init_1 : Cond.methodLink RX0 3 objectInit ∈ wsX0_init := List.mem_of_getElem? (i := 1) (by rfl)
theorem k_X0_init_2 : Cond.instanceMethod objectInit ∈ wsX0_init := List.mem_of_getElem? (i := 2) (by rfl)
theorem k_X0_init_3 : Cond.code objectInit ⟨#[0xb1]⟩ 1 none ∈ wsX0_init := List.mem_of_getElem? (i := 3) (by rfl)
theorem n_X0_init_X3 : ∀ w ∈ u_ws RX3 TX3 2, w ∈ wsX0_init := fun _ h => List.mem_cons_of_mem _ (List.mem_append_left _ (List.mem_append_right _ h))
theorem k_X0_init_4 : Cond.classLink RX0 9 RX3 ∈ wsX0_init := List.mem_of_getElem? (i := 4) (by rfl)
theorem k_X0_init_5 : Cond.instantiable RX3 2 ∈ wsX0_init := List.mem_of_getElem? (i := 5) (by rfl)
theorem k_X0_init_6 : Cond.initialized RX3 ∈ wsX0_init := List.mem_of_getElem? (i := 6) (by rfl)
theorem k_X0_init_11 : Cond.instanceMethod yX3_init ∈ wsX0_init := List.mem_of_getElem? (i := 11) (by rfl)
theorem n_X0_init_X0 : ∀ w ∈ u_ws RX0 TX0 7, w ∈ wsX0_init := fun _ h => List.mem_cons_of_mem _ (List.mem_append_right _ h)
theorem k_X0_init_7 : Cond.fieldLink RX0 12 "RingHeap$Collector" "reached" "LRingHeap$Row;" ∈ wsX0_init := List.mem_of_getElem? (i := 7) (by rfl)
theorem k_X0_init_8 : Cond.fieldLink RX0 18 "RingHeap$Collector" "darkened" "LRingHeap$Row;" ∈ wsX0_init := List.mem_of_getElem? (i := 8) (by rfl)
theorem k_X0_init_9 : Cond.fieldLink RX0 21 "RingHeap$Collector" "store" "LRingHeap$Store;" ∈ wsX0_init := List.mem_of_getElem? (i := 9) (by rfl)
theorem k_X0_init_10 : Cond.fieldLink RX0 25 "RingHeap$Collector" "counting" "LRingHeap$Counting;" ∈ wsX0_init := List.mem_of_getElem? (i := 10) (by rfl)
set_option maxHeartbeats 4000000 in
set_option maxRecDepth 100000 in
theorem c_X0_init (l : Launch) (D : va_G) (cy : Nat → ClassId) (h0 : Nat) (a1 : Nat) (a2 : Nat) (sz : Nat) : Met l yX0_init wsX0_init ({ frames := 2, cells := 4, slots := 164, locals := 32 } : Room) (PcN D cy [(h0, .inr (0, [.null, .null, .null, .null, .int 0, .int 0, .int 0]))] sz [.ref h0, .ref a1, .ref a2]) (QcN D cy (fun v : Nat × Nat × Nat × Nat => [(h0, .inr (0, [.ref a1, .ref a2, .ref v.1, .ref v.2.2.1, .int 0, .int 0, .int 0])), (v.1, .inr (3, [.ref v.2.1, .int 0])), (v.2.1, .inl (cy 3, 80, .inr (.inr (.inr (.inr (fun _ => none)))))), (v.2.2.1, .inr (3, [.ref v.2.2.2, .int 0])), (v.2.2.2, .inl (cy 3, 80, .inr (.inr (.inr (.inr (fun _ => none))))))]) (va_A [(h0, .inr (0, [.null, .null, .null, .null, .int 0, .int 0, .int 0]))] sz)) 4 164 (va_A [(h0, .inr (0, [.null, .null, .null, .null, .int 0, .int 0, .int 0]))] sz) := by
  refine Met.ofW (cc := cX0_init) (maxL := 3) (ret := none) (by decide) rfl ?_
  intro p e s m args below meth c s₁ B hml hv
  obtain ⟨rfl, hsz, hP, hK, hD0, hC⟩ := hv
  have hx := B.exec
  have hb := B.bytes
  have hr := B.returns
  have hts := atoms_spec (ws := wsX0_init) B.pre
  have hown : s.vm.findClass RX0 = some m.cls := findClass_of_methodNamed B.named
  have hlocks := B.notSynchronized
  have hin : meth.name = "<init>" := (name_of_methodNamed B.named B.method).1
  subst hsz
  have hD := hD0.self (sz := s.heap.size)
  generalize hAe : va_A [(h0, .inr (0, [.null, .null, .null, .null, .int 0, .int 0, .int 0]))] s.heap.size = A at hD ⊢
  have hA : ∀ q : Nat, s.heap.size ≤ q → A q := fun q h => by rw [← hAe]; exact Or.inr h
  have hS : va_S A s.heap s.heap [] := va_S.rf
  have hl := lv_entry ([.ref h0, .ref a1, .ref a2]) (n := 3) (Nat.le_of_ble_eq_true rfl)
  rw [lg_entry_eq]
  generalize (lg_sl ([.ref h0, .ref a1, .ref a2]) ++ List.replicate (3 - (lg_sl ([.ref h0, .ref a1, .ref a2])).length) Slot.unset).toArray = ls at hl ⊢
  have hl : lv_has ls 3 [(0, .ref h0), (1, .ref a1), (2, .ref a2)] := hl
  refine lv_aload_n hx hb dX0_init_0 rfl (lv_at hl 0 rfl) ?_
  refine W.objInit hx hb hown (hts _ k_X0_init_1) (hts _ k_X0_init_2) (hts _ k_X0_init_3) rfl (by rw [hml]; exact hl.1) rfl dX0_init_1 (Nat.le_of_ble_eq_true rfl) (Nat.le_of_ble_eq_true rfl) ?_
  refine W.eq (g2 := F0 m 4 ls []) rfl ?_
  refine lv_aload_n hx hb dX0_init_4 rfl (lv_at hl 0 rfl) ?_
  refine va_new (ci := 3) (fs := [.null, .int 0]) (C := RX3) (T := TX3) (N := 2) hx hb hts n_X0_init_X3 tyX3 tyX3_ok hown (hts _ k_X0_init_4) (hts _ k_X0_init_5) (hts _ k_X0_init_6) hK hP hD hS hA rfl (fun j hj => by rcases (show j = 0 ∨ j = 1 by omega) with rfl | rfl <;> rfl) (Nat.le_of_ble_eq_true rfl) (Nat.le_of_ble_eq_true rfl) dX0_init_5 (fun q1 H hP hD hS => ?_)
  have hP : va_P D vwCl [(h0, .inr (0, [.null, .null, .null, .null, .int 0, .int 0, .int 0])), (q1, .inr (3, [.null, .int 0]))] H := hP
  have hD : va_D A [(h0, .inr (0, [.null, .null, .null, .null, .int 0, .int 0, .int 0])), (q1, .inr (3, [.null, .int 0]))] := hD
  refine W.widen (k := 1) (n := 2) (Nat.le_of_ble_eq_true rfl) (Nat.le_of_ble_eq_true rfl) ?_
  refine lv_dup hx hb dX0_init_8 rfl ?_
  have hPc := hP.sub (ws' := [(q1, .inr (3, [.null, .int 0]))]) [1] rfl
  have hDc := hD.sub (ws' := [(q1, .inr (3, [.null, .int 0]))]) [1] (by decide) rfl
  have hFc := va_free (wc := [(q1, .inr (3, [.null, .int 0]))]) hD hS hA [1] rfl
  refine va_callv (va_runIN (As := []) (rest := [.ref q1, .ref h0]) ⟨hx, hb, hml, hown, hts⟩ (c_X3_init l D cy q1  H.size) ⟨va_cnB 0 hts gX0_init_X3_init_n11 rfl rfl rfl hC.2.2.2.1 (hts _ k_X0_init_6) (by decide +kernel) ⟨Nat.le_of_ble_eq_true rfl, Nat.le_of_ble_eq_true rfl⟩, rfl, (hts _ k_X0_init_11)⟩ ⟨pcn_blind, fun U hU hW => pcn_of hPc hDc hK hC hU hW⟩ rfl rfl hl.1 rfl (lv_room (Nat.le_of_ble_eq_true rfl)) dX0_init_9 ⟨Nat.le_of_ble_eq_true rfl, Nat.le_of_ble_eq_true rfl⟩) hS (fun q _ h => hFc q h) hFc (fun v t H1 locs ht hvm hw hB hz1 hk1 hS => ?_)
  obtain ⟨q2, rfl⟩ : ∃ z, z = v := ⟨_, rfl⟩
  obtain ⟨hP1, hK1, hD1⟩ := hB
  rw [ht] at hP1
  obtain ⟨hP, hD⟩ := va_join (wr := [(h0, .inr (0, [.null, .null, .null, .null, .int 0, .int 0, .int 0]))]) (w1 := [(q1, .inr (3, [.ref q2, .int 0])), (q2, .inl (cy 3, 80, .inr (.inr (.inr (.inr (fun _ => none))))))]) hP hD [1] [0] rfl rfl (by decide) (by decide) hk1 hFc hP1 hD1
  generalize H1 = H at hP hS ⊢
  have hP : va_P D vwCl [(h0, .inr (0, [.null, .null, .null, .null, .int 0, .int 0, .int 0])), (q1, .inr (3, [.ref q2, .int 0])), (q2, .inl (cy 3, 80, .inr (.inr (.inr (.inr (fun _ => none))))))] H := hP
  have hD : va_D A [(h0, .inr (0, [.null, .null, .null, .null, .int 0, .int 0, .int 0])), (q1, .inr (3, [.ref q2, .int 0])), (q2, .inl (cy 3, 80, .inr (.inr (.inr (.inr (fun _ => none))))))] := hD
  refine W.widen (k := 2) (n := 82) (Nat.le_of_ble_eq_true rfl) (Nat.le_of_ble_eq_true rfl) ?_
  refine va_putF (D := D) (ci := 0) (v := .ref q1) (ty := .object "RingHeap$Row") (C := RX0) (T := TX0) (N := 7) hx hb hts n_X0_init_X0 tyX0 tyX0_ok nmX0 hown hK hP hD hS 0 rfl rfl 2 (by decide) (hts _ k_X0_init_7) (fun _ h9 => h9) rfl hin rfl (by decide +kernel) rfl rfl (Nat.le_of_ble_eq_true rfl) dX0_init_12 (fun H locs hP hD hS => ?_)
  have hP : va_P D vwCl [(h0, .inr (0, [.null, .null, .ref q1, .null, .int 0, .int 0, .int 0])), (q1, .inr (3, [.ref q2, .int 0])), (q2, .inl (cy 3, 80, .inr (.inr (.inr (.inr (fun _ => none))))))] H := hP
  have hD : va_D A [(h0, .inr (0, [.null, .null, .ref q1, .null, .int 0, .int 0, .int 0])), (q1, .inr (3, [.ref q2, .int 0])), (q2, .inl (cy 3, 80, .inr (.inr (.inr (.inr (fun _ => none))))))] := hD
  refine lv_aload_n hx hb dX0_init_15 rfl (lv_at hl 0 rfl) ?_
  refine va_new (ci := 3) (fs := [.null, .int 0]) (C := RX3) (T := TX3) (N := 2) hx hb hts n_X0_init_X3 tyX3 tyX3_ok hown (hts _ k_X0_init_4) (hts _ k_X0_init_5) (hts _ k_X0_init_6) hK hP hD hS hA rfl (fun j hj => by rcases (show j = 0 ∨ j = 1 by omega) with rfl | rfl <;> rfl) (Nat.le_of_ble_eq_true rfl) (Nat.le_of_ble_eq_true rfl) dX0_init_16 (fun q3 H hP hD hS => ?_)
  have hP : va_P D vwCl [(h0, .inr (0, [.null, .null, .ref q1, .null, .int 0, .int 0, .int 0])), (q1, .inr (3, [.ref q2, .int 0])), (q2, .inl (cy 3, 80, .inr (.inr (.inr (.inr (fun _ => none)))))), (q3, .inr (3, [.null, .int 0]))] H := hP
  have hD : va_D A [(h0, .inr (0, [.null, .null, .ref q1, .null, .int 0, .int 0, .int 0])), (q1, .inr (3, [.ref q2, .int 0])), (q2, .inl (cy 3, 80, .inr (.inr (.inr (.inr (fun _ => none)))))), (q3, .inr (3, [.null, .int 0]))] := hD
  refine W.widen (k := 3) (n := 84) (Nat.le_of_ble_eq_true rfl) (Nat.le_of_ble_eq_true rfl) ?_
  refine lv_dup hx hb dX0_init_19 rfl ?_
  have hPc := hP.sub (ws' := [(q3, .inr (3, [.null, .int 0]))]) [3] rfl
  have hDc := hD.sub (ws' := [(q3, .inr (3, [.null, .int 0]))]) [3] (by decide) rfl
  have hFc := va_free (wc := [(q3, .inr (3, [.null, .int 0]))]) hD hS hA [3] rfl
  refine va_callv (va_runIN (As := []) (rest := [.ref q3, .ref h0]) ⟨hx, hb, hml, hown, hts⟩ (c_X3_init l D cy q3  H.size) ⟨va_cnB 0 hts gX0_init_X3_init_n11 rfl rfl rfl hC.2.2.2.1 (hts _ k_X0_init_6) (by decide +kernel) ⟨Nat.le_of_ble_eq_true rfl, Nat.le_of_ble_eq_true rfl⟩, rfl, (hts _ k_X0_init_11)⟩ ⟨pcn_blind, fun U hU hW => pcn_of hPc hDc hK hC hU hW⟩ rfl rfl hl.1 rfl (lv_room (Nat.le_of_ble_eq_true rfl)) dX0_init_20 ⟨Nat.le_of_ble_eq_true rfl, Nat.le_of_ble_eq_true rfl⟩) hS (fun q _ h => hFc q h) hFc (fun v t H1 locs ht hvm hw hB hz1 hk1 hS => ?_)
  obtain ⟨q4, rfl⟩ : ∃ z, z = v := ⟨_, rfl⟩
  obtain ⟨hP1, hK1, hD1⟩ := hB
  rw [ht] at hP1
  obtain ⟨hP, hD⟩ := va_join (wr := [(h0, .inr (0, [.null, .null, .ref q1, .null, .int 0, .int 0, .int 0])), (q1, .inr (3, [.ref q2, .int 0])), (q2, .inl (cy 3, 80, .inr (.inr (.inr (.inr (fun _ => none))))))]) (w1 := [(q3, .inr (3, [.ref q4, .int 0])), (q4, .inl (cy 3, 80, .inr (.inr (.inr (.inr (fun _ => none))))))]) hP hD [3] [0, 1, 2] rfl rfl (by decide) (by decide) hk1 hFc hP1 hD1
  generalize H1 = H at hP hS ⊢
  have hP : va_P D vwCl [(h0, .inr (0, [.null, .null, .ref q1, .null, .int 0, .int 0, .int 0])), (q1, .inr (3, [.ref q2, .int 0])), (q2, .inl (cy 3, 80, .inr (.inr (.inr (.inr (fun _ => none)))))), (q3, .inr (3, [.ref q4, .int 0])), (q4, .inl (cy 3, 80, .inr (.inr (.inr (.inr (fun _ => none))))))] H := hP
  have hD : va_D A [(h0, .inr (0, [.null, .null, .ref q1, .null, .int 0, .int 0, .int 0])), (q1, .inr (3, [.ref q2, .int 0])), (q2, .inl (cy 3, 80, .inr (.inr (.inr (.inr (fun _ => none)))))), (q3, .inr (3, [.ref q4, .int 0])), (q4, .inl (cy 3, 80, .inr (.inr (.inr (.inr (fun _ => none))))))] := hD
  refine W.widen (k := 4) (n := 164) (Nat.le_of_ble_eq_true rfl) (Nat.le_of_ble_eq_true rfl) ?_
  refine va_putF (D := D) (ci := 0) (v := .ref q3) (ty := .object "RingHeap$Row") (C := RX0) (T := TX0) (N := 7) hx hb hts n_X0_init_X0 tyX0 tyX0_ok nmX0 hown hK hP hD hS 0 rfl rfl 3 (by decide) (hts _ k_X0_init_8) (fun _ h9 => h9) rfl hin rfl (by decide +kernel) rfl rfl (Nat.le_of_ble_eq_true rfl) dX0_init_23 (fun H locs hP hD hS => ?_)
  have hP : va_P D vwCl [(h0, .inr (0, [.null, .null, .ref q1, .ref q3, .int 0, .int 0, .int 0])), (q1, .inr (3, [.ref q2, .int 0])), (q2, .inl (cy 3, 80, .inr (.inr (.inr (.inr (fun _ => none)))))), (q3, .inr (3, [.ref q4, .int 0])), (q4, .inl (cy 3, 80, .inr (.inr (.inr (.inr (fun _ => none))))))] H := hP
  have hD : va_D A [(h0, .inr (0, [.null, .null, .ref q1, .ref q3, .int 0, .int 0, .int 0])), (q1, .inr (3, [.ref q2, .int 0])), (q2, .inl (cy 3, 80, .inr (.inr (.inr (.inr (fun _ => none)))))), (q3, .inr (3, [.ref q4, .int 0])), (q4, .inl (cy 3, 80, .inr (.inr (.inr (.inr (fun _ => none))))))] := hD
  refine lv_aload_n hx hb dX0_init_26 rfl (lv_at hl 0 rfl) ?_
  refine lv_aload_n hx hb dX0_init_27 rfl (lv_at hl 1 rfl) ?_
  refine va_putF (D := D) (ci := 0) (v := .ref a1) (ty := .object "RingHeap$Store") (C := RX0) (T := TX0) (N := 7) hx hb hts n_X0_init_X0 tyX0 tyX0_ok nmX0 hown hK hP hD hS 0 rfl rfl 0 (by decide) (hts _ k_X0_init_9) (fun _ h9 => h9) rfl hin rfl (by decide +kernel) rfl rfl (Nat.le_of_ble_eq_true rfl) dX0_init_28 (fun H locs hP hD hS => ?_)
  have hP : va_P D vwCl [(h0, .inr (0, [.ref a1, .null, .ref q1, .ref q3, .int 0, .int 0, .int 0])), (q1, .inr (3, [.ref q2, .int 0])), (q2, .inl (cy 3, 80, .inr (.inr (.inr (.inr (fun _ => none)))))), (q3, .inr (3, [.ref q4, .int 0])), (q4, .inl (cy 3, 80, .inr (.inr (.inr (.inr (fun _ => none))))))] H := hP
  have hD : va_D A [(h0, .inr (0, [.ref a1, .null, .ref q1, .ref q3, .int 0, .int 0, .int 0])), (q1, .inr (3, [.ref q2, .int 0])), (q2, .inl (cy 3, 80, .inr (.inr (.inr (.inr (fun _ => none)))))), (q3, .inr (3, [.ref q4, .int 0])), (q4, .inl (cy 3, 80, .inr (.inr (.inr (.inr (fun _ => none))))))] := hD
  refine lv_aload_n hx hb dX0_init_31 rfl (lv_at hl 0 rfl) ?_
  refine lv_aload_n hx hb dX0_init_32 rfl (lv_at hl 2 rfl) ?_
  refine va_putF (D := D) (ci := 0) (v := .ref a2) (ty := .object "RingHeap$Counting") (C := RX0) (T := TX0) (N := 7) hx hb hts n_X0_init_X0 tyX0 tyX0_ok nmX0 hown hK hP hD hS 0 rfl rfl 1 (by decide) (hts _ k_X0_init_10) (fun _ h9 => h9) rfl hin rfl (by decide +kernel) rfl rfl (Nat.le_of_ble_eq_true rfl) dX0_init_33 (fun H locs hP hD hS => ?_)
  have hP : va_P D vwCl [(h0, .inr (0, [.ref a1, .ref a2, .ref q1, .ref q3, .int 0, .int 0, .int 0])), (q1, .inr (3, [.ref q2, .int 0])), (q2, .inl (cy 3, 80, .inr (.inr (.inr (.inr (fun _ => none)))))), (q3, .inr (3, [.ref q4, .int 0])), (q4, .inl (cy 3, 80, .inr (.inr (.inr (.inr (fun _ => none))))))] H := hP
  have hD : va_D A [(h0, .inr (0, [.ref a1, .ref a2, .ref q1, .ref q3, .int 0, .int 0, .int 0])), (q1, .inr (3, [.ref q2, .int 0])), (q2, .inl (cy 3, 80, .inr (.inr (.inr (.inr (fun _ => none)))))), (q3, .inr (3, [.ref q4, .int 0])), (q4, .inl (cy 3, 80, .inr (.inr (.inr (.inr (fun _ => none))))))] := hD
  exact W.vret hx hb hr (fun t ht hW => ⟨⟨(q1, q2, q3, q4), rfl, trivial, by rw [ht]; exact hP, va_K.moved hW.alike hK, hD⟩, hS.F ht⟩) hS.2.2 dX0_init_36
theorem k_X7_init_1 : Cond.methodLink RX7 3 objectInit ∈ wsX7_init := List.mem_of_getElem? (i := 1) (by rfl)
theorem k_X7_init_2 : Cond.instanceMethod objectInit ∈ wsX7_init := List.mem_of_getElem? (i := 2) (by rfl)
theorem k_X7_init_3 : Cond.code objectInit ⟨#[0xb1]⟩ 1 none ∈ wsX7_init := List.mem_of_getElem? (i := 3) (by rfl)
theorem k_X7_init_4 : Cond.classLink RX7 9 RX2 ∈ wsX7_init := List.mem_of_getElem? (i := 4) (by rfl)
theorem n_X7_init_X7 : ∀ w ∈ u_ws RX7 TX7 5, w ∈ wsX7_init := fun _ h => List.mem_cons_of_mem _ (List.mem_append_left _ (List.mem_append_left _ (List.mem_append_left _ (List.mem_append_left _ (List.mem_append_left _ (List.mem_append_right _ h))))))
theorem k_X7_init_5 : Cond.fieldLink RX7 11 "RingHeap" "kinds" "[LRingHeap$Kind;" ∈ wsX7_init := List.mem_of_getElem? (i := 5) (by rfl)
theorem n_X7_init_X4 : ∀ w ∈ u_ws RX4 TX4 6, w ∈ wsX7_init := fun _ h => List.mem_cons_of_mem _ (List.mem_append_left _ (List.mem_append_left _ (List.mem_append_left _ (List.mem_append_left _ (List.mem_append_right _ h)))))
theorem k_X7_init_6 : Cond.classLink RX7 15 RX4 ∈ wsX7_init := List.mem_of_getElem? (i := 6) (by rfl)
theorem k_X7_init_7 : Cond.instantiable RX4 6 ∈ wsX7_init := List.mem_of_getElem? (i := 7) (by rfl)
theorem k_X7_init_8 : Cond.initialized RX4 ∈ wsX7_init := List.mem_of_getElem? (i := 8) (by rfl)
theorem k_X7_init_18 : Cond.instanceMethod yX4_init ∈ wsX7_init := List.mem_of_getElem? (i := 18) (by rfl)
theorem k_X7_init_9 : Cond.fieldLink RX7 18 "RingHeap" "store" "LRingHeap$Store;" ∈ wsX7_init := List.mem_of_getElem? (i := 9) (by rfl)
theorem n_X7_init_X1 : ∀ w ∈ u_ws RX1 TX1 4, w ∈ wsX7_init := fun _ h => List.mem_cons_of_mem _ (List.mem_append_left _ (List.mem_append_left _ (List.mem_append_left _ (List.mem_append_right _ h))))
theorem k_X7_init_10 : Cond.classLink RX7 22 RX1 ∈ wsX7_init := List.mem_of_getElem? (i := 10) (by rfl)
theorem k_X7_init_11 : Cond.instantiable RX1 4 ∈ wsX7_init := List.mem_of_getElem? (i := 11) (by rfl)
theorem k_X7_init_12 : Cond.initialized RX1 ∈ wsX7_init := List.mem_of_getElem? (i := 12) (by rfl)
theorem k_X7_init_36 : Cond.methodLink RX7 24 yX1_init ∈ wsX7_init := List.mem_of_getElem? (i := 36) (by rfl)
theorem k_X7_init_37 : Cond.instanceMethod yX1_init ∈ wsX7_init := List.mem_of_getElem? (i := 37) (by rfl)
theorem k_X7_init_13 : Cond.fieldLink RX7 27 "RingHeap" "counting" "LRingHeap$Counting;" ∈ wsX7_init := List.mem_of_getElem? (i := 13) (by rfl)
theorem n_X7_init_X0 : ∀ w ∈ u_ws RX0 TX0 7, w ∈ wsX7_init := fun _ h => List.mem_cons_of_mem _ (List.mem_append_left _ (List.mem_append_left _ (List.mem_append_right _ h)))
theorem k_X7_init_14 : Cond.classLink RX7 31 RX0 ∈ wsX7_init := List.mem_of_getElem? (i := 14) (by rfl)
theorem k_X7_init_15 : Cond.instantiable RX0 7 ∈ wsX7_init := List.mem_of_getElem? (i := 15) (by rfl)
theorem k_X7_init_16 : Cond.initialized RX0 ∈ wsX7_init := List.mem_of_getElem? (i := 16) (by rfl)
theorem k_X7_init_52 : Cond.methodLink RX7 33 yX0_init ∈ wsX7_init := List.mem_of_getElem? (i := 52) (by rfl)
theorem k_X7_init_53 : Cond.instanceMethod yX0_init ∈ wsX7_init := List.mem_of_getElem? (i := 53) (by rfl)
theorem k_X7_init_17 : Cond.fieldLink RX7 36 "RingHeap" "collector" "LRingHeap$Collector;" ∈ wsX7_init := List.mem_of_getElem? (i := 17) (by rfl)
set_option maxHeartbeats 4000000 in
set_option maxRecDepth 100000 in
theorem c_X7_init (l : Launch) (D : va_G) (cy : Nat → ClassId) (h0 : Nat)  (sz : Nat) : Met l yX7_init wsX7_init ({ frames := 3, cells := 19, slots := 1039, locals := 54 } : Room) (PcN D cy [(h0, .inr (7, [.null, .null, .null, .null, .int 0]))] sz [.ref h0]) (QcN D cy (fun v : Nat × Nat × Nat × Nat × Nat × Nat × Nat × Nat × Nat × Nat × Nat × Nat × Nat × Nat × Nat × Nat × Nat × Nat × Nat => [(h0, .inr (7, [.ref v.1, .ref v.2.1, .ref v.2.2.2.2.2.2.2.1, .ref v.2.2.2.2.2.2.2.2.2.2.2.2.2.2.1, .int 0])), (v.1, .inl (cy 2, 10, .inr (.inr (.inr (.inr (fun _ => none)))))), (v.2.1, .inr (4, [.ref v.2.2.1, .ref v.2.2.2.1, .ref v.2.2.2.2.1, .ref v.2.2.2.2.2.1, .int 0, .int 0])), (v.2.2.1, .inl (cy 3, 80, .inr (.inr (.inr (.inr (fun _ => none)))))), (v.2.2.2.1, .inl (cy 0, 100, .inl (fun _ => 0))), (v.2.2.2.2.1, .inl (cy 3, 20, .inr (.inr (.inr (.inr (fun _ => none)))))), (v.2.2.2.2.2.1, .inr (6, [.ref v.2.2.2.2.2.2.1, .int 400])), (v.2.2.2.2.2.2.1, .inl (cy 3, 400, .inr (.inr (.inr (.inr (fun _ => none)))))), (v.2.2.2.2.2.2.2.1, .inr (1, [.ref v.2.1, .ref v.2.2.2.2.2.2.2.2.1, .ref v.2.2.2.2.2.2.2.2.2.2.1, .ref v.2.2.2.2.2.2.2.2.2.2.2.2.1])), (v.2.2.2.2.2.2.2.2.1, .inr (3, [.ref v.2.2.2.2.2.2.2.2.2.1, .int 0])), (v.2.2.2.2.2.2.2.2.2.1, .inl (cy 3, 80, .inr (.inr (.inr (.inr (fun _ => none)))))), (v.2.2.2.2.2.2.2.2.2.2.1, .inr (3, [.ref v.2.2.2.2.2.2.2.2.2.2.2.1, .int 0])), (v.2.2.2.2.2.2.2.2.2.2.2.1, .inl (cy 3, 80, .inr (.inr (.inr (.inr (fun _ => none)))))), (v.2.2.2.2.2.2.2.2.2.2.2.2.1, .inr (3, [.ref v.2.2.2.2.2.2.2.2.2.2.2.2.2.1, .int 0])), (v.2.2.2.2.2.2.2.2.2.2.2.2.2.1, .inl (cy 3, 80, .inr (.inr (.inr (.inr (fun _ => none)))))), (v.2.2.2.2.2.2.2.2.2.2.2.2.2.2.1, .inr (0, [.ref v.2.1, .ref v.2.2.2.2.2.2.2.1, .ref v.2.2.2.2.2.2.2.2.2.2.2.2.2.2.2.1, .ref v.2.2.2.2.2.2.2.2.2.2.2.2.2.2.2.2.2.1, .int 0, .int 0, .int 0])), (v.2.2.2.2.2.2.2.2.2.2.2.2.2.2.2.1, .inr (3, [.ref v.2.2.2.2.2.2.2.2.2.2.2.2.2.2.2.2.1, .int 0])), (v.2.2.2.2.2.2.2.2.2.2.2.2.2.2.2.2.1, .inl (cy 3, 80, .inr (.inr (.inr (.inr (fun _ => none)))))), (v.2.2.2.2.2.2.2.2.2.2.2.2.2.2.2.2.2.1, .inr (3, [.ref v.2.2.2.2.2.2.2.2.2.2.2.2.2.2.2.2.2.2, .int 0])), (v.2.2.2.2.2.2.2.2.2.2.2.2.2.2.2.2.2.2, .inl (cy 3, 80, .inr (.inr (.inr (.inr (fun _ => none))))))]) (va_A [(h0, .inr (7, [.null, .null, .null, .null, .int 0]))] sz)) 19 1039 (va_A [(h0, .inr (7, [.null, .null, .null, .null, .int 0]))] sz) := by
  refine Met.ofW (cc := cX7_init) (maxL := 1) (ret := none) (by decide) rfl ?_
  intro p e s m args below meth c s₁ B hml hv
  obtain ⟨rfl, hsz, hP, hK, hD0, hC⟩ := hv
  have hx := B.exec
  have hb := B.bytes
  have hr := B.returns
  have hts := atoms_spec (ws := wsX7_init) B.pre
  have hown : s.vm.findClass RX7 = some m.cls := findClass_of_methodNamed B.named
  have hlocks := B.notSynchronized
  have hin : meth.name = "<init>" := (name_of_methodNamed B.named B.method).1
  subst hsz
  have hD := hD0.self (sz := s.heap.size)
  generalize hAe : va_A [(h0, .inr (7, [.null, .null, .null, .null, .int 0]))] s.heap.size = A at hD ⊢
  have hA : ∀ q : Nat, s.heap.size ≤ q → A q := fun q h => by rw [← hAe]; exact Or.inr h
  have hS : va_S A s.heap s.heap [] := va_S.rf
  have hl := lv_entry ([.ref h0]) (n := 1) (Nat.le_of_ble_eq_true rfl)
  rw [lg_entry_eq]
  generalize (lg_sl ([.ref h0]) ++ List.replicate (1 - (lg_sl ([.ref h0])).length) Slot.unset).toArray = ls at hl ⊢
  have hl : lv_has ls 1 [(0, .ref h0)] := hl
  refine lv_aload_n hx hb dX7_init_0 rfl (lv_at hl 0 rfl) ?_
  refine W.objInit hx hb hown (hts _ k_X7_init_1) (hts _ k_X7_init_2) (hts _ k_X7_init_3) rfl (by rw [hml]; exact hl.1) rfl dX7_init_1 (Nat.le_of_ble_eq_true rfl) (Nat.le_of_ble_eq_true rfl) ?_
  refine W.eq (g2 := F0 m 4 ls []) rfl ?_
  refine lv_aload_n hx hb dX7_init_4 rfl (lv_at hl 0 rfl) ?_
  refine lv_bipush (v := 10) hx hb dX7_init_5 (by decide) ?_
  refine va_newq hx hb hown (hts _ k_X7_init_4) hC.2.1 hK hP hD hS hA (N' := 10) (by decide) (by decide) (Nat.le_of_ble_eq_true rfl) (Nat.le_of_ble_eq_true rfl) (Nat.le_of_ble_eq_true rfl) dX7_init_7 (fun q1 cA H hK2 hP hD hS => ?_)
  obtain rfl := cn_eq2 hK2
  have hP : va_P D vwCl [(h0, .inr (7, [.null, .null, .null, .null, .int 0])), (q1, .inl (cy 2, 10, .inr (.inr (.inr (.inr (fun _ => none))))))] H := hP
  have hD : va_D A [(h0, .inr (7, [.null, .null, .null, .null, .int 0])), (q1, .inl (cy 2, 10, .inr (.inr (.inr (.inr (fun _ => none))))))] := hD
  refine W.widen (k := 1) (n := 10) (Nat.le_of_ble_eq_true rfl) (Nat.le_of_ble_eq_true rfl) ?_
  refine va_putF (D := D) (ci := 7) (v := .ref q1) (ty := .array (.object "RingHeap$Kind")) (C := RX7) (T := TX7) (N := 5) hx hb hts n_X7_init_X7 tyX7 tyX7_ok nmX7 hown hK hP hD hS 0 rfl rfl 0 (by decide) (hts _ k_X7_init_5) (fun _ h9 => h9) rfl hin rfl (by decide +kernel) rfl rfl (Nat.le_of_ble_eq_true rfl) dX7_init_10 (fun H locs hP hD hS => ?_)
  have hP : va_P D vwCl [(h0, .inr (7, [.ref q1, .null, .null, .null, .int 0])), (q1, .inl (cy 2, 10, .inr (.inr (.inr (.inr (fun _ => none))))))] H := hP
  have hD : va_D A [(h0, .inr (7, [.ref q1, .null, .null, .null, .int 0])), (q1, .inl (cy 2, 10, .inr (.inr (.inr (.inr (fun _ => none))))))] := hD
  refine lv_aload_n hx hb dX7_init_13 rfl (lv_at hl 0 rfl) ?_
  refine va_new (ci := 4) (fs := [.null, .null, .null, .null, .int 0, .int 0]) (C := RX4) (T := TX4) (N := 6) hx hb hts n_X7_init_X4 tyX4 tyX4_ok hown (hts _ k_X7_init_6) (hts _ k_X7_init_7) (hts _ k_X7_init_8) hK hP hD hS hA rfl (fun j hj => by rcases (show j = 0 ∨ j = 1 ∨ j = 2 ∨ j = 3 ∨ j = 4 ∨ j = 5 by omega) with rfl | rfl | rfl | rfl | rfl | rfl <;> rfl) (Nat.le_of_ble_eq_true rfl) (Nat.le_of_ble_eq_true rfl) dX7_init_14 (fun q2 H hP hD hS => ?_)
  have hP : va_P D vwCl [(h0, .inr (7, [.ref q1, .null, .null, .null, .int 0])), (q1, .inl (cy 2, 10, .inr (.inr (.inr (.inr (fun _ => none)))))), (q2, .inr (4, [.null, .null, .null, .null, .int 0, .int 0]))] H := hP
  have hD : va_D A [(h0, .inr (7, [.ref q1, .null, .null, .null, .int 0])), (q1, .inl (cy 2, 10, .inr (.inr (.inr (.inr (fun _ => none)))))), (q2, .inr (4, [.null, .null, .null, .null, .int 0, .int 0]))] := hD
  refine W.widen (k := 2) (n := 16) (Nat.le_of_ble_eq_true rfl) (Nat.le_of_ble_eq_true rfl) ?_
  refine lv_dup hx hb dX7_init_17 rfl ?_
  have hPc := hP.sub (ws' := [(q2, .inr (4, [.null, .null, .null, .null, .int 0, .int 0]))]) [2] rfl
  have hDc := hD.sub (ws' := [(q2, .inr (4, [.null, .null, .null, .null, .int 0, .int 0]))]) [2] (by decide) rfl
  have hFc := va_free (wc := [(q2, .inr (4, [.null, .null, .null, .null, .int 0, .int 0]))]) hD hS hA [2] rfl
  refine va_callv (va_runIN (As := []) (rest := [.ref q2, .ref h0]) ⟨hx, hb, hml, hown, hts⟩ (c_X4_init l D cy q2  H.size) ⟨va_cnB 0 hts gX7_init_X4_init_n17 rfl rfl rfl hC.2.2.1 (hts _ k_X7_init_8) (by decide +kernel) ⟨Nat.le_of_ble_eq_true rfl, Nat.le_of_ble_eq_true rfl⟩, rfl, (hts _ k_X7_init_18)⟩ ⟨pcn_blind, fun U hU hW => pcn_of hPc hDc hK hC hU hW⟩ rfl rfl hl.1 rfl (lv_room (Nat.le_of_ble_eq_true rfl)) dX7_init_18 ⟨Nat.le_of_ble_eq_true rfl, Nat.le_of_ble_eq_true rfl⟩) hS (fun q _ h => hFc q h) hFc (fun v t H1 locs ht hvm hw hB hz1 hk1 hS => ?_)
  obtain ⟨q3, q4, q5, q6, q7⟩ := v
  obtain ⟨hP1, hK1, hD1⟩ := hB
  rw [ht] at hP1
  obtain ⟨hP, hD⟩ := va_join (wr := [(h0, .inr (7, [.ref q1, .null, .null, .null, .int 0])), (q1, .inl (cy 2, 10, .inr (.inr (.inr (.inr (fun _ => none))))))]) (w1 := [(q2, .inr (4, [.ref q3, .ref q4, .ref q5, .ref q6, .int 0, .int 0])), (q3, .inl (cy 3, 80, .inr (.inr (.inr (.inr (fun _ => none)))))), (q4, .inl (cy 0, 100, .inl (fun _ => 0))), (q5, .inl (cy 3, 20, .inr (.inr (.inr (.inr (fun _ => none)))))), (q6, .inr (6, [.ref q7, .int 400])), (q7, .inl (cy 3, 400, .inr (.inr (.inr (.inr (fun _ => none))))))]) hP hD [2] [0, 1] rfl rfl (by decide) (by decide) hk1 hFc hP1 hD1
  generalize H1 = H at hP hS ⊢
  have hP : va_P D vwCl [(h0, .inr (7, [.ref q1, .null, .null, .null, .int 0])), (q1, .inl (cy 2, 10, .inr (.inr (.inr (.inr (fun _ => none)))))), (q2, .inr (4, [.ref q3, .ref q4, .ref q5, .ref q6, .int 0, .int 0])), (q3, .inl (cy 3, 80, .inr (.inr (.inr (.inr (fun _ => none)))))), (q4, .inl (cy 0, 100, .inl (fun _ => 0))), (q5, .inl (cy 3, 20, .inr (.inr (.inr (.inr (fun _ => none)))))), (q6, .inr (6, [.ref q7, .int 400])), (q7, .inl (cy 3, 400, .inr (.inr (.inr (.inr (fun _ => none))))))] H := hP
  have hD : va_D A [(h0, .inr (7, [.ref q1, .null, .null, .null, .int 0])), (q1, .inl (cy 2, 10, .inr (.inr (.inr (.inr (fun _ => none)))))), (q2, .inr (4, [.ref q3, .ref q4, .ref q5, .ref q6, .int 0, .int 0])), (q3, .inl (cy 3, 80, .inr (.inr (.inr (.inr (fun _ => none)))))), (q4, .inl (cy 0, 100, .inl (fun _ => 0))), (q5, .inl (cy 3, 20, .inr (.inr (.inr (.inr (fun _ => none)))))), (q6, .inr (6, [.ref q7, .int 400])), (q7, .inl (cy 3, 400, .inr (.inr (.inr (.inr (fun _ => none))))))] := hD
  refine W.widen (k := 7) (n := 618) (Nat.le_of_ble_eq_true rfl) (Nat.le_of_ble_eq_true rfl) ?_
  refine va_putF (D := D) (ci := 7) (v := .ref q2) (ty := .object "RingHeap$Store") (C := RX7) (T := TX7) (N := 5) hx hb hts n_X7_init_X7 tyX7 tyX7_ok nmX7 hown hK hP hD hS 0 rfl rfl 1 (by decide) (hts _ k_X7_init_9) (fun _ h9 => h9) rfl hin rfl (by decide +kernel) rfl rfl (Nat.le_of_ble_eq_true rfl) dX7_init_21 (fun H locs hP hD hS => ?_)
  have hP : va_P D vwCl [(h0, .inr (7, [.ref q1, .ref q2, .null, .null, .int 0])), (q1, .inl (cy 2, 10, .inr (.inr (.inr (.inr (fun _ => none)))))), (q2, .inr (4, [.ref q3, .ref q4, .ref q5, .ref q6, .int 0, .int 0])), (q3, .inl (cy 3, 80, .inr (.inr (.inr (.inr (fun _ => none)))))), (q4, .inl (cy 0, 100, .inl (fun _ => 0))), (q5, .inl (cy 3, 20, .inr (.inr (.inr (.inr (fun _ => none)))))), (q6, .inr (6, [.ref q7, .int 400])), (q7, .inl (cy 3, 400, .inr (.inr (.inr (.inr (fun _ => none))))))] H := hP
  have hD : va_D A [(h0, .inr (7, [.ref q1, .ref q2, .null, .null, .int 0])), (q1, .inl (cy 2, 10, .inr (.inr (.inr (.inr (fun _ => none)))))), (q2, .inr (4, [.ref q3, .ref q4, .ref q5, .ref q6, .int 0, .int 0])), (q3, .inl (cy 3, 80, .inr (.inr (.inr (.inr (fun _ => none)))))), (q4, .inl (cy 0, 100, .inl (fun _ => 0))), (q5, .inl (cy 3, 20, .inr (.inr (.inr (.inr (fun _ => none)))))), (q6, .inr (6, [.ref q7, .int 400])), (q7, .inl (cy 3, 400, .inr (.inr (.inr (.inr (fun _ => none))))))] := hD
  refine lv_aload_n hx hb dX7_init_24 rfl (lv_at hl 0 rfl) ?_
  refine va_new (ci := 1) (fs := [.null, .null, .null, .null]) (C := RX1) (T := TX1) (N := 4) hx hb hts n_X7_init_X1 tyX1 tyX1_ok hown (hts _ k_X7_init_10) (hts _ k_X7_init_11) (hts _ k_X7_init_12) hK hP hD hS hA rfl (fun j hj => by rcases (show j = 0 ∨ j = 1 ∨ j = 2 ∨ j = 3 by omega) with rfl | rfl | rfl | rfl <;> rfl) (Nat.le_of_ble_eq_true rfl) (Nat.le_of_ble_eq_true rfl) dX7_init_25 (fun q8 H hP hD hS => ?_)
  have hP : va_P D vwCl [(h0, .inr (7, [.ref q1, .ref q2, .null, .null, .int 0])), (q1, .inl (cy 2, 10, .inr (.inr (.inr (.inr (fun _ => none)))))), (q2, .inr (4, [.ref q3, .ref q4, .ref q5, .ref q6, .int 0, .int 0])), (q3, .inl (cy 3, 80, .inr (.inr (.inr (.inr (fun _ => none)))))), (q4, .inl (cy 0, 100, .inl (fun _ => 0))), (q5, .inl (cy 3, 20, .inr (.inr (.inr (.inr (fun _ => none)))))), (q6, .inr (6, [.ref q7, .int 400])), (q7, .inl (cy 3, 400, .inr (.inr (.inr (.inr (fun _ => none)))))), (q8, .inr (1, [.null, .null, .null, .null]))] H := hP
  have hD : va_D A [(h0, .inr (7, [.ref q1, .ref q2, .null, .null, .int 0])), (q1, .inl (cy 2, 10, .inr (.inr (.inr (.inr (fun _ => none)))))), (q2, .inr (4, [.ref q3, .ref q4, .ref q5, .ref q6, .int 0, .int 0])), (q3, .inl (cy 3, 80, .inr (.inr (.inr (.inr (fun _ => none)))))), (q4, .inl (cy 0, 100, .inl (fun _ => 0))), (q5, .inl (cy 3, 20, .inr (.inr (.inr (.inr (fun _ => none)))))), (q6, .inr (6, [.ref q7, .int 400])), (q7, .inl (cy 3, 400, .inr (.inr (.inr (.inr (fun _ => none)))))), (q8, .inr (1, [.null, .null, .null, .null]))] := hD
  refine W.widen (k := 8) (n := 622) (Nat.le_of_ble_eq_true rfl) (Nat.le_of_ble_eq_true rfl) ?_
  refine lv_dup hx hb dX7_init_28 rfl ?_
  refine lv_aload_n hx hb dX7_init_29 rfl (lv_at hl 0 rfl) ?_
  refine va_get (D := D) (ci := 7) (v := .ref q2) (C := RX7) (T := TX7) (N := 5) hx hb hts n_X7_init_X7 hown hK hP 0 rfl rfl 1 (by decide) (hts _ k_X7_init_9) (fun _ h9 => h9) rfl dX7_init_30 ?_
  have hPc := hP.sub (ws' := [(q8, .inr (1, [.null, .null, .null, .null]))]) [8] rfl
  have hDc := hD.sub (ws' := [(q8, .inr (1, [.null, .null, .null, .null]))]) [8] (by decide) rfl
  have hFc := va_free (wc := [(q8, .inr (1, [.null, .null, .null, .null]))]) hD hS hA [8] rfl
  refine va_callv (va_runI (As := [.ref q2]) (rest := [.ref q8, .ref h0]) ⟨hx, hb, hml, hown, hts⟩ (c_X1_init l D cy q8 q2 H.size) (cwI 1 hts gX7_init_X1_init rfl rfl rfl (hts _ k_X7_init_12) (hts _ k_X7_init_36) (hts _ k_X7_init_37) rfl (by decide +kernel) ⟨Nat.le_of_ble_eq_true rfl, Nat.le_of_ble_eq_true rfl⟩) ⟨pcn_blind, fun U hU hW => pcn_of hPc hDc hK hC hU hW⟩ rfl rfl hl.1 rfl (lv_room (Nat.le_of_ble_eq_true rfl)) dX7_init_33 ⟨Nat.le_of_ble_eq_true rfl, Nat.le_of_ble_eq_true rfl⟩) hS (fun q _ h => hFc q h) hFc (fun v t H1 locs ht hvm hw hB hz1 hk1 hS => ?_)
  obtain ⟨q9, q10, q11, q12, q13, q14⟩ := v
  obtain ⟨hP1, hK1, hD1⟩ := hB
  rw [ht] at hP1
  obtain ⟨hP, hD⟩ := va_join (wr := [(h0, .inr (7, [.ref q1, .ref q2, .null, .null, .int 0])), (q1, .inl (cy 2, 10, .inr (.inr (.inr (.inr (fun _ => none)))))), (q2, .inr (4, [.ref q3, .ref q4, .ref q5, .ref q6, .int 0, .int 0])), (q3, .inl (cy 3, 80, .inr (.inr (.inr (.inr (fun _ => none)))))), (q4, .inl (cy 0, 100, .inl (fun _ => 0))), (q5, .inl (cy 3, 20, .inr (.inr (.inr (.inr (fun _ => none)))))), (q6, .inr (6, [.ref q7, .int 400])), (q7, .inl (cy 3, 400, .inr (.inr (.inr (.inr (fun _ => none))))))]) (w1 := [(q8, .inr (1, [.ref q2, .ref q9, .ref q11, .ref q13])), (q9, .inr (3, [.ref q10, .int 0])), (q10, .inl (cy 3, 80, .inr (.inr (.inr (.inr (fun _ => none)))))), (q11, .inr (3, [.ref q12, .int 0])), (q12, .inl (cy 3, 80, .inr (.inr (.inr (.inr (fun _ => none)))))), (q13, .inr (3, [.ref q14, .int 0])), (q14, .inl (cy 3, 80, .inr (.inr (.inr (.inr (fun _ => none))))))]) hP hD [8] [0, 1, 2, 3, 4, 5, 6, 7] rfl rfl (by decide) (by decide) hk1 hFc hP1 hD1
  generalize H1 = H at hP hS ⊢
  have hP : va_P D vwCl [(h0, .inr (7, [.ref q1, .ref q2, .null, .null, .int 0])), (q1, .inl (cy 2, 10, .inr (.inr (.inr (.inr (fun _ => none)))))), (q2, .inr (4, [.ref q3, .ref q4, .ref q5, .ref q6, .int 0, .int 0])), (q3, .inl (cy 3, 80, .inr (.inr (.inr (.inr (fun _ => none)))))), (q4, .inl (cy 0, 100, .inl (fun _ => 0))), (q5, .inl (cy 3, 20, .inr (.inr (.inr (.inr (fun _ => none)))))), (q6, .inr (6, [.ref q7, .int 400])), (q7, .inl (cy 3, 400, .inr (.inr (.inr (.inr (fun _ => none)))))), (q8, .inr (1, [.ref q2, .ref q9, .ref q11, .ref q13])), (q9, .inr (3, [.ref q10, .int 0])), (q10, .inl (cy 3, 80, .inr (.inr (.inr (.inr (fun _ => none)))))), (q11, .inr (3, [.ref q12, .int 0])), (q12, .inl (cy 3, 80, .inr (.inr (.inr (.inr (fun _ => none)))))), (q13, .inr (3, [.ref q14, .int 0])), (q14, .inl (cy 3, 80, .inr (.inr (.inr (.inr (fun _ => none))))))] H := hP
  have hD : va_D A [(h0, .inr (7, [.ref q1, .ref q2, .null, .null, .int 0])), (q1, .inl (cy 2, 10, .inr (.inr (.inr (.inr (fun _ => none)))))), (q2, .inr (4, [.ref q3, .ref q4, .ref q5, .ref q6, .int 0, .int 0])), (q3, .inl (cy 3, 80, .inr (.inr (.inr (.inr (fun _ => none)))))), (q4, .inl (cy 0, 100, .inl (fun _ => 0))), (q5, .inl (cy 3, 20, .inr (.inr (.inr (.inr (fun _ => none)))))), (q6, .inr (6, [.ref q7, .int 400])), (q7, .inl (cy 3, 400, .inr (.inr (.inr (.inr (fun _ => none)))))), (q8, .inr (1, [.ref q2, .ref q9, .ref q11, .ref q13])), (q9, .inr (3, [.ref q10, .int 0])), (q10, .inl (cy 3, 80, .inr (.inr (.inr (.inr (fun _ => none)))))), (q11, .inr (3, [.ref q12, .int 0])), (q12, .inl (cy 3, 80, .inr (.inr (.inr (.inr (fun _ => none)))))), (q13, .inr (3, [.ref q14, .int 0])), (q14, .inl (cy 3, 80, .inr (.inr (.inr (.inr (fun _ => none))))))] := hD
  refine W.widen (k := 14) (n := 868) (Nat.le_of_ble_eq_true rfl) (Nat.le_of_ble_eq_true rfl) ?_
  refine va_putF (D := D) (ci := 7) (v := .ref q8) (ty := .object "RingHeap$Counting") (C := RX7) (T := TX7) (N := 5) hx hb hts n_X7_init_X7 tyX7 tyX7_ok nmX7 hown hK hP hD hS 0 rfl rfl 2 (by decide) (hts _ k_X7_init_13) (fun _ h9 => h9) rfl hin rfl (by decide +kernel) rfl rfl (Nat.le_of_ble_eq_true rfl) dX7_init_36 (fun H locs hP hD hS => ?_)
  have hP : va_P D vwCl [(h0, .inr (7, [.ref q1, .ref q2, .ref q8, .null, .int 0])), (q1, .inl (cy 2, 10, .inr (.inr (.inr (.inr (fun _ => none)))))), (q2, .inr (4, [.ref q3, .ref q4, .ref q5, .ref q6, .int 0, .int 0])), (q3, .inl (cy 3, 80, .inr (.inr (.inr (.inr (fun _ => none)))))), (q4, .inl (cy 0, 100, .inl (fun _ => 0))), (q5, .inl (cy 3, 20, .inr (.inr (.inr (.inr (fun _ => none)))))), (q6, .inr (6, [.ref q7, .int 400])), (q7, .inl (cy 3, 400, .inr (.inr (.inr (.inr (fun _ => none)))))), (q8, .inr (1, [.ref q2, .ref q9, .ref q11, .ref q13])), (q9, .inr (3, [.ref q10, .int 0])), (q10, .inl (cy 3, 80, .inr (.inr (.inr (.inr (fun _ => none)))))), (q11, .inr (3, [.ref q12, .int 0])), (q12, .inl (cy 3, 80, .inr (.inr (.inr (.inr (fun _ => none)))))), (q13, .inr (3, [.ref q14, .int 0])), (q14, .inl (cy 3, 80, .inr (.inr (.inr (.inr (fun _ => none))))))] H := hP
  have hD : va_D A [(h0, .inr (7, [.ref q1, .ref q2, .ref q8, .null, .int 0])), (q1, .inl (cy 2, 10, .inr (.inr (.inr (.inr (fun _ => none)))))), (q2, .inr (4, [.ref q3, .ref q4, .ref q5, .ref q6, .int 0, .int 0])), (q3, .inl (cy 3, 80, .inr (.inr (.inr (.inr (fun _ => none)))))), (q4, .inl (cy 0, 100, .inl (fun _ => 0))), (q5, .inl (cy 3, 20, .inr (.inr (.inr (.inr (fun _ => none)))))), (q6, .inr (6, [.ref q7, .int 400])), (q7, .inl (cy 3, 400, .inr (.inr (.inr (.inr (fun _ => none)))))), (q8, .inr (1, [.ref q2, .ref q9, .ref q11, .ref q13])), (q9, .inr (3, [.ref q10, .int 0])), (q10, .inl (cy 3, 80, .inr (.inr (.inr (.inr (fun _ => none)))))), (q11, .inr (3, [.ref q12, .int 0])), (q12, .inl (cy 3, 80, .inr (.inr (.inr (.inr (fun _ => none)))))), (q13, .inr (3, [.ref q14, .int 0])), (q14, .inl (cy 3, 80, .inr (.inr (.inr (.inr (fun _ => none))))))] := hD
  refine lv_aload_n hx hb dX7_init_39 rfl (lv_at hl 0 rfl) ?_
  refine va_new (ci := 0) (fs := [.null, .null, .null, .null, .int 0, .int 0, .int 0]) (C := RX0) (T := TX0) (N := 7) hx hb hts n_X7_init_X0 tyX0 tyX0_ok hown (hts _ k_X7_init_14) (hts _ k_X7_init_15) (hts _ k_X7_init_16) hK hP hD hS hA rfl (fun j hj => by rcases (show j = 0 ∨ j = 1 ∨ j = 2 ∨ j = 3 ∨ j = 4 ∨ j = 5 ∨ j = 6 by omega) with rfl | rfl | rfl | rfl | rfl | rfl | rfl <;> rfl) (Nat.le_of_ble_eq_true rfl) (Nat.le_of_ble_eq_true rfl) dX7_init_40 (fun q15 H hP hD hS => ?_)
  have hP : va_P D vwCl [(h0, .inr (7, [.ref q1, .ref q2, .ref q8, .null, .int 0])), (q1, .inl (cy 2, 10, .inr (.inr (.inr (.inr (fun _ => none)))))), (q2, .inr (4, [.ref q3, .ref q4, .ref q5, .ref q6, .int 0, .int 0])), (q3, .inl (cy 3, 80, .inr (.inr (.inr (.inr (fun _ => none)))))), (q4, .inl (cy 0, 100, .inl (fun _ => 0))), (q5, .inl (cy 3, 20, .inr (.inr (.inr (.inr (fun _ => none)))))), (q6, .inr (6, [.ref q7, .int 400])), (q7, .inl (cy 3, 400, .inr (.inr (.inr (.inr (fun _ => none)))))), (q8, .inr (1, [.ref q2, .ref q9, .ref q11, .ref q13])), (q9, .inr (3, [.ref q10, .int 0])), (q10, .inl (cy 3, 80, .inr (.inr (.inr (.inr (fun _ => none)))))), (q11, .inr (3, [.ref q12, .int 0])), (q12, .inl (cy 3, 80, .inr (.inr (.inr (.inr (fun _ => none)))))), (q13, .inr (3, [.ref q14, .int 0])), (q14, .inl (cy 3, 80, .inr (.inr (.inr (.inr (fun _ => none)))))), (q15, .inr (0, [.null, .null, .null, .null, .int 0, .int 0, .int 0]))] H := hP
  have hD : va_D A [(h0, .inr (7, [.ref q1, .ref q2, .ref q8, .null, .int 0])), (q1, .inl (cy 2, 10, .inr (.inr (.inr (.inr (fun _ => none)))))), (q2, .inr (4, [.ref q3, .ref q4, .ref q5, .ref q6, .int 0, .int 0])), (q3, .inl (cy 3, 80, .inr (.inr (.inr (.inr (fun _ => none)))))), (q4, .inl (cy 0, 100, .inl (fun _ => 0))), (q5, .inl (cy 3, 20, .inr (.inr (.inr (.inr (fun _ => none)))))), (q6, .inr (6, [.ref q7, .int 400])), (q7, .inl (cy 3, 400, .inr (.inr (.inr (.inr (fun _ => none)))))), (q8, .inr (1, [.ref q2, .ref q9, .ref q11, .ref q13])), (q9, .inr (3, [.ref q10, .int 0])), (q10, .inl (cy 3, 80, .inr (.inr (.inr (.inr (fun _ => none)))))), (q11, .inr (3, [.ref q12, .int 0])), (q12, .inl (cy 3, 80, .inr (.inr (.inr (.inr (fun _ => none)))))), (q13, .inr (3, [.ref q14, .int 0])), (q14, .inl (cy 3, 80, .inr (.inr (.inr (.inr (fun _ => none)))))), (q15, .inr (0, [.null, .null, .null, .null, .int 0, .int 0, .int 0]))] := hD
  refine W.widen (k := 15) (n := 875) (Nat.le_of_ble_eq_true rfl) (Nat.le_of_ble_eq_true rfl) ?_
  refine lv_dup hx hb dX7_init_43 rfl ?_
  refine lv_aload_n hx hb dX7_init_44 rfl (lv_at hl 0 rfl) ?_
  refine va_get (D := D) (ci := 7) (v := .ref q2) (C := RX7) (T := TX7) (N := 5) hx hb hts n_X7_init_X7 hown hK hP 0 rfl rfl 1 (by decide) (hts _ k_X7_init_9) (fun _ h9 => h9) rfl dX7_init_45 ?_
  refine lv_aload_n hx hb dX7_init_48 rfl (lv_at hl 0 rfl) ?_
  refine va_get (D := D) (ci := 7) (v := .ref q8) (C := RX7) (T := TX7) (N := 5) hx hb hts n_X7_init_X7 hown hK hP 0 rfl rfl 2 (by decide) (hts _ k_X7_init_13) (fun _ h9 => h9) rfl dX7_init_49 ?_
  have hPc := hP.sub (ws' := [(q15, .inr (0, [.null, .null, .null, .null, .int 0, .int 0, .int 0]))]) [15] rfl
  have hDc := hD.sub (ws' := [(q15, .inr (0, [.null, .null, .null, .null, .int 0, .int 0, .int 0]))]) [15] (by decide) rfl
  have hFc := va_free (wc := [(q15, .inr (0, [.null, .null, .null, .null, .int 0, .int 0, .int 0]))]) hD hS hA [15] rfl
  refine va_callv (va_runI (As := [.ref q2, .ref q8]) (rest := [.ref q15, .ref h0]) ⟨hx, hb, hml, hown, hts⟩ (c_X0_init l D cy q15 q2 q8 H.size) (cwI 2 hts gX7_init_X0_init rfl rfl rfl (hts _ k_X7_init_16) (hts _ k_X7_init_52) (hts _ k_X7_init_53) rfl (by decide +kernel) ⟨Nat.le_of_ble_eq_true rfl, Nat.le_of_ble_eq_true rfl⟩) ⟨pcn_blind, fun U hU hW => pcn_of hPc hDc hK hC hU hW⟩ rfl rfl hl.1 rfl (lv_room (Nat.le_of_ble_eq_true rfl)) dX7_init_52 ⟨Nat.le_of_ble_eq_true rfl, Nat.le_of_ble_eq_true rfl⟩) hS (fun q _ h => hFc q h) hFc (fun v t H1 locs ht hvm hw hB hz1 hk1 hS => ?_)
  obtain ⟨q16, q17, q18, q19⟩ := v
  obtain ⟨hP1, hK1, hD1⟩ := hB
  rw [ht] at hP1
  obtain ⟨hP, hD⟩ := va_join (wr := [(h0, .inr (7, [.ref q1, .ref q2, .ref q8, .null, .int 0])), (q1, .inl (cy 2, 10, .inr (.inr (.inr (.inr (fun _ => none)))))), (q2, .inr (4, [.ref q3, .ref q4, .ref q5, .ref q6, .int 0, .int 0])), (q3, .inl (cy 3, 80, .inr (.inr (.inr (.inr (fun _ => none)))))), (q4, .inl (cy 0, 100, .inl (fun _ => 0))), (q5, .inl (cy 3, 20, .inr (.inr (.inr (.inr (fun _ => none)))))), (q6, .inr (6, [.ref q7, .int 400])), (q7, .inl (cy 3, 400, .inr (.inr (.inr (.inr (fun _ => none)))))), (q8, .inr (1, [.ref q2, .ref q9, .ref q11, .ref q13])), (q9, .inr (3, [.ref q10, .int 0])), (q10, .inl (cy 3, 80, .inr (.inr (.inr (.inr (fun _ => none)))))), (q11, .inr (3, [.ref q12, .int 0])), (q12, .inl (cy 3, 80, .inr (.inr (.inr (.inr (fun _ => none)))))), (q13, .inr (3, [.ref q14, .int 0])), (q14, .inl (cy 3, 80, .inr (.inr (.inr (.inr (fun _ => none))))))]) (w1 := [(q15, .inr (0, [.ref q2, .ref q8, .ref q16, .ref q18, .int 0, .int 0, .int 0])), (q16, .inr (3, [.ref q17, .int 0])), (q17, .inl (cy 3, 80, .inr (.inr (.inr (.inr (fun _ => none)))))), (q18, .inr (3, [.ref q19, .int 0])), (q19, .inl (cy 3, 80, .inr (.inr (.inr (.inr (fun _ => none))))))]) hP hD [15] [0, 1, 2, 3, 4, 5, 6, 7, 8, 9, 10, 11, 12, 13, 14] rfl rfl (by decide) (by decide) hk1 hFc hP1 hD1
  generalize H1 = H at hP hS ⊢
  have hP : va_P D vwCl [(h0, .inr (7, [.ref q1, .ref q2, .ref q8, .null, .int 0])), (q1, .inl (cy 2, 10, .inr (.inr (.inr (.inr (fun _ => none)))))), (q2, .inr (4, [.ref q3, .ref q4, .ref q5, .ref q6, .int 0, .int 0])), (q3, .inl (cy 3, 80, .inr (.inr (.inr (.inr (fun _ => none)))))), (q4, .inl (cy 0, 100, .inl (fun _ => 0))), (q5, .inl (cy 3, 20, .inr (.inr (.inr (.inr (fun _ => none)))))), (q6, .inr (6, [.ref q7, .int 400])), (q7, .inl (cy 3, 400, .inr (.inr (.inr (.inr (fun _ => none)))))), (q8, .inr (1, [.ref q2, .ref q9, .ref q11, .ref q13])), (q9, .inr (3, [.ref q10, .int 0])), (q10, .inl (cy 3, 80, .inr (.inr (.inr (.inr (fun _ => none)))))), (q11, .inr (3, [.ref q12, .int 0])), (q12, .inl (cy 3, 80, .inr (.inr (.inr (.inr (fun _ => none)))))), (q13, .inr (3, [.ref q14, .int 0])), (q14, .inl (cy 3, 80, .inr (.inr (.inr (.inr (fun _ => none)))))), (q15, .inr (0, [.ref q2, .ref q8, .ref q16, .ref q18, .int 0, .int 0, .int 0])), (q16, .inr (3, [.ref q17, .int 0])), (q17, .inl (cy 3, 80, .inr (.inr (.inr (.inr (fun _ => none)))))), (q18, .inr (3, [.ref q19, .int 0])), (q19, .inl (cy 3, 80, .inr (.inr (.inr (.inr (fun _ => none))))))] H := hP
  have hD : va_D A [(h0, .inr (7, [.ref q1, .ref q2, .ref q8, .null, .int 0])), (q1, .inl (cy 2, 10, .inr (.inr (.inr (.inr (fun _ => none)))))), (q2, .inr (4, [.ref q3, .ref q4, .ref q5, .ref q6, .int 0, .int 0])), (q3, .inl (cy 3, 80, .inr (.inr (.inr (.inr (fun _ => none)))))), (q4, .inl (cy 0, 100, .inl (fun _ => 0))), (q5, .inl (cy 3, 20, .inr (.inr (.inr (.inr (fun _ => none)))))), (q6, .inr (6, [.ref q7, .int 400])), (q7, .inl (cy 3, 400, .inr (.inr (.inr (.inr (fun _ => none)))))), (q8, .inr (1, [.ref q2, .ref q9, .ref q11, .ref q13])), (q9, .inr (3, [.ref q10, .int 0])), (q10, .inl (cy 3, 80, .inr (.inr (.inr (.inr (fun _ => none)))))), (q11, .inr (3, [.ref q12, .int 0])), (q12, .inl (cy 3, 80, .inr (.inr (.inr (.inr (fun _ => none)))))), (q13, .inr (3, [.ref q14, .int 0])), (q14, .inl (cy 3, 80, .inr (.inr (.inr (.inr (fun _ => none)))))), (q15, .inr (0, [.ref q2, .ref q8, .ref q16, .ref q18, .int 0, .int 0, .int 0])), (q16, .inr (3, [.ref q17, .int 0])), (q17, .inl (cy 3, 80, .inr (.inr (.inr (.inr (fun _ => none)))))), (q18, .inr (3, [.ref q19, .int 0])), (q19, .inl (cy 3, 80, .inr (.inr (.inr (.inr (fun _ => none))))))] := hD
  refine W.widen (k := 19) (n := 1039) (Nat.le_of_ble_eq_true rfl) (Nat.le_of_ble_eq_true rfl) ?_
  refine va_putF (D := D) (ci := 7) (v := .ref q15) (ty := .object "RingHeap$Collector") (C := RX7) (T := TX7) (N := 5) hx hb hts n_X7_init_X7 tyX7 tyX7_ok nmX7 hown hK hP hD hS 0 rfl rfl 3 (by decide) (hts _ k_X7_init_17) (fun _ h9 => h9) rfl hin rfl (by decide +kernel) rfl rfl (Nat.le_of_ble_eq_true rfl) dX7_init_55 (fun H locs hP hD hS => ?_)
  have hP : va_P D vwCl [(h0, .inr (7, [.ref q1, .ref q2, .ref q8, .ref q15, .int 0])), (q1, .inl (cy 2, 10, .inr (.inr (.inr (.inr (fun _ => none)))))), (q2, .inr (4, [.ref q3, .ref q4, .ref q5, .ref q6, .int 0, .int 0])), (q3, .inl (cy 3, 80, .inr (.inr (.inr (.inr (fun _ => none)))))), (q4, .inl (cy 0, 100, .inl (fun _ => 0))), (q5, .inl (cy 3, 20, .inr (.inr (.inr (.inr (fun _ => none)))))), (q6, .inr (6, [.ref q7, .int 400])), (q7, .inl (cy 3, 400, .inr (.inr (.inr (.inr (fun _ => none)))))), (q8, .inr (1, [.ref q2, .ref q9, .ref q11, .ref q13])), (q9, .inr (3, [.ref q10, .int 0])), (q10, .inl (cy 3, 80, .inr (.inr (.inr (.inr (fun _ => none)))))), (q11, .inr (3, [.ref q12, .int 0])), (q12, .inl (cy 3, 80, .inr (.inr (.inr (.inr (fun _ => none)))))), (q13, .inr (3, [.ref q14, .int 0])), (q14, .inl (cy 3, 80, .inr (.inr (.inr (.inr (fun _ => none)))))), (q15, .inr (0, [.ref q2, .ref q8, .ref q16, .ref q18, .int 0, .int 0, .int 0])), (q16, .inr (3, [.ref q17, .int 0])), (q17, .inl (cy 3, 80, .inr (.inr (.inr (.inr (fun _ => none)))))), (q18, .inr (3, [.ref q19, .int 0])), (q19, .inl (cy 3, 80, .inr (.inr (.inr (.inr (fun _ => none))))))] H := hP
  have hD : va_D A [(h0, .inr (7, [.ref q1, .ref q2, .ref q8, .ref q15, .int 0])), (q1, .inl (cy 2, 10, .inr (.inr (.inr (.inr (fun _ => none)))))), (q2, .inr (4, [.ref q3, .ref q4, .ref q5, .ref q6, .int 0, .int 0])), (q3, .inl (cy 3, 80, .inr (.inr (.inr (.inr (fun _ => none)))))), (q4, .inl (cy 0, 100, .inl (fun _ => 0))), (q5, .inl (cy 3, 20, .inr (.inr (.inr (.inr (fun _ => none)))))), (q6, .inr (6, [.ref q7, .int 400])), (q7, .inl (cy 3, 400, .inr (.inr (.inr (.inr (fun _ => none)))))), (q8, .inr (1, [.ref q2, .ref q9, .ref q11, .ref q13])), (q9, .inr (3, [.ref q10, .int 0])), (q10, .inl (cy 3, 80, .inr (.inr (.inr (.inr (fun _ => none)))))), (q11, .inr (3, [.ref q12, .int 0])), (q12, .inl (cy 3, 80, .inr (.inr (.inr (.inr (fun _ => none)))))), (q13, .inr (3, [.ref q14, .int 0])), (q14, .inl (cy 3, 80, .inr (.inr (.inr (.inr (fun _ => none)))))), (q15, .inr (0, [.ref q2, .ref q8, .ref q16, .ref q18, .int 0, .int 0, .int 0])), (q16, .inr (3, [.ref q17, .int 0])), (q17, .inl (cy 3, 80, .inr (.inr (.inr (.inr (fun _ => none)))))), (q18, .inr (3, [.ref q19, .int 0])), (q19, .inl (cy 3, 80, .inr (.inr (.inr (.inr (fun _ => none))))))] := hD
  exact W.vret hx hb hr (fun t ht hW => ⟨⟨(q1, q2, q3, q4, q5, q6, q7, q8, q9, q10, q11, q12, q13, q14, q15, q16, q17, q18, q19), rfl, trivial, by rw [ht]; exact hP, va_K.moved hW.alike hK, hD⟩, hS.F ht⟩) hS.2.2 dX7_init_58
theorem k_X2_init_1 : Cond.methodLink RX2 1 objectInit ∈ wsX2_init := List.mem_of_getElem? (i := 1) (by rfl)
theorem k_X2_init_2 : Cond.instanceMethod objectInit ∈ wsX2_init := List.mem_of_getElem? (i := 2) (by rfl)
theorem k_X2_init_3 : Cond.code objectInit ⟨#[0xb1]⟩ 1 none ∈ wsX2_init := List.mem_of_getElem? (i := 3) (by rfl)
theorem n_X2_init_X2 : ∀ w ∈ u_ws RX2 TX2 4, w ∈ wsX2_init := fun _ h => List.mem_cons_of_mem _ (List.mem_append_right _ h)
theorem k_X2_init_4 : Cond.fieldLink RX2 7 "RingHeap$Kind" "number" "I" ∈ wsX2_init := List.mem_of_getElem? (i := 4) (by rfl)
theorem k_X2_init_5 : Cond.fieldLink RX2 13 "RingHeap$Kind" "fields" "I" ∈ wsX2_init := List.mem_of_getElem? (i := 5) (by rfl)
theorem k_X2_init_6 : Cond.fieldLink RX2 16 "RingHeap$Kind" "size" "I" ∈ wsX2_init := List.mem_of_getElem? (i := 6) (by rfl)
theorem k_X2_init_7 : Cond.fieldLink RX2 19 "RingHeap$Kind" "wish" "Z" ∈ wsX2_init := List.mem_of_getElem? (i := 7) (by rfl)
set_option maxHeartbeats 4000000 in
set_option maxRecDepth 100000 in
theorem c_X2_init (l : Launch) (D : va_G) (cy : Nat → ClassId) (h0 : Nat) (p0 : Int32) (p1 : Int32) (p2 : Int32) (p3 : Int32) (sz : Nat) (hz : p3 = 0 ∨ p3 = 1) : Met l yX2_init wsX2_init ({ frames := 1, cells := 0, slots := 0, locals := 12 } : Room) (PcN D cy [(h0, .inr (2, [.int 0, .int 0, .int 0, .int 0]))] sz [.ref h0, .int p0, .int p1, .int p2, .int p3]) (QcN D cy (fun v : Unit => [(h0, .inr (2, [.int p0, .int p1, .int p2, .int p3]))]) (va_A [(h0, .inr (2, [.int 0, .int 0, .int 0, .int 0]))] sz)) 0 0 (va_A [(h0, .inr (2, [.int 0, .int 0, .int 0, .int 0]))] sz) := by
  refine Met.ofW (cc := cX2_init) (maxL := 5) (ret := none) (by decide) rfl ?_
  intro p e s m args below meth c s₁ B hml hv
  obtain ⟨rfl, hsz, hP, hK, hD0, hC⟩ := hv
  have hx := B.exec
  have hb := B.bytes
  have hr := B.returns
  have hts := atoms_spec (ws := wsX2_init) B.pre
  have hown : s.vm.findClass RX2 = some m.cls := findClass_of_methodNamed B.named
  have hlocks := B.notSynchronized
  have hin : meth.name = "<init>" := (name_of_methodNamed B.named B.method).1
  subst hsz
  have hD := hD0.self (sz := s.heap.size)
  generalize hAe : va_A [(h0, .inr (2, [.int 0, .int 0, .int 0, .int 0]))] s.heap.size = A at hD ⊢
  have hA : ∀ q : Nat, s.heap.size ≤ q → A q := fun q h => by rw [← hAe]; exact Or.inr h
  have hS : va_S A s.heap s.heap [] := va_S.rf
  have hl := lv_entry ([.ref h0, .int p0, .int p1, .int p2, .int p3]) (n := 5) (Nat.le_of_ble_eq_true rfl)
  rw [lg_entry_eq]
  generalize (lg_sl ([.ref h0, .int p0, .int p1, .int p2, .int p3]) ++ List.replicate (5 - (lg_sl ([.ref h0, .int p0, .int p1, .int p2, .int p3])).length) Slot.unset).toArray = ls at hl ⊢
  have hl : lv_has ls 5 [(0, .ref h0), (1, .int p0), (2, .int p1), (3, .int p2), (4, .int p3)] := hl
  refine lv_aload_n hx hb dX2_init_0 rfl (lv_at hl 0 rfl) ?_
  refine W.objInit hx hb hown (hts _ k_X2_init_1) (hts _ k_X2_init_2) (hts _ k_X2_init_3) rfl (by rw [hml]; exact hl.1) rfl dX2_init_1 (Nat.le_of_ble_eq_true rfl) (Nat.le_of_ble_eq_true rfl) ?_
  refine W.eq (g2 := F0 m 4 ls []) rfl ?_
  refine lv_aload_n hx hb dX2_init_4 rfl (lv_at hl 0 rfl) ?_
  refine lv_iload_n hx hb dX2_init_5 rfl (lv_at hl 1 rfl) ?_
  refine va_putF (D := D) (ci := 2) (v := .int p0) (ty := .int) (C := RX2) (T := TX2) (N := 4) hx hb hts n_X2_init_X2 tyX2 tyX2_ok nmX2 hown hK hP hD hS 0 rfl rfl 0 (by decide) (hts _ k_X2_init_4) (fun _ h9 => h9) rfl hin rfl (by decide +kernel) rfl rfl (Nat.le_of_ble_eq_true rfl) dX2_init_6 (fun H locs hP hD hS => ?_)
  have hP : va_P D vwCl [(h0, .inr (2, [.int p0, .int 0, .int 0, .int 0]))] H := hP
  have hD : va_D A [(h0, .inr (2, [.int p0, .int 0, .int 0, .int 0]))] := hD
  refine lv_aload_n hx hb dX2_init_9 rfl (lv_at hl 0 rfl) ?_
  refine lv_iload_n hx hb dX2_init_10 rfl (lv_at hl 2 rfl) ?_
  refine va_putF (D := D) (ci := 2) (v := .int p1) (ty := .int) (C := RX2) (T := TX2) (N := 4) hx hb hts n_X2_init_X2 tyX2 tyX2_ok nmX2 hown hK hP hD hS 0 rfl rfl 1 (by decide) (hts _ k_X2_init_5) (fun _ h9 => h9) rfl hin rfl (by decide +kernel) rfl rfl (Nat.le_of_ble_eq_true rfl) dX2_init_11 (fun H locs hP hD hS => ?_)
  have hP : va_P D vwCl [(h0, .inr (2, [.int p0, .int p1, .int 0, .int 0]))] H := hP
  have hD : va_D A [(h0, .inr (2, [.int p0, .int p1, .int 0, .int 0]))] := hD
  refine lv_aload_n hx hb dX2_init_14 rfl (lv_at hl 0 rfl) ?_
  refine lv_iload_n hx hb dX2_init_15 rfl (lv_at hl 3 rfl) ?_
  refine va_putF (D := D) (ci := 2) (v := .int p2) (ty := .int) (C := RX2) (T := TX2) (N := 4) hx hb hts n_X2_init_X2 tyX2 tyX2_ok nmX2 hown hK hP hD hS 0 rfl rfl 2 (by decide) (hts _ k_X2_init_6) (fun _ h9 => h9) rfl hin rfl (by decide +kernel) rfl rfl (Nat.le_of_ble_eq_true rfl) dX2_init_16 (fun H locs hP hD hS => ?_)
  have hP : va_P D vwCl [(h0, .inr (2, [.int p0, .int p1, .int p2, .int 0]))] H := hP
  have hD : va_D A [(h0, .inr (2, [.int p0, .int p1, .int p2, .int 0]))] := hD
  refine lv_aload_n hx hb dX2_init_19 rfl (lv_at hl 0 rfl) ?_
  refine lv_iload hx hb dX2_init_20 (lv_at hl 4 rfl) ?_
  refine va_putF (D := D) (ci := 2) (v := .int p3) (ty := .boolean) (C := RX2) (T := TX2) (N := 4) hx hb hts n_X2_init_X2 tyX2 tyX2_ok nmX2 hown hK hP hD hS 0 rfl rfl 3 (by decide) (hts _ k_X2_init_7) (fun _ h9 => h9) rfl hin rfl (by decide +kernel) (zn_of hz) (zf_of hz) (Nat.le_of_ble_eq_true rfl) dX2_init_22 (fun H locs hP hD hS => ?_)
  have hP : va_P D vwCl [(h0, .inr (2, [.int p0, .int p1, .int p2, .int p3]))] H := hP
  have hD : va_D A [(h0, .inr (2, [.int p0, .int p1, .int p2, .int p3]))] := hD
  exact W.vret hx hb hr (fun t ht hW => ⟨⟨(), rfl, trivial, by rw [ht]; exact hP, va_K.moved hW.alike hK, hD⟩, hS.F ht⟩) hS.2.2 dX2_init_25
theorem k_X5_init_1 : Cond.methodLink RX5 3 objectInit ∈ wsX5_init := List.mem_of_getElem? (i := 1) (by rfl)
theorem k_X5_init_2 : Cond.instanceMethod objectInit ∈ wsX5_init := List.mem_of_getElem? (i := 2) (by rfl)
theorem k_X5_init_3 : Cond.code objectInit ⟨#[0xb1]⟩ 1 none ∈ wsX5_init := List.mem_of_getElem? (i := 3) (by rfl)
theorem n_X5_init_X5 : ∀ w ∈ u_ws RX5 TX5 11, w ∈ wsX5_init := fun _ h => List.mem_cons_of_mem _ (List.mem_append_left _ (List.mem_append_right _ h))
theorem k_X5_init_4 : Cond.fieldLink RX5 9 "RingHeap$Thing" "count" "I" ∈ wsX5_init := List.mem_of_getElem? (i := 4) (by rfl)
theorem k_X5_init_5 : Cond.fieldLink RX5 15 "RingHeap$Thing" "hands" "I" ∈ wsX5_init := List.mem_of_getElem? (i := 5) (by rfl)
theorem k_X5_init_6 : Cond.fieldLink RX5 18 "RingHeap$Thing" "number" "I" ∈ wsX5_init := List.mem_of_getElem? (i := 6) (by rfl)
theorem k_X5_init_7 : Cond.fieldLink RX5 21 "RingHeap$Thing" "kind" "LRingHeap$Kind;" ∈ wsX5_init := List.mem_of_getElem? (i := 7) (by rfl)
theorem k_X5_init_8 : Cond.classLink RX5 10 RX5 ∈ wsX5_init := List.mem_of_getElem? (i := 8) (by rfl)
theorem k_X5_init_9 : Cond.fieldLink RX5 25 "RingHeap$Thing" "held" "[LRingHeap$Thing;" ∈ wsX5_init := List.mem_of_getElem? (i := 9) (by rfl)
theorem n_X5_init_X2 : ∀ w ∈ u_ws RX2 TX2 4, w ∈ wsX5_init := fun _ h => List.mem_cons_of_mem _ (List.mem_append_right _ h)
theorem k_X5_init_10 : Cond.fieldLink RX5 29 "RingHeap$Kind" "fields" "I" ∈ wsX5_init := List.mem_of_getElem? (i := 10) (by rfl)
theorem k_X5_init_11 : Cond.fieldLink RX5 34 "RingHeap$Thing" "colour" "I" ∈ wsX5_init := List.mem_of_getElem? (i := 11) (by rfl)
theorem k_X5_init_12 : Cond.fieldLink RX5 37 "RingHeap$Kind" "wish" "Z" ∈ wsX5_init := List.mem_of_getElem? (i := 12) (by rfl)
theorem k_X5_init_13 : Cond.fieldLink RX5 41 "RingHeap$Thing" "wishUntold" "Z" ∈ wsX5_init := List.mem_of_getElem? (i := 13) (by rfl)
set_option maxHeartbeats 4000000 in
set_option maxRecDepth 100000 in
theorem c_X5_init (l : Launch) (D : va_G) (cy : Nat → ClassId) (h0 hk : Nat) (p0 k0 k1 k2 k3 : Int32) (sz : Nat) (hz : k3 = 0 ∨ k3 = 1) : Met l yX5_init wsX5_init ({ frames := 1, cells := 1, slots := 6, locals := 12 } : Room) (PcN D cy [(h0, .inr (5, [.int 0, .null, .null, .int 0, .int 0, .int 0, .int 0, .int 0, .int 0, .int 0, .int 0])), (hk, .inr (2, [.int k0, .int k1, .int k2, .int k3]))] sz [.ref h0, .int p0, .ref hk]) (QcN D cy (fun v : Nat => [(h0, .inr (5, [.int p0, .ref hk, .ref v, .int 1, .int 1, .int (if k1 = 0 then 4 else 0), .int 0, .int 0, .int 0, .int k3, .int 0])), (hk, .inr (2, [.int k0, .int k1, .int k2, .int k3])), (v, .inl (cy 3, 6, .inr (.inr (.inr (.inr (fun _ => none))))))]) (va_A [(h0, .inr (5, [.int 0, .null, .null, .int 0, .int 0, .int 0, .int 0, .int 0, .int 0, .int 0, .int 0])), (hk, .inr (2, [.int k0, .int k1, .int k2, .int k3]))] sz)) 1 6 (va_A [(h0, .inr (5, [.int 0, .null, .null, .int 0, .int 0, .int 0, .int 0, .int 0, .int 0, .int 0, .int 0])), (hk, .inr (2, [.int k0, .int k1, .int k2, .int k3]))] sz) := by
  refine Met.ofW (cc := cX5_init) (maxL := 3) (ret := none) (by decide) rfl ?_
  intro p e s m args below meth c s₁ B hml hv
  obtain ⟨rfl, hsz, hP, hK, hD0, hC⟩ := hv
  have hx := B.exec
  have hb := B.bytes
  have hr := B.returns
  have hts := atoms_spec (ws := wsX5_init) B.pre
  have hown : s.vm.findClass RX5 = some m.cls := findClass_of_methodNamed B.named
  have hlocks := B.notSynchronized
  have hin : meth.name = "<init>" := (name_of_methodNamed B.named B.method).1
  subst hsz
  have hD := hD0.self (sz := s.heap.size)
  generalize hAe : va_A [(h0, .inr (5, [.int 0, .null, .null, .int 0, .int 0, .int 0, .int 0, .int 0, .int 0, .int 0, .int 0])), (hk, .inr (2, [.int k0, .int k1, .int k2, .int k3]))] s.heap.size = A at hD ⊢
  have hA : ∀ q : Nat, s.heap.size ≤ q → A q := fun q h => by rw [← hAe]; exact Or.inr h
  have hS : va_S A s.heap s.heap [] := va_S.rf
  have hl := lv_entry ([.ref h0, .int p0, .ref hk]) (n := 3) (Nat.le_of_ble_eq_true rfl)
  rw [lg_entry_eq]
  generalize (lg_sl ([.ref h0, .int p0, .ref hk]) ++ List.replicate (3 - (lg_sl ([.ref h0, .int p0, .ref hk])).length) Slot.unset).toArray = ls at hl ⊢
  have hl : lv_has ls 3 [(0, .ref h0), (1, .int p0), (2, .ref hk)] := hl
  refine lv_aload_n hx hb dX5_init_0 rfl (lv_at hl 0 rfl) ?_
  refine W.objInit hx hb hown (hts _ k_X5_init_1) (hts _ k_X5_init_2) (hts _ k_X5_init_3) rfl (by rw [hml]; exact hl.1) rfl dX5_init_1 (Nat.le_of_ble_eq_true rfl) (Nat.le_of_ble_eq_true rfl) ?_
  refine W.eq (g2 := F0 m 4 ls []) rfl ?_
  refine lv_aload_n hx hb dX5_init_4 rfl (lv_at hl 0 rfl) ?_
  refine lv_iconst (v := 1) hx hb dX5_init_5 (by decide) ?_
  refine va_put (D := D) (ci := 5) (v := .int 1) (ty := .int) (C := RX5) (T := TX5) (N := 11) hx hb hts n_X5_init_X5 tyX5 tyX5_ok nmX5 hown hK hP hD hS 0 rfl rfl 3 (by decide) (hts _ k_X5_init_4) (fun _ h9 => h9) rfl (by decide +kernel) rfl rfl (Nat.le_of_ble_eq_true rfl) dX5_init_6 (fun H locs hP hD hS => ?_)
  have hP : va_P D vwCl [(h0, .inr (5, [.int 0, .null, .null, .int 1, .int 0, .int 0, .int 0, .int 0, .int 0, .int 0, .int 0])), (hk, .inr (2, [.int k0, .int k1, .int k2, .int k3]))] H := hP
  have hD : va_D A [(h0, .inr (5, [.int 0, .null, .null, .int 1, .int 0, .int 0, .int 0, .int 0, .int 0, .int 0, .int 0])), (hk, .inr (2, [.int k0, .int k1, .int k2, .int k3]))] := hD
  refine lv_aload_n hx hb dX5_init_9 rfl (lv_at hl 0 rfl) ?_
  refine lv_iconst (v := 1) hx hb dX5_init_10 (by decide) ?_
  refine va_put (D := D) (ci := 5) (v := .int 1) (ty := .int) (C := RX5) (T := TX5) (N := 11) hx hb hts n_X5_init_X5 tyX5 tyX5_ok nmX5 hown hK hP hD hS 0 rfl rfl 4 (by decide) (hts _ k_X5_init_5) (fun _ h9 => h9) rfl (by decide +kernel) rfl rfl (Nat.le_of_ble_eq_true rfl) dX5_init_11 (fun H locs hP hD hS => ?_)
  have hP : va_P D vwCl [(h0, .inr (5, [.int 0, .null, .null, .int 1, .int 1, .int 0, .int 0, .int 0, .int 0, .int 0, .int 0])), (hk, .inr (2, [.int k0, .int k1, .int k2, .int k3]))] H := hP
  have hD : va_D A [(h0, .inr (5, [.int 0, .null, .null, .int 1, .int 1, .int 0, .int 0, .int 0, .int 0, .int 0, .int 0])), (hk, .inr (2, [.int k0, .int k1, .int k2, .int k3]))] := hD
  refine lv_aload_n hx hb dX5_init_14 rfl (lv_at hl 0 rfl) ?_
  refine lv_iload_n hx hb dX5_init_15 rfl (lv_at hl 1 rfl) ?_
  refine va_putF (D := D) (ci := 5) (v := .int p0) (ty := .int) (C := RX5) (T := TX5) (N := 11) hx hb hts n_X5_init_X5 tyX5 tyX5_ok nmX5 hown hK hP hD hS 0 rfl rfl 0 (by decide) (hts _ k_X5_init_6) (fun _ h9 => h9) rfl hin rfl (by decide +kernel) rfl rfl (Nat.le_of_ble_eq_true rfl) dX5_init_16 (fun H locs hP hD hS => ?_)
  have hP : va_P D vwCl [(h0, .inr (5, [.int p0, .null, .null, .int 1, .int 1, .int 0, .int 0, .int 0, .int 0, .int 0, .int 0])), (hk, .inr (2, [.int k0, .int k1, .int k2, .int k3]))] H := hP
  have hD : va_D A [(h0, .inr (5, [.int p0, .null, .null, .int 1, .int 1, .int 0, .int 0, .int 0, .int 0, .int 0, .int 0])), (hk, .inr (2, [.int k0, .int k1, .int k2, .int k3]))] := hD
  refine lv_aload_n hx hb dX5_init_19 rfl (lv_at hl 0 rfl) ?_
  refine lv_aload_n hx hb dX5_init_20 rfl (lv_at hl 2 rfl) ?_
  refine va_putF (D := D) (ci := 5) (v := .ref hk) (ty := .object "RingHeap$Kind") (C := RX5) (T := TX5) (N := 11) hx hb hts n_X5_init_X5 tyX5 tyX5_ok nmX5 hown hK hP hD hS 0 rfl rfl 1 (by decide) (hts _ k_X5_init_7) (fun _ h9 => h9) rfl hin rfl (by decide +kernel) rfl rfl (Nat.le_of_ble_eq_true rfl) dX5_init_21 (fun H locs hP hD hS => ?_)
  have hP : va_P D vwCl [(h0, .inr (5, [.int p0, .ref hk, .null, .int 1, .int 1, .int 0, .int 0, .int 0, .int 0, .int 0, .int 0])), (hk, .inr (2, [.int k0, .int k1, .int k2, .int k3]))] H := hP
  have hD : va_D A [(h0, .inr (5, [.int p0, .ref hk, .null, .int 1, .int 1, .int 0, .int 0, .int 0, .int 0, .int 0, .int 0])), (hk, .inr (2, [.int k0, .int k1, .int k2, .int k3]))] := hD
  refine lv_aload_n hx hb dX5_init_24 rfl (lv_at hl 0 rfl) ?_
  refine lv_bipush (v := 6) hx hb dX5_init_25 (by decide) ?_
  refine va_newq hx hb hown (hts _ k_X5_init_8) hC.1 hK hP hD hS hA (N' := 6) (by decide) (by decide) (Nat.le_of_ble_eq_true rfl) (Nat.le_of_ble_eq_true rfl) (Nat.le_of_ble_eq_true rfl) dX5_init_27 (fun q1 cA H hK2 hP hD hS => ?_)
  obtain rfl := cn_eq3 hK2
  have hP : va_P D vwCl [(h0, .inr (5, [.int p0, .ref hk, .null, .int 1, .int 1, .int 0, .int 0, .int 0, .int 0, .int 0, .int 0])), (hk, .inr (2, [.int k0, .int k1, .int k2, .int k3])), (q1, .inl (cy 3, 6, .inr (.inr (.inr (.inr (fun _ => none))))))] H := hP
  have hD : va_D A [(h0, .inr (5, [.int p0, .ref hk, .null, .int 1, .int 1, .int 0, .int 0, .int 0, .int 0, .int 0, .int 0])), (hk, .inr (2, [.int k0, .int k1, .int k2, .int k3])), (q1, .inl (cy 3, 6, .inr (.inr (.inr (.inr (fun _ => none))))))] := hD
  refine W.widen (k := 1) (n := 6) (Nat.le_of_ble_eq_true rfl) (Nat.le_of_ble_eq_true rfl) ?_
  refine va_putF (D := D) (ci := 5) (v := .ref q1) (ty := .array (.object "RingHeap$Thing")) (C := RX5) (T := TX5) (N := 11) hx hb hts n_X5_init_X5 tyX5 tyX5_ok nmX5 hown hK hP hD hS 0 rfl rfl 2 (by decide) (hts _ k_X5_init_9) (fun _ h9 => h9) rfl hin rfl (by decide +kernel) rfl rfl (Nat.le_of_ble_eq_true rfl) dX5_init_30 (fun H locs hP hD hS => ?_)
  have hP : va_P D vwCl [(h0, .inr (5, [.int p0, .ref hk, .ref q1, .int 1, .int 1, .int 0, .int 0, .int 0, .int 0, .int 0, .int 0])), (hk, .inr (2, [.int k0, .int k1, .int k2, .int k3])), (q1, .inl (cy 3, 6, .inr (.inr (.inr (.inr (fun _ => none))))))] H := hP
  have hD : va_D A [(h0, .inr (5, [.int p0, .ref hk, .ref q1, .int 1, .int 1, .int 0, .int 0, .int 0, .int 0, .int 0, .int 0])), (hk, .inr (2, [.int k0, .int k1, .int k2, .int k3])), (q1, .inl (cy 3, 6, .inr (.inr (.inr (.inr (fun _ => none))))))] := hD
  refine lv_aload_n hx hb dX5_init_33 rfl (lv_at hl 0 rfl) ?_
  refine lv_aload_n hx hb dX5_init_34 rfl (lv_at hl 2 rfl) ?_
  refine va_get (D := D) (ci := 2) (v := .int k1) (C := RX2) (T := TX2) (N := 4) hx hb hts n_X5_init_X2 hown hK hP 1 rfl rfl 1 (by decide) (hts _ k_X5_init_10) (fun _ h9 => h9) rfl dX5_init_35 ?_
  refine lv_if_ne (tgt := 45) hx hb dX5_init_38 (by decide) (fun hc => ?_) (fun hc => ?_)
  · refine lv_iconst (v := 0) hx hb dX5_init_45 (by decide) ?_
    refine va_put (D := D) (ci := 5) (v := .int 0) (ty := .int) (C := RX5) (T := TX5) (N := 11) hx hb hts n_X5_init_X5 tyX5 tyX5_ok nmX5 hown hK hP hD hS 0 rfl rfl 5 (by decide) (hts _ k_X5_init_11) (fun _ h9 => h9) rfl (by decide +kernel) rfl rfl (Nat.le_of_ble_eq_true rfl) dX5_init_46 (fun H locs hP hD hS => ?_)
    have hP : va_P D vwCl [(h0, .inr (5, [.int p0, .ref hk, .ref q1, .int 1, .int 1, .int 0, .int 0, .int 0, .int 0, .int 0, .int 0])), (hk, .inr (2, [.int k0, .int k1, .int k2, .int k3])), (q1, .inl (cy 3, 6, .inr (.inr (.inr (.inr (fun _ => none))))))] H := hP
    have hD : va_D A [(h0, .inr (5, [.int p0, .ref hk, .ref q1, .int 1, .int 1, .int 0, .int 0, .int 0, .int 0, .int 0, .int 0])), (hk, .inr (2, [.int k0, .int k1, .int k2, .int k3])), (q1, .inl (cy 3, 6, .inr (.inr (.inr (.inr (fun _ => none))))))] := hD
    refine lv_aload_n hx hb dX5_init_49 rfl (lv_at hl 0 rfl) ?_
    refine lv_aload_n hx hb dX5_init_50 rfl (lv_at hl 2 rfl) ?_
    refine va_get (D := D) (ci := 2) (v := .int k3) (C := RX2) (T := TX2) (N := 4) hx hb hts n_X5_init_X2 hown hK hP 1 rfl rfl 3 (by decide) (hts _ k_X5_init_12) (fun _ h9 => h9) rfl dX5_init_51 ?_
    refine va_put (D := D) (ci := 5) (v := .int k3) (ty := .boolean) (C := RX5) (T := TX5) (N := 11) hx hb hts n_X5_init_X5 tyX5 tyX5_ok nmX5 hown hK hP hD hS 0 rfl rfl 9 (by decide) (hts _ k_X5_init_13) (fun _ h9 => h9) rfl (by decide +kernel) (zn_of hz) (zf_of hz) (Nat.le_of_ble_eq_true rfl) dX5_init_54 (fun H locs hP hD hS => ?_)
    have hP : va_P D vwCl [(h0, .inr (5, [.int p0, .ref hk, .ref q1, .int 1, .int 1, .int 0, .int 0, .int 0, .int 0, .int k3, .int 0])), (hk, .inr (2, [.int k0, .int k1, .int k2, .int k3])), (q1, .inl (cy 3, 6, .inr (.inr (.inr (.inr (fun _ => none))))))] H := hP
    have hD : va_D A [(h0, .inr (5, [.int p0, .ref hk, .ref q1, .int 1, .int 1, .int 0, .int 0, .int 0, .int 0, .int k3, .int 0])), (hk, .inr (2, [.int k0, .int k1, .int k2, .int k3])), (q1, .inl (cy 3, 6, .inr (.inr (.inr (.inr (fun _ => none))))))] := hD
    have hP : va_P D vwCl [(h0, .inr (5, [.int p0, .ref hk, .ref q1, .int 1, .int 1, .int (if k1 = 0 then 4 else 0), .int 0, .int 0, .int 0, .int k3, .int 0])), (hk, .inr (2, [.int k0, .int k1, .int k2, .int k3])), (q1, .inl (cy 3, 6, .inr (.inr (.inr (.inr (fun _ => none))))))] H := by rw [if_neg hc]; exact hP
    have hD : va_D A [(h0, .inr (5, [.int p0, .ref hk, .ref q1, .int 1, .int 1, .int (if k1 = 0 then 4 else 0), .int 0, .int 0, .int 0, .int k3, .int 0])), (hk, .inr (2, [.int k0, .int k1, .int k2, .int k3])), (q1, .inl (cy 3, 6, .inr (.inr (.inr (.inr (fun _ => none))))))] := by rw [if_neg hc]; exact hD
    exact W.vret hx hb hr (fun t ht hW => ⟨⟨q1, rfl, trivial, by rw [ht]; exact hP, va_K.moved hW.alike hK, hD⟩, hS.F ht⟩) hS.2.2 dX5_init_57
  · refine lv_iconst (v := 4) hx hb dX5_init_41 (by decide) ?_
    refine lv_goto (tgt := 46) hx hb dX5_init_42 (by decide) ?_
    refine va_put (D := D) (ci := 5) (v := .int 4) (ty := .int) (C := RX5) (T := TX5) (N := 11) hx hb hts n_X5_init_X5 tyX5 tyX5_ok nmX5 hown hK hP hD hS 0 rfl rfl 5 (by decide) (hts _ k_X5_init_11) (fun _ h9 => h9) rfl (by decide +kernel) rfl rfl (Nat.le_of_ble_eq_true rfl) dX5_init_46 (fun H locs hP hD hS => ?_)
    have hP : va_P D vwCl [(h0, .inr (5, [.int p0, .ref hk, .ref q1, .int 1, .int 1, .int 4, .int 0, .int 0, .int 0, .int 0, .int 0])), (hk, .inr (2, [.int k0, .int k1, .int k2, .int k3])), (q1, .inl (cy 3, 6, .inr (.inr (.inr (.inr (fun _ => none))))))] H := hP
    have hD : va_D A [(h0, .inr (5, [.int p0, .ref hk, .ref q1, .int 1, .int 1, .int 4, .int 0, .int 0, .int 0, .int 0, .int 0])), (hk, .inr (2, [.int k0, .int k1, .int k2, .int k3])), (q1, .inl (cy 3, 6, .inr (.inr (.inr (.inr (fun _ => none))))))] := hD
    refine lv_aload_n hx hb dX5_init_49 rfl (lv_at hl 0 rfl) ?_
    refine lv_aload_n hx hb dX5_init_50 rfl (lv_at hl 2 rfl) ?_
    refine va_get (D := D) (ci := 2) (v := .int k3) (C := RX2) (T := TX2) (N := 4) hx hb hts n_X5_init_X2 hown hK hP 1 rfl rfl 3 (by decide) (hts _ k_X5_init_12) (fun _ h9 => h9) rfl dX5_init_51 ?_
    refine va_put (D := D) (ci := 5) (v := .int k3) (ty := .boolean) (C := RX5) (T := TX5) (N := 11) hx hb hts n_X5_init_X5 tyX5 tyX5_ok nmX5 hown hK hP hD hS 0 rfl rfl 9 (by decide) (hts _ k_X5_init_13) (fun _ h9 => h9) rfl (by decide +kernel) (zn_of hz) (zf_of hz) (Nat.le_of_ble_eq_true rfl) dX5_init_54 (fun H locs hP hD hS => ?_)
    have hP : va_P D vwCl [(h0, .inr (5, [.int p0, .ref hk, .ref q1, .int 1, .int 1, .int 4, .int 0, .int 0, .int 0, .int k3, .int 0])), (hk, .inr (2, [.int k0, .int k1, .int k2, .int k3])), (q1, .inl (cy 3, 6, .inr (.inr (.inr (.inr (fun _ => none))))))] H := hP
    have hD : va_D A [(h0, .inr (5, [.int p0, .ref hk, .ref q1, .int 1, .int 1, .int 4, .int 0, .int 0, .int 0, .int k3, .int 0])), (hk, .inr (2, [.int k0, .int k1, .int k2, .int k3])), (q1, .inl (cy 3, 6, .inr (.inr (.inr (.inr (fun _ => none))))))] := hD
    have hP : va_P D vwCl [(h0, .inr (5, [.int p0, .ref hk, .ref q1, .int 1, .int 1, .int (if k1 = 0 then 4 else 0), .int 0, .int 0, .int 0, .int k3, .int 0])), (hk, .inr (2, [.int k0, .int k1, .int k2, .int k3])), (q1, .inl (cy 3, 6, .inr (.inr (.inr (.inr (fun _ => none))))))] H := by rw [if_pos hc]; exact hP
    have hD : va_D A [(h0, .inr (5, [.int p0, .ref hk, .ref q1, .int 1, .int 1, .int (if k1 = 0 then 4 else 0), .int 0, .int 0, .int 0, .int k3, .int 0])), (hk, .inr (2, [.int k0, .int k1, .int k2, .int k3])), (q1, .inl (cy 3, 6, .inr (.inr (.inr (.inr (fun _ => none))))))] := by rw [if_pos hc]; exact hD
    exact W.vret hx hb hr (fun t ht hW => ⟨⟨q1, rfl, trivial, by rw [ht]; exact hP, va_K.moved hW.alike hK, hD⟩, hS.F ht⟩) hS.2.2 dX5_init_57

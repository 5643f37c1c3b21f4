theorem k_X0_turnBlack_1 : Cond.fieldLink RX0 78 "RingHeap$Thing" "colour" "I" ∈ wsX0_turnBlack := List.mem_of_getElem? (i := 1) (by rfl)
theorem n_X0_turnBlack_X5 : ∀ w ∈ u_ws RX5 TX5 11, w ∈ wsX0_turnBlack := fun _ h => List.mem_cons_of_mem _ (List.mem_append_left _ (List.mem_append_left _ (List.mem_append_right _ h)))
theorem k_X0_turnBlack_2 : Cond.fieldLink RX0 119 "RingHeap$Collector" "blackened" "I" ∈ wsX0_turnBlack := List.mem_of_getElem? (i := 2) (by rfl)
theorem n_X0_turnBlack_X0 : ∀ w ∈ u_ws RX0 TX0 7, w ∈ wsX0_turnBlack := fun _ h => List.mem_cons_of_mem _ (List.mem_append_left _ (List.mem_append_right _ h))
theorem k_X0_turnBlack_3 : Cond.fieldLink RX0 18 "RingHeap$Collector" "darkened" "LRingHeap$Row;" ∈ wsX0_turnBlack := List.mem_of_getElem? (i := 3) (by rfl)
def f_X0_turnBlack (N : Nat) (p0 : Nat) (u : Mm) : Option (Mm) :=
  pt (u.1 p0 5) (fun x1 => if x1 = 0 then (some u) else (pt (sI u p0 5 0) (fun u => pt (u.1 55 6) (fun x2 => pt (sI u 55 6 (x2 + 1)) (fun u => bv (f_X3_append N 58 p0 u) (fun u => some u))))))
set_option maxHeartbeats 4000000 in
set_option maxRecDepth 100000 in
theorem c_X0_turnBlack (l : Launch) (D : va_G) (cy : Nat → ClassId) (L : List Nat) (ad : Nat → Nat) (N : Nat) (p0 : Nat) (u : Mm) (o : Mm) (h_this : vn L 0 55) (h_p0 : vn L 5 p0) (h : f_X0_turnBlack N p0 u = some o) : MtV l yX0_turnBlack wsX0_turnBlack ({ frames := 1, cells := 0, slots := 0, locals := 21 } : Room) D cy L ad [.ref (ad 55), .ref (ad p0)] u o := by
  intro sz
  refine Met.ofW (cc := cX0_turnBlack) (maxL := 2) (ret := none) (by decide) rfl ?_
  intro p e s m args below meth c s₁ B hml hv
  obtain ⟨rfl, hsz, hP, hK, hD0, hok⟩ := hv
  have hx := B.exec
  have hb := B.bytes
  have hr := B.returns
  have hts := atoms_spec (ws := wsX0_turnBlack) B.pre
  have hown : s.vm.findClass RX0 = some m.cls := findClass_of_methodNamed B.named
  have hlocks := B.notSynchronized
  subst hsz
  have hw := wd_start hP hD0 hok
  have hA : ∀ q : Nat, s.heap.size ≤ q → va_A (wl cy L ad u) s.heap.size q := fun q h => Or.inr h
  generalize va_A (wl cy L ad u) s.heap.size = A at hw hA ⊢
  have C0 : Cx p m meth c cX0_turnBlack none 2 s _ wsX0_turnBlack RX0 D cy := ⟨hx, hb, hr, hml, hown, hts, hlocks, hK⟩
  have hl := lv_entry ([.ref (ad 55), .ref (ad p0)]) (n := 2) (Nat.le_of_ble_eq_true rfl)
  rw [lg_entry_eq]
  generalize (lg_sl ([.ref (ad 55), .ref (ad p0)]) ++ List.replicate (2 - (lg_sl ([.ref (ad 55), .ref (ad p0)])).length) Slot.unset).toArray = ls at hl ⊢
  have hl : lv_has ls 2 [(0, .ref (ad 55)), (1, .ref (ad p0))] := hl
  unfold f_X0_turnBlack at h
  refine lv_aload_n hx hb dX0_turnBlack_0 rfl (lv_at hl 1 rfl) ?_
  refine r_getI hx hb hts n_X0_turnBlack_X5 hown hK hw h_p0 (by decide) rfl 5 (by decide) rfl (hts _ k_X0_turnBlack_1) (fun _ q => q) dX0_turnBlack_1 h (fun x1 h => ?_)
  refine lv_if_eq (tgt := 30) hx hb dX0_turnBlack_4 (by decide) (fun hc => ?_) (fun hc => ?_)
  · rw [if_pos hc] at h
    exact r_vret hx hb hr hlocks hK hw h dX0_turnBlack_30
  · rw [if_neg hc] at h
    refine lv_aload_n hx hb dX0_turnBlack_7 rfl (lv_at hl 1 rfl) ?_
    refine lv_iconst (v := 0) hx hb dX0_turnBlack_8 (by decide) ?_
    refine r_putI (ty := .int) hx hb hts n_X0_turnBlack_X5 tyX5 tyX5_ok nmX5 hown hK hw h_p0 (by decide) rfl 5 (by decide) rfl (hts _ k_X0_turnBlack_1) (fun _ q => q) rfl rfl rfl rfl dX0_turnBlack_9 h (fun u H locs hw h => ?_)
    refine lv_aload_n hx hb dX0_turnBlack_12 rfl (lv_at hl 0 rfl) ?_
    refine lv_dup hx hb dX0_turnBlack_13 rfl ?_
    refine r_getI hx hb hts n_X0_turnBlack_X0 hown hK hw h_this (by decide) rfl 6 (by decide) rfl (hts _ k_X0_turnBlack_2) (fun _ q => q) dX0_turnBlack_14 h (fun x2 h => ?_)
    refine lv_iconst (v := 1) hx hb dX0_turnBlack_17 (by decide) ?_
    refine lv_iadd hx hb dX0_turnBlack_18 ?_
    refine r_putI (ty := .int) hx hb hts n_X0_turnBlack_X0 tyX0 tyX0_ok nmX0 hown hK hw h_this (by decide) rfl 6 (by decide) rfl (hts _ k_X0_turnBlack_2) (fun _ q => q) rfl rfl rfl rfl dX0_turnBlack_19 h (fun u H locs hw h => ?_)
    refine lv_aload_n hx hb dX0_turnBlack_22 rfl (lv_at hl 0 rfl) ?_
    refine r_getC (t2 := 3) (d := 58) hx hb hts n_X0_turnBlack_X0 hown hK hw h_this (by decide) rfl 3 (by decide) rfl rfl (hts _ k_X0_turnBlack_3) (fun _ q => q) dX0_turnBlack_23 (fun hv3 => ?_)
    refine lv_aload_n hx hb dX0_turnBlack_26 rfl (lv_at hl 1 rfl) ?_
    refine r_bV (fun o ho => r_vV (As := [.ref (ad p0)]) (rest := []) ⟨hx, hb, hml, hown, hts⟩ (c_X3_append l D cy L ad N 58 p0 u o hv3 h_p0 ho) (cwV 1 hts gX0_turnBlack_X3_append rfl rfl rfl (by decide +kernel) ⟨Nat.le_of_ble_eq_true rfl, Nat.le_of_ble_eq_true rfl⟩) hw hK hv3 (by decide) rfl rfl hl.1 rfl (Nat.le_of_ble_eq_true rfl) dX0_turnBlack_27 ⟨Nat.zero_le _, Nat.zero_le _⟩) hw hA h (fun u H locs hw h => ?_)
    exact r_vret hx hb hr hlocks hK hw h dX0_turnBlack_30
theorem k_X0_blackenFrom_1 : Cond.fieldLink RX0 18 "RingHeap$Collector" "darkened" "LRingHeap$Row;" ∈ wsX0_blackenFrom := List.mem_of_getElem? (i := 1) (by rfl)
theorem n_X0_blackenFrom_X0 : ∀ w ∈ u_ws RX0 TX0 7, w ∈ wsX0_blackenFrom := fun _ h => List.mem_cons_of_mem _ (List.mem_append_left _ (List.mem_append_left _ (List.mem_append_right _ h)))
theorem k_X0_blackenFrom_2 : Cond.fieldLink RX0 58 "RingHeap$Row" "length" "I" ∈ wsX0_blackenFrom := List.mem_of_getElem? (i := 2) (by rfl)
theorem n_X0_blackenFrom_X3 : ∀ w ∈ u_ws RX3 TX3 2, w ∈ wsX0_blackenFrom := fun _ h => List.mem_cons_of_mem _ (List.mem_append_left _ (List.mem_append_right _ h))
theorem k_X0_blackenFrom_3 : Cond.fieldLink RX0 90 "RingHeap$Thing" "held" "[LRingHeap$Thing;" ∈ wsX0_blackenFrom := List.mem_of_getElem? (i := 3) (by rfl)
theorem n_X0_blackenFrom_X5 : ∀ w ∈ u_ws RX5 TX5 11, w ∈ wsX0_blackenFrom := fun _ h => List.mem_cons_of_mem _ (List.mem_append_right _ h)
theorem k_X0_blackenFrom_4 : Cond.fieldLink RX0 98 "RingHeap$Thing" "count" "I" ∈ wsX0_blackenFrom := List.mem_of_getElem? (i := 4) (by rfl)
def f_X0_blackenFrom_111 (N : Nat) (p0 : Nat) (K14 : Int32 → Mm → Option (Mm)) (v2 : Int32) (u : Mm) : Option (Mm) :=
  K14 (v2 + 1) u
set_option maxHeartbeats 4000000 in
set_option maxRecDepth 100000 in
theorem j_X0_blackenFrom_111 {p : Program} {l : Launch} {e : Env} {s : State} {m : MethodId} {args : Array Value} {below : List Frame} {meth : Method} {c : Code} {D : va_G} {cy : Nat → ClassId} {L : List Nat} {ad : Nat → Nat} {A : Nat → Prop} {o : Mm} (N : Nat) (p0 : Nat) (h_p0 : vn L 5 p0) (C0 : Cx p m meth c cX0_blackenFrom none 8 s args wsX0_blackenFrom RX0 D cy) (hA : ∀ q : Nat, s.heap.size ≤ q → A q) (K14 : Int32 → Mm → Option (Mm)) (hK14 : ∀ (v2 : Int32) (u : Mm) (H : Heap) (locs : List Loc) (ls : Array Slot), vn L 0 55 → Wd D cy L ad A s.heap u H locs → lv_has ls 8 [(0, .ref (ad 55)), (2, .int v2)] → K14 v2 u = some o → W p l e ({ frames := 2, cells := 0, slots := 0, locals := 42 } : Room) s m args below meth c H locs 0 0 (MQ below (QcV D cy L ad A o) args s 0 0 A) (F0 m 14 ls [])) : ∀ (v2 : Int32) (u : Mm) (H : Heap) (locs : List Loc) (ls : Array Slot), vn L 0 55 → Wd D cy L ad A s.heap u H locs → lv_has ls 8 [(0, .ref (ad 55)), (2, .int v2)] → f_X0_blackenFrom_111 N p0 K14 v2 u = some o → W p l e ({ frames := 2, cells := 0, slots := 0, locals := 42 } : Room) s m args below meth c H locs 0 0 (MQ below (QcV D cy L ad A o) args s 0 0 A) (F0 m 111 ls []) := by
  obtain ⟨hx, hb, hr, hml, hown, hts, hlocks, hK⟩ := id C0
  intro v2 u H locs ls hv_t0 hw hl h
  unfold f_X0_blackenFrom_111 at h
  refine lv_iinc (v := v2 + 1) (lv' := [(2, .int (v2 + 1)), (0, .ref (ad 55))]) hx hb dX0_blackenFrom_111 hl (k := 1) rfl rfl (by decide) rfl (fun ls hl => ?_)
  refine lv_goto (tgt := 14) hx hb dX0_blackenFrom_114 (by decide) ?_
  exact hK14 (v2 + 1) u _ _ _ hv_t0 hw (lv_sub hl [1, 0] rfl) h
def f_X0_blackenFrom_105 (N : Nat) (p0 : Nat) (K14 : Int32 → Mm → Option (Mm)) (K61 : Int32 → Nat → Int32 → Int32 → Mm → Option (Mm)) (v2 : Int32) (t4 : Nat) (v5 : Int32) (v6 : Int32) (u : Mm) : Option (Mm) :=
  K61 v2 t4 v5 (v6 + 1) u
set_option maxHeartbeats 4000000 in
set_option maxRecDepth 100000 in
theorem j_X0_blackenFrom_105 {p : Program} {l : Launch} {e : Env} {s : State} {m : MethodId} {args : Array Value} {below : List Frame} {meth : Method} {c : Code} {D : va_G} {cy : Nat → ClassId} {L : List Nat} {ad : Nat → Nat} {A : Nat → Prop} {o : Mm} (N : Nat) (p0 : Nat) (h_p0 : vn L 5 p0) (C0 : Cx p m meth c cX0_blackenFrom none 8 s args wsX0_blackenFrom RX0 D cy) (hA : ∀ q : Nat, s.heap.size ≤ q → A q) (K14 : Int32 → Mm → Option (Mm)) (hK14 : ∀ (v2 : Int32) (u : Mm) (H : Heap) (locs : List Loc) (ls : Array Slot), vn L 0 55 → Wd D cy L ad A s.heap u H locs → lv_has ls 8 [(0, .ref (ad 55)), (2, .int v2)] → K14 v2 u = some o → W p l e ({ frames := 2, cells := 0, slots := 0, locals := 42 } : Room) s m args below meth c H locs 0 0 (MQ below (QcV D cy L ad A o) args s 0 0 A) (F0 m 14 ls [])) (K61 : Int32 → Nat → Int32 → Int32 → Mm → Option (Mm)) (hK61 : ∀ (v2 : Int32) (t4 : Nat) (v5 : Int32) (v6 : Int32) (u : Mm) (H : Heap) (locs : List Loc) (ls : Array Slot), vn L 0 55 → vn L 12 t4 → Wd D cy L ad A s.heap u H locs → lv_has ls 8 [(0, .ref (ad 55)), (2, .int v2), (4, .ref (ad t4)), (5, .int v5), (6, .int v6)] → K61 v2 t4 v5 v6 u = some o → W p l e ({ frames := 2, cells := 0, slots := 0, locals := 42 } : Room) s m args below meth c H locs 0 0 (MQ below (QcV D cy L ad A o) args s 0 0 A) (F0 m 61 ls [])) : ∀ (v2 : Int32) (t4 : Nat) (v5 : Int32) (v6 : Int32) (u : Mm) (H : Heap) (locs : List Loc) (ls : Array Slot), vn L 0 55 → vn L 12 t4 → Wd D cy L ad A s.heap u H locs → lv_has ls 8 [(0, .ref (ad 55)), (2, .int v2), (4, .ref (ad t4)), (5, .int v5), (6, .int v6)] → f_X0_blackenFrom_105 N p0 K14 K61 v2 t4 v5 v6 u = some o → W p l e ({ frames := 2, cells := 0, slots := 0, locals := 42 } : Room) s m args below meth c H locs 0 0 (MQ below (QcV D cy L ad A o) args s 0 0 A) (F0 m 105 ls []) := by
  obtain ⟨hx, hb, hr, hml, hown, hts, hlocks, hK⟩ := id C0
  intro v2 t4 v5 v6 u H locs ls hv_t0 hv_t4 hw hl h
  unfold f_X0_blackenFrom_105 at h
  refine lv_iinc (v := v6 + 1) (lv' := [(6, .int (v6 + 1)), (0, .ref (ad 55)), (2, .int v2), (4, .ref (ad t4)), (5, .int v5)]) hx hb dX0_blackenFrom_105 hl (k := 4) rfl rfl (by decide) rfl (fun ls hl => ?_)
  refine lv_goto (tgt := 61) hx hb dX0_blackenFrom_108 (by decide) ?_
  exact hK61 v2 t4 v5 (v6 + 1) u _ _ _ hv_t0 hv_t4 hw (lv_sub hl [1, 2, 3, 4, 0] rfl) h
def g_X0_blackenFrom_61 (N : Nat) (p0 : Nat) (K14 : Int32 → Mm → Option (Mm)) (K61 : Int32 → Nat → Int32 → Int32 → Mm → Option (Mm)) (v2 : Int32) (t4 : Nat) (v5 : Int32) (v6 : Int32) (u : Mm) : Option (Mm) :=
  if v5 ≤ v6 then (f_X0_blackenFrom_111 N p0 K14 v2 u) else (ck (bI v6 (ln t4)) (pt (u.2 t4 (ix v6)) (fun r9 => nl r9 (f_X0_blackenFrom_105 N p0 K14 K61 v2 t4 v5 v6 u) (fun t10 => bd (f_X5_isGreen N t10 u) (fun x12 u => if x12 = 0 then (pt (u.1 t10 3) (fun x13 => pt (sI u t10 3 (x13 + 1)) (fun u => bv (f_X0_turnBlack N t10 u) (fun u => f_X0_blackenFrom_105 N p0 K14 K61 v2 t4 v5 v6 u)))) else (f_X0_blackenFrom_105 N p0 K14 K61 v2 t4 v5 v6 u))))))
def f_X0_blackenFrom_61 (N : Nat) (p0 : Nat) (K14 : Int32 → Mm → Option (Mm)) : Nat → Int32 → Nat → Int32 → Int32 → Mm → Option (Mm)
  | 0 => fun _ _ _ _ _ => none
  | n + 1 => g_X0_blackenFrom_61 N p0 K14 (f_X0_blackenFrom_61 N p0 K14 n)
set_option maxHeartbeats 4000000 in
set_option maxRecDepth 100000 in
theorem jg_X0_blackenFrom_61 {p : Program} {l : Launch} {e : Env} {s : State} {m : MethodId} {args : Array Value} {below : List Frame} {meth : Method} {c : Code} {D : va_G} {cy : Nat → ClassId} {L : List Nat} {ad : Nat → Nat} {A : Nat → Prop} {o : Mm} (N : Nat) (p0 : Nat) (h_p0 : vn L 5 p0) (C0 : Cx p m meth c cX0_blackenFrom none 8 s args wsX0_blackenFrom RX0 D cy) (hA : ∀ q : Nat, s.heap.size ≤ q → A q) (K14 : Int32 → Mm → Option (Mm)) (hK14 : ∀ (v2 : Int32) (u : Mm) (H : Heap) (locs : List Loc) (ls : Array Slot), vn L 0 55 → Wd D cy L ad A s.heap u H locs → lv_has ls 8 [(0, .ref (ad 55)), (2, .int v2)] → K14 v2 u = some o → W p l e ({ frames := 2, cells := 0, slots := 0, locals := 42 } : Room) s m args below meth c H locs 0 0 (MQ below (QcV D cy L ad A o) args s 0 0 A) (F0 m 14 ls [])) (K61 : Int32 → Nat → Int32 → Int32 → Mm → Option (Mm)) (hK61 : ∀ (v2 : Int32) (t4 : Nat) (v5 : Int32) (v6 : Int32) (u : Mm) (H : Heap) (locs : List Loc) (ls : Array Slot), vn L 0 55 → vn L 12 t4 → Wd D cy L ad A s.heap u H locs → lv_has ls 8 [(0, .ref (ad 55)), (2, .int v2), (4, .ref (ad t4)), (5, .int v5), (6, .int v6)] → K61 v2 t4 v5 v6 u = some o → W p l e ({ frames := 2, cells := 0, slots := 0, locals := 42 } : Room) s m args below meth c H locs 0 0 (MQ below (QcV D cy L ad A o) args s 0 0 A) (F0 m 61 ls [])) : ∀ (v2 : Int32) (t4 : Nat) (v5 : Int32) (v6 : Int32) (u : Mm) (H : Heap) (locs : List Loc) (ls : Array Slot), vn L 0 55 → vn L 12 t4 → Wd D cy L ad A s.heap u H locs → lv_has ls 8 [(0, .ref (ad 55)), (2, .int v2), (4, .ref (ad t4)), (5, .int v5), (6, .int v6)] → g_X0_blackenFrom_61 N p0 K14 K61 v2 t4 v5 v6 u = some o → W p l e ({ frames := 2, cells := 0, slots := 0, locals := 42 } : Room) s m args below meth c H locs 0 0 (MQ below (QcV D cy L ad A o) args s 0 0 A) (F0 m 61 ls []) := by
  obtain ⟨hx, hb, hr, hml, hown, hts, hlocks, hK⟩ := id C0
  intro v2 t4 v5 v6 u H locs ls hv_t0 hv_t4 hw hl h
  unfold g_X0_blackenFrom_61 at h
  refine lv_iload hx hb dX0_blackenFrom_61 (lv_at hl 4 rfl) ?_
  refine lv_iload hx hb dX0_blackenFrom_63 (lv_at hl 3 rfl) ?_
  refine lv_icmp_ge (tgt := 111) hx hb dX0_blackenFrom_65 (by decide) (fun hc => ?_) (fun hc => ?_)
  · rw [if_pos hc] at h
    exact j_X0_blackenFrom_111 N p0 h_p0 C0 hA K14 hK14 v2 u _ _ _ hv_t0 hw (lv_sub hl [0, 1] rfl) h
  · rw [if_neg hc] at h
    refine lv_aload hx hb dX0_blackenFrom_68 (lv_at hl 2 rfl) ?_
    refine lv_iload hx hb dX0_blackenFrom_70 (lv_at hl 4 rfl) ?_
    refine r_tald (n := (ln t4)) hx hb hK hw hv_t4 rfl dX0_blackenFrom_72 h (fun r9 hv_r9 h => ?_)
    refine r_astore (lv' := [(7, va_re ad r9), (0, .ref (ad 55)), (2, .int v2), (4, .ref (ad t4)), (5, .int v5), (6, .int v6)]) hx hb dX0_blackenFrom_73 hl (by decide) rfl (fun ls hl => ?_)
    refine r_aload hx hb dX0_blackenFrom_75 (lv_at hl 0 rfl) ?_
    refine r_ifnull (tgt := 105) hx hb hv_r9 dX0_blackenFrom_77 (by decide) h (fun e11 h9 => ?_) (fun t10 e11 hv_t10 h9 => ?_)
    · clear h
      subst e11
      have h := h9
      have hl : lv_has ls 8 [(7, va_re ad none), (0, .ref (ad 55)), (2, .int v2), (4, .ref (ad t4)), (5, .int v5), (6, .int v6)] := hl
      exact j_X0_blackenFrom_105 N p0 h_p0 C0 hA K14 hK14 K61 hK61 v2 t4 v5 v6 u _ _ _ hv_t0 hv_t4 hw (lv_sub hl [1, 2, 3, 4, 5] rfl) h
    · clear h
      subst e11
      have h := h9
      have hl : lv_has ls 8 [(7, .ref (ad t10)), (0, .ref (ad 55)), (2, .int v2), (4, .ref (ad t4)), (5, .int v5), (6, .int v6)] := hl
      refine lv_aload hx hb dX0_blackenFrom_80 (lv_at hl 0 rfl) ?_
      refine r_bI (fun o ho => r_vI (As := []) (rest := []) ⟨hx, hb, hml, hown, hts⟩ (c_X5_isGreen l D cy L ad N t10 u o hv_t10 ho) (cwV 0 hts gX0_blackenFrom_X5_isGreen rfl rfl rfl (by decide +kernel) ⟨Nat.le_of_ble_eq_true rfl, Nat.le_of_ble_eq_true rfl⟩) hw hK hv_t10 (by decide) rfl rfl hl.1 rfl (Nat.le_of_ble_eq_true rfl) dX0_blackenFrom_82 ⟨Nat.zero_le _, Nat.zero_le _⟩) hw hA h (fun x12 u H locs hw h => ?_)
      refine lv_if_ne (tgt := 105) hx hb dX0_blackenFrom_85 (by decide) (fun hc => ?_) (fun hc => ?_)
      · rw [if_neg hc] at h
        exact j_X0_blackenFrom_105 N p0 h_p0 C0 hA K14 hK14 K61 hK61 v2 t4 v5 v6 u _ _ _ hv_t0 hv_t4 hw (lv_sub hl [1, 2, 3, 4, 5] rfl) h
      · rw [if_pos hc] at h
        refine lv_aload hx hb dX0_blackenFrom_88 (lv_at hl 0 rfl) ?_
        refine lv_dup hx hb dX0_blackenFrom_90 rfl ?_
        refine r_getI hx hb hts n_X0_blackenFrom_X5 hown hK hw hv_t10 (by decide) rfl 3 (by decide) rfl (hts _ k_X0_blackenFrom_4) (fun _ q => q) dX0_blackenFrom_91 h (fun x13 h => ?_)
        refine lv_iconst (v := 1) hx hb dX0_blackenFrom_94 (by decide) ?_
        refine lv_iadd hx hb dX0_blackenFrom_95 ?_
        refine r_putI (ty := .int) hx hb hts n_X0_blackenFrom_X5 tyX5 tyX5_ok nmX5 hown hK hw hv_t10 (by decide) rfl 3 (by decide) rfl (hts _ k_X0_blackenFrom_4) (fun _ q => q) rfl rfl rfl rfl dX0_blackenFrom_96 h (fun u H locs hw h => ?_)
        refine lv_aload_n hx hb dX0_blackenFrom_99 rfl (lv_at hl 1 rfl) ?_
        refine lv_aload hx hb dX0_blackenFrom_100 (lv_at hl 0 rfl) ?_
        refine r_bV (fun o ho => r_vV (As := [.ref (ad t10)]) (rest := []) ⟨hx, hb, hml, hown, hts⟩ (c_X0_turnBlack l D cy L ad N t10 u o hv_t0 hv_t10 ho) (cwV 1 hts gX0_blackenFrom_X0_turnBlack rfl rfl rfl (by decide +kernel) ⟨Nat.le_of_ble_eq_true rfl, Nat.le_of_ble_eq_true rfl⟩) hw hK hv_t0 (by decide) rfl rfl hl.1 rfl (Nat.le_of_ble_eq_true rfl) dX0_blackenFrom_102 ⟨Nat.zero_le _, Nat.zero_le _⟩) hw hA h (fun u H locs hw h => ?_)
        exact j_X0_blackenFrom_105 N p0 h_p0 C0 hA K14 hK14 K61 hK61 v2 t4 v5 v6 u _ _ _ hv_t0 hv_t4 hw (lv_sub hl [1, 2, 3, 4, 5] rfl) h
set_option maxHeartbeats 4000000 in
set_option maxRecDepth 100000 in
theorem j_X0_blackenFrom_61 {p : Program} {l : Launch} {e : Env} {s : State} {m : MethodId} {args : Array Value} {below : List Frame} {meth : Method} {c : Code} {D : va_G} {cy : Nat → ClassId} {L : List Nat} {ad : Nat → Nat} {A : Nat → Prop} {o : Mm} (N : Nat) (p0 : Nat) (h_p0 : vn L 5 p0) (C0 : Cx p m meth c cX0_blackenFrom none 8 s args wsX0_blackenFrom RX0 D cy) (hA : ∀ q : Nat, s.heap.size ≤ q → A q) (K14 : Int32 → Mm → Option (Mm)) (hK14 : ∀ (v2 : Int32) (u : Mm) (H : Heap) (locs : List Loc) (ls : Array Slot), vn L 0 55 → Wd D cy L ad A s.heap u H locs → lv_has ls 8 [(0, .ref (ad 55)), (2, .int v2)] → K14 v2 u = some o → W p l e ({ frames := 2, cells := 0, slots := 0, locals := 42 } : Room) s m args below meth c H locs 0 0 (MQ below (QcV D cy L ad A o) args s 0 0 A) (F0 m 14 ls [])) : ∀ (n : Nat), ∀ (v2 : Int32) (t4 : Nat) (v5 : Int32) (v6 : Int32) (u : Mm) (H : Heap) (locs : List Loc) (ls : Array Slot), vn L 0 55 → vn L 12 t4 → Wd D cy L ad A s.heap u H locs → lv_has ls 8 [(0, .ref (ad 55)), (2, .int v2), (4, .ref (ad t4)), (5, .int v5), (6, .int v6)] → f_X0_blackenFrom_61 N p0 K14 n v2 t4 v5 v6 u = some o → W p l e ({ frames := 2, cells := 0, slots := 0, locals := 42 } : Room) s m args below meth c H locs 0 0 (MQ below (QcV D cy L ad A o) args s 0 0 A) (F0 m 61 ls []) := by
  intro n
  induction n with
  | zero =>
    intro v2 t4 v5 v6 u H locs ls hv_t0 hv_t4 hw hl h
    cases h
  | succ n ih => exact jg_X0_blackenFrom_61 N p0 h_p0 C0 hA K14 hK14 _ ih
def g_X0_blackenFrom_14 (N : Nat) (p0 : Nat) (K14 : Int32 → Mm → Option (Mm)) (v2 : Int32) (u : Mm) : Option (Mm) :=
  if 80 ≤ v2 then (some u) else (pt (u.1 58 1) (fun x3 => if x3 ≤ v2 then (some u) else (bd (f_X3_item N 58 v2 u) (fun r5 u => nl r5 (f_X0_blackenFrom_111 N p0 K14 v2 u) (fun t6 => f_X0_blackenFrom_61 N p0 K14 N v2 (t6 + 1) 6 0 u)))))
def f_X0_blackenFrom_14 (N : Nat) (p0 : Nat)  : Nat → Int32 → Mm → Option (Mm)
  | 0 => fun _ _ => none
  | n + 1 => g_X0_blackenFrom_14 N p0  (f_X0_blackenFrom_14 N p0  n)
set_option maxHeartbeats 4000000 in
set_option maxRecDepth 100000 in
theorem jg_X0_blackenFrom_14 {p : Program} {l : Launch} {e : Env} {s : State} {m : MethodId} {args : Array Value} {below : List Frame} {meth : Method} {c : Code} {D : va_G} {cy : Nat → ClassId} {L : List Nat} {ad : Nat → Nat} {A : Nat → Prop} {o : Mm} (N : Nat) (p0 : Nat) (h_p0 : vn L 5 p0) (C0 : Cx p m meth c cX0_blackenFrom none 8 s args wsX0_blackenFrom RX0 D cy) (hA : ∀ q : Nat, s.heap.size ≤ q → A q)  (K14 : Int32 → Mm → Option (Mm)) (hK14 : ∀ (v2 : Int32) (u : Mm) (H : Heap) (locs : List Loc) (ls : Array Slot), vn L 0 55 → Wd D cy L ad A s.heap u H locs → lv_has ls 8 [(0, .ref (ad 55)), (2, .int v2)] → K14 v2 u = some o → W p l e ({ frames := 2, cells := 0, slots := 0, locals := 42 } : Room) s m args below meth c H locs 0 0 (MQ below (QcV D cy L ad A o) args s 0 0 A) (F0 m 14 ls [])) : ∀ (v2 : Int32) (u : Mm) (H : Heap) (locs : List Loc) (ls : Array Slot), vn L 0 55 → Wd D cy L ad A s.heap u H locs → lv_has ls 8 [(0, .ref (ad 55)), (2, .int v2)] → g_X0_blackenFrom_14 N p0  K14 v2 u = some o → W p l e ({ frames := 2, cells := 0, slots := 0, locals := 42 } : Room) s m args below meth c H locs 0 0 (MQ below (QcV D cy L ad A o) args s 0 0 A) (F0 m 14 ls []) := by
  obtain ⟨hx, hb, hr, hml, hown, hts, hlocks, hK⟩ := id C0
  intro v2 u H locs ls hv_t0 hw hl h
  unfold g_X0_blackenFrom_14 at h
  refine lv_iload_n hx hb dX0_blackenFrom_14 rfl (lv_at hl 1 rfl) ?_
  refine lv_bipush (v := 80) hx hb dX0_blackenFrom_15 (by decide) ?_
  refine lv_icmp_ge (tgt := 117) hx hb dX0_blackenFrom_17 (by decide) (fun hc => ?_) (fun hc => ?_)
  · rw [if_pos hc] at h
    exact r_vret hx hb hr hlocks hK hw h dX0_blackenFrom_117
  · rw [if_neg hc] at h
    refine lv_iload_n hx hb dX0_blackenFrom_20 rfl (lv_at hl 1 rfl) ?_
    refine lv_aload_n hx hb dX0_blackenFrom_21 rfl (lv_at hl 0 rfl) ?_
    refine r_getC (t2 := 3) (d := 58) hx hb hts n_X0_blackenFrom_X0 hown hK hw hv_t0 (by decide) rfl 3 (by decide) rfl rfl (hts _ k_X0_blackenFrom_1) (fun _ q => q) dX0_blackenFrom_22 (fun hv2 => ?_)
    refine r_getI hx hb hts n_X0_blackenFrom_X3 hown hK hw hv2 (by decide) rfl 1 (by decide) rfl (hts _ k_X0_blackenFrom_2) (fun _ q => q) dX0_blackenFrom_25 h (fun x3 h => ?_)
    refine lv_icmp_ge (tgt := 117) hx hb dX0_blackenFrom_28 (by decide) (fun hc => ?_) (fun hc => ?_)
    · rw [if_pos hc] at h
      exact r_vret hx hb hr hlocks hK hw h dX0_blackenFrom_117
    · rw [if_neg hc] at h
      refine lv_aload_n hx hb dX0_blackenFrom_31 rfl (lv_at hl 0 rfl) ?_
      refine r_getC (t2 := 3) (d := 58) hx hb hts n_X0_blackenFrom_X0 hown hK hw hv_t0 (by decide) rfl 3 (by decide) rfl rfl (hts _ k_X0_blackenFrom_1) (fun _ q => q) dX0_blackenFrom_32 (fun hv4 => ?_)
      refine lv_iload_n hx hb dX0_blackenFrom_35 rfl (lv_at hl 1 rfl) ?_
      refine r_bQ (fun o ho => r_vQ (As := [.int v2]) (rest := []) ⟨hx, hb, hml, hown, hts⟩ (c_X3_item l D cy L ad N 58 v2 u o hv4 ho) (cwV 1 hts gX0_blackenFrom_X3_item rfl rfl rfl (by decide +kernel) ⟨Nat.le_of_ble_eq_true rfl, Nat.le_of_ble_eq_true rfl⟩) hw hK hv4 (by decide) rfl rfl hl.1 rfl (Nat.le_of_ble_eq_true rfl) dX0_blackenFrom_36 ⟨Nat.zero_le _, Nat.zero_le _⟩) hw hA h (fun r5 u H locs hw hv_r5 h => ?_)
      refine r_astoren (lv' := [(3, va_re ad r5), (0, .ref (ad 55)), (2, .int v2)]) hx hb dX0_blackenFrom_39 rfl hl (by decide) rfl (fun ls hl => ?_)
      refine r_aloadn hx hb dX0_blackenFrom_40 rfl (lv_at hl 0 rfl) ?_
      refine r_ifnonnull (tgt := 47) hx hb hv_r5 dX0_blackenFrom_41 (by decide) h (fun e7 h9 => ?_) (fun t6 e7 hv_t6 h9 => ?_)
      · clear h
        subst e7
        have h := h9
        have hl : lv_has ls 8 [(3, va_re ad none), (0, .ref (ad 55)), (2, .int v2)] := hl
        refine lv_goto (tgt := 111) hx hb dX0_blackenFrom_44 (by decide) ?_
        exact j_X0_blackenFrom_111 N p0 h_p0 C0 hA K14 hK14 v2 u _ _ _ hv_t0 hw (lv_sub hl [1, 2] rfl) h
      · clear h
        subst e7
        have h := h9
        have hl : lv_has ls 8 [(3, .ref (ad t6)), (0, .ref (ad 55)), (2, .int v2)] := hl
        refine lv_aload_n hx hb dX0_blackenFrom_47 rfl (lv_at hl 0 rfl) ?_
        refine r_getC (t2 := 12) (d := (t6 + 1)) hx hb hts n_X0_blackenFrom_X5 hown hK hw hv_t6 (by decide) rfl 2 (by decide) rfl (cst5 hv_t6.2) (hts _ k_X0_blackenFrom_3) (fun _ q => q) dX0_blackenFrom_48 (fun hv8 => ?_)
        refine lv_astore (lv' := [(4, .ref (ad (t6 + 1))), (3, .ref (ad t6)), (0, .ref (ad 55)), (2, .int v2)]) hx hb dX0_blackenFrom_51 hl (by decide) rfl (fun ls hl => ?_)
        refine lv_aload hx hb dX0_blackenFrom_53 (lv_at hl 0 rfl) ?_
        refine r_alen (n := 6) (v := 6) hx hb hK hw hv8 (by decide) (ln5s hv_t6.2) rfl dX0_blackenFrom_55 ?_
        refine lv_istore (lv' := [(5, .int 6), (4, .ref (ad (t6 + 1))), (3, .ref (ad t6)), (0, .ref (ad 55)), (2, .int v2)]) hx hb dX0_blackenFrom_56 hl (by decide) rfl (fun ls hl => ?_)
        refine lv_iconst (v := 0) hx hb dX0_blackenFrom_58 (by decide) ?_
        refine lv_istore (lv' := [(6, .int 0), (5, .int 6), (4, .ref (ad (t6 + 1))), (3, .ref (ad t6)), (0, .ref (ad 55)), (2, .int v2)]) hx hb dX0_blackenFrom_59 hl (by decide) rfl (fun ls hl => ?_)
        exact j_X0_blackenFrom_61 N p0 h_p0 C0 hA K14 hK14 N v2 (t6 + 1) 6 0 u _ _ _ hv_t0 hv8 hw (lv_sub hl [4, 5, 2, 1, 0] rfl) h
set_option maxHeartbeats 4000000 in
set_option maxRecDepth 100000 in
theorem j_X0_blackenFrom_14 {p : Program} {l : Launch} {e : Env} {s : State} {m : MethodId} {args : Array Value} {below : List Frame} {meth : Method} {c : Code} {D : va_G} {cy : Nat → ClassId} {L : List Nat} {ad : Nat → Nat} {A : Nat → Prop} {o : Mm} (N : Nat) (p0 : Nat) (h_p0 : vn L 5 p0) (C0 : Cx p m meth c cX0_blackenFrom none 8 s args wsX0_blackenFrom RX0 D cy) (hA : ∀ q : Nat, s.heap.size ≤ q → A q)  : ∀ (n : Nat), ∀ (v2 : Int32) (u : Mm) (H : Heap) (locs : List Loc) (ls : Array Slot), vn L 0 55 → Wd D cy L ad A s.heap u H locs → lv_has ls 8 [(0, .ref (ad 55)), (2, .int v2)] → f_X0_blackenFrom_14 N p0  n v2 u = some o → W p l e ({ frames := 2, cells := 0, slots := 0, locals := 42 } : Room) s m args below meth c H locs 0 0 (MQ below (QcV D cy L ad A o) args s 0 0 A) (F0 m 14 ls []) := by
  intro n
  induction n with
  | zero =>
    intro v2 u H locs ls hv_t0 hw hl h
    cases h
  | succ n ih => exact jg_X0_blackenFrom_14 N p0 h_p0 C0 hA  _ ih
def f_X0_blackenFrom (N : Nat) (p0 : Nat) (u : Mm) : Option (Mm) :=
  bv (f_X3_clear N 58 u) (fun u => bv (f_X0_turnBlack N p0 u) (fun u => f_X0_blackenFrom_14 N p0 N 0 u))
set_option maxHeartbeats 4000000 in
set_option maxRecDepth 100000 in
theorem c_X0_blackenFrom (l : Launch) (D : va_G) (cy : Nat → ClassId) (L : List Nat) (ad : Nat → Nat) (N : Nat) (p0 : Nat) (u : Mm) (o : Mm) (h_this : vn L 0 55) (h_p0 : vn L 5 p0) (h : f_X0_blackenFrom N p0 u = some o) : MtV l yX0_blackenFrom wsX0_blackenFrom ({ frames := 2, cells := 0, slots := 0, locals := 42 } : Room) D cy L ad [.ref (ad 55), .ref (ad p0)] u o := by
  intro sz
  refine Met.ofW (cc := cX0_blackenFrom) (maxL := 8) (ret := none) (by decide) rfl ?_
  intro p e s m args below meth c s₁ B hml hv
  obtain ⟨rfl, hsz, hP, hK, hD0, hok⟩ := hv
  have hx := B.exec
  have hb := B.bytes
  have hr := B.returns
  have hts := atoms_spec (ws := wsX0_blackenFrom) B.pre
  have hown : s.vm.findClass RX0 = some m.cls := findClass_of_methodNamed B.named
  have hlocks := B.notSynchronized
  subst hsz
  have hw := wd_start hP hD0 hok
  have hA : ∀ q : Nat, s.heap.size ≤ q → va_A (wl cy L ad u) s.heap.size q := fun q h => Or.inr h
  generalize va_A (wl cy L ad u) s.heap.size = A at hw hA ⊢
  have C0 : Cx p m meth c cX0_blackenFrom none 8 s _ wsX0_blackenFrom RX0 D cy := ⟨hx, hb, hr, hml, hown, hts, hlocks, hK⟩
  have hl := lv_entry ([.ref (ad 55), .ref (ad p0)]) (n := 8) (Nat.le_of_ble_eq_true rfl)
  rw [lg_entry_eq]
  generalize (lg_sl ([.ref (ad 55), .ref (ad p0)]) ++ List.replicate (8 - (lg_sl ([.ref (ad 55), .ref (ad p0)])).length) Slot.unset).toArray = ls at hl ⊢
  have hl : lv_has ls 8 [(0, .ref (ad 55)), (1, .ref (ad p0))] := hl
  unfold f_X0_blackenFrom at h
  refine lv_aload_n hx hb dX0_blackenFrom_0 rfl (lv_at hl 0 rfl) ?_
  refine r_getC (t2 := 3) (d := 58) hx hb hts n_X0_blackenFrom_X0 hown hK hw h_this (by decide) rfl 3 (by decide) rfl rfl (hts _ k_X0_blackenFrom_1) (fun _ q => q) dX0_blackenFrom_1 (fun hv1 => ?_)
  refine r_bV (fun o ho => r_vV (As := []) (rest := []) ⟨hx, hb, hml, hown, hts⟩ (c_X3_clear l D cy L ad N 58 u o hv1 ho) (cwV 0 hts gX0_blackenFrom_X3_clear rfl rfl rfl (by decide +kernel) ⟨Nat.le_of_ble_eq_true rfl, Nat.le_of_ble_eq_true rfl⟩) hw hK hv1 (by decide) rfl rfl hl.1 rfl (Nat.le_of_ble_eq_true rfl) dX0_blackenFrom_4 ⟨Nat.zero_le _, Nat.zero_le _⟩) hw hA h (fun u H locs hw h => ?_)
  refine lv_aload_n hx hb dX0_blackenFrom_7 rfl (lv_at hl 0 rfl) ?_
  refine lv_aload_n hx hb dX0_blackenFrom_8 rfl (lv_at hl 1 rfl) ?_
  refine r_bV (fun o ho => r_vV (As := [.ref (ad p0)]) (rest := []) ⟨hx, hb, hml, hown, hts⟩ (c_X0_turnBlack l D cy L ad N p0 u o h_this h_p0 ho) (cwV 1 hts gX0_blackenFrom_X0_turnBlack rfl rfl rfl (by decide +kernel) ⟨Nat.le_of_ble_eq_true rfl, Nat.le_of_ble_eq_true rfl⟩) hw hK h_this (by decide) rfl rfl hl.1 rfl (Nat.le_of_ble_eq_true rfl) dX0_blackenFrom_9 ⟨Nat.zero_le _, Nat.zero_le _⟩) hw hA h (fun u H locs hw h => ?_)
  refine lv_iconst (v := 0) hx hb dX0_blackenFrom_12 (by decide) ?_
  refine lv_istore_n (lv' := [(2, .int 0), (0, .ref (ad 55)), (1, .ref (ad p0))]) hx hb dX0_blackenFrom_13 rfl hl (by decide) rfl (fun ls hl => ?_)
  exact j_X0_blackenFrom_14 N p0 h_p0 C0 hA N 0 u _ _ _ h_this hw (lv_sub hl [1, 0] rfl) h
theorem k_X0_turnGray_1 : Cond.fieldLink RX0 78 "RingHeap$Thing" "colour" "I" ∈ wsX0_turnGray := List.mem_of_getElem? (i := 1) (by rfl)
theorem n_X0_turnGray_X5 : ∀ w ∈ u_ws RX5 TX5 11, w ∈ wsX0_turnGray := fun _ h => List.mem_cons_of_mem _ (List.mem_append_left _ (List.mem_append_left _ (List.mem_append_right _ h)))
theorem k_X0_turnGray_2 : Cond.fieldLink RX0 101 "RingHeap$Collector" "grayed" "I" ∈ wsX0_turnGray := List.mem_of_getElem? (i := 2) (by rfl)
theorem n_X0_turnGray_X0 : ∀ w ∈ u_ws RX0 TX0 7, w ∈ wsX0_turnGray := fun _ h => List.mem_cons_of_mem _ (List.mem_append_left _ (List.mem_append_right _ h))
theorem k_X0_turnGray_3 : Cond.fieldLink RX0 12 "RingHeap$Collector" "reached" "LRingHeap$Row;" ∈ wsX0_turnGray := List.mem_of_getElem? (i := 3) (by rfl)
def f_X0_turnGray (N : Nat) (p0 : Nat) (u : Mm) : Option (Mm) :=
  pt (u.1 p0 5) (fun x1 => if x1 = 1 then (some u) else (bd (f_X5_isGreen N p0 u) (fun x2 u => if x2 = 0 then (pt (sI u p0 5 1) (fun u => pt (u.1 55 5) (fun x3 => pt (sI u 55 5 (x3 + 1)) (fun u => bv (f_X3_append N 56 p0 u) (fun u => some u))))) else (some u))))
set_option maxHeartbeats 4000000 in
set_option maxRecDepth 100000 in
theorem c_X0_turnGray (l : Launch) (D : va_G) (cy : Nat → ClassId) (L : List Nat) (ad : Nat → Nat) (N : Nat) (p0 : Nat) (u : Mm) (o : Mm) (h_this : vn L 0 55) (h_p0 : vn L 5 p0) (h : f_X0_turnGray N p0 u = some o) : MtV l yX0_turnGray wsX0_turnGray ({ frames := 1, cells := 0, slots := 0, locals := 21 } : Room) D cy L ad [.ref (ad 55), .ref (ad p0)] u o := by
  intro sz
  refine Met.ofW (cc := cX0_turnGray) (maxL := 2) (ret := none) (by decide) rfl ?_
  intro p e s m args below meth c s₁ B hml hv
  obtain ⟨rfl, hsz, hP, hK, hD0, hok⟩ := hv
  have hx := B.exec
  have hb := B.bytes
  have hr := B.returns
  have hts := atoms_spec (ws := wsX0_turnGray) B.pre
  have hown : s.vm.findClass RX0 = some m.cls := findClass_of_methodNamed B.named
  have hlocks := B.notSynchronized
  subst hsz
  have hw := wd_start hP hD0 hok
  have hA : ∀ q : Nat, s.heap.size ≤ q → va_A (wl cy L ad u) s.heap.size q := fun q h => Or.inr h
  generalize va_A (wl cy L ad u) s.heap.size = A at hw hA ⊢
  have C0 : Cx p m meth c cX0_turnGray none 2 s _ wsX0_turnGray RX0 D cy := ⟨hx, hb, hr, hml, hown, hts, hlocks, hK⟩
  have hl := lv_entry ([.ref (ad 55), .ref (ad p0)]) (n := 2) (Nat.le_of_ble_eq_true rfl)
  rw [lg_entry_eq]
  generalize (lg_sl ([.ref (ad 55), .ref (ad p0)]) ++ List.replicate (2 - (lg_sl ([.ref (ad 55), .ref (ad p0)])).length) Slot.unset).toArray = ls at hl ⊢
  have hl : lv_has ls 2 [(0, .ref (ad 55)), (1, .ref (ad p0))] := hl
  unfold f_X0_turnGray at h
  refine lv_aload_n hx hb dX0_turnGray_0 rfl (lv_at hl 1 rfl) ?_
  refine r_getI hx hb hts n_X0_turnGray_X5 hown hK hw h_p0 (by decide) rfl 5 (by decide) rfl (hts _ k_X0_turnGray_1) (fun _ q => q) dX0_turnGray_1 h (fun x1 h => ?_)
  refine lv_iconst (v := 1) hx hb dX0_turnGray_4 (by decide) ?_
  refine lv_icmp_eq (tgt := 38) hx hb dX0_turnGray_5 (by decide) (fun hc => ?_) (fun hc => ?_)
  · rw [if_pos hc] at h
    exact r_vret hx hb hr hlocks hK hw h dX0_turnGray_38
  · rw [if_neg hc] at h
    refine lv_aload_n hx hb dX0_turnGray_8 rfl (lv_at hl 1 rfl) ?_
    refine r_bI (fun o ho => r_vI (As := []) (rest := []) ⟨hx, hb, hml, hown, hts⟩ (c_X5_isGreen l D cy L ad N p0 u o h_p0 ho) (cwV 0 hts gX0_turnGray_X5_isGreen rfl rfl rfl (by decide +kernel) ⟨Nat.le_of_ble_eq_true rfl, Nat.le_of_ble_eq_true rfl⟩) hw hK h_p0 (by decide) rfl rfl hl.1 rfl (Nat.le_of_ble_eq_true rfl) dX0_turnGray_9 ⟨Nat.zero_le _, Nat.zero_le _⟩) hw hA h (fun x2 u H locs hw h => ?_)
    refine lv_if_ne (tgt := 38) hx hb dX0_turnGray_12 (by decide) (fun hc => ?_) (fun hc => ?_)
    · rw [if_neg hc] at h
      exact r_vret hx hb hr hlocks hK hw h dX0_turnGray_38
    · rw [if_pos hc] at h
      refine lv_aload_n hx hb dX0_turnGray_15 rfl (lv_at hl 1 rfl) ?_
      refine lv_iconst (v := 1) hx hb dX0_turnGray_16 (by decide) ?_
      refine r_putI (ty := .int) hx hb hts n_X0_turnGray_X5 tyX5 tyX5_ok nmX5 hown hK hw h_p0 (by decide) rfl 5 (by decide) rfl (hts _ k_X0_turnGray_1) (fun _ q => q) rfl rfl rfl rfl dX0_turnGray_17 h (fun u H locs hw h => ?_)
      refine lv_aload_n hx hb dX0_turnGray_20 rfl (lv_at hl 0 rfl) ?_
      refine lv_dup hx hb dX0_turnGray_21 rfl ?_
      refine r_getI hx hb hts n_X0_turnGray_X0 hown hK hw h_this (by decide) rfl 5 (by decide) rfl (hts _ k_X0_turnGray_2) (fun _ q => q) dX0_turnGray_22 h (fun x3 h => ?_)
      refine lv_iconst (v := 1) hx hb dX0_turnGray_25 (by decide) ?_
      refine lv_iadd hx hb dX0_turnGray_26 ?_
      refine r_putI (ty := .int) hx hb hts n_X0_turnGray_X0 tyX0 tyX0_ok nmX0 hown hK hw h_this (by decide) rfl 5 (by decide) rfl (hts _ k_X0_turnGray_2) (fun _ q => q) rfl rfl rfl rfl dX0_turnGray_27 h (fun u H locs hw h => ?_)
      refine lv_aload_n hx hb dX0_turnGray_30 rfl (lv_at hl 0 rfl) ?_
      refine r_getC (t2 := 3) (d := 56) hx hb hts n_X0_turnGray_X0 hown hK hw h_this (by decide) rfl 2 (by decide) rfl rfl (hts _ k_X0_turnGray_3) (fun _ q => q) dX0_turnGray_31 (fun hv4 => ?_)
      refine lv_aload_n hx hb dX0_turnGray_34 rfl (lv_at hl 1 rfl) ?_
      refine r_bV (fun o ho => r_vV (As := [.ref (ad p0)]) (rest := []) ⟨hx, hb, hml, hown, hts⟩ (c_X3_append l D cy L ad N 56 p0 u o hv4 h_p0 ho) (cwV 1 hts gX0_turnGray_X3_append rfl rfl rfl (by decide +kernel) ⟨Nat.le_of_ble_eq_true rfl, Nat.le_of_ble_eq_true rfl⟩) hw hK hv4 (by decide) rfl rfl hl.1 rfl (Nat.le_of_ble_eq_true rfl) dX0_turnGray_35 ⟨Nat.zero_le _, Nat.zero_le _⟩) hw hA h (fun u H locs hw h => ?_)
      exact r_vret hx hb hr hlocks hK hw h dX0_turnGray_38
theorem k_X0_markFrom_1 : Cond.fieldLink RX0 12 "RingHeap$Collector" "reached" "LRingHeap$Row;" ∈ wsX0_markFrom := List.mem_of_getElem? (i := 1) (by rfl)
theorem n_X0_markFrom_X0 : ∀ w ∈ u_ws RX0 TX0 7, w ∈ wsX0_markFrom := fun _ h => List.mem_cons_of_mem _ (List.mem_append_left _ (List.mem_append_left _ (List.mem_append_right _ h)))
theorem k_X0_markFrom_2 : Cond.fieldLink RX0 58 "RingHeap$Row" "length" "I" ∈ wsX0_markFrom := List.mem_of_getElem? (i := 2) (by rfl)
theorem n_X0_markFrom_X3 : ∀ w ∈ u_ws RX3 TX3 2, w ∈ wsX0_markFrom := fun _ h => List.mem_cons_of_mem _ (List.mem_append_left _ (List.mem_append_right _ h))
theorem k_X0_markFrom_3 : Cond.fieldLink RX0 90 "RingHeap$Thing" "held" "[LRingHeap$Thing;" ∈ wsX0_markFrom := List.mem_of_getElem? (i := 3) (by rfl)
theorem n_X0_markFrom_X5 : ∀ w ∈ u_ws RX5 TX5 11, w ∈ wsX0_markFrom := fun _ h => List.mem_cons_of_mem _ (List.mem_append_right _ h)
theorem k_X0_markFrom_4 : Cond.fieldLink RX0 98 "RingHeap$Thing" "count" "I" ∈ wsX0_markFrom := List.mem_of_getElem? (i := 4) (by rfl)
def f_X0_markFrom_111 (N : Nat) (p0 : Nat) (K14 : Int32 → Mm → Option (Mm)) (v2 : Int32) (u : Mm) : Option (Mm) :=
  K14 (v2 + 1) u
set_option maxHeartbeats 4000000 in
set_option maxRecDepth 100000 in
theorem j_X0_markFrom_111 {p : Program} {l : Launch} {e : Env} {s : State} {m : MethodId} {args : Array Value} {below : List Frame} {meth : Method} {c : Code} {D : va_G} {cy : Nat → ClassId} {L : List Nat} {ad : Nat → Nat} {A : Nat → Prop} {o : Mm} (N : Nat) (p0 : Nat) (h_p0 : vn L 5 p0) (C0 : Cx p m meth c cX0_markFrom none 8 s args wsX0_markFrom RX0 D cy) (hA : ∀ q : Nat, s.heap.size ≤ q → A q) (K14 : Int32 → Mm → Option (Mm)) (hK14 : ∀ (v2 : Int32) (u : Mm) (H : Heap) (locs : List Loc) (ls : Array Slot), vn L 0 55 → Wd D cy L ad A s.heap u H locs → lv_has ls 8 [(0, .ref (ad 55)), (2, .int v2)] → K14 v2 u = some o → W p l e ({ frames := 2, cells := 0, slots := 0, locals := 42 } : Room) s m args below meth c H locs 0 0 (MQ below (QcV D cy L ad A o) args s 0 0 A) (F0 m 14 ls [])) : ∀ (v2 : Int32) (u : Mm) (H : Heap) (locs : List Loc) (ls : Array Slot), vn L 0 55 → Wd D cy L ad A s.heap u H locs → lv_has ls 8 [(0, .ref (ad 55)), (2, .int v2)] → f_X0_markFrom_111 N p0 K14 v2 u = some o → W p l e ({ frames := 2, cells := 0, slots := 0, locals := 42 } : Room) s m args below meth c H locs 0 0 (MQ below (QcV D cy L ad A o) args s 0 0 A) (F0 m 111 ls []) := by
  obtain ⟨hx, hb, hr, hml, hown, hts, hlocks, hK⟩ := id C0
  intro v2 u H locs ls hv_t0 hw hl h
  unfold f_X0_markFrom_111 at h
  refine lv_iinc (v := v2 + 1) (lv' := [(2, .int (v2 + 1)), (0, .ref (ad 55))]) hx hb dX0_markFrom_111 hl (k := 1) rfl rfl (by decide) rfl (fun ls hl => ?_)
  refine lv_goto (tgt := 14) hx hb dX0_markFrom_114 (by decide) ?_
  exact hK14 (v2 + 1) u _ _ _ hv_t0 hw (lv_sub hl [1, 0] rfl) h
def f_X0_markFrom_105 (N : Nat) (p0 : Nat) (K14 : Int32 → Mm → Option (Mm)) (K61 : Int32 → Nat → Int32 → Int32 → Mm → Option (Mm)) (v2 : Int32) (t4 : Nat) (v5 : Int32) (v6 : Int32) (u : Mm) : Option (Mm) :=
  K61 v2 t4 v5 (v6 + 1) u
set_option maxHeartbeats 4000000 in
set_option maxRecDepth 100000 in
theorem j_X0_markFrom_105 {p : Program} {l : Launch} {e : Env} {s : State} {m : MethodId} {args : Array Value} {below : List Frame} {meth : Method} {c : Code} {D : va_G} {cy : Nat → ClassId} {L : List Nat} {ad : Nat → Nat} {A : Nat → Prop} {o : Mm} (N : Nat) (p0 : Nat) (h_p0 : vn L 5 p0) (C0 : Cx p m meth c cX0_markFrom none 8 s args wsX0_markFrom RX0 D cy) (hA : ∀ q : Nat, s.heap.size ≤ q → A q) (K14 : Int32 → Mm → Option (Mm)) (hK14 : ∀ (v2 : Int32) (u : Mm) (H : Heap) (locs : List Loc) (ls : Array Slot), vn L 0 55 → Wd D cy L ad A s.heap u H locs → lv_has ls 8 [(0, .ref (ad 55)), (2, .int v2)] → K14 v2 u = some o → W p l e ({ frames := 2, cells := 0, slots := 0, locals := 42 } : Room) s m args below meth c H locs 0 0 (MQ below (QcV D cy L ad A o) args s 0 0 A) (F0 m 14 ls [])) (K61 : Int32 → Nat → Int32 → Int32 → Mm → Option (Mm)) (hK61 : ∀ (v2 : Int32) (t4 : Nat) (v5 : Int32) (v6 : Int32) (u : Mm) (H : Heap) (locs : List Loc) (ls : Array Slot), vn L 0 55 → vn L 12 t4 → Wd D cy L ad A s.heap u H locs → lv_has ls 8 [(0, .ref (ad 55)), (2, .int v2), (4, .ref (ad t4)), (5, .int v5), (6, .int v6)] → K61 v2 t4 v5 v6 u = some o → W p l e ({ frames := 2, cells := 0, slots := 0, locals := 42 } : Room) s m args below meth c H locs 0 0 (MQ below (QcV D cy L ad A o) args s 0 0 A) (F0 m 61 ls [])) : ∀ (v2 : Int32) (t4 : Nat) (v5 : Int32) (v6 : Int32) (u : Mm) (H : Heap) (locs : List Loc) (ls : Array Slot), vn L 0 55 → vn L 12 t4 → Wd D cy L ad A s.heap u H locs → lv_has ls 8 [(0, .ref (ad 55)), (2, .int v2), (4, .ref (ad t4)), (5, .int v5), (6, .int v6)] → f_X0_markFrom_105 N p0 K14 K61 v2 t4 v5 v6 u = some o → W p l e ({ frames := 2, cells := 0, slots := 0, locals := 42 } : Room) s m args below meth c H locs 0 0 (MQ below (QcV D cy L ad A o) args s 0 0 A) (F0 m 105 ls []) := by
  obtain ⟨hx, hb, hr, hml, hown, hts, hlocks, hK⟩ := id C0
  intro v2 t4 v5 v6 u H locs ls hv_t0 hv_t4 hw hl h
  unfold f_X0_markFrom_105 at h
  refine lv_iinc (v := v6 + 1) (lv' := [(6, .int (v6 + 1)), (0, .ref (ad 55)), (2, .int v2), (4, .ref (ad t4)), (5, .int v5)]) hx hb dX0_markFrom_105 hl (k := 4) rfl rfl (by decide) rfl (fun ls hl => ?_)
  refine lv_goto (tgt := 61) hx hb dX0_markFrom_108 (by decide) ?_
  exact hK61 v2 t4 v5 (v6 + 1) u _ _ _ hv_t0 hv_t4 hw (lv_sub hl [1, 2, 3, 4, 0] rfl) h
def g_X0_markFrom_61 (N : Nat) (p0 : Nat) (K14 : Int32 → Mm → Option (Mm)) (K61 : Int32 → Nat → Int32 → Int32 → Mm → Option (Mm)) (v2 : Int32) (t4 : Nat) (v5 : Int32) (v6 : Int32) (u : Mm) : Option (Mm) :=
  if v5 ≤ v6 then (f_X0_markFrom_111 N p0 K14 v2 u) else (ck (bI v6 (ln t4)) (pt (u.2 t4 (ix v6)) (fun r9 => nl r9 (f_X0_markFrom_105 N p0 K14 K61 v2 t4 v5 v6 u) (fun t10 => bd (f_X5_isGreen N t10 u) (fun x12 u => if x12 = 0 then (pt (u.1 t10 3) (fun x13 => pt (sI u t10 3 (x13 - 1)) (fun u => bv (f_X0_turnGray N t10 u) (fun u => f_X0_markFrom_105 N p0 K14 K61 v2 t4 v5 v6 u)))) else (f_X0_markFrom_105 N p0 K14 K61 v2 t4 v5 v6 u))))))
def f_X0_markFrom_61 (N : Nat) (p0 : Nat) (K14 : Int32 → Mm → Option (Mm)) : Nat → Int32 → Nat → Int32 → Int32 → Mm → Option (Mm)
  | 0 => fun _ _ _ _ _ => none
  | n + 1 => g_X0_markFrom_61 N p0 K14 (f_X0_markFrom_61 N p0 K14 n)
set_option maxHeartbeats 4000000 in
set_option maxRecDepth 100000 in
theorem jg_X0_markFrom_61 {p : Program} {l : Launch} {e : Env} {s : State} {m : MethodId} {args : Array Value} {below : List Frame} {meth : Method} {c : Code} {D : va_G} {cy : Nat → ClassId} {L : List Nat} {ad : Nat → Nat} {A : Nat → Prop} {o : Mm} (N : Nat) (p0 : Nat) (h_p0 : vn L 5 p0) (C0 : Cx p m meth c cX0_markFrom none 8 s args wsX0_markFrom RX0 D cy) (hA : ∀ q : Nat, s.heap.size ≤ q → A q) (K14 : Int32 → Mm → Option (Mm)) (hK14 : ∀ (v2 : Int32) (u : Mm) (H : Heap) (locs : List Loc) (ls : Array Slot), vn L 0 55 → Wd D cy L ad A s.heap u H locs → lv_has ls 8 [(0, .ref (ad 55)), (2, .int v2)] → K14 v2 u = some o → W p l e ({ frames := 2, cells := 0, slots := 0, locals := 42 } : Room) s m args below meth c H locs 0 0 (MQ below (QcV D cy L ad A o) args s 0 0 A) (F0 m 14 ls [])) (K61 : Int32 → Nat → Int32 → Int32 → Mm → Option (Mm)) (hK61 : ∀ (v2 : Int32) (t4 : Nat) (v5 : Int32) (v6 : Int32) (u : Mm) (H : Heap) (locs : List Loc) (ls : Array Slot), vn L 0 55 → vn L 12 t4 → Wd D cy L ad A s.heap u H locs → lv_has ls 8 [(0, .ref (ad 55)), (2, .int v2), (4, .ref (ad t4)), (5, .int v5), (6, .int v6)] → K61 v2 t4 v5 v6 u = some o → W p l e ({ frames := 2, cells := 0, slots := 0, locals := 42 } : Room) s m args below meth c H locs 0 0 (MQ below (QcV D cy L ad A o) args s 0 0 A) (F0 m 61 ls [])) : ∀ (v2 : Int32) (t4 : Nat) (v5 : Int32) (v6 : Int32) (u : Mm) (H : Heap) (locs : List Loc) (ls : Array Slot), vn L 0 55 → vn L 12 t4 → Wd D cy L ad A s.heap u H locs → lv_has ls 8 [(0, .ref (ad 55)), (2, .int v2), (4, .ref (ad t4)), (5, .int v5), (6, .int v6)] → g_X0_markFrom_61 N p0 K14 K61 v2 t4 v5 v6 u = some o → W p l e ({ frames := 2, cells := 0, slots := 0, locals := 42 } : Room) s m args below meth c H locs 0 0 (MQ below (QcV D cy L ad A o) args s 0 0 A) (F0 m 61 ls []) := by
  obtain ⟨hx, hb, hr, hml, hown, hts, hlocks, hK⟩ := id C0
  intro v2 t4 v5 v6 u H locs ls hv_t0 hv_t4 hw hl h
  unfold g_X0_markFrom_61 at h
  refine lv_iload hx hb dX0_markFrom_61 (lv_at hl 4 rfl) ?_
  refine lv_iload hx hb dX0_markFrom_63 (lv_at hl 3 rfl) ?_
  refine lv_icmp_ge (tgt := 111) hx hb dX0_markFrom_65 (by decide) (fun hc => ?_) (fun hc => ?_)
  · rw [if_pos hc] at h
    exact j_X0_markFrom_111 N p0 h_p0 C0 hA K14 hK14 v2 u _ _ _ hv_t0 hw (lv_sub hl [0, 1] rfl) h
  · rw [if_neg hc] at h
    refine lv_aload hx hb dX0_markFrom_68 (lv_at hl 2 rfl) ?_
    refine lv_iload hx hb dX0_markFrom_70 (lv_at hl 4 rfl) ?_
    refine r_tald (n := (ln t4)) hx hb hK hw hv_t4 rfl dX0_markFrom_72 h (fun r9 hv_r9 h => ?_)
    refine r_astore (lv' := [(7, va_re ad r9), (0, .ref (ad 55)), (2, .int v2), (4, .ref (ad t4)), (5, .int v5), (6, .int v6)]) hx hb dX0_markFrom_73 hl (by decide) rfl (fun ls hl => ?_)
    refine r_aload hx hb dX0_markFrom_75 (lv_at hl 0 rfl) ?_
    refine r_ifnull (tgt := 105) hx hb hv_r9 dX0_markFrom_77 (by decide) h (fun e11 h9 => ?_) (fun t10 e11 hv_t10 h9 => ?_)
    · clear h
      subst e11
      have h := h9
      have hl : lv_has ls 8 [(7, va_re ad none), (0, .ref (ad 55)), (2, .int v2), (4, .ref (ad t4)), (5, .int v5), (6, .int v6)] := hl
      exact j_X0_markFrom_105 N p0 h_p0 C0 hA K14 hK14 K61 hK61 v2 t4 v5 v6 u _ _ _ hv_t0 hv_t4 hw (lv_sub hl [1, 2, 3, 4, 5] rfl) h
    · clear h
      subst e11
      have h := h9
      have hl : lv_has ls 8 [(7, .ref (ad t10)), (0, .ref (ad 55)), (2, .int v2), (4, .ref (ad t4)), (5, .int v5), (6, .int v6)] := hl
      refine lv_aload hx hb dX0_markFrom_80 (lv_at hl 0 rfl) ?_
      refine r_bI (fun o ho => r_vI (As := []) (rest := []) ⟨hx, hb, hml, hown, hts⟩ (c_X5_isGreen l D cy L ad N t10 u o hv_t10 ho) (cwV 0 hts gX0_markFrom_X5_isGreen rfl rfl rfl (by decide +kernel) ⟨Nat.le_of_ble_eq_true rfl, Nat.le_of_ble_eq_true rfl⟩) hw hK hv_t10 (by decide) rfl rfl hl.1 rfl (Nat.le_of_ble_eq_true rfl) dX0_markFrom_82 ⟨Nat.zero_le _, Nat.zero_le _⟩) hw hA h (fun x12 u H locs hw h => ?_)
      refine lv_if_ne (tgt := 105) hx hb dX0_markFrom_85 (by decide) (fun hc => ?_) (fun hc => ?_)
      · rw [if_neg hc] at h
        exact j_X0_markFrom_105 N p0 h_p0 C0 hA K14 hK14 K61 hK61 v2 t4 v5 v6 u _ _ _ hv_t0 hv_t4 hw (lv_sub hl [1, 2, 3, 4, 5] rfl) h
      · rw [if_pos hc] at h
        refine lv_aload hx hb dX0_markFrom_88 (lv_at hl 0 rfl) ?_
        refine lv_dup hx hb dX0_markFrom_90 rfl ?_
        refine r_getI hx hb hts n_X0_markFrom_X5 hown hK hw hv_t10 (by decide) rfl 3 (by decide) rfl (hts _ k_X0_markFrom_4) (fun _ q => q) dX0_markFrom_91 h (fun x13 h => ?_)
        refine lv_iconst (v := 1) hx hb dX0_markFrom_94 (by decide) ?_
        refine lv_isub hx hb dX0_markFrom_95 ?_
        refine r_putI (ty := .int) hx hb hts n_X0_markFrom_X5 tyX5 tyX5_ok nmX5 hown hK hw hv_t10 (by decide) rfl 3 (by decide) rfl (hts _ k_X0_markFrom_4) (fun _ q => q) rfl rfl rfl rfl dX0_markFrom_96 h (fun u H locs hw h => ?_)
        refine lv_aload_n hx hb dX0_markFrom_99 rfl (lv_at hl 1 rfl) ?_
        refine lv_aload hx hb dX0_markFrom_100 (lv_at hl 0 rfl) ?_
        refine r_bV (fun o ho => r_vV (As := [.ref (ad t10)]) (rest := []) ⟨hx, hb, hml, hown, hts⟩ (c_X0_turnGray l D cy L ad N t10 u o hv_t0 hv_t10 ho) (cwV 1 hts gX0_markFrom_X0_turnGray rfl rfl rfl (by decide +kernel) ⟨Nat.le_of_ble_eq_true rfl, Nat.le_of_ble_eq_true rfl⟩) hw hK hv_t0 (by decide) rfl rfl hl.1 rfl (Nat.le_of_ble_eq_true rfl) dX0_markFrom_102 ⟨Nat.zero_le _, Nat.zero_le _⟩) hw hA h (fun u H locs hw h => ?_)
        exact j_X0_markFrom_105 N p0 h_p0 C0 hA K14 hK14 K61 hK61 v2 t4 v5 v6 u _ _ _ hv_t0 hv_t4 hw (lv_sub hl [1, 2, 3, 4, 5] rfl) h
set_option maxHeartbeats 4000000 in
set_option maxRecDepth 100000 in
theorem j_X0_markFrom_61 {p : Program} {l : Launch} {e : Env} {s : State} {m : MethodId} {args : Array Value} {below : List Frame} {meth : Method} {c : Code} {D : va_G} {cy : Nat → ClassId} {L : List Nat} {ad : Nat → Nat} {A : Nat → Prop} {o : Mm} (N : Nat) (p0 : Nat) (h_p0 : vn L 5 p0) (C0 : Cx p m meth c cX0_markFrom none 8 s args wsX0_markFrom RX0 D cy) (hA : ∀ q : Nat, s.heap.size ≤ q → A q) (K14 : Int32 → Mm → Option (Mm)) (hK14 : ∀ (v2 : Int32) (u : Mm) (H : Heap) (locs : List Loc) (ls : Array Slot), vn L 0 55 → Wd D cy L ad A s.heap u H locs → lv_has ls 8 [(0, .ref (ad 55)), (2, .int v2)] → K14 v2 u = some o → W p l e ({ frames := 2, cells := 0, slots := 0, locals := 42 } : Room) s m args below meth c H locs 0 0 (MQ below (QcV D cy L ad A o) args s 0 0 A) (F0 m 14 ls [])) : ∀ (n : Nat), ∀ (v2 : Int32) (t4 : Nat) (v5 : Int32) (v6 : Int32) (u : Mm) (H : Heap) (locs : List Loc) (ls : Array Slot), vn L 0 55 → vn L 12 t4 → Wd D cy L ad A s.heap u H locs → lv_has ls 8 [(0, .ref (ad 55)), (2, .int v2), (4, .ref (ad t4)), (5, .int v5), (6, .int v6)] → f_X0_markFrom_61 N p0 K14 n v2 t4 v5 v6 u = some o → W p l e ({ frames := 2, cells := 0, slots := 0, locals := 42 } : Room) s m args below meth c H locs 0 0 (MQ below (QcV D cy L ad A o) args s 0 0 A) (F0 m 61 ls []) := by
  intro n
  induction n with
  | zero =>
    intro v2 t4 v5 v6 u H locs ls hv_t0 hv_t4 hw hl h
    cases h
  | succ n ih => exact jg_X0_markFrom_61 N p0 h_p0 C0 hA K14 hK14 _ ih
def g_X0_markFrom_14 (N : Nat) (p0 : Nat) (K14 : Int32 → Mm → Option (Mm)) (v2 : Int32) (u : Mm) : Option (Mm) :=
  if 80 ≤ v2 then (some u) else (pt (u.1 56 1) (fun x3 => if x3 ≤ v2 then (some u) else (bd (f_X3_item N 56 v2 u) (fun r5 u => nl r5 (f_X0_markFrom_111 N p0 K14 v2 u) (fun t6 => f_X0_markFrom_61 N p0 K14 N v2 (t6 + 1) 6 0 u)))))
def f_X0_markFrom_14 (N : Nat) (p0 : Nat)  : Nat → Int32 → Mm → Option (Mm)
  | 0 => fun _ _ => none
  | n + 1 => g_X0_markFrom_14 N p0  (f_X0_markFrom_14 N p0  n)
set_option maxHeartbeats 4000000 in
set_option maxRecDepth 100000 in
theorem jg_X0_markFrom_14 {p : Program} {l : Launch} {e : Env} {s : State} {m : MethodId} {args : Array Value} {below : List Frame} {meth : Method} {c : Code} {D : va_G} {cy : Nat → ClassId} {L : List Nat} {ad : Nat → Nat} {A : Nat → Prop} {o : Mm} (N : Nat) (p0 : Nat) (h_p0 : vn L 5 p0) (C0 : Cx p m meth c cX0_markFrom none 8 s args wsX0_markFrom RX0 D cy) (hA : ∀ q : Nat, s.heap.size ≤ q → A q)  (K14 : Int32 → Mm → Option (Mm)) (hK14 : ∀ (v2 : Int32) (u : Mm) (H : Heap) (locs : List Loc) (ls : Array Slot), vn L 0 55 → Wd D cy L ad A s.heap u H locs → lv_has ls 8 [(0, .ref (ad 55)), (2, .int v2)] → K14 v2 u = some o → W p l e ({ frames := 2, cells := 0, slots := 0, locals := 42 } : Room) s m args below meth c H locs 0 0 (MQ below (QcV D cy L ad A o) args s 0 0 A) (F0 m 14 ls [])) : ∀ (v2 : Int32) (u : Mm) (H : Heap) (locs : List Loc) (ls : Array Slot), vn L 0 55 → Wd D cy L ad A s.heap u H locs → lv_has ls 8 [(0, .ref (ad 55)), (2, .int v2)] → g_X0_markFrom_14 N p0  K14 v2 u = some o → W p l e ({ frames := 2, cells := 0, slots := 0, locals := 42 } : Room) s m args below meth c H locs 0 0 (MQ below (QcV D cy L ad A o) args s 0 0 A) (F0 m 14 ls []) := by
  obtain ⟨hx, hb, hr, hml, hown, hts, hlocks, hK⟩ := id C0
  intro v2 u H locs ls hv_t0 hw hl h
  unfold g_X0_markFrom_14 at h
  refine lv_iload_n hx hb dX0_markFrom_14 rfl (lv_at hl 1 rfl) ?_
  refine lv_bipush (v := 80) hx hb dX0_markFrom_15 (by decide) ?_
  refine lv_icmp_ge (tgt := 117) hx hb dX0_markFrom_17 (by decide) (fun hc => ?_) (fun hc => ?_)
  · rw [if_pos hc] at h
    exact r_vret hx hb hr hlocks hK hw h dX0_markFrom_117
  · rw [if_neg hc] at h
    refine lv_iload_n hx hb dX0_markFrom_20 rfl (lv_at hl 1 rfl) ?_
    refine lv_aload_n hx hb dX0_markFrom_21 rfl (lv_at hl 0 rfl) ?_
    refine r_getC (t2 := 3) (d := 56) hx hb hts n_X0_markFrom_X0 hown hK hw hv_t0 (by decide) rfl 2 (by decide) rfl rfl (hts _ k_X0_markFrom_1) (fun _ q => q) dX0_markFrom_22 (fun hv2 => ?_)
    refine r_getI hx hb hts n_X0_markFrom_X3 hown hK hw hv2 (by decide) rfl 1 (by decide) rfl (hts _ k_X0_markFrom_2) (fun _ q => q) dX0_markFrom_25 h (fun x3 h => ?_)
    refine lv_icmp_ge (tgt := 117) hx hb dX0_markFrom_28 (by decide) (fun hc => ?_) (fun hc => ?_)
    · rw [if_pos hc] at h
      exact r_vret hx hb hr hlocks hK hw h dX0_markFrom_117
    · rw [if_neg hc] at h
      refine lv_aload_n hx hb dX0_markFrom_31 rfl (lv_at hl 0 rfl) ?_
      refine r_getC (t2 := 3) (d := 56) hx hb hts n_X0_markFrom_X0 hown hK hw hv_t0 (by decide) rfl 2 (by decide) rfl rfl (hts _ k_X0_markFrom_1) (fun _ q => q) dX0_markFrom_32 (fun hv4 => ?_)
      refine lv_iload_n hx hb dX0_markFrom_35 rfl (lv_at hl 1 rfl) ?_
      refine r_bQ (fun o ho => r_vQ (As := [.int v2]) (rest := []) ⟨hx, hb, hml, hown, hts⟩ (c_X3_item l D cy L ad N 56 v2 u o hv4 ho) (cwV 1 hts gX0_markFrom_X3_item rfl rfl rfl (by decide +kernel) ⟨Nat.le_of_ble_eq_true rfl, Nat.le_of_ble_eq_true rfl⟩) hw hK hv4 (by decide) rfl rfl hl.1 rfl (Nat.le_of_ble_eq_true rfl) dX0_markFrom_36 ⟨Nat.zero_le _, Nat.zero_le _⟩) hw hA h (fun r5 u H locs hw hv_r5 h => ?_)
      refine r_astoren (lv' := [(3, va_re ad r5), (0, .ref (ad 55)), (2, .int v2)]) hx hb dX0_markFrom_39 rfl hl (by decide) rfl (fun ls hl => ?_)
      refine r_aloadn hx hb dX0_markFrom_40 rfl (lv_at hl 0 rfl) ?_
      refine r_ifnonnull (tgt := 47) hx hb hv_r5 dX0_markFrom_41 (by decide) h (fun e7 h9 => ?_) (fun t6 e7 hv_t6 h9 => ?_)
      · clear h
        subst e7
        have h := h9
        have hl : lv_has ls 8 [(3, va_re ad none), (0, .ref (ad 55)), (2, .int v2)] := hl
        refine lv_goto (tgt := 111) hx hb dX0_markFrom_44 (by decide) ?_
        exact j_X0_markFrom_111 N p0 h_p0 C0 hA K14 hK14 v2 u _ _ _ hv_t0 hw (lv_sub hl [1, 2] rfl) h
      · clear h
        subst e7
        have h := h9
        have hl : lv_has ls 8 [(3, .ref (ad t6)), (0, .ref (ad 55)), (2, .int v2)] := hl
        refine lv_aload_n hx hb dX0_markFrom_47 rfl (lv_at hl 0 rfl) ?_
        refine r_getC (t2 := 12) (d := (t6 + 1)) hx hb hts n_X0_markFrom_X5 hown hK hw hv_t6 (by decide) rfl 2 (by decide) rfl (cst5 hv_t6.2) (hts _ k_X0_markFrom_3) (fun _ q => q) dX0_markFrom_48 (fun hv8 => ?_)
        refine lv_astore (lv' := [(4, .ref (ad (t6 + 1))), (3, .ref (ad t6)), (0, .ref (ad 55)), (2, .int v2)]) hx hb dX0_markFrom_51 hl (by decide) rfl (fun ls hl => ?_)
        refine lv_aload hx hb dX0_markFrom_53 (lv_at hl 0 rfl) ?_
        refine r_alen (n := 6) (v := 6) hx hb hK hw hv8 (by decide) (ln5s hv_t6.2) rfl dX0_markFrom_55 ?_
        refine lv_istore (lv' := [(5, .int 6), (4, .ref (ad (t6 + 1))), (3, .ref (ad t6)), (0, .ref (ad 55)), (2, .int v2)]) hx hb dX0_markFrom_56 hl (by decide) rfl (fun ls hl => ?_)
        refine lv_iconst (v := 0) hx hb dX0_markFrom_58 (by decide) ?_
        refine lv_istore (lv' := [(6, .int 0), (5, .int 6), (4, .ref (ad (t6 + 1))), (3, .ref (ad t6)), (0, .ref (ad 55)), (2, .int v2)]) hx hb dX0_markFrom_59 hl (by decide) rfl (fun ls hl => ?_)
        exact j_X0_markFrom_61 N p0 h_p0 C0 hA K14 hK14 N v2 (t6 + 1) 6 0 u _ _ _ hv_t0 hv8 hw (lv_sub hl [4, 5, 2, 1, 0] rfl) h
set_option maxHeartbeats 4000000 in
set_option maxRecDepth 100000 in
theorem j_X0_markFrom_14 {p : Program} {l : Launch} {e : Env} {s : State} {m : MethodId} {args : Array Value} {below : List Frame} {meth : Method} {c : Code} {D : va_G} {cy : Nat → ClassId} {L : List Nat} {ad : Nat → Nat} {A : Nat → Prop} {o : Mm} (N : Nat) (p0 : Nat) (h_p0 : vn L 5 p0) (C0 : Cx p m meth c cX0_markFrom none 8 s args wsX0_markFrom RX0 D cy) (hA : ∀ q : Nat, s.heap.size ≤ q → A q)  : ∀ (n : Nat), ∀ (v2 : Int32) (u : Mm) (H : Heap) (locs : List Loc) (ls : Array Slot), vn L 0 55 → Wd D cy L ad A s.heap u H locs → lv_has ls 8 [(0, .ref (ad 55)), (2, .int v2)] → f_X0_markFrom_14 N p0  n v2 u = some o → W p l e ({ frames := 2, cells := 0, slots := 0, locals := 42 } : Room) s m args below meth c H locs 0 0 (MQ below (QcV D cy L ad A o) args s 0 0 A) (F0 m 14 ls []) := by
  intro n
  induction n with
  | zero =>
    intro v2 u H locs ls hv_t0 hw hl h
    cases h
  | succ n ih => exact jg_X0_markFrom_14 N p0 h_p0 C0 hA  _ ih
def f_X0_markFrom (N : Nat) (p0 : Nat) (u : Mm) : Option (Mm) :=
  bv (f_X3_clear N 56 u) (fun u => bv (f_X0_turnGray N p0 u) (fun u => f_X0_markFrom_14 N p0 N 0 u))
set_option maxHeartbeats 4000000 in
set_option maxRecDepth 100000 in
theorem c_X0_markFrom (l : Launch) (D : va_G) (cy : Nat → ClassId) (L : List Nat) (ad : Nat → Nat) (N : Nat) (p0 : Nat) (u : Mm) (o : Mm) (h_this : vn L 0 55) (h_p0 : vn L 5 p0) (h : f_X0_markFrom N p0 u = some o) : MtV l yX0_markFrom wsX0_markFrom ({ frames := 2, cells := 0, slots := 0, locals := 42 } : Room) D cy L ad [.ref (ad 55), .ref (ad p0)] u o := by
  intro sz
  refine Met.ofW (cc := cX0_markFrom) (maxL := 8) (ret := none) (by decide) rfl ?_
  intro p e s m args below meth c s₁ B hml hv
  obtain ⟨rfl, hsz, hP, hK, hD0, hok⟩ := hv
  have hx := B.exec
  have hb := B.bytes
  have hr := B.returns
  have hts := atoms_spec (ws := wsX0_markFrom) B.pre
  have hown : s.vm.findClass RX0 = some m.cls := findClass_of_methodNamed B.named
  have hlocks := B.notSynchronized
  subst hsz
  have hw := wd_start hP hD0 hok
  have hA : ∀ q : Nat, s.heap.size ≤ q → va_A (wl cy L ad u) s.heap.size q := fun q h => Or.inr h
  generalize va_A (wl cy L ad u) s.heap.size = A at hw hA ⊢
  have C0 : Cx p m meth c cX0_markFrom none 8 s _ wsX0_markFrom RX0 D cy := ⟨hx, hb, hr, hml, hown, hts, hlocks, hK⟩
  have hl := lv_entry ([.ref (ad 55), .ref (ad p0)]) (n := 8) (Nat.le_of_ble_eq_true rfl)
  rw [lg_entry_eq]
  generalize (lg_sl ([.ref (ad 55), .ref (ad p0)]) ++ List.replicate (8 - (lg_sl ([.ref (ad 55), .ref (ad p0)])).length) Slot.unset).toArray = ls at hl ⊢
  have hl : lv_has ls 8 [(0, .ref (ad 55)), (1, .ref (ad p0))] := hl
  unfold f_X0_markFrom at h
  refine lv_aload_n hx hb dX0_markFrom_0 rfl (lv_at hl 0 rfl) ?_
  refine r_getC (t2 := 3) (d := 56) hx hb hts n_X0_markFrom_X0 hown hK hw h_this (by decide) rfl 2 (by decide) rfl rfl (hts _ k_X0_markFrom_1) (fun _ q => q) dX0_markFrom_1 (fun hv1 => ?_)
  refine r_bV (fun o ho => r_vV (As := []) (rest := []) ⟨hx, hb, hml, hown, hts⟩ (c_X3_clear l D cy L ad N 56 u o hv1 ho) (cwV 0 hts gX0_markFrom_X3_clear rfl rfl rfl (by decide +kernel) ⟨Nat.le_of_ble_eq_true rfl, Nat.le_of_ble_eq_true rfl⟩) hw hK hv1 (by decide) rfl rfl hl.1 rfl (Nat.le_of_ble_eq_true rfl) dX0_markFrom_4 ⟨Nat.zero_le _, Nat.zero_le _⟩) hw hA h (fun u H locs hw h => ?_)
  refine lv_aload_n hx hb dX0_markFrom_7 rfl (lv_at hl 0 rfl) ?_
  refine lv_aload_n hx hb dX0_markFrom_8 rfl (lv_at hl 1 rfl) ?_
  refine r_bV (fun o ho => r_vV (As := [.ref (ad p0)]) (rest := []) ⟨hx, hb, hml, hown, hts⟩ (c_X0_turnGray l D cy L ad N p0 u o h_this h_p0 ho) (cwV 1 hts gX0_markFrom_X0_turnGray rfl rfl rfl (by decide +kernel) ⟨Nat.le_of_ble_eq_true rfl, Nat.le_of_ble_eq_true rfl⟩) hw hK h_this (by decide) rfl rfl hl.1 rfl (Nat.le_of_ble_eq_true rfl) dX0_markFrom_9 ⟨Nat.zero_le _, Nat.zero_le _⟩) hw hA h (fun u H locs hw h => ?_)
  refine lv_iconst (v := 0) hx hb dX0_markFrom_12 (by decide) ?_
  refine lv_istore_n (lv' := [(2, .int 0), (0, .ref (ad 55)), (1, .ref (ad p0))]) hx hb dX0_markFrom_13 rfl hl (by decide) rfl (fun ls hl => ?_)
  exact j_X0_markFrom_14 N p0 h_p0 C0 hA N 0 u _ _ _ h_this hw (lv_sub hl [1, 0] rfl) h
theorem k_X0_markListed_1 : Cond.fieldLink RX0 25 "RingHeap$Collector" "counting" "LRingHeap$Counting;" ∈ wsX0_markListed := List.mem_of_getElem? (i := 1) (by rfl)
theorem n_X0_markListed_X0 : ∀ w ∈ u_ws RX0 TX0 7, w ∈ wsX0_markListed := fun _ h => List.mem_cons_of_mem _ (List.mem_append_left _ (List.mem_append_left _ (List.mem_append_left _ (List.mem_append_left _ (List.mem_append_left _ (List.mem_append_left _ (List.mem_append_right _ h)))))))
theorem k_X0_markListed_2 : Cond.fieldLink RX0 53 "RingHeap$Counting" "list" "LRingHeap$Row;" ∈ wsX0_markListed := List.mem_of_getElem? (i := 2) (by rfl)
theorem n_X0_markListed_X1 : ∀ w ∈ u_ws RX1 TX1 4, w ∈ wsX0_markListed := fun _ h => List.mem_cons_of_mem _ (List.mem_append_left _ (List.mem_append_left _ (List.mem_append_left _ (List.mem_append_left _ (List.mem_append_left _ (List.mem_append_right _ h))))))
theorem k_X0_markListed_3 : Cond.fieldLink RX0 58 "RingHeap$Row" "length" "I" ∈ wsX0_markListed := List.mem_of_getElem? (i := 3) (by rfl)
theorem n_X0_markListed_X3 : ∀ w ∈ u_ws RX3 TX3 2, w ∈ wsX0_markListed := fun _ h => List.mem_cons_of_mem _ (List.mem_append_left _ (List.mem_append_left _ (List.mem_append_left _ (List.mem_append_left _ (List.mem_append_right _ h)))))
theorem k_X0_markListed_4 : Cond.fieldLink RX0 65 "RingHeap$Thing" "husk" "Z" ∈ wsX0_markListed := List.mem_of_getElem? (i := 4) (by rfl)
theorem n_X0_markListed_X5 : ∀ w ∈ u_ws RX5 TX5 11, w ∈ wsX0_markListed := fun _ h => List.mem_cons_of_mem _ (List.mem_append_left _ (List.mem_append_left _ (List.mem_append_left _ (List.mem_append_right _ h))))
theorem k_X0_markListed_7 : Cond.fieldLink RX0 78 "RingHeap$Thing" "colour" "I" ∈ wsX0_markListed := List.mem_of_getElem? (i := 7) (by rfl)
theorem k_X0_markListed_5 : Cond.fieldLink RX0 71 "RingHeap$Thing" "inList" "Z" ∈ wsX0_markListed := List.mem_of_getElem? (i := 5) (by rfl)
theorem k_X0_markListed_6 : Cond.fieldLink RX0 21 "RingHeap$Collector" "store" "LRingHeap$Store;" ∈ wsX0_markListed := List.mem_of_getElem? (i := 6) (by rfl)
def f_X0_markListed_81 (N : Nat)  (K10 : Int32 → Mm → Option (Mm)) (v2 : Int32) (u : Mm) : Option (Mm) :=
  K10 (v2 + 1) u
set_option maxHeartbeats 4000000 in
set_option maxRecDepth 100000 in
theorem j_X0_markListed_81 {p : Program} {l : Launch} {e : Env} {s : State} {m : MethodId} {args : Array Value} {below : List Frame} {meth : Method} {c : Code} {D : va_G} {cy : Nat → ClassId} {L : List Nat} {ad : Nat → Nat} {A : Nat → Prop} {o : Mm} (N : Nat)   (C0 : Cx p m meth c cX0_markListed none 4 s args wsX0_markListed RX0 D cy) (hA : ∀ q : Nat, s.heap.size ≤ q → A q) (K10 : Int32 → Mm → Option (Mm)) (hK10 : ∀ (v2 : Int32) (u : Mm) (H : Heap) (locs : List Loc) (ls : Array Slot), vn L 0 55 → vn L 3 51 → Wd D cy L ad A s.heap u H locs → lv_has ls 4 [(0, .ref (ad 55)), (1, .ref (ad 51)), (2, .int v2)] → K10 v2 u = some o → W p l e ({ frames := 3, cells := 0, slots := 0, locals := 69 } : Room) s m args below meth c H locs 0 0 (MQ below (QcV D cy L ad A o) args s 0 0 A) (F0 m 10 ls [])) : ∀ (v2 : Int32) (u : Mm) (H : Heap) (locs : List Loc) (ls : Array Slot), vn L 0 55 → vn L 3 51 → Wd D cy L ad A s.heap u H locs → lv_has ls 4 [(0, .ref (ad 55)), (1, .ref (ad 51)), (2, .int v2)] → f_X0_markListed_81 N  K10 v2 u = some o → W p l e ({ frames := 3, cells := 0, slots := 0, locals := 69 } : Room) s m args below meth c H locs 0 0 (MQ below (QcV D cy L ad A o) args s 0 0 A) (F0 m 81 ls []) := by
  obtain ⟨hx, hb, hr, hml, hown, hts, hlocks, hK⟩ := id C0
  intro v2 u H locs ls hv_t0 hv_t1 hw hl h
  unfold f_X0_markListed_81 at h
  refine lv_iinc (v := v2 + 1) (lv' := [(2, .int (v2 + 1)), (0, .ref (ad 55)), (1, .ref (ad 51))]) hx hb dX0_markListed_81 hl (k := 2) rfl rfl (by decide) rfl (fun ls hl => ?_)
  refine lv_goto (tgt := 10) hx hb dX0_markListed_84 (by decide) ?_
  exact hK10 (v2 + 1) u _ _ _ hv_t0 hv_t1 hw (lv_sub hl [1, 2, 0] rfl) h
def g_X0_markListed_10 (N : Nat)  (K10 : Int32 → Mm → Option (Mm)) (v2 : Int32) (u : Mm) : Option (Mm) :=
  if 80 ≤ v2 then (some u) else (pt (u.1 51 1) (fun x3 => if x3 ≤ v2 then (some u) else (bd (f_X3_item N 51 v2 u) (fun r4 u => nl r4 (f_X0_markListed_81 N K10 v2 u) (fun t5 => pt (u.1 t5 10) (fun x7 => if x7 = 0 then (pt (u.1 t5 5) (fun x8 => if x8 = 1 then (pt (sI u t5 8 0) (fun u => f_X0_markListed_81 N K10 v2 u)) else (bv (f_X0_markFrom N t5 u) (fun u => f_X0_markListed_81 N K10 v2 u)))) else (pt (sI u t5 8 0) (fun u => bv (f_X4_free N t5 u) (fun u => f_X0_markListed_81 N K10 v2 u)))))))))
def f_X0_markListed_10 (N : Nat)   : Nat → Int32 → Mm → Option (Mm)
  | 0 => fun _ _ => none
  | n + 1 => g_X0_markListed_10 N   (f_X0_markListed_10 N   n)
set_option maxHeartbeats 4000000 in
set_option maxRecDepth 100000 in
theorem jg_X0_markListed_10 {p : Program} {l : Launch} {e : Env} {s : State} {m : MethodId} {args : Array Value} {below : List Frame} {meth : Method} {c : Code} {D : va_G} {cy : Nat → ClassId} {L : List Nat} {ad : Nat → Nat} {A : Nat → Prop} {o : Mm} (N : Nat)   (C0 : Cx p m meth c cX0_markListed none 4 s args wsX0_markListed RX0 D cy) (hA : ∀ q : Nat, s.heap.size ≤ q → A q)  (K10 : Int32 → Mm → Option (Mm)) (hK10 : ∀ (v2 : Int32) (u : Mm) (H : Heap) (locs : List Loc) (ls : Array Slot), vn L 0 55 → vn L 3 51 → Wd D cy L ad A s.heap u H locs → lv_has ls 4 [(0, .ref (ad 55)), (1, .ref (ad 51)), (2, .int v2)] → K10 v2 u = some o → W p l e ({ frames := 3, cells := 0, slots := 0, locals := 69 } : Room) s m args below meth c H locs 0 0 (MQ below (QcV D cy L ad A o) args s 0 0 A) (F0 m 10 ls [])) : ∀ (v2 : Int32) (u : Mm) (H : Heap) (locs : List Loc) (ls : Array Slot), vn L 0 55 → vn L 3 51 → Wd D cy L ad A s.heap u H locs → lv_has ls 4 [(0, .ref (ad 55)), (1, .ref (ad 51)), (2, .int v2)] → g_X0_markListed_10 N   K10 v2 u = some o → W p l e ({ frames := 3, cells := 0, slots := 0, locals := 69 } : Room) s m args below meth c H locs 0 0 (MQ below (QcV D cy L ad A o) args s 0 0 A) (F0 m 10 ls []) := by
  obtain ⟨hx, hb, hr, hml, hown, hts, hlocks, hK⟩ := id C0
  intro v2 u H locs ls hv_t0 hv_t1 hw hl h
  unfold g_X0_markListed_10 at h
  refine lv_iload_n hx hb dX0_markListed_10 rfl (lv_at hl 2 rfl) ?_
  refine lv_bipush (v := 80) hx hb dX0_markListed_11 (by decide) ?_
  refine lv_icmp_ge (tgt := 87) hx hb dX0_markListed_13 (by decide) (fun hc => ?_) (fun hc => ?_)
  · rw [if_pos hc] at h
    exact r_vret hx hb hr hlocks hK hw h dX0_markListed_87
  · rw [if_neg hc] at h
    refine lv_iload_n hx hb dX0_markListed_16 rfl (lv_at hl 2 rfl) ?_
    refine lv_aload_n hx hb dX0_markListed_17 rfl (lv_at hl 1 rfl) ?_
    refine r_getI hx hb hts n_X0_markListed_X3 hown hK hw hv_t1 (by decide) rfl 1 (by decide) rfl (hts _ k_X0_markListed_3) (fun _ q => q) dX0_markListed_18 h (fun x3 h => ?_)
    refine lv_icmp_ge (tgt := 87) hx hb dX0_markListed_21 (by decide) (fun hc => ?_) (fun hc => ?_)
    · rw [if_pos hc] at h
      exact r_vret hx hb hr hlocks hK hw h dX0_markListed_87
    · rw [if_neg hc] at h
      refine lv_aload_n hx hb dX0_markListed_24 rfl (lv_at hl 1 rfl) ?_
      refine lv_iload_n hx hb dX0_markListed_25 rfl (lv_at hl 2 rfl) ?_
      refine r_bQ (fun o ho => r_vQ (As := [.int v2]) (rest := []) ⟨hx, hb, hml, hown, hts⟩ (c_X3_item l D cy L ad N 51 v2 u o hv_t1 ho) (cwV 1 hts gX0_markListed_X3_item rfl rfl rfl (by decide +kernel) ⟨Nat.le_of_ble_eq_true rfl, Nat.le_of_ble_eq_true rfl⟩) hw hK hv_t1 (by decide) rfl rfl hl.1 rfl (Nat.le_of_ble_eq_true rfl) dX0_markListed_26 ⟨Nat.zero_le _, Nat.zero_le _⟩) hw hA h (fun r4 u H locs hw hv_r4 h => ?_)
      refine r_astoren (lv' := [(3, va_re ad r4), (0, .ref (ad 55)), (1, .ref (ad 51)), (2, .int v2)]) hx hb dX0_markListed_29 rfl hl (by decide) rfl (fun ls hl => ?_)
      refine r_aloadn hx hb dX0_markListed_30 rfl (lv_at hl 0 rfl) ?_
      refine r_ifnonnull (tgt := 37) hx hb hv_r4 dX0_markListed_31 (by decide) h (fun e6 h9 => ?_) (fun t5 e6 hv_t5 h9 => ?_)
      · clear h
        subst e6
        have h := h9
        have hl : lv_has ls 4 [(3, va_re ad none), (0, .ref (ad 55)), (1, .ref (ad 51)), (2, .int v2)] := hl
        refine lv_goto (tgt := 81) hx hb dX0_markListed_34 (by decide) ?_
        exact j_X0_markListed_81 N C0 hA K10 hK10 v2 u _ _ _ hv_t0 hv_t1 hw (lv_sub hl [1, 2, 3] rfl) h
      · clear h
        subst e6
        have h := h9
        have hl : lv_has ls 4 [(3, .ref (ad t5)), (0, .ref (ad 55)), (1, .ref (ad 51)), (2, .int v2)] := hl
        refine lv_aload_n hx hb dX0_markListed_37 rfl (lv_at hl 0 rfl) ?_
        refine r_getI hx hb hts n_X0_markListed_X5 hown hK hw hv_t5 (by decide) rfl 10 (by decide) rfl (hts _ k_X0_markListed_4) (fun _ q => q) dX0_markListed_38 h (fun x7 h => ?_)
        refine lv_if_eq (tgt := 60) hx hb dX0_markListed_41 (by decide) (fun hc => ?_) (fun hc => ?_)
        · rw [if_pos hc] at h
          refine lv_aload_n hx hb dX0_markListed_60 rfl (lv_at hl 0 rfl) ?_
          refine r_getI hx hb hts n_X0_markListed_X5 hown hK hw hv_t5 (by decide) rfl 5 (by decide) rfl (hts _ k_X0_markListed_7) (fun _ q => q) dX0_markListed_61 h (fun x8 h => ?_)
          refine lv_iconst (v := 1) hx hb dX0_markListed_64 (by decide) ?_
          refine lv_icmp_ne (tgt := 76) hx hb dX0_markListed_65 (by decide) (fun hc => ?_) (fun hc => ?_)
          · rw [if_neg hc] at h
            refine lv_aload_n hx hb dX0_markListed_76 rfl (lv_at hl 1 rfl) ?_
            refine lv_aload_n hx hb dX0_markListed_77 rfl (lv_at hl 0 rfl) ?_
            refine r_bV (fun o ho => r_vV (As := [.ref (ad t5)]) (rest := []) ⟨hx, hb, hml, hown, hts⟩ (c_X0_markFrom l D cy L ad N t5 u o hv_t0 hv_t5 ho) (cwV 1 hts gX0_markListed_X0_markFrom rfl rfl rfl (by decide +kernel) ⟨Nat.le_of_ble_eq_true rfl, Nat.le_of_ble_eq_true rfl⟩) hw hK hv_t0 (by decide) rfl rfl hl.1 rfl (Nat.le_of_ble_eq_true rfl) dX0_markListed_78 ⟨Nat.zero_le _, Nat.zero_le _⟩) hw hA h (fun u H locs hw h => ?_)
            exact j_X0_markListed_81 N C0 hA K10 hK10 v2 u _ _ _ hv_t0 hv_t1 hw (lv_sub hl [1, 2, 3] rfl) h
          · rw [if_pos hc] at h
            refine lv_aload_n hx hb dX0_markListed_68 rfl (lv_at hl 0 rfl) ?_
            refine lv_iconst (v := 0) hx hb dX0_markListed_69 (by decide) ?_
            refine r_putI (ty := .boolean) hx hb hts n_X0_markListed_X5 tyX5 tyX5_ok nmX5 hown hK hw hv_t5 (by decide) rfl 8 (by decide) rfl (hts _ k_X0_markListed_5) (fun _ q => q) rfl rfl (by decide) (by decide) dX0_markListed_70 h (fun u H locs hw h => ?_)
            refine lv_goto (tgt := 81) hx hb dX0_markListed_73 (by decide) ?_
            exact j_X0_markListed_81 N C0 hA K10 hK10 v2 u _ _ _ hv_t0 hv_t1 hw (lv_sub hl [1, 2, 3] rfl) h
        · rw [if_neg hc] at h
          refine lv_aload_n hx hb dX0_markListed_44 rfl (lv_at hl 0 rfl) ?_
          refine lv_iconst (v := 0) hx hb dX0_markListed_45 (by decide) ?_
          refine r_putI (ty := .boolean) hx hb hts n_X0_markListed_X5 tyX5 tyX5_ok nmX5 hown hK hw hv_t5 (by decide) rfl 8 (by decide) rfl (hts _ k_X0_markListed_5) (fun _ q => q) rfl rfl (by decide) (by decide) dX0_markListed_46 h (fun u H locs hw h => ?_)
          refine lv_aload_n hx hb dX0_markListed_49 rfl (lv_at hl 1 rfl) ?_
          refine r_getC (t2 := 4) (d := 42) hx hb hts n_X0_markListed_X0 hown hK hw hv_t0 (by decide) rfl 0 (by decide) rfl rfl (hts _ k_X0_markListed_6) (fun _ q => q) dX0_markListed_50 (fun hv9 => ?_)
          refine lv_aload_n hx hb dX0_markListed_53 rfl (lv_at hl 0 rfl) ?_
          refine r_bV (fun o ho => r_vV (As := [.ref (ad t5)]) (rest := []) ⟨hx, hb, hml, hown, hts⟩ (c_X4_free l D cy L ad N t5 u o hv9 hv_t5 ho) (cwV 1 hts gX0_markListed_X4_free rfl rfl rfl (by decide +kernel) ⟨Nat.le_of_ble_eq_true rfl, Nat.le_of_ble_eq_true rfl⟩) hw hK hv9 (by decide) rfl rfl hl.1 rfl (Nat.le_of_ble_eq_true rfl) dX0_markListed_54 ⟨Nat.zero_le _, Nat.zero_le _⟩) hw hA h (fun u H locs hw h => ?_)
          refine lv_goto (tgt := 81) hx hb dX0_markListed_57 (by decide) ?_
          exact j_X0_markListed_81 N C0 hA K10 hK10 v2 u _ _ _ hv_t0 hv_t1 hw (lv_sub hl [1, 2, 3] rfl) h
set_option maxHeartbeats 4000000 in
set_option maxRecDepth 100000 in
theorem j_X0_markListed_10 {p : Program} {l : Launch} {e : Env} {s : State} {m : MethodId} {args : Array Value} {below : List Frame} {meth : Method} {c : Code} {D : va_G} {cy : Nat → ClassId} {L : List Nat} {ad : Nat → Nat} {A : Nat → Prop} {o : Mm} (N : Nat)   (C0 : Cx p m meth c cX0_markListed none 4 s args wsX0_markListed RX0 D cy) (hA : ∀ q : Nat, s.heap.size ≤ q → A q)  : ∀ (n : Nat), ∀ (v2 : Int32) (u : Mm) (H : Heap) (locs : List Loc) (ls : Array Slot), vn L 0 55 → vn L 3 51 → Wd D cy L ad A s.heap u H locs → lv_has ls 4 [(0, .ref (ad 55)), (1, .ref (ad 51)), (2, .int v2)] → f_X0_markListed_10 N   n v2 u = some o → W p l e ({ frames := 3, cells := 0, slots := 0, locals := 69 } : Room) s m args below meth c H locs 0 0 (MQ below (QcV D cy L ad A o) args s 0 0 A) (F0 m 10 ls []) := by
  intro n
  induction n with
  | zero =>
    intro v2 u H locs ls hv_t0 hv_t1 hw hl h
    cases h
  | succ n ih => exact jg_X0_markListed_10 N   C0 hA  _ ih
def f_X0_markListed (N : Nat)  (u : Mm) : Option (Mm) :=
  f_X0_markListed_10 N N 0 u
set_option maxHeartbeats 4000000 in
set_option maxRecDepth 100000 in
theorem c_X0_markListed (l : Launch) (D : va_G) (cy : Nat → ClassId) (L : List Nat) (ad : Nat → Nat) (N : Nat)  (u : Mm) (o : Mm) (h_this : vn L 0 55) (h : f_X0_markListed N  u = some o) : MtV l yX0_markListed wsX0_markListed ({ frames := 3, cells := 0, slots := 0, locals := 69 } : Room) D cy L ad [.ref (ad 55)] u o := by
  intro sz
  refine Met.ofW (cc := cX0_markListed) (maxL := 4) (ret := none) (by decide) rfl ?_
  intro p e s m args below meth c s₁ B hml hv
  obtain ⟨rfl, hsz, hP, hK, hD0, hok⟩ := hv
  have hx := B.exec
  have hb := B.bytes
  have hr := B.returns
  have hts := atoms_spec (ws := wsX0_markListed) B.pre
  have hown : s.vm.findClass RX0 = some m.cls := findClass_of_methodNamed B.named
  have hlocks := B.notSynchronized
  subst hsz
  have hw := wd_start hP hD0 hok
  have hA : ∀ q : Nat, s.heap.size ≤ q → va_A (wl cy L ad u) s.heap.size q := fun q h => Or.inr h
  generalize va_A (wl cy L ad u) s.heap.size = A at hw hA ⊢
  have C0 : Cx p m meth c cX0_markListed none 4 s _ wsX0_markListed RX0 D cy := ⟨hx, hb, hr, hml, hown, hts, hlocks, hK⟩
  have hl := lv_entry ([.ref (ad 55)]) (n := 4) (Nat.le_of_ble_eq_true rfl)
  rw [lg_entry_eq]
  generalize (lg_sl ([.ref (ad 55)]) ++ List.replicate (4 - (lg_sl ([.ref (ad 55)])).length) Slot.unset).toArray = ls at hl ⊢
  have hl : lv_has ls 4 [(0, .ref (ad 55))] := hl
  unfold f_X0_markListed at h
  refine lv_aload_n hx hb dX0_markListed_0 rfl (lv_at hl 0 rfl) ?_
  refine r_getC (t2 := 1) (d := 48) hx hb hts n_X0_markListed_X0 hown hK hw h_this (by decide) rfl 1 (by decide) rfl rfl (hts _ k_X0_markListed_1) (fun _ q => q) dX0_markListed_1 (fun hv1 => ?_)
  refine r_getC (t2 := 3) (d := 51) hx hb hts n_X0_markListed_X1 hown hK hw hv1 (by decide) rfl 2 (by decide) rfl rfl (hts _ k_X0_markListed_2) (fun _ q => q) dX0_markListed_4 (fun hv2 => ?_)
  refine lv_astore_n (lv' := [(1, .ref (ad 51)), (0, .ref (ad 55))]) hx hb dX0_markListed_7 rfl hl (by decide) rfl (fun ls hl => ?_)
  refine lv_iconst (v := 0) hx hb dX0_markListed_8 (by decide) ?_
  refine lv_istore_n (lv' := [(2, .int 0), (1, .ref (ad 51)), (0, .ref (ad 55))]) hx hb dX0_markListed_9 rfl hl (by decide) rfl (fun ls hl => ?_)
  exact j_X0_markListed_10 N C0 hA N 0 u _ _ _ h_this hv2 hw (lv_sub hl [2, 1, 0] rfl) h
theorem k_X0_judge_1 : Cond.fieldLink RX0 78 "RingHeap$Thing" "colour" "I" ∈ wsX0_judge := List.mem_of_getElem? (i := 1) (by rfl)
theorem n_X0_judge_X5 : ∀ w ∈ u_ws RX5 TX5 11, w ∈ wsX0_judge := fun _ h => List.mem_cons_of_mem _ (List.mem_append_left _ (List.mem_append_left _ (List.mem_append_right _ h)))
theorem k_X0_judge_2 : Cond.fieldLink RX0 98 "RingHeap$Thing" "count" "I" ∈ wsX0_judge := List.mem_of_getElem? (i := 2) (by rfl)
theorem k_X0_judge_3 : Cond.fieldLink RX0 12 "RingHeap$Collector" "reached" "LRingHeap$Row;" ∈ wsX0_judge := List.mem_of_getElem? (i := 3) (by rfl)
theorem n_X0_judge_X0 : ∀ w ∈ u_ws RX0 TX0 7, w ∈ wsX0_judge := fun _ h => List.mem_cons_of_mem _ (List.mem_append_left _ (List.mem_append_right _ h))
def f_X0_judge (N : Nat) (p0 : Nat) (u : Mm) : Option (Mm) :=
  pt (u.1 p0 5) (fun x1 => if x1 = 1 then (pt (u.1 p0 3) (fun x2 => if x2 ≤ 0 then (pt (sI u p0 5 2) (fun u => bv (f_X3_append N 56 p0 u) (fun u => some u))) else (bv (f_X0_blackenFrom N p0 u) (fun u => some u)))) else (some u))
set_option maxHeartbeats 4000000 in
set_option maxRecDepth 100000 in
theorem c_X0_judge (l : Launch) (D : va_G) (cy : Nat → ClassId) (L : List Nat) (ad : Nat → Nat) (N : Nat) (p0 : Nat) (u : Mm) (o : Mm) (h_this : vn L 0 55) (h_p0 : vn L 5 p0) (h : f_X0_judge N p0 u = some o) : MtV l yX0_judge wsX0_judge ({ frames := 3, cells := 0, slots := 0, locals := 69 } : Room) D cy L ad [.ref (ad 55), .ref (ad p0)] u o := by
  intro sz
  refine Met.ofW (cc := cX0_judge) (maxL := 2) (ret := none) (by decide) rfl ?_
  intro p e s m args below meth c s₁ B hml hv
  obtain ⟨rfl, hsz, hP, hK, hD0, hok⟩ := hv
  have hx := B.exec
  have hb := B.bytes
  have hr := B.returns
  have hts := atoms_spec (ws := wsX0_judge) B.pre
  have hown : s.vm.findClass RX0 = some m.cls := findClass_of_methodNamed B.named
  have hlocks := B.notSynchronized
  subst hsz
  have hw := wd_start hP hD0 hok
  have hA : ∀ q : Nat, s.heap.size ≤ q → va_A (wl cy L ad u) s.heap.size q := fun q h => Or.inr h
  generalize va_A (wl cy L ad u) s.heap.size = A at hw hA ⊢
  have C0 : Cx p m meth c cX0_judge none 2 s _ wsX0_judge RX0 D cy := ⟨hx, hb, hr, hml, hown, hts, hlocks, hK⟩
  have hl := lv_entry ([.ref (ad 55), .ref (ad p0)]) (n := 2) (Nat.le_of_ble_eq_true rfl)
  rw [lg_entry_eq]
  generalize (lg_sl ([.ref (ad 55), .ref (ad p0)]) ++ List.replicate (2 - (lg_sl ([.ref (ad 55), .ref (ad p0)])).length) Slot.unset).toArray = ls at hl ⊢
  have hl : lv_has ls 2 [(0, .ref (ad 55)), (1, .ref (ad p0))] := hl
  unfold f_X0_judge at h
  refine lv_aload_n hx hb dX0_judge_0 rfl (lv_at hl 1 rfl) ?_
  refine r_getI hx hb hts n_X0_judge_X5 hown hK hw h_p0 (by decide) rfl 5 (by decide) rfl (hts _ k_X0_judge_1) (fun _ q => q) dX0_judge_1 h (fun x1 h => ?_)
  refine lv_iconst (v := 1) hx hb dX0_judge_4 (by decide) ?_
  refine lv_icmp_eq (tgt := 9) hx hb dX0_judge_5 (by decide) (fun hc => ?_) (fun hc => ?_)
  · rw [if_pos hc] at h
    refine lv_aload_n hx hb dX0_judge_9 rfl (lv_at hl 1 rfl) ?_
    refine r_getI hx hb hts n_X0_judge_X5 hown hK hw h_p0 (by decide) rfl 3 (by decide) rfl (hts _ k_X0_judge_2) (fun _ q => q) dX0_judge_10 h (fun x2 h => ?_)
    refine lv_if_le (tgt := 24) hx hb dX0_judge_13 (by decide) (fun hc => ?_) (fun hc => ?_)
    · rw [if_pos hc] at h
      refine lv_aload_n hx hb dX0_judge_24 rfl (lv_at hl 1 rfl) ?_
      refine lv_iconst (v := 2) hx hb dX0_judge_25 (by decide) ?_
      refine r_putI (ty := .int) hx hb hts n_X0_judge_X5 tyX5 tyX5_ok nmX5 hown hK hw h_p0 (by decide) rfl 5 (by decide) rfl (hts _ k_X0_judge_1) (fun _ q => q) rfl rfl rfl rfl dX0_judge_26 h (fun u H locs hw h => ?_)
      refine lv_aload_n hx hb dX0_judge_29 rfl (lv_at hl 0 rfl) ?_
      refine r_getC (t2 := 3) (d := 56) hx hb hts n_X0_judge_X0 hown hK hw h_this (by decide) rfl 2 (by decide) rfl rfl (hts _ k_X0_judge_3) (fun _ q => q) dX0_judge_30 (fun hv3 => ?_)
      refine lv_aload_n hx hb dX0_judge_33 rfl (lv_at hl 1 rfl) ?_
      refine r_bV (fun o ho => r_vV (As := [.ref (ad p0)]) (rest := []) ⟨hx, hb, hml, hown, hts⟩ (c_X3_append l D cy L ad N 56 p0 u o hv3 h_p0 ho) (cwV 1 hts gX0_judge_X3_append rfl rfl rfl (by decide +kernel) ⟨Nat.le_of_ble_eq_true rfl, Nat.le_of_ble_eq_true rfl⟩) hw hK hv3 (by decide) rfl rfl hl.1 rfl (Nat.le_of_ble_eq_true rfl) dX0_judge_34 ⟨Nat.zero_le _, Nat.zero_le _⟩) hw hA h (fun u H locs hw h => ?_)
      exact r_vret hx hb hr hlocks hK hw h dX0_judge_37
    · rw [if_neg hc] at h
      refine lv_aload_n hx hb dX0_judge_16 rfl (lv_at hl 0 rfl) ?_
      refine lv_aload_n hx hb dX0_judge_17 rfl (lv_at hl 1 rfl) ?_
      refine r_bV (fun o ho => r_vV (As := [.ref (ad p0)]) (rest := []) ⟨hx, hb, hml, hown, hts⟩ (c_X0_blackenFrom l D cy L ad N p0 u o h_this h_p0 ho) (cwV 1 hts gX0_judge_X0_blackenFrom rfl rfl rfl (by decide +kernel) ⟨Nat.le_of_ble_eq_true rfl, Nat.le_of_ble_eq_true rfl⟩) hw hK h_this (by decide) rfl rfl hl.1 rfl (Nat.le_of_ble_eq_true rfl) dX0_judge_18 ⟨Nat.zero_le _, Nat.zero_le _⟩) hw hA h (fun u H locs hw h => ?_)
      refine lv_goto (tgt := 37) hx hb dX0_judge_21 (by decide) ?_
      exact r_vret hx hb hr hlocks hK hw h dX0_judge_37
  · rw [if_neg hc] at h
    exact r_vret hx hb hr hlocks hK hw h dX0_judge_8
theorem k_X0_scanFrom_1 : Cond.fieldLink RX0 12 "RingHeap$Collector" "reached" "LRingHeap$Row;" ∈ wsX0_scanFrom := List.mem_of_getElem? (i := 1) (by rfl)
theorem n_X0_scanFrom_X0 : ∀ w ∈ u_ws RX0 TX0 7, w ∈ wsX0_scanFrom := fun _ h => List.mem_cons_of_mem _ (List.mem_append_left _ (List.mem_append_left _ (List.mem_append_right _ h)))
theorem k_X0_scanFrom_2 : Cond.fieldLink RX0 58 "RingHeap$Row" "length" "I" ∈ wsX0_scanFrom := List.mem_of_getElem? (i := 2) (by rfl)
theorem n_X0_scanFrom_X3 : ∀ w ∈ u_ws RX3 TX3 2, w ∈ wsX0_scanFrom := fun _ h => List.mem_cons_of_mem _ (List.mem_append_left _ (List.mem_append_right _ h))
theorem k_X0_scanFrom_3 : Cond.fieldLink RX0 90 "RingHeap$Thing" "held" "[LRingHeap$Thing;" ∈ wsX0_scanFrom := List.mem_of_getElem? (i := 3) (by rfl)
theorem n_X0_scanFrom_X5 : ∀ w ∈ u_ws RX5 TX5 11, w ∈ wsX0_scanFrom := fun _ h => List.mem_cons_of_mem _ (List.mem_append_right _ h)
def f_X0_scanFrom_92 (N : Nat) (p0 : Nat) (K14 : Int32 → Mm → Option (Mm)) (v2 : Int32) (u : Mm) : Option (Mm) :=
  K14 (v2 + 1) u
set_option maxHeartbeats 4000000 in
set_option maxRecDepth 100000 in
theorem j_X0_scanFrom_92 {p : Program} {l : Launch} {e : Env} {s : State} {m : MethodId} {args : Array Value} {below : List Frame} {meth : Method} {c : Code} {D : va_G} {cy : Nat → ClassId} {L : List Nat} {ad : Nat → Nat} {A : Nat → Prop} {o : Mm} (N : Nat) (p0 : Nat) (h_p0 : vn L 5 p0) (C0 : Cx p m meth c cX0_scanFrom none 8 s args wsX0_scanFrom RX0 D cy) (hA : ∀ q : Nat, s.heap.size ≤ q → A q) (K14 : Int32 → Mm → Option (Mm)) (hK14 : ∀ (v2 : Int32) (u : Mm) (H : Heap) (locs : List Loc) (ls : Array Slot), vn L 0 55 → Wd D cy L ad A s.heap u H locs → lv_has ls 8 [(0, .ref (ad 55)), (2, .int v2)] → K14 v2 u = some o → W p l e ({ frames := 4, cells := 0, slots := 0, locals := 90 } : Room) s m args below meth c H locs 0 0 (MQ below (QcV D cy L ad A o) args s 0 0 A) (F0 m 14 ls [])) : ∀ (v2 : Int32) (u : Mm) (H : Heap) (locs : List Loc) (ls : Array Slot), vn L 0 55 → Wd D cy L ad A s.heap u H locs → lv_has ls 8 [(0, .ref (ad 55)), (2, .int v2)] → f_X0_scanFrom_92 N p0 K14 v2 u = some o → W p l e ({ frames := 4, cells := 0, slots := 0, locals := 90 } : Room) s m args below meth c H locs 0 0 (MQ below (QcV D cy L ad A o) args s 0 0 A) (F0 m 92 ls []) := by
  obtain ⟨hx, hb, hr, hml, hown, hts, hlocks, hK⟩ := id C0
  intro v2 u H locs ls hv_t0 hw hl h
  unfold f_X0_scanFrom_92 at h
  refine lv_iinc (v := v2 + 1) (lv' := [(2, .int (v2 + 1)), (0, .ref (ad 55))]) hx hb dX0_scanFrom_92 hl (k := 1) rfl rfl (by decide) rfl (fun ls hl => ?_)
  refine lv_goto (tgt := 14) hx hb dX0_scanFrom_95 (by decide) ?_
  exact hK14 (v2 + 1) u _ _ _ hv_t0 hw (lv_sub hl [1, 0] rfl) h
def f_X0_scanFrom_86 (N : Nat) (p0 : Nat) (K14 : Int32 → Mm → Option (Mm)) (K61 : Int32 → Nat → Int32 → Int32 → Mm → Option (Mm)) (v2 : Int32) (t4 : Nat) (v5 : Int32) (v6 : Int32) (u : Mm) : Option (Mm) :=
  K61 v2 t4 v5 (v6 + 1) u
set_option maxHeartbeats 4000000 in
set_option maxRecDepth 100000 in
theorem j_X0_scanFrom_86 {p : Program} {l : Launch} {e : Env} {s : State} {m : MethodId} {args : Array Value} {below : List Frame} {meth : Method} {c : Code} {D : va_G} {cy : Nat → ClassId} {L : List Nat} {ad : Nat → Nat} {A : Nat → Prop} {o : Mm} (N : Nat) (p0 : Nat) (h_p0 : vn L 5 p0) (C0 : Cx p m meth c cX0_scanFrom none 8 s args wsX0_scanFrom RX0 D cy) (hA : ∀ q : Nat, s.heap.size ≤ q → A q) (K14 : Int32 → Mm → Option (Mm)) (hK14 : ∀ (v2 : Int32) (u : Mm) (H : Heap) (locs : List Loc) (ls : Array Slot), vn L 0 55 → Wd D cy L ad A s.heap u H locs → lv_has ls 8 [(0, .ref (ad 55)), (2, .int v2)] → K14 v2 u = some o → W p l e ({ frames := 4, cells := 0, slots := 0, locals := 90 } : Room) s m args below meth c H locs 0 0 (MQ below (QcV D cy L ad A o) args s 0 0 A) (F0 m 14 ls [])) (K61 : Int32 → Nat → Int32 → Int32 → Mm → Option (Mm)) (hK61 : ∀ (v2 : Int32) (t4 : Nat) (v5 : Int32) (v6 : Int32) (u : Mm) (H : Heap) (locs : List Loc) (ls : Array Slot), vn L 0 55 → vn L 12 t4 → Wd D cy L ad A s.heap u H locs → lv_has ls 8 [(0, .ref (ad 55)), (2, .int v2), (4, .ref (ad t4)), (5, .int v5), (6, .int v6)] → K61 v2 t4 v5 v6 u = some o → W p l e ({ frames := 4, cells := 0, slots := 0, locals := 90 } : Room) s m args below meth c H locs 0 0 (MQ below (QcV D cy L ad A o) args s 0 0 A) (F0 m 61 ls [])) : ∀ (v2 : Int32) (t4 : Nat) (v5 : Int32) (v6 : Int32) (u : Mm) (H : Heap) (locs : List Loc) (ls : Array Slot), vn L 0 55 → vn L 12 t4 → Wd D cy L ad A s.heap u H locs → lv_has ls 8 [(0, .ref (ad 55)), (2, .int v2), (4, .ref (ad t4)), (5, .int v5), (6, .int v6)] → f_X0_scanFrom_86 N p0 K14 K61 v2 t4 v5 v6 u = some o → W p l e ({ frames := 4, cells := 0, slots := 0, locals := 90 } : Room) s m args below meth c H locs 0 0 (MQ below (QcV D cy L ad A o) args s 0 0 A) (F0 m 86 ls []) := by
  obtain ⟨hx, hb, hr, hml, hown, hts, hlocks, hK⟩ := id C0
  intro v2 t4 v5 v6 u H locs ls hv_t0 hv_t4 hw hl h
  unfold f_X0_scanFrom_86 at h
  refine lv_iinc (v := v6 + 1) (lv' := [(6, .int (v6 + 1)), (0, .ref (ad 55)), (2, .int v2), (4, .ref (ad t4)), (5, .int v5)]) hx hb dX0_scanFrom_86 hl (k := 4) rfl rfl (by decide) rfl (fun ls hl => ?_)
  refine lv_goto (tgt := 61) hx hb dX0_scanFrom_89 (by decide) ?_
  exact hK61 v2 t4 v5 (v6 + 1) u _ _ _ hv_t0 hv_t4 hw (lv_sub hl [1, 2, 3, 4, 0] rfl) h
def g_X0_scanFrom_61 (N : Nat) (p0 : Nat) (K14 : Int32 → Mm → Option (Mm)) (K61 : Int32 → Nat → Int32 → Int32 → Mm → Option (Mm)) (v2 : Int32) (t4 : Nat) (v5 : Int32) (v6 : Int32) (u : Mm) : Option (Mm) :=
  if v5 ≤ v6 then (f_X0_scanFrom_92 N p0 K14 v2 u) else (ck (bI v6 (ln t4)) (pt (u.2 t4 (ix v6)) (fun r9 => nl r9 (f_X0_scanFrom_86 N p0 K14 K61 v2 t4 v5 v6 u) (fun t10 => bv (f_X0_judge N t10 u) (fun u => f_X0_scanFrom_86 N p0 K14 K61 v2 t4 v5 v6 u)))))
def f_X0_scanFrom_61 (N : Nat) (p0 : Nat) (K14 : Int32 → Mm → Option (Mm)) : Nat → Int32 → Nat → Int32 → Int32 → Mm → Option (Mm)
  | 0 => fun _ _ _ _ _ => none
  | n + 1 => g_X0_scanFrom_61 N p0 K14 (f_X0_scanFrom_61 N p0 K14 n)
set_option maxHeartbeats 4000000 in
set_option maxRecDepth 100000 in
theorem jg_X0_scanFrom_61 {p : Program} {l : Launch} {e : Env} {s : State} {m : MethodId} {args : Array Value} {below : List Frame} {meth : Method} {c : Code} {D : va_G} {cy : Nat → ClassId} {L : List Nat} {ad : Nat → Nat} {A : Nat → Prop} {o : Mm} (N : Nat) (p0 : Nat) (h_p0 : vn L 5 p0) (C0 : Cx p m meth c cX0_scanFrom none 8 s args wsX0_scanFrom RX0 D cy) (hA : ∀ q : Nat, s.heap.size ≤ q → A q) (K14 : Int32 → Mm → Option (Mm)) (hK14 : ∀ (v2 : Int32) (u : Mm) (H : Heap) (locs : List Loc) (ls : Array Slot), vn L 0 55 → Wd D cy L ad A s.heap u H locs → lv_has ls 8 [(0, .ref (ad 55)), (2, .int v2)] → K14 v2 u = some o → W p l e ({ frames := 4, cells := 0, slots := 0, locals := 90 } : Room) s m args below meth c H locs 0 0 (MQ below (QcV D cy L ad A o) args s 0 0 A) (F0 m 14 ls [])) (K61 : Int32 → Nat → Int32 → Int32 → Mm → Option (Mm)) (hK61 : ∀ (v2 : Int32) (t4 : Nat) (v5 : Int32) (v6 : Int32) (u : Mm) (H : Heap) (locs : List Loc) (ls : Array Slot), vn L 0 55 → vn L 12 t4 → Wd D cy L ad A s.heap u H locs → lv_has ls 8 [(0, .ref (ad 55)), (2, .int v2), (4, .ref (ad t4)), (5, .int v5), (6, .int v6)] → K61 v2 t4 v5 v6 u = some o → W p l e ({ frames := 4, cells := 0, slots := 0, locals := 90 } : Room) s m args below meth c H locs 0 0 (MQ below (QcV D cy L ad A o) args s 0 0 A) (F0 m 61 ls [])) : ∀ (v2 : Int32) (t4 : Nat) (v5 : Int32) (v6 : Int32) (u : Mm) (H : Heap) (locs : List Loc) (ls : Array Slot), vn L 0 55 → vn L 12 t4 → Wd D cy L ad A s.heap u H locs → lv_has ls 8 [(0, .ref (ad 55)), (2, .int v2), (4, .ref (ad t4)), (5, .int v5), (6, .int v6)] → g_X0_scanFrom_61 N p0 K14 K61 v2 t4 v5 v6 u = some o → W p l e ({ frames := 4, cells := 0, slots := 0, locals := 90 } : Room) s m args below meth c H locs 0 0 (MQ below (QcV D cy L ad A o) args s 0 0 A) (F0 m 61 ls []) := by
  obtain ⟨hx, hb, hr, hml, hown, hts, hlocks, hK⟩ := id C0
  intro v2 t4 v5 v6 u H locs ls hv_t0 hv_t4 hw hl h
  unfold g_X0_scanFrom_61 at h
  refine lv_iload hx hb dX0_scanFrom_61 (lv_at hl 4 rfl) ?_
  refine lv_iload hx hb dX0_scanFrom_63 (lv_at hl 3 rfl) ?_
  refine lv_icmp_ge (tgt := 92) hx hb dX0_scanFrom_65 (by decide) (fun hc => ?_) (fun hc => ?_)
  · rw [if_pos hc] at h
    exact j_X0_scanFrom_92 N p0 h_p0 C0 hA K14 hK14 v2 u _ _ _ hv_t0 hw (lv_sub hl [0, 1] rfl) h
  · rw [if_neg hc] at h
    refine lv_aload hx hb dX0_scanFrom_68 (lv_at hl 2 rfl) ?_
    refine lv_iload hx hb dX0_scanFrom_70 (lv_at hl 4 rfl) ?_
    refine r_tald (n := (ln t4)) hx hb hK hw hv_t4 rfl dX0_scanFrom_72 h (fun r9 hv_r9 h => ?_)
    refine r_astore (lv' := [(7, va_re ad r9), (0, .ref (ad 55)), (2, .int v2), (4, .ref (ad t4)), (5, .int v5), (6, .int v6)]) hx hb dX0_scanFrom_73 hl (by decide) rfl (fun ls hl => ?_)
    refine r_aload hx hb dX0_scanFrom_75 (lv_at hl 0 rfl) ?_
    refine r_ifnull (tgt := 86) hx hb hv_r9 dX0_scanFrom_77 (by decide) h (fun e11 h9 => ?_) (fun t10 e11 hv_t10 h9 => ?_)
    · clear h
      subst e11
      have h := h9
      have hl : lv_has ls 8 [(7, va_re ad none), (0, .ref (ad 55)), (2, .int v2), (4, .ref (ad t4)), (5, .int v5), (6, .int v6)] := hl
      exact j_X0_scanFrom_86 N p0 h_p0 C0 hA K14 hK14 K61 hK61 v2 t4 v5 v6 u _ _ _ hv_t0 hv_t4 hw (lv_sub hl [1, 2, 3, 4, 5] rfl) h
    · clear h
      subst e11
      have h := h9
      have hl : lv_has ls 8 [(7, .ref (ad t10)), (0, .ref (ad 55)), (2, .int v2), (4, .ref (ad t4)), (5, .int v5), (6, .int v6)] := hl
      refine lv_aload_n hx hb dX0_scanFrom_80 rfl (lv_at hl 1 rfl) ?_
      refine lv_aload hx hb dX0_scanFrom_81 (lv_at hl 0 rfl) ?_
      refine r_bV (fun o ho => r_vV (As := [.ref (ad t10)]) (rest := []) ⟨hx, hb, hml, hown, hts⟩ (c_X0_judge l D cy L ad N t10 u o hv_t0 hv_t10 ho) (cwV 1 hts gX0_scanFrom_X0_judge rfl rfl rfl (by decide +kernel) ⟨Nat.le_of_ble_eq_true rfl, Nat.le_of_ble_eq_true rfl⟩) hw hK hv_t0 (by decide) rfl rfl hl.1 rfl (Nat.le_of_ble_eq_true rfl) dX0_scanFrom_83 ⟨Nat.zero_le _, Nat.zero_le _⟩) hw hA h (fun u H locs hw h => ?_)
      exact j_X0_scanFrom_86 N p0 h_p0 C0 hA K14 hK14 K61 hK61 v2 t4 v5 v6 u _ _ _ hv_t0 hv_t4 hw (lv_sub hl [1, 2, 3, 4, 5] rfl) h
set_option maxHeartbeats 4000000 in
set_option maxRecDepth 100000 in
theorem j_X0_scanFrom_61 {p : Program} {l : Launch} {e : Env} {s : State} {m : MethodId} {args : Array Value} {below : List Frame} {meth : Method} {c : Code} {D : va_G} {cy : Nat → ClassId} {L : List Nat} {ad : Nat → Nat} {A : Nat → Prop} {o : Mm} (N : Nat) (p0 : Nat) (h_p0 : vn L 5 p0) (C0 : Cx p m meth c cX0_scanFrom none 8 s args wsX0_scanFrom RX0 D cy) (hA : ∀ q : Nat, s.heap.size ≤ q → A q) (K14 : Int32 → Mm → Option (Mm)) (hK14 : ∀ (v2 : Int32) (u : Mm) (H : Heap) (locs : List Loc) (ls : Array Slot), vn L 0 55 → Wd D cy L ad A s.heap u H locs → lv_has ls 8 [(0, .ref (ad 55)), (2, .int v2)] → K14 v2 u = some o → W p l e ({ frames := 4, cells := 0, slots := 0, locals := 90 } : Room) s m args below meth c H locs 0 0 (MQ below (QcV D cy L ad A o) args s 0 0 A) (F0 m 14 ls [])) : ∀ (n : Nat), ∀ (v2 : Int32) (t4 : Nat) (v5 : Int32) (v6 : Int32) (u : Mm) (H : Heap) (locs : List Loc) (ls : Array Slot), vn L 0 55 → vn L 12 t4 → Wd D cy L ad A s.heap u H locs → lv_has ls 8 [(0, .ref (ad 55)), (2, .int v2), (4, .ref (ad t4)), (5, .int v5), (6, .int v6)] → f_X0_scanFrom_61 N p0 K14 n v2 t4 v5 v6 u = some o → W p l e ({ frames := 4, cells := 0, slots := 0, locals := 90 } : Room) s m args below meth c H locs 0 0 (MQ below (QcV D cy L ad A o) args s 0 0 A) (F0 m 61 ls []) := by
  intro n
  induction n with
  | zero =>
    intro v2 t4 v5 v6 u H locs ls hv_t0 hv_t4 hw hl h
    cases h
  | succ n ih => exact jg_X0_scanFrom_61 N p0 h_p0 C0 hA K14 hK14 _ ih
def g_X0_scanFrom_14 (N : Nat) (p0 : Nat) (K14 : Int32 → Mm → Option (Mm)) (v2 : Int32) (u : Mm) : Option (Mm) :=
  if 80 ≤ v2 then (some u) else (pt (u.1 56 1) (fun x3 => if x3 ≤ v2 then (some u) else (bd (f_X3_item N 56 v2 u) (fun r5 u => nl r5 (f_X0_scanFrom_92 N p0 K14 v2 u) (fun t6 => f_X0_scanFrom_61 N p0 K14 N v2 (t6 + 1) 6 0 u)))))
def f_X0_scanFrom_14 (N : Nat) (p0 : Nat)  : Nat → Int32 → Mm → Option (Mm)
  | 0 => fun _ _ => none
  | n + 1 => g_X0_scanFrom_14 N p0  (f_X0_scanFrom_14 N p0  n)
set_option maxHeartbeats 4000000 in
set_option maxRecDepth 100000 in
theorem jg_X0_scanFrom_14 {p : Program} {l : Launch} {e : Env} {s : State} {m : MethodId} {args : Array Value} {below : List Frame} {meth : Method} {c : Code} {D : va_G} {cy : Nat → ClassId} {L : List Nat} {ad : Nat → Nat} {A : Nat → Prop} {o : Mm} (N : Nat) (p0 : Nat) (h_p0 : vn L 5 p0) (C0 : Cx p m meth c cX0_scanFrom none 8 s args wsX0_scanFrom RX0 D cy) (hA : ∀ q : Nat, s.heap.size ≤ q → A q)  (K14 : Int32 → Mm → Option (Mm)) (hK14 : ∀ (v2 : Int32) (u : Mm) (H : Heap) (locs : List Loc) (ls : Array Slot), vn L 0 55 → Wd D cy L ad A s.heap u H locs → lv_has ls 8 [(0, .ref (ad 55)), (2, .int v2)] → K14 v2 u = some o → W p l e ({ frames := 4, cells := 0, slots := 0, locals := 90 } : Room) s m args below meth c H locs 0 0 (MQ below (QcV D cy L ad A o) args s 0 0 A) (F0 m 14 ls [])) : ∀ (v2 : Int32) (u : Mm) (H : Heap) (locs : List Loc) (ls : Array Slot), vn L 0 55 → Wd D cy L ad A s.heap u H locs → lv_has ls 8 [(0, .ref (ad 55)), (2, .int v2)] → g_X0_scanFrom_14 N p0  K14 v2 u = some o → W p l e ({ frames := 4, cells := 0, slots := 0, locals := 90 } : Room) s m args below meth c H locs 0 0 (MQ below (QcV D cy L ad A o) args s 0 0 A) (F0 m 14 ls []) := by
  obtain ⟨hx, hb, hr, hml, hown, hts, hlocks, hK⟩ := id C0
  intro v2 u H locs ls hv_t0 hw hl h
  unfold g_X0_scanFrom_14 at h
  refine lv_iload_n hx hb dX0_scanFrom_14 rfl (lv_at hl 1 rfl) ?_
  refine lv_bipush (v := 80) hx hb dX0_scanFrom_15 (by decide) ?_
  refine lv_icmp_ge (tgt := 98) hx hb dX0_scanFrom_17 (by decide) (fun hc => ?_) (fun hc => ?_)
  · rw [if_pos hc] at h
    exact r_vret hx hb hr hlocks hK hw h dX0_scanFrom_98
  · rw [if_neg hc] at h
    refine lv_iload_n hx hb dX0_scanFrom_20 rfl (lv_at hl 1 rfl) ?_
    refine lv_aload_n hx hb dX0_scanFrom_21 rfl (lv_at hl 0 rfl) ?_
    refine r_getC (t2 := 3) (d := 56) hx hb hts n_X0_scanFrom_X0 hown hK hw hv_t0 (by decide) rfl 2 (by decide) rfl rfl (hts _ k_X0_scanFrom_1) (fun _ q => q) dX0_scanFrom_22 (fun hv2 => ?_)
    refine r_getI hx hb hts n_X0_scanFrom_X3 hown hK hw hv2 (by decide) rfl 1 (by decide) rfl (hts _ k_X0_scanFrom_2) (fun _ q => q) dX0_scanFrom_25 h (fun x3 h => ?_)
    refine lv_icmp_ge (tgt := 98) hx hb dX0_scanFrom_28 (by decide) (fun hc => ?_) (fun hc => ?_)
    · rw [if_pos hc] at h
      exact r_vret hx hb hr hlocks hK hw h dX0_scanFrom_98
    · rw [if_neg hc] at h
      refine lv_aload_n hx hb dX0_scanFrom_31 rfl (lv_at hl 0 rfl) ?_
      refine r_getC (t2 := 3) (d := 56) hx hb hts n_X0_scanFrom_X0 hown hK hw hv_t0 (by decide) rfl 2 (by decide) rfl rfl (hts _ k_X0_scanFrom_1) (fun _ q => q) dX0_scanFrom_32 (fun hv4 => ?_)
      refine lv_iload_n hx hb dX0_scanFrom_35 rfl (lv_at hl 1 rfl) ?_
      refine r_bQ (fun o ho => r_vQ (As := [.int v2]) (rest := []) ⟨hx, hb, hml, hown, hts⟩ (c_X3_item l D cy L ad N 56 v2 u o hv4 ho) (cwV 1 hts gX0_scanFrom_X3_item rfl rfl rfl (by decide +kernel) ⟨Nat.le_of_ble_eq_true rfl, Nat.le_of_ble_eq_true rfl⟩) hw hK hv4 (by decide) rfl rfl hl.1 rfl (Nat.le_of_ble_eq_true rfl) dX0_scanFrom_36 ⟨Nat.zero_le _, Nat.zero_le _⟩) hw hA h (fun r5 u H locs hw hv_r5 h => ?_)
      refine r_astoren (lv' := [(3, va_re ad r5), (0, .ref (ad 55)), (2, .int v2)]) hx hb dX0_scanFrom_39 rfl hl (by decide) rfl (fun ls hl => ?_)
      refine r_aloadn hx hb dX0_scanFrom_40 rfl (lv_at hl 0 rfl) ?_
      refine r_ifnonnull (tgt := 47) hx hb hv_r5 dX0_scanFrom_41 (by decide) h (fun e7 h9 => ?_) (fun t6 e7 hv_t6 h9 => ?_)
      · clear h
        subst e7
        have h := h9
        have hl : lv_has ls 8 [(3, va_re ad none), (0, .ref (ad 55)), (2, .int v2)] := hl
        refine lv_goto (tgt := 92) hx hb dX0_scanFrom_44 (by decide) ?_
        exact j_X0_scanFrom_92 N p0 h_p0 C0 hA K14 hK14 v2 u _ _ _ hv_t0 hw (lv_sub hl [1, 2] rfl) h
      · clear h
        subst e7
        have h := h9
        have hl : lv_has ls 8 [(3, .ref (ad t6)), (0, .ref (ad 55)), (2, .int v2)] := hl
        refine lv_aload_n hx hb dX0_scanFrom_47 rfl (lv_at hl 0 rfl) ?_
        refine r_getC (t2 := 12) (d := (t6 + 1)) hx hb hts n_X0_scanFrom_X5 hown hK hw hv_t6 (by decide) rfl 2 (by decide) rfl (cst5 hv_t6.2) (hts _ k_X0_scanFrom_3) (fun _ q => q) dX0_scanFrom_48 (fun hv8 => ?_)
        refine lv_astore (lv' := [(4, .ref (ad (t6 + 1))), (3, .ref (ad t6)), (0, .ref (ad 55)), (2, .int v2)]) hx hb dX0_scanFrom_51 hl (by decide) rfl (fun ls hl => ?_)
        refine lv_aload hx hb dX0_scanFrom_53 (lv_at hl 0 rfl) ?_
        refine r_alen (n := 6) (v := 6) hx hb hK hw hv8 (by decide) (ln5s hv_t6.2) rfl dX0_scanFrom_55 ?_
        refine lv_istore (lv' := [(5, .int 6), (4, .ref (ad (t6 + 1))), (3, .ref (ad t6)), (0, .ref (ad 55)), (2, .int v2)]) hx hb dX0_scanFrom_56 hl (by decide) rfl (fun ls hl => ?_)
        refine lv_iconst (v := 0) hx hb dX0_scanFrom_58 (by decide) ?_
        refine lv_istore (lv' := [(6, .int 0), (5, .int 6), (4, .ref (ad (t6 + 1))), (3, .ref (ad t6)), (0, .ref (ad 55)), (2, .int v2)]) hx hb dX0_scanFrom_59 hl (by decide) rfl (fun ls hl => ?_)
        exact j_X0_scanFrom_61 N p0 h_p0 C0 hA K14 hK14 N v2 (t6 + 1) 6 0 u _ _ _ hv_t0 hv8 hw (lv_sub hl [4, 5, 2, 1, 0] rfl) h
set_option maxHeartbeats 4000000 in
set_option maxRecDepth 100000 in
theorem j_X0_scanFrom_14 {p : Program} {l : Launch} {e : Env} {s : State} {m : MethodId} {args : Array Value} {below : List Frame} {meth : Method} {c : Code} {D : va_G} {cy : Nat → ClassId} {L : List Nat} {ad : Nat → Nat} {A : Nat → Prop} {o : Mm} (N : Nat) (p0 : Nat) (h_p0 : vn L 5 p0) (C0 : Cx p m meth c cX0_scanFrom none 8 s args wsX0_scanFrom RX0 D cy) (hA : ∀ q : Nat, s.heap.size ≤ q → A q)  : ∀ (n : Nat), ∀ (v2 : Int32) (u : Mm) (H : Heap) (locs : List Loc) (ls : Array Slot), vn L 0 55 → Wd D cy L ad A s.heap u H locs → lv_has ls 8 [(0, .ref (ad 55)), (2, .int v2)] → f_X0_scanFrom_14 N p0  n v2 u = some o → W p l e ({ frames := 4, cells := 0, slots := 0, locals := 90 } : Room) s m args below meth c H locs 0 0 (MQ below (QcV D cy L ad A o) args s 0 0 A) (F0 m 14 ls []) := by
  intro n
  induction n with
  | zero =>
    intro v2 u H locs ls hv_t0 hw hl h
    cases h
  | succ n ih => exact jg_X0_scanFrom_14 N p0 h_p0 C0 hA  _ ih
def f_X0_scanFrom (N : Nat) (p0 : Nat) (u : Mm) : Option (Mm) :=
  bv (f_X3_clear N 56 u) (fun u => bv (f_X0_judge N p0 u) (fun u => f_X0_scanFrom_14 N p0 N 0 u))
set_option maxHeartbeats 4000000 in
set_option maxRecDepth 100000 in
theorem c_X0_scanFrom (l : Launch) (D : va_G) (cy : Nat → ClassId) (L : List Nat) (ad : Nat → Nat) (N : Nat) (p0 : Nat) (u : Mm) (o : Mm) (h_this : vn L 0 55) (h_p0 : vn L 5 p0) (h : f_X0_scanFrom N p0 u = some o) : MtV l yX0_scanFrom wsX0_scanFrom ({ frames := 4, cells := 0, slots := 0, locals := 90 } : Room) D cy L ad [.ref (ad 55), .ref (ad p0)] u o := by
  intro sz
  refine Met.ofW (cc := cX0_scanFrom) (maxL := 8) (ret := none) (by decide) rfl ?_
  intro p e s m args below meth c s₁ B hml hv
  obtain ⟨rfl, hsz, hP, hK, hD0, hok⟩ := hv
  have hx := B.exec
  have hb := B.bytes
  have hr := B.returns
  have hts := atoms_spec (ws := wsX0_scanFrom) B.pre
  have hown : s.vm.findClass RX0 = some m.cls := findClass_of_methodNamed B.named
  have hlocks := B.notSynchronized
  subst hsz
  have hw := wd_start hP hD0 hok
  have hA : ∀ q : Nat, s.heap.size ≤ q → va_A (wl cy L ad u) s.heap.size q := fun q h => Or.inr h
  generalize va_A (wl cy L ad u) s.heap.size = A at hw hA ⊢
  have C0 : Cx p m meth c cX0_scanFrom none 8 s _ wsX0_scanFrom RX0 D cy := ⟨hx, hb, hr, hml, hown, hts, hlocks, hK⟩
  have hl := lv_entry ([.ref (ad 55), .ref (ad p0)]) (n := 8) (Nat.le_of_ble_eq_true rfl)
  rw [lg_entry_eq]
  generalize (lg_sl ([.ref (ad 55), .ref (ad p0)]) ++ List.replicate (8 - (lg_sl ([.ref (ad 55), .ref (ad p0)])).length) Slot.unset).toArray = ls at hl ⊢
  have hl : lv_has ls 8 [(0, .ref (ad 55)), (1, .ref (ad p0))] := hl
  unfold f_X0_scanFrom at h
  refine lv_aload_n hx hb dX0_scanFrom_0 rfl (lv_at hl 0 rfl) ?_
  refine r_getC (t2 := 3) (d := 56) hx hb hts n_X0_scanFrom_X0 hown hK hw h_this (by decide) rfl 2 (by decide) rfl rfl (hts _ k_X0_scanFrom_1) (fun _ q => q) dX0_scanFrom_1 (fun hv1 => ?_)
  refine r_bV (fun o ho => r_vV (As := []) (rest := []) ⟨hx, hb, hml, hown, hts⟩ (c_X3_clear l D cy L ad N 56 u o hv1 ho) (cwV 0 hts gX0_scanFrom_X3_clear rfl rfl rfl (by decide +kernel) ⟨Nat.le_of_ble_eq_true rfl, Nat.le_of_ble_eq_true rfl⟩) hw hK hv1 (by decide) rfl rfl hl.1 rfl (Nat.le_of_ble_eq_true rfl) dX0_scanFrom_4 ⟨Nat.zero_le _, Nat.zero_le _⟩) hw hA h (fun u H locs hw h => ?_)
  refine lv_aload_n hx hb dX0_scanFrom_7 rfl (lv_at hl 0 rfl) ?_
  refine lv_aload_n hx hb dX0_scanFrom_8 rfl (lv_at hl 1 rfl) ?_
  refine r_bV (fun o ho => r_vV (As := [.ref (ad p0)]) (rest := []) ⟨hx, hb, hml, hown, hts⟩ (c_X0_judge l D cy L ad N p0 u o h_this h_p0 ho) (cwV 1 hts gX0_scanFrom_X0_judge rfl rfl rfl (by decide +kernel) ⟨Nat.le_of_ble_eq_true rfl, Nat.le_of_ble_eq_true rfl⟩) hw hK h_this (by decide) rfl rfl hl.1 rfl (Nat.le_of_ble_eq_true rfl) dX0_scanFrom_9 ⟨Nat.zero_le _, Nat.zero_le _⟩) hw hA h (fun u H locs hw h => ?_)
  refine lv_iconst (v := 0) hx hb dX0_scanFrom_12 (by decide) ?_
  refine lv_istore_n (lv' := [(2, .int 0), (0, .ref (ad 55)), (1, .ref (ad p0))]) hx hb dX0_scanFrom_13 rfl hl (by decide) rfl (fun ls hl => ?_)
  exact j_X0_scanFrom_14 N p0 h_p0 C0 hA N 0 u _ _ _ h_this hw (lv_sub hl [1, 0] rfl) h
theorem k_X0_scanListed_1 : Cond.fieldLink RX0 25 "RingHeap$Collector" "counting" "LRingHeap$Counting;" ∈ wsX0_scanListed := List.mem_of_getElem? (i := 1) (by rfl)
theorem n_X0_scanListed_X0 : ∀ w ∈ u_ws RX0 TX0 7, w ∈ wsX0_scanListed := fun _ h => List.mem_cons_of_mem _ (List.mem_append_left _ (List.mem_append_left _ (List.mem_append_left _ (List.mem_append_right _ h))))
theorem k_X0_scanListed_2 : Cond.fieldLink RX0 53 "RingHeap$Counting" "list" "LRingHeap$Row;" ∈ wsX0_scanListed := List.mem_of_getElem? (i := 2) (by rfl)
theorem n_X0_scanListed_X1 : ∀ w ∈ u_ws RX1 TX1 4, w ∈ wsX0_scanListed := fun _ h => List.mem_cons_of_mem _ (List.mem_append_left _ (List.mem_append_left _ (List.mem_append_right _ h)))
theorem k_X0_scanListed_3 : Cond.fieldLink RX0 58 "RingHeap$Row" "length" "I" ∈ wsX0_scanListed := List.mem_of_getElem? (i := 3) (by rfl)
theorem n_X0_scanListed_X3 : ∀ w ∈ u_ws RX3 TX3 2, w ∈ wsX0_scanListed := fun _ h => List.mem_cons_of_mem _ (List.mem_append_left _ (List.mem_append_right _ h))
theorem k_X0_scanListed_4 : Cond.fieldLink RX0 71 "RingHeap$Thing" "inList" "Z" ∈ wsX0_scanListed := List.mem_of_getElem? (i := 4) (by rfl)
theorem n_X0_scanListed_X5 : ∀ w ∈ u_ws RX5 TX5 11, w ∈ wsX0_scanListed := fun _ h => List.mem_cons_of_mem _ (List.mem_append_right _ h)
def f_X0_scanListed_46 (N : Nat)  (K10 : Int32 → Mm → Option (Mm)) (v2 : Int32) (u : Mm) : Option (Mm) :=
  K10 (v2 + 1) u
set_option maxHeartbeats 4000000 in
set_option maxRecDepth 100000 in
theorem j_X0_scanListed_46 {p : Program} {l : Launch} {e : Env} {s : State} {m : MethodId} {args : Array Value} {below : List Frame} {meth : Method} {c : Code} {D : va_G} {cy : Nat → ClassId} {L : List Nat} {ad : Nat → Nat} {A : Nat → Prop} {o : Mm} (N : Nat)   (C0 : Cx p m meth c cX0_scanListed none 4 s args wsX0_scanListed RX0 D cy) (hA : ∀ q : Nat, s.heap.size ≤ q → A q) (K10 : Int32 → Mm → Option (Mm)) (hK10 : ∀ (v2 : Int32) (u : Mm) (H : Heap) (locs : List Loc) (ls : Array Slot), vn L 0 55 → vn L 3 51 → Wd D cy L ad A s.heap u H locs → lv_has ls 4 [(0, .ref (ad 55)), (1, .ref (ad 51)), (2, .int v2)] → K10 v2 u = some o → W p l e ({ frames := 5, cells := 0, slots := 0, locals := 117 } : Room) s m args below meth c H locs 0 0 (MQ below (QcV D cy L ad A o) args s 0 0 A) (F0 m 10 ls [])) : ∀ (v2 : Int32) (u : Mm) (H : Heap) (locs : List Loc) (ls : Array Slot), vn L 0 55 → vn L 3 51 → Wd D cy L ad A s.heap u H locs → lv_has ls 4 [(0, .ref (ad 55)), (1, .ref (ad 51)), (2, .int v2)] → f_X0_scanListed_46 N  K10 v2 u = some o → W p l e ({ frames := 5, cells := 0, slots := 0, locals := 117 } : Room) s m args below meth c H locs 0 0 (MQ below (QcV D cy L ad A o) args s 0 0 A) (F0 m 46 ls []) := by
  obtain ⟨hx, hb, hr, hml, hown, hts, hlocks, hK⟩ := id C0
  intro v2 u H locs ls hv_t0 hv_t1 hw hl h
  unfold f_X0_scanListed_46 at h
  refine lv_iinc (v := v2 + 1) (lv' := [(2, .int (v2 + 1)), (0, .ref (ad 55)), (1, .ref (ad 51))]) hx hb dX0_scanListed_46 hl (k := 2) rfl rfl (by decide) rfl (fun ls hl => ?_)
  refine lv_goto (tgt := 10) hx hb dX0_scanListed_49 (by decide) ?_
  exact hK10 (v2 + 1) u _ _ _ hv_t0 hv_t1 hw (lv_sub hl [1, 2, 0] rfl) h
def g_X0_scanListed_10 (N : Nat)  (K10 : Int32 → Mm → Option (Mm)) (v2 : Int32) (u : Mm) : Option (Mm) :=
  if 80 ≤ v2 then (some u) else (pt (u.1 51 1) (fun x3 => if x3 ≤ v2 then (some u) else (bd (f_X3_item N 51 v2 u) (fun r4 u => nl r4 (f_X0_scanListed_46 N K10 v2 u) (fun t5 => pt (u.1 t5 8) (fun x7 => if x7 = 0 then (f_X0_scanListed_46 N K10 v2 u) else (bv (f_X0_scanFrom N t5 u) (fun u => f_X0_scanListed_46 N K10 v2 u))))))))
def f_X0_scanListed_10 (N : Nat)   : Nat → Int32 → Mm → Option (Mm)
  | 0 => fun _ _ => none
  | n + 1 => g_X0_scanListed_10 N   (f_X0_scanListed_10 N   n)
set_option maxHeartbeats 4000000 in
set_option maxRecDepth 100000 in
theorem jg_X0_scanListed_10 {p : Program} {l : Launch} {e : Env} {s : State} {m : MethodId} {args : Array Value} {below : List Frame} {meth : Method} {c : Code} {D : va_G} {cy : Nat → ClassId} {L : List Nat} {ad : Nat → Nat} {A : Nat → Prop} {o : Mm} (N : Nat)   (C0 : Cx p m meth c cX0_scanListed none 4 s args wsX0_scanListed RX0 D cy) (hA : ∀ q : Nat, s.heap.size ≤ q → A q)  (K10 : Int32 → Mm → Option (Mm)) (hK10 : ∀ (v2 : Int32) (u : Mm) (H : Heap) (locs : List Loc) (ls : Array Slot), vn L 0 55 → vn L 3 51 → Wd D cy L ad A s.heap u H locs → lv_has ls 4 [(0, .ref (ad 55)), (1, .ref (ad 51)), (2, .int v2)] → K10 v2 u = some o → W p l e ({ frames := 5, cells := 0, slots := 0, locals := 117 } : Room) s m args below meth c H locs 0 0 (MQ below (QcV D cy L ad A o) args s 0 0 A) (F0 m 10 ls [])) : ∀ (v2 : Int32) (u : Mm) (H : Heap) (locs : List Loc) (ls : Array Slot), vn L 0 55 → vn L 3 51 → Wd D cy L ad A s.heap u H locs → lv_has ls 4 [(0, .ref (ad 55)), (1, .ref (ad 51)), (2, .int v2)] → g_X0_scanListed_10 N   K10 v2 u = some o → W p l e ({ frames := 5, cells := 0, slots := 0, locals := 117 } : Room) s m args below meth c H locs 0 0 (MQ below (QcV D cy L ad A o) args s 0 0 A) (F0 m 10 ls []) := by
  obtain ⟨hx, hb, hr, hml, hown, hts, hlocks, hK⟩ := id C0
  intro v2 u H locs ls hv_t0 hv_t1 hw hl h
  unfold g_X0_scanListed_10 at h
  refine lv_iload_n hx hb dX0_scanListed_10 rfl (lv_at hl 2 rfl) ?_
  refine lv_bipush (v := 80) hx hb dX0_scanListed_11 (by decide) ?_
  refine lv_icmp_ge (tgt := 52) hx hb dX0_scanListed_13 (by decide) (fun hc => ?_) (fun hc => ?_)
  · rw [if_pos hc] at h
    exact r_vret hx hb hr hlocks hK hw h dX0_scanListed_52
  · rw [if_neg hc] at h
    refine lv_iload_n hx hb dX0_scanListed_16 rfl (lv_at hl 2 rfl) ?_
    refine lv_aload_n hx hb dX0_scanListed_17 rfl (lv_at hl 1 rfl) ?_
    refine r_getI hx hb hts n_X0_scanListed_X3 hown hK hw hv_t1 (by decide) rfl 1 (by decide) rfl (hts _ k_X0_scanListed_3) (fun _ q => q) dX0_scanListed_18 h (fun x3 h => ?_)
    refine lv_icmp_ge (tgt := 52) hx hb dX0_scanListed_21 (by decide) (fun hc => ?_) (fun hc => ?_)
    · rw [if_pos hc] at h
      exact r_vret hx hb hr hlocks hK hw h dX0_scanListed_52
    · rw [if_neg hc] at h
      refine lv_aload_n hx hb dX0_scanListed_24 rfl (lv_at hl 1 rfl) ?_
      refine lv_iload_n hx hb dX0_scanListed_25 rfl (lv_at hl 2 rfl) ?_
      refine r_bQ (fun o ho => r_vQ (As := [.int v2]) (rest := []) ⟨hx, hb, hml, hown, hts⟩ (c_X3_item l D cy L ad N 51 v2 u o hv_t1 ho) (cwV 1 hts gX0_scanListed_X3_item rfl rfl rfl (by decide +kernel) ⟨Nat.le_of_ble_eq_true rfl, Nat.le_of_ble_eq_true rfl⟩) hw hK hv_t1 (by decide) rfl rfl hl.1 rfl (Nat.le_of_ble_eq_true rfl) dX0_scanListed_26 ⟨Nat.zero_le _, Nat.zero_le _⟩) hw hA h (fun r4 u H locs hw hv_r4 h => ?_)
      refine r_astoren (lv' := [(3, va_re ad r4), (0, .ref (ad 55)), (1, .ref (ad 51)), (2, .int v2)]) hx hb dX0_scanListed_29 rfl hl (by decide) rfl (fun ls hl => ?_)
      refine r_aloadn hx hb dX0_scanListed_30 rfl (lv_at hl 0 rfl) ?_
      refine r_ifnull (tgt := 46) hx hb hv_r4 dX0_scanListed_31 (by decide) h (fun e6 h9 => ?_) (fun t5 e6 hv_t5 h9 => ?_)
      · clear h
        subst e6
        have h := h9
        have hl : lv_has ls 4 [(3, va_re ad none), (0, .ref (ad 55)), (1, .ref (ad 51)), (2, .int v2)] := hl
        exact j_X0_scanListed_46 N C0 hA K10 hK10 v2 u _ _ _ hv_t0 hv_t1 hw (lv_sub hl [1, 2, 3] rfl) h
      · clear h
        subst e6
        have h := h9
        have hl : lv_has ls 4 [(3, .ref (ad t5)), (0, .ref (ad 55)), (1, .ref (ad 51)), (2, .int v2)] := hl
        refine lv_aload_n hx hb dX0_scanListed_34 rfl (lv_at hl 0 rfl) ?_
        refine r_getI hx hb hts n_X0_scanListed_X5 hown hK hw hv_t5 (by decide) rfl 8 (by decide) rfl (hts _ k_X0_scanListed_4) (fun _ q => q) dX0_scanListed_35 h (fun x7 h => ?_)
        refine lv_if_eq (tgt := 46) hx hb dX0_scanListed_38 (by decide) (fun hc => ?_) (fun hc => ?_)
        · rw [if_pos hc] at h
          exact j_X0_scanListed_46 N C0 hA K10 hK10 v2 u _ _ _ hv_t0 hv_t1 hw (lv_sub hl [1, 2, 3] rfl) h
        · rw [if_neg hc] at h
          refine lv_aload_n hx hb dX0_scanListed_41 rfl (lv_at hl 1 rfl) ?_
          refine lv_aload_n hx hb dX0_scanListed_42 rfl (lv_at hl 0 rfl) ?_
          refine r_bV (fun o ho => r_vV (As := [.ref (ad t5)]) (rest := []) ⟨hx, hb, hml, hown, hts⟩ (c_X0_scanFrom l D cy L ad N t5 u o hv_t0 hv_t5 ho) (cwV 1 hts gX0_scanListed_X0_scanFrom rfl rfl rfl (by decide +kernel) ⟨Nat.le_of_ble_eq_true rfl, Nat.le_of_ble_eq_true rfl⟩) hw hK hv_t0 (by decide) rfl rfl hl.1 rfl (Nat.le_of_ble_eq_true rfl) dX0_scanListed_43 ⟨Nat.zero_le _, Nat.zero_le _⟩) hw hA h (fun u H locs hw h => ?_)
          exact j_X0_scanListed_46 N C0 hA K10 hK10 v2 u _ _ _ hv_t0 hv_t1 hw (lv_sub hl [1, 2, 3] rfl) h
set_option maxHeartbeats 4000000 in
set_option maxRecDepth 100000 in
theorem j_X0_scanListed_10 {p : Program} {l : Launch} {e : Env} {s : State} {m : MethodId} {args : Array Value} {below : List Frame} {meth : Method} {c : Code} {D : va_G} {cy : Nat → ClassId} {L : List Nat} {ad : Nat → Nat} {A : Nat → Prop} {o : Mm} (N : Nat)   (C0 : Cx p m meth c cX0_scanListed none 4 s args wsX0_scanListed RX0 D cy) (hA : ∀ q : Nat, s.heap.size ≤ q → A q)  : ∀ (n : Nat), ∀ (v2 : Int32) (u : Mm) (H : Heap) (locs : List Loc) (ls : Array Slot), vn L 0 55 → vn L 3 51 → Wd D cy L ad A s.heap u H locs → lv_has ls 4 [(0, .ref (ad 55)), (1, .ref (ad 51)), (2, .int v2)] → f_X0_scanListed_10 N   n v2 u = some o → W p l e ({ frames := 5, cells := 0, slots := 0, locals := 117 } : Room) s m args below meth c H locs 0 0 (MQ below (QcV D cy L ad A o) args s 0 0 A) (F0 m 10 ls []) := by
  intro n
  induction n with
  | zero =>
    intro v2 u H locs ls hv_t0 hv_t1 hw hl h
    cases h
  | succ n ih => exact jg_X0_scanListed_10 N   C0 hA  _ ih
def f_X0_scanListed (N : Nat)  (u : Mm) : Option (Mm) :=
  f_X0_scanListed_10 N N 0 u
set_option maxHeartbeats 4000000 in
set_option maxRecDepth 100000 in
theorem c_X0_scanListed (l : Launch) (D : va_G) (cy : Nat → ClassId) (L : List Nat) (ad : Nat → Nat) (N : Nat)  (u : Mm) (o : Mm) (h_this : vn L 0 55) (h : f_X0_scanListed N  u = some o) : MtV l yX0_scanListed wsX0_scanListed ({ frames := 5, cells := 0, slots := 0, locals := 117 } : Room) D cy L ad [.ref (ad 55)] u o := by
  intro sz
  refine Met.ofW (cc := cX0_scanListed) (maxL := 4) (ret := none) (by decide) rfl ?_
  intro p e s m args below meth c s₁ B hml hv
  obtain ⟨rfl, hsz, hP, hK, hD0, hok⟩ := hv
  have hx := B.exec
  have hb := B.bytes
  have hr := B.returns
  have hts := atoms_spec (ws := wsX0_scanListed) B.pre
  have hown : s.vm.findClass RX0 = some m.cls := findClass_of_methodNamed B.named
  have hlocks := B.notSynchronized
  subst hsz
  have hw := wd_start hP hD0 hok
  have hA : ∀ q : Nat, s.heap.size ≤ q → va_A (wl cy L ad u) s.heap.size q := fun q h => Or.inr h
  generalize va_A (wl cy L ad u) s.heap.size = A at hw hA ⊢
  have C0 : Cx p m meth c cX0_scanListed none 4 s _ wsX0_scanListed RX0 D cy := ⟨hx, hb, hr, hml, hown, hts, hlocks, hK⟩
  have hl := lv_entry ([.ref (ad 55)]) (n := 4) (Nat.le_of_ble_eq_true rfl)
  rw [lg_entry_eq]
  generalize (lg_sl ([.ref (ad 55)]) ++ List.replicate (4 - (lg_sl ([.ref (ad 55)])).length) Slot.unset).toArray = ls at hl ⊢
  have hl : lv_has ls 4 [(0, .ref (ad 55))] := hl
  unfold f_X0_scanListed at h
  refine lv_aload_n hx hb dX0_scanListed_0 rfl (lv_at hl 0 rfl) ?_
  refine r_getC (t2 := 1) (d := 48) hx hb hts n_X0_scanListed_X0 hown hK hw h_this (by decide) rfl 1 (by decide) rfl rfl (hts _ k_X0_scanListed_1) (fun _ q => q) dX0_scanListed_1 (fun hv1 => ?_)
  refine r_getC (t2 := 3) (d := 51) hx hb hts n_X0_scanListed_X1 hown hK hw hv1 (by decide) rfl 2 (by decide) rfl rfl (hts _ k_X0_scanListed_2) (fun _ q => q) dX0_scanListed_4 (fun hv2 => ?_)
  refine lv_astore_n (lv' := [(1, .ref (ad 51)), (0, .ref (ad 55))]) hx hb dX0_scanListed_7 rfl hl (by decide) rfl (fun ls hl => ?_)
  refine lv_iconst (v := 0) hx hb dX0_scanListed_8 (by decide) ?_
  refine lv_istore_n (lv' := [(2, .int 0), (1, .ref (ad 51)), (0, .ref (ad 55))]) hx hb dX0_scanListed_9 rfl hl (by decide) rfl (fun ls hl => ?_)
  exact j_X0_scanListed_10 N C0 hA N 0 u _ _ _ h_this hv2 hw (lv_sub hl [2, 1, 0] rfl) h
theorem k_X0_tellWishes_1 : Cond.fieldLink RX0 21 "RingHeap$Collector" "store" "LRingHeap$Store;" ∈ wsX0_tellWishes := List.mem_of_getElem? (i := 1) (by rfl)
theorem n_X0_tellWishes_X0 : ∀ w ∈ u_ws RX0 TX0 7, w ∈ wsX0_tellWishes := fun _ h => List.mem_cons_of_mem _ (List.mem_append_left _ (List.mem_append_left _ (List.mem_append_left _ (List.mem_append_left _ (List.mem_append_left _ (List.mem_append_right _ h))))))
theorem k_X0_tellWishes_2 : Cond.fieldLink RX0 122 "RingHeap$Store" "words" "LRingHeap$Words;" ∈ wsX0_tellWishes := List.mem_of_getElem? (i := 2) (by rfl)
theorem n_X0_tellWishes_X4 : ∀ w ∈ u_ws RX4 TX4 6, w ∈ wsX0_tellWishes := fun _ h => List.mem_cons_of_mem _ (List.mem_append_left _ (List.mem_append_left _ (List.mem_append_left _ (List.mem_append_left _ (List.mem_append_right _ h)))))
theorem k_X0_tellWishes_3 : Cond.fieldLink RX0 78 "RingHeap$Thing" "colour" "I" ∈ wsX0_tellWishes := List.mem_of_getElem? (i := 3) (by rfl)
theorem n_X0_tellWishes_X5 : ∀ w ∈ u_ws RX5 TX5 11, w ∈ wsX0_tellWishes := fun _ h => List.mem_cons_of_mem _ (List.mem_append_left _ (List.mem_append_left _ (List.mem_append_left _ (List.mem_append_right _ h))))
theorem k_X0_tellWishes_4 : Cond.fieldLink RX0 131 "RingHeap$Thing" "wishUntold" "Z" ∈ wsX0_tellWishes := List.mem_of_getElem? (i := 4) (by rfl)
theorem k_X0_tellWishes_5 : Cond.fieldLink RX0 25 "RingHeap$Collector" "counting" "LRingHeap$Counting;" ∈ wsX0_tellWishes := List.mem_of_getElem? (i := 5) (by rfl)
def f_X0_tellWishes_53 (N : Nat)  (K2 : Int32 → Mm → Option (Mm)) (v1 : Int32) (u : Mm) : Option (Mm) :=
  K2 (v1 + 1) u
set_option maxHeartbeats 4000000 in
set_option maxRecDepth 100000 in
theorem j_X0_tellWishes_53 {p : Program} {l : Launch} {e : Env} {s : State} {m : MethodId} {args : Array Value} {below : List Frame} {meth : Method} {c : Code} {D : va_G} {cy : Nat → ClassId} {L : List Nat} {ad : Nat → Nat} {A : Nat → Prop} {o : Mm} (N : Nat)   (C0 : Cx p m meth c cX0_tellWishes none 3 s args wsX0_tellWishes RX0 D cy) (hA : ∀ q : Nat, s.heap.size ≤ q → A q) (K2 : Int32 → Mm → Option (Mm)) (hK2 : ∀ (v1 : Int32) (u : Mm) (H : Heap) (locs : List Loc) (ls : Array Slot), vn L 0 55 → Wd D cy L ad A s.heap u H locs → lv_has ls 3 [(0, .ref (ad 55)), (1, .int v1)] → K2 v1 u = some o → W p l e ({ frames := 3, cells := 0, slots := 0, locals := 69 } : Room) s m args below meth c H locs 0 0 (MQ below (QcV D cy L ad A o) args s 0 0 A) (F0 m 2 ls [])) : ∀ (v1 : Int32) (u : Mm) (H : Heap) (locs : List Loc) (ls : Array Slot), vn L 0 55 → Wd D cy L ad A s.heap u H locs → lv_has ls 3 [(0, .ref (ad 55)), (1, .int v1)] → f_X0_tellWishes_53 N  K2 v1 u = some o → W p l e ({ frames := 3, cells := 0, slots := 0, locals := 69 } : Room) s m args below meth c H locs 0 0 (MQ below (QcV D cy L ad A o) args s 0 0 A) (F0 m 53 ls []) := by
  obtain ⟨hx, hb, hr, hml, hown, hts, hlocks, hK⟩ := id C0
  intro v1 u H locs ls hv_t0 hw hl h
  unfold f_X0_tellWishes_53 at h
  refine lv_iinc (v := v1 + 1) (lv' := [(1, .int (v1 + 1)), (0, .ref (ad 55))]) hx hb dX0_tellWishes_53 hl (k := 1) rfl rfl (by decide) rfl (fun ls hl => ?_)
  refine lv_goto (tgt := 2) hx hb dX0_tellWishes_56 (by decide) ?_
  exact hK2 (v1 + 1) u _ _ _ hv_t0 hw (lv_sub hl [1, 0] rfl) h
def g_X0_tellWishes_2 (N : Nat)  (K2 : Int32 → Mm → Option (Mm)) (v1 : Int32) (u : Mm) : Option (Mm) :=
  if 400 ≤ v1 then (some u) else (bd (f_X6_ownerFrom N v1 u) (fun r3 u => nl r3 (f_X0_tellWishes_53 N K2 v1 u) (fun t4 => pt (u.1 t4 5) (fun x6 => if x6 = 2 then (pt (u.1 t4 9) (fun x7 => if x7 = 0 then (f_X0_tellWishes_53 N K2 v1 u) else (bv (f_X1_tellWish N t4 u) (fun u => bv (f_X0_blackenFrom N t4 u) (fun u => f_X0_tellWishes_53 N K2 v1 u))))) else (f_X0_tellWishes_53 N K2 v1 u)))))
def f_X0_tellWishes_2 (N : Nat)   : Nat → Int32 → Mm → Option (Mm)
  | 0 => fun _ _ => none
  | n + 1 => g_X0_tellWishes_2 N   (f_X0_tellWishes_2 N   n)
set_option maxHeartbeats 4000000 in
set_option maxRecDepth 100000 in
theorem jg_X0_tellWishes_2 {p : Program} {l : Launch} {e : Env} {s : State} {m : MethodId} {args : Array Value} {below : List Frame} {meth : Method} {c : Code} {D : va_G} {cy : Nat → ClassId} {L : List Nat} {ad : Nat → Nat} {A : Nat → Prop} {o : Mm} (N : Nat)   (C0 : Cx p m meth c cX0_tellWishes none 3 s args wsX0_tellWishes RX0 D cy) (hA : ∀ q : Nat, s.heap.size ≤ q → A q)  (K2 : Int32 → Mm → Option (Mm)) (hK2 : ∀ (v1 : Int32) (u : Mm) (H : Heap) (locs : List Loc) (ls : Array Slot), vn L 0 55 → Wd D cy L ad A s.heap u H locs → lv_has ls 3 [(0, .ref (ad 55)), (1, .int v1)] → K2 v1 u = some o → W p l e ({ frames := 3, cells := 0, slots := 0, locals := 69 } : Room) s m args below meth c H locs 0 0 (MQ below (QcV D cy L ad A o) args s 0 0 A) (F0 m 2 ls [])) : ∀ (v1 : Int32) (u : Mm) (H : Heap) (locs : List Loc) (ls : Array Slot), vn L 0 55 → Wd D cy L ad A s.heap u H locs → lv_has ls 3 [(0, .ref (ad 55)), (1, .int v1)] → g_X0_tellWishes_2 N   K2 v1 u = some o → W p l e ({ frames := 3, cells := 0, slots := 0, locals := 69 } : Room) s m args below meth c H locs 0 0 (MQ below (QcV D cy L ad A o) args s 0 0 A) (F0 m 2 ls []) := by
  obtain ⟨hx, hb, hr, hml, hown, hts, hlocks, hK⟩ := id C0
  intro v1 u H locs ls hv_t0 hw hl h
  unfold g_X0_tellWishes_2 at h
  refine lv_iload_n hx hb dX0_tellWishes_2 rfl (lv_at hl 1 rfl) ?_
  refine lv_sipush (v := 400) hx hb dX0_tellWishes_3 (by decide) ?_
  refine lv_icmp_ge (tgt := 59) hx hb dX0_tellWishes_6 (by decide) (fun hc => ?_) (fun hc => ?_)
  · rw [if_pos hc] at h
    exact r_vret hx hb hr hlocks hK hw h dX0_tellWishes_59
  · rw [if_neg hc] at h
    refine lv_aload_n hx hb dX0_tellWishes_9 rfl (lv_at hl 0 rfl) ?_
    refine r_getC (t2 := 4) (d := 42) hx hb hts n_X0_tellWishes_X0 hown hK hw hv_t0 (by decide) rfl 0 (by decide) rfl rfl (hts _ k_X0_tellWishes_1) (fun _ q => q) dX0_tellWishes_10 (fun hv1 => ?_)
    refine r_getC (t2 := 6) (d := 46) hx hb hts n_X0_tellWishes_X4 hown hK hw hv1 (by decide) rfl 3 (by decide) rfl rfl (hts _ k_X0_tellWishes_2) (fun _ q => q) dX0_tellWishes_13 (fun hv2 => ?_)
    refine lv_iload_n hx hb dX0_tellWishes_16 rfl (lv_at hl 1 rfl) ?_
    refine r_bQ (fun o ho => r_vQ (As := [.int v1]) (rest := []) ⟨hx, hb, hml, hown, hts⟩ (c_X6_ownerFrom l D cy L ad N v1 u o hv2 ho) (cwV 1 hts gX0_tellWishes_X6_ownerFrom rfl rfl rfl (by decide +kernel) ⟨Nat.le_of_ble_eq_true rfl, Nat.le_of_ble_eq_true rfl⟩) hw hK hv2 (by decide) rfl rfl hl.1 rfl (Nat.le_of_ble_eq_true rfl) dX0_tellWishes_17 ⟨Nat.zero_le _, Nat.zero_le _⟩) hw hA h (fun r3 u H locs hw hv_r3 h => ?_)
    refine r_astoren (lv' := [(2, va_re ad r3), (0, .ref (ad 55)), (1, .int v1)]) hx hb dX0_tellWishes_20 rfl hl (by decide) rfl (fun ls hl => ?_)
    refine r_aloadn hx hb dX0_tellWishes_21 rfl (lv_at hl 0 rfl) ?_
    refine r_ifnull (tgt := 53) hx hb hv_r3 dX0_tellWishes_22 (by decide) h (fun e5 h9 => ?_) (fun t4 e5 hv_t4 h9 => ?_)
    · clear h
      subst e5
      have h := h9
      have hl : lv_has ls 3 [(2, va_re ad none), (0, .ref (ad 55)), (1, .int v1)] := hl
      exact j_X0_tellWishes_53 N C0 hA K2 hK2 v1 u _ _ _ hv_t0 hw (lv_sub hl [1, 2] rfl) h
    · clear h
      subst e5
      have h := h9
      have hl : lv_has ls 3 [(2, .ref (ad t4)), (0, .ref (ad 55)), (1, .int v1)] := hl
      refine lv_aload_n hx hb dX0_tellWishes_25 rfl (lv_at hl 0 rfl) ?_
      refine r_getI hx hb hts n_X0_tellWishes_X5 hown hK hw hv_t4 (by decide) rfl 5 (by decide) rfl (hts _ k_X0_tellWishes_3) (fun _ q => q) dX0_tellWishes_26 h (fun x6 h => ?_)
      refine lv_iconst (v := 2) hx hb dX0_tellWishes_29 (by decide) ?_
      refine lv_icmp_ne (tgt := 53) hx hb dX0_tellWishes_30 (by decide) (fun hc => ?_) (fun hc => ?_)
      · rw [if_neg hc] at h
        exact j_X0_tellWishes_53 N C0 hA K2 hK2 v1 u _ _ _ hv_t0 hw (lv_sub hl [1, 2] rfl) h
      · rw [if_pos hc] at h
        refine lv_aload_n hx hb dX0_tellWishes_33 rfl (lv_at hl 0 rfl) ?_
        refine r_getI hx hb hts n_X0_tellWishes_X5 hown hK hw hv_t4 (by decide) rfl 9 (by decide) rfl (hts _ k_X0_tellWishes_4) (fun _ q => q) dX0_tellWishes_34 h (fun x7 h => ?_)
        refine lv_if_eq (tgt := 53) hx hb dX0_tellWishes_37 (by decide) (fun hc => ?_) (fun hc => ?_)
        · rw [if_pos hc] at h
          exact j_X0_tellWishes_53 N C0 hA K2 hK2 v1 u _ _ _ hv_t0 hw (lv_sub hl [1, 2] rfl) h
        · rw [if_neg hc] at h
          refine lv_aload_n hx hb dX0_tellWishes_40 rfl (lv_at hl 1 rfl) ?_
          refine r_getC (t2 := 1) (d := 48) hx hb hts n_X0_tellWishes_X0 hown hK hw hv_t0 (by decide) rfl 1 (by decide) rfl rfl (hts _ k_X0_tellWishes_5) (fun _ q => q) dX0_tellWishes_41 (fun hv8 => ?_)
          refine lv_aload_n hx hb dX0_tellWishes_44 rfl (lv_at hl 0 rfl) ?_
          refine r_bV (fun o ho => r_vV (As := [.ref (ad t4)]) (rest := []) ⟨hx, hb, hml, hown, hts⟩ (c_X1_tellWish l D cy L ad N t4 u o hv8 hv_t4 ho) (cwV 1 hts gX0_tellWishes_X1_tellWish rfl rfl rfl (by decide +kernel) ⟨Nat.le_of_ble_eq_true rfl, Nat.le_of_ble_eq_true rfl⟩) hw hK hv8 (by decide) rfl rfl hl.1 rfl (Nat.le_of_ble_eq_true rfl) dX0_tellWishes_45 ⟨Nat.zero_le _, Nat.zero_le _⟩) hw hA h (fun u H locs hw h => ?_)
          refine lv_aload_n hx hb dX0_tellWishes_48 rfl (lv_at hl 1 rfl) ?_
          refine lv_aload_n hx hb dX0_tellWishes_49 rfl (lv_at hl 0 rfl) ?_
          refine r_bV (fun o ho => r_vV (As := [.ref (ad t4)]) (rest := []) ⟨hx, hb, hml, hown, hts⟩ (c_X0_blackenFrom l D cy L ad N t4 u o hv_t0 hv_t4 ho) (cwV 1 hts gX0_tellWishes_X0_blackenFrom rfl rfl rfl (by decide +kernel) ⟨Nat.le_of_ble_eq_true rfl, Nat.le_of_ble_eq_true rfl⟩) hw hK hv_t0 (by decide) rfl rfl hl.1 rfl (Nat.le_of_ble_eq_true rfl) dX0_tellWishes_50 ⟨Nat.zero_le _, Nat.zero_le _⟩) hw hA h (fun u H locs hw h => ?_)
          exact j_X0_tellWishes_53 N C0 hA K2 hK2 v1 u _ _ _ hv_t0 hw (lv_sub hl [1, 2] rfl) h
set_option maxHeartbeats 4000000 in
set_option maxRecDepth 100000 in
theorem j_X0_tellWishes_2 {p : Program} {l : Launch} {e : Env} {s : State} {m : MethodId} {args : Array Value} {below : List Frame} {meth : Method} {c : Code} {D : va_G} {cy : Nat → ClassId} {L : List Nat} {ad : Nat → Nat} {A : Nat → Prop} {o : Mm} (N : Nat)   (C0 : Cx p m meth c cX0_tellWishes none 3 s args wsX0_tellWishes RX0 D cy) (hA : ∀ q : Nat, s.heap.size ≤ q → A q)  : ∀ (n : Nat), ∀ (v1 : Int32) (u : Mm) (H : Heap) (locs : List Loc) (ls : Array Slot), vn L 0 55 → Wd D cy L ad A s.heap u H locs → lv_has ls 3 [(0, .ref (ad 55)), (1, .int v1)] → f_X0_tellWishes_2 N   n v1 u = some o → W p l e ({ frames := 3, cells := 0, slots := 0, locals := 69 } : Room) s m args below meth c H locs 0 0 (MQ below (QcV D cy L ad A o) args s 0 0 A) (F0 m 2 ls []) := by
  intro n
  induction n with
  | zero =>
    intro v1 u H locs ls hv_t0 hw hl h
    cases h
  | succ n ih => exact jg_X0_tellWishes_2 N   C0 hA  _ ih
def f_X0_tellWishes (N : Nat)  (u : Mm) : Option (Mm) :=
  f_X0_tellWishes_2 N N 0 u
set_option maxHeartbeats 4000000 in
set_option maxRecDepth 100000 in
theorem c_X0_tellWishes (l : Launch) (D : va_G) (cy : Nat → ClassId) (L : List Nat) (ad : Nat → Nat) (N : Nat)  (u : Mm) (o : Mm) (h_this : vn L 0 55) (h : f_X0_tellWishes N  u = some o) : MtV l yX0_tellWishes wsX0_tellWishes ({ frames := 3, cells := 0, slots := 0, locals := 69 } : Room) D cy L ad [.ref (ad 55)] u o := by
  intro sz
  refine Met.ofW (cc := cX0_tellWishes) (maxL := 3) (ret := none) (by decide) rfl ?_
  intro p e s m args below meth c s₁ B hml hv
  obtain ⟨rfl, hsz, hP, hK, hD0, hok⟩ := hv
  have hx := B.exec
  have hb := B.bytes
  have hr := B.returns
  have hts := atoms_spec (ws := wsX0_tellWishes) B.pre
  have hown : s.vm.findClass RX0 = some m.cls := findClass_of_methodNamed B.named
  have hlocks := B.notSynchronized
  subst hsz
  have hw := wd_start hP hD0 hok
  have hA : ∀ q : Nat, s.heap.size ≤ q → va_A (wl cy L ad u) s.heap.size q := fun q h => Or.inr h
  generalize va_A (wl cy L ad u) s.heap.size = A at hw hA ⊢
  have C0 : Cx p m meth c cX0_tellWishes none 3 s _ wsX0_tellWishes RX0 D cy := ⟨hx, hb, hr, hml, hown, hts, hlocks, hK⟩
  have hl := lv_entry ([.ref (ad 55)]) (n := 3) (Nat.le_of_ble_eq_true rfl)
  rw [lg_entry_eq]
  generalize (lg_sl ([.ref (ad 55)]) ++ List.replicate (3 - (lg_sl ([.ref (ad 55)])).length) Slot.unset).toArray = ls at hl ⊢
  have hl : lv_has ls 3 [(0, .ref (ad 55))] := hl
  unfold f_X0_tellWishes at h
  refine lv_iconst (v := 0) hx hb dX0_tellWishes_0 (by decide) ?_
  refine lv_istore_n (lv' := [(1, .int 0), (0, .ref (ad 55))]) hx hb dX0_tellWishes_1 rfl hl (by decide) rfl (fun ls hl => ?_)
  exact j_X0_tellWishes_2 N C0 hA N 0 u _ _ _ h_this hw (lv_sub hl [1, 0] rfl) h
theorem k_X0_emptyList_1 : Cond.fieldLink RX0 25 "RingHeap$Collector" "counting" "LRingHeap$Counting;" ∈ wsX0_emptyList := List.mem_of_getElem? (i := 1) (by rfl)
theorem n_X0_emptyList_X0 : ∀ w ∈ u_ws RX0 TX0 7, w ∈ wsX0_emptyList := fun _ h => List.mem_cons_of_mem _ (List.mem_append_left _ (List.mem_append_left _ (List.mem_append_left _ (List.mem_append_right _ h))))
theorem k_X0_emptyList_2 : Cond.fieldLink RX0 53 "RingHeap$Counting" "list" "LRingHeap$Row;" ∈ wsX0_emptyList := List.mem_of_getElem? (i := 2) (by rfl)
theorem n_X0_emptyList_X1 : ∀ w ∈ u_ws RX1 TX1 4, w ∈ wsX0_emptyList := fun _ h => List.mem_cons_of_mem _ (List.mem_append_left _ (List.mem_append_left _ (List.mem_append_right _ h)))
theorem k_X0_emptyList_3 : Cond.fieldLink RX0 58 "RingHeap$Row" "length" "I" ∈ wsX0_emptyList := List.mem_of_getElem? (i := 3) (by rfl)
theorem n_X0_emptyList_X3 : ∀ w ∈ u_ws RX3 TX3 2, w ∈ wsX0_emptyList := fun _ h => List.mem_cons_of_mem _ (List.mem_append_left _ (List.mem_append_right _ h))
theorem k_X0_emptyList_4 : Cond.fieldLink RX0 71 "RingHeap$Thing" "inList" "Z" ∈ wsX0_emptyList := List.mem_of_getElem? (i := 4) (by rfl)
theorem n_X0_emptyList_X5 : ∀ w ∈ u_ws RX5 TX5 11, w ∈ wsX0_emptyList := fun _ h => List.mem_cons_of_mem _ (List.mem_append_right _ h)
def f_X0_emptyList_45 (N : Nat)    (u : Mm) : Option (Mm) :=
  bv (f_X3_clear N 51 u) (fun u => some u)
set_option maxHeartbeats 4000000 in
set_option maxRecDepth 100000 in
theorem j_X0_emptyList_45 {p : Program} {l : Launch} {e : Env} {s : State} {m : MethodId} {args : Array Value} {below : List Frame} {meth : Method} {c : Code} {D : va_G} {cy : Nat → ClassId} {L : List Nat} {ad : Nat → Nat} {A : Nat → Prop} {o : Mm} (N : Nat)   (C0 : Cx p m meth c cX0_emptyList none 4 s args wsX0_emptyList RX0 D cy) (hA : ∀ q : Nat, s.heap.size ≤ q → A q)  : ∀  (u : Mm) (H : Heap) (locs : List Loc) (ls : Array Slot), vn L 3 51 → Wd D cy L ad A s.heap u H locs → lv_has ls 4 [(1, .ref (ad 51))] → f_X0_emptyList_45 N    u = some o → W p l e ({ frames := 1, cells := 0, slots := 0, locals := 21 } : Room) s m args below meth c H locs 0 0 (MQ below (QcV D cy L ad A o) args s 0 0 A) (F0 m 45 ls []) := by
  obtain ⟨hx, hb, hr, hml, hown, hts, hlocks, hK⟩ := id C0
  intro  u H locs ls hv_t1 hw hl h
  unfold f_X0_emptyList_45 at h
  refine lv_aload_n hx hb dX0_emptyList_45 rfl (lv_at hl 0 rfl) ?_
  refine r_bV (fun o ho => r_vV (As := []) (rest := []) ⟨hx, hb, hml, hown, hts⟩ (c_X3_clear l D cy L ad N 51 u o hv_t1 ho) (cwV 0 hts gX0_emptyList_X3_clear rfl rfl rfl (by decide +kernel) ⟨Nat.le_of_ble_eq_true rfl, Nat.le_of_ble_eq_true rfl⟩) hw hK hv_t1 (by decide) rfl rfl hl.1 rfl (Nat.le_of_ble_eq_true rfl) dX0_emptyList_46 ⟨Nat.zero_le _, Nat.zero_le _⟩) hw hA h (fun u H locs hw h => ?_)
  exact r_vret hx hb hr hlocks hK hw h dX0_emptyList_49
def f_X0_emptyList_39 (N : Nat)  (K10 : Int32 → Mm → Option (Mm)) (v2 : Int32) (u : Mm) : Option (Mm) :=
  K10 (v2 + 1) u
set_option maxHeartbeats 4000000 in
set_option maxRecDepth 100000 in
theorem j_X0_emptyList_39 {p : Program} {l : Launch} {e : Env} {s : State} {m : MethodId} {args : Array Value} {below : List Frame} {meth : Method} {c : Code} {D : va_G} {cy : Nat → ClassId} {L : List Nat} {ad : Nat → Nat} {A : Nat → Prop} {o : Mm} (N : Nat)   (C0 : Cx p m meth c cX0_emptyList none 4 s args wsX0_emptyList RX0 D cy) (hA : ∀ q : Nat, s.heap.size ≤ q → A q) (K10 : Int32 → Mm → Option (Mm)) (hK10 : ∀ (v2 : Int32) (u : Mm) (H : Heap) (locs : List Loc) (ls : Array Slot), vn L 3 51 → Wd D cy L ad A s.heap u H locs → lv_has ls 4 [(1, .ref (ad 51)), (2, .int v2)] → K10 v2 u = some o → W p l e ({ frames := 1, cells := 0, slots := 0, locals := 21 } : Room) s m args below meth c H locs 0 0 (MQ below (QcV D cy L ad A o) args s 0 0 A) (F0 m 10 ls [])) : ∀ (v2 : Int32) (u : Mm) (H : Heap) (locs : List Loc) (ls : Array Slot), vn L 3 51 → Wd D cy L ad A s.heap u H locs → lv_has ls 4 [(1, .ref (ad 51)), (2, .int v2)] → f_X0_emptyList_39 N  K10 v2 u = some o → W p l e ({ frames := 1, cells := 0, slots := 0, locals := 21 } : Room) s m args below meth c H locs 0 0 (MQ below (QcV D cy L ad A o) args s 0 0 A) (F0 m 39 ls []) := by
  obtain ⟨hx, hb, hr, hml, hown, hts, hlocks, hK⟩ := id C0
  intro v2 u H locs ls hv_t1 hw hl h
  unfold f_X0_emptyList_39 at h
  refine lv_iinc (v := v2 + 1) (lv' := [(2, .int (v2 + 1)), (1, .ref (ad 51))]) hx hb dX0_emptyList_39 hl (k := 1) rfl rfl (by decide) rfl (fun ls hl => ?_)
  refine lv_goto (tgt := 10) hx hb dX0_emptyList_42 (by decide) ?_
  exact hK10 (v2 + 1) u _ _ _ hv_t1 hw (lv_sub hl [1, 0] rfl) h
def g_X0_emptyList_10 (N : Nat)  (K10 : Int32 → Mm → Option (Mm)) (v2 : Int32) (u : Mm) : Option (Mm) :=
  if 80 ≤ v2 then (f_X0_emptyList_45 N u) else (pt (u.1 51 1) (fun x3 => if x3 ≤ v2 then (f_X0_emptyList_45 N u) else (bd (f_X3_item N 51 v2 u) (fun r4 u => nl r4 (f_X0_emptyList_39 N K10 v2 u) (fun t5 => pt (sI u t5 8 0) (fun u => f_X0_emptyList_39 N K10 v2 u))))))
def f_X0_emptyList_10 (N : Nat)   : Nat → Int32 → Mm → Option (Mm)
  | 0 => fun _ _ => none
  | n + 1 => g_X0_emptyList_10 N   (f_X0_emptyList_10 N   n)
set_option maxHeartbeats 4000000 in
set_option maxRecDepth 100000 in
theorem jg_X0_emptyList_10 {p : Program} {l : Launch} {e : Env} {s : State} {m : MethodId} {args : Array Value} {below : List Frame} {meth : Method} {c : Code} {D : va_G} {cy : Nat → ClassId} {L : List Nat} {ad : Nat → Nat} {A : Nat → Prop} {o : Mm} (N : Nat)   (C0 : Cx p m meth c cX0_emptyList none 4 s args wsX0_emptyList RX0 D cy) (hA : ∀ q : Nat, s.heap.size ≤ q → A q)  (K10 : Int32 → Mm → Option (Mm)) (hK10 : ∀ (v2 : Int32) (u : Mm) (H : Heap) (locs : List Loc) (ls : Array Slot), vn L 3 51 → Wd D cy L ad A s.heap u H locs → lv_has ls 4 [(1, .ref (ad 51)), (2, .int v2)] → K10 v2 u = some o → W p l e ({ frames := 1, cells := 0, slots := 0, locals := 21 } : Room) s m args below meth c H locs 0 0 (MQ below (QcV D cy L ad A o) args s 0 0 A) (F0 m 10 ls [])) : ∀ (v2 : Int32) (u : Mm) (H : Heap) (locs : List Loc) (ls : Array Slot), vn L 3 51 → Wd D cy L ad A s.heap u H locs → lv_has ls 4 [(1, .ref (ad 51)), (2, .int v2)] → g_X0_emptyList_10 N   K10 v2 u = some o → W p l e ({ frames := 1, cells := 0, slots := 0, locals := 21 } : Room) s m args below meth c H locs 0 0 (MQ below (QcV D cy L ad A o) args s 0 0 A) (F0 m 10 ls []) := by
  obtain ⟨hx, hb, hr, hml, hown, hts, hlocks, hK⟩ := id C0
  intro v2 u H locs ls hv_t1 hw hl h
  unfold g_X0_emptyList_10 at h
  refine lv_iload_n hx hb dX0_emptyList_10 rfl (lv_at hl 1 rfl) ?_
  refine lv_bipush (v := 80) hx hb dX0_emptyList_11 (by decide) ?_
  refine lv_icmp_ge (tgt := 45) hx hb dX0_emptyList_13 (by decide) (fun hc => ?_) (fun hc => ?_)
  · rw [if_pos hc] at h
    exact j_X0_emptyList_45 N C0 hA u _ _ _ hv_t1 hw (lv_sub hl [0] rfl) h
  · rw [if_neg hc] at h
    refine lv_iload_n hx hb dX0_emptyList_16 rfl (lv_at hl 1 rfl) ?_
    refine lv_aload_n hx hb dX0_emptyList_17 rfl (lv_at hl 0 rfl) ?_
    refine r_getI hx hb hts n_X0_emptyList_X3 hown hK hw hv_t1 (by decide) rfl 1 (by decide) rfl (hts _ k_X0_emptyList_3) (fun _ q => q) dX0_emptyList_18 h (fun x3 h => ?_)
    refine lv_icmp_ge (tgt := 45) hx hb dX0_emptyList_21 (by decide) (fun hc => ?_) (fun hc => ?_)
    · rw [if_pos hc] at h
      exact j_X0_emptyList_45 N C0 hA u _ _ _ hv_t1 hw (lv_sub hl [0] rfl) h
    · rw [if_neg hc] at h
      refine lv_aload_n hx hb dX0_emptyList_24 rfl (lv_at hl 0 rfl) ?_
      refine lv_iload_n hx hb dX0_emptyList_25 rfl (lv_at hl 1 rfl) ?_
      refine r_bQ (fun o ho => r_vQ (As := [.int v2]) (rest := []) ⟨hx, hb, hml, hown, hts⟩ (c_X3_item l D cy L ad N 51 v2 u o hv_t1 ho) (cwV 1 hts gX0_emptyList_X3_item rfl rfl rfl (by decide +kernel) ⟨Nat.le_of_ble_eq_true rfl, Nat.le_of_ble_eq_true rfl⟩) hw hK hv_t1 (by decide) rfl rfl hl.1 rfl (Nat.le_of_ble_eq_true rfl) dX0_emptyList_26 ⟨Nat.zero_le _, Nat.zero_le _⟩) hw hA h (fun r4 u H locs hw hv_r4 h => ?_)
      refine r_astoren (lv' := [(3, va_re ad r4), (1, .ref (ad 51)), (2, .int v2)]) hx hb dX0_emptyList_29 rfl hl (by decide) rfl (fun ls hl => ?_)
      refine r_aloadn hx hb dX0_emptyList_30 rfl (lv_at hl 0 rfl) ?_
      refine r_ifnull (tgt := 39) hx hb hv_r4 dX0_emptyList_31 (by decide) h (fun e6 h9 => ?_) (fun t5 e6 hv_t5 h9 => ?_)
      · clear h
        subst e6
        have h := h9
        have hl : lv_has ls 4 [(3, va_re ad none), (1, .ref (ad 51)), (2, .int v2)] := hl
        exact j_X0_emptyList_39 N C0 hA K10 hK10 v2 u _ _ _ hv_t1 hw (lv_sub hl [1, 2] rfl) h
      · clear h
        subst e6
        have h := h9
        have hl : lv_has ls 4 [(3, .ref (ad t5)), (1, .ref (ad 51)), (2, .int v2)] := hl
        refine lv_aload_n hx hb dX0_emptyList_34 rfl (lv_at hl 0 rfl) ?_
        refine lv_iconst (v := 0) hx hb dX0_emptyList_35 (by decide) ?_
        refine r_putI (ty := .boolean) hx hb hts n_X0_emptyList_X5 tyX5 tyX5_ok nmX5 hown hK hw hv_t5 (by decide) rfl 8 (by decide) rfl (hts _ k_X0_emptyList_4) (fun _ q => q) rfl rfl (by decide) (by decide) dX0_emptyList_36 h (fun u H locs hw h => ?_)
        exact j_X0_emptyList_39 N C0 hA K10 hK10 v2 u _ _ _ hv_t1 hw (lv_sub hl [1, 2] rfl) h
set_option maxHeartbeats 4000000 in
set_option maxRecDepth 100000 in
theorem j_X0_emptyList_10 {p : Program} {l : Launch} {e : Env} {s : State} {m : MethodId} {args : Array Value} {below : List Frame} {meth : Method} {c : Code} {D : va_G} {cy : Nat → ClassId} {L : List Nat} {ad : Nat → Nat} {A : Nat → Prop} {o : Mm} (N : Nat)   (C0 : Cx p m meth c cX0_emptyList none 4 s args wsX0_emptyList RX0 D cy) (hA : ∀ q : Nat, s.heap.size ≤ q → A q)  : ∀ (n : Nat), ∀ (v2 : Int32) (u : Mm) (H : Heap) (locs : List Loc) (ls : Array Slot), vn L 3 51 → Wd D cy L ad A s.heap u H locs → lv_has ls 4 [(1, .ref (ad 51)), (2, .int v2)] → f_X0_emptyList_10 N   n v2 u = some o → W p l e ({ frames := 1, cells := 0, slots := 0, locals := 21 } : Room) s m args below meth c H locs 0 0 (MQ below (QcV D cy L ad A o) args s 0 0 A) (F0 m 10 ls []) := by
  intro n
  induction n with
  | zero =>
    intro v2 u H locs ls hv_t1 hw hl h
    cases h
  | succ n ih => exact jg_X0_emptyList_10 N   C0 hA  _ ih
def f_X0_emptyList (N : Nat)  (u : Mm) : Option (Mm) :=
  f_X0_emptyList_10 N N 0 u
set_option maxHeartbeats 4000000 in
set_option maxRecDepth 100000 in
theorem c_X0_emptyList (l : Launch) (D : va_G) (cy : Nat → ClassId) (L : List Nat) (ad : Nat → Nat) (N : Nat)  (u : Mm) (o : Mm) (h_this : vn L 0 55) (h : f_X0_emptyList N  u = some o) : MtV l yX0_emptyList wsX0_emptyList ({ frames := 1, cells := 0, slots := 0, locals := 21 } : Room) D cy L ad [.ref (ad 55)] u o := by
  intro sz
  refine Met.ofW (cc := cX0_emptyList) (maxL := 4) (ret := none) (by decide) rfl ?_
  intro p e s m args below meth c s₁ B hml hv
  obtain ⟨rfl, hsz, hP, hK, hD0, hok⟩ := hv
  have hx := B.exec
  have hb := B.bytes
  have hr := B.returns
  have hts := atoms_spec (ws := wsX0_emptyList) B.pre
  have hown : s.vm.findClass RX0 = some m.cls := findClass_of_methodNamed B.named
  have hlocks := B.notSynchronized
  subst hsz
  have hw := wd_start hP hD0 hok
  have hA : ∀ q : Nat, s.heap.size ≤ q → va_A (wl cy L ad u) s.heap.size q := fun q h => Or.inr h
  generalize va_A (wl cy L ad u) s.heap.size = A at hw hA ⊢
  have C0 : Cx p m meth c cX0_emptyList none 4 s _ wsX0_emptyList RX0 D cy := ⟨hx, hb, hr, hml, hown, hts, hlocks, hK⟩
  have hl := lv_entry ([.ref (ad 55)]) (n := 4) (Nat.le_of_ble_eq_true rfl)
  rw [lg_entry_eq]
  generalize (lg_sl ([.ref (ad 55)]) ++ List.replicate (4 - (lg_sl ([.ref (ad 55)])).length) Slot.unset).toArray = ls at hl ⊢
  have hl : lv_has ls 4 [(0, .ref (ad 55))] := hl
  unfold f_X0_emptyList at h
  refine lv_aload_n hx hb dX0_emptyList_0 rfl (lv_at hl 0 rfl) ?_
  refine r_getC (t2 := 1) (d := 48) hx hb hts n_X0_emptyList_X0 hown hK hw h_this (by decide) rfl 1 (by decide) rfl rfl (hts _ k_X0_emptyList_1) (fun _ q => q) dX0_emptyList_1 (fun hv1 => ?_)
  refine r_getC (t2 := 3) (d := 51) hx hb hts n_X0_emptyList_X1 hown hK hw hv1 (by decide) rfl 2 (by decide) rfl rfl (hts _ k_X0_emptyList_2) (fun _ q => q) dX0_emptyList_4 (fun hv2 => ?_)
  refine lv_astore_n (lv' := [(1, .ref (ad 51)), (0, .ref (ad 55))]) hx hb dX0_emptyList_7 rfl hl (by decide) rfl (fun ls hl => ?_)
  refine lv_iconst (v := 0) hx hb dX0_emptyList_8 (by decide) ?_
  refine lv_istore_n (lv' := [(2, .int 0), (1, .ref (ad 51)), (0, .ref (ad 55))]) hx hb dX0_emptyList_9 rfl hl (by decide) rfl (fun ls hl => ?_)
  exact j_X0_emptyList_10 N C0 hA N 0 u _ _ _ hv2 hw (lv_sub hl [1, 0] rfl) h
theorem k_X0_freeWhite_1 : Cond.fieldLink RX0 21 "RingHeap$Collector" "store" "LRingHeap$Store;" ∈ wsX0_freeWhite := List.mem_of_getElem? (i := 1) (by rfl)
theorem n_X0_freeWhite_X0 : ∀ w ∈ u_ws RX0 TX0 7, w ∈ wsX0_freeWhite := fun _ h => List.mem_cons_of_mem _ (List.mem_append_left _ (List.mem_append_left _ (List.mem_append_left _ (List.mem_append_left _ (List.mem_append_left _ (List.mem_append_left _ (List.mem_append_right _ h)))))))
theorem k_X0_freeWhite_2 : Cond.fieldLink RX0 122 "RingHeap$Store" "words" "LRingHeap$Words;" ∈ wsX0_freeWhite := List.mem_of_getElem? (i := 2) (by rfl)
theorem n_X0_freeWhite_X4 : ∀ w ∈ u_ws RX4 TX4 6, w ∈ wsX0_freeWhite := fun _ h => List.mem_cons_of_mem _ (List.mem_append_left _ (List.mem_append_left _ (List.mem_append_left _ (List.mem_append_left _ (List.mem_append_left _ (List.mem_append_right _ h))))))
theorem k_X0_freeWhite_3 : Cond.fieldLink RX0 78 "RingHeap$Thing" "colour" "I" ∈ wsX0_freeWhite := List.mem_of_getElem? (i := 3) (by rfl)
theorem n_X0_freeWhite_X5 : ∀ w ∈ u_ws RX5 TX5 11, w ∈ wsX0_freeWhite := fun _ h => List.mem_cons_of_mem _ (List.mem_append_left _ (List.mem_append_left _ (List.mem_append_left _ (List.mem_append_left _ (List.mem_append_right _ h)))))
theorem k_X0_freeWhite_4 : Cond.fieldLink RX0 90 "RingHeap$Thing" "held" "[LRingHeap$Thing;" ∈ wsX0_freeWhite := List.mem_of_getElem? (i := 4) (by rfl)
theorem k_X0_freeWhite_5 : Cond.fieldLink RX0 25 "RingHeap$Collector" "counting" "LRingHeap$Counting;" ∈ wsX0_freeWhite := List.mem_of_getElem? (i := 5) (by rfl)
def f_X0_freeWhite_98 (N : Nat)  (K2 : Int32 → Mm → Option (Mm)) (v1 : Int32) (u : Mm) : Option (Mm) :=
  K2 (v1 + 1) u
set_option maxHeartbeats 4000000 in
set_option maxRecDepth 100000 in
theorem j_X0_freeWhite_98 {p : Program} {l : Launch} {e : Env} {s : State} {m : MethodId} {args : Array Value} {below : List Frame} {meth : Method} {c : Code} {D : va_G} {cy : Nat → ClassId} {L : List Nat} {ad : Nat → Nat} {A : Nat → Prop} {o : Mm} (N : Nat)   (C0 : Cx p m meth c cX0_freeWhite none 7 s args wsX0_freeWhite RX0 D cy) (hA : ∀ q : Nat, s.heap.size ≤ q → A q) (K2 : Int32 → Mm → Option (Mm)) (hK2 : ∀ (v1 : Int32) (u : Mm) (H : Heap) (locs : List Loc) (ls : Array Slot), vn L 0 55 → Wd D cy L ad A s.heap u H locs → lv_has ls 7 [(0, .ref (ad 55)), (1, .int v1)] → K2 v1 u = some o → W p l e ({ frames := 4, cells := 0, slots := 0, locals := 92 } : Room) s m args below meth c H locs 0 0 (MQ below (QcV D cy L ad A o) args s 0 0 A) (F0 m 2 ls [])) : ∀ (v1 : Int32) (u : Mm) (H : Heap) (locs : List Loc) (ls : Array Slot), vn L 0 55 → Wd D cy L ad A s.heap u H locs → lv_has ls 7 [(0, .ref (ad 55)), (1, .int v1)] → f_X0_freeWhite_98 N  K2 v1 u = some o → W p l e ({ frames := 4, cells := 0, slots := 0, locals := 92 } : Room) s m args below meth c H locs 0 0 (MQ below (QcV D cy L ad A o) args s 0 0 A) (F0 m 98 ls []) := by
  obtain ⟨hx, hb, hr, hml, hown, hts, hlocks, hK⟩ := id C0
  intro v1 u H locs ls hv_t0 hw hl h
  unfold f_X0_freeWhite_98 at h
  refine lv_iinc (v := v1 + 1) (lv' := [(1, .int (v1 + 1)), (0, .ref (ad 55))]) hx hb dX0_freeWhite_98 hl (k := 1) rfl rfl (by decide) rfl (fun ls hl => ?_)
  refine lv_goto (tgt := 2) hx hb dX0_freeWhite_101 (by decide) ?_
  exact hK2 (v1 + 1) u _ _ _ hv_t0 hw (lv_sub hl [1, 0] rfl) h
def f_X0_freeWhite_84 (N : Nat)  (K2 : Int32 → Mm → Option (Mm)) (K48 : Int32 → Nat → Nat → Int32 → Int32 → Mm → Option (Mm)) (v1 : Int32) (t2 : Nat) (t3 : Nat) (v4 : Int32) (v5 : Int32) (u : Mm) : Option (Mm) :=
  K48 v1 t2 t3 v4 (v5 + 1) u
set_option maxHeartbeats 4000000 in
set_option maxRecDepth 100000 in
theorem j_X0_freeWhite_84 {p : Program} {l : Launch} {e : Env} {s : State} {m : MethodId} {args : Array Value} {below : List Frame} {meth : Method} {c : Code} {D : va_G} {cy : Nat → ClassId} {L : List Nat} {ad : Nat → Nat} {A : Nat → Prop} {o : Mm} (N : Nat)   (C0 : Cx p m meth c cX0_freeWhite none 7 s args wsX0_freeWhite RX0 D cy) (hA : ∀ q : Nat, s.heap.size ≤ q → A q) (K2 : Int32 → Mm → Option (Mm)) (hK2 : ∀ (v1 : Int32) (u : Mm) (H : Heap) (locs : List Loc) (ls : Array Slot), vn L 0 55 → Wd D cy L ad A s.heap u H locs → lv_has ls 7 [(0, .ref (ad 55)), (1, .int v1)] → K2 v1 u = some o → W p l e ({ frames := 4, cells := 0, slots := 0, locals := 92 } : Room) s m args below meth c H locs 0 0 (MQ below (QcV D cy L ad A o) args s 0 0 A) (F0 m 2 ls [])) (K48 : Int32 → Nat → Nat → Int32 → Int32 → Mm → Option (Mm)) (hK48 : ∀ (v1 : Int32) (t2 : Nat) (t3 : Nat) (v4 : Int32) (v5 : Int32) (u : Mm) (H : Heap) (locs : List Loc) (ls : Array Slot), vn L 0 55 → vn L 5 t2 → vn L 12 t3 → Wd D cy L ad A s.heap u H locs → lv_has ls 7 [(0, .ref (ad 55)), (1, .int v1), (2, .ref (ad t2)), (3, .ref (ad t3)), (4, .int v4), (5, .int v5)] → K48 v1 t2 t3 v4 v5 u = some o → W p l e ({ frames := 4, cells := 0, slots := 0, locals := 92 } : Room) s m args below meth c H locs 0 0 (MQ below (QcV D cy L ad A o) args s 0 0 A) (F0 m 48 ls [])) : ∀ (v1 : Int32) (t2 : Nat) (t3 : Nat) (v4 : Int32) (v5 : Int32) (u : Mm) (H : Heap) (locs : List Loc) (ls : Array Slot), vn L 0 55 → vn L 5 t2 → vn L 12 t3 → Wd D cy L ad A s.heap u H locs → lv_has ls 7 [(0, .ref (ad 55)), (1, .int v1), (2, .ref (ad t2)), (3, .ref (ad t3)), (4, .int v4), (5, .int v5)] → f_X0_freeWhite_84 N  K2 K48 v1 t2 t3 v4 v5 u = some o → W p l e ({ frames := 4, cells := 0, slots := 0, locals := 92 } : Room) s m args below meth c H locs 0 0 (MQ below (QcV D cy L ad A o) args s 0 0 A) (F0 m 84 ls []) := by
  obtain ⟨hx, hb, hr, hml, hown, hts, hlocks, hK⟩ := id C0
  intro v1 t2 t3 v4 v5 u H locs ls hv_t0 hv_t2 hv_t3 hw hl h
  unfold f_X0_freeWhite_84 at h
  refine lv_iinc (v := v5 + 1) (lv' := [(5, .int (v5 + 1)), (0, .ref (ad 55)), (1, .int v1), (2, .ref (ad t2)), (3, .ref (ad t3)), (4, .int v4)]) hx hb dX0_freeWhite_84 hl (k := 5) rfl rfl (by decide) rfl (fun ls hl => ?_)
  refine lv_goto (tgt := 48) hx hb dX0_freeWhite_87 (by decide) ?_
  exact hK48 v1 t2 t3 v4 (v5 + 1) u _ _ _ hv_t0 hv_t2 hv_t3 hw (lv_sub hl [1, 2, 3, 4, 5, 0] rfl) h
def g_X0_freeWhite_48 (N : Nat)  (K2 : Int32 → Mm → Option (Mm)) (K48 : Int32 → Nat → Nat → Int32 → Int32 → Mm → Option (Mm)) (v1 : Int32) (t2 : Nat) (t3 : Nat) (v4 : Int32) (v5 : Int32) (u : Mm) : Option (Mm) :=
  if v4 ≤ v5 then (bv (f_X4_free N t2 u) (fun u => f_X0_freeWhite_98 N K2 v1 u)) else (ck (bI v5 (ln t3)) (pt (u.2 t3 (ix v5)) (fun r9 => nl r9 (f_X0_freeWhite_84 N K2 K48 v1 t2 t3 v4 v5 u) (fun t10 => bd (f_X5_isGreen N t10 u) (fun x12 u => if x12 = 0 then (f_X0_freeWhite_84 N K2 K48 v1 t2 t3 v4 v5 u) else (bd (f_X1_less N t10 u) (fun x14 u => f_X0_freeWhite_84 N K2 K48 v1 t2 t3 v4 v5 u)))))))
def f_X0_freeWhite_48 (N : Nat)  (K2 : Int32 → Mm → Option (Mm)) : Nat → Int32 → Nat → Nat → Int32 → Int32 → Mm → Option (Mm)
  | 0 => fun _ _ _ _ _ _ => none
  | n + 1 => g_X0_freeWhite_48 N  K2 (f_X0_freeWhite_48 N  K2 n)
set_option maxHeartbeats 4000000 in
set_option maxRecDepth 100000 in
theorem jg_X0_freeWhite_48 {p : Program} {l : Launch} {e : Env} {s : State} {m : MethodId} {args : Array Value} {below : List Frame} {meth : Method} {c : Code} {D : va_G} {cy : Nat → ClassId} {L : List Nat} {ad : Nat → Nat} {A : Nat → Prop} {o : Mm} (N : Nat)   (C0 : Cx p m meth c cX0_freeWhite none 7 s args wsX0_freeWhite RX0 D cy) (hA : ∀ q : Nat, s.heap.size ≤ q → A q) (K2 : Int32 → Mm → Option (Mm)) (hK2 : ∀ (v1 : Int32) (u : Mm) (H : Heap) (locs : List Loc) (ls : Array Slot), vn L 0 55 → Wd D cy L ad A s.heap u H locs → lv_has ls 7 [(0, .ref (ad 55)), (1, .int v1)] → K2 v1 u = some o → W p l e ({ frames := 4, cells := 0, slots := 0, locals := 92 } : Room) s m args below meth c H locs 0 0 (MQ below (QcV D cy L ad A o) args s 0 0 A) (F0 m 2 ls [])) (K48 : Int32 → Nat → Nat → Int32 → Int32 → Mm → Option (Mm)) (hK48 : ∀ (v1 : Int32) (t2 : Nat) (t3 : Nat) (v4 : Int32) (v5 : Int32) (u : Mm) (H : Heap) (locs : List Loc) (ls : Array Slot), vn L 0 55 → vn L 5 t2 → vn L 12 t3 → Wd D cy L ad A s.heap u H locs → lv_has ls 7 [(0, .ref (ad 55)), (1, .int v1), (2, .ref (ad t2)), (3, .ref (ad t3)), (4, .int v4), (5, .int v5)] → K48 v1 t2 t3 v4 v5 u = some o → W p l e ({ frames := 4, cells := 0, slots := 0, locals := 92 } : Room) s m args below meth c H locs 0 0 (MQ below (QcV D cy L ad A o) args s 0 0 A) (F0 m 48 ls [])) : ∀ (v1 : Int32) (t2 : Nat) (t3 : Nat) (v4 : Int32) (v5 : Int32) (u : Mm) (H : Heap) (locs : List Loc) (ls : Array Slot), vn L 0 55 → vn L 5 t2 → vn L 12 t3 → Wd D cy L ad A s.heap u H locs → lv_has ls 7 [(0, .ref (ad 55)), (1, .int v1), (2, .ref (ad t2)), (3, .ref (ad t3)), (4, .int v4), (5, .int v5)] → g_X0_freeWhite_48 N  K2 K48 v1 t2 t3 v4 v5 u = some o → W p l e ({ frames := 4, cells := 0, slots := 0, locals := 92 } : Room) s m args below meth c H locs 0 0 (MQ below (QcV D cy L ad A o) args s 0 0 A) (F0 m 48 ls []) := by
  obtain ⟨hx, hb, hr, hml, hown, hts, hlocks, hK⟩ := id C0
  intro v1 t2 t3 v4 v5 u H locs ls hv_t0 hv_t2 hv_t3 hw hl h
  unfold g_X0_freeWhite_48 at h
  refine lv_iload hx hb dX0_freeWhite_48 (lv_at hl 5 rfl) ?_
  refine lv_iload hx hb dX0_freeWhite_50 (lv_at hl 4 rfl) ?_
  refine lv_icmp_ge (tgt := 90) hx hb dX0_freeWhite_52 (by decide) (fun hc => ?_) (fun hc => ?_)
  · rw [if_pos hc] at h
    refine lv_aload_n hx hb dX0_freeWhite_90 rfl (lv_at hl 0 rfl) ?_
    refine r_getC (t2 := 4) (d := 42) hx hb hts n_X0_freeWhite_X0 hown hK hw hv_t0 (by decide) rfl 0 (by decide) rfl rfl (hts _ k_X0_freeWhite_1) (fun _ q => q) dX0_freeWhite_91 (fun hv8 => ?_)
    refine lv_aload_n hx hb dX0_freeWhite_94 rfl (lv_at hl 2 rfl) ?_
    refine r_bV (fun o ho => r_vV (As := [.ref (ad t2)]) (rest := []) ⟨hx, hb, hml, hown, hts⟩ (c_X4_free l D cy L ad N t2 u o hv8 hv_t2 ho) (cwV 1 hts gX0_freeWhite_X4_free rfl rfl rfl (by decide +kernel) ⟨Nat.le_of_ble_eq_true rfl, Nat.le_of_ble_eq_true rfl⟩) hw hK hv8 (by decide) rfl rfl hl.1 rfl (Nat.le_of_ble_eq_true rfl) dX0_freeWhite_95 ⟨Nat.zero_le _, Nat.zero_le _⟩) hw hA h (fun u H locs hw h => ?_)
    exact j_X0_freeWhite_98 N C0 hA K2 hK2 v1 u _ _ _ hv_t0 hw (lv_sub hl [0, 1] rfl) h
  · rw [if_neg hc] at h
    refine lv_aload_n hx hb dX0_freeWhite_55 rfl (lv_at hl 3 rfl) ?_
    refine lv_iload hx hb dX0_freeWhite_56 (lv_at hl 5 rfl) ?_
    refine r_tald (n := (ln t3)) hx hb hK hw hv_t3 rfl dX0_freeWhite_58 h (fun r9 hv_r9 h => ?_)
    refine r_astore (lv' := [(6, va_re ad r9), (0, .ref (ad 55)), (1, .int v1), (2, .ref (ad t2)), (3, .ref (ad t3)), (4, .int v4), (5, .int v5)]) hx hb dX0_freeWhite_59 hl (by decide) rfl (fun ls hl => ?_)
    refine r_aload hx hb dX0_freeWhite_61 (lv_at hl 0 rfl) ?_
    refine r_ifnull (tgt := 84) hx hb hv_r9 dX0_freeWhite_63 (by decide) h (fun e11 h9 => ?_) (fun t10 e11 hv_t10 h9 => ?_)
    · clear h
      subst e11
      have h := h9
      have hl : lv_has ls 7 [(6, va_re ad none), (0, .ref (ad 55)), (1, .int v1), (2, .ref (ad t2)), (3, .ref (ad t3)), (4, .int v4), (5, .int v5)] := hl
      exact j_X0_freeWhite_84 N C0 hA K2 hK2 K48 hK48 v1 t2 t3 v4 v5 u _ _ _ hv_t0 hv_t2 hv_t3 hw (lv_sub hl [1, 2, 3, 4, 5, 6] rfl) h
    · clear h
      subst e11
      have h := h9
      have hl : lv_has ls 7 [(6, .ref (ad t10)), (0, .ref (ad 55)), (1, .int v1), (2, .ref (ad t2)), (3, .ref (ad t3)), (4, .int v4), (5, .int v5)] := hl
      refine lv_aload hx hb dX0_freeWhite_66 (lv_at hl 0 rfl) ?_
      refine r_bI (fun o ho => r_vI (As := []) (rest := []) ⟨hx, hb, hml, hown, hts⟩ (c_X5_isGreen l D cy L ad N t10 u o hv_t10 ho) (cwV 0 hts gX0_freeWhite_X5_isGreen rfl rfl rfl (by decide +kernel) ⟨Nat.le_of_ble_eq_true rfl, Nat.le_of_ble_eq_true rfl⟩) hw hK hv_t10 (by decide) rfl rfl hl.1 rfl (Nat.le_of_ble_eq_true rfl) dX0_freeWhite_68 ⟨Nat.zero_le _, Nat.zero_le _⟩) hw hA h (fun x12 u H locs hw h => ?_)
      refine lv_if_eq (tgt := 84) hx hb dX0_freeWhite_71 (by decide) (fun hc => ?_) (fun hc => ?_)
      · rw [if_pos hc] at h
        exact j_X0_freeWhite_84 N C0 hA K2 hK2 K48 hK48 v1 t2 t3 v4 v5 u _ _ _ hv_t0 hv_t2 hv_t3 hw (lv_sub hl [1, 2, 3, 4, 5, 6] rfl) h
      · rw [if_neg hc] at h
        refine lv_aload_n hx hb dX0_freeWhite_74 rfl (lv_at hl 1 rfl) ?_
        refine r_getC (t2 := 1) (d := 48) hx hb hts n_X0_freeWhite_X0 hown hK hw hv_t0 (by decide) rfl 1 (by decide) rfl rfl (hts _ k_X0_freeWhite_5) (fun _ q => q) dX0_freeWhite_75 (fun hv13 => ?_)
        refine lv_aload hx hb dX0_freeWhite_78 (lv_at hl 0 rfl) ?_
        refine r_bI (fun o ho => r_vI (As := [.ref (ad t10)]) (rest := []) ⟨hx, hb, hml, hown, hts⟩ (c_X1_less l D cy L ad N t10 u o hv13 hv_t10 ho) (cwV 1 hts gX0_freeWhite_X1_less rfl rfl rfl (by decide +kernel) ⟨Nat.le_of_ble_eq_true rfl, Nat.le_of_ble_eq_true rfl⟩) hw hK hv13 (by decide) rfl rfl hl.1 rfl (Nat.le_of_ble_eq_true rfl) dX0_freeWhite_80 ⟨Nat.zero_le _, Nat.zero_le _⟩) hw hA h (fun x14 u H locs hw h => ?_)
        refine lv_pop hx hb dX0_freeWhite_83 rfl ?_
        exact j_X0_freeWhite_84 N C0 hA K2 hK2 K48 hK48 v1 t2 t3 v4 v5 u _ _ _ hv_t0 hv_t2 hv_t3 hw (lv_sub hl [1, 2, 3, 4, 5, 6] rfl) h
set_option maxHeartbeats 4000000 in
set_option maxRecDepth 100000 in
theorem j_X0_freeWhite_48 {p : Program} {l : Launch} {e : Env} {s : State} {m : MethodId} {args : Array Value} {below : List Frame} {meth : Method} {c : Code} {D : va_G} {cy : Nat → ClassId} {L : List Nat} {ad : Nat → Nat} {A : Nat → Prop} {o : Mm} (N : Nat)   (C0 : Cx p m meth c cX0_freeWhite none 7 s args wsX0_freeWhite RX0 D cy) (hA : ∀ q : Nat, s.heap.size ≤ q → A q) (K2 : Int32 → Mm → Option (Mm)) (hK2 : ∀ (v1 : Int32) (u : Mm) (H : Heap) (locs : List Loc) (ls : Array Slot), vn L 0 55 → Wd D cy L ad A s.heap u H locs → lv_has ls 7 [(0, .ref (ad 55)), (1, .int v1)] → K2 v1 u = some o → W p l e ({ frames := 4, cells := 0, slots := 0, locals := 92 } : Room) s m args below meth c H locs 0 0 (MQ below (QcV D cy L ad A o) args s 0 0 A) (F0 m 2 ls [])) : ∀ (n : Nat), ∀ (v1 : Int32) (t2 : Nat) (t3 : Nat) (v4 : Int32) (v5 : Int32) (u : Mm) (H : Heap) (locs : List Loc) (ls : Array Slot), vn L 0 55 → vn L 5 t2 → vn L 12 t3 → Wd D cy L ad A s.heap u H locs → lv_has ls 7 [(0, .ref (ad 55)), (1, .int v1), (2, .ref (ad t2)), (3, .ref (ad t3)), (4, .int v4), (5, .int v5)] → f_X0_freeWhite_48 N  K2 n v1 t2 t3 v4 v5 u = some o → W p l e ({ frames := 4, cells := 0, slots := 0, locals := 92 } : Room) s m args below meth c H locs 0 0 (MQ below (QcV D cy L ad A o) args s 0 0 A) (F0 m 48 ls []) := by
  intro n
  induction n with
  | zero =>
    intro v1 t2 t3 v4 v5 u H locs ls hv_t0 hv_t2 hv_t3 hw hl h
    cases h
  | succ n ih => exact jg_X0_freeWhite_48 N   C0 hA K2 hK2 _ ih
def g_X0_freeWhite_2 (N : Nat)  (K2 : Int32 → Mm → Option (Mm)) (v1 : Int32) (u : Mm) : Option (Mm) :=
  if 400 ≤ v1 then (some u) else (bd (f_X6_ownerFrom N v1 u) (fun r3 u => nl r3 (f_X0_freeWhite_98 N K2 v1 u) (fun t4 => pt (u.1 t4 5) (fun x6 => if x6 = 2 then (f_X0_freeWhite_48 N K2 N v1 t4 (t4 + 1) 6 0 u) else (f_X0_freeWhite_98 N K2 v1 u)))))
def f_X0_freeWhite_2 (N : Nat)   : Nat → Int32 → Mm → Option (Mm)
  | 0 => fun _ _ => none
  | n + 1 => g_X0_freeWhite_2 N   (f_X0_freeWhite_2 N   n)
set_option maxHeartbeats 4000000 in
set_option maxRecDepth 100000 in
theorem jg_X0_freeWhite_2 {p : Program} {l : Launch} {e : Env} {s : State} {m : MethodId} {args : Array Value} {below : List Frame} {meth : Method} {c : Code} {D : va_G} {cy : Nat → ClassId} {L : List Nat} {ad : Nat → Nat} {A : Nat → Prop} {o : Mm} (N : Nat)   (C0 : Cx p m meth c cX0_freeWhite none 7 s args wsX0_freeWhite RX0 D cy) (hA : ∀ q : Nat, s.heap.size ≤ q → A q)  (K2 : Int32 → Mm → Option (Mm)) (hK2 : ∀ (v1 : Int32) (u : Mm) (H : Heap) (locs : List Loc) (ls : Array Slot), vn L 0 55 → Wd D cy L ad A s.heap u H locs → lv_has ls 7 [(0, .ref (ad 55)), (1, .int v1)] → K2 v1 u = some o → W p l e ({ frames := 4, cells := 0, slots := 0, locals := 92 } : Room) s m args below meth c H locs 0 0 (MQ below (QcV D cy L ad A o) args s 0 0 A) (F0 m 2 ls [])) : ∀ (v1 : Int32) (u : Mm) (H : Heap) (locs : List Loc) (ls : Array Slot), vn L 0 55 → Wd D cy L ad A s.heap u H locs → lv_has ls 7 [(0, .ref (ad 55)), (1, .int v1)] → g_X0_freeWhite_2 N   K2 v1 u = some o → W p l e ({ frames := 4, cells := 0, slots := 0, locals := 92 } : Room) s m args below meth c H locs 0 0 (MQ below (QcV D cy L ad A o) args s 0 0 A) (F0 m 2 ls []) := by
  obtain ⟨hx, hb, hr, hml, hown, hts, hlocks, hK⟩ := id C0
  intro v1 u H locs ls hv_t0 hw hl h
  unfold g_X0_freeWhite_2 at h
  refine lv_iload_n hx hb dX0_freeWhite_2 rfl (lv_at hl 1 rfl) ?_
  refine lv_sipush (v := 400) hx hb dX0_freeWhite_3 (by decide) ?_
  refine lv_icmp_ge (tgt := 104) hx hb dX0_freeWhite_6 (by decide) (fun hc => ?_) (fun hc => ?_)
  · rw [if_pos hc] at h
    exact r_vret hx hb hr hlocks hK hw h dX0_freeWhite_104
  · rw [if_neg hc] at h
    refine lv_aload_n hx hb dX0_freeWhite_9 rfl (lv_at hl 0 rfl) ?_
    refine r_getC (t2 := 4) (d := 42) hx hb hts n_X0_freeWhite_X0 hown hK hw hv_t0 (by decide) rfl 0 (by decide) rfl rfl (hts _ k_X0_freeWhite_1) (fun _ q => q) dX0_freeWhite_10 (fun hv1 => ?_)
    refine r_getC (t2 := 6) (d := 46) hx hb hts n_X0_freeWhite_X4 hown hK hw hv1 (by decide) rfl 3 (by decide) rfl rfl (hts _ k_X0_freeWhite_2) (fun _ q => q) dX0_freeWhite_13 (fun hv2 => ?_)
    refine lv_iload_n hx hb dX0_freeWhite_16 rfl (lv_at hl 1 rfl) ?_
    refine r_bQ (fun o ho => r_vQ (As := [.int v1]) (rest := []) ⟨hx, hb, hml, hown, hts⟩ (c_X6_ownerFrom l D cy L ad N v1 u o hv2 ho) (cwV 1 hts gX0_freeWhite_X6_ownerFrom rfl rfl rfl (by decide +kernel) ⟨Nat.le_of_ble_eq_true rfl, Nat.le_of_ble_eq_true rfl⟩) hw hK hv2 (by decide) rfl rfl hl.1 rfl (Nat.le_of_ble_eq_true rfl) dX0_freeWhite_17 ⟨Nat.zero_le _, Nat.zero_le _⟩) hw hA h (fun r3 u H locs hw hv_r3 h => ?_)
    refine r_astoren (lv' := [(2, va_re ad r3), (0, .ref (ad 55)), (1, .int v1)]) hx hb dX0_freeWhite_20 rfl hl (by decide) rfl (fun ls hl => ?_)
    refine r_aloadn hx hb dX0_freeWhite_21 rfl (lv_at hl 0 rfl) ?_
    refine r_ifnull (tgt := 98) hx hb hv_r3 dX0_freeWhite_22 (by decide) h (fun e5 h9 => ?_) (fun t4 e5 hv_t4 h9 => ?_)
    · clear h
      subst e5
      have h := h9
      have hl : lv_has ls 7 [(2, va_re ad none), (0, .ref (ad 55)), (1, .int v1)] := hl
      exact j_X0_freeWhite_98 N C0 hA K2 hK2 v1 u _ _ _ hv_t0 hw (lv_sub hl [1, 2] rfl) h
    · clear h
      subst e5
      have h := h9
      have hl : lv_has ls 7 [(2, .ref (ad t4)), (0, .ref (ad 55)), (1, .int v1)] := hl
      refine lv_aload_n hx hb dX0_freeWhite_25 rfl (lv_at hl 0 rfl) ?_
      refine r_getI hx hb hts n_X0_freeWhite_X5 hown hK hw hv_t4 (by decide) rfl 5 (by decide) rfl (hts _ k_X0_freeWhite_3) (fun _ q => q) dX0_freeWhite_26 h (fun x6 h => ?_)
      refine lv_iconst (v := 2) hx hb dX0_freeWhite_29 (by decide) ?_
      refine lv_icmp_eq (tgt := 36) hx hb dX0_freeWhite_30 (by decide) (fun hc => ?_) (fun hc => ?_)
      · rw [if_pos hc] at h
        refine lv_aload_n hx hb dX0_freeWhite_36 rfl (lv_at hl 0 rfl) ?_
        refine r_getC (t2 := 12) (d := (t4 + 1)) hx hb hts n_X0_freeWhite_X5 hown hK hw hv_t4 (by decide) rfl 2 (by decide) rfl (cst5 hv_t4.2) (hts _ k_X0_freeWhite_4) (fun _ q => q) dX0_freeWhite_37 (fun hv7 => ?_)
        refine lv_astore_n (lv' := [(3, .ref (ad (t4 + 1))), (2, .ref (ad t4)), (0, .ref (ad 55)), (1, .int v1)]) hx hb dX0_freeWhite_40 rfl hl (by decide) rfl (fun ls hl => ?_)
        refine lv_aload_n hx hb dX0_freeWhite_41 rfl (lv_at hl 0 rfl) ?_
        refine r_alen (n := 6) (v := 6) hx hb hK hw hv7 (by decide) (ln5s hv_t4.2) rfl dX0_freeWhite_42 ?_
        refine lv_istore (lv' := [(4, .int 6), (3, .ref (ad (t4 + 1))), (2, .ref (ad t4)), (0, .ref (ad 55)), (1, .int v1)]) hx hb dX0_freeWhite_43 hl (by decide) rfl (fun ls hl => ?_)
        refine lv_iconst (v := 0) hx hb dX0_freeWhite_45 (by decide) ?_
        refine lv_istore (lv' := [(5, .int 0), (4, .int 6), (3, .ref (ad (t4 + 1))), (2, .ref (ad t4)), (0, .ref (ad 55)), (1, .int v1)]) hx hb dX0_freeWhite_46 hl (by decide) rfl (fun ls hl => ?_)
        exact j_X0_freeWhite_48 N C0 hA K2 hK2 N v1 t4 (t4 + 1) 6 0 u _ _ _ hv_t0 hv_t4 hv7 hw (lv_sub hl [4, 5, 3, 2, 1, 0] rfl) h
      · rw [if_neg hc] at h
        refine lv_goto (tgt := 98) hx hb dX0_freeWhite_33 (by decide) ?_
        exact j_X0_freeWhite_98 N C0 hA K2 hK2 v1 u _ _ _ hv_t0 hw (lv_sub hl [1, 2] rfl) h
set_option maxHeartbeats 4000000 in
set_option maxRecDepth 100000 in
theorem j_X0_freeWhite_2 {p : Program} {l : Launch} {e : Env} {s : State} {m : MethodId} {args : Array Value} {below : List Frame} {meth : Method} {c : Code} {D : va_G} {cy : Nat → ClassId} {L : List Nat} {ad : Nat → Nat} {A : Nat → Prop} {o : Mm} (N : Nat)   (C0 : Cx p m meth c cX0_freeWhite none 7 s args wsX0_freeWhite RX0 D cy) (hA : ∀ q : Nat, s.heap.size ≤ q → A q)  : ∀ (n : Nat), ∀ (v1 : Int32) (u : Mm) (H : Heap) (locs : List Loc) (ls : Array Slot), vn L 0 55 → Wd D cy L ad A s.heap u H locs → lv_has ls 7 [(0, .ref (ad 55)), (1, .int v1)] → f_X0_freeWhite_2 N   n v1 u = some o → W p l e ({ frames := 4, cells := 0, slots := 0, locals := 92 } : Room) s m args below meth c H locs 0 0 (MQ below (QcV D cy L ad A o) args s 0 0 A) (F0 m 2 ls []) := by
  intro n
  induction n with
  | zero =>
    intro v1 u H locs ls hv_t0 hw hl h
    cases h
  | succ n ih => exact jg_X0_freeWhite_2 N   C0 hA  _ ih
def f_X0_freeWhite (N : Nat)  (u : Mm) : Option (Mm) :=
  f_X0_freeWhite_2 N N 0 u
set_option maxHeartbeats 4000000 in
set_option maxRecDepth 100000 in
theorem c_X0_freeWhite (l : Launch) (D : va_G) (cy : Nat → ClassId) (L : List Nat) (ad : Nat → Nat) (N : Nat)  (u : Mm) (o : Mm) (h_this : vn L 0 55) (h : f_X0_freeWhite N  u = some o) : MtV l yX0_freeWhite wsX0_freeWhite ({ frames := 4, cells := 0, slots := 0, locals := 92 } : Room) D cy L ad [.ref (ad 55)] u o := by
  intro sz
  refine Met.ofW (cc := cX0_freeWhite) (maxL := 7) (ret := none) (by decide) rfl ?_
  intro p e s m args below meth c s₁ B hml hv
  obtain ⟨rfl, hsz, hP, hK, hD0, hok⟩ := hv
  have hx := B.exec
  have hb := B.bytes
  have hr := B.returns
  have hts := atoms_spec (ws := wsX0_freeWhite) B.pre
  have hown : s.vm.findClass RX0 = some m.cls := findClass_of_methodNamed B.named
  have hlocks := B.notSynchronized
  subst hsz
  have hw := wd_start hP hD0 hok
  have hA : ∀ q : Nat, s.heap.size ≤ q → va_A (wl cy L ad u) s.heap.size q := fun q h => Or.inr h
  generalize va_A (wl cy L ad u) s.heap.size = A at hw hA ⊢
  have C0 : Cx p m meth c cX0_freeWhite none 7 s _ wsX0_freeWhite RX0 D cy := ⟨hx, hb, hr, hml, hown, hts, hlocks, hK⟩
  have hl := lv_entry ([.ref (ad 55)]) (n := 7) (Nat.le_of_ble_eq_true rfl)
  rw [lg_entry_eq]
  generalize (lg_sl ([.ref (ad 55)]) ++ List.replicate (7 - (lg_sl ([.ref (ad 55)])).length) Slot.unset).toArray = ls at hl ⊢
  have hl : lv_has ls 7 [(0, .ref (ad 55))] := hl
  unfold f_X0_freeWhite at h
  refine lv_iconst (v := 0) hx hb dX0_freeWhite_0 (by decide) ?_
  refine lv_istore_n (lv' := [(1, .int 0), (0, .ref (ad 55))]) hx hb dX0_freeWhite_1 rfl hl (by decide) rfl (fun ls hl => ?_)
  exact j_X0_freeWhite_2 N C0 hA N 0 u _ _ _ h_this hw (lv_sub hl [1, 0] rfl) h
theorem k_X0_run_1 : Cond.fieldLink RX0 21 "RingHeap$Collector" "store" "LRingHeap$Store;" ∈ wsX0_run := List.mem_of_getElem? (i := 1) (by rfl)
theorem n_X0_run_X0 : ∀ w ∈ u_ws RX0 TX0 7, w ∈ wsX0_run := fun _ h => List.mem_cons_of_mem _ (List.mem_append_left _ (List.mem_append_left _ (List.mem_append_left _ (List.mem_append_left _ (List.mem_append_left _ (List.mem_append_left _ (List.mem_append_right _ h)))))))
theorem k_X0_run_2 : Cond.fieldLink RX0 29 "RingHeap$Store" "freedEver" "I" ∈ wsX0_run := List.mem_of_getElem? (i := 2) (by rfl)
theorem n_X0_run_X4 : ∀ w ∈ u_ws RX4 TX4 6, w ∈ wsX0_run := fun _ h => List.mem_cons_of_mem _ (List.mem_append_left _ (List.mem_append_left _ (List.mem_append_left _ (List.mem_append_left _ (List.mem_append_left _ (List.mem_append_right _ h))))))
theorem k_X0_run_3 : Cond.fieldLink RX0 35 "RingHeap$Collector" "collections" "I" ∈ wsX0_run := List.mem_of_getElem? (i := 3) (by rfl)
def f_X0_run (N : Nat)  (u : Mm) : Option (Int32 × Mm) :=
  pt (u.1 42 5) (fun x2 => pt (u.1 55 4) (fun x3 => pt (sI u 55 4 (x3 + 1)) (fun u => bv (f_X0_markListed N u) (fun u => bv (f_X0_scanListed N u) (fun u => bv (f_X0_tellWishes N u) (fun u => bv (f_X0_emptyList N u) (fun u => bv (f_X0_freeWhite N u) (fun u => pt (u.1 42 5) (fun x5 => some (x5 - x2, u))))))))))
set_option maxHeartbeats 4000000 in
set_option maxRecDepth 100000 in
theorem c_X0_run (l : Launch) (D : va_G) (cy : Nat → ClassId) (L : List Nat) (ad : Nat → Nat) (N : Nat)  (u : Mm) (o : Int32 × Mm) (h_this : vn L 0 55) (h : f_X0_run N  u = some o) : MtI l yX0_run wsX0_run ({ frames := 6, cells := 0, slots := 0, locals := 140 } : Room) D cy L ad [.ref (ad 55)] u o := by
  intro sz
  refine Met.ofW (cc := cX0_run) (maxL := 2) (ret := (some .int)) (by decide) rfl ?_
  intro p e s m args below meth c s₁ B hml hv
  obtain ⟨rfl, hsz, hP, hK, hD0, hok⟩ := hv
  have hx := B.exec
  have hb := B.bytes
  have hr := B.returns
  have hts := atoms_spec (ws := wsX0_run) B.pre
  have hown : s.vm.findClass RX0 = some m.cls := findClass_of_methodNamed B.named
  have hlocks := B.notSynchronized
  subst hsz
  have hw := wd_start hP hD0 hok
  have hA : ∀ q : Nat, s.heap.size ≤ q → va_A (wl cy L ad u) s.heap.size q := fun q h => Or.inr h
  generalize va_A (wl cy L ad u) s.heap.size = A at hw hA ⊢
  have C0 : Cx p m meth c cX0_run (some .int) 2 s _ wsX0_run RX0 D cy := ⟨hx, hb, hr, hml, hown, hts, hlocks, hK⟩
  have hl := lv_entry ([.ref (ad 55)]) (n := 2) (Nat.le_of_ble_eq_true rfl)
  rw [lg_entry_eq]
  generalize (lg_sl ([.ref (ad 55)]) ++ List.replicate (2 - (lg_sl ([.ref (ad 55)])).length) Slot.unset).toArray = ls at hl ⊢
  have hl : lv_has ls 2 [(0, .ref (ad 55))] := hl
  unfold f_X0_run at h
  refine lv_aload_n hx hb dX0_run_0 rfl (lv_at hl 0 rfl) ?_
  refine r_getC (t2 := 4) (d := 42) hx hb hts n_X0_run_X0 hown hK hw h_this (by decide) rfl 0 (by decide) rfl rfl (hts _ k_X0_run_1) (fun _ q => q) dX0_run_1 (fun hv1 => ?_)
  refine r_getI hx hb hts n_X0_run_X4 hown hK hw hv1 (by decide) rfl 5 (by decide) rfl (hts _ k_X0_run_2) (fun _ q => q) dX0_run_4 h (fun x2 h => ?_)
  refine lv_istore_n (lv' := [(1, .int x2), (0, .ref (ad 55))]) hx hb dX0_run_7 rfl hl (by decide) rfl (fun ls hl => ?_)
  refine lv_aload_n hx hb dX0_run_8 rfl (lv_at hl 1 rfl) ?_
  refine lv_dup hx hb dX0_run_9 rfl ?_
  refine r_getI hx hb hts n_X0_run_X0 hown hK hw h_this (by decide) rfl 4 (by decide) rfl (hts _ k_X0_run_3) (fun _ q => q) dX0_run_10 h (fun x3 h => ?_)
  refine lv_iconst (v := 1) hx hb dX0_run_13 (by decide) ?_
  refine lv_iadd hx hb dX0_run_14 ?_
  refine r_putI (ty := .int) hx hb hts n_X0_run_X0 tyX0 tyX0_ok nmX0 hown hK hw h_this (by decide) rfl 4 (by decide) rfl (hts _ k_X0_run_3) (fun _ q => q) rfl rfl rfl rfl dX0_run_15 h (fun u H locs hw h => ?_)
  refine lv_aload_n hx hb dX0_run_18 rfl (lv_at hl 1 rfl) ?_
  refine r_bV (fun o ho => r_vV (As := []) (rest := []) ⟨hx, hb, hml, hown, hts⟩ (c_X0_markListed l D cy L ad N u o h_this ho) (cwV 0 hts gX0_run_X0_markListed rfl rfl rfl (by decide +kernel) ⟨Nat.le_of_ble_eq_true rfl, Nat.le_of_ble_eq_true rfl⟩) hw hK h_this (by decide) rfl rfl hl.1 rfl (Nat.le_of_ble_eq_true rfl) dX0_run_19 ⟨Nat.zero_le _, Nat.zero_le _⟩) hw hA h (fun u H locs hw h => ?_)
  refine lv_aload_n hx hb dX0_run_22 rfl (lv_at hl 1 rfl) ?_
  refine r_bV (fun o ho => r_vV (As := []) (rest := []) ⟨hx, hb, hml, hown, hts⟩ (c_X0_scanListed l D cy L ad N u o h_this ho) (cwV 0 hts gX0_run_X0_scanListed rfl rfl rfl (by decide +kernel) ⟨Nat.le_of_ble_eq_true rfl, Nat.le_of_ble_eq_true rfl⟩) hw hK h_this (by decide) rfl rfl hl.1 rfl (Nat.le_of_ble_eq_true rfl) dX0_run_23 ⟨Nat.zero_le _, Nat.zero_le _⟩) hw hA h (fun u H locs hw h => ?_)
  refine lv_aload_n hx hb dX0_run_26 rfl (lv_at hl 1 rfl) ?_
  refine r_bV (fun o ho => r_vV (As := []) (rest := []) ⟨hx, hb, hml, hown, hts⟩ (c_X0_tellWishes l D cy L ad N u o h_this ho) (cwV 0 hts gX0_run_X0_tellWishes rfl rfl rfl (by decide +kernel) ⟨Nat.le_of_ble_eq_true rfl, Nat.le_of_ble_eq_true rfl⟩) hw hK h_this (by decide) rfl rfl hl.1 rfl (Nat.le_of_ble_eq_true rfl) dX0_run_27 ⟨Nat.zero_le _, Nat.zero_le _⟩) hw hA h (fun u H locs hw h => ?_)
  refine lv_aload_n hx hb dX0_run_30 rfl (lv_at hl 1 rfl) ?_
  refine r_bV (fun o ho => r_vV (As := []) (rest := []) ⟨hx, hb, hml, hown, hts⟩ (c_X0_emptyList l D cy L ad N u o h_this ho) (cwV 0 hts gX0_run_X0_emptyList rfl rfl rfl (by decide +kernel) ⟨Nat.le_of_ble_eq_true rfl, Nat.le_of_ble_eq_true rfl⟩) hw hK h_this (by decide) rfl rfl hl.1 rfl (Nat.le_of_ble_eq_true rfl) dX0_run_31 ⟨Nat.zero_le _, Nat.zero_le _⟩) hw hA h (fun u H locs hw h => ?_)
  refine lv_aload_n hx hb dX0_run_34 rfl (lv_at hl 1 rfl) ?_
  refine r_bV (fun o ho => r_vV (As := []) (rest := []) ⟨hx, hb, hml, hown, hts⟩ (c_X0_freeWhite l D cy L ad N u o h_this ho) (cwV 0 hts gX0_run_X0_freeWhite rfl rfl rfl (by decide +kernel) ⟨Nat.le_of_ble_eq_true rfl, Nat.le_of_ble_eq_true rfl⟩) hw hK h_this (by decide) rfl rfl hl.1 rfl (Nat.le_of_ble_eq_true rfl) dX0_run_35 ⟨Nat.zero_le _, Nat.zero_le _⟩) hw hA h (fun u H locs hw h => ?_)
  refine lv_aload_n hx hb dX0_run_38 rfl (lv_at hl 1 rfl) ?_
  refine r_getC (t2 := 4) (d := 42) hx hb hts n_X0_run_X0 hown hK hw h_this (by decide) rfl 0 (by decide) rfl rfl (hts _ k_X0_run_1) (fun _ q => q) dX0_run_39 (fun hv4 => ?_)
  refine r_getI hx hb hts n_X0_run_X4 hown hK hw hv4 (by decide) rfl 5 (by decide) rfl (hts _ k_X0_run_2) (fun _ q => q) dX0_run_42 h (fun x5 h => ?_)
  refine lv_iload_n hx hb dX0_run_45 rfl (lv_at hl 0 rfl) ?_
  refine lv_isub hx hb dX0_run_46 ?_
  exact r_iret hx hb hr hlocks hK hw h dX0_run_47

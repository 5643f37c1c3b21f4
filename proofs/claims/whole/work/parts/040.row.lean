theorem k_X3_append_1 : Cond.fieldLink RX3 17 "RingHeap$Row" "length" "I" ∈ wsX3_append := List.mem_of_getElem? (i := 1) (by rfl)
theorem n_X3_append_X3 : ∀ w ∈ u_ws RX3 TX3 2, w ∈ wsX3_append := fun _ h => List.mem_cons_of_mem _ (List.mem_append_right _ h)
theorem k_X3_append_2 : Cond.fieldLink RX3 11 "RingHeap$Row" "things" "[LRingHeap$Thing;" ∈ wsX3_append := List.mem_of_getElem? (i := 2) (by rfl)
def f_X3_append (N : Nat) (a0 : Nat) (p0 : Nat) (u : Mm) : Option (Mm) :=
  pt (u.1 a0 1) (fun x1 => if 80 ≤ x1 then (some u) else (pt (u.1 a0 1) (fun x4 => ck (bI x4 80) (pt (sR u (a0 + 1) (ix x4) (some p0)) (fun u => pt (u.1 a0 1) (fun x5 => pt (sI u a0 1 (x5 + 1)) (fun u => some u)))))))
set_option maxHeartbeats 4000000 in
set_option maxRecDepth 100000 in
theorem c_X3_append (l : Launch) (D : va_G) (cy : Nat → ClassId) (L : List Nat) (ad : Nat → Nat) (N : Nat) (a0 : Nat) (p0 : Nat) (u : Mm) (o : Mm) (h_a0 : vn L 3 a0) (h_p0 : vn L 5 p0) (h : f_X3_append N a0 p0 u = some o) : MtV l yX3_append wsX3_append ({ frames := 0, cells := 0, slots := 0, locals := 0 } : Room) D cy L ad [.ref (ad a0), .ref (ad p0)] u o := by
  intro sz
  refine Met.ofW (cc := cX3_append) (maxL := 2) (ret := none) (by decide) rfl ?_
  intro p e s m args below meth c s₁ B hml hv
  obtain ⟨rfl, hsz, hP, hK, hD0, hok⟩ := hv
  have hx := B.exec
  have hb := B.bytes
  have hr := B.returns
  have hts := atoms_spec (ws := wsX3_append) B.pre
  have hown : s.vm.findClass RX3 = some m.cls := findClass_of_methodNamed B.named
  have hlocks := B.notSynchronized
  subst hsz
  have hw := wd_start hP hD0 hok
  have hA : ∀ q : Nat, s.heap.size ≤ q → va_A (wl cy L ad u) s.heap.size q := fun q h => Or.inr h
  generalize va_A (wl cy L ad u) s.heap.size = A at hw hA ⊢
  have C0 : Cx p m meth c cX3_append none 2 s _ wsX3_append RX3 D cy := ⟨hx, hb, hr, hml, hown, hts, hlocks, hK⟩
  have hl := lv_entry ([.ref (ad a0), .ref (ad p0)]) (n := 2) (Nat.le_of_ble_eq_true rfl)
  rw [lg_entry_eq]
  generalize (lg_sl ([.ref (ad a0), .ref (ad p0)]) ++ List.replicate (2 - (lg_sl ([.ref (ad a0), .ref (ad p0)])).length) Slot.unset).toArray = ls at hl ⊢
  have hl : lv_has ls 2 [(0, .ref (ad a0)), (1, .ref (ad p0))] := hl
  unfold f_X3_append at h
  refine lv_aload_n hx hb dX3_append_0 rfl (lv_at hl 0 rfl) ?_
  refine r_getI hx hb hts n_X3_append_X3 hown hK hw h_a0 (by decide) rfl 1 (by decide) rfl (hts _ k_X3_append_1) (fun _ q => q) dX3_append_1 h (fun x1 h => ?_)
  refine lv_aload_n hx hb dX3_append_4 rfl (lv_at hl 0 rfl) ?_
  refine r_getC (t2 := 12) (d := (a0 + 1)) hx hb hts n_X3_append_X3 hown hK hw h_a0 (by decide) rfl 0 (by decide) rfl (cst3 h_a0.2) (hts _ k_X3_append_2) (fun _ q => q) dX3_append_5 (fun hv2 => ?_)
  refine r_alen (n := 80) (v := 80) hx hb hK hw hv2 (by decide) (ln3s h_a0.2) rfl dX3_append_8 ?_
  refine lv_icmp_ge (tgt := 32) hx hb dX3_append_9 (by decide) (fun hc => ?_) (fun hc => ?_)
  · rw [if_pos hc] at h
    exact r_vret hx hb hr hlocks hK hw h dX3_append_32
  · rw [if_neg hc] at h
    refine lv_aload_n hx hb dX3_append_12 rfl (lv_at hl 0 rfl) ?_
    refine r_getC (t2 := 12) (d := (a0 + 1)) hx hb hts n_X3_append_X3 hown hK hw h_a0 (by decide) rfl 0 (by decide) rfl (cst3 h_a0.2) (hts _ k_X3_append_2) (fun _ q => q) dX3_append_13 (fun hv3 => ?_)
    refine lv_aload_n hx hb dX3_append_16 rfl (lv_at hl 0 rfl) ?_
    refine r_getI hx hb hts n_X3_append_X3 hown hK hw h_a0 (by decide) rfl 1 (by decide) rfl (hts _ k_X3_append_1) (fun _ q => q) dX3_append_17 h (fun x4 h => ?_)
    refine lv_aload_n hx hb dX3_append_20 rfl (lv_at hl 1 rfl) ?_
    refine r_tast (n := 80) (v := (some p0)) hx hb hK hw hv3 (ln3s h_a0.2) (vr_some h_p0) dX3_append_21 h (fun u H locs hw h => ?_)
    refine lv_aload_n hx hb dX3_append_22 rfl (lv_at hl 0 rfl) ?_
    refine lv_dup hx hb dX3_append_23 rfl ?_
    refine r_getI hx hb hts n_X3_append_X3 hown hK hw h_a0 (by decide) rfl 1 (by decide) rfl (hts _ k_X3_append_1) (fun _ q => q) dX3_append_24 h (fun x5 h => ?_)
    refine lv_iconst (v := 1) hx hb dX3_append_27 (by decide) ?_
    refine lv_iadd hx hb dX3_append_28 ?_
    refine r_putI (ty := .int) hx hb hts n_X3_append_X3 tyX3 tyX3_ok nmX3 hown hK hw h_a0 (by decide) rfl 1 (by decide) rfl (hts _ k_X3_append_1) (fun _ q => q) rfl rfl rfl rfl dX3_append_29 h (fun u H locs hw h => ?_)
    exact r_vret hx hb hr hlocks hK hw h dX3_append_32
theorem k_X3_item_1 : Cond.fieldLink RX3 17 "RingHeap$Row" "length" "I" ∈ wsX3_item := List.mem_of_getElem? (i := 1) (by rfl)
theorem n_X3_item_X3 : ∀ w ∈ u_ws RX3 TX3 2, w ∈ wsX3_item := fun _ h => List.mem_cons_of_mem _ (List.mem_append_right _ h)
theorem k_X3_item_2 : Cond.fieldLink RX3 11 "RingHeap$Row" "things" "[LRingHeap$Thing;" ∈ wsX3_item := List.mem_of_getElem? (i := 2) (by rfl)
def f_X3_item (N : Nat) (a0 : Nat) (p0 : Int32) (u : Mm) : Option (Option Nat × Mm) :=
  if p0 < 0 then (some (none, u)) else (pt (u.1 a0 1) (fun x1 => if x1 ≤ p0 then (some (none, u)) else (if 80 ≤ p0 then (some (none, u)) else (ck (bI p0 80) (pt (u.2 (a0 + 1) (ix p0)) (fun r4 => some (r4, u)))))))
set_option maxHeartbeats 4000000 in
set_option maxRecDepth 100000 in
theorem c_X3_item (l : Launch) (D : va_G) (cy : Nat → ClassId) (L : List Nat) (ad : Nat → Nat) (N : Nat) (a0 : Nat) (p0 : Int32) (u : Mm) (o : Option Nat × Mm) (h_a0 : vn L 3 a0) (h : f_X3_item N a0 p0 u = some o) : MtQ l yX3_item wsX3_item ({ frames := 0, cells := 0, slots := 0, locals := 0 } : Room) D cy L ad 5 [.ref (ad a0), .int p0] u o := by
  intro sz
  refine Met.ofW (cc := cX3_item) (maxL := 2) (ret := (some (.object "RingHeap$Thing"))) (by decide) rfl ?_
  intro p e s m args below meth c s₁ B hml hv
  obtain ⟨rfl, hsz, hP, hK, hD0, hok⟩ := hv
  have hx := B.exec
  have hb := B.bytes
  have hr := B.returns
  have hts := atoms_spec (ws := wsX3_item) B.pre
  have hown : s.vm.findClass RX3 = some m.cls := findClass_of_methodNamed B.named
  have hlocks := B.notSynchronized
  subst hsz
  have hw := wd_start hP hD0 hok
  have hA : ∀ q : Nat, s.heap.size ≤ q → va_A (wl cy L ad u) s.heap.size q := fun q h => Or.inr h
  generalize va_A (wl cy L ad u) s.heap.size = A at hw hA ⊢
  have C0 : Cx p m meth c cX3_item (some (.object "RingHeap$Thing")) 2 s _ wsX3_item RX3 D cy := ⟨hx, hb, hr, hml, hown, hts, hlocks, hK⟩
  have hl := lv_entry ([.ref (ad a0), .int p0]) (n := 2) (Nat.le_of_ble_eq_true rfl)
  rw [lg_entry_eq]
  generalize (lg_sl ([.ref (ad a0), .int p0]) ++ List.replicate (2 - (lg_sl ([.ref (ad a0), .int p0])).length) Slot.unset).toArray = ls at hl ⊢
  have hl : lv_has ls 2 [(0, .ref (ad a0)), (1, .int p0)] := hl
  unfold f_X3_item at h
  refine lv_iload_n hx hb dX3_item_0 rfl (lv_at hl 1 rfl) ?_
  refine lv_if_lt (tgt := 30) hx hb dX3_item_1 (by decide) (fun hc => ?_) (fun hc => ?_)
  · rw [if_pos hc] at h
    refine lv_null hx hb dX3_item_30 ?_
    exact r_qret (v := none) hx hb hr hlocks hK hw vr_none h dX3_item_31
  · rw [if_neg hc] at h
    refine lv_iload_n hx hb dX3_item_4 rfl (lv_at hl 1 rfl) ?_
    refine lv_aload_n hx hb dX3_item_5 rfl (lv_at hl 0 rfl) ?_
    refine r_getI hx hb hts n_X3_item_X3 hown hK hw h_a0 (by decide) rfl 1 (by decide) rfl (hts _ k_X3_item_1) (fun _ q => q) dX3_item_6 h (fun x1 h => ?_)
    refine lv_icmp_ge (tgt := 30) hx hb dX3_item_9 (by decide) (fun hc => ?_) (fun hc => ?_)
    · rw [if_pos hc] at h
      refine lv_null hx hb dX3_item_30 ?_
      exact r_qret (v := none) hx hb hr hlocks hK hw vr_none h dX3_item_31
    · rw [if_neg hc] at h
      refine lv_iload_n hx hb dX3_item_12 rfl (lv_at hl 1 rfl) ?_
      refine lv_aload_n hx hb dX3_item_13 rfl (lv_at hl 0 rfl) ?_
      refine r_getC (t2 := 12) (d := (a0 + 1)) hx hb hts n_X3_item_X3 hown hK hw h_a0 (by decide) rfl 0 (by decide) rfl (cst3 h_a0.2) (hts _ k_X3_item_2) (fun _ q => q) dX3_item_14 (fun hv2 => ?_)
      refine r_alen (n := 80) (v := 80) hx hb hK hw hv2 (by decide) (ln3s h_a0.2) rfl dX3_item_17 ?_
      refine lv_icmp_ge (tgt := 30) hx hb dX3_item_18 (by decide) (fun hc => ?_) (fun hc => ?_)
      · rw [if_pos hc] at h
        refine lv_null hx hb dX3_item_30 ?_
        exact r_qret (v := none) hx hb hr hlocks hK hw vr_none h dX3_item_31
      · rw [if_neg hc] at h
        refine lv_aload_n hx hb dX3_item_21 rfl (lv_at hl 0 rfl) ?_
        refine r_getC (t2 := 12) (d := (a0 + 1)) hx hb hts n_X3_item_X3 hown hK hw h_a0 (by decide) rfl 0 (by decide) rfl (cst3 h_a0.2) (hts _ k_X3_item_2) (fun _ q => q) dX3_item_22 (fun hv3 => ?_)
        refine lv_iload_n hx hb dX3_item_25 rfl (lv_at hl 1 rfl) ?_
        refine r_tald (n := 80) hx hb hK hw hv3 (ln3s h_a0.2) dX3_item_26 h (fun r4 hv_r4 h => ?_)
        refine lv_goto (tgt := 31) hx hb dX3_item_27 (by decide) ?_
        exact r_qret (v := r4) hx hb hr hlocks hK hw hv_r4 h dX3_item_31
theorem k_X3_last_1 : Cond.fieldLink RX3 17 "RingHeap$Row" "length" "I" ∈ wsX3_last := List.mem_of_getElem? (i := 1) (by rfl)
theorem n_X3_last_X3 : ∀ w ∈ u_ws RX3 TX3 2, w ∈ wsX3_last := fun _ h => List.mem_cons_of_mem _ (List.mem_append_right _ h)
def f_X3_last (N : Nat) (a0 : Nat) (u : Mm) : Option (Option Nat × Mm) :=
  pt (u.1 a0 1) (fun x1 => bd (f_X3_item N a0 (x1 - 1) u) (fun r2 u => some (r2, u)))
set_option maxHeartbeats 4000000 in
set_option maxRecDepth 100000 in
theorem c_X3_last (l : Launch) (D : va_G) (cy : Nat → ClassId) (L : List Nat) (ad : Nat → Nat) (N : Nat) (a0 : Nat) (u : Mm) (o : Option Nat × Mm) (h_a0 : vn L 3 a0) (h : f_X3_last N a0 u = some o) : MtQ l yX3_last wsX3_last ({ frames := 1, cells := 0, slots := 0, locals := 21 } : Room) D cy L ad 5 [.ref (ad a0)] u o := by
  intro sz
  refine Met.ofW (cc := cX3_last) (maxL := 1) (ret := (some (.object "RingHeap$Thing"))) (by decide) rfl ?_
  intro p e s m args below meth c s₁ B hml hv
  obtain ⟨rfl, hsz, hP, hK, hD0, hok⟩ := hv
  have hx := B.exec
  have hb := B.bytes
  have hr := B.returns
  have hts := atoms_spec (ws := wsX3_last) B.pre
  have hown : s.vm.findClass RX3 = some m.cls := findClass_of_methodNamed B.named
  have hlocks := B.notSynchronized
  subst hsz
  have hw := wd_start hP hD0 hok
  have hA : ∀ q : Nat, s.heap.size ≤ q → va_A (wl cy L ad u) s.heap.size q := fun q h => Or.inr h
  generalize va_A (wl cy L ad u) s.heap.size = A at hw hA ⊢
  have C0 : Cx p m meth c cX3_last (some (.object "RingHeap$Thing")) 1 s _ wsX3_last RX3 D cy := ⟨hx, hb, hr, hml, hown, hts, hlocks, hK⟩
  have hl := lv_entry ([.ref (ad a0)]) (n := 1) (Nat.le_of_ble_eq_true rfl)
  rw [lg_entry_eq]
  generalize (lg_sl ([.ref (ad a0)]) ++ List.replicate (1 - (lg_sl ([.ref (ad a0)])).length) Slot.unset).toArray = ls at hl ⊢
  have hl : lv_has ls 1 [(0, .ref (ad a0))] := hl
  unfold f_X3_last at h
  refine lv_aload_n hx hb dX3_last_0 rfl (lv_at hl 0 rfl) ?_
  refine lv_aload_n hx hb dX3_last_1 rfl (lv_at hl 0 rfl) ?_
  refine r_getI hx hb hts n_X3_last_X3 hown hK hw h_a0 (by decide) rfl 1 (by decide) rfl (hts _ k_X3_last_1) (fun _ q => q) dX3_last_2 h (fun x1 h => ?_)
  refine lv_iconst (v := 1) hx hb dX3_last_5 (by decide) ?_
  refine lv_isub hx hb dX3_last_6 ?_
  refine r_bQ (fun o ho => r_vQ (As := [.int (x1 - 1)]) (rest := []) ⟨hx, hb, hml, hown, hts⟩ (c_X3_item l D cy L ad N a0 (x1 - 1) u o h_a0 ho) (cwV 1 hts gX3_last_X3_item rfl rfl rfl (by decide +kernel) ⟨Nat.le_of_ble_eq_true rfl, Nat.le_of_ble_eq_true rfl⟩) hw hK h_a0 (by decide) rfl rfl hl.1 rfl (Nat.le_of_ble_eq_true rfl) dX3_last_7 ⟨Nat.zero_le _, Nat.zero_le _⟩) hw hA h (fun r2 u H locs hw hv_r2 h => ?_)
  exact r_qret (v := r2) hx hb hr hlocks hK hw hv_r2 h dX3_last_10
theorem k_X3_removeLast_1 : Cond.fieldLink RX3 17 "RingHeap$Row" "length" "I" ∈ wsX3_removeLast := List.mem_of_getElem? (i := 1) (by rfl)
theorem n_X3_removeLast_X3 : ∀ w ∈ u_ws RX3 TX3 2, w ∈ wsX3_removeLast := fun _ h => List.mem_cons_of_mem _ (List.mem_append_right _ h)
def f_X3_removeLast (N : Nat) (a0 : Nat) (u : Mm) : Option (Mm) :=
  pt (u.1 a0 1) (fun x1 => if x1 ≤ 0 then (some u) else (pt (u.1 a0 1) (fun x2 => pt (sI u a0 1 (x2 - 1)) (fun u => some u))))
set_option maxHeartbeats 4000000 in
set_option maxRecDepth 100000 in
theorem c_X3_removeLast (l : Launch) (D : va_G) (cy : Nat → ClassId) (L : List Nat) (ad : Nat → Nat) (N : Nat) (a0 : Nat) (u : Mm) (o : Mm) (h_a0 : vn L 3 a0) (h : f_X3_removeLast N a0 u = some o) : MtV l yX3_removeLast wsX3_removeLast ({ frames := 0, cells := 0, slots := 0, locals := 0 } : Room) D cy L ad [.ref (ad a0)] u o := by
  intro sz
  refine Met.ofW (cc := cX3_removeLast) (maxL := 1) (ret := none) (by decide) rfl ?_
  intro p e s m args below meth c s₁ B hml hv
  obtain ⟨rfl, hsz, hP, hK, hD0, hok⟩ := hv
  have hx := B.exec
  have hb := B.bytes
  have hr := B.returns
  have hts := atoms_spec (ws := wsX3_removeLast) B.pre
  have hown : s.vm.findClass RX3 = some m.cls := findClass_of_methodNamed B.named
  have hlocks := B.notSynchronized
  subst hsz
  have hw := wd_start hP hD0 hok
  have hA : ∀ q : Nat, s.heap.size ≤ q → va_A (wl cy L ad u) s.heap.size q := fun q h => Or.inr h
  generalize va_A (wl cy L ad u) s.heap.size = A at hw hA ⊢
  have C0 : Cx p m meth c cX3_removeLast none 1 s _ wsX3_removeLast RX3 D cy := ⟨hx, hb, hr, hml, hown, hts, hlocks, hK⟩
  have hl := lv_entry ([.ref (ad a0)]) (n := 1) (Nat.le_of_ble_eq_true rfl)
  rw [lg_entry_eq]
  generalize (lg_sl ([.ref (ad a0)]) ++ List.replicate (1 - (lg_sl ([.ref (ad a0)])).length) Slot.unset).toArray = ls at hl ⊢
  have hl : lv_has ls 1 [(0, .ref (ad a0))] := hl
  unfold f_X3_removeLast at h
  refine lv_aload_n hx hb dX3_removeLast_0 rfl (lv_at hl 0 rfl) ?_
  refine r_getI hx hb hts n_X3_removeLast_X3 hown hK hw h_a0 (by decide) rfl 1 (by decide) rfl (hts _ k_X3_removeLast_1) (fun _ q => q) dX3_removeLast_1 h (fun x1 h => ?_)
  refine lv_if_le (tgt := 17) hx hb dX3_removeLast_4 (by decide) (fun hc => ?_) (fun hc => ?_)
  · rw [if_pos hc] at h
    exact r_vret hx hb hr hlocks hK hw h dX3_removeLast_17
  · rw [if_neg hc] at h
    refine lv_aload_n hx hb dX3_removeLast_7 rfl (lv_at hl 0 rfl) ?_
    refine lv_dup hx hb dX3_removeLast_8 rfl ?_
    refine r_getI hx hb hts n_X3_removeLast_X3 hown hK hw h_a0 (by decide) rfl 1 (by decide) rfl (hts _ k_X3_removeLast_1) (fun _ q => q) dX3_removeLast_9 h (fun x2 h => ?_)
    refine lv_iconst (v := 1) hx hb dX3_removeLast_12 (by decide) ?_
    refine lv_isub hx hb dX3_removeLast_13 ?_
    refine r_putI (ty := .int) hx hb hts n_X3_removeLast_X3 tyX3 tyX3_ok nmX3 hown hK hw h_a0 (by decide) rfl 1 (by decide) rfl (hts _ k_X3_removeLast_1) (fun _ q => q) rfl rfl rfl rfl dX3_removeLast_14 h (fun u H locs hw h => ?_)
    exact r_vret hx hb hr hlocks hK hw h dX3_removeLast_17
theorem k_X3_clear_1 : Cond.fieldLink RX3 17 "RingHeap$Row" "length" "I" ∈ wsX3_clear := List.mem_of_getElem? (i := 1) (by rfl)
theorem n_X3_clear_X3 : ∀ w ∈ u_ws RX3 TX3 2, w ∈ wsX3_clear := fun _ h => List.mem_cons_of_mem _ (List.mem_append_right _ h)
def f_X3_clear (N : Nat) (a0 : Nat) (u : Mm) : Option (Mm) :=
  pt (sI u a0 1 0) (fun u => some u)
set_option maxHeartbeats 4000000 in
set_option maxRecDepth 100000 in
theorem c_X3_clear (l : Launch) (D : va_G) (cy : Nat → ClassId) (L : List Nat) (ad : Nat → Nat) (N : Nat) (a0 : Nat) (u : Mm) (o : Mm) (h_a0 : vn L 3 a0) (h : f_X3_clear N a0 u = some o) : MtV l yX3_clear wsX3_clear ({ frames := 0, cells := 0, slots := 0, locals := 0 } : Room) D cy L ad [.ref (ad a0)] u o := by
  intro sz
  refine Met.ofW (cc := cX3_clear) (maxL := 1) (ret := none) (by decide) rfl ?_
  intro p e s m args below meth c s₁ B hml hv
  obtain ⟨rfl, hsz, hP, hK, hD0, hok⟩ := hv
  have hx := B.exec
  have hb := B.bytes
  have hr := B.returns
  have hts := atoms_spec (ws := wsX3_clear) B.pre
  have hown : s.vm.findClass RX3 = some m.cls := findClass_of_methodNamed B.named
  have hlocks := B.notSynchronized
  subst hsz
  have hw := wd_start hP hD0 hok
  have hA : ∀ q : Nat, s.heap.size ≤ q → va_A (wl cy L ad u) s.heap.size q := fun q h => Or.inr h
  generalize va_A (wl cy L ad u) s.heap.size = A at hw hA ⊢
  have C0 : Cx p m meth c cX3_clear none 1 s _ wsX3_clear RX3 D cy := ⟨hx, hb, hr, hml, hown, hts, hlocks, hK⟩
  have hl := lv_entry ([.ref (ad a0)]) (n := 1) (Nat.le_of_ble_eq_true rfl)
  rw [lg_entry_eq]
  generalize (lg_sl ([.ref (ad a0)]) ++ List.replicate (1 - (lg_sl ([.ref (ad a0)])).length) Slot.unset).toArray = ls at hl ⊢
  have hl : lv_has ls 1 [(0, .ref (ad a0))] := hl
  unfold f_X3_clear at h
  refine lv_aload_n hx hb dX3_clear_0 rfl (lv_at hl 0 rfl) ?_
  refine lv_iconst (v := 0) hx hb dX3_clear_1 (by decide) ?_
  refine r_putI (ty := .int) hx hb hts n_X3_clear_X3 tyX3 tyX3_ok nmX3 hown hK hw h_a0 (by decide) rfl 1 (by decide) rfl (hts _ k_X3_clear_1) (fun _ q => q) rfl rfl rfl rfl dX3_clear_2 h (fun u H locs hw h => ?_)
  exact r_vret hx hb hr hlocks hK hw h dX3_clear_5
theorem k_X3_takeFirst_1 : Cond.fieldLink RX3 17 "RingHeap$Row" "length" "I" ∈ wsX3_takeFirst := List.mem_of_getElem? (i := 1) (by rfl)
theorem n_X3_takeFirst_X3 : ∀ w ∈ u_ws RX3 TX3 2, w ∈ wsX3_takeFirst := fun _ h => List.mem_cons_of_mem _ (List.mem_append_right _ h)
theorem k_X3_takeFirst_2 : Cond.fieldLink RX3 11 "RingHeap$Row" "things" "[LRingHeap$Thing;" ∈ wsX3_takeFirst := List.mem_of_getElem? (i := 2) (by rfl)
def g_X3_takeFirst_22 (N : Nat) (a0 : Nat) (K22 : Nat → Int32 → Mm → Option (Option Nat × Mm)) (t1 : Nat) (v2 : Int32) (u : Mm) : Option (Option Nat × Mm) :=
  pt (u.1 a0 1) (fun x5 => if x5 ≤ v2 then (some ((some t1), u)) else (if 80 ≤ (v2 + 1) then (some ((some t1), u)) else (ck (bI (v2 + 1) 80) (pt (u.2 (a0 + 1) (ix (v2 + 1))) (fun r9 => ck (bI v2 80) (pt (sR u (a0 + 1) (ix v2) r9) (fun u => K22 t1 (v2 + 1) u)))))))
def f_X3_takeFirst_22 (N : Nat) (a0 : Nat)  : Nat → Nat → Int32 → Mm → Option (Option Nat × Mm)
  | 0 => fun _ _ _ => none
  | n + 1 => g_X3_takeFirst_22 N a0  (f_X3_takeFirst_22 N a0  n)
set_option maxHeartbeats 4000000 in
set_option maxRecDepth 100000 in
theorem jg_X3_takeFirst_22 {p : Program} {l : Launch} {e : Env} {s : State} {m : MethodId} {args : Array Value} {below : List Frame} {meth : Method} {c : Code} {D : va_G} {cy : Nat → ClassId} {L : List Nat} {ad : Nat → Nat} {A : Nat → Prop} {o : Option Nat × Mm} (N : Nat) (a0 : Nat) (h_a0 : vn L 3 a0) (C0 : Cx p m meth c cX3_takeFirst (some (.object "RingHeap$Thing")) 3 s args wsX3_takeFirst RX3 D cy) (hA : ∀ q : Nat, s.heap.size ≤ q → A q)  (K22 : Nat → Int32 → Mm → Option (Option Nat × Mm)) (hK22 : ∀ (t1 : Nat) (v2 : Int32) (u : Mm) (H : Heap) (locs : List Loc) (ls : Array Slot), vn L 3 a0 → vn L 5 t1 → Wd D cy L ad A s.heap u H locs → lv_has ls 3 [(0, .ref (ad a0)), (1, .ref (ad t1)), (2, .int v2)] → K22 t1 v2 u = some o → W p l e ({ frames := 1, cells := 0, slots := 0, locals := 21 } : Room) s m args below meth c H locs 0 0 (MQ below (QcQ D cy L ad A 5 o) args s 0 0 A) (F0 m 22 ls [])) : ∀ (t1 : Nat) (v2 : Int32) (u : Mm) (H : Heap) (locs : List Loc) (ls : Array Slot), vn L 3 a0 → vn L 5 t1 → Wd D cy L ad A s.heap u H locs → lv_has ls 3 [(0, .ref (ad a0)), (1, .ref (ad t1)), (2, .int v2)] → g_X3_takeFirst_22 N a0  K22 t1 v2 u = some o → W p l e ({ frames := 1, cells := 0, slots := 0, locals := 21 } : Room) s m args below meth c H locs 0 0 (MQ below (QcQ D cy L ad A 5 o) args s 0 0 A) (F0 m 22 ls []) := by
  obtain ⟨hx, hb, hr, hml, hown, hts, hlocks, hK⟩ := id C0
  intro t1 v2 u H locs ls hv_t0 hv_t1 hw hl h
  unfold g_X3_takeFirst_22 at h
  refine lv_iload_n hx hb dX3_takeFirst_22 rfl (lv_at hl 2 rfl) ?_
  refine lv_aload_n hx hb dX3_takeFirst_23 rfl (lv_at hl 0 rfl) ?_
  refine r_getI hx hb hts n_X3_takeFirst_X3 hown hK hw hv_t0 (by decide) rfl 1 (by decide) rfl (hts _ k_X3_takeFirst_1) (fun _ q => q) dX3_takeFirst_24 h (fun x5 h => ?_)
  refine lv_icmp_ge (tgt := 61) hx hb dX3_takeFirst_27 (by decide) (fun hc => ?_) (fun hc => ?_)
  · rw [if_pos hc] at h
    refine lv_aload_n hx hb dX3_takeFirst_61 rfl (lv_at hl 1 rfl) ?_
    exact r_qret (v := (some t1)) hx hb hr hlocks hK hw (vr_some hv_t1) h dX3_takeFirst_62
  · rw [if_neg hc] at h
    refine lv_iload_n hx hb dX3_takeFirst_30 rfl (lv_at hl 2 rfl) ?_
    refine lv_iconst (v := 1) hx hb dX3_takeFirst_31 (by decide) ?_
    refine lv_iadd hx hb dX3_takeFirst_32 ?_
    refine lv_aload_n hx hb dX3_takeFirst_33 rfl (lv_at hl 0 rfl) ?_
    refine r_getC (t2 := 12) (d := (a0 + 1)) hx hb hts n_X3_takeFirst_X3 hown hK hw hv_t0 (by decide) rfl 0 (by decide) rfl (cst3 hv_t0.2) (hts _ k_X3_takeFirst_2) (fun _ q => q) dX3_takeFirst_34 (fun hv6 => ?_)
    refine r_alen (n := 80) (v := 80) hx hb hK hw hv6 (by decide) (ln3s hv_t0.2) rfl dX3_takeFirst_37 ?_
    refine lv_icmp_ge (tgt := 61) hx hb dX3_takeFirst_38 (by decide) (fun hc => ?_) (fun hc => ?_)
    · rw [if_pos hc] at h
      refine lv_aload_n hx hb dX3_takeFirst_61 rfl (lv_at hl 1 rfl) ?_
      exact r_qret (v := (some t1)) hx hb hr hlocks hK hw (vr_some hv_t1) h dX3_takeFirst_62
    · rw [if_neg hc] at h
      refine lv_aload_n hx hb dX3_takeFirst_41 rfl (lv_at hl 0 rfl) ?_
      refine r_getC (t2 := 12) (d := (a0 + 1)) hx hb hts n_X3_takeFirst_X3 hown hK hw hv_t0 (by decide) rfl 0 (by decide) rfl (cst3 hv_t0.2) (hts _ k_X3_takeFirst_2) (fun _ q => q) dX3_takeFirst_42 (fun hv7 => ?_)
      refine lv_iload_n hx hb dX3_takeFirst_45 rfl (lv_at hl 2 rfl) ?_
      refine lv_aload_n hx hb dX3_takeFirst_46 rfl (lv_at hl 0 rfl) ?_
      refine r_getC (t2 := 12) (d := (a0 + 1)) hx hb hts n_X3_takeFirst_X3 hown hK hw hv_t0 (by decide) rfl 0 (by decide) rfl (cst3 hv_t0.2) (hts _ k_X3_takeFirst_2) (fun _ q => q) dX3_takeFirst_47 (fun hv8 => ?_)
      refine lv_iload_n hx hb dX3_takeFirst_50 rfl (lv_at hl 2 rfl) ?_
      refine lv_iconst (v := 1) hx hb dX3_takeFirst_51 (by decide) ?_
      refine lv_iadd hx hb dX3_takeFirst_52 ?_
      refine r_tald (n := 80) hx hb hK hw hv8 (ln3s hv_t0.2) dX3_takeFirst_53 h (fun r9 hv_r9 h => ?_)
      refine r_tast (n := 80) (v := r9) hx hb hK hw hv7 (ln3s hv_t0.2) hv_r9 dX3_takeFirst_54 h (fun u H locs hw h => ?_)
      refine lv_iinc (v := v2 + 1) (lv' := [(2, .int (v2 + 1)), (0, .ref (ad a0)), (1, .ref (ad t1))]) hx hb dX3_takeFirst_55 hl (k := 2) rfl rfl (by decide) rfl (fun ls hl => ?_)
      refine lv_goto (tgt := 22) hx hb dX3_takeFirst_58 (by decide) ?_
      exact hK22 t1 (v2 + 1) u _ _ _ hv_t0 hv_t1 hw (lv_sub hl [1, 2, 0] rfl) h
set_option maxHeartbeats 4000000 in
set_option maxRecDepth 100000 in
theorem j_X3_takeFirst_22 {p : Program} {l : Launch} {e : Env} {s : State} {m : MethodId} {args : Array Value} {below : List Frame} {meth : Method} {c : Code} {D : va_G} {cy : Nat → ClassId} {L : List Nat} {ad : Nat → Nat} {A : Nat → Prop} {o : Option Nat × Mm} (N : Nat) (a0 : Nat) (h_a0 : vn L 3 a0) (C0 : Cx p m meth c cX3_takeFirst (some (.object "RingHeap$Thing")) 3 s args wsX3_takeFirst RX3 D cy) (hA : ∀ q : Nat, s.heap.size ≤ q → A q)  : ∀ (n : Nat), ∀ (t1 : Nat) (v2 : Int32) (u : Mm) (H : Heap) (locs : List Loc) (ls : Array Slot), vn L 3 a0 → vn L 5 t1 → Wd D cy L ad A s.heap u H locs → lv_has ls 3 [(0, .ref (ad a0)), (1, .ref (ad t1)), (2, .int v2)] → f_X3_takeFirst_22 N a0  n t1 v2 u = some o → W p l e ({ frames := 1, cells := 0, slots := 0, locals := 21 } : Room) s m args below meth c H locs 0 0 (MQ below (QcQ D cy L ad A 5 o) args s 0 0 A) (F0 m 22 ls []) := by
  intro n
  induction n with
  | zero =>
    intro t1 v2 u H locs ls hv_t0 hv_t1 hw hl h
    cases h
  | succ n ih => exact jg_X3_takeFirst_22 N a0 h_a0 C0 hA  _ ih
def f_X3_takeFirst (N : Nat) (a0 : Nat) (u : Mm) : Option (Option Nat × Mm) :=
  bd (f_X3_item N a0 0 u) (fun r1 u => nl r1 (some (none, u)) (fun t2 => pt (u.1 a0 1) (fun x4 => pt (sI u a0 1 (x4 - 1)) (fun u => f_X3_takeFirst_22 N a0 N t2 0 u))))
set_option maxHeartbeats 4000000 in
set_option maxRecDepth 100000 in
theorem c_X3_takeFirst (l : Launch) (D : va_G) (cy : Nat → ClassId) (L : List Nat) (ad : Nat → Nat) (N : Nat) (a0 : Nat) (u : Mm) (o : Option Nat × Mm) (h_a0 : vn L 3 a0) (h : f_X3_takeFirst N a0 u = some o) : MtQ l yX3_takeFirst wsX3_takeFirst ({ frames := 1, cells := 0, slots := 0, locals := 21 } : Room) D cy L ad 5 [.ref (ad a0)] u o := by
  intro sz
  refine Met.ofW (cc := cX3_takeFirst) (maxL := 3) (ret := (some (.object "RingHeap$Thing"))) (by decide) rfl ?_
  intro p e s m args below meth c s₁ B hml hv
  obtain ⟨rfl, hsz, hP, hK, hD0, hok⟩ := hv
  have hx := B.exec
  have hb := B.bytes
  have hr := B.returns
  have hts := atoms_spec (ws := wsX3_takeFirst) B.pre
  have hown : s.vm.findClass RX3 = some m.cls := findClass_of_methodNamed B.named
  have hlocks := B.notSynchronized
  subst hsz
  have hw := wd_start hP hD0 hok
  have hA : ∀ q : Nat, s.heap.size ≤ q → va_A (wl cy L ad u) s.heap.size q := fun q h => Or.inr h
  generalize va_A (wl cy L ad u) s.heap.size = A at hw hA ⊢
  have C0 : Cx p m meth c cX3_takeFirst (some (.object "RingHeap$Thing")) 3 s _ wsX3_takeFirst RX3 D cy := ⟨hx, hb, hr, hml, hown, hts, hlocks, hK⟩
  have hl := lv_entry ([.ref (ad a0)]) (n := 3) (Nat.le_of_ble_eq_true rfl)
  rw [lg_entry_eq]
  generalize (lg_sl ([.ref (ad a0)]) ++ List.replicate (3 - (lg_sl ([.ref (ad a0)])).length) Slot.unset).toArray = ls at hl ⊢
  have hl : lv_has ls 3 [(0, .ref (ad a0))] := hl
  unfold f_X3_takeFirst at h
  refine lv_aload_n hx hb dX3_takeFirst_0 rfl (lv_at hl 0 rfl) ?_
  refine lv_iconst (v := 0) hx hb dX3_takeFirst_1 (by decide) ?_
  refine r_bQ (fun o ho => r_vQ (As := [.int 0]) (rest := []) ⟨hx, hb, hml, hown, hts⟩ (c_X3_item l D cy L ad N a0 0 u o h_a0 ho) (cwV 1 hts gX3_takeFirst_X3_item rfl rfl rfl (by decide +kernel) ⟨Nat.le_of_ble_eq_true rfl, Nat.le_of_ble_eq_true rfl⟩) hw hK h_a0 (by decide) rfl rfl hl.1 rfl (Nat.le_of_ble_eq_true rfl) dX3_takeFirst_2 ⟨Nat.zero_le _, Nat.zero_le _⟩) hw hA h (fun r1 u H locs hw hv_r1 h => ?_)
  refine r_astoren (lv' := [(1, va_re ad r1), (0, .ref (ad a0))]) hx hb dX3_takeFirst_5 rfl hl (by decide) rfl (fun ls hl => ?_)
  refine r_aloadn hx hb dX3_takeFirst_6 rfl (lv_at hl 0 rfl) ?_
  refine r_ifnull (tgt := 61) hx hb hv_r1 dX3_takeFirst_7 (by decide) h (fun e3 h9 => ?_) (fun t2 e3 hv_t2 h9 => ?_)
  · clear h
    subst e3
    have h := h9
    have hl : lv_has ls 3 [(1, va_re ad none), (0, .ref (ad a0))] := hl
    refine r_aloadn hx hb dX3_takeFirst_61 rfl (lv_at hl 0 rfl) ?_
    exact r_qret (v := none) hx hb hr hlocks hK hw vr_none h dX3_takeFirst_62
  · clear h
    subst e3
    have h := h9
    have hl : lv_has ls 3 [(1, .ref (ad t2)), (0, .ref (ad a0))] := hl
    refine lv_aload_n hx hb dX3_takeFirst_10 rfl (lv_at hl 1 rfl) ?_
    refine lv_dup hx hb dX3_takeFirst_11 rfl ?_
    refine r_getI hx hb hts n_X3_takeFirst_X3 hown hK hw h_a0 (by decide) rfl 1 (by decide) rfl (hts _ k_X3_takeFirst_1) (fun _ q => q) dX3_takeFirst_12 h (fun x4 h => ?_)
    refine lv_iconst (v := 1) hx hb dX3_takeFirst_15 (by decide) ?_
    refine lv_isub hx hb dX3_takeFirst_16 ?_
    refine r_putI (ty := .int) hx hb hts n_X3_takeFirst_X3 tyX3 tyX3_ok nmX3 hown hK hw h_a0 (by decide) rfl 1 (by decide) rfl (hts _ k_X3_takeFirst_1) (fun _ q => q) rfl rfl rfl rfl dX3_takeFirst_17 h (fun u H locs hw h => ?_)
    refine lv_iconst (v := 0) hx hb dX3_takeFirst_20 (by decide) ?_
    refine lv_istore_n (lv' := [(2, .int 0), (1, .ref (ad t2)), (0, .ref (ad a0))]) hx hb dX3_takeFirst_21 rfl hl (by decide) rfl (fun ls hl => ?_)
    exact j_X3_takeFirst_22 N a0 h_a0 C0 hA N t2 0 u _ _ _ h_a0 hv_t2 hw (lv_sub hl [2, 1, 0] rfl) h

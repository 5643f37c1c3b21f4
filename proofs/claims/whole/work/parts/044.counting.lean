theorem k_X1_more_1 : Cond.fieldLink RX1 28 "RingHeap$Thing" "count" "I" ∈ wsX1_more := List.mem_of_getElem? (i := 1) (by rfl)
theorem n_X1_more_X5 : ∀ w ∈ u_ws RX5 TX5 11, w ∈ wsX1_more := fun _ h => List.mem_cons_of_mem _ (List.mem_append_right _ h)
def f_X1_more (N : Nat) (p0 : Nat) (u : Mm) : Option (Mm) :=
  pt (u.1 p0 3) (fun x1 => pt (sI u p0 3 (x1 + 1)) (fun u => bv (f_X5_blackenUnlessGreen N p0 u) (fun u => some u)))
set_option maxHeartbeats 4000000 in
set_option maxRecDepth 100000 in
theorem c_X1_more (l : Launch) (D : va_G) (cy : Nat → ClassId) (L : List Nat) (ad : Nat → Nat) (N : Nat) (p0 : Nat) (u : Mm) (o : Mm) (h_this : vn L 1 48) (h_p0 : vn L 5 p0) (h : f_X1_more N p0 u = some o) : MtV l yX1_more wsX1_more ({ frames := 2, cells := 0, slots := 0, locals := 40 } : Room) D cy L ad [.ref (ad 48), .ref (ad p0)] u o := by
  intro sz
  refine Met.ofW (cc := cX1_more) (maxL := 2) (ret := none) (by decide) rfl ?_
  intro p e s m args below meth c s₁ B hml hv
  obtain ⟨rfl, hsz, hP, hK, hD0, hok⟩ := hv
  have hx := B.exec
  have hb := B.bytes
  have hr := B.returns
  have hts := atoms_spec (ws := wsX1_more) B.pre
  have hown : s.vm.findClass RX1 = some m.cls := findClass_of_methodNamed B.named
  have hlocks := B.notSynchronized
  subst hsz
  have hw := wd_start hP hD0 hok
  have hA : ∀ q : Nat, s.heap.size ≤ q → va_A (wl cy L ad u) s.heap.size q := fun q h => Or.inr h
  generalize va_A (wl cy L ad u) s.heap.size = A at hw hA ⊢
  have C0 : Cx p m meth c cX1_more none 2 s _ wsX1_more RX1 D cy := ⟨hx, hb, hr, hml, hown, hts, hlocks, hK⟩
  have hl := lv_entry ([.ref (ad 48), .ref (ad p0)]) (n := 2) (Nat.le_of_ble_eq_true rfl)
  rw [lg_entry_eq]
  generalize (lg_sl ([.ref (ad 48), .ref (ad p0)]) ++ List.replicate (2 - (lg_sl ([.ref (ad 48), .ref (ad p0)])).length) Slot.unset).toArray = ls at hl ⊢
  have hl : lv_has ls 2 [(0, .ref (ad 48)), (1, .ref (ad p0))] := hl
  unfold f_X1_more at h
  refine lv_aload_n hx hb dX1_more_0 rfl (lv_at hl 1 rfl) ?_
  refine lv_dup hx hb dX1_more_1 rfl ?_
  refine r_getI hx hb hts n_X1_more_X5 hown hK hw h_p0 (by decide) rfl 3 (by decide) rfl (hts _ k_X1_more_1) (fun _ q => q) dX1_more_2 h (fun x1 h => ?_)
  refine lv_iconst (v := 1) hx hb dX1_more_5 (by decide) ?_
  refine lv_iadd hx hb dX1_more_6 ?_
  refine r_putI (ty := .int) hx hb hts n_X1_more_X5 tyX5 tyX5_ok nmX5 hown hK hw h_p0 (by decide) rfl 3 (by decide) rfl (hts _ k_X1_more_1) (fun _ q => q) rfl rfl rfl rfl dX1_more_7 h (fun u H locs hw h => ?_)
  refine lv_aload_n hx hb dX1_more_10 rfl (lv_at hl 1 rfl) ?_
  refine r_bV (fun o ho => r_vV (As := []) (rest := []) ⟨hx, hb, hml, hown, hts⟩ (c_X5_blackenUnlessGreen l D cy L ad N p0 u o h_p0 ho) (cwV 0 hts gX1_more_X5_blackenUnlessGreen rfl rfl rfl (by decide +kernel) ⟨Nat.le_of_ble_eq_true rfl, Nat.le_of_ble_eq_true rfl⟩) hw hK h_p0 (by decide) rfl rfl hl.1 rfl (Nat.le_of_ble_eq_true rfl) dX1_more_11 ⟨Nat.zero_le _, Nat.zero_le _⟩) hw hA h (fun u H locs hw h => ?_)
  exact r_vret hx hb hr hlocks hK hw h dX1_more_14
theorem k_X1_tellWish_1 : Cond.fieldLink RX1 56 "RingHeap$Thing" "wishUntold" "Z" ∈ wsX1_tellWish := List.mem_of_getElem? (i := 1) (by rfl)
theorem n_X1_tellWish_X5 : ∀ w ∈ u_ws RX5 TX5 11, w ∈ wsX1_tellWish := fun _ h => List.mem_cons_of_mem _ (List.mem_append_left _ (List.mem_append_left _ (List.mem_append_right _ h)))
theorem k_X1_tellWish_2 : Cond.fieldLink RX1 28 "RingHeap$Thing" "count" "I" ∈ wsX1_tellWish := List.mem_of_getElem? (i := 2) (by rfl)
theorem k_X1_tellWish_3 : Cond.fieldLink RX1 21 "RingHeap$Counting" "wishes" "LRingHeap$Row;" ∈ wsX1_tellWish := List.mem_of_getElem? (i := 3) (by rfl)
theorem n_X1_tellWish_X1 : ∀ w ∈ u_ws RX1 TX1 4, w ∈ wsX1_tellWish := fun _ h => List.mem_cons_of_mem _ (List.mem_append_left _ (List.mem_append_right _ h))
def f_X1_tellWish (N : Nat) (p0 : Nat) (u : Mm) : Option (Mm) :=
  pt (sI u p0 9 0) (fun u => pt (u.1 p0 3) (fun x1 => pt (sI u p0 3 (x1 + 1)) (fun u => bv (f_X3_append N 53 p0 u) (fun u => some u))))
set_option maxHeartbeats 4000000 in
set_option maxRecDepth 100000 in
theorem c_X1_tellWish (l : Launch) (D : va_G) (cy : Nat → ClassId) (L : List Nat) (ad : Nat → Nat) (N : Nat) (p0 : Nat) (u : Mm) (o : Mm) (h_this : vn L 1 48) (h_p0 : vn L 5 p0) (h : f_X1_tellWish N p0 u = some o) : MtV l yX1_tellWish wsX1_tellWish ({ frames := 1, cells := 0, slots := 0, locals := 21 } : Room) D cy L ad [.ref (ad 48), .ref (ad p0)] u o := by
  intro sz
  refine Met.ofW (cc := cX1_tellWish) (maxL := 2) (ret := none) (by decide) rfl ?_
  intro p e s m args below meth c s₁ B hml hv
  obtain ⟨rfl, hsz, hP, hK, hD0, hok⟩ := hv
  have hx := B.exec
  have hb := B.bytes
  have hr := B.returns
  have hts := atoms_spec (ws := wsX1_tellWish) B.pre
  have hown : s.vm.findClass RX1 = some m.cls := findClass_of_methodNamed B.named
  have hlocks := B.notSynchronized
  subst hsz
  have hw := wd_start hP hD0 hok
  have hA : ∀ q : Nat, s.heap.size ≤ q → va_A (wl cy L ad u) s.heap.size q := fun q h => Or.inr h
  generalize va_A (wl cy L ad u) s.heap.size = A at hw hA ⊢
  have C0 : Cx p m meth c cX1_tellWish none 2 s _ wsX1_tellWish RX1 D cy := ⟨hx, hb, hr, hml, hown, hts, hlocks, hK⟩
  have hl := lv_entry ([.ref (ad 48), .ref (ad p0)]) (n := 2) (Nat.le_of_ble_eq_true rfl)
  rw [lg_entry_eq]
  generalize (lg_sl ([.ref (ad 48), .ref (ad p0)]) ++ List.replicate (2 - (lg_sl ([.ref (ad 48), .ref (ad p0)])).length) Slot.unset).toArray = ls at hl ⊢
  have hl : lv_has ls 2 [(0, .ref (ad 48)), (1, .ref (ad p0))] := hl
  unfold f_X1_tellWish at h
  refine lv_aload_n hx hb dX1_tellWish_0 rfl (lv_at hl 1 rfl) ?_
  refine lv_iconst (v := 0) hx hb dX1_tellWish_1 (by decide) ?_
  refine r_putI (ty := .boolean) hx hb hts n_X1_tellWish_X5 tyX5 tyX5_ok nmX5 hown hK hw h_p0 (by decide) rfl 9 (by decide) rfl (hts _ k_X1_tellWish_1) (fun _ q => q) rfl rfl (by decide) (by decide) dX1_tellWish_2 h (fun u H locs hw h => ?_)
  refine lv_aload_n hx hb dX1_tellWish_5 rfl (lv_at hl 1 rfl) ?_
  refine lv_dup hx hb dX1_tellWish_6 rfl ?_
  refine r_getI hx hb hts n_X1_tellWish_X5 hown hK hw h_p0 (by decide) rfl 3 (by decide) rfl (hts _ k_X1_tellWish_2) (fun _ q => q) dX1_tellWish_7 h (fun x1 h => ?_)
  refine lv_iconst (v := 1) hx hb dX1_tellWish_10 (by decide) ?_
  refine lv_iadd hx hb dX1_tellWish_11 ?_
  refine r_putI (ty := .int) hx hb hts n_X1_tellWish_X5 tyX5 tyX5_ok nmX5 hown hK hw h_p0 (by decide) rfl 3 (by decide) rfl (hts _ k_X1_tellWish_2) (fun _ q => q) rfl rfl rfl rfl dX1_tellWish_12 h (fun u H locs hw h => ?_)
  refine lv_aload_n hx hb dX1_tellWish_15 rfl (lv_at hl 0 rfl) ?_
  refine r_getC (t2 := 3) (d := 53) hx hb hts n_X1_tellWish_X1 hown hK hw h_this (by decide) rfl 3 (by decide) rfl rfl (hts _ k_X1_tellWish_3) (fun _ q => q) dX1_tellWish_16 (fun hv2 => ?_)
  refine lv_aload_n hx hb dX1_tellWish_19 rfl (lv_at hl 1 rfl) ?_
  refine r_bV (fun o ho => r_vV (As := [.ref (ad p0)]) (rest := []) ⟨hx, hb, hml, hown, hts⟩ (c_X3_append l D cy L ad N 53 p0 u o hv2 h_p0 ho) (cwV 1 hts gX1_tellWish_X3_append rfl rfl rfl (by decide +kernel) ⟨Nat.le_of_ble_eq_true rfl, Nat.le_of_ble_eq_true rfl⟩) hw hK hv2 (by decide) rfl rfl hl.1 rfl (Nat.le_of_ble_eq_true rfl) dX1_tellWish_20 ⟨Nat.zero_le _, Nat.zero_le _⟩) hw hA h (fun u H locs hw h => ?_)
  exact r_vret hx hb hr hlocks hK hw h dX1_tellWish_23
theorem k_X1_suspect_1 : Cond.fieldLink RX1 73 "RingHeap$Thing" "colour" "I" ∈ wsX1_suspect := List.mem_of_getElem? (i := 1) (by rfl)
theorem n_X1_suspect_X5 : ∀ w ∈ u_ws RX5 TX5 11, w ∈ wsX1_suspect := fun _ h => List.mem_cons_of_mem _ (List.mem_append_left _ (List.mem_append_left _ (List.mem_append_right _ h)))
theorem k_X1_suspect_2 : Cond.fieldLink RX1 76 "RingHeap$Thing" "inList" "Z" ∈ wsX1_suspect := List.mem_of_getElem? (i := 2) (by rfl)
theorem k_X1_suspect_3 : Cond.fieldLink RX1 18 "RingHeap$Counting" "list" "LRingHeap$Row;" ∈ wsX1_suspect := List.mem_of_getElem? (i := 3) (by rfl)
theorem n_X1_suspect_X1 : ∀ w ∈ u_ws RX1 TX1 4, w ∈ wsX1_suspect := fun _ h => List.mem_cons_of_mem _ (List.mem_append_left _ (List.mem_append_right _ h))
def f_X1_suspect (N : Nat) (p0 : Nat) (u : Mm) : Option (Mm) :=
  bd (f_X5_isGreen N p0 u) (fun x1 u => if x1 = 0 then (pt (sI u p0 5 3) (fun u => pt (u.1 p0 8) (fun x2 => if x2 = 0 then (pt (sI u p0 8 1) (fun u => bv (f_X3_append N 51 p0 u) (fun u => some u))) else (some u)))) else (some u))
set_option maxHeartbeats 4000000 in
set_option maxRecDepth 100000 in
theorem c_X1_suspect (l : Launch) (D : va_G) (cy : Nat → ClassId) (L : List Nat) (ad : Nat → Nat) (N : Nat) (p0 : Nat) (u : Mm) (o : Mm) (h_this : vn L 1 48) (h_p0 : vn L 5 p0) (h : f_X1_suspect N p0 u = some o) : MtV l yX1_suspect wsX1_suspect ({ frames := 1, cells := 0, slots := 0, locals := 21 } : Room) D cy L ad [.ref (ad 48), .ref (ad p0)] u o := by
  intro sz
  refine Met.ofW (cc := cX1_suspect) (maxL := 2) (ret := none) (by decide) rfl ?_
  intro p e s m args below meth c s₁ B hml hv
  obtain ⟨rfl, hsz, hP, hK, hD0, hok⟩ := hv
  have hx := B.exec
  have hb := B.bytes
  have hr := B.returns
  have hts := atoms_spec (ws := wsX1_suspect) B.pre
  have hown : s.vm.findClass RX1 = some m.cls := findClass_of_methodNamed B.named
  have hlocks := B.notSynchronized
  subst hsz
  have hw := wd_start hP hD0 hok
  have hA : ∀ q : Nat, s.heap.size ≤ q → va_A (wl cy L ad u) s.heap.size q := fun q h => Or.inr h
  generalize va_A (wl cy L ad u) s.heap.size = A at hw hA ⊢
  have C0 : Cx p m meth c cX1_suspect none 2 s _ wsX1_suspect RX1 D cy := ⟨hx, hb, hr, hml, hown, hts, hlocks, hK⟩
  have hl := lv_entry ([.ref (ad 48), .ref (ad p0)]) (n := 2) (Nat.le_of_ble_eq_true rfl)
  rw [lg_entry_eq]
  generalize (lg_sl ([.ref (ad 48), .ref (ad p0)]) ++ List.replicate (2 - (lg_sl ([.ref (ad 48), .ref (ad p0)])).length) Slot.unset).toArray = ls at hl ⊢
  have hl : lv_has ls 2 [(0, .ref (ad 48)), (1, .ref (ad p0))] := hl
  unfold f_X1_suspect at h
  refine lv_aload_n hx hb dX1_suspect_0 rfl (lv_at hl 1 rfl) ?_
  refine r_bI (fun o ho => r_vI (As := []) (rest := []) ⟨hx, hb, hml, hown, hts⟩ (c_X5_isGreen l D cy L ad N p0 u o h_p0 ho) (cwV 0 hts gX1_suspect_X5_isGreen rfl rfl rfl (by decide +kernel) ⟨Nat.le_of_ble_eq_true rfl, Nat.le_of_ble_eq_true rfl⟩) hw hK h_p0 (by decide) rfl rfl hl.1 rfl (Nat.le_of_ble_eq_true rfl) dX1_suspect_1 ⟨Nat.zero_le _, Nat.zero_le _⟩) hw hA h (fun x1 u H locs hw h => ?_)
  refine lv_if_eq (tgt := 8) hx hb dX1_suspect_4 (by decide) (fun hc => ?_) (fun hc => ?_)
  · rw [if_pos hc] at h
    refine lv_aload_n hx hb dX1_suspect_8 rfl (lv_at hl 1 rfl) ?_
    refine lv_iconst (v := 3) hx hb dX1_suspect_9 (by decide) ?_
    refine r_putI (ty := .int) hx hb hts n_X1_suspect_X5 tyX5 tyX5_ok nmX5 hown hK hw h_p0 (by decide) rfl 5 (by decide) rfl (hts _ k_X1_suspect_1) (fun _ q => q) rfl rfl rfl rfl dX1_suspect_10 h (fun u H locs hw h => ?_)
    refine lv_aload_n hx hb dX1_suspect_13 rfl (lv_at hl 1 rfl) ?_
    refine r_getI hx hb hts n_X1_suspect_X5 hown hK hw h_p0 (by decide) rfl 8 (by decide) rfl (hts _ k_X1_suspect_2) (fun _ q => q) dX1_suspect_14 h (fun x2 h => ?_)
    refine lv_if_ne (tgt := 33) hx hb dX1_suspect_17 (by decide) (fun hc => ?_) (fun hc => ?_)
    · rw [if_neg hc] at h
      exact r_vret hx hb hr hlocks hK hw h dX1_suspect_33
    · rw [if_pos hc] at h
      refine lv_aload_n hx hb dX1_suspect_20 rfl (lv_at hl 1 rfl) ?_
      refine lv_iconst (v := 1) hx hb dX1_suspect_21 (by decide) ?_
      refine r_putI (ty := .boolean) hx hb hts n_X1_suspect_X5 tyX5 tyX5_ok nmX5 hown hK hw h_p0 (by decide) rfl 8 (by decide) rfl (hts _ k_X1_suspect_2) (fun _ q => q) rfl rfl (by decide) (by decide) dX1_suspect_22 h (fun u H locs hw h => ?_)
      refine lv_aload_n hx hb dX1_suspect_25 rfl (lv_at hl 0 rfl) ?_
      refine r_getC (t2 := 3) (d := 51) hx hb hts n_X1_suspect_X1 hown hK hw h_this (by decide) rfl 2 (by decide) rfl rfl (hts _ k_X1_suspect_3) (fun _ q => q) dX1_suspect_26 (fun hv3 => ?_)
      refine lv_aload_n hx hb dX1_suspect_29 rfl (lv_at hl 1 rfl) ?_
      refine r_bV (fun o ho => r_vV (As := [.ref (ad p0)]) (rest := []) ⟨hx, hb, hml, hown, hts⟩ (c_X3_append l D cy L ad N 51 p0 u o hv3 h_p0 ho) (cwV 1 hts gX1_suspect_X3_append rfl rfl rfl (by decide +kernel) ⟨Nat.le_of_ble_eq_true rfl, Nat.le_of_ble_eq_true rfl⟩) hw hK hv3 (by decide) rfl rfl hl.1 rfl (Nat.le_of_ble_eq_true rfl) dX1_suspect_30 ⟨Nat.zero_le _, Nat.zero_le _⟩) hw hA h (fun u H locs hw h => ?_)
      exact r_vret hx hb hr hlocks hK hw h dX1_suspect_33
  · rw [if_neg hc] at h
    exact r_vret hx hb hr hlocks hK hw h dX1_suspect_7
theorem k_X1_lower_1 : Cond.fieldLink RX1 28 "RingHeap$Thing" "count" "I" ∈ wsX1_lower := List.mem_of_getElem? (i := 1) (by rfl)
theorem n_X1_lower_X5 : ∀ w ∈ u_ws RX5 TX5 11, w ∈ wsX1_lower := fun _ h => List.mem_cons_of_mem _ (List.mem_append_left _ (List.mem_append_left _ (List.mem_append_right _ h)))
theorem k_X1_lower_2 : Cond.fieldLink RX1 56 "RingHeap$Thing" "wishUntold" "Z" ∈ wsX1_lower := List.mem_of_getElem? (i := 2) (by rfl)
theorem k_X1_lower_3 : Cond.fieldLink RX1 12 "RingHeap$Counting" "going" "LRingHeap$Row;" ∈ wsX1_lower := List.mem_of_getElem? (i := 3) (by rfl)
theorem n_X1_lower_X1 : ∀ w ∈ u_ws RX1 TX1 4, w ∈ wsX1_lower := fun _ h => List.mem_cons_of_mem _ (List.mem_append_left _ (List.mem_append_right _ h))
def f_X1_lower (N : Nat) (p0 : Nat) (u : Mm) : Option (Mm) :=
  pt (u.1 p0 3) (fun x1 => pt (sI u p0 3 (x1 - 1)) (fun u => pt (u.1 p0 3) (fun x2 => if x2 ≤ 0 then (pt (u.1 p0 9) (fun x3 => if x3 = 0 then (bv (f_X3_append N 49 p0 u) (fun u => some u)) else (bv (f_X1_tellWish N p0 u) (fun u => bv (f_X5_blackenUnlessGreen N p0 u) (fun u => some u))))) else (bv (f_X1_suspect N p0 u) (fun u => some u)))))
set_option maxHeartbeats 4000000 in
set_option maxRecDepth 100000 in
theorem c_X1_lower (l : Launch) (D : va_G) (cy : Nat → ClassId) (L : List Nat) (ad : Nat → Nat) (N : Nat) (p0 : Nat) (u : Mm) (o : Mm) (h_this : vn L 1 48) (h_p0 : vn L 5 p0) (h : f_X1_lower N p0 u = some o) : MtV l yX1_lower wsX1_lower ({ frames := 2, cells := 0, slots := 0, locals := 42 } : Room) D cy L ad [.ref (ad 48), .ref (ad p0)] u o := by
  intro sz
  refine Met.ofW (cc := cX1_lower) (maxL := 2) (ret := none) (by decide) rfl ?_
  intro p e s m args below meth c s₁ B hml hv
  obtain ⟨rfl, hsz, hP, hK, hD0, hok⟩ := hv
  have hx := B.exec
  have hb := B.bytes
  have hr := B.returns
  have hts := atoms_spec (ws := wsX1_lower) B.pre
  have hown : s.vm.findClass RX1 = some m.cls := findClass_of_methodNamed B.named
  have hlocks := B.notSynchronized
  subst hsz
  have hw := wd_start hP hD0 hok
  have hA : ∀ q : Nat, s.heap.size ≤ q → va_A (wl cy L ad u) s.heap.size q := fun q h => Or.inr h
  generalize va_A (wl cy L ad u) s.heap.size = A at hw hA ⊢
  have C0 : Cx p m meth c cX1_lower none 2 s _ wsX1_lower RX1 D cy := ⟨hx, hb, hr, hml, hown, hts, hlocks, hK⟩
  have hl := lv_entry ([.ref (ad 48), .ref (ad p0)]) (n := 2) (Nat.le_of_ble_eq_true rfl)
  rw [lg_entry_eq]
  generalize (lg_sl ([.ref (ad 48), .ref (ad p0)]) ++ List.replicate (2 - (lg_sl ([.ref (ad 48), .ref (ad p0)])).length) Slot.unset).toArray = ls at hl ⊢
  have hl : lv_has ls 2 [(0, .ref (ad 48)), (1, .ref (ad p0))] := hl
  unfold f_X1_lower at h
  refine lv_aload_n hx hb dX1_lower_0 rfl (lv_at hl 1 rfl) ?_
  refine lv_dup hx hb dX1_lower_1 rfl ?_
  refine r_getI hx hb hts n_X1_lower_X5 hown hK hw h_p0 (by decide) rfl 3 (by decide) rfl (hts _ k_X1_lower_1) (fun _ q => q) dX1_lower_2 h (fun x1 h => ?_)
  refine lv_iconst (v := 1) hx hb dX1_lower_5 (by decide) ?_
  refine lv_isub hx hb dX1_lower_6 ?_
  refine r_putI (ty := .int) hx hb hts n_X1_lower_X5 tyX5 tyX5_ok nmX5 hown hK hw h_p0 (by decide) rfl 3 (by decide) rfl (hts _ k_X1_lower_1) (fun _ q => q) rfl rfl rfl rfl dX1_lower_7 h (fun u H locs hw h => ?_)
  refine lv_aload_n hx hb dX1_lower_10 rfl (lv_at hl 1 rfl) ?_
  refine r_getI hx hb hts n_X1_lower_X5 hown hK hw h_p0 (by decide) rfl 3 (by decide) rfl (hts _ k_X1_lower_1) (fun _ q => q) dX1_lower_11 h (fun x2 h => ?_)
  refine lv_if_le (tgt := 25) hx hb dX1_lower_14 (by decide) (fun hc => ?_) (fun hc => ?_)
  · rw [if_pos hc] at h
    refine lv_aload_n hx hb dX1_lower_25 rfl (lv_at hl 1 rfl) ?_
    refine r_getI hx hb hts n_X1_lower_X5 hown hK hw h_p0 (by decide) rfl 9 (by decide) rfl (hts _ k_X1_lower_2) (fun _ q => q) dX1_lower_26 h (fun x3 h => ?_)
    refine lv_if_eq (tgt := 44) hx hb dX1_lower_29 (by decide) (fun hc => ?_) (fun hc => ?_)
    · rw [if_pos hc] at h
      refine lv_aload_n hx hb dX1_lower_44 rfl (lv_at hl 0 rfl) ?_
      refine r_getC (t2 := 3) (d := 49) hx hb hts n_X1_lower_X1 hown hK hw h_this (by decide) rfl 1 (by decide) rfl rfl (hts _ k_X1_lower_3) (fun _ q => q) dX1_lower_45 (fun hv4 => ?_)
      refine lv_aload_n hx hb dX1_lower_48 rfl (lv_at hl 1 rfl) ?_
      refine r_bV (fun o ho => r_vV (As := [.ref (ad p0)]) (rest := []) ⟨hx, hb, hml, hown, hts⟩ (c_X3_append l D cy L ad N 49 p0 u o hv4 h_p0 ho) (cwV 1 hts gX1_lower_X3_append rfl rfl rfl (by decide +kernel) ⟨Nat.le_of_ble_eq_true rfl, Nat.le_of_ble_eq_true rfl⟩) hw hK hv4 (by decide) rfl rfl hl.1 rfl (Nat.le_of_ble_eq_true rfl) dX1_lower_49 ⟨Nat.zero_le _, Nat.zero_le _⟩) hw hA h (fun u H locs hw h => ?_)
      exact r_vret hx hb hr hlocks hK hw h dX1_lower_52
    · rw [if_neg hc] at h
      refine lv_aload_n hx hb dX1_lower_32 rfl (lv_at hl 0 rfl) ?_
      refine lv_aload_n hx hb dX1_lower_33 rfl (lv_at hl 1 rfl) ?_
      refine r_bV (fun o ho => r_vV (As := [.ref (ad p0)]) (rest := []) ⟨hx, hb, hml, hown, hts⟩ (c_X1_tellWish l D cy L ad N p0 u o h_this h_p0 ho) (cwV 1 hts gX1_lower_X1_tellWish rfl rfl rfl (by decide +kernel) ⟨Nat.le_of_ble_eq_true rfl, Nat.le_of_ble_eq_true rfl⟩) hw hK h_this (by decide) rfl rfl hl.1 rfl (Nat.le_of_ble_eq_true rfl) dX1_lower_34 ⟨Nat.zero_le _, Nat.zero_le _⟩) hw hA h (fun u H locs hw h => ?_)
      refine lv_aload_n hx hb dX1_lower_37 rfl (lv_at hl 1 rfl) ?_
      refine r_bV (fun o ho => r_vV (As := []) (rest := []) ⟨hx, hb, hml, hown, hts⟩ (c_X5_blackenUnlessGreen l D cy L ad N p0 u o h_p0 ho) (cwV 0 hts gX1_lower_X5_blackenUnlessGreen rfl rfl rfl (by decide +kernel) ⟨Nat.le_of_ble_eq_true rfl, Nat.le_of_ble_eq_true rfl⟩) hw hK h_p0 (by decide) rfl rfl hl.1 rfl (Nat.le_of_ble_eq_true rfl) dX1_lower_38 ⟨Nat.zero_le _, Nat.zero_le _⟩) hw hA h (fun u H locs hw h => ?_)
      refine lv_goto (tgt := 52) hx hb dX1_lower_41 (by decide) ?_
      exact r_vret hx hb hr hlocks hK hw h dX1_lower_52
  · rw [if_neg hc] at h
    refine lv_aload_n hx hb dX1_lower_17 rfl (lv_at hl 0 rfl) ?_
    refine lv_aload_n hx hb dX1_lower_18 rfl (lv_at hl 1 rfl) ?_
    refine r_bV (fun o ho => r_vV (As := [.ref (ad p0)]) (rest := []) ⟨hx, hb, hml, hown, hts⟩ (c_X1_suspect l D cy L ad N p0 u o h_this h_p0 ho) (cwV 1 hts gX1_lower_X1_suspect rfl rfl rfl (by decide +kernel) ⟨Nat.le_of_ble_eq_true rfl, Nat.le_of_ble_eq_true rfl⟩) hw hK h_this (by decide) rfl rfl hl.1 rfl (Nat.le_of_ble_eq_true rfl) dX1_lower_19 ⟨Nat.zero_le _, Nat.zero_le _⟩) hw hA h (fun u H locs hw h => ?_)
    refine lv_goto (tgt := 52) hx hb dX1_lower_22 (by decide) ?_
    exact r_vret hx hb hr hlocks hK hw h dX1_lower_52
theorem k_X1_finish_1 : Cond.fieldLink RX1 12 "RingHeap$Counting" "going" "LRingHeap$Row;" ∈ wsX1_finish := List.mem_of_getElem? (i := 1) (by rfl)
theorem n_X1_finish_X1 : ∀ w ∈ u_ws RX1 TX1 4, w ∈ wsX1_finish := fun _ h => List.mem_cons_of_mem _ (List.mem_append_left _ (List.mem_append_left _ (List.mem_append_left _ (List.mem_append_left _ (List.mem_append_left _ (List.mem_append_right _ h))))))
theorem k_X1_finish_2 : Cond.fieldLink RX1 76 "RingHeap$Thing" "inList" "Z" ∈ wsX1_finish := List.mem_of_getElem? (i := 2) (by rfl)
theorem n_X1_finish_X5 : ∀ w ∈ u_ws RX5 TX5 11, w ∈ wsX1_finish := fun _ h => List.mem_cons_of_mem _ (List.mem_append_left _ (List.mem_append_left _ (List.mem_append_left _ (List.mem_append_left _ (List.mem_append_right _ h)))))
theorem k_X1_finish_4 : Cond.fieldLink RX1 24 "RingHeap$Counting" "store" "LRingHeap$Store;" ∈ wsX1_finish := List.mem_of_getElem? (i := 4) (by rfl)
theorem k_X1_finish_3 : Cond.fieldLink RX1 82 "RingHeap$Thing" "husk" "Z" ∈ wsX1_finish := List.mem_of_getElem? (i := 3) (by rfl)
def f_X1_finish (N : Nat) (p0 : Nat) (u : Mm) : Option (Mm) :=
  bv (f_X3_removeLast N 49 u) (fun u => bv (f_X5_blackenUnlessGreen N p0 u) (fun u => pt (u.1 p0 8) (fun x2 => if x2 = 0 then (bv (f_X4_free N p0 u) (fun u => some u)) else (pt (sI u p0 10 1) (fun u => some u)))))
set_option maxHeartbeats 4000000 in
set_option maxRecDepth 100000 in
theorem c_X1_finish (l : Launch) (D : va_G) (cy : Nat → ClassId) (L : List Nat) (ad : Nat → Nat) (N : Nat) (p0 : Nat) (u : Mm) (o : Mm) (h_this : vn L 1 48) (h_p0 : vn L 5 p0) (h : f_X1_finish N p0 u = some o) : MtV l yX1_finish wsX1_finish ({ frames := 2, cells := 0, slots := 0, locals := 46 } : Room) D cy L ad [.ref (ad 48), .ref (ad p0)] u o := by
  intro sz
  refine Met.ofW (cc := cX1_finish) (maxL := 2) (ret := none) (by decide) rfl ?_
  intro p e s m args below meth c s₁ B hml hv
  obtain ⟨rfl, hsz, hP, hK, hD0, hok⟩ := hv
  have hx := B.exec
  have hb := B.bytes
  have hr := B.returns
  have hts := atoms_spec (ws := wsX1_finish) B.pre
  have hown : s.vm.findClass RX1 = some m.cls := findClass_of_methodNamed B.named
  have hlocks := B.notSynchronized
  subst hsz
  have hw := wd_start hP hD0 hok
  have hA : ∀ q : Nat, s.heap.size ≤ q → va_A (wl cy L ad u) s.heap.size q := fun q h => Or.inr h
  generalize va_A (wl cy L ad u) s.heap.size = A at hw hA ⊢
  have C0 : Cx p m meth c cX1_finish none 2 s _ wsX1_finish RX1 D cy := ⟨hx, hb, hr, hml, hown, hts, hlocks, hK⟩
  have hl := lv_entry ([.ref (ad 48), .ref (ad p0)]) (n := 2) (Nat.le_of_ble_eq_true rfl)
  rw [lg_entry_eq]
  generalize (lg_sl ([.ref (ad 48), .ref (ad p0)]) ++ List.replicate (2 - (lg_sl ([.ref (ad 48), .ref (ad p0)])).length) Slot.unset).toArray = ls at hl ⊢
  have hl : lv_has ls 2 [(0, .ref (ad 48)), (1, .ref (ad p0))] := hl
  unfold f_X1_finish at h
  refine lv_aload_n hx hb dX1_finish_0 rfl (lv_at hl 0 rfl) ?_
  refine r_getC (t2 := 3) (d := 49) hx hb hts n_X1_finish_X1 hown hK hw h_this (by decide) rfl 1 (by decide) rfl rfl (hts _ k_X1_finish_1) (fun _ q => q) dX1_finish_1 (fun hv1 => ?_)
  refine r_bV (fun o ho => r_vV (As := []) (rest := []) ⟨hx, hb, hml, hown, hts⟩ (c_X3_removeLast l D cy L ad N 49 u o hv1 ho) (cwV 0 hts gX1_finish_X3_removeLast rfl rfl rfl (by decide +kernel) ⟨Nat.le_of_ble_eq_true rfl, Nat.le_of_ble_eq_true rfl⟩) hw hK hv1 (by decide) rfl rfl hl.1 rfl (Nat.le_of_ble_eq_true rfl) dX1_finish_4 ⟨Nat.zero_le _, Nat.zero_le _⟩) hw hA h (fun u H locs hw h => ?_)
  refine lv_aload_n hx hb dX1_finish_7 rfl (lv_at hl 1 rfl) ?_
  refine r_bV (fun o ho => r_vV (As := []) (rest := []) ⟨hx, hb, hml, hown, hts⟩ (c_X5_blackenUnlessGreen l D cy L ad N p0 u o h_p0 ho) (cwV 0 hts gX1_finish_X5_blackenUnlessGreen rfl rfl rfl (by decide +kernel) ⟨Nat.le_of_ble_eq_true rfl, Nat.le_of_ble_eq_true rfl⟩) hw hK h_p0 (by decide) rfl rfl hl.1 rfl (Nat.le_of_ble_eq_true rfl) dX1_finish_8 ⟨Nat.zero_le _, Nat.zero_le _⟩) hw hA h (fun u H locs hw h => ?_)
  refine lv_aload_n hx hb dX1_finish_11 rfl (lv_at hl 1 rfl) ?_
  refine r_getI hx hb hts n_X1_finish_X5 hown hK hw h_p0 (by decide) rfl 8 (by decide) rfl (hts _ k_X1_finish_2) (fun _ q => q) dX1_finish_12 h (fun x2 h => ?_)
  refine lv_if_eq (tgt := 26) hx hb dX1_finish_15 (by decide) (fun hc => ?_) (fun hc => ?_)
  · rw [if_pos hc] at h
    refine lv_aload_n hx hb dX1_finish_26 rfl (lv_at hl 0 rfl) ?_
    refine r_getC (t2 := 4) (d := 42) hx hb hts n_X1_finish_X1 hown hK hw h_this (by decide) rfl 0 (by decide) rfl rfl (hts _ k_X1_finish_4) (fun _ q => q) dX1_finish_27 (fun hv3 => ?_)
    refine lv_aload_n hx hb dX1_finish_30 rfl (lv_at hl 1 rfl) ?_
    refine r_bV (fun o ho => r_vV (As := [.ref (ad p0)]) (rest := []) ⟨hx, hb, hml, hown, hts⟩ (c_X4_free l D cy L ad N p0 u o hv3 h_p0 ho) (cwV 1 hts gX1_finish_X4_free rfl rfl rfl (by decide +kernel) ⟨Nat.le_of_ble_eq_true rfl, Nat.le_of_ble_eq_true rfl⟩) hw hK hv3 (by decide) rfl rfl hl.1 rfl (Nat.le_of_ble_eq_true rfl) dX1_finish_31 ⟨Nat.zero_le _, Nat.zero_le _⟩) hw hA h (fun u H locs hw h => ?_)
    exact r_vret hx hb hr hlocks hK hw h dX1_finish_34
  · rw [if_neg hc] at h
    refine lv_aload_n hx hb dX1_finish_18 rfl (lv_at hl 1 rfl) ?_
    refine lv_iconst (v := 1) hx hb dX1_finish_19 (by decide) ?_
    refine r_putI (ty := .boolean) hx hb hts n_X1_finish_X5 tyX5 tyX5_ok nmX5 hown hK hw h_p0 (by decide) rfl 10 (by decide) rfl (hts _ k_X1_finish_3) (fun _ q => q) rfl rfl (by decide) (by decide) dX1_finish_20 h (fun u H locs hw h => ?_)
    refine lv_goto (tgt := 34) hx hb dX1_finish_23 (by decide) ?_
    exact r_vret hx hb hr hlocks hK hw h dX1_finish_34
theorem k_X1_less_1 : Cond.fieldLink RX1 24 "RingHeap$Counting" "store" "LRingHeap$Store;" ∈ wsX1_less := List.mem_of_getElem? (i := 1) (by rfl)
theorem n_X1_less_X1 : ∀ w ∈ u_ws RX1 TX1 4, w ∈ wsX1_less := fun _ h => List.mem_cons_of_mem _ (List.mem_append_left _ (List.mem_append_left _ (List.mem_append_left _ (List.mem_append_left _ (List.mem_append_left _ (List.mem_append_right _ h))))))
theorem k_X1_less_2 : Cond.fieldLink RX1 37 "RingHeap$Store" "freedEver" "I" ∈ wsX1_less := List.mem_of_getElem? (i := 2) (by rfl)
theorem n_X1_less_X4 : ∀ w ∈ u_ws RX4 TX4 6, w ∈ wsX1_less := fun _ h => List.mem_cons_of_mem _ (List.mem_append_left _ (List.mem_append_left _ (List.mem_append_left _ (List.mem_append_left _ (List.mem_append_right _ h)))))
theorem k_X1_less_3 : Cond.fieldLink RX1 12 "RingHeap$Counting" "going" "LRingHeap$Row;" ∈ wsX1_less := List.mem_of_getElem? (i := 3) (by rfl)
def f_X1_less_75 (N : Nat) (p0 : Nat)  (v2 : Int32) (u : Mm) : Option (Int32 × Mm) :=
  pt (u.1 42 5) (fun x6 => some (x6 - v2, u))
set_option maxHeartbeats 4000000 in
set_option maxRecDepth 100000 in
theorem j_X1_less_75 {p : Program} {l : Launch} {e : Env} {s : State} {m : MethodId} {args : Array Value} {below : List Frame} {meth : Method} {c : Code} {D : va_G} {cy : Nat → ClassId} {L : List Nat} {ad : Nat → Nat} {A : Nat → Prop} {o : Int32 × Mm} (N : Nat) (p0 : Nat) (h_p0 : vn L 5 p0) (C0 : Cx p m meth c cX1_less (some .int) 6 s args wsX1_less RX1 D cy) (hA : ∀ q : Nat, s.heap.size ≤ q → A q)  : ∀ (v2 : Int32) (u : Mm) (H : Heap) (locs : List Loc) (ls : Array Slot), vn L 1 48 → Wd D cy L ad A s.heap u H locs → lv_has ls 6 [(0, .ref (ad 48)), (2, .int v2)] → f_X1_less_75 N p0  v2 u = some o → W p l e ({ frames := 3, cells := 0, slots := 0, locals := 67 } : Room) s m args below meth c H locs 0 0 (MQ below (QcI D cy L ad A o) args s 0 0 A) (F0 m 75 ls []) := by
  obtain ⟨hx, hb, hr, hml, hown, hts, hlocks, hK⟩ := id C0
  intro v2 u H locs ls hv_t0 hw hl h
  unfold f_X1_less_75 at h
  refine lv_aload_n hx hb dX1_less_75 rfl (lv_at hl 0 rfl) ?_
  refine r_getC (t2 := 4) (d := 42) hx hb hts n_X1_less_X1 hown hK hw hv_t0 (by decide) rfl 0 (by decide) rfl rfl (hts _ k_X1_less_1) (fun _ q => q) dX1_less_76 (fun hv5 => ?_)
  refine r_getI hx hb hts n_X1_less_X4 hown hK hw hv5 (by decide) rfl 5 (by decide) rfl (hts _ k_X1_less_2) (fun _ q => q) dX1_less_79 h (fun x6 h => ?_)
  refine lv_iload_n hx hb dX1_less_82 rfl (lv_at hl 1 rfl) ?_
  refine lv_isub hx hb dX1_less_83 ?_
  exact r_iret hx hb hr hlocks hK hw h dX1_less_84
def f_X1_less_61 (N : Nat) (p0 : Nat) (K24 : Int32 → Option Nat → Int32 → Mm → Option (Int32 × Mm)) (v2 : Int32) (v4 : Int32) (u : Mm) : Option (Int32 × Mm) :=
  bd (f_X3_last N 49 u) (fun r13 u => K24 v2 r13 (v4 + 1) u)
set_option maxHeartbeats 4000000 in
set_option maxRecDepth 100000 in
theorem j_X1_less_61 {p : Program} {l : Launch} {e : Env} {s : State} {m : MethodId} {args : Array Value} {below : List Frame} {meth : Method} {c : Code} {D : va_G} {cy : Nat → ClassId} {L : List Nat} {ad : Nat → Nat} {A : Nat → Prop} {o : Int32 × Mm} (N : Nat) (p0 : Nat) (h_p0 : vn L 5 p0) (C0 : Cx p m meth c cX1_less (some .int) 6 s args wsX1_less RX1 D cy) (hA : ∀ q : Nat, s.heap.size ≤ q → A q) (K24 : Int32 → Option Nat → Int32 → Mm → Option (Int32 × Mm)) (hK24 : ∀ (v2 : Int32) (r3 : Option Nat) (v4 : Int32) (u : Mm) (H : Heap) (locs : List Loc) (ls : Array Slot), vn L 1 48 → vr L 5 r3 → Wd D cy L ad A s.heap u H locs → lv_has ls 6 [(0, .ref (ad 48)), (2, .int v2), (3, va_re ad r3), (4, .int v4)] → K24 v2 r3 v4 u = some o → W p l e ({ frames := 3, cells := 0, slots := 0, locals := 67 } : Room) s m args below meth c H locs 0 0 (MQ below (QcI D cy L ad A o) args s 0 0 A) (F0 m 24 ls [])) : ∀ (v2 : Int32) (v4 : Int32) (u : Mm) (H : Heap) (locs : List Loc) (ls : Array Slot), vn L 1 48 → Wd D cy L ad A s.heap u H locs → lv_has ls 6 [(0, .ref (ad 48)), (2, .int v2), (4, .int v4)] → f_X1_less_61 N p0 K24 v2 v4 u = some o → W p l e ({ frames := 3, cells := 0, slots := 0, locals := 67 } : Room) s m args below meth c H locs 0 0 (MQ below (QcI D cy L ad A o) args s 0 0 A) (F0 m 61 ls []) := by
  obtain ⟨hx, hb, hr, hml, hown, hts, hlocks, hK⟩ := id C0
  intro v2 v4 u H locs ls hv_t0 hw hl h
  unfold f_X1_less_61 at h
  refine lv_aload_n hx hb dX1_less_61 rfl (lv_at hl 0 rfl) ?_
  refine r_getC (t2 := 3) (d := 49) hx hb hts n_X1_less_X1 hown hK hw hv_t0 (by decide) rfl 1 (by decide) rfl rfl (hts _ k_X1_less_3) (fun _ q => q) dX1_less_62 (fun hv12 => ?_)
  refine r_bQ (fun o ho => r_vQ (As := []) (rest := []) ⟨hx, hb, hml, hown, hts⟩ (c_X3_last l D cy L ad N 49 u o hv12 ho) (cwV 0 hts gX1_less_X3_last rfl rfl rfl (by decide +kernel) ⟨Nat.le_of_ble_eq_true rfl, Nat.le_of_ble_eq_true rfl⟩) hw hK hv12 (by decide) rfl rfl hl.1 rfl (Nat.le_of_ble_eq_true rfl) dX1_less_65 ⟨Nat.zero_le _, Nat.zero_le _⟩) hw hA h (fun r13 u H locs hw hv_r13 h => ?_)
  refine r_astoren (lv' := [(3, va_re ad r13), (0, .ref (ad 48)), (2, .int v2), (4, .int v4)]) hx hb dX1_less_68 rfl hl (by decide) rfl (fun ls hl => ?_)
  refine lv_iinc (v := v4 + 1) (lv' := [(4, .int (v4 + 1)), (3, va_re ad r13), (0, .ref (ad 48)), (2, .int v2)]) hx hb dX1_less_69 hl (k := 3) rfl rfl (by decide) (by simp [va_re_cat]) (fun ls hl => ?_)
  refine lv_goto (tgt := 24) hx hb dX1_less_72 (by decide) ?_
  exact hK24 v2 r13 (v4 + 1) u _ _ _ hv_t0 hv_r13 hw (lv_sub hl [2, 3, 1, 0] rfl) h
def g_X1_less_24 (N : Nat) (p0 : Nat) (K24 : Int32 → Option Nat → Int32 → Mm → Option (Int32 × Mm)) (v2 : Int32) (r3 : Option Nat) (v4 : Int32) (u : Mm) : Option (Int32 × Mm) :=
  if 560 ≤ v4 then (f_X1_less_75 N p0 v2 u) else (nl r3 (f_X1_less_75 N p0 v2 u) (fun t7 => bd (f_X5_giveUpNext N t7 u) (fun r9 u => nl r9 (bv (f_X1_finish N t7 u) (fun u => f_X1_less_61 N p0 K24 v2 v4 u)) (fun t10 => bv (f_X1_lower N t10 u) (fun u => f_X1_less_61 N p0 K24 v2 v4 u)))))
def f_X1_less_24 (N : Nat) (p0 : Nat)  : Nat → Int32 → Option Nat → Int32 → Mm → Option (Int32 × Mm)
  | 0 => fun _ _ _ _ => none
  | n + 1 => g_X1_less_24 N p0  (f_X1_less_24 N p0  n)
set_option maxHeartbeats 4000000 in
set_option maxRecDepth 100000 in
theorem jg_X1_less_24 {p : Program} {l : Launch} {e : Env} {s : State} {m : MethodId} {args : Array Value} {below : List Frame} {meth : Method} {c : Code} {D : va_G} {cy : Nat → ClassId} {L : List Nat} {ad : Nat → Nat} {A : Nat → Prop} {o : Int32 × Mm} (N : Nat) (p0 : Nat) (h_p0 : vn L 5 p0) (C0 : Cx p m meth c cX1_less (some .int) 6 s args wsX1_less RX1 D cy) (hA : ∀ q : Nat, s.heap.size ≤ q → A q)  (K24 : Int32 → Option Nat → Int32 → Mm → Option (Int32 × Mm)) (hK24 : ∀ (v2 : Int32) (r3 : Option Nat) (v4 : Int32) (u : Mm) (H : Heap) (locs : List Loc) (ls : Array Slot), vn L 1 48 → vr L 5 r3 → Wd D cy L ad A s.heap u H locs → lv_has ls 6 [(0, .ref (ad 48)), (2, .int v2), (3, va_re ad r3), (4, .int v4)] → K24 v2 r3 v4 u = some o → W p l e ({ frames := 3, cells := 0, slots := 0, locals := 67 } : Room) s m args below meth c H locs 0 0 (MQ below (QcI D cy L ad A o) args s 0 0 A) (F0 m 24 ls [])) : ∀ (v2 : Int32) (r3 : Option Nat) (v4 : Int32) (u : Mm) (H : Heap) (locs : List Loc) (ls : Array Slot), vn L 1 48 → vr L 5 r3 → Wd D cy L ad A s.heap u H locs → lv_has ls 6 [(0, .ref (ad 48)), (2, .int v2), (3, va_re ad r3), (4, .int v4)] → g_X1_less_24 N p0  K24 v2 r3 v4 u = some o → W p l e ({ frames := 3, cells := 0, slots := 0, locals := 67 } : Room) s m args below meth c H locs 0 0 (MQ below (QcI D cy L ad A o) args s 0 0 A) (F0 m 24 ls []) := by
  obtain ⟨hx, hb, hr, hml, hown, hts, hlocks, hK⟩ := id C0
  intro v2 r3 v4 u H locs ls hv_t0 hv_r3 hw hl h
  unfold g_X1_less_24 at h
  refine lv_iload hx hb dX1_less_24 (lv_at hl 3 rfl) ?_
  refine lv_sipush (v := 560) hx hb dX1_less_26 (by decide) ?_
  refine lv_icmp_ge (tgt := 75) hx hb dX1_less_29 (by decide) (fun hc => ?_) (fun hc => ?_)
  · rw [if_pos hc] at h
    exact j_X1_less_75 N p0 h_p0 C0 hA v2 u _ _ _ hv_t0 hw (lv_sub hl [0, 1] rfl) h
  · rw [if_neg hc] at h
    refine r_aloadn hx hb dX1_less_32 rfl (lv_at hl 2 rfl) ?_
    refine r_ifnull (tgt := 75) hx hb hv_r3 dX1_less_33 (by decide) h (fun e8 h9 => ?_) (fun t7 e8 hv_t7 h9 => ?_)
    · clear h
      subst e8
      have h := h9
      have hl : lv_has ls 6 [(0, .ref (ad 48)), (2, .int v2), (3, va_re ad none), (4, .int v4)] := hl
      exact j_X1_less_75 N p0 h_p0 C0 hA v2 u _ _ _ hv_t0 hw (lv_sub hl [0, 1] rfl) h
    · clear h
      subst e8
      have h := h9
      have hl : lv_has ls 6 [(0, .ref (ad 48)), (2, .int v2), (3, .ref (ad t7)), (4, .int v4)] := hl
      refine lv_aload_n hx hb dX1_less_36 rfl (lv_at hl 2 rfl) ?_
      refine r_bQ (fun o ho => r_vQ (As := []) (rest := []) ⟨hx, hb, hml, hown, hts⟩ (c_X5_giveUpNext l D cy L ad N t7 u o hv_t7 ho) (cwV 0 hts gX1_less_X5_giveUpNext rfl rfl rfl (by decide +kernel) ⟨Nat.le_of_ble_eq_true rfl, Nat.le_of_ble_eq_true rfl⟩) hw hK hv_t7 (by decide) rfl rfl hl.1 rfl (Nat.le_of_ble_eq_true rfl) dX1_less_37 ⟨Nat.zero_le _, Nat.zero_le _⟩) hw hA h (fun r9 u H locs hw hv_r9 h => ?_)
      refine r_astore (lv' := [(5, va_re ad r9), (0, .ref (ad 48)), (2, .int v2), (3, .ref (ad t7)), (4, .int v4)]) hx hb dX1_less_40 hl (by decide) rfl (fun ls hl => ?_)
      refine r_aload hx hb dX1_less_42 (lv_at hl 0 rfl) ?_
      refine r_ifnull (tgt := 56) hx hb hv_r9 dX1_less_44 (by decide) h (fun e11 h9 => ?_) (fun t10 e11 hv_t10 h9 => ?_)
      · clear h
        subst e11
        have h := h9
        have hl : lv_has ls 6 [(5, va_re ad none), (0, .ref (ad 48)), (2, .int v2), (3, .ref (ad t7)), (4, .int v4)] := hl
        refine lv_aload_n hx hb dX1_less_56 rfl (lv_at hl 1 rfl) ?_
        refine lv_aload_n hx hb dX1_less_57 rfl (lv_at hl 3 rfl) ?_
        refine r_bV (fun o ho => r_vV (As := [.ref (ad t7)]) (rest := []) ⟨hx, hb, hml, hown, hts⟩ (c_X1_finish l D cy L ad N t7 u o hv_t0 hv_t7 ho) (cwV 1 hts gX1_less_X1_finish rfl rfl rfl (by decide +kernel) ⟨Nat.le_of_ble_eq_true rfl, Nat.le_of_ble_eq_true rfl⟩) hw hK hv_t0 (by decide) rfl rfl hl.1 rfl (Nat.le_of_ble_eq_true rfl) dX1_less_58 ⟨Nat.zero_le _, Nat.zero_le _⟩) hw hA h (fun u H locs hw h => ?_)
        exact j_X1_less_61 N p0 h_p0 C0 hA K24 hK24 v2 v4 u _ _ _ hv_t0 hw (lv_sub hl [1, 2, 4] rfl) h
      · clear h
        subst e11
        have h := h9
        have hl : lv_has ls 6 [(5, .ref (ad t10)), (0, .ref (ad 48)), (2, .int v2), (3, .ref (ad t7)), (4, .int v4)] := hl
        refine lv_aload_n hx hb dX1_less_47 rfl (lv_at hl 1 rfl) ?_
        refine lv_aload hx hb dX1_less_48 (lv_at hl 0 rfl) ?_
        refine r_bV (fun o ho => r_vV (As := [.ref (ad t10)]) (rest := []) ⟨hx, hb, hml, hown, hts⟩ (c_X1_lower l D cy L ad N t10 u o hv_t0 hv_t10 ho) (cwV 1 hts gX1_less_X1_lower rfl rfl rfl (by decide +kernel) ⟨Nat.le_of_ble_eq_true rfl, Nat.le_of_ble_eq_true rfl⟩) hw hK hv_t0 (by decide) rfl rfl hl.1 rfl (Nat.le_of_ble_eq_true rfl) dX1_less_50 ⟨Nat.zero_le _, Nat.zero_le _⟩) hw hA h (fun u H locs hw h => ?_)
        refine lv_goto (tgt := 61) hx hb dX1_less_53 (by decide) ?_
        exact j_X1_less_61 N p0 h_p0 C0 hA K24 hK24 v2 v4 u _ _ _ hv_t0 hw (lv_sub hl [1, 2, 4] rfl) h
set_option maxHeartbeats 4000000 in
set_option maxRecDepth 100000 in
theorem j_X1_less_24 {p : Program} {l : Launch} {e : Env} {s : State} {m : MethodId} {args : Array Value} {below : List Frame} {meth : Method} {c : Code} {D : va_G} {cy : Nat → ClassId} {L : List Nat} {ad : Nat → Nat} {A : Nat → Prop} {o : Int32 × Mm} (N : Nat) (p0 : Nat) (h_p0 : vn L 5 p0) (C0 : Cx p m meth c cX1_less (some .int) 6 s args wsX1_less RX1 D cy) (hA : ∀ q : Nat, s.heap.size ≤ q → A q)  : ∀ (n : Nat), ∀ (v2 : Int32) (r3 : Option Nat) (v4 : Int32) (u : Mm) (H : Heap) (locs : List Loc) (ls : Array Slot), vn L 1 48 → vr L 5 r3 → Wd D cy L ad A s.heap u H locs → lv_has ls 6 [(0, .ref (ad 48)), (2, .int v2), (3, va_re ad r3), (4, .int v4)] → f_X1_less_24 N p0  n v2 r3 v4 u = some o → W p l e ({ frames := 3, cells := 0, slots := 0, locals := 67 } : Room) s m args below meth c H locs 0 0 (MQ below (QcI D cy L ad A o) args s 0 0 A) (F0 m 24 ls []) := by
  intro n
  induction n with
  | zero =>
    intro v2 r3 v4 u H locs ls hv_t0 hv_r3 hw hl h
    cases h
  | succ n ih => exact jg_X1_less_24 N p0 h_p0 C0 hA  _ ih
def f_X1_less (N : Nat) (p0 : Nat) (u : Mm) : Option (Int32 × Mm) :=
  pt (u.1 42 5) (fun x2 => bv (f_X1_lower N p0 u) (fun u => bd (f_X3_last N 49 u) (fun r4 u => f_X1_less_24 N p0 N x2 r4 0 u)))
set_option maxHeartbeats 4000000 in
set_option maxRecDepth 100000 in
theorem c_X1_less (l : Launch) (D : va_G) (cy : Nat → ClassId) (L : List Nat) (ad : Nat → Nat) (N : Nat) (p0 : Nat) (u : Mm) (o : Int32 × Mm) (h_this : vn L 1 48) (h_p0 : vn L 5 p0) (h : f_X1_less N p0 u = some o) : MtI l yX1_less wsX1_less ({ frames := 3, cells := 0, slots := 0, locals := 67 } : Room) D cy L ad [.ref (ad 48), .ref (ad p0)] u o := by
  intro sz
  refine Met.ofW (cc := cX1_less) (maxL := 6) (ret := (some .int)) (by decide) rfl ?_
  intro p e s m args below meth c s₁ B hml hv
  obtain ⟨rfl, hsz, hP, hK, hD0, hok⟩ := hv
  have hx := B.exec
  have hb := B.bytes
  have hr := B.returns
  have hts := atoms_spec (ws := wsX1_less) B.pre
  have hown : s.vm.findClass RX1 = some m.cls := findClass_of_methodNamed B.named
  have hlocks := B.notSynchronized
  subst hsz
  have hw := wd_start hP hD0 hok
  have hA : ∀ q : Nat, s.heap.size ≤ q → va_A (wl cy L ad u) s.heap.size q := fun q h => Or.inr h
  generalize va_A (wl cy L ad u) s.heap.size = A at hw hA ⊢
  have C0 : Cx p m meth c cX1_less (some .int) 6 s _ wsX1_less RX1 D cy := ⟨hx, hb, hr, hml, hown, hts, hlocks, hK⟩
  have hl := lv_entry ([.ref (ad 48), .ref (ad p0)]) (n := 6) (Nat.le_of_ble_eq_true rfl)
  rw [lg_entry_eq]
  generalize (lg_sl ([.ref (ad 48), .ref (ad p0)]) ++ List.replicate (6 - (lg_sl ([.ref (ad 48), .ref (ad p0)])).length) Slot.unset).toArray = ls at hl ⊢
  have hl : lv_has ls 6 [(0, .ref (ad 48)), (1, .ref (ad p0))] := hl
  unfold f_X1_less at h
  refine lv_aload_n hx hb dX1_less_0 rfl (lv_at hl 0 rfl) ?_
  refine r_getC (t2 := 4) (d := 42) hx hb hts n_X1_less_X1 hown hK hw h_this (by decide) rfl 0 (by decide) rfl rfl (hts _ k_X1_less_1) (fun _ q => q) dX1_less_1 (fun hv1 => ?_)
  refine r_getI hx hb hts n_X1_less_X4 hown hK hw hv1 (by decide) rfl 5 (by decide) rfl (hts _ k_X1_less_2) (fun _ q => q) dX1_less_4 h (fun x2 h => ?_)
  refine lv_istore_n (lv' := [(2, .int x2), (0, .ref (ad 48)), (1, .ref (ad p0))]) hx hb dX1_less_7 rfl hl (by decide) rfl (fun ls hl => ?_)
  refine lv_aload_n hx hb dX1_less_8 rfl (lv_at hl 1 rfl) ?_
  refine lv_aload_n hx hb dX1_less_9 rfl (lv_at hl 2 rfl) ?_
  refine r_bV (fun o ho => r_vV (As := [.ref (ad p0)]) (rest := []) ⟨hx, hb, hml, hown, hts⟩ (c_X1_lower l D cy L ad N p0 u o h_this h_p0 ho) (cwV 1 hts gX1_less_X1_lower rfl rfl rfl (by decide +kernel) ⟨Nat.le_of_ble_eq_true rfl, Nat.le_of_ble_eq_true rfl⟩) hw hK h_this (by decide) rfl rfl hl.1 rfl (Nat.le_of_ble_eq_true rfl) dX1_less_10 ⟨Nat.zero_le _, Nat.zero_le _⟩) hw hA h (fun u H locs hw h => ?_)
  refine lv_aload_n hx hb dX1_less_13 rfl (lv_at hl 1 rfl) ?_
  refine r_getC (t2 := 3) (d := 49) hx hb hts n_X1_less_X1 hown hK hw h_this (by decide) rfl 1 (by decide) rfl rfl (hts _ k_X1_less_3) (fun _ q => q) dX1_less_14 (fun hv3 => ?_)
  refine r_bQ (fun o ho => r_vQ (As := []) (rest := []) ⟨hx, hb, hml, hown, hts⟩ (c_X3_last l D cy L ad N 49 u o hv3 ho) (cwV 0 hts gX1_less_X3_last rfl rfl rfl (by decide +kernel) ⟨Nat.le_of_ble_eq_true rfl, Nat.le_of_ble_eq_true rfl⟩) hw hK hv3 (by decide) rfl rfl hl.1 rfl (Nat.le_of_ble_eq_true rfl) dX1_less_17 ⟨Nat.zero_le _, Nat.zero_le _⟩) hw hA h (fun r4 u H locs hw hv_r4 h => ?_)
  refine r_astoren (lv' := [(3, va_re ad r4), (2, .int x2), (0, .ref (ad 48)), (1, .ref (ad p0))]) hx hb dX1_less_20 rfl hl (by decide) rfl (fun ls hl => ?_)
  refine lv_iconst (v := 0) hx hb dX1_less_21 (by decide) ?_
  refine lv_istore (lv' := [(4, .int 0), (3, va_re ad r4), (2, .int x2), (0, .ref (ad 48)), (1, .ref (ad p0))]) hx hb dX1_less_22 hl (by decide) (by simp [va_re_cat]) (fun ls hl => ?_)
  exact j_X1_less_24 N p0 h_p0 C0 hA N x2 r4 0 u _ _ _ h_this hv_r4 hw (lv_sub hl [3, 2, 1, 0] rfl) h

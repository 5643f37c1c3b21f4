theorem k_X8_thrown_1 : Cond.fieldLink RX8 1 "RingHeapModel" "thrown" "I" ∈ wsX8_thrown := List.mem_of_getElem? (i := 1) (by rfl)
theorem n_X8_thrown_X8 : ∀ w ∈ u_ws RX8 TX8 31, w ∈ wsX8_thrown := fun _ h => List.mem_cons_of_mem _ (List.mem_append_right _ h)
def f_X8_thrown (N : Nat)  (u : Mm) : Option (Int32 × Mm) :=
  pt (u.1 0 0) (fun x1 => some (x1, u))
set_option maxHeartbeats 4000000 in
set_option maxRecDepth 100000 in
theorem c_X8_thrown (l : Launch) (D : va_G) (cy : Nat → ClassId) (L : List Nat) (ad : Nat → Nat) (N : Nat)  (u : Mm) (o : Int32 × Mm) (h_this : vn L 8 0) (h : f_X8_thrown N  u = some o) : MtI l yX8_thrown wsX8_thrown ({ frames := 0, cells := 0, slots := 0, locals := 0 } : Room) D cy L ad [.ref (ad 0)] u o := by
  intro sz
  refine Met.ofW (cc := cX8_thrown) (maxL := 1) (ret := (some .int)) (by decide) rfl ?_
  intro p e s m args below meth c s₁ B hml hv
  obtain ⟨rfl, hsz, hP, hK, hD0, hok⟩ := hv
  have hx := B.exec
  have hb := B.bytes
  have hr := B.returns
  have hts := atoms_spec (ws := wsX8_thrown) B.pre
  have hown : s.vm.findClass RX8 = some m.cls := findClass_of_methodNamed B.named
  have hlocks := B.notSynchronized
  subst hsz
  have hw := wd_start hP hD0 hok
  have hA : ∀ q : Nat, s.heap.size ≤ q → va_A (wl cy L ad u) s.heap.size q := fun q h => Or.inr h
  generalize va_A (wl cy L ad u) s.heap.size = A at hw hA ⊢
  have C0 : Cx p m meth c cX8_thrown (some .int) 1 s _ wsX8_thrown RX8 D cy := ⟨hx, hb, hr, hml, hown, hts, hlocks, hK⟩
  have hl := lv_entry ([.ref (ad 0)]) (n := 1) (Nat.le_of_ble_eq_true rfl)
  rw [lg_entry_eq]
  generalize (lg_sl ([.ref (ad 0)]) ++ List.replicate (1 - (lg_sl ([.ref (ad 0)])).length) Slot.unset).toArray = ls at hl ⊢
  have hl : lv_has ls 1 [(0, .ref (ad 0))] := hl
  unfold f_X8_thrown at h
  refine lv_aload_n hx hb dX8_thrown_0 rfl (lv_at hl 0 rfl) ?_
  refine r_getI hx hb hts n_X8_thrown_X8 hown hK hw h_this (by decide) rfl 0 (by decide) rfl (hts _ k_X8_thrown_1) (fun _ q => q) dX8_thrown_1 h (fun x1 h => ?_)
  exact r_iret hx hb hr hlocks hK hw h dX8_thrown_4
theorem k_X8_isThere_1 : Cond.fieldLink RX8 24 "RingHeapModel" "types" "[I" ∈ wsX8_isThere := List.mem_of_getElem? (i := 1) (by rfl)
theorem n_X8_isThere_X8 : ∀ w ∈ u_ws RX8 TX8 31, w ∈ wsX8_isThere := fun _ h => List.mem_cons_of_mem _ (List.mem_append_right _ h)
def f_X8_isThere (N : Nat) (p0 : Int32) (u : Mm) : Option (Int32 × Mm) :=
  if p0 < 0 then (some (0, u)) else (if 80 ≤ p0 then (some (0, u)) else (ck (bI p0 80) (pt (u.1 4 (ix p0)) (fun x2 => if x2 < 0 then (some (0, u)) else (some (1, u))))))
set_option maxHeartbeats 4000000 in
set_option maxRecDepth 100000 in
theorem c_X8_isThere (l : Launch) (D : va_G) (cy : Nat → ClassId) (L : List Nat) (ad : Nat → Nat) (N : Nat) (p0 : Int32) (u : Mm) (o : Int32 × Mm) (h_this : vn L 8 0) (h : f_X8_isThere N p0 u = some o) : MtI l yX8_isThere wsX8_isThere ({ frames := 0, cells := 0, slots := 0, locals := 0 } : Room) D cy L ad [.ref (ad 0), .int p0] u o := by
  intro sz
  refine Met.ofW (cc := cX8_isThere) (maxL := 2) (ret := (some .boolean)) (by decide) rfl ?_
  intro p e s m args below meth c s₁ B hml hv
  obtain ⟨rfl, hsz, hP, hK, hD0, hok⟩ := hv
  have hx := B.exec
  have hb := B.bytes
  have hr := B.returns
  have hts := atoms_spec (ws := wsX8_isThere) B.pre
  have hown : s.vm.findClass RX8 = some m.cls := findClass_of_methodNamed B.named
  have hlocks := B.notSynchronized
  subst hsz
  have hw := wd_start hP hD0 hok
  have hA : ∀ q : Nat, s.heap.size ≤ q → va_A (wl cy L ad u) s.heap.size q := fun q h => Or.inr h
  generalize va_A (wl cy L ad u) s.heap.size = A at hw hA ⊢
  have C0 : Cx p m meth c cX8_isThere (some .boolean) 2 s _ wsX8_isThere RX8 D cy := ⟨hx, hb, hr, hml, hown, hts, hlocks, hK⟩
  have hl := lv_entry ([.ref (ad 0), .int p0]) (n := 2) (Nat.le_of_ble_eq_true rfl)
  rw [lg_entry_eq]
  generalize (lg_sl ([.ref (ad 0), .int p0]) ++ List.replicate (2 - (lg_sl ([.ref (ad 0), .int p0])).length) Slot.unset).toArray = ls at hl ⊢
  have hl : lv_has ls 2 [(0, .ref (ad 0)), (1, .int p0)] := hl
  unfold f_X8_isThere at h
  refine lv_iload_n hx hb dX8_isThere_0 rfl (lv_at hl 1 rfl) ?_
  refine lv_if_lt (tgt := 23) hx hb dX8_isThere_1 (by decide) (fun hc => ?_) (fun hc => ?_)
  · rw [if_pos hc] at h
    refine lv_iconst (v := 0) hx hb dX8_isThere_23 (by decide) ?_
    exact r_zret hx hb hr hlocks hK hw (by decide) h dX8_isThere_24
  · rw [if_neg hc] at h
    refine lv_iload_n hx hb dX8_isThere_4 rfl (lv_at hl 1 rfl) ?_
    refine lv_bipush (v := 80) hx hb dX8_isThere_5 (by decide) ?_
    refine lv_icmp_ge (tgt := 23) hx hb dX8_isThere_7 (by decide) (fun hc => ?_) (fun hc => ?_)
    · rw [if_pos hc] at h
      refine lv_iconst (v := 0) hx hb dX8_isThere_23 (by decide) ?_
      exact r_zret hx hb hr hlocks hK hw (by decide) h dX8_isThere_24
    · rw [if_neg hc] at h
      refine lv_aload_n hx hb dX8_isThere_10 rfl (lv_at hl 0 rfl) ?_
      refine r_getC (t2 := 9) (d := 4) hx hb hts n_X8_isThere_X8 hown hK hw h_this (by decide) rfl 4 (by decide) rfl rfl (hts _ k_X8_isThere_1) (fun _ q => q) dX8_isThere_11 (fun hv1 => ?_)
      refine lv_iload_n hx hb dX8_isThere_14 rfl (lv_at hl 1 rfl) ?_
      refine r_iald (n := 80) hx hb hK hw hv1 rfl dX8_isThere_15 h (fun x2 h => ?_)
      refine lv_if_lt (tgt := 23) hx hb dX8_isThere_16 (by decide) (fun hc => ?_) (fun hc => ?_)
      · rw [if_pos hc] at h
        refine lv_iconst (v := 0) hx hb dX8_isThere_23 (by decide) ?_
        exact r_zret hx hb hr hlocks hK hw (by decide) h dX8_isThere_24
      · rw [if_neg hc] at h
        refine lv_iconst (v := 1) hx hb dX8_isThere_19 (by decide) ?_
        refine lv_goto (tgt := 24) hx hb dX8_isThere_20 (by decide) ?_
        exact r_zret hx hb hr hlocks hK hw (by decide) h dX8_isThere_24
theorem k_X8_isWhole_1 : Cond.fieldLink RX8 45 "RingHeapModel" "husks" "[Z" ∈ wsX8_isWhole := List.mem_of_getElem? (i := 1) (by rfl)
theorem n_X8_isWhole_X8 : ∀ w ∈ u_ws RX8 TX8 31, w ∈ wsX8_isWhole := fun _ h => List.mem_cons_of_mem _ (List.mem_append_right _ h)
def f_X8_isWhole (N : Nat) (p0 : Int32) (u : Mm) : Option (Int32 × Mm) :=
  bd (f_X8_isThere N p0 u) (fun x1 u => if x1 = 0 then (some (0, u)) else (ck (bI p0 80) (pt (u.1 11 (ix p0)) (fun x3 => if x3 = 0 then (some (1, u)) else (some (0, u))))))
set_option maxHeartbeats 4000000 in
set_option maxRecDepth 100000 in
theorem c_X8_isWhole (l : Launch) (D : va_G) (cy : Nat → ClassId) (L : List Nat) (ad : Nat → Nat) (N : Nat) (p0 : Int32) (u : Mm) (o : Int32 × Mm) (h_this : vn L 8 0) (h : f_X8_isWhole N p0 u = some o) : MtI l yX8_isWhole wsX8_isWhole ({ frames := 1, cells := 0, slots := 0, locals := 21 } : Room) D cy L ad [.ref (ad 0), .int p0] u o := by
  intro sz
  refine Met.ofW (cc := cX8_isWhole) (maxL := 2) (ret := (some .boolean)) (by decide) rfl ?_
  intro p e s m args below meth c s₁ B hml hv
  obtain ⟨rfl, hsz, hP, hK, hD0, hok⟩ := hv
  have hx := B.exec
  have hb := B.bytes
  have hr := B.returns
  have hts := atoms_spec (ws := wsX8_isWhole) B.pre
  have hown : s.vm.findClass RX8 = some m.cls := findClass_of_methodNamed B.named
  have hlocks := B.notSynchronized
  subst hsz
  have hw := wd_start hP hD0 hok
  have hA : ∀ q : Nat, s.heap.size ≤ q → va_A (wl cy L ad u) s.heap.size q := fun q h => Or.inr h
  generalize va_A (wl cy L ad u) s.heap.size = A at hw hA ⊢
  have C0 : Cx p m meth c cX8_isWhole (some .boolean) 2 s _ wsX8_isWhole RX8 D cy := ⟨hx, hb, hr, hml, hown, hts, hlocks, hK⟩
  have hl := lv_entry ([.ref (ad 0), .int p0]) (n := 2) (Nat.le_of_ble_eq_true rfl)
  rw [lg_entry_eq]
  generalize (lg_sl ([.ref (ad 0), .int p0]) ++ List.replicate (2 - (lg_sl ([.ref (ad 0), .int p0])).length) Slot.unset).toArray = ls at hl ⊢
  have hl : lv_has ls 2 [(0, .ref (ad 0)), (1, .int p0)] := hl
  unfold f_X8_isWhole at h
  refine lv_aload_n hx hb dX8_isWhole_0 rfl (lv_at hl 0 rfl) ?_
  refine lv_iload_n hx hb dX8_isWhole_1 rfl (lv_at hl 1 rfl) ?_
  refine r_bI (fun o ho => r_vI (As := [.int p0]) (rest := []) ⟨hx, hb, hml, hown, hts⟩ (c_X8_isThere l D cy L ad N p0 u o h_this ho) (cwV 1 hts gX8_isWhole_X8_isThere rfl rfl rfl (by decide +kernel) ⟨Nat.le_of_ble_eq_true rfl, Nat.le_of_ble_eq_true rfl⟩) hw hK h_this (by decide) rfl rfl hl.1 rfl (Nat.le_of_ble_eq_true rfl) dX8_isWhole_2 ⟨Nat.zero_le _, Nat.zero_le _⟩) hw hA h (fun x1 u H locs hw h => ?_)
  refine lv_if_eq (tgt := 21) hx hb dX8_isWhole_5 (by decide) (fun hc => ?_) (fun hc => ?_)
  · rw [if_pos hc] at h
    refine lv_iconst (v := 0) hx hb dX8_isWhole_21 (by decide) ?_
    exact r_zret hx hb hr hlocks hK hw (by decide) h dX8_isWhole_22
  · rw [if_neg hc] at h
    refine lv_aload_n hx hb dX8_isWhole_8 rfl (lv_at hl 0 rfl) ?_
    refine r_getC (t2 := 10) (d := 11) hx hb hts n_X8_isWhole_X8 hown hK hw h_this (by decide) rfl 11 (by decide) rfl rfl (hts _ k_X8_isWhole_1) (fun _ q => q) dX8_isWhole_9 (fun hv2 => ?_)
    refine lv_iload_n hx hb dX8_isWhole_12 rfl (lv_at hl 1 rfl) ?_
    refine r_zald (n := 80) hx hb hK hw hv2 rfl dX8_isWhole_13 h (fun x3 h => ?_)
    refine lv_if_ne (tgt := 21) hx hb dX8_isWhole_14 (by decide) (fun hc => ?_) (fun hc => ?_)
    · rw [if_neg hc] at h
      refine lv_iconst (v := 0) hx hb dX8_isWhole_21 (by decide) ?_
      exact r_zret hx hb hr hlocks hK hw (by decide) h dX8_isWhole_22
    · rw [if_pos hc] at h
      refine lv_iconst (v := 1) hx hb dX8_isWhole_17 (by decide) ?_
      refine lv_goto (tgt := 22) hx hb dX8_isWhole_18 (by decide) ?_
      exact r_zret hx hb hr hlocks hK hw (by decide) h dX8_isWhole_22
theorem k_X8_turn_1 : Cond.fieldLink RX8 30 "RingHeapModel" "colours" "[I" ∈ wsX8_turn := List.mem_of_getElem? (i := 1) (by rfl)
theorem n_X8_turn_X8 : ∀ w ∈ u_ws RX8 TX8 31, w ∈ wsX8_turn := fun _ h => List.mem_cons_of_mem _ (List.mem_append_right _ h)
def f_X8_turn_20 (N : Nat)   (w0 : Int32) (w1 : Int32) (u : Mm) : Option (Mm) :=
  ck (bI w1 80) (pt (sI u 6 (ix w1) w0) (fun u => some u))
set_option maxHeartbeats 4000000 in
set_option maxRecDepth 100000 in
theorem j_X8_turn_20 {p : Program} {l : Launch} {e : Env} {s : State} {m : MethodId} {args : Array Value} {below : List Frame} {meth : Method} {c : Code} {D : va_G} {cy : Nat → ClassId} {L : List Nat} {ad : Nat → Nat} {A : Nat → Prop} {o : Mm} (N : Nat)   (C0 : Cx p m meth c cX8_turn none 3 s args wsX8_turn RX8 D cy) (hA : ∀ q : Nat, s.heap.size ≤ q → A q)  : ∀ (w0 : Int32) (w1 : Int32) (u : Mm) (H : Heap) (locs : List Loc) (ls : Array Slot), vn L 9 6 → Wd D cy L ad A s.heap u H locs → lv_has ls 3 [] → f_X8_turn_20 N   w0 w1 u = some o → W p l e ({ frames := 0, cells := 0, slots := 0, locals := 0 } : Room) s m args below meth c H locs 0 0 (MQ below (QcV D cy L ad A o) args s 0 0 A) (F0 m 20 ls [.int w0, .int w1, .ref (ad 6)]) := by
  obtain ⟨hx, hb, hr, hml, hown, hts, hlocks, hK⟩ := id C0
  intro w0 w1 u H locs ls hv_z2 hw hl h
  unfold f_X8_turn_20 at h
  refine r_iast (n := 80) hx hb hK hw hv_z2 rfl dX8_turn_20 h (fun u H locs hw h => ?_)
  exact r_vret hx hb hr hlocks hK hw h dX8_turn_21
def f_X8_turn (N : Nat) (p0 : Int32) (p1 : Int32) (u : Mm) : Option (Mm) :=
  ck (bI p0 80) (pt (u.1 6 (ix p0)) (fun x3 => if x3 = 4 then (f_X8_turn_20 N 4 p0 u) else (f_X8_turn_20 N p1 p0 u)))
set_option maxHeartbeats 4000000 in
set_option maxRecDepth 100000 in
theorem c_X8_turn (l : Launch) (D : va_G) (cy : Nat → ClassId) (L : List Nat) (ad : Nat → Nat) (N : Nat) (p0 : Int32) (p1 : Int32) (u : Mm) (o : Mm) (h_this : vn L 8 0) (h : f_X8_turn N p0 p1 u = some o) : MtV l yX8_turn wsX8_turn ({ frames := 0, cells := 0, slots := 0, locals := 0 } : Room) D cy L ad [.ref (ad 0), .int p0, .int p1] u o := by
  intro sz
  refine Met.ofW (cc := cX8_turn) (maxL := 3) (ret := none) (by decide) rfl ?_
  intro p e s m args below meth c s₁ B hml hv
  obtain ⟨rfl, hsz, hP, hK, hD0, hok⟩ := hv
  have hx := B.exec
  have hb := B.bytes
  have hr := B.returns
  have hts := atoms_spec (ws := wsX8_turn) B.pre
  have hown : s.vm.findClass RX8 = some m.cls := findClass_of_methodNamed B.named
  have hlocks := B.notSynchronized
  subst hsz
  have hw := wd_start hP hD0 hok
  have hA : ∀ q : Nat, s.heap.size ≤ q → va_A (wl cy L ad u) s.heap.size q := fun q h => Or.inr h
  generalize va_A (wl cy L ad u) s.heap.size = A at hw hA ⊢
  have C0 : Cx p m meth c cX8_turn none 3 s _ wsX8_turn RX8 D cy := ⟨hx, hb, hr, hml, hown, hts, hlocks, hK⟩
  have hl := lv_entry ([.ref (ad 0), .int p0, .int p1]) (n := 3) (Nat.le_of_ble_eq_true rfl)
  rw [lg_entry_eq]
  generalize (lg_sl ([.ref (ad 0), .int p0, .int p1]) ++ List.replicate (3 - (lg_sl ([.ref (ad 0), .int p0, .int p1])).length) Slot.unset).toArray = ls at hl ⊢
  have hl : lv_has ls 3 [(0, .ref (ad 0)), (1, .int p0), (2, .int p1)] := hl
  unfold f_X8_turn at h
  refine lv_aload_n hx hb dX8_turn_0 rfl (lv_at hl 0 rfl) ?_
  refine r_getC (t2 := 9) (d := 6) hx hb hts n_X8_turn_X8 hown hK hw h_this (by decide) rfl 6 (by decide) rfl rfl (hts _ k_X8_turn_1) (fun _ q => q) dX8_turn_1 (fun hv1 => ?_)
  refine lv_iload_n hx hb dX8_turn_4 rfl (lv_at hl 1 rfl) ?_
  refine lv_aload_n hx hb dX8_turn_5 rfl (lv_at hl 0 rfl) ?_
  refine r_getC (t2 := 9) (d := 6) hx hb hts n_X8_turn_X8 hown hK hw h_this (by decide) rfl 6 (by decide) rfl rfl (hts _ k_X8_turn_1) (fun _ q => q) dX8_turn_6 (fun hv2 => ?_)
  refine lv_iload_n hx hb dX8_turn_9 rfl (lv_at hl 1 rfl) ?_
  refine r_iald (n := 80) hx hb hK hw hv2 rfl dX8_turn_10 h (fun x3 h => ?_)
  refine lv_iconst (v := 4) hx hb dX8_turn_11 (by decide) ?_
  refine lv_icmp_ne (tgt := 19) hx hb dX8_turn_12 (by decide) (fun hc => ?_) (fun hc => ?_)
  · rw [if_neg hc] at h
    refine lv_iload_n hx hb dX8_turn_19 rfl (lv_at hl 2 rfl) ?_
    exact j_X8_turn_20 N C0 hA p1 p0 u _ _ _ hv1 hw (lv_sub hl [] rfl) h
  · rw [if_pos hc] at h
    refine lv_iconst (v := 4) hx hb dX8_turn_15 (by decide) ?_
    refine lv_goto (tgt := 20) hx hb dX8_turn_16 (by decide) ?_
    exact j_X8_turn_20 N C0 hA 4 p0 u _ _ _ hv1 hw (lv_sub hl [] rfl) h
theorem k_X8_fieldsOf_1 : Cond.fieldLink RX8 13 "RingHeapModel" "typeFields" "[I" ∈ wsX8_fieldsOf := List.mem_of_getElem? (i := 1) (by rfl)
theorem n_X8_fieldsOf_X8 : ∀ w ∈ u_ws RX8 TX8 31, w ∈ wsX8_fieldsOf := fun _ h => List.mem_cons_of_mem _ (List.mem_append_right _ h)
theorem k_X8_fieldsOf_2 : Cond.fieldLink RX8 24 "RingHeapModel" "types" "[I" ∈ wsX8_fieldsOf := List.mem_of_getElem? (i := 2) (by rfl)
def f_X8_fieldsOf (N : Nat) (p0 : Int32) (u : Mm) : Option (Int32 × Mm) :=
  ck (bI p0 80) (pt (u.1 4 (ix p0)) (fun x3 => ck (bI x3 10) (pt (u.1 1 (ix x3)) (fun x4 => some (x4, u)))))
set_option maxHeartbeats 4000000 in
set_option maxRecDepth 100000 in
theorem c_X8_fieldsOf (l : Launch) (D : va_G) (cy : Nat → ClassId) (L : List Nat) (ad : Nat → Nat) (N : Nat) (p0 : Int32) (u : Mm) (o : Int32 × Mm) (h_this : vn L 8 0) (h : f_X8_fieldsOf N p0 u = some o) : MtI l yX8_fieldsOf wsX8_fieldsOf ({ frames := 0, cells := 0, slots := 0, locals := 0 } : Room) D cy L ad [.ref (ad 0), .int p0] u o := by
  intro sz
  refine Met.ofW (cc := cX8_fieldsOf) (maxL := 2) (ret := (some .int)) (by decide) rfl ?_
  intro p e s m args below meth c s₁ B hml hv
  obtain ⟨rfl, hsz, hP, hK, hD0, hok⟩ := hv
  have hx := B.exec
  have hb := B.bytes
  have hr := B.returns
  have hts := atoms_spec (ws := wsX8_fieldsOf) B.pre
  have hown : s.vm.findClass RX8 = some m.cls := findClass_of_methodNamed B.named
  have hlocks := B.notSynchronized
  subst hsz
  have hw := wd_start hP hD0 hok
  have hA : ∀ q : Nat, s.heap.size ≤ q → va_A (wl cy L ad u) s.heap.size q := fun q h => Or.inr h
  generalize va_A (wl cy L ad u) s.heap.size = A at hw hA ⊢
  have C0 : Cx p m meth c cX8_fieldsOf (some .int) 2 s _ wsX8_fieldsOf RX8 D cy := ⟨hx, hb, hr, hml, hown, hts, hlocks, hK⟩
  have hl := lv_entry ([.ref (ad 0), .int p0]) (n := 2) (Nat.le_of_ble_eq_true rfl)
  rw [lg_entry_eq]
  generalize (lg_sl ([.ref (ad 0), .int p0]) ++ List.replicate (2 - (lg_sl ([.ref (ad 0), .int p0])).length) Slot.unset).toArray = ls at hl ⊢
  have hl : lv_has ls 2 [(0, .ref (ad 0)), (1, .int p0)] := hl
  unfold f_X8_fieldsOf at h
  refine lv_aload_n hx hb dX8_fieldsOf_0 rfl (lv_at hl 0 rfl) ?_
  refine r_getC (t2 := 9) (d := 1) hx hb hts n_X8_fieldsOf_X8 hown hK hw h_this (by decide) rfl 1 (by decide) rfl rfl (hts _ k_X8_fieldsOf_1) (fun _ q => q) dX8_fieldsOf_1 (fun hv1 => ?_)
  refine lv_aload_n hx hb dX8_fieldsOf_4 rfl (lv_at hl 0 rfl) ?_
  refine r_getC (t2 := 9) (d := 4) hx hb hts n_X8_fieldsOf_X8 hown hK hw h_this (by decide) rfl 4 (by decide) rfl rfl (hts _ k_X8_fieldsOf_2) (fun _ q => q) dX8_fieldsOf_5 (fun hv2 => ?_)
  refine lv_iload_n hx hb dX8_fieldsOf_8 rfl (lv_at hl 1 rfl) ?_
  refine r_iald (n := 80) hx hb hK hw hv2 rfl dX8_fieldsOf_9 h (fun x3 h => ?_)
  refine r_iald (n := 10) hx hb hK hw hv1 rfl dX8_fieldsOf_10 h (fun x4 h => ?_)
  exact r_iret hx hb hr hlocks hK hw h dX8_fieldsOf_11
theorem k_X8_free_3 : Cond.fieldLink RX8 24 "RingHeapModel" "types" "[I" ∈ wsX8_free := List.mem_of_getElem? (i := 3) (by rfl)
theorem n_X8_free_X8 : ∀ w ∈ u_ws RX8 TX8 31, w ∈ wsX8_free := fun _ h => List.mem_cons_of_mem _ (List.mem_append_right _ h)
theorem k_X8_free_4 : Cond.fieldLink RX8 45 "RingHeapModel" "husks" "[Z" ∈ wsX8_free := List.mem_of_getElem? (i := 4) (by rfl)
theorem k_X8_free_5 : Cond.fieldLink RX8 63 "RingHeapModel" "freedRow" "[I" ∈ wsX8_free := List.mem_of_getElem? (i := 5) (by rfl)
theorem k_X8_free_6 : Cond.fieldLink RX8 82 "RingHeapModel" "freedEver" "I" ∈ wsX8_free := List.mem_of_getElem? (i := 6) (by rfl)
theorem k_X8_free_2 : Cond.fieldLink RX8 60 "RingHeapModel" "weaks" "[I" ∈ wsX8_free := List.mem_of_getElem? (i := 2) (by rfl)
theorem k_X8_free_1 : Cond.fieldLink RX8 51 "RingHeapModel" "owners" "[I" ∈ wsX8_free := List.mem_of_getElem? (i := 1) (by rfl)
def f_X8_free_74 (N : Nat)  (K43 : Int32 → Int32 → Mm → Option (Mm)) (v1 : Int32) (v2 : Int32) (w0 : Int32) (w1 : Int32) (u : Mm) : Option (Mm) :=
  ck (bI w1 20) (pt (sI u 18 (ix w1) w0) (fun u => K43 v1 (v2 + 1) u))
set_option maxHeartbeats 4000000 in
set_option maxRecDepth 100000 in
theorem j_X8_free_74 {p : Program} {l : Launch} {e : Env} {s : State} {m : MethodId} {args : Array Value} {below : List Frame} {meth : Method} {c : Code} {D : va_G} {cy : Nat → ClassId} {L : List Nat} {ad : Nat → Nat} {A : Nat → Prop} {o : Mm} (N : Nat)   (C0 : Cx p m meth c cX8_free none 3 s args wsX8_free RX8 D cy) (hA : ∀ q : Nat, s.heap.size ≤ q → A q) (K43 : Int32 → Int32 → Mm → Option (Mm)) (hK43 : ∀ (v1 : Int32) (v2 : Int32) (u : Mm) (H : Heap) (locs : List Loc) (ls : Array Slot), vn L 8 0 → Wd D cy L ad A s.heap u H locs → lv_has ls 3 [(0, .ref (ad 0)), (1, .int v1), (2, .int v2)] → K43 v1 v2 u = some o → W p l e ({ frames := 0, cells := 0, slots := 0, locals := 0 } : Room) s m args below meth c H locs 0 0 (MQ below (QcV D cy L ad A o) args s 0 0 A) (F0 m 43 ls [])) : ∀ (v1 : Int32) (v2 : Int32) (w0 : Int32) (w1 : Int32) (u : Mm) (H : Heap) (locs : List Loc) (ls : Array Slot), vn L 8 0 → vn L 9 18 → Wd D cy L ad A s.heap u H locs → lv_has ls 3 [(0, .ref (ad 0)), (1, .int v1), (2, .int v2)] → f_X8_free_74 N  K43 v1 v2 w0 w1 u = some o → W p l e ({ frames := 0, cells := 0, slots := 0, locals := 0 } : Room) s m args below meth c H locs 0 0 (MQ below (QcV D cy L ad A o) args s 0 0 A) (F0 m 74 ls [.int w0, .int w1, .ref (ad 18)]) := by
  obtain ⟨hx, hb, hr, hml, hown, hts, hlocks, hK⟩ := id C0
  intro v1 v2 w0 w1 u H locs ls hv_t0 hv_z2 hw hl h
  unfold f_X8_free_74 at h
  refine r_iast (n := 20) hx hb hK hw hv_z2 rfl dX8_free_74 h (fun u H locs hw h => ?_)
  refine lv_iinc (v := v2 + 1) (lv' := [(2, .int (v2 + 1)), (0, .ref (ad 0)), (1, .int v1)]) hx hb dX8_free_75 hl (k := 2) rfl rfl (by decide) rfl (fun ls hl => ?_)
  refine lv_goto (tgt := 43) hx hb dX8_free_78 (by decide) ?_
  exact hK43 v1 (v2 + 1) u _ _ _ hv_t0 hw (lv_sub hl [1, 2, 0] rfl) h
def g_X8_free_43 (N : Nat)  (K43 : Int32 → Int32 → Mm → Option (Mm)) (v1 : Int32) (v2 : Int32) (u : Mm) : Option (Mm) :=
  if 20 ≤ v2 then (ck (bI v1 80) (pt (sI u 4 (ix v1) (-1)) (fun u => ck (bI v1 80) (pt (sI u 11 (ix v1) (vp_nar .boolean 0)) (fun u => pt (u.1 0 20) (fun x4 => ck (bI (x4 - x4 / 100 * 100) 100) (pt (sI u 19 (ix (x4 - x4 / 100 * 100)) v1) (fun u => pt (u.1 0 20) (fun x5 => pt (sI u 0 20 (x5 + 1)) (fun u => some u)))))))))) else (ck (bI v2 20) (pt (u.1 18 (ix v2)) (fun x8 => if x8 = v1 then (f_X8_free_74 N K43 v1 v2 (-1) v2 u) else (ck (bI v2 20) (pt (u.1 18 (ix v2)) (fun x10 => f_X8_free_74 N K43 v1 v2 x10 v2 u))))))
def f_X8_free_43 (N : Nat)   : Nat → Int32 → Int32 → Mm → Option (Mm)
  | 0 => fun _ _ _ => none
  | n + 1 => g_X8_free_43 N   (f_X8_free_43 N   n)
set_option maxHeartbeats 4000000 in
set_option maxRecDepth 100000 in
theorem jg_X8_free_43 {p : Program} {l : Launch} {e : Env} {s : State} {m : MethodId} {args : Array Value} {below : List Frame} {meth : Method} {c : Code} {D : va_G} {cy : Nat → ClassId} {L : List Nat} {ad : Nat → Nat} {A : Nat → Prop} {o : Mm} (N : Nat)   (C0 : Cx p m meth c cX8_free none 3 s args wsX8_free RX8 D cy) (hA : ∀ q : Nat, s.heap.size ≤ q → A q)  (K43 : Int32 → Int32 → Mm → Option (Mm)) (hK43 : ∀ (v1 : Int32) (v2 : Int32) (u : Mm) (H : Heap) (locs : List Loc) (ls : Array Slot), vn L 8 0 → Wd D cy L ad A s.heap u H locs → lv_has ls 3 [(0, .ref (ad 0)), (1, .int v1), (2, .int v2)] → K43 v1 v2 u = some o → W p l e ({ frames := 0, cells := 0, slots := 0, locals := 0 } : Room) s m args below meth c H locs 0 0 (MQ below (QcV D cy L ad A o) args s 0 0 A) (F0 m 43 ls [])) : ∀ (v1 : Int32) (v2 : Int32) (u : Mm) (H : Heap) (locs : List Loc) (ls : Array Slot), vn L 8 0 → Wd D cy L ad A s.heap u H locs → lv_has ls 3 [(0, .ref (ad 0)), (1, .int v1), (2, .int v2)] → g_X8_free_43 N   K43 v1 v2 u = some o → W p l e ({ frames := 0, cells := 0, slots := 0, locals := 0 } : Room) s m args below meth c H locs 0 0 (MQ below (QcV D cy L ad A o) args s 0 0 A) (F0 m 43 ls []) := by
  obtain ⟨hx, hb, hr, hml, hown, hts, hlocks, hK⟩ := id C0
  intro v1 v2 u H locs ls hv_t0 hw hl h
  unfold g_X8_free_43 at h
  refine lv_iload_n hx hb dX8_free_43 rfl (lv_at hl 2 rfl) ?_
  refine lv_bipush (v := 20) hx hb dX8_free_44 (by decide) ?_
  refine lv_icmp_ge (tgt := 81) hx hb dX8_free_46 (by decide) (fun hc => ?_) (fun hc => ?_)
  · rw [if_pos hc] at h
    refine lv_aload_n hx hb dX8_free_81 rfl (lv_at hl 0 rfl) ?_
    refine r_getC (t2 := 9) (d := 4) hx hb hts n_X8_free_X8 hown hK hw hv_t0 (by decide) rfl 4 (by decide) rfl rfl (hts _ k_X8_free_3) (fun _ q => q) dX8_free_82 (fun hv1 => ?_)
    refine lv_iload_n hx hb dX8_free_85 rfl (lv_at hl 1 rfl) ?_
    refine lv_iconst (v := (-1)) hx hb dX8_free_86 (by decide) ?_
    refine r_iast (n := 80) hx hb hK hw hv1 rfl dX8_free_87 h (fun u H locs hw h => ?_)
    refine lv_aload_n hx hb dX8_free_88 rfl (lv_at hl 0 rfl) ?_
    refine r_getC (t2 := 10) (d := 11) hx hb hts n_X8_free_X8 hown hK hw hv_t0 (by decide) rfl 11 (by decide) rfl rfl (hts _ k_X8_free_4) (fun _ q => q) dX8_free_89 (fun hv2 => ?_)
    refine lv_iload_n hx hb dX8_free_92 rfl (lv_at hl 1 rfl) ?_
    refine lv_iconst (v := 0) hx hb dX8_free_93 (by decide) ?_
    refine r_zast (n := 80) hx hb hK hw hv2 rfl dX8_free_94 h (fun u H locs hw h => ?_)
    refine lv_aload_n hx hb dX8_free_95 rfl (lv_at hl 0 rfl) ?_
    refine r_getC (t2 := 9) (d := 19) hx hb hts n_X8_free_X8 hown hK hw hv_t0 (by decide) rfl 19 (by decide) rfl rfl (hts _ k_X8_free_5) (fun _ q => q) dX8_free_96 (fun hv3 => ?_)
    refine lv_aload_n hx hb dX8_free_99 rfl (lv_at hl 0 rfl) ?_
    refine r_getI hx hb hts n_X8_free_X8 hown hK hw hv_t0 (by decide) rfl 20 (by decide) rfl (hts _ k_X8_free_6) (fun _ q => q) dX8_free_100 h (fun x4 h => ?_)
    refine lv_bipush (v := 100) hx hb dX8_free_103 (by decide) ?_
    refine lv_irem hx hb dX8_free_105 (by decide) ?_
    refine lv_iload_n hx hb dX8_free_106 rfl (lv_at hl 1 rfl) ?_
    refine r_iast (n := 100) hx hb hK hw hv3 rfl dX8_free_107 h (fun u H locs hw h => ?_)
    refine lv_aload_n hx hb dX8_free_108 rfl (lv_at hl 0 rfl) ?_
    refine lv_dup hx hb dX8_free_109 rfl ?_
    refine r_getI hx hb hts n_X8_free_X8 hown hK hw hv_t0 (by decide) rfl 20 (by decide) rfl (hts _ k_X8_free_6) (fun _ q => q) dX8_free_110 h (fun x5 h => ?_)
    refine lv_iconst (v := 1) hx hb dX8_free_113 (by decide) ?_
    refine lv_iadd hx hb dX8_free_114 ?_
    refine r_putI (ty := .int) hx hb hts n_X8_free_X8 tyX8 tyX8_ok nmX8 hown hK hw hv_t0 (by decide) rfl 20 (by decide) rfl (hts _ k_X8_free_6) (fun _ q => q) rfl rfl rfl rfl dX8_free_115 h (fun u H locs hw h => ?_)
    exact r_vret hx hb hr hlocks hK hw h dX8_free_118
  · rw [if_neg hc] at h
    refine lv_aload_n hx hb dX8_free_49 rfl (lv_at hl 0 rfl) ?_
    refine r_getC (t2 := 9) (d := 18) hx hb hts n_X8_free_X8 hown hK hw hv_t0 (by decide) rfl 18 (by decide) rfl rfl (hts _ k_X8_free_2) (fun _ q => q) dX8_free_50 (fun hv6 => ?_)
    refine lv_iload_n hx hb dX8_free_53 rfl (lv_at hl 2 rfl) ?_
    refine lv_aload_n hx hb dX8_free_54 rfl (lv_at hl 0 rfl) ?_
    refine r_getC (t2 := 9) (d := 18) hx hb hts n_X8_free_X8 hown hK hw hv_t0 (by decide) rfl 18 (by decide) rfl rfl (hts _ k_X8_free_2) (fun _ q => q) dX8_free_55 (fun hv7 => ?_)
    refine lv_iload_n hx hb dX8_free_58 rfl (lv_at hl 2 rfl) ?_
    refine r_iald (n := 20) hx hb hK hw hv7 rfl dX8_free_59 h (fun x8 h => ?_)
    refine lv_iload_n hx hb dX8_free_60 rfl (lv_at hl 1 rfl) ?_
    refine lv_icmp_ne (tgt := 68) hx hb dX8_free_61 (by decide) (fun hc => ?_) (fun hc => ?_)
    · rw [if_neg hc] at h
      refine lv_aload_n hx hb dX8_free_68 rfl (lv_at hl 0 rfl) ?_
      refine r_getC (t2 := 9) (d := 18) hx hb hts n_X8_free_X8 hown hK hw hv_t0 (by decide) rfl 18 (by decide) rfl rfl (hts _ k_X8_free_2) (fun _ q => q) dX8_free_69 (fun hv9 => ?_)
      refine lv_iload_n hx hb dX8_free_72 rfl (lv_at hl 2 rfl) ?_
      refine r_iald (n := 20) hx hb hK hw hv9 rfl dX8_free_73 h (fun x10 h => ?_)
      exact j_X8_free_74 N C0 hA K43 hK43 v1 v2 x10 v2 u _ _ _ hv_t0 hv6 hw (lv_sub hl [0, 1, 2] rfl) h
    · rw [if_pos hc] at h
      refine lv_iconst (v := (-1)) hx hb dX8_free_64 (by decide) ?_
      refine lv_goto (tgt := 74) hx hb dX8_free_65 (by decide) ?_
      exact j_X8_free_74 N C0 hA K43 hK43 v1 v2 (-1) v2 u _ _ _ hv_t0 hv6 hw (lv_sub hl [0, 1, 2] rfl) h
set_option maxHeartbeats 4000000 in
set_option maxRecDepth 100000 in
theorem j_X8_free_43 {p : Program} {l : Launch} {e : Env} {s : State} {m : MethodId} {args : Array Value} {below : List Frame} {meth : Method} {c : Code} {D : va_G} {cy : Nat → ClassId} {L : List Nat} {ad : Nat → Nat} {A : Nat → Prop} {o : Mm} (N : Nat)   (C0 : Cx p m meth c cX8_free none 3 s args wsX8_free RX8 D cy) (hA : ∀ q : Nat, s.heap.size ≤ q → A q)  : ∀ (n : Nat), ∀ (v1 : Int32) (v2 : Int32) (u : Mm) (H : Heap) (locs : List Loc) (ls : Array Slot), vn L 8 0 → Wd D cy L ad A s.heap u H locs → lv_has ls 3 [(0, .ref (ad 0)), (1, .int v1), (2, .int v2)] → f_X8_free_43 N   n v1 v2 u = some o → W p l e ({ frames := 0, cells := 0, slots := 0, locals := 0 } : Room) s m args below meth c H locs 0 0 (MQ below (QcV D cy L ad A o) args s 0 0 A) (F0 m 43 ls []) := by
  intro n
  induction n with
  | zero =>
    intro v1 v2 u H locs ls hv_t0 hw hl h
    cases h
  | succ n ih => exact jg_X8_free_43 N   C0 hA  _ ih
def f_X8_free_34 (N : Nat)  (K2 : Int32 → Int32 → Mm → Option (Mm)) (v1 : Int32) (v2 : Int32) (w0 : Int32) (w1 : Int32) (u : Mm) : Option (Mm) :=
  ck (bI w1 400) (pt (sI u 13 (ix w1) w0) (fun u => K2 v1 (v2 + 1) u))
set_option maxHeartbeats 4000000 in
set_option maxRecDepth 100000 in
theorem j_X8_free_34 {p : Program} {l : Launch} {e : Env} {s : State} {m : MethodId} {args : Array Value} {below : List Frame} {meth : Method} {c : Code} {D : va_G} {cy : Nat → ClassId} {L : List Nat} {ad : Nat → Nat} {A : Nat → Prop} {o : Mm} (N : Nat)   (C0 : Cx p m meth c cX8_free none 3 s args wsX8_free RX8 D cy) (hA : ∀ q : Nat, s.heap.size ≤ q → A q) (K2 : Int32 → Int32 → Mm → Option (Mm)) (hK2 : ∀ (v1 : Int32) (v2 : Int32) (u : Mm) (H : Heap) (locs : List Loc) (ls : Array Slot), vn L 8 0 → Wd D cy L ad A s.heap u H locs → lv_has ls 3 [(0, .ref (ad 0)), (1, .int v1), (2, .int v2)] → K2 v1 v2 u = some o → W p l e ({ frames := 0, cells := 0, slots := 0, locals := 0 } : Room) s m args below meth c H locs 0 0 (MQ below (QcV D cy L ad A o) args s 0 0 A) (F0 m 2 ls [])) : ∀ (v1 : Int32) (v2 : Int32) (w0 : Int32) (w1 : Int32) (u : Mm) (H : Heap) (locs : List Loc) (ls : Array Slot), vn L 8 0 → vn L 9 13 → Wd D cy L ad A s.heap u H locs → lv_has ls 3 [(0, .ref (ad 0)), (1, .int v1), (2, .int v2)] → f_X8_free_34 N  K2 v1 v2 w0 w1 u = some o → W p l e ({ frames := 0, cells := 0, slots := 0, locals := 0 } : Room) s m args below meth c H locs 0 0 (MQ below (QcV D cy L ad A o) args s 0 0 A) (F0 m 34 ls [.int w0, .int w1, .ref (ad 13)]) := by
  obtain ⟨hx, hb, hr, hml, hown, hts, hlocks, hK⟩ := id C0
  intro v1 v2 w0 w1 u H locs ls hv_t0 hv_z2 hw hl h
  unfold f_X8_free_34 at h
  refine r_iast (n := 400) hx hb hK hw hv_z2 rfl dX8_free_34 h (fun u H locs hw h => ?_)
  refine lv_iinc (v := v2 + 1) (lv' := [(2, .int (v2 + 1)), (0, .ref (ad 0)), (1, .int v1)]) hx hb dX8_free_35 hl (k := 2) rfl rfl (by decide) rfl (fun ls hl => ?_)
  refine lv_goto (tgt := 2) hx hb dX8_free_38 (by decide) ?_
  exact hK2 v1 (v2 + 1) u _ _ _ hv_t0 hw (lv_sub hl [1, 2, 0] rfl) h
def g_X8_free_2 (N : Nat)  (K2 : Int32 → Int32 → Mm → Option (Mm)) (v1 : Int32) (v2 : Int32) (u : Mm) : Option (Mm) :=
  if 400 ≤ v2 then (f_X8_free_43 N N v1 0 u) else (ck (bI v2 400) (pt (u.1 13 (ix v2)) (fun x13 => if x13 = v1 then (f_X8_free_34 N K2 v1 v2 (-1) v2 u) else (ck (bI v2 400) (pt (u.1 13 (ix v2)) (fun x15 => f_X8_free_34 N K2 v1 v2 x15 v2 u))))))
def f_X8_free_2 (N : Nat)   : Nat → Int32 → Int32 → Mm → Option (Mm)
  | 0 => fun _ _ _ => none
  | n + 1 => g_X8_free_2 N   (f_X8_free_2 N   n)
set_option maxHeartbeats 4000000 in
set_option maxRecDepth 100000 in
theorem jg_X8_free_2 {p : Program} {l : Launch} {e : Env} {s : State} {m : MethodId} {args : Array Value} {below : List Frame} {meth : Method} {c : Code} {D : va_G} {cy : Nat → ClassId} {L : List Nat} {ad : Nat → Nat} {A : Nat → Prop} {o : Mm} (N : Nat)   (C0 : Cx p m meth c cX8_free none 3 s args wsX8_free RX8 D cy) (hA : ∀ q : Nat, s.heap.size ≤ q → A q)  (K2 : Int32 → Int32 → Mm → Option (Mm)) (hK2 : ∀ (v1 : Int32) (v2 : Int32) (u : Mm) (H : Heap) (locs : List Loc) (ls : Array Slot), vn L 8 0 → Wd D cy L ad A s.heap u H locs → lv_has ls 3 [(0, .ref (ad 0)), (1, .int v1), (2, .int v2)] → K2 v1 v2 u = some o → W p l e ({ frames := 0, cells := 0, slots := 0, locals := 0 } : Room) s m args below meth c H locs 0 0 (MQ below (QcV D cy L ad A o) args s 0 0 A) (F0 m 2 ls [])) : ∀ (v1 : Int32) (v2 : Int32) (u : Mm) (H : Heap) (locs : List Loc) (ls : Array Slot), vn L 8 0 → Wd D cy L ad A s.heap u H locs → lv_has ls 3 [(0, .ref (ad 0)), (1, .int v1), (2, .int v2)] → g_X8_free_2 N   K2 v1 v2 u = some o → W p l e ({ frames := 0, cells := 0, slots := 0, locals := 0 } : Room) s m args below meth c H locs 0 0 (MQ below (QcV D cy L ad A o) args s 0 0 A) (F0 m 2 ls []) := by
  obtain ⟨hx, hb, hr, hml, hown, hts, hlocks, hK⟩ := id C0
  intro v1 v2 u H locs ls hv_t0 hw hl h
  unfold g_X8_free_2 at h
  refine lv_iload_n hx hb dX8_free_2 rfl (lv_at hl 2 rfl) ?_
  refine lv_sipush (v := 400) hx hb dX8_free_3 (by decide) ?_
  refine lv_icmp_ge (tgt := 41) hx hb dX8_free_6 (by decide) (fun hc => ?_) (fun hc => ?_)
  · rw [if_pos hc] at h
    refine lv_iconst (v := 0) hx hb dX8_free_41 (by decide) ?_
    refine lv_istore_n (lv' := [(2, .int 0), (0, .ref (ad 0)), (1, .int v1)]) hx hb dX8_free_42 rfl hl (by decide) rfl (fun ls hl => ?_)
    exact j_X8_free_43 N C0 hA N v1 0 u _ _ _ hv_t0 hw (lv_sub hl [1, 2, 0] rfl) h
  · rw [if_neg hc] at h
    refine lv_aload_n hx hb dX8_free_9 rfl (lv_at hl 0 rfl) ?_
    refine r_getC (t2 := 9) (d := 13) hx hb hts n_X8_free_X8 hown hK hw hv_t0 (by decide) rfl 13 (by decide) rfl rfl (hts _ k_X8_free_1) (fun _ q => q) dX8_free_10 (fun hv11 => ?_)
    refine lv_iload_n hx hb dX8_free_13 rfl (lv_at hl 2 rfl) ?_
    refine lv_aload_n hx hb dX8_free_14 rfl (lv_at hl 0 rfl) ?_
    refine r_getC (t2 := 9) (d := 13) hx hb hts n_X8_free_X8 hown hK hw hv_t0 (by decide) rfl 13 (by decide) rfl rfl (hts _ k_X8_free_1) (fun _ q => q) dX8_free_15 (fun hv12 => ?_)
    refine lv_iload_n hx hb dX8_free_18 rfl (lv_at hl 2 rfl) ?_
    refine r_iald (n := 400) hx hb hK hw hv12 rfl dX8_free_19 h (fun x13 h => ?_)
    refine lv_iload_n hx hb dX8_free_20 rfl (lv_at hl 1 rfl) ?_
    refine lv_icmp_ne (tgt := 28) hx hb dX8_free_21 (by decide) (fun hc => ?_) (fun hc => ?_)
    · rw [if_neg hc] at h
      refine lv_aload_n hx hb dX8_free_28 rfl (lv_at hl 0 rfl) ?_
      refine r_getC (t2 := 9) (d := 13) hx hb hts n_X8_free_X8 hown hK hw hv_t0 (by decide) rfl 13 (by decide) rfl rfl (hts _ k_X8_free_1) (fun _ q => q) dX8_free_29 (fun hv14 => ?_)
      refine lv_iload_n hx hb dX8_free_32 rfl (lv_at hl 2 rfl) ?_
      refine r_iald (n := 400) hx hb hK hw hv14 rfl dX8_free_33 h (fun x15 h => ?_)
      exact j_X8_free_34 N C0 hA K2 hK2 v1 v2 x15 v2 u _ _ _ hv_t0 hv11 hw (lv_sub hl [0, 1, 2] rfl) h
    · rw [if_pos hc] at h
      refine lv_iconst (v := (-1)) hx hb dX8_free_24 (by decide) ?_
      refine lv_goto (tgt := 34) hx hb dX8_free_25 (by decide) ?_
      exact j_X8_free_34 N C0 hA K2 hK2 v1 v2 (-1) v2 u _ _ _ hv_t0 hv11 hw (lv_sub hl [0, 1, 2] rfl) h
set_option maxHeartbeats 4000000 in
set_option maxRecDepth 100000 in
theorem j_X8_free_2 {p : Program} {l : Launch} {e : Env} {s : State} {m : MethodId} {args : Array Value} {below : List Frame} {meth : Method} {c : Code} {D : va_G} {cy : Nat → ClassId} {L : List Nat} {ad : Nat → Nat} {A : Nat → Prop} {o : Mm} (N : Nat)   (C0 : Cx p m meth c cX8_free none 3 s args wsX8_free RX8 D cy) (hA : ∀ q : Nat, s.heap.size ≤ q → A q)  : ∀ (n : Nat), ∀ (v1 : Int32) (v2 : Int32) (u : Mm) (H : Heap) (locs : List Loc) (ls : Array Slot), vn L 8 0 → Wd D cy L ad A s.heap u H locs → lv_has ls 3 [(0, .ref (ad 0)), (1, .int v1), (2, .int v2)] → f_X8_free_2 N   n v1 v2 u = some o → W p l e ({ frames := 0, cells := 0, slots := 0, locals := 0 } : Room) s m args below meth c H locs 0 0 (MQ below (QcV D cy L ad A o) args s 0 0 A) (F0 m 2 ls []) := by
  intro n
  induction n with
  | zero =>
    intro v1 v2 u H locs ls hv_t0 hw hl h
    cases h
  | succ n ih => exact jg_X8_free_2 N   C0 hA  _ ih
def f_X8_free (N : Nat) (p0 : Int32) (u : Mm) : Option (Mm) :=
  f_X8_free_2 N N p0 0 u
set_option maxHeartbeats 4000000 in
set_option maxRecDepth 100000 in
theorem c_X8_free (l : Launch) (D : va_G) (cy : Nat → ClassId) (L : List Nat) (ad : Nat → Nat) (N : Nat) (p0 : Int32) (u : Mm) (o : Mm) (h_this : vn L 8 0) (h : f_X8_free N p0 u = some o) : MtV l yX8_free wsX8_free ({ frames := 0, cells := 0, slots := 0, locals := 0 } : Room) D cy L ad [.ref (ad 0), .int p0] u o := by
  intro sz
  refine Met.ofW (cc := cX8_free) (maxL := 3) (ret := none) (by decide) rfl ?_
  intro p e s m args below meth c s₁ B hml hv
  obtain ⟨rfl, hsz, hP, hK, hD0, hok⟩ := hv
  have hx := B.exec
  have hb := B.bytes
  have hr := B.returns
  have hts := atoms_spec (ws := wsX8_free) B.pre
  have hown : s.vm.findClass RX8 = some m.cls := findClass_of_methodNamed B.named
  have hlocks := B.notSynchronized
  subst hsz
  have hw := wd_start hP hD0 hok
  have hA : ∀ q : Nat, s.heap.size ≤ q → va_A (wl cy L ad u) s.heap.size q := fun q h => Or.inr h
  generalize va_A (wl cy L ad u) s.heap.size = A at hw hA ⊢
  have C0 : Cx p m meth c cX8_free none 3 s _ wsX8_free RX8 D cy := ⟨hx, hb, hr, hml, hown, hts, hlocks, hK⟩
  have hl := lv_entry ([.ref (ad 0), .int p0]) (n := 3) (Nat.le_of_ble_eq_true rfl)
  rw [lg_entry_eq]
  generalize (lg_sl ([.ref (ad 0), .int p0]) ++ List.replicate (3 - (lg_sl ([.ref (ad 0), .int p0])).length) Slot.unset).toArray = ls at hl ⊢
  have hl : lv_has ls 3 [(0, .ref (ad 0)), (1, .int p0)] := hl
  unfold f_X8_free at h
  refine lv_iconst (v := 0) hx hb dX8_free_0 (by decide) ?_
  refine lv_istore_n (lv' := [(2, .int 0), (0, .ref (ad 0)), (1, .int p0)]) hx hb dX8_free_1 rfl hl (by decide) rfl (fun ls hl => ?_)
  exact j_X8_free_2 N C0 hA N p0 0 u _ _ _ h_this hw (lv_sub hl [1, 2, 0] rfl) h
theorem k_X8_hasWish_1 : Cond.fieldLink RX8 20 "RingHeapModel" "typeWish" "[Z" ∈ wsX8_hasWish := List.mem_of_getElem? (i := 1) (by rfl)
theorem n_X8_hasWish_X8 : ∀ w ∈ u_ws RX8 TX8 31, w ∈ wsX8_hasWish := fun _ h => List.mem_cons_of_mem _ (List.mem_append_right _ h)
theorem k_X8_hasWish_2 : Cond.fieldLink RX8 24 "RingHeapModel" "types" "[I" ∈ wsX8_hasWish := List.mem_of_getElem? (i := 2) (by rfl)
theorem k_X8_hasWish_3 : Cond.fieldLink RX8 42 "RingHeapModel" "wishTold" "[Z" ∈ wsX8_hasWish := List.mem_of_getElem? (i := 3) (by rfl)
def f_X8_hasWish (N : Nat) (p0 : Int32) (u : Mm) : Option (Int32 × Mm) :=
  ck (bI p0 80) (pt (u.1 4 (ix p0)) (fun x3 => ck (bI x3 10) (pt (u.1 3 (ix x3)) (fun x4 => if x4 = 0 then (some (0, u)) else (ck (bI p0 80) (pt (u.1 10 (ix p0)) (fun x6 => if x6 = 0 then (some (1, u)) else (some (0, u)))))))))
set_option maxHeartbeats 4000000 in
set_option maxRecDepth 100000 in
theorem c_X8_hasWish (l : Launch) (D : va_G) (cy : Nat → ClassId) (L : List Nat) (ad : Nat → Nat) (N : Nat) (p0 : Int32) (u : Mm) (o : Int32 × Mm) (h_this : vn L 8 0) (h : f_X8_hasWish N p0 u = some o) : MtI l yX8_hasWish wsX8_hasWish ({ frames := 0, cells := 0, slots := 0, locals := 0 } : Room) D cy L ad [.ref (ad 0), .int p0] u o := by
  intro sz
  refine Met.ofW (cc := cX8_hasWish) (maxL := 2) (ret := (some .boolean)) (by decide) rfl ?_
  intro p e s m args below meth c s₁ B hml hv
  obtain ⟨rfl, hsz, hP, hK, hD0, hok⟩ := hv
  have hx := B.exec
  have hb := B.bytes
  have hr := B.returns
  have hts := atoms_spec (ws := wsX8_hasWish) B.pre
  have hown : s.vm.findClass RX8 = some m.cls := findClass_of_methodNamed B.named
  have hlocks := B.notSynchronized
  subst hsz
  have hw := wd_start hP hD0 hok
  have hA : ∀ q : Nat, s.heap.size ≤ q → va_A (wl cy L ad u) s.heap.size q := fun q h => Or.inr h
  generalize va_A (wl cy L ad u) s.heap.size = A at hw hA ⊢
  have C0 : Cx p m meth c cX8_hasWish (some .boolean) 2 s _ wsX8_hasWish RX8 D cy := ⟨hx, hb, hr, hml, hown, hts, hlocks, hK⟩
  have hl := lv_entry ([.ref (ad 0), .int p0]) (n := 2) (Nat.le_of_ble_eq_true rfl)
  rw [lg_entry_eq]
  generalize (lg_sl ([.ref (ad 0), .int p0]) ++ List.replicate (2 - (lg_sl ([.ref (ad 0), .int p0])).length) Slot.unset).toArray = ls at hl ⊢
  have hl : lv_has ls 2 [(0, .ref (ad 0)), (1, .int p0)] := hl
  unfold f_X8_hasWish at h
  refine lv_aload_n hx hb dX8_hasWish_0 rfl (lv_at hl 0 rfl) ?_
  refine r_getC (t2 := 10) (d := 3) hx hb hts n_X8_hasWish_X8 hown hK hw h_this (by decide) rfl 3 (by decide) rfl rfl (hts _ k_X8_hasWish_1) (fun _ q => q) dX8_hasWish_1 (fun hv1 => ?_)
  refine lv_aload_n hx hb dX8_hasWish_4 rfl (lv_at hl 0 rfl) ?_
  refine r_getC (t2 := 9) (d := 4) hx hb hts n_X8_hasWish_X8 hown hK hw h_this (by decide) rfl 4 (by decide) rfl rfl (hts _ k_X8_hasWish_2) (fun _ q => q) dX8_hasWish_5 (fun hv2 => ?_)
  refine lv_iload_n hx hb dX8_hasWish_8 rfl (lv_at hl 1 rfl) ?_
  refine r_iald (n := 80) hx hb hK hw hv2 rfl dX8_hasWish_9 h (fun x3 h => ?_)
  refine r_zald (n := 10) hx hb hK hw hv1 rfl dX8_hasWish_10 h (fun x4 h => ?_)
  refine lv_if_eq (tgt := 27) hx hb dX8_hasWish_11 (by decide) (fun hc => ?_) (fun hc => ?_)
  · rw [if_pos hc] at h
    refine lv_iconst (v := 0) hx hb dX8_hasWish_27 (by decide) ?_
    exact r_zret hx hb hr hlocks hK hw (by decide) h dX8_hasWish_28
  · rw [if_neg hc] at h
    refine lv_aload_n hx hb dX8_hasWish_14 rfl (lv_at hl 0 rfl) ?_
    refine r_getC (t2 := 10) (d := 10) hx hb hts n_X8_hasWish_X8 hown hK hw h_this (by decide) rfl 10 (by decide) rfl rfl (hts _ k_X8_hasWish_3) (fun _ q => q) dX8_hasWish_15 (fun hv5 => ?_)
    refine lv_iload_n hx hb dX8_hasWish_18 rfl (lv_at hl 1 rfl) ?_
    refine r_zald (n := 80) hx hb hK hw hv5 rfl dX8_hasWish_19 h (fun x6 h => ?_)
    refine lv_if_ne (tgt := 27) hx hb dX8_hasWish_20 (by decide) (fun hc => ?_) (fun hc => ?_)
    · rw [if_neg hc] at h
      refine lv_iconst (v := 0) hx hb dX8_hasWish_27 (by decide) ?_
      exact r_zret hx hb hr hlocks hK hw (by decide) h dX8_hasWish_28
    · rw [if_pos hc] at h
      refine lv_iconst (v := 1) hx hb dX8_hasWish_23 (by decide) ?_
      refine lv_goto (tgt := 28) hx hb dX8_hasWish_24 (by decide) ?_
      exact r_zret hx hb hr hlocks hK hw (by decide) h dX8_hasWish_28
theorem k_X8_comesToWishes_1 : Cond.fieldLink RX8 42 "RingHeapModel" "wishTold" "[Z" ∈ wsX8_comesToWishes := List.mem_of_getElem? (i := 1) (by rfl)
theorem n_X8_comesToWishes_X8 : ∀ w ∈ u_ws RX8 TX8 31, w ∈ wsX8_comesToWishes := fun _ h => List.mem_cons_of_mem _ (List.mem_append_right _ h)
theorem k_X8_comesToWishes_2 : Cond.fieldLink RX8 57 "RingHeapModel" "wishes" "[I" ∈ wsX8_comesToWishes := List.mem_of_getElem? (i := 2) (by rfl)
theorem k_X8_comesToWishes_3 : Cond.fieldLink RX8 85 "RingHeapModel" "wishCount" "I" ∈ wsX8_comesToWishes := List.mem_of_getElem? (i := 3) (by rfl)
def f_X8_comesToWishes (N : Nat) (p0 : Int32) (u : Mm) : Option (Mm) :=
  ck (bI p0 80) (pt (sI u 10 (ix p0) (vp_nar .boolean 1)) (fun u => pt (u.1 0 17) (fun x3 => ck (bI x3 80) (pt (sI u 16 (ix x3) p0) (fun u => pt (u.1 0 17) (fun x4 => pt (sI u 0 17 (x4 + 1)) (fun u => some u)))))))
set_option maxHeartbeats 4000000 in
set_option maxRecDepth 100000 in
theorem c_X8_comesToWishes (l : Launch) (D : va_G) (cy : Nat → ClassId) (L : List Nat) (ad : Nat → Nat) (N : Nat) (p0 : Int32) (u : Mm) (o : Mm) (h_this : vn L 8 0) (h : f_X8_comesToWishes N p0 u = some o) : MtV l yX8_comesToWishes wsX8_comesToWishes ({ frames := 0, cells := 0, slots := 0, locals := 0 } : Room) D cy L ad [.ref (ad 0), .int p0] u o := by
  intro sz
  refine Met.ofW (cc := cX8_comesToWishes) (maxL := 2) (ret := none) (by decide) rfl ?_
  intro p e s m args below meth c s₁ B hml hv
  obtain ⟨rfl, hsz, hP, hK, hD0, hok⟩ := hv
  have hx := B.exec
  have hb := B.bytes
  have hr := B.returns
  have hts := atoms_spec (ws := wsX8_comesToWishes) B.pre
  have hown : s.vm.findClass RX8 = some m.cls := findClass_of_methodNamed B.named
  have hlocks := B.notSynchronized
  subst hsz
  have hw := wd_start hP hD0 hok
  have hA : ∀ q : Nat, s.heap.size ≤ q → va_A (wl cy L ad u) s.heap.size q := fun q h => Or.inr h
  generalize va_A (wl cy L ad u) s.heap.size = A at hw hA ⊢
  have C0 : Cx p m meth c cX8_comesToWishes none 2 s _ wsX8_comesToWishes RX8 D cy := ⟨hx, hb, hr, hml, hown, hts, hlocks, hK⟩
  have hl := lv_entry ([.ref (ad 0), .int p0]) (n := 2) (Nat.le_of_ble_eq_true rfl)
  rw [lg_entry_eq]
  generalize (lg_sl ([.ref (ad 0), .int p0]) ++ List.replicate (2 - (lg_sl ([.ref (ad 0), .int p0])).length) Slot.unset).toArray = ls at hl ⊢
  have hl : lv_has ls 2 [(0, .ref (ad 0)), (1, .int p0)] := hl
  unfold f_X8_comesToWishes at h
  refine lv_aload_n hx hb dX8_comesToWishes_0 rfl (lv_at hl 0 rfl) ?_
  refine r_getC (t2 := 10) (d := 10) hx hb hts n_X8_comesToWishes_X8 hown hK hw h_this (by decide) rfl 10 (by decide) rfl rfl (hts _ k_X8_comesToWishes_1) (fun _ q => q) dX8_comesToWishes_1 (fun hv1 => ?_)
  refine lv_iload_n hx hb dX8_comesToWishes_4 rfl (lv_at hl 1 rfl) ?_
  refine lv_iconst (v := 1) hx hb dX8_comesToWishes_5 (by decide) ?_
  refine r_zast (n := 80) hx hb hK hw hv1 rfl dX8_comesToWishes_6 h (fun u H locs hw h => ?_)
  refine lv_aload_n hx hb dX8_comesToWishes_7 rfl (lv_at hl 0 rfl) ?_
  refine r_getC (t2 := 9) (d := 16) hx hb hts n_X8_comesToWishes_X8 hown hK hw h_this (by decide) rfl 16 (by decide) rfl rfl (hts _ k_X8_comesToWishes_2) (fun _ q => q) dX8_comesToWishes_8 (fun hv2 => ?_)
  refine lv_aload_n hx hb dX8_comesToWishes_11 rfl (lv_at hl 0 rfl) ?_
  refine r_getI hx hb hts n_X8_comesToWishes_X8 hown hK hw h_this (by decide) rfl 17 (by decide) rfl (hts _ k_X8_comesToWishes_3) (fun _ q => q) dX8_comesToWishes_12 h (fun x3 h => ?_)
  refine lv_iload_n hx hb dX8_comesToWishes_15 rfl (lv_at hl 1 rfl) ?_
  refine r_iast (n := 80) hx hb hK hw hv2 rfl dX8_comesToWishes_16 h (fun u H locs hw h => ?_)
  refine lv_aload_n hx hb dX8_comesToWishes_17 rfl (lv_at hl 0 rfl) ?_
  refine lv_dup hx hb dX8_comesToWishes_18 rfl ?_
  refine r_getI hx hb hts n_X8_comesToWishes_X8 hown hK hw h_this (by decide) rfl 17 (by decide) rfl (hts _ k_X8_comesToWishes_3) (fun _ q => q) dX8_comesToWishes_19 h (fun x4 h => ?_)
  refine lv_iconst (v := 1) hx hb dX8_comesToWishes_22 (by decide) ?_
  refine lv_iadd hx hb dX8_comesToWishes_23 ?_
  refine r_putI (ty := .int) hx hb hts n_X8_comesToWishes_X8 tyX8 tyX8_ok nmX8 hown hK hw h_this (by decide) rfl 17 (by decide) rfl (hts _ k_X8_comesToWishes_3) (fun _ q => q) rfl rfl rfl rfl dX8_comesToWishes_24 h (fun u H locs hw h => ?_)
  exact r_vret hx hb hr hlocks hK hw h dX8_comesToWishes_27
theorem k_X8_isLetGo_1 : Cond.fieldLink RX8 27 "RingHeapModel" "counts" "[I" ∈ wsX8_isLetGo := List.mem_of_getElem? (i := 1) (by rfl)
theorem n_X8_isLetGo_X8 : ∀ w ∈ u_ws RX8 TX8 31, w ∈ wsX8_isLetGo := fun _ h => List.mem_cons_of_mem _ (List.mem_append_right _ h)
theorem k_X8_isLetGo_2 : Cond.fieldLink RX8 30 "RingHeapModel" "colours" "[I" ∈ wsX8_isLetGo := List.mem_of_getElem? (i := 2) (by rfl)
theorem k_X8_isLetGo_3 : Cond.fieldLink RX8 39 "RingHeapModel" "listedNow" "[Z" ∈ wsX8_isLetGo := List.mem_of_getElem? (i := 3) (by rfl)
theorem k_X8_isLetGo_4 : Cond.fieldLink RX8 54 "RingHeapModel" "list" "[I" ∈ wsX8_isLetGo := List.mem_of_getElem? (i := 4) (by rfl)
theorem k_X8_isLetGo_5 : Cond.fieldLink RX8 88 "RingHeapModel" "listCount" "I" ∈ wsX8_isLetGo := List.mem_of_getElem? (i := 5) (by rfl)
def f_X8_isLetGo (N : Nat) (p0 : Int32) (u : Mm) : Option (Int32 × Mm) :=
  ck (bI p0 80) (pt (u.1 5 (ix p0)) (fun x2 => ck (bI p0 80) (pt (sI u 5 (ix p0) (x2 - 1)) (fun u => ck (bI p0 80) (pt (u.1 5 (ix p0)) (fun x4 => if x4 ≤ 0 then (bd (f_X8_hasWish N p0 u) (fun x5 u => if x5 = 0 then (some (1, u)) else (bv (f_X8_comesToWishes N p0 u) (fun u => ck (bI p0 80) (pt (sI u 5 (ix p0) 1) (fun u => bv (f_X8_turn N p0 0 u) (fun u => some (0, u)))))))) else (ck (bI p0 80) (pt (u.1 6 (ix p0)) (fun x8 => if x8 = 4 then (some (0, u)) else (ck (bI p0 80) (pt (u.1 6 (ix p0)) (fun x10 => if x10 = 3 then (some (0, u)) else (ck (bI p0 80) (pt (sI u 6 (ix p0) 3) (fun u => ck (bI p0 80) (pt (u.1 9 (ix p0)) (fun x13 => if x13 = 0 then (ck (bI p0 80) (pt (sI u 9 (ix p0) (vp_nar .boolean 1)) (fun u => pt (u.1 0 15) (fun x16 => ck (bI x16 80) (pt (sI u 14 (ix x16) p0) (fun u => pt (u.1 0 15) (fun x17 => pt (sI u 0 15 (x17 + 1)) (fun u => some (0, u))))))))) else (some (0, u)))))))))))))))))))
set_option maxHeartbeats 4000000 in
set_option maxRecDepth 100000 in
theorem c_X8_isLetGo (l : Launch) (D : va_G) (cy : Nat → ClassId) (L : List Nat) (ad : Nat → Nat) (N : Nat) (p0 : Int32) (u : Mm) (o : Int32 × Mm) (h_this : vn L 8 0) (h : f_X8_isLetGo N p0 u = some o) : MtI l yX8_isLetGo wsX8_isLetGo ({ frames := 1, cells := 0, slots := 0, locals := 22 } : Room) D cy L ad [.ref (ad 0), .int p0] u o := by
  intro sz
  refine Met.ofW (cc := cX8_isLetGo) (maxL := 2) (ret := (some .boolean)) (by decide) rfl ?_
  intro p e s m args below meth c s₁ B hml hv
  obtain ⟨rfl, hsz, hP, hK, hD0, hok⟩ := hv
  have hx := B.exec
  have hb := B.bytes
  have hr := B.returns
  have hts := atoms_spec (ws := wsX8_isLetGo) B.pre
  have hown : s.vm.findClass RX8 = some m.cls := findClass_of_methodNamed B.named
  have hlocks := B.notSynchronized
  subst hsz
  have hw := wd_start hP hD0 hok
  have hA : ∀ q : Nat, s.heap.size ≤ q → va_A (wl cy L ad u) s.heap.size q := fun q h => Or.inr h
  generalize va_A (wl cy L ad u) s.heap.size = A at hw hA ⊢
  have C0 : Cx p m meth c cX8_isLetGo (some .boolean) 2 s _ wsX8_isLetGo RX8 D cy := ⟨hx, hb, hr, hml, hown, hts, hlocks, hK⟩
  have hl := lv_entry ([.ref (ad 0), .int p0]) (n := 2) (Nat.le_of_ble_eq_true rfl)
  rw [lg_entry_eq]
  generalize (lg_sl ([.ref (ad 0), .int p0]) ++ List.replicate (2 - (lg_sl ([.ref (ad 0), .int p0])).length) Slot.unset).toArray = ls at hl ⊢
  have hl : lv_has ls 2 [(0, .ref (ad 0)), (1, .int p0)] := hl
  unfold f_X8_isLetGo at h
  refine lv_aload_n hx hb dX8_isLetGo_0 rfl (lv_at hl 0 rfl) ?_
  refine r_getC (t2 := 9) (d := 5) hx hb hts n_X8_isLetGo_X8 hown hK hw h_this (by decide) rfl 5 (by decide) rfl rfl (hts _ k_X8_isLetGo_1) (fun _ q => q) dX8_isLetGo_1 (fun hv1 => ?_)
  refine lv_iload_n hx hb dX8_isLetGo_4 rfl (lv_at hl 1 rfl) ?_
  refine lv_dup2_11 hx hb dX8_isLetGo_5 rfl rfl ?_
  refine r_iald (n := 80) hx hb hK hw hv1 rfl dX8_isLetGo_6 h (fun x2 h => ?_)
  refine lv_iconst (v := 1) hx hb dX8_isLetGo_7 (by decide) ?_
  refine lv_isub hx hb dX8_isLetGo_8 ?_
  refine r_iast (n := 80) hx hb hK hw hv1 rfl dX8_isLetGo_9 h (fun u H locs hw h => ?_)
  refine lv_aload_n hx hb dX8_isLetGo_10 rfl (lv_at hl 0 rfl) ?_
  refine r_getC (t2 := 9) (d := 5) hx hb hts n_X8_isLetGo_X8 hown hK hw h_this (by decide) rfl 5 (by decide) rfl rfl (hts _ k_X8_isLetGo_1) (fun _ q => q) dX8_isLetGo_11 (fun hv3 => ?_)
  refine lv_iload_n hx hb dX8_isLetGo_14 rfl (lv_at hl 1 rfl) ?_
  refine r_iald (n := 80) hx hb hK hw hv3 rfl dX8_isLetGo_15 h (fun x4 h => ?_)
  refine lv_if_le (tgt := 84) hx hb dX8_isLetGo_16 (by decide) (fun hc => ?_) (fun hc => ?_)
  · rw [if_pos hc] at h
    refine lv_aload_n hx hb dX8_isLetGo_84 rfl (lv_at hl 0 rfl) ?_
    refine lv_iload_n hx hb dX8_isLetGo_85 rfl (lv_at hl 1 rfl) ?_
    refine r_bI (fun o ho => r_vI (As := [.int p0]) (rest := []) ⟨hx, hb, hml, hown, hts⟩ (c_X8_hasWish l D cy L ad N p0 u o h_this ho) (cwV 1 hts gX8_isLetGo_X8_hasWish rfl rfl rfl (by decide +kernel) ⟨Nat.le_of_ble_eq_true rfl, Nat.le_of_ble_eq_true rfl⟩) hw hK h_this (by decide) rfl rfl hl.1 rfl (Nat.le_of_ble_eq_true rfl) dX8_isLetGo_86 ⟨Nat.zero_le _, Nat.zero_le _⟩) hw hA h (fun x5 u H locs hw h => ?_)
    refine lv_if_ne (tgt := 94) hx hb dX8_isLetGo_89 (by decide) (fun hc => ?_) (fun hc => ?_)
    · rw [if_neg hc] at h
      refine lv_aload_n hx hb dX8_isLetGo_94 rfl (lv_at hl 0 rfl) ?_
      refine lv_iload_n hx hb dX8_isLetGo_95 rfl (lv_at hl 1 rfl) ?_
      refine r_bV (fun o ho => r_vV (As := [.int p0]) (rest := []) ⟨hx, hb, hml, hown, hts⟩ (c_X8_comesToWishes l D cy L ad N p0 u o h_this ho) (cwV 1 hts gX8_isLetGo_X8_comesToWishes rfl rfl rfl (by decide +kernel) ⟨Nat.le_of_ble_eq_true rfl, Nat.le_of_ble_eq_true rfl⟩) hw hK h_this (by decide) rfl rfl hl.1 rfl (Nat.le_of_ble_eq_true rfl) dX8_isLetGo_96 ⟨Nat.zero_le _, Nat.zero_le _⟩) hw hA h (fun u H locs hw h => ?_)
      refine lv_aload_n hx hb dX8_isLetGo_99 rfl (lv_at hl 0 rfl) ?_
      refine r_getC (t2 := 9) (d := 5) hx hb hts n_X8_isLetGo_X8 hown hK hw h_this (by decide) rfl 5 (by decide) rfl rfl (hts _ k_X8_isLetGo_1) (fun _ q => q) dX8_isLetGo_100 (fun hv6 => ?_)
      refine lv_iload_n hx hb dX8_isLetGo_103 rfl (lv_at hl 1 rfl) ?_
      refine lv_iconst (v := 1) hx hb dX8_isLetGo_104 (by decide) ?_
      refine r_iast (n := 80) hx hb hK hw hv6 rfl dX8_isLetGo_105 h (fun u H locs hw h => ?_)
      refine lv_aload_n hx hb dX8_isLetGo_106 rfl (lv_at hl 0 rfl) ?_
      refine lv_iload_n hx hb dX8_isLetGo_107 rfl (lv_at hl 1 rfl) ?_
      refine lv_iconst (v := 0) hx hb dX8_isLetGo_108 (by decide) ?_
      refine r_bV (fun o ho => r_vV (As := [.int p0, .int 0]) (rest := []) ⟨hx, hb, hml, hown, hts⟩ (c_X8_turn l D cy L ad N p0 0 u o h_this ho) (cwV 2 hts gX8_isLetGo_X8_turn rfl rfl rfl (by decide +kernel) ⟨Nat.le_of_ble_eq_true rfl, Nat.le_of_ble_eq_true rfl⟩) hw hK h_this (by decide) rfl rfl hl.1 rfl (Nat.le_of_ble_eq_true rfl) dX8_isLetGo_109 ⟨Nat.zero_le _, Nat.zero_le _⟩) hw hA h (fun u H locs hw h => ?_)
      refine lv_iconst (v := 0) hx hb dX8_isLetGo_112 (by decide) ?_
      exact r_zret hx hb hr hlocks hK hw (by decide) h dX8_isLetGo_113
    · rw [if_pos hc] at h
      refine lv_iconst (v := 1) hx hb dX8_isLetGo_92 (by decide) ?_
      exact r_zret hx hb hr hlocks hK hw (by decide) h dX8_isLetGo_93
  · rw [if_neg hc] at h
    refine lv_aload_n hx hb dX8_isLetGo_19 rfl (lv_at hl 0 rfl) ?_
    refine r_getC (t2 := 9) (d := 6) hx hb hts n_X8_isLetGo_X8 hown hK hw h_this (by decide) rfl 6 (by decide) rfl rfl (hts _ k_X8_isLetGo_2) (fun _ q => q) dX8_isLetGo_20 (fun hv7 => ?_)
    refine lv_iload_n hx hb dX8_isLetGo_23 rfl (lv_at hl 1 rfl) ?_
    refine r_iald (n := 80) hx hb hK hw hv7 rfl dX8_isLetGo_24 h (fun x8 h => ?_)
    refine lv_iconst (v := 4) hx hb dX8_isLetGo_25 (by decide) ?_
    refine lv_icmp_eq (tgt := 82) hx hb dX8_isLetGo_26 (by decide) (fun hc => ?_) (fun hc => ?_)
    · rw [if_pos hc] at h
      refine lv_iconst (v := 0) hx hb dX8_isLetGo_82 (by decide) ?_
      exact r_zret hx hb hr hlocks hK hw (by decide) h dX8_isLetGo_83
    · rw [if_neg hc] at h
      refine lv_aload_n hx hb dX8_isLetGo_29 rfl (lv_at hl 0 rfl) ?_
      refine r_getC (t2 := 9) (d := 6) hx hb hts n_X8_isLetGo_X8 hown hK hw h_this (by decide) rfl 6 (by decide) rfl rfl (hts _ k_X8_isLetGo_2) (fun _ q => q) dX8_isLetGo_30 (fun hv9 => ?_)
      refine lv_iload_n hx hb dX8_isLetGo_33 rfl (lv_at hl 1 rfl) ?_
      refine r_iald (n := 80) hx hb hK hw hv9 rfl dX8_isLetGo_34 h (fun x10 h => ?_)
      refine lv_iconst (v := 3) hx hb dX8_isLetGo_35 (by decide) ?_
      refine lv_icmp_eq (tgt := 82) hx hb dX8_isLetGo_36 (by decide) (fun hc => ?_) (fun hc => ?_)
      · rw [if_pos hc] at h
        refine lv_iconst (v := 0) hx hb dX8_isLetGo_82 (by decide) ?_
        exact r_zret hx hb hr hlocks hK hw (by decide) h dX8_isLetGo_83
      · rw [if_neg hc] at h
        refine lv_aload_n hx hb dX8_isLetGo_39 rfl (lv_at hl 0 rfl) ?_
        refine r_getC (t2 := 9) (d := 6) hx hb hts n_X8_isLetGo_X8 hown hK hw h_this (by decide) rfl 6 (by decide) rfl rfl (hts _ k_X8_isLetGo_2) (fun _ q => q) dX8_isLetGo_40 (fun hv11 => ?_)
        refine lv_iload_n hx hb dX8_isLetGo_43 rfl (lv_at hl 1 rfl) ?_
        refine lv_iconst (v := 3) hx hb dX8_isLetGo_44 (by decide) ?_
        refine r_iast (n := 80) hx hb hK hw hv11 rfl dX8_isLetGo_45 h (fun u H locs hw h => ?_)
        refine lv_aload_n hx hb dX8_isLetGo_46 rfl (lv_at hl 0 rfl) ?_
        refine r_getC (t2 := 10) (d := 9) hx hb hts n_X8_isLetGo_X8 hown hK hw h_this (by decide) rfl 9 (by decide) rfl rfl (hts _ k_X8_isLetGo_3) (fun _ q => q) dX8_isLetGo_47 (fun hv12 => ?_)
        refine lv_iload_n hx hb dX8_isLetGo_50 rfl (lv_at hl 1 rfl) ?_
        refine r_zald (n := 80) hx hb hK hw hv12 rfl dX8_isLetGo_51 h (fun x13 h => ?_)
        refine lv_if_ne (tgt := 82) hx hb dX8_isLetGo_52 (by decide) (fun hc => ?_) (fun hc => ?_)
        · rw [if_neg hc] at h
          refine lv_iconst (v := 0) hx hb dX8_isLetGo_82 (by decide) ?_
          exact r_zret hx hb hr hlocks hK hw (by decide) h dX8_isLetGo_83
        · rw [if_pos hc] at h
          refine lv_aload_n hx hb dX8_isLetGo_55 rfl (lv_at hl 0 rfl) ?_
          refine r_getC (t2 := 10) (d := 9) hx hb hts n_X8_isLetGo_X8 hown hK hw h_this (by decide) rfl 9 (by decide) rfl rfl (hts _ k_X8_isLetGo_3) (fun _ q => q) dX8_isLetGo_56 (fun hv14 => ?_)
          refine lv_iload_n hx hb dX8_isLetGo_59 rfl (lv_at hl 1 rfl) ?_
          refine lv_iconst (v := 1) hx hb dX8_isLetGo_60 (by decide) ?_
          refine r_zast (n := 80) hx hb hK hw hv14 rfl dX8_isLetGo_61 h (fun u H locs hw h => ?_)
          refine lv_aload_n hx hb dX8_isLetGo_62 rfl (lv_at hl 0 rfl) ?_
          refine r_getC (t2 := 9) (d := 14) hx hb hts n_X8_isLetGo_X8 hown hK hw h_this (by decide) rfl 14 (by decide) rfl rfl (hts _ k_X8_isLetGo_4) (fun _ q => q) dX8_isLetGo_63 (fun hv15 => ?_)
          refine lv_aload_n hx hb dX8_isLetGo_66 rfl (lv_at hl 0 rfl) ?_
          refine r_getI hx hb hts n_X8_isLetGo_X8 hown hK hw h_this (by decide) rfl 15 (by decide) rfl (hts _ k_X8_isLetGo_5) (fun _ q => q) dX8_isLetGo_67 h (fun x16 h => ?_)
          refine lv_iload_n hx hb dX8_isLetGo_70 rfl (lv_at hl 1 rfl) ?_
          refine r_iast (n := 80) hx hb hK hw hv15 rfl dX8_isLetGo_71 h (fun u H locs hw h => ?_)
          refine lv_aload_n hx hb dX8_isLetGo_72 rfl (lv_at hl 0 rfl) ?_
          refine lv_dup hx hb dX8_isLetGo_73 rfl ?_
          refine r_getI hx hb hts n_X8_isLetGo_X8 hown hK hw h_this (by decide) rfl 15 (by decide) rfl (hts _ k_X8_isLetGo_5) (fun _ q => q) dX8_isLetGo_74 h (fun x17 h => ?_)
          refine lv_iconst (v := 1) hx hb dX8_isLetGo_77 (by decide) ?_
          refine lv_iadd hx hb dX8_isLetGo_78 ?_
          refine r_putI (ty := .int) hx hb hts n_X8_isLetGo_X8 tyX8 tyX8_ok nmX8 hown hK hw h_this (by decide) rfl 15 (by decide) rfl (hts _ k_X8_isLetGo_5) (fun _ q => q) rfl rfl rfl rfl dX8_isLetGo_79 h (fun u H locs hw h => ?_)
          refine lv_iconst (v := 0) hx hb dX8_isLetGo_82 (by decide) ?_
          exact r_zret hx hb hr hlocks hK hw (by decide) h dX8_isLetGo_83
theorem k_X8_less_1 : Cond.fieldLink RX8 105 "RingHeapModel" "workCount" "I" ∈ wsX8_less := List.mem_of_getElem? (i := 1) (by rfl)
theorem n_X8_less_X8 : ∀ w ∈ u_ws RX8 TX8 31, w ∈ wsX8_less := fun _ h => List.mem_cons_of_mem _ (List.mem_append_right _ h)
theorem k_X8_less_2 : Cond.fieldLink RX8 66 "RingHeapModel" "work" "[I" ∈ wsX8_less := List.mem_of_getElem? (i := 2) (by rfl)
theorem k_X8_less_3 : Cond.fieldLink RX8 69 "RingHeapModel" "workFields" "[I" ∈ wsX8_less := List.mem_of_getElem? (i := 3) (by rfl)
theorem k_X8_less_5 : Cond.fieldLink RX8 39 "RingHeapModel" "listedNow" "[Z" ∈ wsX8_less := List.mem_of_getElem? (i := 5) (by rfl)
theorem k_X8_less_6 : Cond.fieldLink RX8 45 "RingHeapModel" "husks" "[Z" ∈ wsX8_less := List.mem_of_getElem? (i := 6) (by rfl)
theorem k_X8_less_4 : Cond.fieldLink RX8 48 "RingHeapModel" "fields" "[I" ∈ wsX8_less := List.mem_of_getElem? (i := 4) (by rfl)
def f_X8_less_191 (N : Nat)  (K28 : Mm → Option (Mm))  (u : Mm) : Option (Mm) :=
  K28 u
set_option maxHeartbeats 4000000 in
set_option maxRecDepth 100000 in
theorem j_X8_less_191 {p : Program} {l : Launch} {e : Env} {s : State} {m : MethodId} {args : Array Value} {below : List Frame} {meth : Method} {c : Code} {D : va_G} {cy : Nat → ClassId} {L : List Nat} {ad : Nat → Nat} {A : Nat → Prop} {o : Mm} (N : Nat)   (C0 : Cx p m meth c cX8_less none 6 s args wsX8_less RX8 D cy) (hA : ∀ q : Nat, s.heap.size ≤ q → A q) (K28 : Mm → Option (Mm)) (hK28 : ∀  (u : Mm) (H : Heap) (locs : List Loc) (ls : Array Slot), vn L 8 0 → Wd D cy L ad A s.heap u H locs → lv_has ls 6 [(0, .ref (ad 0))] → K28  u = some o → W p l e ({ frames := 2, cells := 0, slots := 0, locals := 43 } : Room) s m args below meth c H locs 0 0 (MQ below (QcV D cy L ad A o) args s 0 0 A) (F0 m 28 ls [])) : ∀  (u : Mm) (H : Heap) (locs : List Loc) (ls : Array Slot), vn L 8 0 → Wd D cy L ad A s.heap u H locs → lv_has ls 6 [(0, .ref (ad 0))] → f_X8_less_191 N  K28  u = some o → W p l e ({ frames := 2, cells := 0, slots := 0, locals := 43 } : Room) s m args below meth c H locs 0 0 (MQ below (QcV D cy L ad A o) args s 0 0 A) (F0 m 191 ls []) := by
  obtain ⟨hx, hb, hr, hml, hown, hts, hlocks, hK⟩ := id C0
  intro  u H locs ls hv_t0 hw hl h
  unfold f_X8_less_191 at h
  refine lv_goto (tgt := 28) hx hb dX8_less_191 (by decide) ?_
  exact hK28 u _ _ _ hv_t0 hw (lv_sub hl [0] rfl) h
def f_X8_less_148 (N : Nat)  (K28 : Mm → Option (Mm))  (u : Mm) : Option (Mm) :=
  f_X8_less_191 N K28 u
set_option maxHeartbeats 4000000 in
set_option maxRecDepth 100000 in
theorem j_X8_less_148 {p : Program} {l : Launch} {e : Env} {s : State} {m : MethodId} {args : Array Value} {below : List Frame} {meth : Method} {c : Code} {D : va_G} {cy : Nat → ClassId} {L : List Nat} {ad : Nat → Nat} {A : Nat → Prop} {o : Mm} (N : Nat)   (C0 : Cx p m meth c cX8_less none 6 s args wsX8_less RX8 D cy) (hA : ∀ q : Nat, s.heap.size ≤ q → A q) (K28 : Mm → Option (Mm)) (hK28 : ∀  (u : Mm) (H : Heap) (locs : List Loc) (ls : Array Slot), vn L 8 0 → Wd D cy L ad A s.heap u H locs → lv_has ls 6 [(0, .ref (ad 0))] → K28  u = some o → W p l e ({ frames := 2, cells := 0, slots := 0, locals := 43 } : Room) s m args below meth c H locs 0 0 (MQ below (QcV D cy L ad A o) args s 0 0 A) (F0 m 28 ls [])) : ∀  (u : Mm) (H : Heap) (locs : List Loc) (ls : Array Slot), vn L 8 0 → Wd D cy L ad A s.heap u H locs → lv_has ls 6 [(0, .ref (ad 0))] → f_X8_less_148 N  K28  u = some o → W p l e ({ frames := 2, cells := 0, slots := 0, locals := 43 } : Room) s m args below meth c H locs 0 0 (MQ below (QcV D cy L ad A o) args s 0 0 A) (F0 m 148 ls []) := by
  obtain ⟨hx, hb, hr, hml, hown, hts, hlocks, hK⟩ := id C0
  intro  u H locs ls hv_t0 hw hl h
  unfold f_X8_less_148 at h
  refine lv_goto (tgt := 191) hx hb dX8_less_148 (by decide) ?_
  exact j_X8_less_191 N C0 hA K28 hK28 u _ _ _ hv_t0 hw (lv_sub hl [0] rfl) h
def g_X8_less_28 (N : Nat)  (K28 : Mm → Option (Mm))  (u : Mm) : Option (Mm) :=
  pt (u.1 0 27) (fun x4 => if x4 ≤ 0 then (some u) else (pt (u.1 0 27) (fun x5 => ck (bI (x5 - 1) 80) (pt (u.1 25 (ix (x5 - 1))) (fun x7 => ck (bI (x5 - 1) 80) (pt (u.1 26 (ix (x5 - 1))) (fun x9 => bd (f_X8_fieldsOf N x7 u) (fun x10 u => if x10 ≤ x9 then (pt (u.1 0 27) (fun x11 => pt (sI u 0 27 (x11 - 1)) (fun u => bv (f_X8_turn N x7 0 u) (fun u => ck (bI x7 80) (pt (u.1 9 (ix x7)) (fun x13 => if x13 = 0 then (bv (f_X8_free N x7 u) (fun u => f_X8_less_191 N K28 u)) else (ck (bI x7 80) (pt (sI u 11 (ix x7) (vp_nar .boolean 1)) (fun u => f_X8_less_191 N K28 u))))))))) else (ck (bI (x5 - 1) 80) (pt (u.1 26 (ix (x5 - 1))) (fun x16 => ck (bI (x5 - 1) 80) (pt (u.1 26 (ix (x5 - 1))) (fun x18 => ck (bI (x5 - 1) 80) (pt (sI u 26 (ix (x5 - 1)) (x18 + 1)) (fun u => ck (bI ((6 * x7) + x16) 480) (pt (u.1 12 (ix ((6 * x7) + x16))) (fun x20 => ck (bI ((6 * x7) + x16) 480) (pt (sI u 12 (ix ((6 * x7) + x16)) (-1)) (fun u => if x20 < 0 then (f_X8_less_148 N K28 u) else (bd (f_X8_isLetGo N x20 u) (fun x22 u => if x22 = 0 then (f_X8_less_148 N K28 u) else (pt (u.1 0 27) (fun x24 => ck (bI x24 80) (pt (sI u 25 (ix x24) x20) (fun u => pt (u.1 0 27) (fun x26 => ck (bI x26 80) (pt (sI u 26 (ix x26) 0) (fun u => pt (u.1 0 27) (fun x27 => pt (sI u 0 27 (x27 + 1)) (fun u => f_X8_less_148 N K28 u))))))))))))))))))))))))))))))
def f_X8_less_28 (N : Nat)   : Nat → Mm → Option (Mm)
  | 0 => fun _ => none
  | n + 1 => g_X8_less_28 N   (f_X8_less_28 N   n)
set_option maxHeartbeats 4000000 in
set_option maxRecDepth 100000 in
theorem jg_X8_less_28 {p : Program} {l : Launch} {e : Env} {s : State} {m : MethodId} {args : Array Value} {below : List Frame} {meth : Method} {c : Code} {D : va_G} {cy : Nat → ClassId} {L : List Nat} {ad : Nat → Nat} {A : Nat → Prop} {o : Mm} (N : Nat)   (C0 : Cx p m meth c cX8_less none 6 s args wsX8_less RX8 D cy) (hA : ∀ q : Nat, s.heap.size ≤ q → A q)  (K28 : Mm → Option (Mm)) (hK28 : ∀  (u : Mm) (H : Heap) (locs : List Loc) (ls : Array Slot), vn L 8 0 → Wd D cy L ad A s.heap u H locs → lv_has ls 6 [(0, .ref (ad 0))] → K28  u = some o → W p l e ({ frames := 2, cells := 0, slots := 0, locals := 43 } : Room) s m args below meth c H locs 0 0 (MQ below (QcV D cy L ad A o) args s 0 0 A) (F0 m 28 ls [])) : ∀  (u : Mm) (H : Heap) (locs : List Loc) (ls : Array Slot), vn L 8 0 → Wd D cy L ad A s.heap u H locs → lv_has ls 6 [(0, .ref (ad 0))] → g_X8_less_28 N   K28  u = some o → W p l e ({ frames := 2, cells := 0, slots := 0, locals := 43 } : Room) s m args below meth c H locs 0 0 (MQ below (QcV D cy L ad A o) args s 0 0 A) (F0 m 28 ls []) := by
  obtain ⟨hx, hb, hr, hml, hown, hts, hlocks, hK⟩ := id C0
  intro  u H locs ls hv_t0 hw hl h
  unfold g_X8_less_28 at h
  refine lv_aload_n hx hb dX8_less_28 rfl (lv_at hl 0 rfl) ?_
  refine r_getI hx hb hts n_X8_less_X8 hown hK hw hv_t0 (by decide) rfl 27 (by decide) rfl (hts _ k_X8_less_1) (fun _ q => q) dX8_less_29 h (fun x4 h => ?_)
  refine lv_if_le (tgt := 194) hx hb dX8_less_32 (by decide) (fun hc => ?_) (fun hc => ?_)
  · rw [if_pos hc] at h
    exact r_vret hx hb hr hlocks hK hw h dX8_less_194
  · rw [if_neg hc] at h
    refine lv_aload_n hx hb dX8_less_35 rfl (lv_at hl 0 rfl) ?_
    refine r_getI hx hb hts n_X8_less_X8 hown hK hw hv_t0 (by decide) rfl 27 (by decide) rfl (hts _ k_X8_less_1) (fun _ q => q) dX8_less_36 h (fun x5 h => ?_)
    refine lv_iconst (v := 1) hx hb dX8_less_39 (by decide) ?_
    refine lv_isub hx hb dX8_less_40 ?_
    refine lv_istore_n (lv' := [(2, .int (x5 - 1)), (0, .ref (ad 0))]) hx hb dX8_less_41 rfl hl (by decide) rfl (fun ls hl => ?_)
    refine lv_aload_n hx hb dX8_less_42 rfl (lv_at hl 1 rfl) ?_
    refine r_getC (t2 := 9) (d := 25) hx hb hts n_X8_less_X8 hown hK hw hv_t0 (by decide) rfl 25 (by decide) rfl rfl (hts _ k_X8_less_2) (fun _ q => q) dX8_less_43 (fun hv6 => ?_)
    refine lv_iload_n hx hb dX8_less_46 rfl (lv_at hl 0 rfl) ?_
    refine r_iald (n := 80) hx hb hK hw hv6 rfl dX8_less_47 h (fun x7 h => ?_)
    refine lv_istore_n (lv' := [(3, .int x7), (2, .int (x5 - 1)), (0, .ref (ad 0))]) hx hb dX8_less_48 rfl hl (by decide) rfl (fun ls hl => ?_)
    refine lv_aload_n hx hb dX8_less_49 rfl (lv_at hl 2 rfl) ?_
    refine r_getC (t2 := 9) (d := 26) hx hb hts n_X8_less_X8 hown hK hw hv_t0 (by decide) rfl 26 (by decide) rfl rfl (hts _ k_X8_less_3) (fun _ q => q) dX8_less_50 (fun hv8 => ?_)
    refine lv_iload_n hx hb dX8_less_53 rfl (lv_at hl 1 rfl) ?_
    refine r_iald (n := 80) hx hb hK hw hv8 rfl dX8_less_54 h (fun x9 h => ?_)
    refine lv_aload_n hx hb dX8_less_55 rfl (lv_at hl 2 rfl) ?_
    refine lv_iload_n hx hb dX8_less_56 rfl (lv_at hl 0 rfl) ?_
    refine r_bI (fun o ho => r_vI (As := [.int x7]) (rest := [.int x9]) ⟨hx, hb, hml, hown, hts⟩ (c_X8_fieldsOf l D cy L ad N x7 u o hv_t0 ho) (cwV 1 hts gX8_less_X8_fieldsOf rfl rfl rfl (by decide +kernel) ⟨Nat.le_of_ble_eq_true rfl, Nat.le_of_ble_eq_true rfl⟩) hw hK hv_t0 (by decide) rfl rfl hl.1 rfl (Nat.le_of_ble_eq_true rfl) dX8_less_57 ⟨Nat.zero_le _, Nat.zero_le _⟩) hw hA h (fun x10 u H locs hw h => ?_)
    refine lv_icmp_ge (tgt := 151) hx hb dX8_less_60 (by decide) (fun hc => ?_) (fun hc => ?_)
    · rw [if_pos hc] at h
      refine lv_aload_n hx hb dX8_less_151 rfl (lv_at hl 2 rfl) ?_
      refine lv_dup hx hb dX8_less_152 rfl ?_
      refine r_getI hx hb hts n_X8_less_X8 hown hK hw hv_t0 (by decide) rfl 27 (by decide) rfl (hts _ k_X8_less_1) (fun _ q => q) dX8_less_153 h (fun x11 h => ?_)
      refine lv_iconst (v := 1) hx hb dX8_less_156 (by decide) ?_
      refine lv_isub hx hb dX8_less_157 ?_
      refine r_putI (ty := .int) hx hb hts n_X8_less_X8 tyX8 tyX8_ok nmX8 hown hK hw hv_t0 (by decide) rfl 27 (by decide) rfl (hts _ k_X8_less_1) (fun _ q => q) rfl rfl rfl rfl dX8_less_158 h (fun u H locs hw h => ?_)
      refine lv_aload_n hx hb dX8_less_161 rfl (lv_at hl 2 rfl) ?_
      refine lv_iload_n hx hb dX8_less_162 rfl (lv_at hl 0 rfl) ?_
      refine lv_iconst (v := 0) hx hb dX8_less_163 (by decide) ?_
      refine r_bV (fun o ho => r_vV (As := [.int x7, .int 0]) (rest := []) ⟨hx, hb, hml, hown, hts⟩ (c_X8_turn l D cy L ad N x7 0 u o hv_t0 ho) (cwV 2 hts gX8_less_X8_turn rfl rfl rfl (by decide +kernel) ⟨Nat.le_of_ble_eq_true rfl, Nat.le_of_ble_eq_true rfl⟩) hw hK hv_t0 (by decide) rfl rfl hl.1 rfl (Nat.le_of_ble_eq_true rfl) dX8_less_164 ⟨Nat.zero_le _, Nat.zero_le _⟩) hw hA h (fun u H locs hw h => ?_)
      refine lv_aload_n hx hb dX8_less_167 rfl (lv_at hl 2 rfl) ?_
      refine r_getC (t2 := 10) (d := 9) hx hb hts n_X8_less_X8 hown hK hw hv_t0 (by decide) rfl 9 (by decide) rfl rfl (hts _ k_X8_less_5) (fun _ q => q) dX8_less_168 (fun hv12 => ?_)
      refine lv_iload_n hx hb dX8_less_171 rfl (lv_at hl 0 rfl) ?_
      refine r_zald (n := 80) hx hb hK hw hv12 rfl dX8_less_172 h (fun x13 h => ?_)
      refine lv_if_eq (tgt := 186) hx hb dX8_less_173 (by decide) (fun hc => ?_) (fun hc => ?_)
      · rw [if_pos hc] at h
        refine lv_aload_n hx hb dX8_less_186 rfl (lv_at hl 2 rfl) ?_
        refine lv_iload_n hx hb dX8_less_187 rfl (lv_at hl 0 rfl) ?_
        refine r_bV (fun o ho => r_vV (As := [.int x7]) (rest := []) ⟨hx, hb, hml, hown, hts⟩ (c_X8_free l D cy L ad N x7 u o hv_t0 ho) (cwV 1 hts gX8_less_X8_free rfl rfl rfl (by decide +kernel) ⟨Nat.le_of_ble_eq_true rfl, Nat.le_of_ble_eq_true rfl⟩) hw hK hv_t0 (by decide) rfl rfl hl.1 rfl (Nat.le_of_ble_eq_true rfl) dX8_less_188 ⟨Nat.zero_le _, Nat.zero_le _⟩) hw hA h (fun u H locs hw h => ?_)
        exact j_X8_less_191 N C0 hA K28 hK28 u _ _ _ hv_t0 hw (lv_sub hl [2] rfl) h
      · rw [if_neg hc] at h
        refine lv_aload_n hx hb dX8_less_176 rfl (lv_at hl 2 rfl) ?_
        refine r_getC (t2 := 10) (d := 11) hx hb hts n_X8_less_X8 hown hK hw hv_t0 (by decide) rfl 11 (by decide) rfl rfl (hts _ k_X8_less_6) (fun _ q => q) dX8_less_177 (fun hv14 => ?_)
        refine lv_iload_n hx hb dX8_less_180 rfl (lv_at hl 0 rfl) ?_
        refine lv_iconst (v := 1) hx hb dX8_less_181 (by decide) ?_
        refine r_zast (n := 80) hx hb hK hw hv14 rfl dX8_less_182 h (fun u H locs hw h => ?_)
        refine lv_goto (tgt := 191) hx hb dX8_less_183 (by decide) ?_
        exact j_X8_less_191 N C0 hA K28 hK28 u _ _ _ hv_t0 hw (lv_sub hl [2] rfl) h
    · rw [if_neg hc] at h
      refine lv_bipush (v := 6) hx hb dX8_less_63 (by decide) ?_
      refine lv_iload_n hx hb dX8_less_65 rfl (lv_at hl 0 rfl) ?_
      refine lv_imul hx hb dX8_less_66 ?_
      refine lv_aload_n hx hb dX8_less_67 rfl (lv_at hl 2 rfl) ?_
      refine r_getC (t2 := 9) (d := 26) hx hb hts n_X8_less_X8 hown hK hw hv_t0 (by decide) rfl 26 (by decide) rfl rfl (hts _ k_X8_less_3) (fun _ q => q) dX8_less_68 (fun hv15 => ?_)
      refine lv_iload_n hx hb dX8_less_71 rfl (lv_at hl 1 rfl) ?_
      refine r_iald (n := 80) hx hb hK hw hv15 rfl dX8_less_72 h (fun x16 h => ?_)
      refine lv_iadd hx hb dX8_less_73 ?_
      refine lv_istore (lv' := [(4, .int ((6 * x7) + x16)), (3, .int x7), (2, .int (x5 - 1)), (0, .ref (ad 0))]) hx hb dX8_less_74 hl (by decide) rfl (fun ls hl => ?_)
      refine lv_aload_n hx hb dX8_less_76 rfl (lv_at hl 3 rfl) ?_
      refine r_getC (t2 := 9) (d := 26) hx hb hts n_X8_less_X8 hown hK hw hv_t0 (by decide) rfl 26 (by decide) rfl rfl (hts _ k_X8_less_3) (fun _ q => q) dX8_less_77 (fun hv17 => ?_)
      refine lv_iload_n hx hb dX8_less_80 rfl (lv_at hl 2 rfl) ?_
      refine lv_dup2_11 hx hb dX8_less_81 rfl rfl ?_
      refine r_iald (n := 80) hx hb hK hw hv17 rfl dX8_less_82 h (fun x18 h => ?_)
      refine lv_iconst (v := 1) hx hb dX8_less_83 (by decide) ?_
      refine lv_iadd hx hb dX8_less_84 ?_
      refine r_iast (n := 80) hx hb hK hw hv17 rfl dX8_less_85 h (fun u H locs hw h => ?_)
      refine lv_aload_n hx hb dX8_less_86 rfl (lv_at hl 3 rfl) ?_
      refine r_getC (t2 := 9) (d := 12) hx hb hts n_X8_less_X8 hown hK hw hv_t0 (by decide) rfl 12 (by decide) rfl rfl (hts _ k_X8_less_4) (fun _ q => q) dX8_less_87 (fun hv19 => ?_)
      refine lv_iload hx hb dX8_less_90 (lv_at hl 0 rfl) ?_
      refine r_iald (n := 480) hx hb hK hw hv19 rfl dX8_less_92 h (fun x20 h => ?_)
      refine lv_istore (lv' := [(5, .int x20), (4, .int ((6 * x7) + x16)), (3, .int x7), (2, .int (x5 - 1)), (0, .ref (ad 0))]) hx hb dX8_less_93 hl (by decide) rfl (fun ls hl => ?_)
      refine lv_aload_n hx hb dX8_less_95 rfl (lv_at hl 4 rfl) ?_
      refine r_getC (t2 := 9) (d := 12) hx hb hts n_X8_less_X8 hown hK hw hv_t0 (by decide) rfl 12 (by decide) rfl rfl (hts _ k_X8_less_4) (fun _ q => q) dX8_less_96 (fun hv21 => ?_)
      refine lv_iload hx hb dX8_less_99 (lv_at hl 1 rfl) ?_
      refine lv_iconst (v := (-1)) hx hb dX8_less_101 (by decide) ?_
      refine r_iast (n := 480) hx hb hK hw hv21 rfl dX8_less_102 h (fun u H locs hw h => ?_)
      refine lv_iload hx hb dX8_less_103 (lv_at hl 0 rfl) ?_
      refine lv_if_lt (tgt := 148) hx hb dX8_less_105 (by decide) (fun hc => ?_) (fun hc => ?_)
      · rw [if_pos hc] at h
        exact j_X8_less_148 N C0 hA K28 hK28 u _ _ _ hv_t0 hw (lv_sub hl [4] rfl) h
      · rw [if_neg hc] at h
        refine lv_aload_n hx hb dX8_less_108 rfl (lv_at hl 4 rfl) ?_
        refine lv_iload hx hb dX8_less_109 (lv_at hl 0 rfl) ?_
        refine r_bI (fun o ho => r_vI (As := [.int x20]) (rest := []) ⟨hx, hb, hml, hown, hts⟩ (c_X8_isLetGo l D cy L ad N x20 u o hv_t0 ho) (cwV 1 hts gX8_less_X8_isLetGo rfl rfl rfl (by decide +kernel) ⟨Nat.le_of_ble_eq_true rfl, Nat.le_of_ble_eq_true rfl⟩) hw hK hv_t0 (by decide) rfl rfl hl.1 rfl (Nat.le_of_ble_eq_true rfl) dX8_less_111 ⟨Nat.zero_le _, Nat.zero_le _⟩) hw hA h (fun x22 u H locs hw h => ?_)
        refine lv_if_eq (tgt := 148) hx hb dX8_less_114 (by decide) (fun hc => ?_) (fun hc => ?_)
        · rw [if_pos hc] at h
          exact j_X8_less_148 N C0 hA K28 hK28 u _ _ _ hv_t0 hw (lv_sub hl [4] rfl) h
        · rw [if_neg hc] at h
          refine lv_aload_n hx hb dX8_less_117 rfl (lv_at hl 4 rfl) ?_
          refine r_getC (t2 := 9) (d := 25) hx hb hts n_X8_less_X8 hown hK hw hv_t0 (by decide) rfl 25 (by decide) rfl rfl (hts _ k_X8_less_2) (fun _ q => q) dX8_less_118 (fun hv23 => ?_)
          refine lv_aload_n hx hb dX8_less_121 rfl (lv_at hl 4 rfl) ?_
          refine r_getI hx hb hts n_X8_less_X8 hown hK hw hv_t0 (by decide) rfl 27 (by decide) rfl (hts _ k_X8_less_1) (fun _ q => q) dX8_less_122 h (fun x24 h => ?_)
          refine lv_iload hx hb dX8_less_125 (lv_at hl 0 rfl) ?_
          refine r_iast (n := 80) hx hb hK hw hv23 rfl dX8_less_127 h (fun u H locs hw h => ?_)
          refine lv_aload_n hx hb dX8_less_128 rfl (lv_at hl 4 rfl) ?_
          refine r_getC (t2 := 9) (d := 26) hx hb hts n_X8_less_X8 hown hK hw hv_t0 (by decide) rfl 26 (by decide) rfl rfl (hts _ k_X8_less_3) (fun _ q => q) dX8_less_129 (fun hv25 => ?_)
          refine lv_aload_n hx hb dX8_less_132 rfl (lv_at hl 4 rfl) ?_
          refine r_getI hx hb hts n_X8_less_X8 hown hK hw hv_t0 (by decide) rfl 27 (by decide) rfl (hts _ k_X8_less_1) (fun _ q => q) dX8_less_133 h (fun x26 h => ?_)
          refine lv_iconst (v := 0) hx hb dX8_less_136 (by decide) ?_
          refine r_iast (n := 80) hx hb hK hw hv25 rfl dX8_less_137 h (fun u H locs hw h => ?_)
          refine lv_aload_n hx hb dX8_less_138 rfl (lv_at hl 4 rfl) ?_
          refine lv_dup hx hb dX8_less_139 rfl ?_
          refine r_getI hx hb hts n_X8_less_X8 hown hK hw hv_t0 (by decide) rfl 27 (by decide) rfl (hts _ k_X8_less_1) (fun _ q => q) dX8_less_140 h (fun x27 h => ?_)
          refine lv_iconst (v := 1) hx hb dX8_less_143 (by decide) ?_
          refine lv_iadd hx hb dX8_less_144 ?_
          refine r_putI (ty := .int) hx hb hts n_X8_less_X8 tyX8 tyX8_ok nmX8 hown hK hw hv_t0 (by decide) rfl 27 (by decide) rfl (hts _ k_X8_less_1) (fun _ q => q) rfl rfl rfl rfl dX8_less_145 h (fun u H locs hw h => ?_)
          exact j_X8_less_148 N C0 hA K28 hK28 u _ _ _ hv_t0 hw (lv_sub hl [4] rfl) h
set_option maxHeartbeats 4000000 in
set_option maxRecDepth 100000 in
theorem j_X8_less_28 {p : Program} {l : Launch} {e : Env} {s : State} {m : MethodId} {args : Array Value} {below : List Frame} {meth : Method} {c : Code} {D : va_G} {cy : Nat → ClassId} {L : List Nat} {ad : Nat → Nat} {A : Nat → Prop} {o : Mm} (N : Nat)   (C0 : Cx p m meth c cX8_less none 6 s args wsX8_less RX8 D cy) (hA : ∀ q : Nat, s.heap.size ≤ q → A q)  : ∀ (n : Nat), ∀  (u : Mm) (H : Heap) (locs : List Loc) (ls : Array Slot), vn L 8 0 → Wd D cy L ad A s.heap u H locs → lv_has ls 6 [(0, .ref (ad 0))] → f_X8_less_28 N   n  u = some o → W p l e ({ frames := 2, cells := 0, slots := 0, locals := 43 } : Room) s m args below meth c H locs 0 0 (MQ below (QcV D cy L ad A o) args s 0 0 A) (F0 m 28 ls []) := by
  intro n
  induction n with
  | zero =>
    intro  u H locs ls hv_t0 hw hl h
    cases h
  | succ n ih => exact jg_X8_less_28 N   C0 hA  _ ih
def f_X8_less (N : Nat) (p0 : Int32) (u : Mm) : Option (Mm) :=
  bd (f_X8_isLetGo N p0 u) (fun x1 u => if x1 = 0 then (some u) else (pt (sI u 0 27 1) (fun u => ck (bI 0 80) (pt (sI u 25 (ix 0) p0) (fun u => ck (bI 0 80) (pt (sI u 26 (ix 0) 0) (fun u => f_X8_less_28 N N u)))))))
set_option maxHeartbeats 4000000 in
set_option maxRecDepth 100000 in
theorem c_X8_less (l : Launch) (D : va_G) (cy : Nat → ClassId) (L : List Nat) (ad : Nat → Nat) (N : Nat) (p0 : Int32) (u : Mm) (o : Mm) (h_this : vn L 8 0) (h : f_X8_less N p0 u = some o) : MtV l yX8_less wsX8_less ({ frames := 2, cells := 0, slots := 0, locals := 43 } : Room) D cy L ad [.ref (ad 0), .int p0] u o := by
  intro sz
  refine Met.ofW (cc := cX8_less) (maxL := 6) (ret := none) (by decide) rfl ?_
  intro p e s m args below meth c s₁ B hml hv
  obtain ⟨rfl, hsz, hP, hK, hD0, hok⟩ := hv
  have hx := B.exec
  have hb := B.bytes
  have hr := B.returns
  have hts := atoms_spec (ws := wsX8_less) B.pre
  have hown : s.vm.findClass RX8 = some m.cls := findClass_of_methodNamed B.named
  have hlocks := B.notSynchronized
  subst hsz
  have hw := wd_start hP hD0 hok
  have hA : ∀ q : Nat, s.heap.size ≤ q → va_A (wl cy L ad u) s.heap.size q := fun q h => Or.inr h
  generalize va_A (wl cy L ad u) s.heap.size = A at hw hA ⊢
  have C0 : Cx p m meth c cX8_less none 6 s _ wsX8_less RX8 D cy := ⟨hx, hb, hr, hml, hown, hts, hlocks, hK⟩
  have hl := lv_entry ([.ref (ad 0), .int p0]) (n := 6) (Nat.le_of_ble_eq_true rfl)
  rw [lg_entry_eq]
  generalize (lg_sl ([.ref (ad 0), .int p0]) ++ List.replicate (6 - (lg_sl ([.ref (ad 0), .int p0])).length) Slot.unset).toArray = ls at hl ⊢
  have hl : lv_has ls 6 [(0, .ref (ad 0)), (1, .int p0)] := hl
  unfold f_X8_less at h
  refine lv_aload_n hx hb dX8_less_0 rfl (lv_at hl 0 rfl) ?_
  refine lv_iload_n hx hb dX8_less_1 rfl (lv_at hl 1 rfl) ?_
  refine r_bI (fun o ho => r_vI (As := [.int p0]) (rest := []) ⟨hx, hb, hml, hown, hts⟩ (c_X8_isLetGo l D cy L ad N p0 u o h_this ho) (cwV 1 hts gX8_less_X8_isLetGo rfl rfl rfl (by decide +kernel) ⟨Nat.le_of_ble_eq_true rfl, Nat.le_of_ble_eq_true rfl⟩) hw hK h_this (by decide) rfl rfl hl.1 rfl (Nat.le_of_ble_eq_true rfl) dX8_less_2 ⟨Nat.zero_le _, Nat.zero_le _⟩) hw hA h (fun x1 u H locs hw h => ?_)
  refine lv_if_ne (tgt := 9) hx hb dX8_less_5 (by decide) (fun hc => ?_) (fun hc => ?_)
  · rw [if_neg hc] at h
    refine lv_aload_n hx hb dX8_less_9 rfl (lv_at hl 0 rfl) ?_
    refine lv_iconst (v := 1) hx hb dX8_less_10 (by decide) ?_
    refine r_putI (ty := .int) hx hb hts n_X8_less_X8 tyX8 tyX8_ok nmX8 hown hK hw h_this (by decide) rfl 27 (by decide) rfl (hts _ k_X8_less_1) (fun _ q => q) rfl rfl rfl rfl dX8_less_11 h (fun u H locs hw h => ?_)
    refine lv_aload_n hx hb dX8_less_14 rfl (lv_at hl 0 rfl) ?_
    refine r_getC (t2 := 9) (d := 25) hx hb hts n_X8_less_X8 hown hK hw h_this (by decide) rfl 25 (by decide) rfl rfl (hts _ k_X8_less_2) (fun _ q => q) dX8_less_15 (fun hv2 => ?_)
    refine lv_iconst (v := 0) hx hb dX8_less_18 (by decide) ?_
    refine lv_iload_n hx hb dX8_less_19 rfl (lv_at hl 1 rfl) ?_
    refine r_iast (n := 80) hx hb hK hw hv2 rfl dX8_less_20 h (fun u H locs hw h => ?_)
    refine lv_aload_n hx hb dX8_less_21 rfl (lv_at hl 0 rfl) ?_
    refine r_getC (t2 := 9) (d := 26) hx hb hts n_X8_less_X8 hown hK hw h_this (by decide) rfl 26 (by decide) rfl rfl (hts _ k_X8_less_3) (fun _ q => q) dX8_less_22 (fun hv3 => ?_)
    refine lv_iconst (v := 0) hx hb dX8_less_25 (by decide) ?_
    refine lv_iconst (v := 0) hx hb dX8_less_26 (by decide) ?_
    refine r_iast (n := 80) hx hb hK hw hv3 rfl dX8_less_27 h (fun u H locs hw h => ?_)
    exact j_X8_less_28 N C0 hA N u _ _ _ h_this hw (lv_sub hl [0] rfl) h
  · rw [if_pos hc] at h
    exact r_vret hx hb hr hlocks hK hw h dX8_less_8
theorem k_X8_more_1 : Cond.fieldLink RX8 27 "RingHeapModel" "counts" "[I" ∈ wsX8_more := List.mem_of_getElem? (i := 1) (by rfl)
theorem n_X8_more_X8 : ∀ w ∈ u_ws RX8 TX8 31, w ∈ wsX8_more := fun _ h => List.mem_cons_of_mem _ (List.mem_append_right _ h)
def f_X8_more (N : Nat) (p0 : Int32) (u : Mm) : Option (Mm) :=
  ck (bI p0 80) (pt (u.1 5 (ix p0)) (fun x2 => ck (bI p0 80) (pt (sI u 5 (ix p0) (x2 + 1)) (fun u => bv (f_X8_turn N p0 0 u) (fun u => some u)))))
set_option maxHeartbeats 4000000 in
set_option maxRecDepth 100000 in
theorem c_X8_more (l : Launch) (D : va_G) (cy : Nat → ClassId) (L : List Nat) (ad : Nat → Nat) (N : Nat) (p0 : Int32) (u : Mm) (o : Mm) (h_this : vn L 8 0) (h : f_X8_more N p0 u = some o) : MtV l yX8_more wsX8_more ({ frames := 1, cells := 0, slots := 0, locals := 22 } : Room) D cy L ad [.ref (ad 0), .int p0] u o := by
  intro sz
  refine Met.ofW (cc := cX8_more) (maxL := 2) (ret := none) (by decide) rfl ?_
  intro p e s m args below meth c s₁ B hml hv
  obtain ⟨rfl, hsz, hP, hK, hD0, hok⟩ := hv
  have hx := B.exec
  have hb := B.bytes
  have hr := B.returns
  have hts := atoms_spec (ws := wsX8_more) B.pre
  have hown : s.vm.findClass RX8 = some m.cls := findClass_of_methodNamed B.named
  have hlocks := B.notSynchronized
  subst hsz
  have hw := wd_start hP hD0 hok
  have hA : ∀ q : Nat, s.heap.size ≤ q → va_A (wl cy L ad u) s.heap.size q := fun q h => Or.inr h
  generalize va_A (wl cy L ad u) s.heap.size = A at hw hA ⊢
  have C0 : Cx p m meth c cX8_more none 2 s _ wsX8_more RX8 D cy := ⟨hx, hb, hr, hml, hown, hts, hlocks, hK⟩
  have hl := lv_entry ([.ref (ad 0), .int p0]) (n := 2) (Nat.le_of_ble_eq_true rfl)
  rw [lg_entry_eq]
  generalize (lg_sl ([.ref (ad 0), .int p0]) ++ List.replicate (2 - (lg_sl ([.ref (ad 0), .int p0])).length) Slot.unset).toArray = ls at hl ⊢
  have hl : lv_has ls 2 [(0, .ref (ad 0)), (1, .int p0)] := hl
  unfold f_X8_more at h
  refine lv_aload_n hx hb dX8_more_0 rfl (lv_at hl 0 rfl) ?_
  refine r_getC (t2 := 9) (d := 5) hx hb hts n_X8_more_X8 hown hK hw h_this (by decide) rfl 5 (by decide) rfl rfl (hts _ k_X8_more_1) (fun _ q => q) dX8_more_1 (fun hv1 => ?_)
  refine lv_iload_n hx hb dX8_more_4 rfl (lv_at hl 1 rfl) ?_
  refine lv_dup2_11 hx hb dX8_more_5 rfl rfl ?_
  refine r_iald (n := 80) hx hb hK hw hv1 rfl dX8_more_6 h (fun x2 h => ?_)
  refine lv_iconst (v := 1) hx hb dX8_more_7 (by decide) ?_
  refine lv_iadd hx hb dX8_more_8 ?_
  refine r_iast (n := 80) hx hb hK hw hv1 rfl dX8_more_9 h (fun u H locs hw h => ?_)
  refine lv_aload_n hx hb dX8_more_10 rfl (lv_at hl 0 rfl) ?_
  refine lv_iload_n hx hb dX8_more_11 rfl (lv_at hl 1 rfl) ?_
  refine lv_iconst (v := 0) hx hb dX8_more_12 (by decide) ?_
  refine r_bV (fun o ho => r_vV (As := [.int p0, .int 0]) (rest := []) ⟨hx, hb, hml, hown, hts⟩ (c_X8_turn l D cy L ad N p0 0 u o h_this ho) (cwV 2 hts gX8_more_X8_turn rfl rfl rfl (by decide +kernel) ⟨Nat.le_of_ble_eq_true rfl, Nat.le_of_ble_eq_true rfl⟩) hw hK h_this (by decide) rfl rfl hl.1 rfl (Nat.le_of_ble_eq_true rfl) dX8_more_13 ⟨Nat.zero_le _, Nat.zero_le _⟩) hw hA h (fun u H locs hw h => ?_)
  exact r_vret hx hb hr hlocks hK hw h dX8_more_16
theorem k_X8_grayOne_1 : Cond.fieldLink RX8 30 "RingHeapModel" "colours" "[I" ∈ wsX8_grayOne := List.mem_of_getElem? (i := 1) (by rfl)
theorem n_X8_grayOne_X8 : ∀ w ∈ u_ws RX8 TX8 31, w ∈ wsX8_grayOne := fun _ h => List.mem_cons_of_mem _ (List.mem_append_right _ h)
theorem k_X8_grayOne_2 : Cond.fieldLink RX8 118 "RingHeapModel" "grayed" "I" ∈ wsX8_grayOne := List.mem_of_getElem? (i := 2) (by rfl)
theorem k_X8_grayOne_3 : Cond.fieldLink RX8 66 "RingHeapModel" "work" "[I" ∈ wsX8_grayOne := List.mem_of_getElem? (i := 3) (by rfl)
theorem k_X8_grayOne_4 : Cond.fieldLink RX8 105 "RingHeapModel" "workCount" "I" ∈ wsX8_grayOne := List.mem_of_getElem? (i := 4) (by rfl)
def f_X8_grayOne (N : Nat) (p0 : Int32) (u : Mm) : Option (Mm) :=
  ck (bI p0 80) (pt (u.1 6 (ix p0)) (fun x2 => if x2 = 1 then (some u) else (ck (bI p0 80) (pt (u.1 6 (ix p0)) (fun x4 => if x4 = 4 then (some u) else (ck (bI p0 80) (pt (sI u 6 (ix p0) 1) (fun u => pt (u.1 0 23) (fun x6 => pt (sI u 0 23 (x6 + 1)) (fun u => pt (u.1 0 27) (fun x8 => ck (bI x8 80) (pt (sI u 25 (ix x8) p0) (fun u => pt (u.1 0 27) (fun x9 => pt (sI u 0 27 (x9 + 1)) (fun u => some u)))))))))))))))
set_option maxHeartbeats 4000000 in
set_option maxRecDepth 100000 in
theorem c_X8_grayOne (l : Launch) (D : va_G) (cy : Nat → ClassId) (L : List Nat) (ad : Nat → Nat) (N : Nat) (p0 : Int32) (u : Mm) (o : Mm) (h_this : vn L 8 0) (h : f_X8_grayOne N p0 u = some o) : MtV l yX8_grayOne wsX8_grayOne ({ frames := 0, cells := 0, slots := 0, locals := 0 } : Room) D cy L ad [.ref (ad 0), .int p0] u o := by
  intro sz
  refine Met.ofW (cc := cX8_grayOne) (maxL := 2) (ret := none) (by decide) rfl ?_
  intro p e s m args below meth c s₁ B hml hv
  obtain ⟨rfl, hsz, hP, hK, hD0, hok⟩ := hv
  have hx := B.exec
  have hb := B.bytes
  have hr := B.returns
  have hts := atoms_spec (ws := wsX8_grayOne) B.pre
  have hown : s.vm.findClass RX8 = some m.cls := findClass_of_methodNamed B.named
  have hlocks := B.notSynchronized
  subst hsz
  have hw := wd_start hP hD0 hok
  have hA : ∀ q : Nat, s.heap.size ≤ q → va_A (wl cy L ad u) s.heap.size q := fun q h => Or.inr h
  generalize va_A (wl cy L ad u) s.heap.size = A at hw hA ⊢
  have C0 : Cx p m meth c cX8_grayOne none 2 s _ wsX8_grayOne RX8 D cy := ⟨hx, hb, hr, hml, hown, hts, hlocks, hK⟩
  have hl := lv_entry ([.ref (ad 0), .int p0]) (n := 2) (Nat.le_of_ble_eq_true rfl)
  rw [lg_entry_eq]
  generalize (lg_sl ([.ref (ad 0), .int p0]) ++ List.replicate (2 - (lg_sl ([.ref (ad 0), .int p0])).length) Slot.unset).toArray = ls at hl ⊢
  have hl : lv_has ls 2 [(0, .ref (ad 0)), (1, .int p0)] := hl
  unfold f_X8_grayOne at h
  refine lv_aload_n hx hb dX8_grayOne_0 rfl (lv_at hl 0 rfl) ?_
  refine r_getC (t2 := 9) (d := 6) hx hb hts n_X8_grayOne_X8 hown hK hw h_this (by decide) rfl 6 (by decide) rfl rfl (hts _ k_X8_grayOne_1) (fun _ q => q) dX8_grayOne_1 (fun hv1 => ?_)
  refine lv_iload_n hx hb dX8_grayOne_4 rfl (lv_at hl 1 rfl) ?_
  refine r_iald (n := 80) hx hb hK hw hv1 rfl dX8_grayOne_5 h (fun x2 h => ?_)
  refine lv_iconst (v := 1) hx hb dX8_grayOne_6 (by decide) ?_
  refine lv_icmp_eq (tgt := 57) hx hb dX8_grayOne_7 (by decide) (fun hc => ?_) (fun hc => ?_)
  · rw [if_pos hc] at h
    exact r_vret hx hb hr hlocks hK hw h dX8_grayOne_57
  · rw [if_neg hc] at h
    refine lv_aload_n hx hb dX8_grayOne_10 rfl (lv_at hl 0 rfl) ?_
    refine r_getC (t2 := 9) (d := 6) hx hb hts n_X8_grayOne_X8 hown hK hw h_this (by decide) rfl 6 (by decide) rfl rfl (hts _ k_X8_grayOne_1) (fun _ q => q) dX8_grayOne_11 (fun hv3 => ?_)
    refine lv_iload_n hx hb dX8_grayOne_14 rfl (lv_at hl 1 rfl) ?_
    refine r_iald (n := 80) hx hb hK hw hv3 rfl dX8_grayOne_15 h (fun x4 h => ?_)
    refine lv_iconst (v := 4) hx hb dX8_grayOne_16 (by decide) ?_
    refine lv_icmp_eq (tgt := 57) hx hb dX8_grayOne_17 (by decide) (fun hc => ?_) (fun hc => ?_)
    · rw [if_pos hc] at h
      exact r_vret hx hb hr hlocks hK hw h dX8_grayOne_57
    · rw [if_neg hc] at h
      refine lv_aload_n hx hb dX8_grayOne_20 rfl (lv_at hl 0 rfl) ?_
      refine r_getC (t2 := 9) (d := 6) hx hb hts n_X8_grayOne_X8 hown hK hw h_this (by decide) rfl 6 (by decide) rfl rfl (hts _ k_X8_grayOne_1) (fun _ q => q) dX8_grayOne_21 (fun hv5 => ?_)
      refine lv_iload_n hx hb dX8_grayOne_24 rfl (lv_at hl 1 rfl) ?_
      refine lv_iconst (v := 1) hx hb dX8_grayOne_25 (by decide) ?_
      refine r_iast (n := 80) hx hb hK hw hv5 rfl dX8_grayOne_26 h (fun u H locs hw h => ?_)
      refine lv_aload_n hx hb dX8_grayOne_27 rfl (lv_at hl 0 rfl) ?_
      refine lv_dup hx hb dX8_grayOne_28 rfl ?_
      refine r_getI hx hb hts n_X8_grayOne_X8 hown hK hw h_this (by decide) rfl 23 (by decide) rfl (hts _ k_X8_grayOne_2) (fun _ q => q) dX8_grayOne_29 h (fun x6 h => ?_)
      refine lv_iconst (v := 1) hx hb dX8_grayOne_32 (by decide) ?_
      refine lv_iadd hx hb dX8_grayOne_33 ?_
      refine r_putI (ty := .int) hx hb hts n_X8_grayOne_X8 tyX8 tyX8_ok nmX8 hown hK hw h_this (by decide) rfl 23 (by decide) rfl (hts _ k_X8_grayOne_2) (fun _ q => q) rfl rfl rfl rfl dX8_grayOne_34 h (fun u H locs hw h => ?_)
      refine lv_aload_n hx hb dX8_grayOne_37 rfl (lv_at hl 0 rfl) ?_
      refine r_getC (t2 := 9) (d := 25) hx hb hts n_X8_grayOne_X8 hown hK hw h_this (by decide) rfl 25 (by decide) rfl rfl (hts _ k_X8_grayOne_3) (fun _ q => q) dX8_grayOne_38 (fun hv7 => ?_)
      refine lv_aload_n hx hb dX8_grayOne_41 rfl (lv_at hl 0 rfl) ?_
      refine r_getI hx hb hts n_X8_grayOne_X8 hown hK hw h_this (by decide) rfl 27 (by decide) rfl (hts _ k_X8_grayOne_4) (fun _ q => q) dX8_grayOne_42 h (fun x8 h => ?_)
      refine lv_iload_n hx hb dX8_grayOne_45 rfl (lv_at hl 1 rfl) ?_
      refine r_iast (n := 80) hx hb hK hw hv7 rfl dX8_grayOne_46 h (fun u H locs hw h => ?_)
      refine lv_aload_n hx hb dX8_grayOne_47 rfl (lv_at hl 0 rfl) ?_
      refine lv_dup hx hb dX8_grayOne_48 rfl ?_
      refine r_getI hx hb hts n_X8_grayOne_X8 hown hK hw h_this (by decide) rfl 27 (by decide) rfl (hts _ k_X8_grayOne_4) (fun _ q => q) dX8_grayOne_49 h (fun x9 h => ?_)
      refine lv_iconst (v := 1) hx hb dX8_grayOne_52 (by decide) ?_
      refine lv_iadd hx hb dX8_grayOne_53 ?_
      refine r_putI (ty := .int) hx hb hts n_X8_grayOne_X8 tyX8 tyX8_ok nmX8 hown hK hw h_this (by decide) rfl 27 (by decide) rfl (hts _ k_X8_grayOne_4) (fun _ q => q) rfl rfl rfl rfl dX8_grayOne_54 h (fun u H locs hw h => ?_)
      exact r_vret hx hb hr hlocks hK hw h dX8_grayOne_57
theorem k_X8_gray_1 : Cond.fieldLink RX8 105 "RingHeapModel" "workCount" "I" ∈ wsX8_gray := List.mem_of_getElem? (i := 1) (by rfl)
theorem n_X8_gray_X8 : ∀ w ∈ u_ws RX8 TX8 31, w ∈ wsX8_gray := fun _ h => List.mem_cons_of_mem _ (List.mem_append_right _ h)
theorem k_X8_gray_2 : Cond.fieldLink RX8 66 "RingHeapModel" "work" "[I" ∈ wsX8_gray := List.mem_of_getElem? (i := 2) (by rfl)
theorem k_X8_gray_3 : Cond.fieldLink RX8 48 "RingHeapModel" "fields" "[I" ∈ wsX8_gray := List.mem_of_getElem? (i := 3) (by rfl)
theorem k_X8_gray_4 : Cond.fieldLink RX8 30 "RingHeapModel" "colours" "[I" ∈ wsX8_gray := List.mem_of_getElem? (i := 4) (by rfl)
theorem k_X8_gray_5 : Cond.fieldLink RX8 27 "RingHeapModel" "counts" "[I" ∈ wsX8_gray := List.mem_of_getElem? (i := 5) (by rfl)
def f_X8_gray_94 (N : Nat)  (K10 : Mm → Option (Mm)) (K39 : Int32 → Int32 → Mm → Option (Mm)) (v2 : Int32) (v3 : Int32) (u : Mm) : Option (Mm) :=
  K39 v2 (v3 + 1) u
set_option maxHeartbeats 4000000 in
set_option maxRecDepth 100000 in
theorem j_X8_gray_94 {p : Program} {l : Launch} {e : Env} {s : State} {m : MethodId} {args : Array Value} {below : List Frame} {meth : Method} {c : Code} {D : va_G} {cy : Nat → ClassId} {L : List Nat} {ad : Nat → Nat} {A : Nat → Prop} {o : Mm} (N : Nat)   (C0 : Cx p m meth c cX8_gray none 5 s args wsX8_gray RX8 D cy) (hA : ∀ q : Nat, s.heap.size ≤ q → A q) (K10 : Mm → Option (Mm)) (hK10 : ∀  (u : Mm) (H : Heap) (locs : List Loc) (ls : Array Slot), vn L 8 0 → Wd D cy L ad A s.heap u H locs → lv_has ls 5 [(0, .ref (ad 0))] → K10  u = some o → W p l e ({ frames := 1, cells := 0, slots := 0, locals := 21 } : Room) s m args below meth c H locs 0 0 (MQ below (QcV D cy L ad A o) args s 0 0 A) (F0 m 10 ls [])) (K39 : Int32 → Int32 → Mm → Option (Mm)) (hK39 : ∀ (v2 : Int32) (v3 : Int32) (u : Mm) (H : Heap) (locs : List Loc) (ls : Array Slot), vn L 8 0 → Wd D cy L ad A s.heap u H locs → lv_has ls 5 [(0, .ref (ad 0)), (2, .int v2), (3, .int v3)] → K39 v2 v3 u = some o → W p l e ({ frames := 1, cells := 0, slots := 0, locals := 21 } : Room) s m args below meth c H locs 0 0 (MQ below (QcV D cy L ad A o) args s 0 0 A) (F0 m 39 ls [])) : ∀ (v2 : Int32) (v3 : Int32) (u : Mm) (H : Heap) (locs : List Loc) (ls : Array Slot), vn L 8 0 → Wd D cy L ad A s.heap u H locs → lv_has ls 5 [(0, .ref (ad 0)), (2, .int v2), (3, .int v3)] → f_X8_gray_94 N  K10 K39 v2 v3 u = some o → W p l e ({ frames := 1, cells := 0, slots := 0, locals := 21 } : Room) s m args below meth c H locs 0 0 (MQ below (QcV D cy L ad A o) args s 0 0 A) (F0 m 94 ls []) := by
  obtain ⟨hx, hb, hr, hml, hown, hts, hlocks, hK⟩ := id C0
  intro v2 v3 u H locs ls hv_t0 hw hl h
  unfold f_X8_gray_94 at h
  refine lv_iinc (v := v3 + 1) (lv' := [(3, .int (v3 + 1)), (0, .ref (ad 0)), (2, .int v2)]) hx hb dX8_gray_94 hl (k := 2) rfl rfl (by decide) rfl (fun ls hl => ?_)
  refine lv_goto (tgt := 39) hx hb dX8_gray_97 (by decide) ?_
  exact hK39 v2 (v3 + 1) u _ _ _ hv_t0 hw (lv_sub hl [1, 2, 0] rfl) h
def g_X8_gray_39 (N : Nat)  (K10 : Mm → Option (Mm)) (K39 : Int32 → Int32 → Mm → Option (Mm)) (v2 : Int32) (v3 : Int32) (u : Mm) : Option (Mm) :=
  bd (f_X8_fieldsOf N v2 u) (fun x6 u => if x6 ≤ v3 then (K10 u) else (ck (bI ((6 * v2) + v3) 480) (pt (u.1 12 (ix ((6 * v2) + v3))) (fun x8 => if x8 < 0 then (f_X8_gray_94 N K10 K39 v2 v3 u) else (ck (bI x8 80) (pt (u.1 6 (ix x8)) (fun x10 => if x10 = 4 then (f_X8_gray_94 N K10 K39 v2 v3 u) else (ck (bI x8 80) (pt (u.1 5 (ix x8)) (fun x12 => ck (bI x8 80) (pt (sI u 5 (ix x8) (x12 - 1)) (fun u => bv (f_X8_grayOne N x8 u) (fun u => f_X8_gray_94 N K10 K39 v2 v3 u)))))))))))))
def f_X8_gray_39 (N : Nat)  (K10 : Mm → Option (Mm)) : Nat → Int32 → Int32 → Mm → Option (Mm)
  | 0 => fun _ _ _ => none
  | n + 1 => g_X8_gray_39 N  K10 (f_X8_gray_39 N  K10 n)
set_option maxHeartbeats 4000000 in
set_option maxRecDepth 100000 in
theorem jg_X8_gray_39 {p : Program} {l : Launch} {e : Env} {s : State} {m : MethodId} {args : Array Value} {below : List Frame} {meth : Method} {c : Code} {D : va_G} {cy : Nat → ClassId} {L : List Nat} {ad : Nat → Nat} {A : Nat → Prop} {o : Mm} (N : Nat)   (C0 : Cx p m meth c cX8_gray none 5 s args wsX8_gray RX8 D cy) (hA : ∀ q : Nat, s.heap.size ≤ q → A q) (K10 : Mm → Option (Mm)) (hK10 : ∀  (u : Mm) (H : Heap) (locs : List Loc) (ls : Array Slot), vn L 8 0 → Wd D cy L ad A s.heap u H locs → lv_has ls 5 [(0, .ref (ad 0))] → K10  u = some o → W p l e ({ frames := 1, cells := 0, slots := 0, locals := 21 } : Room) s m args below meth c H locs 0 0 (MQ below (QcV D cy L ad A o) args s 0 0 A) (F0 m 10 ls [])) (K39 : Int32 → Int32 → Mm → Option (Mm)) (hK39 : ∀ (v2 : Int32) (v3 : Int32) (u : Mm) (H : Heap) (locs : List Loc) (ls : Array Slot), vn L 8 0 → Wd D cy L ad A s.heap u H locs → lv_has ls 5 [(0, .ref (ad 0)), (2, .int v2), (3, .int v3)] → K39 v2 v3 u = some o → W p l e ({ frames := 1, cells := 0, slots := 0, locals := 21 } : Room) s m args below meth c H locs 0 0 (MQ below (QcV D cy L ad A o) args s 0 0 A) (F0 m 39 ls [])) : ∀ (v2 : Int32) (v3 : Int32) (u : Mm) (H : Heap) (locs : List Loc) (ls : Array Slot), vn L 8 0 → Wd D cy L ad A s.heap u H locs → lv_has ls 5 [(0, .ref (ad 0)), (2, .int v2), (3, .int v3)] → g_X8_gray_39 N  K10 K39 v2 v3 u = some o → W p l e ({ frames := 1, cells := 0, slots := 0, locals := 21 } : Room) s m args below meth c H locs 0 0 (MQ below (QcV D cy L ad A o) args s 0 0 A) (F0 m 39 ls []) := by
  obtain ⟨hx, hb, hr, hml, hown, hts, hlocks, hK⟩ := id C0
  intro v2 v3 u H locs ls hv_t0 hw hl h
  unfold g_X8_gray_39 at h
  refine lv_iload_n hx hb dX8_gray_39 rfl (lv_at hl 2 rfl) ?_
  refine lv_aload_n hx hb dX8_gray_40 rfl (lv_at hl 0 rfl) ?_
  refine lv_iload_n hx hb dX8_gray_41 rfl (lv_at hl 1 rfl) ?_
  refine r_bI (fun o ho => r_vI (As := [.int v2]) (rest := [.int v3]) ⟨hx, hb, hml, hown, hts⟩ (c_X8_fieldsOf l D cy L ad N v2 u o hv_t0 ho) (cwV 1 hts gX8_gray_X8_fieldsOf rfl rfl rfl (by decide +kernel) ⟨Nat.le_of_ble_eq_true rfl, Nat.le_of_ble_eq_true rfl⟩) hw hK hv_t0 (by decide) rfl rfl hl.1 rfl (Nat.le_of_ble_eq_true rfl) dX8_gray_42 ⟨Nat.zero_le _, Nat.zero_le _⟩) hw hA h (fun x6 u H locs hw h => ?_)
  refine lv_icmp_ge (tgt := 100) hx hb dX8_gray_45 (by decide) (fun hc => ?_) (fun hc => ?_)
  · rw [if_pos hc] at h
    refine lv_goto (tgt := 10) hx hb dX8_gray_100 (by decide) ?_
    exact hK10 u _ _ _ hv_t0 hw (lv_sub hl [0] rfl) h
  · rw [if_neg hc] at h
    refine lv_aload_n hx hb dX8_gray_48 rfl (lv_at hl 0 rfl) ?_
    refine r_getC (t2 := 9) (d := 12) hx hb hts n_X8_gray_X8 hown hK hw hv_t0 (by decide) rfl 12 (by decide) rfl rfl (hts _ k_X8_gray_3) (fun _ q => q) dX8_gray_49 (fun hv7 => ?_)
    refine lv_bipush (v := 6) hx hb dX8_gray_52 (by decide) ?_
    refine lv_iload_n hx hb dX8_gray_54 rfl (lv_at hl 1 rfl) ?_
    refine lv_imul hx hb dX8_gray_55 ?_
    refine lv_iload_n hx hb dX8_gray_56 rfl (lv_at hl 2 rfl) ?_
    refine lv_iadd hx hb dX8_gray_57 ?_
    refine r_iald (n := 480) hx hb hK hw hv7 rfl dX8_gray_58 h (fun x8 h => ?_)
    refine lv_istore (lv' := [(4, .int x8), (0, .ref (ad 0)), (2, .int v2), (3, .int v3)]) hx hb dX8_gray_59 hl (by decide) rfl (fun ls hl => ?_)
    refine lv_iload hx hb dX8_gray_61 (lv_at hl 0 rfl) ?_
    refine lv_if_lt (tgt := 94) hx hb dX8_gray_63 (by decide) (fun hc => ?_) (fun hc => ?_)
    · rw [if_pos hc] at h
      exact j_X8_gray_94 N C0 hA K10 hK10 K39 hK39 v2 v3 u _ _ _ hv_t0 hw (lv_sub hl [1, 2, 3] rfl) h
    · rw [if_neg hc] at h
      refine lv_aload_n hx hb dX8_gray_66 rfl (lv_at hl 1 rfl) ?_
      refine r_getC (t2 := 9) (d := 6) hx hb hts n_X8_gray_X8 hown hK hw hv_t0 (by decide) rfl 6 (by decide) rfl rfl (hts _ k_X8_gray_4) (fun _ q => q) dX8_gray_67 (fun hv9 => ?_)
      refine lv_iload hx hb dX8_gray_70 (lv_at hl 0 rfl) ?_
      refine r_iald (n := 80) hx hb hK hw hv9 rfl dX8_gray_72 h (fun x10 h => ?_)
      refine lv_iconst (v := 4) hx hb dX8_gray_73 (by decide) ?_
      refine lv_icmp_eq (tgt := 94) hx hb dX8_gray_74 (by decide) (fun hc => ?_) (fun hc => ?_)
      · rw [if_pos hc] at h
        exact j_X8_gray_94 N C0 hA K10 hK10 K39 hK39 v2 v3 u _ _ _ hv_t0 hw (lv_sub hl [1, 2, 3] rfl) h
      · rw [if_neg hc] at h
        refine lv_aload_n hx hb dX8_gray_77 rfl (lv_at hl 1 rfl) ?_
        refine r_getC (t2 := 9) (d := 5) hx hb hts n_X8_gray_X8 hown hK hw hv_t0 (by decide) rfl 5 (by decide) rfl rfl (hts _ k_X8_gray_5) (fun _ q => q) dX8_gray_78 (fun hv11 => ?_)
        refine lv_iload hx hb dX8_gray_81 (lv_at hl 0 rfl) ?_
        refine lv_dup2_11 hx hb dX8_gray_83 rfl rfl ?_
        refine r_iald (n := 80) hx hb hK hw hv11 rfl dX8_gray_84 h (fun x12 h => ?_)
        refine lv_iconst (v := 1) hx hb dX8_gray_85 (by decide) ?_
        refine lv_isub hx hb dX8_gray_86 ?_
        refine r_iast (n := 80) hx hb hK hw hv11 rfl dX8_gray_87 h (fun u H locs hw h => ?_)
        refine lv_aload_n hx hb dX8_gray_88 rfl (lv_at hl 1 rfl) ?_
        refine lv_iload hx hb dX8_gray_89 (lv_at hl 0 rfl) ?_
        refine r_bV (fun o ho => r_vV (As := [.int x8]) (rest := []) ⟨hx, hb, hml, hown, hts⟩ (c_X8_grayOne l D cy L ad N x8 u o hv_t0 ho) (cwV 1 hts gX8_gray_X8_grayOne rfl rfl rfl (by decide +kernel) ⟨Nat.le_of_ble_eq_true rfl, Nat.le_of_ble_eq_true rfl⟩) hw hK hv_t0 (by decide) rfl rfl hl.1 rfl (Nat.le_of_ble_eq_true rfl) dX8_gray_91 ⟨Nat.zero_le _, Nat.zero_le _⟩) hw hA h (fun u H locs hw h => ?_)
        exact j_X8_gray_94 N C0 hA K10 hK10 K39 hK39 v2 v3 u _ _ _ hv_t0 hw (lv_sub hl [1, 2, 3] rfl) h
set_option maxHeartbeats 4000000 in
set_option maxRecDepth 100000 in
theorem j_X8_gray_39 {p : Program} {l : Launch} {e : Env} {s : State} {m : MethodId} {args : Array Value} {below : List Frame} {meth : Method} {c : Code} {D : va_G} {cy : Nat → ClassId} {L : List Nat} {ad : Nat → Nat} {A : Nat → Prop} {o : Mm} (N : Nat)   (C0 : Cx p m meth c cX8_gray none 5 s args wsX8_gray RX8 D cy) (hA : ∀ q : Nat, s.heap.size ≤ q → A q) (K10 : Mm → Option (Mm)) (hK10 : ∀  (u : Mm) (H : Heap) (locs : List Loc) (ls : Array Slot), vn L 8 0 → Wd D cy L ad A s.heap u H locs → lv_has ls 5 [(0, .ref (ad 0))] → K10  u = some o → W p l e ({ frames := 1, cells := 0, slots := 0, locals := 21 } : Room) s m args below meth c H locs 0 0 (MQ below (QcV D cy L ad A o) args s 0 0 A) (F0 m 10 ls [])) : ∀ (n : Nat), ∀ (v2 : Int32) (v3 : Int32) (u : Mm) (H : Heap) (locs : List Loc) (ls : Array Slot), vn L 8 0 → Wd D cy L ad A s.heap u H locs → lv_has ls 5 [(0, .ref (ad 0)), (2, .int v2), (3, .int v3)] → f_X8_gray_39 N  K10 n v2 v3 u = some o → W p l e ({ frames := 1, cells := 0, slots := 0, locals := 21 } : Room) s m args below meth c H locs 0 0 (MQ below (QcV D cy L ad A o) args s 0 0 A) (F0 m 39 ls []) := by
  intro n
  induction n with
  | zero =>
    intro v2 v3 u H locs ls hv_t0 hw hl h
    cases h
  | succ n ih => exact jg_X8_gray_39 N   C0 hA K10 hK10 _ ih
def g_X8_gray_10 (N : Nat)  (K10 : Mm → Option (Mm))  (u : Mm) : Option (Mm) :=
  pt (u.1 0 27) (fun x1 => if x1 ≤ 0 then (some u) else (pt (u.1 0 27) (fun x2 => pt (sI u 0 27 (x2 - 1)) (fun u => pt (u.1 0 27) (fun x4 => ck (bI x4 80) (pt (u.1 25 (ix x4)) (fun x5 => f_X8_gray_39 N K10 N x5 0 u)))))))
def f_X8_gray_10 (N : Nat)   : Nat → Mm → Option (Mm)
  | 0 => fun _ => none
  | n + 1 => g_X8_gray_10 N   (f_X8_gray_10 N   n)
set_option maxHeartbeats 4000000 in
set_option maxRecDepth 100000 in
theorem jg_X8_gray_10 {p : Program} {l : Launch} {e : Env} {s : State} {m : MethodId} {args : Array Value} {below : List Frame} {meth : Method} {c : Code} {D : va_G} {cy : Nat → ClassId} {L : List Nat} {ad : Nat → Nat} {A : Nat → Prop} {o : Mm} (N : Nat)   (C0 : Cx p m meth c cX8_gray none 5 s args wsX8_gray RX8 D cy) (hA : ∀ q : Nat, s.heap.size ≤ q → A q)  (K10 : Mm → Option (Mm)) (hK10 : ∀  (u : Mm) (H : Heap) (locs : List Loc) (ls : Array Slot), vn L 8 0 → Wd D cy L ad A s.heap u H locs → lv_has ls 5 [(0, .ref (ad 0))] → K10  u = some o → W p l e ({ frames := 1, cells := 0, slots := 0, locals := 21 } : Room) s m args below meth c H locs 0 0 (MQ below (QcV D cy L ad A o) args s 0 0 A) (F0 m 10 ls [])) : ∀  (u : Mm) (H : Heap) (locs : List Loc) (ls : Array Slot), vn L 8 0 → Wd D cy L ad A s.heap u H locs → lv_has ls 5 [(0, .ref (ad 0))] → g_X8_gray_10 N   K10  u = some o → W p l e ({ frames := 1, cells := 0, slots := 0, locals := 21 } : Room) s m args below meth c H locs 0 0 (MQ below (QcV D cy L ad A o) args s 0 0 A) (F0 m 10 ls []) := by
  obtain ⟨hx, hb, hr, hml, hown, hts, hlocks, hK⟩ := id C0
  intro  u H locs ls hv_t0 hw hl h
  unfold g_X8_gray_10 at h
  refine lv_aload_n hx hb dX8_gray_10 rfl (lv_at hl 0 rfl) ?_
  refine r_getI hx hb hts n_X8_gray_X8 hown hK hw hv_t0 (by decide) rfl 27 (by decide) rfl (hts _ k_X8_gray_1) (fun _ q => q) dX8_gray_11 h (fun x1 h => ?_)
  refine lv_if_le (tgt := 103) hx hb dX8_gray_14 (by decide) (fun hc => ?_) (fun hc => ?_)
  · rw [if_pos hc] at h
    exact r_vret hx hb hr hlocks hK hw h dX8_gray_103
  · rw [if_neg hc] at h
    refine lv_aload_n hx hb dX8_gray_17 rfl (lv_at hl 0 rfl) ?_
    refine lv_dup hx hb dX8_gray_18 rfl ?_
    refine r_getI hx hb hts n_X8_gray_X8 hown hK hw hv_t0 (by decide) rfl 27 (by decide) rfl (hts _ k_X8_gray_1) (fun _ q => q) dX8_gray_19 h (fun x2 h => ?_)
    refine lv_iconst (v := 1) hx hb dX8_gray_22 (by decide) ?_
    refine lv_isub hx hb dX8_gray_23 ?_
    refine r_putI (ty := .int) hx hb hts n_X8_gray_X8 tyX8 tyX8_ok nmX8 hown hK hw hv_t0 (by decide) rfl 27 (by decide) rfl (hts _ k_X8_gray_1) (fun _ q => q) rfl rfl rfl rfl dX8_gray_24 h (fun u H locs hw h => ?_)
    refine lv_aload_n hx hb dX8_gray_27 rfl (lv_at hl 0 rfl) ?_
    refine r_getC (t2 := 9) (d := 25) hx hb hts n_X8_gray_X8 hown hK hw hv_t0 (by decide) rfl 25 (by decide) rfl rfl (hts _ k_X8_gray_2) (fun _ q => q) dX8_gray_28 (fun hv3 => ?_)
    refine lv_aload_n hx hb dX8_gray_31 rfl (lv_at hl 0 rfl) ?_
    refine r_getI hx hb hts n_X8_gray_X8 hown hK hw hv_t0 (by decide) rfl 27 (by decide) rfl (hts _ k_X8_gray_1) (fun _ q => q) dX8_gray_32 h (fun x4 h => ?_)
    refine r_iald (n := 80) hx hb hK hw hv3 rfl dX8_gray_35 h (fun x5 h => ?_)
    refine lv_istore_n (lv' := [(2, .int x5), (0, .ref (ad 0))]) hx hb dX8_gray_36 rfl hl (by decide) rfl (fun ls hl => ?_)
    refine lv_iconst (v := 0) hx hb dX8_gray_37 (by decide) ?_
    refine lv_istore_n (lv' := [(3, .int 0), (2, .int x5), (0, .ref (ad 0))]) hx hb dX8_gray_38 rfl hl (by decide) rfl (fun ls hl => ?_)
    exact j_X8_gray_39 N C0 hA K10 hK10 N x5 0 u _ _ _ hv_t0 hw (lv_sub hl [2, 1, 0] rfl) h
set_option maxHeartbeats 4000000 in
set_option maxRecDepth 100000 in
theorem j_X8_gray_10 {p : Program} {l : Launch} {e : Env} {s : State} {m : MethodId} {args : Array Value} {below : List Frame} {meth : Method} {c : Code} {D : va_G} {cy : Nat → ClassId} {L : List Nat} {ad : Nat → Nat} {A : Nat → Prop} {o : Mm} (N : Nat)   (C0 : Cx p m meth c cX8_gray none 5 s args wsX8_gray RX8 D cy) (hA : ∀ q : Nat, s.heap.size ≤ q → A q)  : ∀ (n : Nat), ∀  (u : Mm) (H : Heap) (locs : List Loc) (ls : Array Slot), vn L 8 0 → Wd D cy L ad A s.heap u H locs → lv_has ls 5 [(0, .ref (ad 0))] → f_X8_gray_10 N   n  u = some o → W p l e ({ frames := 1, cells := 0, slots := 0, locals := 21 } : Room) s m args below meth c H locs 0 0 (MQ below (QcV D cy L ad A o) args s 0 0 A) (F0 m 10 ls []) := by
  intro n
  induction n with
  | zero =>
    intro  u H locs ls hv_t0 hw hl h
    cases h
  | succ n ih => exact jg_X8_gray_10 N   C0 hA  _ ih
def f_X8_gray (N : Nat) (p0 : Int32) (u : Mm) : Option (Mm) :=
  pt (sI u 0 27 0) (fun u => bv (f_X8_grayOne N p0 u) (fun u => f_X8_gray_10 N N u))
set_option maxHeartbeats 4000000 in
set_option maxRecDepth 100000 in
theorem c_X8_gray (l : Launch) (D : va_G) (cy : Nat → ClassId) (L : List Nat) (ad : Nat → Nat) (N : Nat) (p0 : Int32) (u : Mm) (o : Mm) (h_this : vn L 8 0) (h : f_X8_gray N p0 u = some o) : MtV l yX8_gray wsX8_gray ({ frames := 1, cells := 0, slots := 0, locals := 21 } : Room) D cy L ad [.ref (ad 0), .int p0] u o := by
  intro sz
  refine Met.ofW (cc := cX8_gray) (maxL := 5) (ret := none) (by decide) rfl ?_
  intro p e s m args below meth c s₁ B hml hv
  obtain ⟨rfl, hsz, hP, hK, hD0, hok⟩ := hv
  have hx := B.exec
  have hb := B.bytes
  have hr := B.returns
  have hts := atoms_spec (ws := wsX8_gray) B.pre
  have hown : s.vm.findClass RX8 = some m.cls := findClass_of_methodNamed B.named
  have hlocks := B.notSynchronized
  subst hsz
  have hw := wd_start hP hD0 hok
  have hA : ∀ q : Nat, s.heap.size ≤ q → va_A (wl cy L ad u) s.heap.size q := fun q h => Or.inr h
  generalize va_A (wl cy L ad u) s.heap.size = A at hw hA ⊢
  have C0 : Cx p m meth c cX8_gray none 5 s _ wsX8_gray RX8 D cy := ⟨hx, hb, hr, hml, hown, hts, hlocks, hK⟩
  have hl := lv_entry ([.ref (ad 0), .int p0]) (n := 5) (Nat.le_of_ble_eq_true rfl)
  rw [lg_entry_eq]
  generalize (lg_sl ([.ref (ad 0), .int p0]) ++ List.replicate (5 - (lg_sl ([.ref (ad 0), .int p0])).length) Slot.unset).toArray = ls at hl ⊢
  have hl : lv_has ls 5 [(0, .ref (ad 0)), (1, .int p0)] := hl
  unfold f_X8_gray at h
  refine lv_aload_n hx hb dX8_gray_0 rfl (lv_at hl 0 rfl) ?_
  refine lv_iconst (v := 0) hx hb dX8_gray_1 (by decide) ?_
  refine r_putI (ty := .int) hx hb hts n_X8_gray_X8 tyX8 tyX8_ok nmX8 hown hK hw h_this (by decide) rfl 27 (by decide) rfl (hts _ k_X8_gray_1) (fun _ q => q) rfl rfl rfl rfl dX8_gray_2 h (fun u H locs hw h => ?_)
  refine lv_aload_n hx hb dX8_gray_5 rfl (lv_at hl 0 rfl) ?_
  refine lv_iload_n hx hb dX8_gray_6 rfl (lv_at hl 1 rfl) ?_
  refine r_bV (fun o ho => r_vV (As := [.int p0]) (rest := []) ⟨hx, hb, hml, hown, hts⟩ (c_X8_grayOne l D cy L ad N p0 u o h_this ho) (cwV 1 hts gX8_gray_X8_grayOne rfl rfl rfl (by decide +kernel) ⟨Nat.le_of_ble_eq_true rfl, Nat.le_of_ble_eq_true rfl⟩) hw hK h_this (by decide) rfl rfl hl.1 rfl (Nat.le_of_ble_eq_true rfl) dX8_gray_7 ⟨Nat.zero_le _, Nat.zero_le _⟩) hw hA h (fun u H locs hw h => ?_)
  exact j_X8_gray_10 N C0 hA N u _ _ _ h_this hw (lv_sub hl [0] rfl) h
theorem k_X8_blacken_1 : Cond.fieldLink RX8 75 "RingHeapModel" "blackWork" "[I" ∈ wsX8_blacken := List.mem_of_getElem? (i := 1) (by rfl)
theorem n_X8_blacken_X8 : ∀ w ∈ u_ws RX8 TX8 31, w ∈ wsX8_blacken := fun _ h => List.mem_cons_of_mem _ (List.mem_append_right _ h)
theorem k_X8_blacken_2 : Cond.fieldLink RX8 121 "RingHeapModel" "blackened" "I" ∈ wsX8_blacken := List.mem_of_getElem? (i := 2) (by rfl)
theorem k_X8_blacken_3 : Cond.fieldLink RX8 48 "RingHeapModel" "fields" "[I" ∈ wsX8_blacken := List.mem_of_getElem? (i := 3) (by rfl)
theorem k_X8_blacken_4 : Cond.fieldLink RX8 30 "RingHeapModel" "colours" "[I" ∈ wsX8_blacken := List.mem_of_getElem? (i := 4) (by rfl)
theorem k_X8_blacken_5 : Cond.fieldLink RX8 27 "RingHeapModel" "counts" "[I" ∈ wsX8_blacken := List.mem_of_getElem? (i := 5) (by rfl)
def f_X8_blacken_132 (N : Nat)  (K25 : Int32 → Mm → Option (Mm)) (K42 : Int32 → Int32 → Int32 → Mm → Option (Mm)) (v2 : Int32) (v3 : Int32) (v4 : Int32) (u : Mm) : Option (Mm) :=
  K42 v2 v3 (v4 + 1) u
set_option maxHeartbeats 4000000 in
set_option maxRecDepth 100000 in
theorem j_X8_blacken_132 {p : Program} {l : Launch} {e : Env} {s : State} {m : MethodId} {args : Array Value} {below : List Frame} {meth : Method} {c : Code} {D : va_G} {cy : Nat → ClassId} {L : List Nat} {ad : Nat → Nat} {A : Nat → Prop} {o : Mm} (N : Nat)   (C0 : Cx p m meth c cX8_blacken none 6 s args wsX8_blacken RX8 D cy) (hA : ∀ q : Nat, s.heap.size ≤ q → A q) (K25 : Int32 → Mm → Option (Mm)) (hK25 : ∀ (v2 : Int32) (u : Mm) (H : Heap) (locs : List Loc) (ls : Array Slot), vn L 8 0 → Wd D cy L ad A s.heap u H locs → lv_has ls 6 [(0, .ref (ad 0)), (2, .int v2)] → K25 v2 u = some o → W p l e ({ frames := 1, cells := 0, slots := 0, locals := 22 } : Room) s m args below meth c H locs 0 0 (MQ below (QcV D cy L ad A o) args s 0 0 A) (F0 m 25 ls [])) (K42 : Int32 → Int32 → Int32 → Mm → Option (Mm)) (hK42 : ∀ (v2 : Int32) (v3 : Int32) (v4 : Int32) (u : Mm) (H : Heap) (locs : List Loc) (ls : Array Slot), vn L 8 0 → Wd D cy L ad A s.heap u H locs → lv_has ls 6 [(0, .ref (ad 0)), (2, .int v2), (3, .int v3), (4, .int v4)] → K42 v2 v3 v4 u = some o → W p l e ({ frames := 1, cells := 0, slots := 0, locals := 22 } : Room) s m args below meth c H locs 0 0 (MQ below (QcV D cy L ad A o) args s 0 0 A) (F0 m 42 ls [])) : ∀ (v2 : Int32) (v3 : Int32) (v4 : Int32) (u : Mm) (H : Heap) (locs : List Loc) (ls : Array Slot), vn L 8 0 → Wd D cy L ad A s.heap u H locs → lv_has ls 6 [(0, .ref (ad 0)), (2, .int v2), (3, .int v3), (4, .int v4)] → f_X8_blacken_132 N  K25 K42 v2 v3 v4 u = some o → W p l e ({ frames := 1, cells := 0, slots := 0, locals := 22 } : Room) s m args below meth c H locs 0 0 (MQ below (QcV D cy L ad A o) args s 0 0 A) (F0 m 132 ls []) := by
  obtain ⟨hx, hb, hr, hml, hown, hts, hlocks, hK⟩ := id C0
  intro v2 v3 v4 u H locs ls hv_t0 hw hl h
  unfold f_X8_blacken_132 at h
  refine lv_iinc (v := v4 + 1) (lv' := [(4, .int (v4 + 1)), (0, .ref (ad 0)), (2, .int v2), (3, .int v3)]) hx hb dX8_blacken_132 hl (k := 3) rfl rfl (by decide) rfl (fun ls hl => ?_)
  refine lv_goto (tgt := 42) hx hb dX8_blacken_135 (by decide) ?_
  exact hK42 v2 v3 (v4 + 1) u _ _ _ hv_t0 hw (lv_sub hl [1, 2, 3, 0] rfl) h
def g_X8_blacken_42 (N : Nat)  (K25 : Int32 → Mm → Option (Mm)) (K42 : Int32 → Int32 → Int32 → Mm → Option (Mm)) (v2 : Int32) (v3 : Int32) (v4 : Int32) (u : Mm) : Option (Mm) :=
  bd (f_X8_fieldsOf N v3 u) (fun x5 u => if x5 ≤ v4 then (K25 v2 u) else (ck (bI ((6 * v3) + v4) 480) (pt (u.1 12 (ix ((6 * v3) + v4))) (fun x7 => if x7 < 0 then (f_X8_blacken_132 N K25 K42 v2 v3 v4 u) else (ck (bI x7 80) (pt (u.1 6 (ix x7)) (fun x9 => if x9 = 4 then (f_X8_blacken_132 N K25 K42 v2 v3 v4 u) else (ck (bI x7 80) (pt (u.1 5 (ix x7)) (fun x11 => ck (bI x7 80) (pt (sI u 5 (ix x7) (x11 + 1)) (fun u => ck (bI x7 80) (pt (u.1 6 (ix x7)) (fun x13 => if x13 = 0 then (f_X8_blacken_132 N K25 K42 v2 v3 v4 u) else (ck (bI x7 80) (pt (sI u 6 (ix x7) 0) (fun u => pt (u.1 0 24) (fun x15 => pt (sI u 0 24 (x15 + 1)) (fun u => ck (bI v2 80) (pt (sI u 30 (ix v2) x7) (fun u => f_X8_blacken_132 N K25 K42 (v2 + 1) v3 v4 u)))))))))))))))))))))
def f_X8_blacken_42 (N : Nat)  (K25 : Int32 → Mm → Option (Mm)) : Nat → Int32 → Int32 → Int32 → Mm → Option (Mm)
  | 0 => fun _ _ _ _ => none
  | n + 1 => g_X8_blacken_42 N  K25 (f_X8_blacken_42 N  K25 n)
set_option maxHeartbeats 4000000 in
set_option maxRecDepth 100000 in
theorem jg_X8_blacken_42 {p : Program} {l : Launch} {e : Env} {s : State} {m : MethodId} {args : Array Value} {below : List Frame} {meth : Method} {c : Code} {D : va_G} {cy : Nat → ClassId} {L : List Nat} {ad : Nat → Nat} {A : Nat → Prop} {o : Mm} (N : Nat)   (C0 : Cx p m meth c cX8_blacken none 6 s args wsX8_blacken RX8 D cy) (hA : ∀ q : Nat, s.heap.size ≤ q → A q) (K25 : Int32 → Mm → Option (Mm)) (hK25 : ∀ (v2 : Int32) (u : Mm) (H : Heap) (locs : List Loc) (ls : Array Slot), vn L 8 0 → Wd D cy L ad A s.heap u H locs → lv_has ls 6 [(0, .ref (ad 0)), (2, .int v2)] → K25 v2 u = some o → W p l e ({ frames := 1, cells := 0, slots := 0, locals := 22 } : Room) s m args below meth c H locs 0 0 (MQ below (QcV D cy L ad A o) args s 0 0 A) (F0 m 25 ls [])) (K42 : Int32 → Int32 → Int32 → Mm → Option (Mm)) (hK42 : ∀ (v2 : Int32) (v3 : Int32) (v4 : Int32) (u : Mm) (H : Heap) (locs : List Loc) (ls : Array Slot), vn L 8 0 → Wd D cy L ad A s.heap u H locs → lv_has ls 6 [(0, .ref (ad 0)), (2, .int v2), (3, .int v3), (4, .int v4)] → K42 v2 v3 v4 u = some o → W p l e ({ frames := 1, cells := 0, slots := 0, locals := 22 } : Room) s m args below meth c H locs 0 0 (MQ below (QcV D cy L ad A o) args s 0 0 A) (F0 m 42 ls [])) : ∀ (v2 : Int32) (v3 : Int32) (v4 : Int32) (u : Mm) (H : Heap) (locs : List Loc) (ls : Array Slot), vn L 8 0 → Wd D cy L ad A s.heap u H locs → lv_has ls 6 [(0, .ref (ad 0)), (2, .int v2), (3, .int v3), (4, .int v4)] → g_X8_blacken_42 N  K25 K42 v2 v3 v4 u = some o → W p l e ({ frames := 1, cells := 0, slots := 0, locals := 22 } : Room) s m args below meth c H locs 0 0 (MQ below (QcV D cy L ad A o) args s 0 0 A) (F0 m 42 ls []) := by
  obtain ⟨hx, hb, hr, hml, hown, hts, hlocks, hK⟩ := id C0
  intro v2 v3 v4 u H locs ls hv_t0 hw hl h
  unfold g_X8_blacken_42 at h
  refine lv_iload hx hb dX8_blacken_42 (lv_at hl 3 rfl) ?_
  refine lv_aload_n hx hb dX8_blacken_44 rfl (lv_at hl 0 rfl) ?_
  refine lv_iload_n hx hb dX8_blacken_45 rfl (lv_at hl 2 rfl) ?_
  refine r_bI (fun o ho => r_vI (As := [.int v3]) (rest := [.int v4]) ⟨hx, hb, hml, hown, hts⟩ (c_X8_fieldsOf l D cy L ad N v3 u o hv_t0 ho) (cwV 1 hts gX8_blacken_X8_fieldsOf rfl rfl rfl (by decide +kernel) ⟨Nat.le_of_ble_eq_true rfl, Nat.le_of_ble_eq_true rfl⟩) hw hK hv_t0 (by decide) rfl rfl hl.1 rfl (Nat.le_of_ble_eq_true rfl) dX8_blacken_46 ⟨Nat.zero_le _, Nat.zero_le _⟩) hw hA h (fun x5 u H locs hw h => ?_)
  refine lv_icmp_ge (tgt := 138) hx hb dX8_blacken_49 (by decide) (fun hc => ?_) (fun hc => ?_)
  · rw [if_pos hc] at h
    refine lv_goto (tgt := 25) hx hb dX8_blacken_138 (by decide) ?_
    exact hK25 v2 u _ _ _ hv_t0 hw (lv_sub hl [0, 1] rfl) h
  · rw [if_neg hc] at h
    refine lv_aload_n hx hb dX8_blacken_52 rfl (lv_at hl 0 rfl) ?_
    refine r_getC (t2 := 9) (d := 12) hx hb hts n_X8_blacken_X8 hown hK hw hv_t0 (by decide) rfl 12 (by decide) rfl rfl (hts _ k_X8_blacken_3) (fun _ q => q) dX8_blacken_53 (fun hv6 => ?_)
    refine lv_bipush (v := 6) hx hb dX8_blacken_56 (by decide) ?_
    refine lv_iload_n hx hb dX8_blacken_58 rfl (lv_at hl 2 rfl) ?_
    refine lv_imul hx hb dX8_blacken_59 ?_
    refine lv_iload hx hb dX8_blacken_60 (lv_at hl 3 rfl) ?_
    refine lv_iadd hx hb dX8_blacken_62 ?_
    refine r_iald (n := 480) hx hb hK hw hv6 rfl dX8_blacken_63 h (fun x7 h => ?_)
    refine lv_istore (lv' := [(5, .int x7), (0, .ref (ad 0)), (2, .int v2), (3, .int v3), (4, .int v4)]) hx hb dX8_blacken_64 hl (by decide) rfl (fun ls hl => ?_)
    refine lv_iload hx hb dX8_blacken_66 (lv_at hl 0 rfl) ?_
    refine lv_if_lt (tgt := 132) hx hb dX8_blacken_68 (by decide) (fun hc => ?_) (fun hc => ?_)
    · rw [if_pos hc] at h
      exact j_X8_blacken_132 N C0 hA K25 hK25 K42 hK42 v2 v3 v4 u _ _ _ hv_t0 hw (lv_sub hl [1, 2, 3, 4] rfl) h
    · rw [if_neg hc] at h
      refine lv_aload_n hx hb dX8_blacken_71 rfl (lv_at hl 1 rfl) ?_
      refine r_getC (t2 := 9) (d := 6) hx hb hts n_X8_blacken_X8 hown hK hw hv_t0 (by decide) rfl 6 (by decide) rfl rfl (hts _ k_X8_blacken_4) (fun _ q => q) dX8_blacken_72 (fun hv8 => ?_)
      refine lv_iload hx hb dX8_blacken_75 (lv_at hl 0 rfl) ?_
      refine r_iald (n := 80) hx hb hK hw hv8 rfl dX8_blacken_77 h (fun x9 h => ?_)
      refine lv_iconst (v := 4) hx hb dX8_blacken_78 (by decide) ?_
      refine lv_icmp_eq (tgt := 132) hx hb dX8_blacken_79 (by decide) (fun hc => ?_) (fun hc => ?_)
      · rw [if_pos hc] at h
        exact j_X8_blacken_132 N C0 hA K25 hK25 K42 hK42 v2 v3 v4 u _ _ _ hv_t0 hw (lv_sub hl [1, 2, 3, 4] rfl) h
      · rw [if_neg hc] at h
        refine lv_aload_n hx hb dX8_blacken_82 rfl (lv_at hl 1 rfl) ?_
        refine r_getC (t2 := 9) (d := 5) hx hb hts n_X8_blacken_X8 hown hK hw hv_t0 (by decide) rfl 5 (by decide) rfl rfl (hts _ k_X8_blacken_5) (fun _ q => q) dX8_blacken_83 (fun hv10 => ?_)
        refine lv_iload hx hb dX8_blacken_86 (lv_at hl 0 rfl) ?_
        refine lv_dup2_11 hx hb dX8_blacken_88 rfl rfl ?_
        refine r_iald (n := 80) hx hb hK hw hv10 rfl dX8_blacken_89 h (fun x11 h => ?_)
        refine lv_iconst (v := 1) hx hb dX8_blacken_90 (by decide) ?_
        refine lv_iadd hx hb dX8_blacken_91 ?_
        refine r_iast (n := 80) hx hb hK hw hv10 rfl dX8_blacken_92 h (fun u H locs hw h => ?_)
        refine lv_aload_n hx hb dX8_blacken_93 rfl (lv_at hl 1 rfl) ?_
        refine r_getC (t2 := 9) (d := 6) hx hb hts n_X8_blacken_X8 hown hK hw hv_t0 (by decide) rfl 6 (by decide) rfl rfl (hts _ k_X8_blacken_4) (fun _ q => q) dX8_blacken_94 (fun hv12 => ?_)
        refine lv_iload hx hb dX8_blacken_97 (lv_at hl 0 rfl) ?_
        refine r_iald (n := 80) hx hb hK hw hv12 rfl dX8_blacken_99 h (fun x13 h => ?_)
        refine lv_if_eq (tgt := 132) hx hb dX8_blacken_100 (by decide) (fun hc => ?_) (fun hc => ?_)
        · rw [if_pos hc] at h
          exact j_X8_blacken_132 N C0 hA K25 hK25 K42 hK42 v2 v3 v4 u _ _ _ hv_t0 hw (lv_sub hl [1, 2, 3, 4] rfl) h
        · rw [if_neg hc] at h
          refine lv_aload_n hx hb dX8_blacken_103 rfl (lv_at hl 1 rfl) ?_
          refine r_getC (t2 := 9) (d := 6) hx hb hts n_X8_blacken_X8 hown hK hw hv_t0 (by decide) rfl 6 (by decide) rfl rfl (hts _ k_X8_blacken_4) (fun _ q => q) dX8_blacken_104 (fun hv14 => ?_)
          refine lv_iload hx hb dX8_blacken_107 (lv_at hl 0 rfl) ?_
          refine lv_iconst (v := 0) hx hb dX8_blacken_109 (by decide) ?_
          refine r_iast (n := 80) hx hb hK hw hv14 rfl dX8_blacken_110 h (fun u H locs hw h => ?_)
          refine lv_aload_n hx hb dX8_blacken_111 rfl (lv_at hl 1 rfl) ?_
          refine lv_dup hx hb dX8_blacken_112 rfl ?_
          refine r_getI hx hb hts n_X8_blacken_X8 hown hK hw hv_t0 (by decide) rfl 24 (by decide) rfl (hts _ k_X8_blacken_2) (fun _ q => q) dX8_blacken_113 h (fun x15 h => ?_)
          refine lv_iconst (v := 1) hx hb dX8_blacken_116 (by decide) ?_
          refine lv_iadd hx hb dX8_blacken_117 ?_
          refine r_putI (ty := .int) hx hb hts n_X8_blacken_X8 tyX8 tyX8_ok nmX8 hown hK hw hv_t0 (by decide) rfl 24 (by decide) rfl (hts _ k_X8_blacken_2) (fun _ q => q) rfl rfl rfl rfl dX8_blacken_118 h (fun u H locs hw h => ?_)
          refine lv_aload_n hx hb dX8_blacken_121 rfl (lv_at hl 1 rfl) ?_
          refine r_getC (t2 := 9) (d := 30) hx hb hts n_X8_blacken_X8 hown hK hw hv_t0 (by decide) rfl 30 (by decide) rfl rfl (hts _ k_X8_blacken_1) (fun _ q => q) dX8_blacken_122 (fun hv16 => ?_)
          refine lv_iload_n hx hb dX8_blacken_125 rfl (lv_at hl 2 rfl) ?_
          refine lv_iload hx hb dX8_blacken_126 (lv_at hl 0 rfl) ?_
          refine r_iast (n := 80) hx hb hK hw hv16 rfl dX8_blacken_128 h (fun u H locs hw h => ?_)
          refine lv_iinc (v := v2 + 1) (lv' := [(2, .int (v2 + 1)), (5, .int x7), (0, .ref (ad 0)), (3, .int v3), (4, .int v4)]) hx hb dX8_blacken_129 hl (k := 2) rfl rfl (by decide) rfl (fun ls hl => ?_)
          exact j_X8_blacken_132 N C0 hA K25 hK25 K42 hK42 (v2 + 1) v3 v4 u _ _ _ hv_t0 hw (lv_sub hl [2, 0, 3, 4] rfl) h
set_option maxHeartbeats 4000000 in
set_option maxRecDepth 100000 in
theorem j_X8_blacken_42 {p : Program} {l : Launch} {e : Env} {s : State} {m : MethodId} {args : Array Value} {below : List Frame} {meth : Method} {c : Code} {D : va_G} {cy : Nat → ClassId} {L : List Nat} {ad : Nat → Nat} {A : Nat → Prop} {o : Mm} (N : Nat)   (C0 : Cx p m meth c cX8_blacken none 6 s args wsX8_blacken RX8 D cy) (hA : ∀ q : Nat, s.heap.size ≤ q → A q) (K25 : Int32 → Mm → Option (Mm)) (hK25 : ∀ (v2 : Int32) (u : Mm) (H : Heap) (locs : List Loc) (ls : Array Slot), vn L 8 0 → Wd D cy L ad A s.heap u H locs → lv_has ls 6 [(0, .ref (ad 0)), (2, .int v2)] → K25 v2 u = some o → W p l e ({ frames := 1, cells := 0, slots := 0, locals := 22 } : Room) s m args below meth c H locs 0 0 (MQ below (QcV D cy L ad A o) args s 0 0 A) (F0 m 25 ls [])) : ∀ (n : Nat), ∀ (v2 : Int32) (v3 : Int32) (v4 : Int32) (u : Mm) (H : Heap) (locs : List Loc) (ls : Array Slot), vn L 8 0 → Wd D cy L ad A s.heap u H locs → lv_has ls 6 [(0, .ref (ad 0)), (2, .int v2), (3, .int v3), (4, .int v4)] → f_X8_blacken_42 N  K25 n v2 v3 v4 u = some o → W p l e ({ frames := 1, cells := 0, slots := 0, locals := 22 } : Room) s m args below meth c H locs 0 0 (MQ below (QcV D cy L ad A o) args s 0 0 A) (F0 m 42 ls []) := by
  intro n
  induction n with
  | zero =>
    intro v2 v3 v4 u H locs ls hv_t0 hw hl h
    cases h
  | succ n ih => exact jg_X8_blacken_42 N   C0 hA K25 hK25 _ ih
def g_X8_blacken_25 (N : Nat)  (K25 : Int32 → Mm → Option (Mm)) (v2 : Int32) (u : Mm) : Option (Mm) :=
  if v2 ≤ 0 then (some u) else (ck (bI (v2 + (-1)) 80) (pt (u.1 30 (ix (v2 + (-1)))) (fun x4 => f_X8_blacken_42 N K25 N (v2 + (-1)) x4 0 u)))
def f_X8_blacken_25 (N : Nat)   : Nat → Int32 → Mm → Option (Mm)
  | 0 => fun _ _ => none
  | n + 1 => g_X8_blacken_25 N   (f_X8_blacken_25 N   n)
set_option maxHeartbeats 4000000 in
set_option maxRecDepth 100000 in
theorem jg_X8_blacken_25 {p : Program} {l : Launch} {e : Env} {s : State} {m : MethodId} {args : Array Value} {below : List Frame} {meth : Method} {c : Code} {D : va_G} {cy : Nat → ClassId} {L : List Nat} {ad : Nat → Nat} {A : Nat → Prop} {o : Mm} (N : Nat)   (C0 : Cx p m meth c cX8_blacken none 6 s args wsX8_blacken RX8 D cy) (hA : ∀ q : Nat, s.heap.size ≤ q → A q)  (K25 : Int32 → Mm → Option (Mm)) (hK25 : ∀ (v2 : Int32) (u : Mm) (H : Heap) (locs : List Loc) (ls : Array Slot), vn L 8 0 → Wd D cy L ad A s.heap u H locs → lv_has ls 6 [(0, .ref (ad 0)), (2, .int v2)] → K25 v2 u = some o → W p l e ({ frames := 1, cells := 0, slots := 0, locals := 22 } : Room) s m args below meth c H locs 0 0 (MQ below (QcV D cy L ad A o) args s 0 0 A) (F0 m 25 ls [])) : ∀ (v2 : Int32) (u : Mm) (H : Heap) (locs : List Loc) (ls : Array Slot), vn L 8 0 → Wd D cy L ad A s.heap u H locs → lv_has ls 6 [(0, .ref (ad 0)), (2, .int v2)] → g_X8_blacken_25 N   K25 v2 u = some o → W p l e ({ frames := 1, cells := 0, slots := 0, locals := 22 } : Room) s m args below meth c H locs 0 0 (MQ below (QcV D cy L ad A o) args s 0 0 A) (F0 m 25 ls []) := by
  obtain ⟨hx, hb, hr, hml, hown, hts, hlocks, hK⟩ := id C0
  intro v2 u H locs ls hv_t0 hw hl h
  unfold g_X8_blacken_25 at h
  refine lv_iload_n hx hb dX8_blacken_25 rfl (lv_at hl 1 rfl) ?_
  refine lv_if_le (tgt := 141) hx hb dX8_blacken_26 (by decide) (fun hc => ?_) (fun hc => ?_)
  · rw [if_pos hc] at h
    exact r_vret hx hb hr hlocks hK hw h dX8_blacken_141
  · rw [if_neg hc] at h
    refine lv_iinc (v := v2 + (-1)) (lv' := [(2, .int (v2 + (-1))), (0, .ref (ad 0))]) hx hb dX8_blacken_29 hl (k := 1) rfl rfl (by decide) rfl (fun ls hl => ?_)
    refine lv_aload_n hx hb dX8_blacken_32 rfl (lv_at hl 1 rfl) ?_
    refine r_getC (t2 := 9) (d := 30) hx hb hts n_X8_blacken_X8 hown hK hw hv_t0 (by decide) rfl 30 (by decide) rfl rfl (hts _ k_X8_blacken_1) (fun _ q => q) dX8_blacken_33 (fun hv3 => ?_)
    refine lv_iload_n hx hb dX8_blacken_36 rfl (lv_at hl 0 rfl) ?_
    refine r_iald (n := 80) hx hb hK hw hv3 rfl dX8_blacken_37 h (fun x4 h => ?_)
    refine lv_istore_n (lv' := [(3, .int x4), (2, .int (v2 + (-1))), (0, .ref (ad 0))]) hx hb dX8_blacken_38 rfl hl (by decide) rfl (fun ls hl => ?_)
    refine lv_iconst (v := 0) hx hb dX8_blacken_39 (by decide) ?_
    refine lv_istore (lv' := [(4, .int 0), (3, .int x4), (2, .int (v2 + (-1))), (0, .ref (ad 0))]) hx hb dX8_blacken_40 hl (by decide) rfl (fun ls hl => ?_)
    exact j_X8_blacken_42 N C0 hA K25 hK25 N (v2 + (-1)) x4 0 u _ _ _ hv_t0 hw (lv_sub hl [3, 2, 1, 0] rfl) h
set_option maxHeartbeats 4000000 in
set_option maxRecDepth 100000 in
theorem j_X8_blacken_25 {p : Program} {l : Launch} {e : Env} {s : State} {m : MethodId} {args : Array Value} {below : List Frame} {meth : Method} {c : Code} {D : va_G} {cy : Nat → ClassId} {L : List Nat} {ad : Nat → Nat} {A : Nat → Prop} {o : Mm} (N : Nat)   (C0 : Cx p m meth c cX8_blacken none 6 s args wsX8_blacken RX8 D cy) (hA : ∀ q : Nat, s.heap.size ≤ q → A q)  : ∀ (n : Nat), ∀ (v2 : Int32) (u : Mm) (H : Heap) (locs : List Loc) (ls : Array Slot), vn L 8 0 → Wd D cy L ad A s.heap u H locs → lv_has ls 6 [(0, .ref (ad 0)), (2, .int v2)] → f_X8_blacken_25 N   n v2 u = some o → W p l e ({ frames := 1, cells := 0, slots := 0, locals := 22 } : Room) s m args below meth c H locs 0 0 (MQ below (QcV D cy L ad A o) args s 0 0 A) (F0 m 25 ls []) := by
  intro n
  induction n with
  | zero =>
    intro v2 u H locs ls hv_t0 hw hl h
    cases h
  | succ n ih => exact jg_X8_blacken_25 N   C0 hA  _ ih
def f_X8_blacken (N : Nat) (p0 : Int32) (u : Mm) : Option (Mm) :=
  ck (bI 0 80) (pt (sI u 30 (ix 0) p0) (fun u => bv (f_X8_turn N p0 0 u) (fun u => pt (u.1 0 24) (fun x2 => pt (sI u 0 24 (x2 + 1)) (fun u => f_X8_blacken_25 N N 1 u)))))
set_option maxHeartbeats 4000000 in
set_option maxRecDepth 100000 in
theorem c_X8_blacken (l : Launch) (D : va_G) (cy : Nat → ClassId) (L : List Nat) (ad : Nat → Nat) (N : Nat) (p0 : Int32) (u : Mm) (o : Mm) (h_this : vn L 8 0) (h : f_X8_blacken N p0 u = some o) : MtV l yX8_blacken wsX8_blacken ({ frames := 1, cells := 0, slots := 0, locals := 22 } : Room) D cy L ad [.ref (ad 0), .int p0] u o := by
  intro sz
  refine Met.ofW (cc := cX8_blacken) (maxL := 6) (ret := none) (by decide) rfl ?_
  intro p e s m args below meth c s₁ B hml hv
  obtain ⟨rfl, hsz, hP, hK, hD0, hok⟩ := hv
  have hx := B.exec
  have hb := B.bytes
  have hr := B.returns
  have hts := atoms_spec (ws := wsX8_blacken) B.pre
  have hown : s.vm.findClass RX8 = some m.cls := findClass_of_methodNamed B.named
  have hlocks := B.notSynchronized
  subst hsz
  have hw := wd_start hP hD0 hok
  have hA : ∀ q : Nat, s.heap.size ≤ q → va_A (wl cy L ad u) s.heap.size q := fun q h => Or.inr h
  generalize va_A (wl cy L ad u) s.heap.size = A at hw hA ⊢
  have C0 : Cx p m meth c cX8_blacken none 6 s _ wsX8_blacken RX8 D cy := ⟨hx, hb, hr, hml, hown, hts, hlocks, hK⟩
  have hl := lv_entry ([.ref (ad 0), .int p0]) (n := 6) (Nat.le_of_ble_eq_true rfl)
  rw [lg_entry_eq]
  generalize (lg_sl ([.ref (ad 0), .int p0]) ++ List.replicate (6 - (lg_sl ([.ref (ad 0), .int p0])).length) Slot.unset).toArray = ls at hl ⊢
  have hl : lv_has ls 6 [(0, .ref (ad 0)), (1, .int p0)] := hl
  unfold f_X8_blacken at h
  refine lv_iconst (v := 1) hx hb dX8_blacken_0 (by decide) ?_
  refine lv_istore_n (lv' := [(2, .int 1), (0, .ref (ad 0)), (1, .int p0)]) hx hb dX8_blacken_1 rfl hl (by decide) rfl (fun ls hl => ?_)
  refine lv_aload_n hx hb dX8_blacken_2 rfl (lv_at hl 1 rfl) ?_
  refine r_getC (t2 := 9) (d := 30) hx hb hts n_X8_blacken_X8 hown hK hw h_this (by decide) rfl 30 (by decide) rfl rfl (hts _ k_X8_blacken_1) (fun _ q => q) dX8_blacken_3 (fun hv1 => ?_)
  refine lv_iconst (v := 0) hx hb dX8_blacken_6 (by decide) ?_
  refine lv_iload_n hx hb dX8_blacken_7 rfl (lv_at hl 2 rfl) ?_
  refine r_iast (n := 80) hx hb hK hw hv1 rfl dX8_blacken_8 h (fun u H locs hw h => ?_)
  refine lv_aload_n hx hb dX8_blacken_9 rfl (lv_at hl 1 rfl) ?_
  refine lv_iload_n hx hb dX8_blacken_10 rfl (lv_at hl 2 rfl) ?_
  refine lv_iconst (v := 0) hx hb dX8_blacken_11 (by decide) ?_
  refine r_bV (fun o ho => r_vV (As := [.int p0, .int 0]) (rest := []) ⟨hx, hb, hml, hown, hts⟩ (c_X8_turn l D cy L ad N p0 0 u o h_this ho) (cwV 2 hts gX8_blacken_X8_turn rfl rfl rfl (by decide +kernel) ⟨Nat.le_of_ble_eq_true rfl, Nat.le_of_ble_eq_true rfl⟩) hw hK h_this (by decide) rfl rfl hl.1 rfl (Nat.le_of_ble_eq_true rfl) dX8_blacken_12 ⟨Nat.zero_le _, Nat.zero_le _⟩) hw hA h (fun u H locs hw h => ?_)
  refine lv_aload_n hx hb dX8_blacken_15 rfl (lv_at hl 1 rfl) ?_
  refine lv_dup hx hb dX8_blacken_16 rfl ?_
  refine r_getI hx hb hts n_X8_blacken_X8 hown hK hw h_this (by decide) rfl 24 (by decide) rfl (hts _ k_X8_blacken_2) (fun _ q => q) dX8_blacken_17 h (fun x2 h => ?_)
  refine lv_iconst (v := 1) hx hb dX8_blacken_20 (by decide) ?_
  refine lv_iadd hx hb dX8_blacken_21 ?_
  refine r_putI (ty := .int) hx hb hts n_X8_blacken_X8 tyX8 tyX8_ok nmX8 hown hK hw h_this (by decide) rfl 24 (by decide) rfl (hts _ k_X8_blacken_2) (fun _ q => q) rfl rfl rfl rfl dX8_blacken_22 h (fun u H locs hw h => ?_)
  exact j_X8_blacken_25 N C0 hA N 1 u _ _ _ h_this hw (lv_sub hl [1, 0] rfl) h
theorem k_X8_scanOne_1 : Cond.fieldLink RX8 30 "RingHeapModel" "colours" "[I" ∈ wsX8_scanOne := List.mem_of_getElem? (i := 1) (by rfl)
theorem n_X8_scanOne_X8 : ∀ w ∈ u_ws RX8 TX8 31, w ∈ wsX8_scanOne := fun _ h => List.mem_cons_of_mem _ (List.mem_append_right _ h)
theorem k_X8_scanOne_2 : Cond.fieldLink RX8 27 "RingHeapModel" "counts" "[I" ∈ wsX8_scanOne := List.mem_of_getElem? (i := 2) (by rfl)
theorem k_X8_scanOne_3 : Cond.fieldLink RX8 66 "RingHeapModel" "work" "[I" ∈ wsX8_scanOne := List.mem_of_getElem? (i := 3) (by rfl)
theorem k_X8_scanOne_4 : Cond.fieldLink RX8 105 "RingHeapModel" "workCount" "I" ∈ wsX8_scanOne := List.mem_of_getElem? (i := 4) (by rfl)
def f_X8_scanOne (N : Nat) (p0 : Int32) (u : Mm) : Option (Mm) :=
  ck (bI p0 80) (pt (u.1 6 (ix p0)) (fun x2 => if x2 = 1 then (ck (bI p0 80) (pt (u.1 5 (ix p0)) (fun x4 => if x4 ≤ 0 then (ck (bI p0 80) (pt (sI u 6 (ix p0) 2) (fun u => pt (u.1 0 27) (fun x7 => ck (bI x7 80) (pt (sI u 25 (ix x7) p0) (fun u => pt (u.1 0 27) (fun x8 => pt (sI u 0 27 (x8 + 1)) (fun u => some u)))))))) else (bv (f_X8_blacken N p0 u) (fun u => some u))))) else (some u)))
set_option maxHeartbeats 4000000 in
set_option maxRecDepth 100000 in
theorem c_X8_scanOne (l : Launch) (D : va_G) (cy : Nat → ClassId) (L : List Nat) (ad : Nat → Nat) (N : Nat) (p0 : Int32) (u : Mm) (o : Mm) (h_this : vn L 8 0) (h : f_X8_scanOne N p0 u = some o) : MtV l yX8_scanOne wsX8_scanOne ({ frames := 2, cells := 0, slots := 0, locals := 47 } : Room) D cy L ad [.ref (ad 0), .int p0] u o := by
  intro sz
  refine Met.ofW (cc := cX8_scanOne) (maxL := 2) (ret := none) (by decide) rfl ?_
  intro p e s m args below meth c s₁ B hml hv
  obtain ⟨rfl, hsz, hP, hK, hD0, hok⟩ := hv
  have hx := B.exec
  have hb := B.bytes
  have hr := B.returns
  have hts := atoms_spec (ws := wsX8_scanOne) B.pre
  have hown : s.vm.findClass RX8 = some m.cls := findClass_of_methodNamed B.named
  have hlocks := B.notSynchronized
  subst hsz
  have hw := wd_start hP hD0 hok
  have hA : ∀ q : Nat, s.heap.size ≤ q → va_A (wl cy L ad u) s.heap.size q := fun q h => Or.inr h
  generalize va_A (wl cy L ad u) s.heap.size = A at hw hA ⊢
  have C0 : Cx p m meth c cX8_scanOne none 2 s _ wsX8_scanOne RX8 D cy := ⟨hx, hb, hr, hml, hown, hts, hlocks, hK⟩
  have hl := lv_entry ([.ref (ad 0), .int p0]) (n := 2) (Nat.le_of_ble_eq_true rfl)
  rw [lg_entry_eq]
  generalize (lg_sl ([.ref (ad 0), .int p0]) ++ List.replicate (2 - (lg_sl ([.ref (ad 0), .int p0])).length) Slot.unset).toArray = ls at hl ⊢
  have hl : lv_has ls 2 [(0, .ref (ad 0)), (1, .int p0)] := hl
  unfold f_X8_scanOne at h
  refine lv_aload_n hx hb dX8_scanOne_0 rfl (lv_at hl 0 rfl) ?_
  refine r_getC (t2 := 9) (d := 6) hx hb hts n_X8_scanOne_X8 hown hK hw h_this (by decide) rfl 6 (by decide) rfl rfl (hts _ k_X8_scanOne_1) (fun _ q => q) dX8_scanOne_1 (fun hv1 => ?_)
  refine lv_iload_n hx hb dX8_scanOne_4 rfl (lv_at hl 1 rfl) ?_
  refine r_iald (n := 80) hx hb hK hw hv1 rfl dX8_scanOne_5 h (fun x2 h => ?_)
  refine lv_iconst (v := 1) hx hb dX8_scanOne_6 (by decide) ?_
  refine lv_icmp_ne (tgt := 54) hx hb dX8_scanOne_7 (by decide) (fun hc => ?_) (fun hc => ?_)
  · rw [if_neg hc] at h
    exact r_vret hx hb hr hlocks hK hw h dX8_scanOne_54
  · rw [if_pos hc] at h
    refine lv_aload_n hx hb dX8_scanOne_10 rfl (lv_at hl 0 rfl) ?_
    refine r_getC (t2 := 9) (d := 5) hx hb hts n_X8_scanOne_X8 hown hK hw h_this (by decide) rfl 5 (by decide) rfl rfl (hts _ k_X8_scanOne_2) (fun _ q => q) dX8_scanOne_11 (fun hv3 => ?_)
    refine lv_iload_n hx hb dX8_scanOne_14 rfl (lv_at hl 1 rfl) ?_
    refine r_iald (n := 80) hx hb hK hw hv3 rfl dX8_scanOne_15 h (fun x4 h => ?_)
    refine lv_if_le (tgt := 27) hx hb dX8_scanOne_16 (by decide) (fun hc => ?_) (fun hc => ?_)
    · rw [if_pos hc] at h
      refine lv_aload_n hx hb dX8_scanOne_27 rfl (lv_at hl 0 rfl) ?_
      refine r_getC (t2 := 9) (d := 6) hx hb hts n_X8_scanOne_X8 hown hK hw h_this (by decide) rfl 6 (by decide) rfl rfl (hts _ k_X8_scanOne_1) (fun _ q => q) dX8_scanOne_28 (fun hv5 => ?_)
      refine lv_iload_n hx hb dX8_scanOne_31 rfl (lv_at hl 1 rfl) ?_
      refine lv_iconst (v := 2) hx hb dX8_scanOne_32 (by decide) ?_
      refine r_iast (n := 80) hx hb hK hw hv5 rfl dX8_scanOne_33 h (fun u H locs hw h => ?_)
      refine lv_aload_n hx hb dX8_scanOne_34 rfl (lv_at hl 0 rfl) ?_
      refine r_getC (t2 := 9) (d := 25) hx hb hts n_X8_scanOne_X8 hown hK hw h_this (by decide) rfl 25 (by decide) rfl rfl (hts _ k_X8_scanOne_3) (fun _ q => q) dX8_scanOne_35 (fun hv6 => ?_)
      refine lv_aload_n hx hb dX8_scanOne_38 rfl (lv_at hl 0 rfl) ?_
      refine r_getI hx hb hts n_X8_scanOne_X8 hown hK hw h_this (by decide) rfl 27 (by decide) rfl (hts _ k_X8_scanOne_4) (fun _ q => q) dX8_scanOne_39 h (fun x7 h => ?_)
      refine lv_iload_n hx hb dX8_scanOne_42 rfl (lv_at hl 1 rfl) ?_
      refine r_iast (n := 80) hx hb hK hw hv6 rfl dX8_scanOne_43 h (fun u H locs hw h => ?_)
      refine lv_aload_n hx hb dX8_scanOne_44 rfl (lv_at hl 0 rfl) ?_
      refine lv_dup hx hb dX8_scanOne_45 rfl ?_
      refine r_getI hx hb hts n_X8_scanOne_X8 hown hK hw h_this (by decide) rfl 27 (by decide) rfl (hts _ k_X8_scanOne_4) (fun _ q => q) dX8_scanOne_46 h (fun x8 h => ?_)
      refine lv_iconst (v := 1) hx hb dX8_scanOne_49 (by decide) ?_
      refine lv_iadd hx hb dX8_scanOne_50 ?_
      refine r_putI (ty := .int) hx hb hts n_X8_scanOne_X8 tyX8 tyX8_ok nmX8 hown hK hw h_this (by decide) rfl 27 (by decide) rfl (hts _ k_X8_scanOne_4) (fun _ q => q) rfl rfl rfl rfl dX8_scanOne_51 h (fun u H locs hw h => ?_)
      exact r_vret hx hb hr hlocks hK hw h dX8_scanOne_54
    · rw [if_neg hc] at h
      refine lv_aload_n hx hb dX8_scanOne_19 rfl (lv_at hl 0 rfl) ?_
      refine lv_iload_n hx hb dX8_scanOne_20 rfl (lv_at hl 1 rfl) ?_
      refine r_bV (fun o ho => r_vV (As := [.int p0]) (rest := []) ⟨hx, hb, hml, hown, hts⟩ (c_X8_blacken l D cy L ad N p0 u o h_this ho) (cwV 1 hts gX8_scanOne_X8_blacken rfl rfl rfl (by decide +kernel) ⟨Nat.le_of_ble_eq_true rfl, Nat.le_of_ble_eq_true rfl⟩) hw hK h_this (by decide) rfl rfl hl.1 rfl (Nat.le_of_ble_eq_true rfl) dX8_scanOne_21 ⟨Nat.zero_le _, Nat.zero_le _⟩) hw hA h (fun u H locs hw h => ?_)
      refine lv_goto (tgt := 54) hx hb dX8_scanOne_24 (by decide) ?_
      exact r_vret hx hb hr hlocks hK hw h dX8_scanOne_54
theorem k_X8_scan_1 : Cond.fieldLink RX8 105 "RingHeapModel" "workCount" "I" ∈ wsX8_scan := List.mem_of_getElem? (i := 1) (by rfl)
theorem n_X8_scan_X8 : ∀ w ∈ u_ws RX8 TX8 31, w ∈ wsX8_scan := fun _ h => List.mem_cons_of_mem _ (List.mem_append_right _ h)
theorem k_X8_scan_2 : Cond.fieldLink RX8 66 "RingHeapModel" "work" "[I" ∈ wsX8_scan := List.mem_of_getElem? (i := 2) (by rfl)
theorem k_X8_scan_3 : Cond.fieldLink RX8 48 "RingHeapModel" "fields" "[I" ∈ wsX8_scan := List.mem_of_getElem? (i := 3) (by rfl)
def f_X8_scan_72 (N : Nat)  (K10 : Mm → Option (Mm)) (K39 : Int32 → Int32 → Mm → Option (Mm)) (v2 : Int32) (v3 : Int32) (u : Mm) : Option (Mm) :=
  K39 v2 (v3 + 1) u
set_option maxHeartbeats 4000000 in
set_option maxRecDepth 100000 in
theorem j_X8_scan_72 {p : Program} {l : Launch} {e : Env} {s : State} {m : MethodId} {args : Array Value} {below : List Frame} {meth : Method} {c : Code} {D : va_G} {cy : Nat → ClassId} {L : List Nat} {ad : Nat → Nat} {A : Nat → Prop} {o : Mm} (N : Nat)   (C0 : Cx p m meth c cX8_scan none 5 s args wsX8_scan RX8 D cy) (hA : ∀ q : Nat, s.heap.size ≤ q → A q) (K10 : Mm → Option (Mm)) (hK10 : ∀  (u : Mm) (H : Heap) (locs : List Loc) (ls : Array Slot), vn L 8 0 → Wd D cy L ad A s.heap u H locs → lv_has ls 5 [(0, .ref (ad 0))] → K10  u = some o → W p l e ({ frames := 3, cells := 0, slots := 0, locals := 68 } : Room) s m args below meth c H locs 0 0 (MQ below (QcV D cy L ad A o) args s 0 0 A) (F0 m 10 ls [])) (K39 : Int32 → Int32 → Mm → Option (Mm)) (hK39 : ∀ (v2 : Int32) (v3 : Int32) (u : Mm) (H : Heap) (locs : List Loc) (ls : Array Slot), vn L 8 0 → Wd D cy L ad A s.heap u H locs → lv_has ls 5 [(0, .ref (ad 0)), (2, .int v2), (3, .int v3)] → K39 v2 v3 u = some o → W p l e ({ frames := 3, cells := 0, slots := 0, locals := 68 } : Room) s m args below meth c H locs 0 0 (MQ below (QcV D cy L ad A o) args s 0 0 A) (F0 m 39 ls [])) : ∀ (v2 : Int32) (v3 : Int32) (u : Mm) (H : Heap) (locs : List Loc) (ls : Array Slot), vn L 8 0 → Wd D cy L ad A s.heap u H locs → lv_has ls 5 [(0, .ref (ad 0)), (2, .int v2), (3, .int v3)] → f_X8_scan_72 N  K10 K39 v2 v3 u = some o → W p l e ({ frames := 3, cells := 0, slots := 0, locals := 68 } : Room) s m args below meth c H locs 0 0 (MQ below (QcV D cy L ad A o) args s 0 0 A) (F0 m 72 ls []) := by
  obtain ⟨hx, hb, hr, hml, hown, hts, hlocks, hK⟩ := id C0
  intro v2 v3 u H locs ls hv_t0 hw hl h
  unfold f_X8_scan_72 at h
  refine lv_iinc (v := v3 + 1) (lv' := [(3, .int (v3 + 1)), (0, .ref (ad 0)), (2, .int v2)]) hx hb dX8_scan_72 hl (k := 2) rfl rfl (by decide) rfl (fun ls hl => ?_)
  refine lv_goto (tgt := 39) hx hb dX8_scan_75 (by decide) ?_
  exact hK39 v2 (v3 + 1) u _ _ _ hv_t0 hw (lv_sub hl [1, 2, 0] rfl) h
def g_X8_scan_39 (N : Nat)  (K10 : Mm → Option (Mm)) (K39 : Int32 → Int32 → Mm → Option (Mm)) (v2 : Int32) (v3 : Int32) (u : Mm) : Option (Mm) :=
  bd (f_X8_fieldsOf N v2 u) (fun x6 u => if x6 ≤ v3 then (K10 u) else (ck (bI ((6 * v2) + v3) 480) (pt (u.1 12 (ix ((6 * v2) + v3))) (fun x8 => if x8 < 0 then (f_X8_scan_72 N K10 K39 v2 v3 u) else (bv (f_X8_scanOne N x8 u) (fun u => f_X8_scan_72 N K10 K39 v2 v3 u))))))
def f_X8_scan_39 (N : Nat)  (K10 : Mm → Option (Mm)) : Nat → Int32 → Int32 → Mm → Option (Mm)
  | 0 => fun _ _ _ => none
  | n + 1 => g_X8_scan_39 N  K10 (f_X8_scan_39 N  K10 n)
set_option maxHeartbeats 4000000 in
set_option maxRecDepth 100000 in
theorem jg_X8_scan_39 {p : Program} {l : Launch} {e : Env} {s : State} {m : MethodId} {args : Array Value} {below : List Frame} {meth : Method} {c : Code} {D : va_G} {cy : Nat → ClassId} {L : List Nat} {ad : Nat → Nat} {A : Nat → Prop} {o : Mm} (N : Nat)   (C0 : Cx p m meth c cX8_scan none 5 s args wsX8_scan RX8 D cy) (hA : ∀ q : Nat, s.heap.size ≤ q → A q) (K10 : Mm → Option (Mm)) (hK10 : ∀  (u : Mm) (H : Heap) (locs : List Loc) (ls : Array Slot), vn L 8 0 → Wd D cy L ad A s.heap u H locs → lv_has ls 5 [(0, .ref (ad 0))] → K10  u = some o → W p l e ({ frames := 3, cells := 0, slots := 0, locals := 68 } : Room) s m args below meth c H locs 0 0 (MQ below (QcV D cy L ad A o) args s 0 0 A) (F0 m 10 ls [])) (K39 : Int32 → Int32 → Mm → Option (Mm)) (hK39 : ∀ (v2 : Int32) (v3 : Int32) (u : Mm) (H : Heap) (locs : List Loc) (ls : Array Slot), vn L 8 0 → Wd D cy L ad A s.heap u H locs → lv_has ls 5 [(0, .ref (ad 0)), (2, .int v2), (3, .int v3)] → K39 v2 v3 u = some o → W p l e ({ frames := 3, cells := 0, slots := 0, locals := 68 } : Room) s m args below meth c H locs 0 0 (MQ below (QcV D cy L ad A o) args s 0 0 A) (F0 m 39 ls [])) : ∀ (v2 : Int32) (v3 : Int32) (u : Mm) (H : Heap) (locs : List Loc) (ls : Array Slot), vn L 8 0 → Wd D cy L ad A s.heap u H locs → lv_has ls 5 [(0, .ref (ad 0)), (2, .int v2), (3, .int v3)] → g_X8_scan_39 N  K10 K39 v2 v3 u = some o → W p l e ({ frames := 3, cells := 0, slots := 0, locals := 68 } : Room) s m args below meth c H locs 0 0 (MQ below (QcV D cy L ad A o) args s 0 0 A) (F0 m 39 ls []) := by
  obtain ⟨hx, hb, hr, hml, hown, hts, hlocks, hK⟩ := id C0
  intro v2 v3 u H locs ls hv_t0 hw hl h
  unfold g_X8_scan_39 at h
  refine lv_iload_n hx hb dX8_scan_39 rfl (lv_at hl 2 rfl) ?_
  refine lv_aload_n hx hb dX8_scan_40 rfl (lv_at hl 0 rfl) ?_
  refine lv_iload_n hx hb dX8_scan_41 rfl (lv_at hl 1 rfl) ?_
  refine r_bI (fun o ho => r_vI (As := [.int v2]) (rest := [.int v3]) ⟨hx, hb, hml, hown, hts⟩ (c_X8_fieldsOf l D cy L ad N v2 u o hv_t0 ho) (cwV 1 hts gX8_scan_X8_fieldsOf rfl rfl rfl (by decide +kernel) ⟨Nat.le_of_ble_eq_true rfl, Nat.le_of_ble_eq_true rfl⟩) hw hK hv_t0 (by decide) rfl rfl hl.1 rfl (Nat.le_of_ble_eq_true rfl) dX8_scan_42 ⟨Nat.zero_le _, Nat.zero_le _⟩) hw hA h (fun x6 u H locs hw h => ?_)
  refine lv_icmp_ge (tgt := 78) hx hb dX8_scan_45 (by decide) (fun hc => ?_) (fun hc => ?_)
  · rw [if_pos hc] at h
    refine lv_goto (tgt := 10) hx hb dX8_scan_78 (by decide) ?_
    exact hK10 u _ _ _ hv_t0 hw (lv_sub hl [0] rfl) h
  · rw [if_neg hc] at h
    refine lv_aload_n hx hb dX8_scan_48 rfl (lv_at hl 0 rfl) ?_
    refine r_getC (t2 := 9) (d := 12) hx hb hts n_X8_scan_X8 hown hK hw hv_t0 (by decide) rfl 12 (by decide) rfl rfl (hts _ k_X8_scan_3) (fun _ q => q) dX8_scan_49 (fun hv7 => ?_)
    refine lv_bipush (v := 6) hx hb dX8_scan_52 (by decide) ?_
    refine lv_iload_n hx hb dX8_scan_54 rfl (lv_at hl 1 rfl) ?_
    refine lv_imul hx hb dX8_scan_55 ?_
    refine lv_iload_n hx hb dX8_scan_56 rfl (lv_at hl 2 rfl) ?_
    refine lv_iadd hx hb dX8_scan_57 ?_
    refine r_iald (n := 480) hx hb hK hw hv7 rfl dX8_scan_58 h (fun x8 h => ?_)
    refine lv_istore (lv' := [(4, .int x8), (0, .ref (ad 0)), (2, .int v2), (3, .int v3)]) hx hb dX8_scan_59 hl (by decide) rfl (fun ls hl => ?_)
    refine lv_iload hx hb dX8_scan_61 (lv_at hl 0 rfl) ?_
    refine lv_if_lt (tgt := 72) hx hb dX8_scan_63 (by decide) (fun hc => ?_) (fun hc => ?_)
    · rw [if_pos hc] at h
      exact j_X8_scan_72 N C0 hA K10 hK10 K39 hK39 v2 v3 u _ _ _ hv_t0 hw (lv_sub hl [1, 2, 3] rfl) h
    · rw [if_neg hc] at h
      refine lv_aload_n hx hb dX8_scan_66 rfl (lv_at hl 1 rfl) ?_
      refine lv_iload hx hb dX8_scan_67 (lv_at hl 0 rfl) ?_
      refine r_bV (fun o ho => r_vV (As := [.int x8]) (rest := []) ⟨hx, hb, hml, hown, hts⟩ (c_X8_scanOne l D cy L ad N x8 u o hv_t0 ho) (cwV 1 hts gX8_scan_X8_scanOne rfl rfl rfl (by decide +kernel) ⟨Nat.le_of_ble_eq_true rfl, Nat.le_of_ble_eq_true rfl⟩) hw hK hv_t0 (by decide) rfl rfl hl.1 rfl (Nat.le_of_ble_eq_true rfl) dX8_scan_69 ⟨Nat.zero_le _, Nat.zero_le _⟩) hw hA h (fun u H locs hw h => ?_)
      exact j_X8_scan_72 N C0 hA K10 hK10 K39 hK39 v2 v3 u _ _ _ hv_t0 hw (lv_sub hl [1, 2, 3] rfl) h
set_option maxHeartbeats 4000000 in
set_option maxRecDepth 100000 in
theorem j_X8_scan_39 {p : Program} {l : Launch} {e : Env} {s : State} {m : MethodId} {args : Array Value} {below : List Frame} {meth : Method} {c : Code} {D : va_G} {cy : Nat → ClassId} {L : List Nat} {ad : Nat → Nat} {A : Nat → Prop} {o : Mm} (N : Nat)   (C0 : Cx p m meth c cX8_scan none 5 s args wsX8_scan RX8 D cy) (hA : ∀ q : Nat, s.heap.size ≤ q → A q) (K10 : Mm → Option (Mm)) (hK10 : ∀  (u : Mm) (H : Heap) (locs : List Loc) (ls : Array Slot), vn L 8 0 → Wd D cy L ad A s.heap u H locs → lv_has ls 5 [(0, .ref (ad 0))] → K10  u = some o → W p l e ({ frames := 3, cells := 0, slots := 0, locals := 68 } : Room) s m args below meth c H locs 0 0 (MQ below (QcV D cy L ad A o) args s 0 0 A) (F0 m 10 ls [])) : ∀ (n : Nat), ∀ (v2 : Int32) (v3 : Int32) (u : Mm) (H : Heap) (locs : List Loc) (ls : Array Slot), vn L 8 0 → Wd D cy L ad A s.heap u H locs → lv_has ls 5 [(0, .ref (ad 0)), (2, .int v2), (3, .int v3)] → f_X8_scan_39 N  K10 n v2 v3 u = some o → W p l e ({ frames := 3, cells := 0, slots := 0, locals := 68 } : Room) s m args below meth c H locs 0 0 (MQ below (QcV D cy L ad A o) args s 0 0 A) (F0 m 39 ls []) := by
  intro n
  induction n with
  | zero =>
    intro v2 v3 u H locs ls hv_t0 hw hl h
    cases h
  | succ n ih => exact jg_X8_scan_39 N   C0 hA K10 hK10 _ ih
def g_X8_scan_10 (N : Nat)  (K10 : Mm → Option (Mm))  (u : Mm) : Option (Mm) :=
  pt (u.1 0 27) (fun x1 => if x1 ≤ 0 then (some u) else (pt (u.1 0 27) (fun x2 => pt (sI u 0 27 (x2 - 1)) (fun u => pt (u.1 0 27) (fun x4 => ck (bI x4 80) (pt (u.1 25 (ix x4)) (fun x5 => f_X8_scan_39 N K10 N x5 0 u)))))))
def f_X8_scan_10 (N : Nat)   : Nat → Mm → Option (Mm)
  | 0 => fun _ => none
  | n + 1 => g_X8_scan_10 N   (f_X8_scan_10 N   n)
set_option maxHeartbeats 4000000 in
set_option maxRecDepth 100000 in
theorem jg_X8_scan_10 {p : Program} {l : Launch} {e : Env} {s : State} {m : MethodId} {args : Array Value} {below : List Frame} {meth : Method} {c : Code} {D : va_G} {cy : Nat → ClassId} {L : List Nat} {ad : Nat → Nat} {A : Nat → Prop} {o : Mm} (N : Nat)   (C0 : Cx p m meth c cX8_scan none 5 s args wsX8_scan RX8 D cy) (hA : ∀ q : Nat, s.heap.size ≤ q → A q)  (K10 : Mm → Option (Mm)) (hK10 : ∀  (u : Mm) (H : Heap) (locs : List Loc) (ls : Array Slot), vn L 8 0 → Wd D cy L ad A s.heap u H locs → lv_has ls 5 [(0, .ref (ad 0))] → K10  u = some o → W p l e ({ frames := 3, cells := 0, slots := 0, locals := 68 } : Room) s m args below meth c H locs 0 0 (MQ below (QcV D cy L ad A o) args s 0 0 A) (F0 m 10 ls [])) : ∀  (u : Mm) (H : Heap) (locs : List Loc) (ls : Array Slot), vn L 8 0 → Wd D cy L ad A s.heap u H locs → lv_has ls 5 [(0, .ref (ad 0))] → g_X8_scan_10 N   K10  u = some o → W p l e ({ frames := 3, cells := 0, slots := 0, locals := 68 } : Room) s m args below meth c H locs 0 0 (MQ below (QcV D cy L ad A o) args s 0 0 A) (F0 m 10 ls []) := by
  obtain ⟨hx, hb, hr, hml, hown, hts, hlocks, hK⟩ := id C0
  intro  u H locs ls hv_t0 hw hl h
  unfold g_X8_scan_10 at h
  refine lv_aload_n hx hb dX8_scan_10 rfl (lv_at hl 0 rfl) ?_
  refine r_getI hx hb hts n_X8_scan_X8 hown hK hw hv_t0 (by decide) rfl 27 (by decide) rfl (hts _ k_X8_scan_1) (fun _ q => q) dX8_scan_11 h (fun x1 h => ?_)
  refine lv_if_le (tgt := 81) hx hb dX8_scan_14 (by decide) (fun hc => ?_) (fun hc => ?_)
  · rw [if_pos hc] at h
    exact r_vret hx hb hr hlocks hK hw h dX8_scan_81
  · rw [if_neg hc] at h
    refine lv_aload_n hx hb dX8_scan_17 rfl (lv_at hl 0 rfl) ?_
    refine lv_dup hx hb dX8_scan_18 rfl ?_
    refine r_getI hx hb hts n_X8_scan_X8 hown hK hw hv_t0 (by decide) rfl 27 (by decide) rfl (hts _ k_X8_scan_1) (fun _ q => q) dX8_scan_19 h (fun x2 h => ?_)
    refine lv_iconst (v := 1) hx hb dX8_scan_22 (by decide) ?_
    refine lv_isub hx hb dX8_scan_23 ?_
    refine r_putI (ty := .int) hx hb hts n_X8_scan_X8 tyX8 tyX8_ok nmX8 hown hK hw hv_t0 (by decide) rfl 27 (by decide) rfl (hts _ k_X8_scan_1) (fun _ q => q) rfl rfl rfl rfl dX8_scan_24 h (fun u H locs hw h => ?_)
    refine lv_aload_n hx hb dX8_scan_27 rfl (lv_at hl 0 rfl) ?_
    refine r_getC (t2 := 9) (d := 25) hx hb hts n_X8_scan_X8 hown hK hw hv_t0 (by decide) rfl 25 (by decide) rfl rfl (hts _ k_X8_scan_2) (fun _ q => q) dX8_scan_28 (fun hv3 => ?_)
    refine lv_aload_n hx hb dX8_scan_31 rfl (lv_at hl 0 rfl) ?_
    refine r_getI hx hb hts n_X8_scan_X8 hown hK hw hv_t0 (by decide) rfl 27 (by decide) rfl (hts _ k_X8_scan_1) (fun _ q => q) dX8_scan_32 h (fun x4 h => ?_)
    refine r_iald (n := 80) hx hb hK hw hv3 rfl dX8_scan_35 h (fun x5 h => ?_)
    refine lv_istore_n (lv' := [(2, .int x5), (0, .ref (ad 0))]) hx hb dX8_scan_36 rfl hl (by decide) rfl (fun ls hl => ?_)
    refine lv_iconst (v := 0) hx hb dX8_scan_37 (by decide) ?_
    refine lv_istore_n (lv' := [(3, .int 0), (2, .int x5), (0, .ref (ad 0))]) hx hb dX8_scan_38 rfl hl (by decide) rfl (fun ls hl => ?_)
    exact j_X8_scan_39 N C0 hA K10 hK10 N x5 0 u _ _ _ hv_t0 hw (lv_sub hl [2, 1, 0] rfl) h
set_option maxHeartbeats 4000000 in
set_option maxRecDepth 100000 in
theorem j_X8_scan_10 {p : Program} {l : Launch} {e : Env} {s : State} {m : MethodId} {args : Array Value} {below : List Frame} {meth : Method} {c : Code} {D : va_G} {cy : Nat → ClassId} {L : List Nat} {ad : Nat → Nat} {A : Nat → Prop} {o : Mm} (N : Nat)   (C0 : Cx p m meth c cX8_scan none 5 s args wsX8_scan RX8 D cy) (hA : ∀ q : Nat, s.heap.size ≤ q → A q)  : ∀ (n : Nat), ∀  (u : Mm) (H : Heap) (locs : List Loc) (ls : Array Slot), vn L 8 0 → Wd D cy L ad A s.heap u H locs → lv_has ls 5 [(0, .ref (ad 0))] → f_X8_scan_10 N   n  u = some o → W p l e ({ frames := 3, cells := 0, slots := 0, locals := 68 } : Room) s m args below meth c H locs 0 0 (MQ below (QcV D cy L ad A o) args s 0 0 A) (F0 m 10 ls []) := by
  intro n
  induction n with
  | zero =>
    intro  u H locs ls hv_t0 hw hl h
    cases h
  | succ n ih => exact jg_X8_scan_10 N   C0 hA  _ ih
def f_X8_scan (N : Nat) (p0 : Int32) (u : Mm) : Option (Mm) :=
  pt (sI u 0 27 0) (fun u => bv (f_X8_scanOne N p0 u) (fun u => f_X8_scan_10 N N u))
set_option maxHeartbeats 4000000 in
set_option maxRecDepth 100000 in
theorem c_X8_scan (l : Launch) (D : va_G) (cy : Nat → ClassId) (L : List Nat) (ad : Nat → Nat) (N : Nat) (p0 : Int32) (u : Mm) (o : Mm) (h_this : vn L 8 0) (h : f_X8_scan N p0 u = some o) : MtV l yX8_scan wsX8_scan ({ frames := 3, cells := 0, slots := 0, locals := 68 } : Room) D cy L ad [.ref (ad 0), .int p0] u o := by
  intro sz
  refine Met.ofW (cc := cX8_scan) (maxL := 5) (ret := none) (by decide) rfl ?_
  intro p e s m args below meth c s₁ B hml hv
  obtain ⟨rfl, hsz, hP, hK, hD0, hok⟩ := hv
  have hx := B.exec
  have hb := B.bytes
  have hr := B.returns
  have hts := atoms_spec (ws := wsX8_scan) B.pre
  have hown : s.vm.findClass RX8 = some m.cls := findClass_of_methodNamed B.named
  have hlocks := B.notSynchronized
  subst hsz
  have hw := wd_start hP hD0 hok
  have hA : ∀ q : Nat, s.heap.size ≤ q → va_A (wl cy L ad u) s.heap.size q := fun q h => Or.inr h
  generalize va_A (wl cy L ad u) s.heap.size = A at hw hA ⊢
  have C0 : Cx p m meth c cX8_scan none 5 s _ wsX8_scan RX8 D cy := ⟨hx, hb, hr, hml, hown, hts, hlocks, hK⟩
  have hl := lv_entry ([.ref (ad 0), .int p0]) (n := 5) (Nat.le_of_ble_eq_true rfl)
  rw [lg_entry_eq]
  generalize (lg_sl ([.ref (ad 0), .int p0]) ++ List.replicate (5 - (lg_sl ([.ref (ad 0), .int p0])).length) Slot.unset).toArray = ls at hl ⊢
  have hl : lv_has ls 5 [(0, .ref (ad 0)), (1, .int p0)] := hl
  unfold f_X8_scan at h
  refine lv_aload_n hx hb dX8_scan_0 rfl (lv_at hl 0 rfl) ?_
  refine lv_iconst (v := 0) hx hb dX8_scan_1 (by decide) ?_
  refine r_putI (ty := .int) hx hb hts n_X8_scan_X8 tyX8 tyX8_ok nmX8 hown hK hw h_this (by decide) rfl 27 (by decide) rfl (hts _ k_X8_scan_1) (fun _ q => q) rfl rfl rfl rfl dX8_scan_2 h (fun u H locs hw h => ?_)
  refine lv_aload_n hx hb dX8_scan_5 rfl (lv_at hl 0 rfl) ?_
  refine lv_iload_n hx hb dX8_scan_6 rfl (lv_at hl 1 rfl) ?_
  refine r_bV (fun o ho => r_vV (As := [.int p0]) (rest := []) ⟨hx, hb, hml, hown, hts⟩ (c_X8_scanOne l D cy L ad N p0 u o h_this ho) (cwV 1 hts gX8_scan_X8_scanOne rfl rfl rfl (by decide +kernel) ⟨Nat.le_of_ble_eq_true rfl, Nat.le_of_ble_eq_true rfl⟩) hw hK h_this (by decide) rfl rfl hl.1 rfl (Nat.le_of_ble_eq_true rfl) dX8_scan_7 ⟨Nat.zero_le _, Nat.zero_le _⟩) hw hA h (fun u H locs hw h => ?_)
  exact j_X8_scan_10 N C0 hA N u _ _ _ h_this hw (lv_sub hl [0] rfl) h
theorem k_X8_findByAddress_1 : Cond.fieldLink RX8 130 "RingHeapModel" "byAddressCount" "I" ∈ wsX8_findByAddress := List.mem_of_getElem? (i := 1) (by rfl)
theorem n_X8_findByAddress_X8 : ∀ w ∈ u_ws RX8 TX8 31, w ∈ wsX8_findByAddress := fun _ h => List.mem_cons_of_mem _ (List.mem_append_right _ h)
theorem k_X8_findByAddress_2 : Cond.fieldLink RX8 51 "RingHeapModel" "owners" "[I" ∈ wsX8_findByAddress := List.mem_of_getElem? (i := 2) (by rfl)
theorem k_X8_findByAddress_3 : Cond.fieldLink RX8 33 "RingHeapModel" "addresses" "[I" ∈ wsX8_findByAddress := List.mem_of_getElem? (i := 3) (by rfl)
theorem k_X8_findByAddress_4 : Cond.fieldLink RX8 72 "RingHeapModel" "byAddress" "[I" ∈ wsX8_findByAddress := List.mem_of_getElem? (i := 4) (by rfl)
def f_X8_findByAddress_55 (N : Nat)  (K7 : Int32 → Mm → Option (Mm)) (v1 : Int32) (u : Mm) : Option (Mm) :=
  K7 (v1 + 1) u
set_option maxHeartbeats 4000000 in
set_option maxRecDepth 100000 in
theorem j_X8_findByAddress_55 {p : Program} {l : Launch} {e : Env} {s : State} {m : MethodId} {args : Array Value} {below : List Frame} {meth : Method} {c : Code} {D : va_G} {cy : Nat → ClassId} {L : List Nat} {ad : Nat → Nat} {A : Nat → Prop} {o : Mm} (N : Nat)   (C0 : Cx p m meth c cX8_findByAddress none 3 s args wsX8_findByAddress RX8 D cy) (hA : ∀ q : Nat, s.heap.size ≤ q → A q) (K7 : Int32 → Mm → Option (Mm)) (hK7 : ∀ (v1 : Int32) (u : Mm) (H : Heap) (locs : List Loc) (ls : Array Slot), vn L 8 0 → Wd D cy L ad A s.heap u H locs → lv_has ls 3 [(0, .ref (ad 0)), (1, .int v1)] → K7 v1 u = some o → W p l e ({ frames := 0, cells := 0, slots := 0, locals := 0 } : Room) s m args below meth c H locs 0 0 (MQ below (QcV D cy L ad A o) args s 0 0 A) (F0 m 7 ls [])) : ∀ (v1 : Int32) (u : Mm) (H : Heap) (locs : List Loc) (ls : Array Slot), vn L 8 0 → Wd D cy L ad A s.heap u H locs → lv_has ls 3 [(0, .ref (ad 0)), (1, .int v1)] → f_X8_findByAddress_55 N  K7 v1 u = some o → W p l e ({ frames := 0, cells := 0, slots := 0, locals := 0 } : Room) s m args below meth c H locs 0 0 (MQ below (QcV D cy L ad A o) args s 0 0 A) (F0 m 55 ls []) := by
  obtain ⟨hx, hb, hr, hml, hown, hts, hlocks, hK⟩ := id C0
  intro v1 u H locs ls hv_t0 hw hl h
  unfold f_X8_findByAddress_55 at h
  refine lv_iinc (v := v1 + 1) (lv' := [(1, .int (v1 + 1)), (0, .ref (ad 0))]) hx hb dX8_findByAddress_55 hl (k := 1) rfl rfl (by decide) rfl (fun ls hl => ?_)
  refine lv_goto (tgt := 7) hx hb dX8_findByAddress_58 (by decide) ?_
  exact hK7 (v1 + 1) u _ _ _ hv_t0 hw (lv_sub hl [1, 0] rfl) h
def g_X8_findByAddress_7 (N : Nat)  (K7 : Int32 → Mm → Option (Mm)) (v1 : Int32) (u : Mm) : Option (Mm) :=
  if 400 ≤ v1 then (some u) else (ck (bI v1 400) (pt (u.1 13 (ix v1)) (fun x2 => if x2 < 0 then (f_X8_findByAddress_55 N K7 v1 u) else (ck (bI x2 80) (pt (u.1 7 (ix x2)) (fun x4 => if x4 = v1 then (pt (u.1 0 29) (fun x6 => ck (bI x6 80) (pt (sI u 28 (ix x6) x2) (fun u => pt (u.1 0 29) (fun x7 => pt (sI u 0 29 (x7 + 1)) (fun u => f_X8_findByAddress_55 N K7 v1 u)))))) else (f_X8_findByAddress_55 N K7 v1 u)))))))
def f_X8_findByAddress_7 (N : Nat)   : Nat → Int32 → Mm → Option (Mm)
  | 0 => fun _ _ => none
  | n + 1 => g_X8_findByAddress_7 N   (f_X8_findByAddress_7 N   n)
set_option maxHeartbeats 4000000 in
set_option maxRecDepth 100000 in
theorem jg_X8_findByAddress_7 {p : Program} {l : Launch} {e : Env} {s : State} {m : MethodId} {args : Array Value} {below : List Frame} {meth : Method} {c : Code} {D : va_G} {cy : Nat → ClassId} {L : List Nat} {ad : Nat → Nat} {A : Nat → Prop} {o : Mm} (N : Nat)   (C0 : Cx p m meth c cX8_findByAddress none 3 s args wsX8_findByAddress RX8 D cy) (hA : ∀ q : Nat, s.heap.size ≤ q → A q)  (K7 : Int32 → Mm → Option (Mm)) (hK7 : ∀ (v1 : Int32) (u : Mm) (H : Heap) (locs : List Loc) (ls : Array Slot), vn L 8 0 → Wd D cy L ad A s.heap u H locs → lv_has ls 3 [(0, .ref (ad 0)), (1, .int v1)] → K7 v1 u = some o → W p l e ({ frames := 0, cells := 0, slots := 0, locals := 0 } : Room) s m args below meth c H locs 0 0 (MQ below (QcV D cy L ad A o) args s 0 0 A) (F0 m 7 ls [])) : ∀ (v1 : Int32) (u : Mm) (H : Heap) (locs : List Loc) (ls : Array Slot), vn L 8 0 → Wd D cy L ad A s.heap u H locs → lv_has ls 3 [(0, .ref (ad 0)), (1, .int v1)] → g_X8_findByAddress_7 N   K7 v1 u = some o → W p l e ({ frames := 0, cells := 0, slots := 0, locals := 0 } : Room) s m args below meth c H locs 0 0 (MQ below (QcV D cy L ad A o) args s 0 0 A) (F0 m 7 ls []) := by
  obtain ⟨hx, hb, hr, hml, hown, hts, hlocks, hK⟩ := id C0
  intro v1 u H locs ls hv_t0 hw hl h
  unfold g_X8_findByAddress_7 at h
  refine lv_iload_n hx hb dX8_findByAddress_7 rfl (lv_at hl 1 rfl) ?_
  refine lv_sipush (v := 400) hx hb dX8_findByAddress_8 (by decide) ?_
  refine lv_icmp_ge (tgt := 61) hx hb dX8_findByAddress_11 (by decide) (fun hc => ?_) (fun hc => ?_)
  · rw [if_pos hc] at h
    exact r_vret hx hb hr hlocks hK hw h dX8_findByAddress_61
  · rw [if_neg hc] at h
    refine lv_aload_n hx hb dX8_findByAddress_14 rfl (lv_at hl 0 rfl) ?_
    refine r_getC (t2 := 9) (d := 13) hx hb hts n_X8_findByAddress_X8 hown hK hw hv_t0 (by decide) rfl 13 (by decide) rfl rfl (hts _ k_X8_findByAddress_2) (fun _ q => q) dX8_findByAddress_15 (fun hv1 => ?_)
    refine lv_iload_n hx hb dX8_findByAddress_18 rfl (lv_at hl 1 rfl) ?_
    refine r_iald (n := 400) hx hb hK hw hv1 rfl dX8_findByAddress_19 h (fun x2 h => ?_)
    refine lv_istore_n (lv' := [(2, .int x2), (0, .ref (ad 0)), (1, .int v1)]) hx hb dX8_findByAddress_20 rfl hl (by decide) rfl (fun ls hl => ?_)
    refine lv_iload_n hx hb dX8_findByAddress_21 rfl (lv_at hl 0 rfl) ?_
    refine lv_if_lt (tgt := 55) hx hb dX8_findByAddress_22 (by decide) (fun hc => ?_) (fun hc => ?_)
    · rw [if_pos hc] at h
      exact j_X8_findByAddress_55 N C0 hA K7 hK7 v1 u _ _ _ hv_t0 hw (lv_sub hl [1, 2] rfl) h
    · rw [if_neg hc] at h
      refine lv_aload_n hx hb dX8_findByAddress_25 rfl (lv_at hl 1 rfl) ?_
      refine r_getC (t2 := 9) (d := 7) hx hb hts n_X8_findByAddress_X8 hown hK hw hv_t0 (by decide) rfl 7 (by decide) rfl rfl (hts _ k_X8_findByAddress_3) (fun _ q => q) dX8_findByAddress_26 (fun hv3 => ?_)
      refine lv_iload_n hx hb dX8_findByAddress_29 rfl (lv_at hl 0 rfl) ?_
      refine r_iald (n := 80) hx hb hK hw hv3 rfl dX8_findByAddress_30 h (fun x4 h => ?_)
      refine lv_iload_n hx hb dX8_findByAddress_31 rfl (lv_at hl 2 rfl) ?_
      refine lv_icmp_ne (tgt := 55) hx hb dX8_findByAddress_32 (by decide) (fun hc => ?_) (fun hc => ?_)
      · rw [if_neg hc] at h
        exact j_X8_findByAddress_55 N C0 hA K7 hK7 v1 u _ _ _ hv_t0 hw (lv_sub hl [1, 2] rfl) h
      · rw [if_pos hc] at h
        refine lv_aload_n hx hb dX8_findByAddress_35 rfl (lv_at hl 1 rfl) ?_
        refine r_getC (t2 := 9) (d := 28) hx hb hts n_X8_findByAddress_X8 hown hK hw hv_t0 (by decide) rfl 28 (by decide) rfl rfl (hts _ k_X8_findByAddress_4) (fun _ q => q) dX8_findByAddress_36 (fun hv5 => ?_)
        refine lv_aload_n hx hb dX8_findByAddress_39 rfl (lv_at hl 1 rfl) ?_
        refine r_getI hx hb hts n_X8_findByAddress_X8 hown hK hw hv_t0 (by decide) rfl 29 (by decide) rfl (hts _ k_X8_findByAddress_1) (fun _ q => q) dX8_findByAddress_40 h (fun x6 h => ?_)
        refine lv_iload_n hx hb dX8_findByAddress_43 rfl (lv_at hl 0 rfl) ?_
        refine r_iast (n := 80) hx hb hK hw hv5 rfl dX8_findByAddress_44 h (fun u H locs hw h => ?_)
        refine lv_aload_n hx hb dX8_findByAddress_45 rfl (lv_at hl 1 rfl) ?_
        refine lv_dup hx hb dX8_findByAddress_46 rfl ?_
        refine r_getI hx hb hts n_X8_findByAddress_X8 hown hK hw hv_t0 (by decide) rfl 29 (by decide) rfl (hts _ k_X8_findByAddress_1) (fun _ q => q) dX8_findByAddress_47 h (fun x7 h => ?_)
        refine lv_iconst (v := 1) hx hb dX8_findByAddress_50 (by decide) ?_
        refine lv_iadd hx hb dX8_findByAddress_51 ?_
        refine r_putI (ty := .int) hx hb hts n_X8_findByAddress_X8 tyX8 tyX8_ok nmX8 hown hK hw hv_t0 (by decide) rfl 29 (by decide) rfl (hts _ k_X8_findByAddress_1) (fun _ q => q) rfl rfl rfl rfl dX8_findByAddress_52 h (fun u H locs hw h => ?_)
        exact j_X8_findByAddress_55 N C0 hA K7 hK7 v1 u _ _ _ hv_t0 hw (lv_sub hl [1, 2] rfl) h
set_option maxHeartbeats 4000000 in
set_option maxRecDepth 100000 in
theorem j_X8_findByAddress_7 {p : Program} {l : Launch} {e : Env} {s : State} {m : MethodId} {args : Array Value} {below : List Frame} {meth : Method} {c : Code} {D : va_G} {cy : Nat → ClassId} {L : List Nat} {ad : Nat → Nat} {A : Nat → Prop} {o : Mm} (N : Nat)   (C0 : Cx p m meth c cX8_findByAddress none 3 s args wsX8_findByAddress RX8 D cy) (hA : ∀ q : Nat, s.heap.size ≤ q → A q)  : ∀ (n : Nat), ∀ (v1 : Int32) (u : Mm) (H : Heap) (locs : List Loc) (ls : Array Slot), vn L 8 0 → Wd D cy L ad A s.heap u H locs → lv_has ls 3 [(0, .ref (ad 0)), (1, .int v1)] → f_X8_findByAddress_7 N   n v1 u = some o → W p l e ({ frames := 0, cells := 0, slots := 0, locals := 0 } : Room) s m args below meth c H locs 0 0 (MQ below (QcV D cy L ad A o) args s 0 0 A) (F0 m 7 ls []) := by
  intro n
  induction n with
  | zero =>
    intro v1 u H locs ls hv_t0 hw hl h
    cases h
  | succ n ih => exact jg_X8_findByAddress_7 N   C0 hA  _ ih
def f_X8_findByAddress (N : Nat)  (u : Mm) : Option (Mm) :=
  pt (sI u 0 29 0) (fun u => f_X8_findByAddress_7 N N 0 u)
set_option maxHeartbeats 4000000 in
set_option maxRecDepth 100000 in
theorem c_X8_findByAddress (l : Launch) (D : va_G) (cy : Nat → ClassId) (L : List Nat) (ad : Nat → Nat) (N : Nat)  (u : Mm) (o : Mm) (h_this : vn L 8 0) (h : f_X8_findByAddress N  u = some o) : MtV l yX8_findByAddress wsX8_findByAddress ({ frames := 0, cells := 0, slots := 0, locals := 0 } : Room) D cy L ad [.ref (ad 0)] u o := by
  intro sz
  refine Met.ofW (cc := cX8_findByAddress) (maxL := 3) (ret := none) (by decide) rfl ?_
  intro p e s m args below meth c s₁ B hml hv
  obtain ⟨rfl, hsz, hP, hK, hD0, hok⟩ := hv
  have hx := B.exec
  have hb := B.bytes
  have hr := B.returns
  have hts := atoms_spec (ws := wsX8_findByAddress) B.pre
  have hown : s.vm.findClass RX8 = some m.cls := findClass_of_methodNamed B.named
  have hlocks := B.notSynchronized
  subst hsz
  have hw := wd_start hP hD0 hok
  have hA : ∀ q : Nat, s.heap.size ≤ q → va_A (wl cy L ad u) s.heap.size q := fun q h => Or.inr h
  generalize va_A (wl cy L ad u) s.heap.size = A at hw hA ⊢
  have C0 : Cx p m meth c cX8_findByAddress none 3 s _ wsX8_findByAddress RX8 D cy := ⟨hx, hb, hr, hml, hown, hts, hlocks, hK⟩
  have hl := lv_entry ([.ref (ad 0)]) (n := 3) (Nat.le_of_ble_eq_true rfl)
  rw [lg_entry_eq]
  generalize (lg_sl ([.ref (ad 0)]) ++ List.replicate (3 - (lg_sl ([.ref (ad 0)])).length) Slot.unset).toArray = ls at hl ⊢
  have hl : lv_has ls 3 [(0, .ref (ad 0))] := hl
  unfold f_X8_findByAddress at h
  refine lv_aload_n hx hb dX8_findByAddress_0 rfl (lv_at hl 0 rfl) ?_
  refine lv_iconst (v := 0) hx hb dX8_findByAddress_1 (by decide) ?_
  refine r_putI (ty := .int) hx hb hts n_X8_findByAddress_X8 tyX8 tyX8_ok nmX8 hown hK hw h_this (by decide) rfl 29 (by decide) rfl (hts _ k_X8_findByAddress_1) (fun _ q => q) rfl rfl rfl rfl dX8_findByAddress_2 h (fun u H locs hw h => ?_)
  refine lv_iconst (v := 0) hx hb dX8_findByAddress_5 (by decide) ?_
  refine lv_istore_n (lv' := [(1, .int 0), (0, .ref (ad 0))]) hx hb dX8_findByAddress_6 rfl hl (by decide) rfl (fun ls hl => ?_)
  exact j_X8_findByAddress_7 N C0 hA N 0 u _ _ _ h_this hw (lv_sub hl [1, 0] rfl) h
theorem k_X8_mark_1 : Cond.fieldLink RX8 88 "RingHeapModel" "listCount" "I" ∈ wsX8_mark := List.mem_of_getElem? (i := 1) (by rfl)
theorem n_X8_mark_X8 : ∀ w ∈ u_ws RX8 TX8 31, w ∈ wsX8_mark := fun _ h => List.mem_cons_of_mem _ (List.mem_append_right _ h)
theorem k_X8_mark_2 : Cond.fieldLink RX8 54 "RingHeapModel" "list" "[I" ∈ wsX8_mark := List.mem_of_getElem? (i := 2) (by rfl)
theorem k_X8_mark_3 : Cond.fieldLink RX8 45 "RingHeapModel" "husks" "[Z" ∈ wsX8_mark := List.mem_of_getElem? (i := 3) (by rfl)
theorem k_X8_mark_5 : Cond.fieldLink RX8 30 "RingHeapModel" "colours" "[I" ∈ wsX8_mark := List.mem_of_getElem? (i := 5) (by rfl)
theorem k_X8_mark_4 : Cond.fieldLink RX8 39 "RingHeapModel" "listedNow" "[Z" ∈ wsX8_mark := List.mem_of_getElem? (i := 4) (by rfl)
def f_X8_mark_93 (N : Nat)  (K12 : Int32 → Int32 → Mm → Option (Mm)) (v1 : Int32) (v2 : Int32) (u : Mm) : Option (Mm) :=
  K12 v1 (v2 + 1) u
set_option maxHeartbeats 4000000 in
set_option maxRecDepth 100000 in
theorem j_X8_mark_93 {p : Program} {l : Launch} {e : Env} {s : State} {m : MethodId} {args : Array Value} {below : List Frame} {meth : Method} {c : Code} {D : va_G} {cy : Nat → ClassId} {L : List Nat} {ad : Nat → Nat} {A : Nat → Prop} {o : Mm} (N : Nat)   (C0 : Cx p m meth c cX8_mark none 4 s args wsX8_mark RX8 D cy) (hA : ∀ q : Nat, s.heap.size ≤ q → A q) (K12 : Int32 → Int32 → Mm → Option (Mm)) (hK12 : ∀ (v1 : Int32) (v2 : Int32) (u : Mm) (H : Heap) (locs : List Loc) (ls : Array Slot), vn L 8 0 → Wd D cy L ad A s.heap u H locs → lv_has ls 4 [(0, .ref (ad 0)), (1, .int v1), (2, .int v2)] → K12 v1 v2 u = some o → W p l e ({ frames := 2, cells := 0, slots := 0, locals := 45 } : Room) s m args below meth c H locs 0 0 (MQ below (QcV D cy L ad A o) args s 0 0 A) (F0 m 12 ls [])) : ∀ (v1 : Int32) (v2 : Int32) (u : Mm) (H : Heap) (locs : List Loc) (ls : Array Slot), vn L 8 0 → Wd D cy L ad A s.heap u H locs → lv_has ls 4 [(0, .ref (ad 0)), (1, .int v1), (2, .int v2)] → f_X8_mark_93 N  K12 v1 v2 u = some o → W p l e ({ frames := 2, cells := 0, slots := 0, locals := 45 } : Room) s m args below meth c H locs 0 0 (MQ below (QcV D cy L ad A o) args s 0 0 A) (F0 m 93 ls []) := by
  obtain ⟨hx, hb, hr, hml, hown, hts, hlocks, hK⟩ := id C0
  intro v1 v2 u H locs ls hv_t0 hw hl h
  unfold f_X8_mark_93 at h
  refine lv_iinc (v := v2 + 1) (lv' := [(2, .int (v2 + 1)), (0, .ref (ad 0)), (1, .int v1)]) hx hb dX8_mark_93 hl (k := 2) rfl rfl (by decide) rfl (fun ls hl => ?_)
  refine lv_goto (tgt := 12) hx hb dX8_mark_96 (by decide) ?_
  exact hK12 v1 (v2 + 1) u _ _ _ hv_t0 hw (lv_sub hl [1, 2, 0] rfl) h
def g_X8_mark_12 (N : Nat)  (K12 : Int32 → Int32 → Mm → Option (Mm)) (v1 : Int32) (v2 : Int32) (u : Mm) : Option (Mm) :=
  if v1 ≤ v2 then (some u) else (ck (bI v2 80) (pt (u.1 14 (ix v2)) (fun x3 => ck (bI x3 80) (pt (u.1 11 (ix x3)) (fun x5 => if x5 = 0 then (ck (bI x3 80) (pt (u.1 6 (ix x3)) (fun x7 => if x7 = 1 then (ck (bI x3 80) (pt (sI u 9 (ix x3) (vp_nar .boolean 0)) (fun u => f_X8_mark_93 N K12 v1 v2 u))) else (bv (f_X8_gray N x3 u) (fun u => pt (u.1 0 15) (fun x9 => ck (bI x9 80) (pt (sI u 14 (ix x9) x3) (fun u => pt (u.1 0 15) (fun x10 => pt (sI u 0 15 (x10 + 1)) (fun u => f_X8_mark_93 N K12 v1 v2 u)))))))))) else (ck (bI x3 80) (pt (sI u 9 (ix x3) (vp_nar .boolean 0)) (fun u => bv (f_X8_free N x3 u) (fun u => f_X8_mark_93 N K12 v1 v2 u)))))))))
def f_X8_mark_12 (N : Nat)   : Nat → Int32 → Int32 → Mm → Option (Mm)
  | 0 => fun _ _ _ => none
  | n + 1 => g_X8_mark_12 N   (f_X8_mark_12 N   n)
set_option maxHeartbeats 4000000 in
set_option maxRecDepth 100000 in
theorem jg_X8_mark_12 {p : Program} {l : Launch} {e : Env} {s : State} {m : MethodId} {args : Array Value} {below : List Frame} {meth : Method} {c : Code} {D : va_G} {cy : Nat → ClassId} {L : List Nat} {ad : Nat → Nat} {A : Nat → Prop} {o : Mm} (N : Nat)   (C0 : Cx p m meth c cX8_mark none 4 s args wsX8_mark RX8 D cy) (hA : ∀ q : Nat, s.heap.size ≤ q → A q)  (K12 : Int32 → Int32 → Mm → Option (Mm)) (hK12 : ∀ (v1 : Int32) (v2 : Int32) (u : Mm) (H : Heap) (locs : List Loc) (ls : Array Slot), vn L 8 0 → Wd D cy L ad A s.heap u H locs → lv_has ls 4 [(0, .ref (ad 0)), (1, .int v1), (2, .int v2)] → K12 v1 v2 u = some o → W p l e ({ frames := 2, cells := 0, slots := 0, locals := 45 } : Room) s m args below meth c H locs 0 0 (MQ below (QcV D cy L ad A o) args s 0 0 A) (F0 m 12 ls [])) : ∀ (v1 : Int32) (v2 : Int32) (u : Mm) (H : Heap) (locs : List Loc) (ls : Array Slot), vn L 8 0 → Wd D cy L ad A s.heap u H locs → lv_has ls 4 [(0, .ref (ad 0)), (1, .int v1), (2, .int v2)] → g_X8_mark_12 N   K12 v1 v2 u = some o → W p l e ({ frames := 2, cells := 0, slots := 0, locals := 45 } : Room) s m args below meth c H locs 0 0 (MQ below (QcV D cy L ad A o) args s 0 0 A) (F0 m 12 ls []) := by
  obtain ⟨hx, hb, hr, hml, hown, hts, hlocks, hK⟩ := id C0
  intro v1 v2 u H locs ls hv_t0 hw hl h
  unfold g_X8_mark_12 at h
  refine lv_iload_n hx hb dX8_mark_12 rfl (lv_at hl 2 rfl) ?_
  refine lv_iload_n hx hb dX8_mark_13 rfl (lv_at hl 1 rfl) ?_
  refine lv_icmp_ge (tgt := 99) hx hb dX8_mark_14 (by decide) (fun hc => ?_) (fun hc => ?_)
  · rw [if_pos hc] at h
    exact r_vret hx hb hr hlocks hK hw h dX8_mark_99
  · rw [if_neg hc] at h
    refine lv_aload_n hx hb dX8_mark_17 rfl (lv_at hl 0 rfl) ?_
    refine r_getC (t2 := 9) (d := 14) hx hb hts n_X8_mark_X8 hown hK hw hv_t0 (by decide) rfl 14 (by decide) rfl rfl (hts _ k_X8_mark_2) (fun _ q => q) dX8_mark_18 (fun hv2 => ?_)
    refine lv_iload_n hx hb dX8_mark_21 rfl (lv_at hl 2 rfl) ?_
    refine r_iald (n := 80) hx hb hK hw hv2 rfl dX8_mark_22 h (fun x3 h => ?_)
    refine lv_istore_n (lv' := [(3, .int x3), (0, .ref (ad 0)), (1, .int v1), (2, .int v2)]) hx hb dX8_mark_23 rfl hl (by decide) rfl (fun ls hl => ?_)
    refine lv_aload_n hx hb dX8_mark_24 rfl (lv_at hl 1 rfl) ?_
    refine r_getC (t2 := 10) (d := 11) hx hb hts n_X8_mark_X8 hown hK hw hv_t0 (by decide) rfl 11 (by decide) rfl rfl (hts _ k_X8_mark_3) (fun _ q => q) dX8_mark_25 (fun hv4 => ?_)
    refine lv_iload_n hx hb dX8_mark_28 rfl (lv_at hl 0 rfl) ?_
    refine r_zald (n := 80) hx hb hK hw hv4 rfl dX8_mark_29 h (fun x5 h => ?_)
    refine lv_if_eq (tgt := 48) hx hb dX8_mark_30 (by decide) (fun hc => ?_) (fun hc => ?_)
    · rw [if_pos hc] at h
      refine lv_aload_n hx hb dX8_mark_48 rfl (lv_at hl 1 rfl) ?_
      refine r_getC (t2 := 9) (d := 6) hx hb hts n_X8_mark_X8 hown hK hw hv_t0 (by decide) rfl 6 (by decide) rfl rfl (hts _ k_X8_mark_5) (fun _ q => q) dX8_mark_49 (fun hv6 => ?_)
      refine lv_iload_n hx hb dX8_mark_52 rfl (lv_at hl 0 rfl) ?_
      refine r_iald (n := 80) hx hb hK hw hv6 rfl dX8_mark_53 h (fun x7 h => ?_)
      refine lv_iconst (v := 1) hx hb dX8_mark_54 (by decide) ?_
      refine lv_icmp_ne (tgt := 68) hx hb dX8_mark_55 (by decide) (fun hc => ?_) (fun hc => ?_)
      · rw [if_neg hc] at h
        refine lv_aload_n hx hb dX8_mark_68 rfl (lv_at hl 1 rfl) ?_
        refine lv_iload_n hx hb dX8_mark_69 rfl (lv_at hl 0 rfl) ?_
        refine r_bV (fun o ho => r_vV (As := [.int x3]) (rest := []) ⟨hx, hb, hml, hown, hts⟩ (c_X8_gray l D cy L ad N x3 u o hv_t0 ho) (cwV 1 hts gX8_mark_X8_gray rfl rfl rfl (by decide +kernel) ⟨Nat.le_of_ble_eq_true rfl, Nat.le_of_ble_eq_true rfl⟩) hw hK hv_t0 (by decide) rfl rfl hl.1 rfl (Nat.le_of_ble_eq_true rfl) dX8_mark_70 ⟨Nat.zero_le _, Nat.zero_le _⟩) hw hA h (fun u H locs hw h => ?_)
        refine lv_aload_n hx hb dX8_mark_73 rfl (lv_at hl 1 rfl) ?_
        refine r_getC (t2 := 9) (d := 14) hx hb hts n_X8_mark_X8 hown hK hw hv_t0 (by decide) rfl 14 (by decide) rfl rfl (hts _ k_X8_mark_2) (fun _ q => q) dX8_mark_74 (fun hv8 => ?_)
        refine lv_aload_n hx hb dX8_mark_77 rfl (lv_at hl 1 rfl) ?_
        refine r_getI hx hb hts n_X8_mark_X8 hown hK hw hv_t0 (by decide) rfl 15 (by decide) rfl (hts _ k_X8_mark_1) (fun _ q => q) dX8_mark_78 h (fun x9 h => ?_)
        refine lv_iload_n hx hb dX8_mark_81 rfl (lv_at hl 0 rfl) ?_
        refine r_iast (n := 80) hx hb hK hw hv8 rfl dX8_mark_82 h (fun u H locs hw h => ?_)
        refine lv_aload_n hx hb dX8_mark_83 rfl (lv_at hl 1 rfl) ?_
        refine lv_dup hx hb dX8_mark_84 rfl ?_
        refine r_getI hx hb hts n_X8_mark_X8 hown hK hw hv_t0 (by decide) rfl 15 (by decide) rfl (hts _ k_X8_mark_1) (fun _ q => q) dX8_mark_85 h (fun x10 h => ?_)
        refine lv_iconst (v := 1) hx hb dX8_mark_88 (by decide) ?_
        refine lv_iadd hx hb dX8_mark_89 ?_
        refine r_putI (ty := .int) hx hb hts n_X8_mark_X8 tyX8 tyX8_ok nmX8 hown hK hw hv_t0 (by decide) rfl 15 (by decide) rfl (hts _ k_X8_mark_1) (fun _ q => q) rfl rfl rfl rfl dX8_mark_90 h (fun u H locs hw h => ?_)
        exact j_X8_mark_93 N C0 hA K12 hK12 v1 v2 u _ _ _ hv_t0 hw (lv_sub hl [1, 2, 3] rfl) h
      · rw [if_pos hc] at h
        refine lv_aload_n hx hb dX8_mark_58 rfl (lv_at hl 1 rfl) ?_
        refine r_getC (t2 := 10) (d := 9) hx hb hts n_X8_mark_X8 hown hK hw hv_t0 (by decide) rfl 9 (by decide) rfl rfl (hts _ k_X8_mark_4) (fun _ q => q) dX8_mark_59 (fun hv11 => ?_)
        refine lv_iload_n hx hb dX8_mark_62 rfl (lv_at hl 0 rfl) ?_
        refine lv_iconst (v := 0) hx hb dX8_mark_63 (by decide) ?_
        refine r_zast (n := 80) hx hb hK hw hv11 rfl dX8_mark_64 h (fun u H locs hw h => ?_)
        refine lv_goto (tgt := 93) hx hb dX8_mark_65 (by decide) ?_
        exact j_X8_mark_93 N C0 hA K12 hK12 v1 v2 u _ _ _ hv_t0 hw (lv_sub hl [1, 2, 3] rfl) h
    · rw [if_neg hc] at h
      refine lv_aload_n hx hb dX8_mark_33 rfl (lv_at hl 1 rfl) ?_
      refine r_getC (t2 := 10) (d := 9) hx hb hts n_X8_mark_X8 hown hK hw hv_t0 (by decide) rfl 9 (by decide) rfl rfl (hts _ k_X8_mark_4) (fun _ q => q) dX8_mark_34 (fun hv12 => ?_)
      refine lv_iload_n hx hb dX8_mark_37 rfl (lv_at hl 0 rfl) ?_
      refine lv_iconst (v := 0) hx hb dX8_mark_38 (by decide) ?_
      refine r_zast (n := 80) hx hb hK hw hv12 rfl dX8_mark_39 h (fun u H locs hw h => ?_)
      refine lv_aload_n hx hb dX8_mark_40 rfl (lv_at hl 1 rfl) ?_
      refine lv_iload_n hx hb dX8_mark_41 rfl (lv_at hl 0 rfl) ?_
      refine r_bV (fun o ho => r_vV (As := [.int x3]) (rest := []) ⟨hx, hb, hml, hown, hts⟩ (c_X8_free l D cy L ad N x3 u o hv_t0 ho) (cwV 1 hts gX8_mark_X8_free rfl rfl rfl (by decide +kernel) ⟨Nat.le_of_ble_eq_true rfl, Nat.le_of_ble_eq_true rfl⟩) hw hK hv_t0 (by decide) rfl rfl hl.1 rfl (Nat.le_of_ble_eq_true rfl) dX8_mark_42 ⟨Nat.zero_le _, Nat.zero_le _⟩) hw hA h (fun u H locs hw h => ?_)
      refine lv_goto (tgt := 93) hx hb dX8_mark_45 (by decide) ?_
      exact j_X8_mark_93 N C0 hA K12 hK12 v1 v2 u _ _ _ hv_t0 hw (lv_sub hl [1, 2, 3] rfl) h
set_option maxHeartbeats 4000000 in
set_option maxRecDepth 100000 in
theorem j_X8_mark_12 {p : Program} {l : Launch} {e : Env} {s : State} {m : MethodId} {args : Array Value} {below : List Frame} {meth : Method} {c : Code} {D : va_G} {cy : Nat → ClassId} {L : List Nat} {ad : Nat → Nat} {A : Nat → Prop} {o : Mm} (N : Nat)   (C0 : Cx p m meth c cX8_mark none 4 s args wsX8_mark RX8 D cy) (hA : ∀ q : Nat, s.heap.size ≤ q → A q)  : ∀ (n : Nat), ∀ (v1 : Int32) (v2 : Int32) (u : Mm) (H : Heap) (locs : List Loc) (ls : Array Slot), vn L 8 0 → Wd D cy L ad A s.heap u H locs → lv_has ls 4 [(0, .ref (ad 0)), (1, .int v1), (2, .int v2)] → f_X8_mark_12 N   n v1 v2 u = some o → W p l e ({ frames := 2, cells := 0, slots := 0, locals := 45 } : Room) s m args below meth c H locs 0 0 (MQ below (QcV D cy L ad A o) args s 0 0 A) (F0 m 12 ls []) := by
  intro n
  induction n with
  | zero =>
    intro v1 v2 u H locs ls hv_t0 hw hl h
    cases h
  | succ n ih => exact jg_X8_mark_12 N   C0 hA  _ ih
def f_X8_mark (N : Nat)  (u : Mm) : Option (Mm) :=
  pt (u.1 0 15) (fun x1 => pt (sI u 0 15 0) (fun u => f_X8_mark_12 N N x1 0 u))
set_option maxHeartbeats 4000000 in
set_option maxRecDepth 100000 in
theorem c_X8_mark (l : Launch) (D : va_G) (cy : Nat → ClassId) (L : List Nat) (ad : Nat → Nat) (N : Nat)  (u : Mm) (o : Mm) (h_this : vn L 8 0) (h : f_X8_mark N  u = some o) : MtV l yX8_mark wsX8_mark ({ frames := 2, cells := 0, slots := 0, locals := 45 } : Room) D cy L ad [.ref (ad 0)] u o := by
  intro sz
  refine Met.ofW (cc := cX8_mark) (maxL := 4) (ret := none) (by decide) rfl ?_
  intro p e s m args below meth c s₁ B hml hv
  obtain ⟨rfl, hsz, hP, hK, hD0, hok⟩ := hv
  have hx := B.exec
  have hb := B.bytes
  have hr := B.returns
  have hts := atoms_spec (ws := wsX8_mark) B.pre
  have hown : s.vm.findClass RX8 = some m.cls := findClass_of_methodNamed B.named
  have hlocks := B.notSynchronized
  subst hsz
  have hw := wd_start hP hD0 hok
  have hA : ∀ q : Nat, s.heap.size ≤ q → va_A (wl cy L ad u) s.heap.size q := fun q h => Or.inr h
  generalize va_A (wl cy L ad u) s.heap.size = A at hw hA ⊢
  have C0 : Cx p m meth c cX8_mark none 4 s _ wsX8_mark RX8 D cy := ⟨hx, hb, hr, hml, hown, hts, hlocks, hK⟩
  have hl := lv_entry ([.ref (ad 0)]) (n := 4) (Nat.le_of_ble_eq_true rfl)
  rw [lg_entry_eq]
  generalize (lg_sl ([.ref (ad 0)]) ++ List.replicate (4 - (lg_sl ([.ref (ad 0)])).length) Slot.unset).toArray = ls at hl ⊢
  have hl : lv_has ls 4 [(0, .ref (ad 0))] := hl
  unfold f_X8_mark at h
  refine lv_aload_n hx hb dX8_mark_0 rfl (lv_at hl 0 rfl) ?_
  refine r_getI hx hb hts n_X8_mark_X8 hown hK hw h_this (by decide) rfl 15 (by decide) rfl (hts _ k_X8_mark_1) (fun _ q => q) dX8_mark_1 h (fun x1 h => ?_)
  refine lv_istore_n (lv' := [(1, .int x1), (0, .ref (ad 0))]) hx hb dX8_mark_4 rfl hl (by decide) rfl (fun ls hl => ?_)
  refine lv_aload_n hx hb dX8_mark_5 rfl (lv_at hl 1 rfl) ?_
  refine lv_iconst (v := 0) hx hb dX8_mark_6 (by decide) ?_
  refine r_putI (ty := .int) hx hb hts n_X8_mark_X8 tyX8 tyX8_ok nmX8 hown hK hw h_this (by decide) rfl 15 (by decide) rfl (hts _ k_X8_mark_1) (fun _ q => q) rfl rfl rfl rfl dX8_mark_7 h (fun u H locs hw h => ?_)
  refine lv_iconst (v := 0) hx hb dX8_mark_10 (by decide) ?_
  refine lv_istore_n (lv' := [(2, .int 0), (1, .int x1), (0, .ref (ad 0))]) hx hb dX8_mark_11 rfl hl (by decide) rfl (fun ls hl => ?_)
  exact j_X8_mark_12 N C0 hA N x1 0 u _ _ _ h_this hw (lv_sub hl [2, 1, 0] rfl) h
theorem k_X8_gather_1 : Cond.fieldLink RX8 88 "RingHeapModel" "listCount" "I" ∈ wsX8_gather := List.mem_of_getElem? (i := 1) (by rfl)
theorem n_X8_gather_X8 : ∀ w ∈ u_ws RX8 TX8 31, w ∈ wsX8_gather := fun _ h => List.mem_cons_of_mem _ (List.mem_append_right _ h)
theorem k_X8_gather_4 : Cond.fieldLink RX8 130 "RingHeapModel" "byAddressCount" "I" ∈ wsX8_gather := List.mem_of_getElem? (i := 4) (by rfl)
theorem k_X8_gather_5 : Cond.fieldLink RX8 72 "RingHeapModel" "byAddress" "[I" ∈ wsX8_gather := List.mem_of_getElem? (i := 5) (by rfl)
theorem k_X8_gather_6 : Cond.fieldLink RX8 30 "RingHeapModel" "colours" "[I" ∈ wsX8_gather := List.mem_of_getElem? (i := 6) (by rfl)
theorem k_X8_gather_7 : Cond.fieldLink RX8 48 "RingHeapModel" "fields" "[I" ∈ wsX8_gather := List.mem_of_getElem? (i := 7) (by rfl)
theorem k_X8_gather_2 : Cond.fieldLink RX8 39 "RingHeapModel" "listedNow" "[Z" ∈ wsX8_gather := List.mem_of_getElem? (i := 2) (by rfl)
theorem k_X8_gather_3 : Cond.fieldLink RX8 54 "RingHeapModel" "list" "[I" ∈ wsX8_gather := List.mem_of_getElem? (i := 3) (by rfl)
def f_X8_gather_125 (N : Nat)  (K35 : Int32 → Mm → Option (Mm)) (v1 : Int32) (u : Mm) : Option (Mm) :=
  K35 (v1 + 1) u
set_option maxHeartbeats 4000000 in
set_option maxRecDepth 100000 in
theorem j_X8_gather_125 {p : Program} {l : Launch} {e : Env} {s : State} {m : MethodId} {args : Array Value} {below : List Frame} {meth : Method} {c : Code} {D : va_G} {cy : Nat → ClassId} {L : List Nat} {ad : Nat → Nat} {A : Nat → Prop} {o : Mm} (N : Nat)   (C0 : Cx p m meth c cX8_gather none 5 s args wsX8_gather RX8 D cy) (hA : ∀ q : Nat, s.heap.size ≤ q → A q) (K35 : Int32 → Mm → Option (Mm)) (hK35 : ∀ (v1 : Int32) (u : Mm) (H : Heap) (locs : List Loc) (ls : Array Slot), vn L 8 0 → Wd D cy L ad A s.heap u H locs → lv_has ls 5 [(0, .ref (ad 0)), (1, .int v1)] → K35 v1 u = some o → W p l e ({ frames := 3, cells := 0, slots := 0, locals := 68 } : Room) s m args below meth c H locs 0 0 (MQ below (QcV D cy L ad A o) args s 0 0 A) (F0 m 35 ls [])) : ∀ (v1 : Int32) (u : Mm) (H : Heap) (locs : List Loc) (ls : Array Slot), vn L 8 0 → Wd D cy L ad A s.heap u H locs → lv_has ls 5 [(0, .ref (ad 0)), (1, .int v1)] → f_X8_gather_125 N  K35 v1 u = some o → W p l e ({ frames := 3, cells := 0, slots := 0, locals := 68 } : Room) s m args below meth c H locs 0 0 (MQ below (QcV D cy L ad A o) args s 0 0 A) (F0 m 125 ls []) := by
  obtain ⟨hx, hb, hr, hml, hown, hts, hlocks, hK⟩ := id C0
  intro v1 u H locs ls hv_t0 hw hl h
  unfold f_X8_gather_125 at h
  refine lv_iinc (v := v1 + 1) (lv' := [(1, .int (v1 + 1)), (0, .ref (ad 0))]) hx hb dX8_gather_125 hl (k := 1) rfl rfl (by decide) rfl (fun ls hl => ?_)
  refine lv_goto (tgt := 35) hx hb dX8_gather_128 (by decide) ?_
  exact hK35 (v1 + 1) u _ _ _ hv_t0 hw (lv_sub hl [1, 0] rfl) h
def f_X8_gather_114 (N : Nat)  (K35 : Int32 → Mm → Option (Mm)) (K70 : Int32 → Int32 → Int32 → Mm → Option (Mm)) (v1 : Int32) (v2 : Int32) (v3 : Int32) (u : Mm) : Option (Mm) :=
  K70 v1 v2 (v3 + 1) u
set_option maxHeartbeats 4000000 in
set_option maxRecDepth 100000 in
theorem j_X8_gather_114 {p : Program} {l : Launch} {e : Env} {s : State} {m : MethodId} {args : Array Value} {below : List Frame} {meth : Method} {c : Code} {D : va_G} {cy : Nat → ClassId} {L : List Nat} {ad : Nat → Nat} {A : Nat → Prop} {o : Mm} (N : Nat)   (C0 : Cx p m meth c cX8_gather none 5 s args wsX8_gather RX8 D cy) (hA : ∀ q : Nat, s.heap.size ≤ q → A q) (K35 : Int32 → Mm → Option (Mm)) (hK35 : ∀ (v1 : Int32) (u : Mm) (H : Heap) (locs : List Loc) (ls : Array Slot), vn L 8 0 → Wd D cy L ad A s.heap u H locs → lv_has ls 5 [(0, .ref (ad 0)), (1, .int v1)] → K35 v1 u = some o → W p l e ({ frames := 3, cells := 0, slots := 0, locals := 68 } : Room) s m args below meth c H locs 0 0 (MQ below (QcV D cy L ad A o) args s 0 0 A) (F0 m 35 ls [])) (K70 : Int32 → Int32 → Int32 → Mm → Option (Mm)) (hK70 : ∀ (v1 : Int32) (v2 : Int32) (v3 : Int32) (u : Mm) (H : Heap) (locs : List Loc) (ls : Array Slot), vn L 8 0 → Wd D cy L ad A s.heap u H locs → lv_has ls 5 [(0, .ref (ad 0)), (1, .int v1), (2, .int v2), (3, .int v3)] → K70 v1 v2 v3 u = some o → W p l e ({ frames := 3, cells := 0, slots := 0, locals := 68 } : Room) s m args below meth c H locs 0 0 (MQ below (QcV D cy L ad A o) args s 0 0 A) (F0 m 70 ls [])) : ∀ (v1 : Int32) (v2 : Int32) (v3 : Int32) (u : Mm) (H : Heap) (locs : List Loc) (ls : Array Slot), vn L 8 0 → Wd D cy L ad A s.heap u H locs → lv_has ls 5 [(0, .ref (ad 0)), (1, .int v1), (2, .int v2), (3, .int v3)] → f_X8_gather_114 N  K35 K70 v1 v2 v3 u = some o → W p l e ({ frames := 3, cells := 0, slots := 0, locals := 68 } : Room) s m args below meth c H locs 0 0 (MQ below (QcV D cy L ad A o) args s 0 0 A) (F0 m 114 ls []) := by
  obtain ⟨hx, hb, hr, hml, hown, hts, hlocks, hK⟩ := id C0
  intro v1 v2 v3 u H locs ls hv_t0 hw hl h
  unfold f_X8_gather_114 at h
  refine lv_iinc (v := v3 + 1) (lv' := [(3, .int (v3 + 1)), (0, .ref (ad 0)), (1, .int v1), (2, .int v2)]) hx hb dX8_gather_114 hl (k := 3) rfl rfl (by decide) rfl (fun ls hl => ?_)
  refine lv_goto (tgt := 70) hx hb dX8_gather_117 (by decide) ?_
  exact hK70 v1 v2 (v3 + 1) u _ _ _ hv_t0 hw (lv_sub hl [1, 2, 3, 0] rfl) h
def g_X8_gather_70 (N : Nat)  (K35 : Int32 → Mm → Option (Mm)) (K70 : Int32 → Int32 → Int32 → Mm → Option (Mm)) (v1 : Int32) (v2 : Int32) (v3 : Int32) (u : Mm) : Option (Mm) :=
  bd (f_X8_fieldsOf N v2 u) (fun x8 u => if x8 ≤ v3 then (bv (f_X8_free N v2 u) (fun u => f_X8_gather_125 N K35 v1 u)) else (ck (bI ((6 * v2) + v3) 480) (pt (u.1 12 (ix ((6 * v2) + v3))) (fun x10 => if x10 < 0 then (f_X8_gather_114 N K35 K70 v1 v2 v3 u) else (ck (bI x10 80) (pt (u.1 6 (ix x10)) (fun x12 => if x12 = 4 then (bv (f_X8_less N x10 u) (fun u => f_X8_gather_114 N K35 K70 v1 v2 v3 u)) else (f_X8_gather_114 N K35 K70 v1 v2 v3 u))))))))
def f_X8_gather_70 (N : Nat)  (K35 : Int32 → Mm → Option (Mm)) : Nat → Int32 → Int32 → Int32 → Mm → Option (Mm)
  | 0 => fun _ _ _ _ => none
  | n + 1 => g_X8_gather_70 N  K35 (f_X8_gather_70 N  K35 n)
set_option maxHeartbeats 4000000 in
set_option maxRecDepth 100000 in
theorem jg_X8_gather_70 {p : Program} {l : Launch} {e : Env} {s : State} {m : MethodId} {args : Array Value} {below : List Frame} {meth : Method} {c : Code} {D : va_G} {cy : Nat → ClassId} {L : List Nat} {ad : Nat → Nat} {A : Nat → Prop} {o : Mm} (N : Nat)   (C0 : Cx p m meth c cX8_gather none 5 s args wsX8_gather RX8 D cy) (hA : ∀ q : Nat, s.heap.size ≤ q → A q) (K35 : Int32 → Mm → Option (Mm)) (hK35 : ∀ (v1 : Int32) (u : Mm) (H : Heap) (locs : List Loc) (ls : Array Slot), vn L 8 0 → Wd D cy L ad A s.heap u H locs → lv_has ls 5 [(0, .ref (ad 0)), (1, .int v1)] → K35 v1 u = some o → W p l e ({ frames := 3, cells := 0, slots := 0, locals := 68 } : Room) s m args below meth c H locs 0 0 (MQ below (QcV D cy L ad A o) args s 0 0 A) (F0 m 35 ls [])) (K70 : Int32 → Int32 → Int32 → Mm → Option (Mm)) (hK70 : ∀ (v1 : Int32) (v2 : Int32) (v3 : Int32) (u : Mm) (H : Heap) (locs : List Loc) (ls : Array Slot), vn L 8 0 → Wd D cy L ad A s.heap u H locs → lv_has ls 5 [(0, .ref (ad 0)), (1, .int v1), (2, .int v2), (3, .int v3)] → K70 v1 v2 v3 u = some o → W p l e ({ frames := 3, cells := 0, slots := 0, locals := 68 } : Room) s m args below meth c H locs 0 0 (MQ below (QcV D cy L ad A o) args s 0 0 A) (F0 m 70 ls [])) : ∀ (v1 : Int32) (v2 : Int32) (v3 : Int32) (u : Mm) (H : Heap) (locs : List Loc) (ls : Array Slot), vn L 8 0 → Wd D cy L ad A s.heap u H locs → lv_has ls 5 [(0, .ref (ad 0)), (1, .int v1), (2, .int v2), (3, .int v3)] → g_X8_gather_70 N  K35 K70 v1 v2 v3 u = some o → W p l e ({ frames := 3, cells := 0, slots := 0, locals := 68 } : Room) s m args below meth c H locs 0 0 (MQ below (QcV D cy L ad A o) args s 0 0 A) (F0 m 70 ls []) := by
  obtain ⟨hx, hb, hr, hml, hown, hts, hlocks, hK⟩ := id C0
  intro v1 v2 v3 u H locs ls hv_t0 hw hl h
  unfold g_X8_gather_70 at h
  refine lv_iload_n hx hb dX8_gather_70 rfl (lv_at hl 3 rfl) ?_
  refine lv_aload_n hx hb dX8_gather_71 rfl (lv_at hl 0 rfl) ?_
  refine lv_iload_n hx hb dX8_gather_72 rfl (lv_at hl 2 rfl) ?_
  refine r_bI (fun o ho => r_vI (As := [.int v2]) (rest := [.int v3]) ⟨hx, hb, hml, hown, hts⟩ (c_X8_fieldsOf l D cy L ad N v2 u o hv_t0 ho) (cwV 1 hts gX8_gather_X8_fieldsOf rfl rfl rfl (by decide +kernel) ⟨Nat.le_of_ble_eq_true rfl, Nat.le_of_ble_eq_true rfl⟩) hw hK hv_t0 (by decide) rfl rfl hl.1 rfl (Nat.le_of_ble_eq_true rfl) dX8_gather_73 ⟨Nat.zero_le _, Nat.zero_le _⟩) hw hA h (fun x8 u H locs hw h => ?_)
  refine lv_icmp_ge (tgt := 120) hx hb dX8_gather_76 (by decide) (fun hc => ?_) (fun hc => ?_)
  · rw [if_pos hc] at h
    refine lv_aload_n hx hb dX8_gather_120 rfl (lv_at hl 0 rfl) ?_
    refine lv_iload_n hx hb dX8_gather_121 rfl (lv_at hl 2 rfl) ?_
    refine r_bV (fun o ho => r_vV (As := [.int v2]) (rest := []) ⟨hx, hb, hml, hown, hts⟩ (c_X8_free l D cy L ad N v2 u o hv_t0 ho) (cwV 1 hts gX8_gather_X8_free rfl rfl rfl (by decide +kernel) ⟨Nat.le_of_ble_eq_true rfl, Nat.le_of_ble_eq_true rfl⟩) hw hK hv_t0 (by decide) rfl rfl hl.1 rfl (Nat.le_of_ble_eq_true rfl) dX8_gather_122 ⟨Nat.zero_le _, Nat.zero_le _⟩) hw hA h (fun u H locs hw h => ?_)
    exact j_X8_gather_125 N C0 hA K35 hK35 v1 u _ _ _ hv_t0 hw (lv_sub hl [0, 1] rfl) h
  · rw [if_neg hc] at h
    refine lv_aload_n hx hb dX8_gather_79 rfl (lv_at hl 0 rfl) ?_
    refine r_getC (t2 := 9) (d := 12) hx hb hts n_X8_gather_X8 hown hK hw hv_t0 (by decide) rfl 12 (by decide) rfl rfl (hts _ k_X8_gather_7) (fun _ q => q) dX8_gather_80 (fun hv9 => ?_)
    refine lv_bipush (v := 6) hx hb dX8_gather_83 (by decide) ?_
    refine lv_iload_n hx hb dX8_gather_85 rfl (lv_at hl 2 rfl) ?_
    refine lv_imul hx hb dX8_gather_86 ?_
    refine lv_iload_n hx hb dX8_gather_87 rfl (lv_at hl 3 rfl) ?_
    refine lv_iadd hx hb dX8_gather_88 ?_
    refine r_iald (n := 480) hx hb hK hw hv9 rfl dX8_gather_89 h (fun x10 h => ?_)
    refine lv_istore (lv' := [(4, .int x10), (0, .ref (ad 0)), (1, .int v1), (2, .int v2), (3, .int v3)]) hx hb dX8_gather_90 hl (by decide) rfl (fun ls hl => ?_)
    refine lv_iload hx hb dX8_gather_92 (lv_at hl 0 rfl) ?_
    refine lv_if_lt (tgt := 114) hx hb dX8_gather_94 (by decide) (fun hc => ?_) (fun hc => ?_)
    · rw [if_pos hc] at h
      exact j_X8_gather_114 N C0 hA K35 hK35 K70 hK70 v1 v2 v3 u _ _ _ hv_t0 hw (lv_sub hl [1, 2, 3, 4] rfl) h
    · rw [if_neg hc] at h
      refine lv_aload_n hx hb dX8_gather_97 rfl (lv_at hl 1 rfl) ?_
      refine r_getC (t2 := 9) (d := 6) hx hb hts n_X8_gather_X8 hown hK hw hv_t0 (by decide) rfl 6 (by decide) rfl rfl (hts _ k_X8_gather_6) (fun _ q => q) dX8_gather_98 (fun hv11 => ?_)
      refine lv_iload hx hb dX8_gather_101 (lv_at hl 0 rfl) ?_
      refine r_iald (n := 80) hx hb hK hw hv11 rfl dX8_gather_103 h (fun x12 h => ?_)
      refine lv_iconst (v := 4) hx hb dX8_gather_104 (by decide) ?_
      refine lv_icmp_ne (tgt := 114) hx hb dX8_gather_105 (by decide) (fun hc => ?_) (fun hc => ?_)
      · rw [if_neg hc] at h
        exact j_X8_gather_114 N C0 hA K35 hK35 K70 hK70 v1 v2 v3 u _ _ _ hv_t0 hw (lv_sub hl [1, 2, 3, 4] rfl) h
      · rw [if_pos hc] at h
        refine lv_aload_n hx hb dX8_gather_108 rfl (lv_at hl 1 rfl) ?_
        refine lv_iload hx hb dX8_gather_109 (lv_at hl 0 rfl) ?_
        refine r_bV (fun o ho => r_vV (As := [.int x10]) (rest := []) ⟨hx, hb, hml, hown, hts⟩ (c_X8_less l D cy L ad N x10 u o hv_t0 ho) (cwV 1 hts gX8_gather_X8_less rfl rfl rfl (by decide +kernel) ⟨Nat.le_of_ble_eq_true rfl, Nat.le_of_ble_eq_true rfl⟩) hw hK hv_t0 (by decide) rfl rfl hl.1 rfl (Nat.le_of_ble_eq_true rfl) dX8_gather_111 ⟨Nat.zero_le _, Nat.zero_le _⟩) hw hA h (fun u H locs hw h => ?_)
        exact j_X8_gather_114 N C0 hA K35 hK35 K70 hK70 v1 v2 v3 u _ _ _ hv_t0 hw (lv_sub hl [1, 2, 3, 4] rfl) h
set_option maxHeartbeats 4000000 in
set_option maxRecDepth 100000 in
theorem j_X8_gather_70 {p : Program} {l : Launch} {e : Env} {s : State} {m : MethodId} {args : Array Value} {below : List Frame} {meth : Method} {c : Code} {D : va_G} {cy : Nat → ClassId} {L : List Nat} {ad : Nat → Nat} {A : Nat → Prop} {o : Mm} (N : Nat)   (C0 : Cx p m meth c cX8_gather none 5 s args wsX8_gather RX8 D cy) (hA : ∀ q : Nat, s.heap.size ≤ q → A q) (K35 : Int32 → Mm → Option (Mm)) (hK35 : ∀ (v1 : Int32) (u : Mm) (H : Heap) (locs : List Loc) (ls : Array Slot), vn L 8 0 → Wd D cy L ad A s.heap u H locs → lv_has ls 5 [(0, .ref (ad 0)), (1, .int v1)] → K35 v1 u = some o → W p l e ({ frames := 3, cells := 0, slots := 0, locals := 68 } : Room) s m args below meth c H locs 0 0 (MQ below (QcV D cy L ad A o) args s 0 0 A) (F0 m 35 ls [])) : ∀ (n : Nat), ∀ (v1 : Int32) (v2 : Int32) (v3 : Int32) (u : Mm) (H : Heap) (locs : List Loc) (ls : Array Slot), vn L 8 0 → Wd D cy L ad A s.heap u H locs → lv_has ls 5 [(0, .ref (ad 0)), (1, .int v1), (2, .int v2), (3, .int v3)] → f_X8_gather_70 N  K35 n v1 v2 v3 u = some o → W p l e ({ frames := 3, cells := 0, slots := 0, locals := 68 } : Room) s m args below meth c H locs 0 0 (MQ below (QcV D cy L ad A o) args s 0 0 A) (F0 m 70 ls []) := by
  intro n
  induction n with
  | zero =>
    intro v1 v2 v3 u H locs ls hv_t0 hw hl h
    cases h
  | succ n ih => exact jg_X8_gather_70 N   C0 hA K35 hK35 _ ih
def g_X8_gather_35 (N : Nat)  (K35 : Int32 → Mm → Option (Mm)) (v1 : Int32) (u : Mm) : Option (Mm) :=
  pt (u.1 0 29) (fun x2 => if x2 ≤ v1 then (some u) else (ck (bI v1 80) (pt (u.1 28 (ix v1)) (fun x4 => bd (f_X8_isThere N x4 u) (fun x5 u => if x5 = 0 then (f_X8_gather_125 N K35 v1 u) else (ck (bI x4 80) (pt (u.1 6 (ix x4)) (fun x7 => if x7 = 2 then (f_X8_gather_70 N K35 N v1 x4 0 u) else (f_X8_gather_125 N K35 v1 u)))))))))
def f_X8_gather_35 (N : Nat)   : Nat → Int32 → Mm → Option (Mm)
  | 0 => fun _ _ => none
  | n + 1 => g_X8_gather_35 N   (f_X8_gather_35 N   n)
set_option maxHeartbeats 4000000 in
set_option maxRecDepth 100000 in
theorem jg_X8_gather_35 {p : Program} {l : Launch} {e : Env} {s : State} {m : MethodId} {args : Array Value} {below : List Frame} {meth : Method} {c : Code} {D : va_G} {cy : Nat → ClassId} {L : List Nat} {ad : Nat → Nat} {A : Nat → Prop} {o : Mm} (N : Nat)   (C0 : Cx p m meth c cX8_gather none 5 s args wsX8_gather RX8 D cy) (hA : ∀ q : Nat, s.heap.size ≤ q → A q)  (K35 : Int32 → Mm → Option (Mm)) (hK35 : ∀ (v1 : Int32) (u : Mm) (H : Heap) (locs : List Loc) (ls : Array Slot), vn L 8 0 → Wd D cy L ad A s.heap u H locs → lv_has ls 5 [(0, .ref (ad 0)), (1, .int v1)] → K35 v1 u = some o → W p l e ({ frames := 3, cells := 0, slots := 0, locals := 68 } : Room) s m args below meth c H locs 0 0 (MQ below (QcV D cy L ad A o) args s 0 0 A) (F0 m 35 ls [])) : ∀ (v1 : Int32) (u : Mm) (H : Heap) (locs : List Loc) (ls : Array Slot), vn L 8 0 → Wd D cy L ad A s.heap u H locs → lv_has ls 5 [(0, .ref (ad 0)), (1, .int v1)] → g_X8_gather_35 N   K35 v1 u = some o → W p l e ({ frames := 3, cells := 0, slots := 0, locals := 68 } : Room) s m args below meth c H locs 0 0 (MQ below (QcV D cy L ad A o) args s 0 0 A) (F0 m 35 ls []) := by
  obtain ⟨hx, hb, hr, hml, hown, hts, hlocks, hK⟩ := id C0
  intro v1 u H locs ls hv_t0 hw hl h
  unfold g_X8_gather_35 at h
  refine lv_iload_n hx hb dX8_gather_35 rfl (lv_at hl 1 rfl) ?_
  refine lv_aload_n hx hb dX8_gather_36 rfl (lv_at hl 0 rfl) ?_
  refine r_getI hx hb hts n_X8_gather_X8 hown hK hw hv_t0 (by decide) rfl 29 (by decide) rfl (hts _ k_X8_gather_4) (fun _ q => q) dX8_gather_37 h (fun x2 h => ?_)
  refine lv_icmp_ge (tgt := 131) hx hb dX8_gather_40 (by decide) (fun hc => ?_) (fun hc => ?_)
  · rw [if_pos hc] at h
    exact r_vret hx hb hr hlocks hK hw h dX8_gather_131
  · rw [if_neg hc] at h
    refine lv_aload_n hx hb dX8_gather_43 rfl (lv_at hl 0 rfl) ?_
    refine r_getC (t2 := 9) (d := 28) hx hb hts n_X8_gather_X8 hown hK hw hv_t0 (by decide) rfl 28 (by decide) rfl rfl (hts _ k_X8_gather_5) (fun _ q => q) dX8_gather_44 (fun hv3 => ?_)
    refine lv_iload_n hx hb dX8_gather_47 rfl (lv_at hl 1 rfl) ?_
    refine r_iald (n := 80) hx hb hK hw hv3 rfl dX8_gather_48 h (fun x4 h => ?_)
    refine lv_istore_n (lv' := [(2, .int x4), (0, .ref (ad 0)), (1, .int v1)]) hx hb dX8_gather_49 rfl hl (by decide) rfl (fun ls hl => ?_)
    refine lv_aload_n hx hb dX8_gather_50 rfl (lv_at hl 1 rfl) ?_
    refine lv_iload_n hx hb dX8_gather_51 rfl (lv_at hl 0 rfl) ?_
    refine r_bI (fun o ho => r_vI (As := [.int x4]) (rest := []) ⟨hx, hb, hml, hown, hts⟩ (c_X8_isThere l D cy L ad N x4 u o hv_t0 ho) (cwV 1 hts gX8_gather_X8_isThere rfl rfl rfl (by decide +kernel) ⟨Nat.le_of_ble_eq_true rfl, Nat.le_of_ble_eq_true rfl⟩) hw hK hv_t0 (by decide) rfl rfl hl.1 rfl (Nat.le_of_ble_eq_true rfl) dX8_gather_52 ⟨Nat.zero_le _, Nat.zero_le _⟩) hw hA h (fun x5 u H locs hw h => ?_)
    refine lv_if_eq (tgt := 125) hx hb dX8_gather_55 (by decide) (fun hc => ?_) (fun hc => ?_)
    · rw [if_pos hc] at h
      exact j_X8_gather_125 N C0 hA K35 hK35 v1 u _ _ _ hv_t0 hw (lv_sub hl [1, 2] rfl) h
    · rw [if_neg hc] at h
      refine lv_aload_n hx hb dX8_gather_58 rfl (lv_at hl 1 rfl) ?_
      refine r_getC (t2 := 9) (d := 6) hx hb hts n_X8_gather_X8 hown hK hw hv_t0 (by decide) rfl 6 (by decide) rfl rfl (hts _ k_X8_gather_6) (fun _ q => q) dX8_gather_59 (fun hv6 => ?_)
      refine lv_iload_n hx hb dX8_gather_62 rfl (lv_at hl 0 rfl) ?_
      refine r_iald (n := 80) hx hb hK hw hv6 rfl dX8_gather_63 h (fun x7 h => ?_)
      refine lv_iconst (v := 2) hx hb dX8_gather_64 (by decide) ?_
      refine lv_icmp_ne (tgt := 125) hx hb dX8_gather_65 (by decide) (fun hc => ?_) (fun hc => ?_)
      · rw [if_neg hc] at h
        exact j_X8_gather_125 N C0 hA K35 hK35 v1 u _ _ _ hv_t0 hw (lv_sub hl [1, 2] rfl) h
      · rw [if_pos hc] at h
        refine lv_iconst (v := 0) hx hb dX8_gather_68 (by decide) ?_
        refine lv_istore_n (lv' := [(3, .int 0), (2, .int x4), (0, .ref (ad 0)), (1, .int v1)]) hx hb dX8_gather_69 rfl hl (by decide) rfl (fun ls hl => ?_)
        exact j_X8_gather_70 N C0 hA K35 hK35 N v1 x4 0 u _ _ _ hv_t0 hw (lv_sub hl [2, 3, 1, 0] rfl) h
set_option maxHeartbeats 4000000 in
set_option maxRecDepth 100000 in
theorem j_X8_gather_35 {p : Program} {l : Launch} {e : Env} {s : State} {m : MethodId} {args : Array Value} {below : List Frame} {meth : Method} {c : Code} {D : va_G} {cy : Nat → ClassId} {L : List Nat} {ad : Nat → Nat} {A : Nat → Prop} {o : Mm} (N : Nat)   (C0 : Cx p m meth c cX8_gather none 5 s args wsX8_gather RX8 D cy) (hA : ∀ q : Nat, s.heap.size ≤ q → A q)  : ∀ (n : Nat), ∀ (v1 : Int32) (u : Mm) (H : Heap) (locs : List Loc) (ls : Array Slot), vn L 8 0 → Wd D cy L ad A s.heap u H locs → lv_has ls 5 [(0, .ref (ad 0)), (1, .int v1)] → f_X8_gather_35 N   n v1 u = some o → W p l e ({ frames := 3, cells := 0, slots := 0, locals := 68 } : Room) s m args below meth c H locs 0 0 (MQ below (QcV D cy L ad A o) args s 0 0 A) (F0 m 35 ls []) := by
  intro n
  induction n with
  | zero =>
    intro v1 u H locs ls hv_t0 hw hl h
    cases h
  | succ n ih => exact jg_X8_gather_35 N   C0 hA  _ ih
def g_X8_gather_2 (N : Nat)  (K2 : Int32 → Mm → Option (Mm)) (v1 : Int32) (u : Mm) : Option (Mm) :=
  pt (u.1 0 15) (fun x1 => if x1 ≤ v1 then (pt (sI u 0 15 0) (fun u => f_X8_gather_35 N N 0 u)) else (ck (bI v1 80) (pt (u.1 14 (ix v1)) (fun x15 => ck (bI x15 80) (pt (sI u 9 (ix x15) (vp_nar .boolean 0)) (fun u => K2 (v1 + 1) u))))))
def f_X8_gather_2 (N : Nat)   : Nat → Int32 → Mm → Option (Mm)
  | 0 => fun _ _ => none
  | n + 1 => g_X8_gather_2 N   (f_X8_gather_2 N   n)
set_option maxHeartbeats 4000000 in
set_option maxRecDepth 100000 in
theorem jg_X8_gather_2 {p : Program} {l : Launch} {e : Env} {s : State} {m : MethodId} {args : Array Value} {below : List Frame} {meth : Method} {c : Code} {D : va_G} {cy : Nat → ClassId} {L : List Nat} {ad : Nat → Nat} {A : Nat → Prop} {o : Mm} (N : Nat)   (C0 : Cx p m meth c cX8_gather none 5 s args wsX8_gather RX8 D cy) (hA : ∀ q : Nat, s.heap.size ≤ q → A q)  (K2 : Int32 → Mm → Option (Mm)) (hK2 : ∀ (v1 : Int32) (u : Mm) (H : Heap) (locs : List Loc) (ls : Array Slot), vn L 8 0 → Wd D cy L ad A s.heap u H locs → lv_has ls 5 [(0, .ref (ad 0)), (1, .int v1)] → K2 v1 u = some o → W p l e ({ frames := 3, cells := 0, slots := 0, locals := 68 } : Room) s m args below meth c H locs 0 0 (MQ below (QcV D cy L ad A o) args s 0 0 A) (F0 m 2 ls [])) : ∀ (v1 : Int32) (u : Mm) (H : Heap) (locs : List Loc) (ls : Array Slot), vn L 8 0 → Wd D cy L ad A s.heap u H locs → lv_has ls 5 [(0, .ref (ad 0)), (1, .int v1)] → g_X8_gather_2 N   K2 v1 u = some o → W p l e ({ frames := 3, cells := 0, slots := 0, locals := 68 } : Room) s m args below meth c H locs 0 0 (MQ below (QcV D cy L ad A o) args s 0 0 A) (F0 m 2 ls []) := by
  obtain ⟨hx, hb, hr, hml, hown, hts, hlocks, hK⟩ := id C0
  intro v1 u H locs ls hv_t0 hw hl h
  unfold g_X8_gather_2 at h
  refine lv_iload_n hx hb dX8_gather_2 rfl (lv_at hl 1 rfl) ?_
  refine lv_aload_n hx hb dX8_gather_3 rfl (lv_at hl 0 rfl) ?_
  refine r_getI hx hb hts n_X8_gather_X8 hown hK hw hv_t0 (by decide) rfl 15 (by decide) rfl (hts _ k_X8_gather_1) (fun _ q => q) dX8_gather_4 h (fun x1 h => ?_)
  refine lv_icmp_ge (tgt := 28) hx hb dX8_gather_7 (by decide) (fun hc => ?_) (fun hc => ?_)
  · rw [if_pos hc] at h
    refine lv_aload_n hx hb dX8_gather_28 rfl (lv_at hl 0 rfl) ?_
    refine lv_iconst (v := 0) hx hb dX8_gather_29 (by decide) ?_
    refine r_putI (ty := .int) hx hb hts n_X8_gather_X8 tyX8 tyX8_ok nmX8 hown hK hw hv_t0 (by decide) rfl 15 (by decide) rfl (hts _ k_X8_gather_1) (fun _ q => q) rfl rfl rfl rfl dX8_gather_30 h (fun u H locs hw h => ?_)
    refine lv_iconst (v := 0) hx hb dX8_gather_33 (by decide) ?_
    refine lv_istore_n (lv' := [(1, .int 0), (0, .ref (ad 0))]) hx hb dX8_gather_34 rfl hl (by decide) rfl (fun ls hl => ?_)
    exact j_X8_gather_35 N C0 hA N 0 u _ _ _ hv_t0 hw (lv_sub hl [1, 0] rfl) h
  · rw [if_neg hc] at h
    refine lv_aload_n hx hb dX8_gather_10 rfl (lv_at hl 0 rfl) ?_
    refine r_getC (t2 := 10) (d := 9) hx hb hts n_X8_gather_X8 hown hK hw hv_t0 (by decide) rfl 9 (by decide) rfl rfl (hts _ k_X8_gather_2) (fun _ q => q) dX8_gather_11 (fun hv13 => ?_)
    refine lv_aload_n hx hb dX8_gather_14 rfl (lv_at hl 0 rfl) ?_
    refine r_getC (t2 := 9) (d := 14) hx hb hts n_X8_gather_X8 hown hK hw hv_t0 (by decide) rfl 14 (by decide) rfl rfl (hts _ k_X8_gather_3) (fun _ q => q) dX8_gather_15 (fun hv14 => ?_)
    refine lv_iload_n hx hb dX8_gather_18 rfl (lv_at hl 1 rfl) ?_
    refine r_iald (n := 80) hx hb hK hw hv14 rfl dX8_gather_19 h (fun x15 h => ?_)
    refine lv_iconst (v := 0) hx hb dX8_gather_20 (by decide) ?_
    refine r_zast (n := 80) hx hb hK hw hv13 rfl dX8_gather_21 h (fun u H locs hw h => ?_)
    refine lv_iinc (v := v1 + 1) (lv' := [(1, .int (v1 + 1)), (0, .ref (ad 0))]) hx hb dX8_gather_22 hl (k := 1) rfl rfl (by decide) rfl (fun ls hl => ?_)
    refine lv_goto (tgt := 2) hx hb dX8_gather_25 (by decide) ?_
    exact hK2 (v1 + 1) u _ _ _ hv_t0 hw (lv_sub hl [1, 0] rfl) h
set_option maxHeartbeats 4000000 in
set_option maxRecDepth 100000 in
theorem j_X8_gather_2 {p : Program} {l : Launch} {e : Env} {s : State} {m : MethodId} {args : Array Value} {below : List Frame} {meth : Method} {c : Code} {D : va_G} {cy : Nat → ClassId} {L : List Nat} {ad : Nat → Nat} {A : Nat → Prop} {o : Mm} (N : Nat)   (C0 : Cx p m meth c cX8_gather none 5 s args wsX8_gather RX8 D cy) (hA : ∀ q : Nat, s.heap.size ≤ q → A q)  : ∀ (n : Nat), ∀ (v1 : Int32) (u : Mm) (H : Heap) (locs : List Loc) (ls : Array Slot), vn L 8 0 → Wd D cy L ad A s.heap u H locs → lv_has ls 5 [(0, .ref (ad 0)), (1, .int v1)] → f_X8_gather_2 N   n v1 u = some o → W p l e ({ frames := 3, cells := 0, slots := 0, locals := 68 } : Room) s m args below meth c H locs 0 0 (MQ below (QcV D cy L ad A o) args s 0 0 A) (F0 m 2 ls []) := by
  intro n
  induction n with
  | zero =>
    intro v1 u H locs ls hv_t0 hw hl h
    cases h
  | succ n ih => exact jg_X8_gather_2 N   C0 hA  _ ih
def f_X8_gather (N : Nat)  (u : Mm) : Option (Mm) :=
  f_X8_gather_2 N N 0 u
set_option maxHeartbeats 4000000 in
set_option maxRecDepth 100000 in
theorem c_X8_gather (l : Launch) (D : va_G) (cy : Nat → ClassId) (L : List Nat) (ad : Nat → Nat) (N : Nat)  (u : Mm) (o : Mm) (h_this : vn L 8 0) (h : f_X8_gather N  u = some o) : MtV l yX8_gather wsX8_gather ({ frames := 3, cells := 0, slots := 0, locals := 68 } : Room) D cy L ad [.ref (ad 0)] u o := by
  intro sz
  refine Met.ofW (cc := cX8_gather) (maxL := 5) (ret := none) (by decide) rfl ?_
  intro p e s m args below meth c s₁ B hml hv
  obtain ⟨rfl, hsz, hP, hK, hD0, hok⟩ := hv
  have hx := B.exec
  have hb := B.bytes
  have hr := B.returns
  have hts := atoms_spec (ws := wsX8_gather) B.pre
  have hown : s.vm.findClass RX8 = some m.cls := findClass_of_methodNamed B.named
  have hlocks := B.notSynchronized
  subst hsz
  have hw := wd_start hP hD0 hok
  have hA : ∀ q : Nat, s.heap.size ≤ q → va_A (wl cy L ad u) s.heap.size q := fun q h => Or.inr h
  generalize va_A (wl cy L ad u) s.heap.size = A at hw hA ⊢
  have C0 : Cx p m meth c cX8_gather none 5 s _ wsX8_gather RX8 D cy := ⟨hx, hb, hr, hml, hown, hts, hlocks, hK⟩
  have hl := lv_entry ([.ref (ad 0)]) (n := 5) (Nat.le_of_ble_eq_true rfl)
  rw [lg_entry_eq]
  generalize (lg_sl ([.ref (ad 0)]) ++ List.replicate (5 - (lg_sl ([.ref (ad 0)])).length) Slot.unset).toArray = ls at hl ⊢
  have hl : lv_has ls 5 [(0, .ref (ad 0))] := hl
  unfold f_X8_gather at h
  refine lv_iconst (v := 0) hx hb dX8_gather_0 (by decide) ?_
  refine lv_istore_n (lv' := [(1, .int 0), (0, .ref (ad 0))]) hx hb dX8_gather_1 rfl hl (by decide) rfl (fun ls hl => ?_)
  exact j_X8_gather_2 N C0 hA N 0 u _ _ _ h_this hw (lv_sub hl [1, 0] rfl) h
theorem k_X8_collect_1 : Cond.fieldLink RX8 1 "RingHeapModel" "thrown" "I" ∈ wsX8_collect := List.mem_of_getElem? (i := 1) (by rfl)
theorem n_X8_collect_X8 : ∀ w ∈ u_ws RX8 TX8 31, w ∈ wsX8_collect := fun _ h => List.mem_cons_of_mem _ (List.mem_append_right _ h)
theorem k_X8_collect_2 : Cond.fieldLink RX8 82 "RingHeapModel" "freedEver" "I" ∈ wsX8_collect := List.mem_of_getElem? (i := 2) (by rfl)
theorem k_X8_collect_3 : Cond.fieldLink RX8 139 "RingHeapModel" "collections" "I" ∈ wsX8_collect := List.mem_of_getElem? (i := 3) (by rfl)
theorem k_X8_collect_4 : Cond.fieldLink RX8 88 "RingHeapModel" "listCount" "I" ∈ wsX8_collect := List.mem_of_getElem? (i := 4) (by rfl)
theorem k_X8_collect_6 : Cond.fieldLink RX8 130 "RingHeapModel" "byAddressCount" "I" ∈ wsX8_collect := List.mem_of_getElem? (i := 6) (by rfl)
theorem k_X8_collect_7 : Cond.fieldLink RX8 72 "RingHeapModel" "byAddress" "[I" ∈ wsX8_collect := List.mem_of_getElem? (i := 7) (by rfl)
theorem k_X8_collect_8 : Cond.fieldLink RX8 30 "RingHeapModel" "colours" "[I" ∈ wsX8_collect := List.mem_of_getElem? (i := 8) (by rfl)
theorem k_X8_collect_9 : Cond.fieldLink RX8 27 "RingHeapModel" "counts" "[I" ∈ wsX8_collect := List.mem_of_getElem? (i := 9) (by rfl)
theorem k_X8_collect_5 : Cond.fieldLink RX8 54 "RingHeapModel" "list" "[I" ∈ wsX8_collect := List.mem_of_getElem? (i := 5) (by rfl)
def f_X8_collect_109 (N : Nat)  (K56 : Int32 → Int32 → Mm → Option (Int32 × Mm)) (v1 : Int32) (v2 : Int32) (u : Mm) : Option (Int32 × Mm) :=
  K56 v1 (v2 + 1) u
set_option maxHeartbeats 4000000 in
set_option maxRecDepth 100000 in
theorem j_X8_collect_109 {p : Program} {l : Launch} {e : Env} {s : State} {m : MethodId} {args : Array Value} {below : List Frame} {meth : Method} {c : Code} {D : va_G} {cy : Nat → ClassId} {L : List Nat} {ad : Nat → Nat} {A : Nat → Prop} {o : Int32 × Mm} (N : Nat)   (C0 : Cx p m meth c cX8_collect (some .int) 4 s args wsX8_collect RX8 D cy) (hA : ∀ q : Nat, s.heap.size ≤ q → A q) (K56 : Int32 → Int32 → Mm → Option (Int32 × Mm)) (hK56 : ∀ (v1 : Int32) (v2 : Int32) (u : Mm) (H : Heap) (locs : List Loc) (ls : Array Slot), vn L 8 0 → Wd D cy L ad A s.heap u H locs → lv_has ls 4 [(0, .ref (ad 0)), (1, .int v1), (2, .int v2)] → K56 v1 v2 u = some o → W p l e ({ frames := 4, cells := 0, slots := 0, locals := 92 } : Room) s m args below meth c H locs 0 0 (MQ below (QcI D cy L ad A o) args s 0 0 A) (F0 m 56 ls [])) : ∀ (v1 : Int32) (v2 : Int32) (u : Mm) (H : Heap) (locs : List Loc) (ls : Array Slot), vn L 8 0 → Wd D cy L ad A s.heap u H locs → lv_has ls 4 [(0, .ref (ad 0)), (1, .int v1), (2, .int v2)] → f_X8_collect_109 N  K56 v1 v2 u = some o → W p l e ({ frames := 4, cells := 0, slots := 0, locals := 92 } : Room) s m args below meth c H locs 0 0 (MQ below (QcI D cy L ad A o) args s 0 0 A) (F0 m 109 ls []) := by
  obtain ⟨hx, hb, hr, hml, hown, hts, hlocks, hK⟩ := id C0
  intro v1 v2 u H locs ls hv_t0 hw hl h
  unfold f_X8_collect_109 at h
  refine lv_iinc (v := v2 + 1) (lv' := [(2, .int (v2 + 1)), (0, .ref (ad 0)), (1, .int v1)]) hx hb dX8_collect_109 hl (k := 2) rfl rfl (by decide) rfl (fun ls hl => ?_)
  refine lv_goto (tgt := 56) hx hb dX8_collect_112 (by decide) ?_
  exact hK56 v1 (v2 + 1) u _ _ _ hv_t0 hw (lv_sub hl [1, 2, 0] rfl) h
def g_X8_collect_56 (N : Nat)  (K56 : Int32 → Int32 → Mm → Option (Int32 × Mm)) (v1 : Int32) (v2 : Int32) (u : Mm) : Option (Int32 × Mm) :=
  pt (u.1 0 29) (fun x4 => if x4 ≤ v2 then (bv (f_X8_gather N u) (fun u => pt (u.1 0 20) (fun x5 => some (x5 - v1, u)))) else (ck (bI v2 80) (pt (u.1 28 (ix v2)) (fun x7 => ck (bI x7 80) (pt (u.1 6 (ix x7)) (fun x9 => if x9 = 2 then (bd (f_X8_hasWish N x7 u) (fun x10 u => if x10 = 0 then (f_X8_collect_109 N K56 v1 v2 u) else (bv (f_X8_comesToWishes N x7 u) (fun u => ck (bI x7 80) (pt (u.1 5 (ix x7)) (fun x12 => ck (bI x7 80) (pt (sI u 5 (ix x7) (x12 + 1)) (fun u => bv (f_X8_blacken N x7 u) (fun u => f_X8_collect_109 N K56 v1 v2 u))))))))) else (f_X8_collect_109 N K56 v1 v2 u)))))))
def f_X8_collect_56 (N : Nat)   : Nat → Int32 → Int32 → Mm → Option (Int32 × Mm)
  | 0 => fun _ _ _ => none
  | n + 1 => g_X8_collect_56 N   (f_X8_collect_56 N   n)
set_option maxHeartbeats 4000000 in
set_option maxRecDepth 100000 in
theorem jg_X8_collect_56 {p : Program} {l : Launch} {e : Env} {s : State} {m : MethodId} {args : Array Value} {below : List Frame} {meth : Method} {c : Code} {D : va_G} {cy : Nat → ClassId} {L : List Nat} {ad : Nat → Nat} {A : Nat → Prop} {o : Int32 × Mm} (N : Nat)   (C0 : Cx p m meth c cX8_collect (some .int) 4 s args wsX8_collect RX8 D cy) (hA : ∀ q : Nat, s.heap.size ≤ q → A q)  (K56 : Int32 → Int32 → Mm → Option (Int32 × Mm)) (hK56 : ∀ (v1 : Int32) (v2 : Int32) (u : Mm) (H : Heap) (locs : List Loc) (ls : Array Slot), vn L 8 0 → Wd D cy L ad A s.heap u H locs → lv_has ls 4 [(0, .ref (ad 0)), (1, .int v1), (2, .int v2)] → K56 v1 v2 u = some o → W p l e ({ frames := 4, cells := 0, slots := 0, locals := 92 } : Room) s m args below meth c H locs 0 0 (MQ below (QcI D cy L ad A o) args s 0 0 A) (F0 m 56 ls [])) : ∀ (v1 : Int32) (v2 : Int32) (u : Mm) (H : Heap) (locs : List Loc) (ls : Array Slot), vn L 8 0 → Wd D cy L ad A s.heap u H locs → lv_has ls 4 [(0, .ref (ad 0)), (1, .int v1), (2, .int v2)] → g_X8_collect_56 N   K56 v1 v2 u = some o → W p l e ({ frames := 4, cells := 0, slots := 0, locals := 92 } : Room) s m args below meth c H locs 0 0 (MQ below (QcI D cy L ad A o) args s 0 0 A) (F0 m 56 ls []) := by
  obtain ⟨hx, hb, hr, hml, hown, hts, hlocks, hK⟩ := id C0
  intro v1 v2 u H locs ls hv_t0 hw hl h
  unfold g_X8_collect_56 at h
  refine lv_iload_n hx hb dX8_collect_56 rfl (lv_at hl 2 rfl) ?_
  refine lv_aload_n hx hb dX8_collect_57 rfl (lv_at hl 0 rfl) ?_
  refine r_getI hx hb hts n_X8_collect_X8 hown hK hw hv_t0 (by decide) rfl 29 (by decide) rfl (hts _ k_X8_collect_6) (fun _ q => q) dX8_collect_58 h (fun x4 h => ?_)
  refine lv_icmp_ge (tgt := 115) hx hb dX8_collect_61 (by decide) (fun hc => ?_) (fun hc => ?_)
  · rw [if_pos hc] at h
    refine lv_aload_n hx hb dX8_collect_115 rfl (lv_at hl 0 rfl) ?_
    refine r_bV (fun o ho => r_vV (As := []) (rest := []) ⟨hx, hb, hml, hown, hts⟩ (c_X8_gather l D cy L ad N u o hv_t0 ho) (cwV 0 hts gX8_collect_X8_gather rfl rfl rfl (by decide +kernel) ⟨Nat.le_of_ble_eq_true rfl, Nat.le_of_ble_eq_true rfl⟩) hw hK hv_t0 (by decide) rfl rfl hl.1 rfl (Nat.le_of_ble_eq_true rfl) dX8_collect_116 ⟨Nat.zero_le _, Nat.zero_le _⟩) hw hA h (fun u H locs hw h => ?_)
    refine lv_aload_n hx hb dX8_collect_119 rfl (lv_at hl 0 rfl) ?_
    refine r_getI hx hb hts n_X8_collect_X8 hown hK hw hv_t0 (by decide) rfl 20 (by decide) rfl (hts _ k_X8_collect_2) (fun _ q => q) dX8_collect_120 h (fun x5 h => ?_)
    refine lv_iload_n hx hb dX8_collect_123 rfl (lv_at hl 1 rfl) ?_
    refine lv_isub hx hb dX8_collect_124 ?_
    exact r_iret hx hb hr hlocks hK hw h dX8_collect_125
  · rw [if_neg hc] at h
    refine lv_aload_n hx hb dX8_collect_64 rfl (lv_at hl 0 rfl) ?_
    refine r_getC (t2 := 9) (d := 28) hx hb hts n_X8_collect_X8 hown hK hw hv_t0 (by decide) rfl 28 (by decide) rfl rfl (hts _ k_X8_collect_7) (fun _ q => q) dX8_collect_65 (fun hv6 => ?_)
    refine lv_iload_n hx hb dX8_collect_68 rfl (lv_at hl 2 rfl) ?_
    refine r_iald (n := 80) hx hb hK hw hv6 rfl dX8_collect_69 h (fun x7 h => ?_)
    refine lv_istore_n (lv' := [(3, .int x7), (0, .ref (ad 0)), (1, .int v1), (2, .int v2)]) hx hb dX8_collect_70 rfl hl (by decide) rfl (fun ls hl => ?_)
    refine lv_aload_n hx hb dX8_collect_71 rfl (lv_at hl 1 rfl) ?_
    refine r_getC (t2 := 9) (d := 6) hx hb hts n_X8_collect_X8 hown hK hw hv_t0 (by decide) rfl 6 (by decide) rfl rfl (hts _ k_X8_collect_8) (fun _ q => q) dX8_collect_72 (fun hv8 => ?_)
    refine lv_iload_n hx hb dX8_collect_75 rfl (lv_at hl 0 rfl) ?_
    refine r_iald (n := 80) hx hb hK hw hv8 rfl dX8_collect_76 h (fun x9 h => ?_)
    refine lv_iconst (v := 2) hx hb dX8_collect_77 (by decide) ?_
    refine lv_icmp_ne (tgt := 109) hx hb dX8_collect_78 (by decide) (fun hc => ?_) (fun hc => ?_)
    · rw [if_neg hc] at h
      exact j_X8_collect_109 N C0 hA K56 hK56 v1 v2 u _ _ _ hv_t0 hw (lv_sub hl [1, 2, 3] rfl) h
    · rw [if_pos hc] at h
      refine lv_aload_n hx hb dX8_collect_81 rfl (lv_at hl 1 rfl) ?_
      refine lv_iload_n hx hb dX8_collect_82 rfl (lv_at hl 0 rfl) ?_
      refine r_bI (fun o ho => r_vI (As := [.int x7]) (rest := []) ⟨hx, hb, hml, hown, hts⟩ (c_X8_hasWish l D cy L ad N x7 u o hv_t0 ho) (cwV 1 hts gX8_collect_X8_hasWish rfl rfl rfl (by decide +kernel) ⟨Nat.le_of_ble_eq_true rfl, Nat.le_of_ble_eq_true rfl⟩) hw hK hv_t0 (by decide) rfl rfl hl.1 rfl (Nat.le_of_ble_eq_true rfl) dX8_collect_83 ⟨Nat.zero_le _, Nat.zero_le _⟩) hw hA h (fun x10 u H locs hw h => ?_)
      refine lv_if_eq (tgt := 109) hx hb dX8_collect_86 (by decide) (fun hc => ?_) (fun hc => ?_)
      · rw [if_pos hc] at h
        exact j_X8_collect_109 N C0 hA K56 hK56 v1 v2 u _ _ _ hv_t0 hw (lv_sub hl [1, 2, 3] rfl) h
      · rw [if_neg hc] at h
        refine lv_aload_n hx hb dX8_collect_89 rfl (lv_at hl 1 rfl) ?_
        refine lv_iload_n hx hb dX8_collect_90 rfl (lv_at hl 0 rfl) ?_
        refine r_bV (fun o ho => r_vV (As := [.int x7]) (rest := []) ⟨hx, hb, hml, hown, hts⟩ (c_X8_comesToWishes l D cy L ad N x7 u o hv_t0 ho) (cwV 1 hts gX8_collect_X8_comesToWishes rfl rfl rfl (by decide +kernel) ⟨Nat.le_of_ble_eq_true rfl, Nat.le_of_ble_eq_true rfl⟩) hw hK hv_t0 (by decide) rfl rfl hl.1 rfl (Nat.le_of_ble_eq_true rfl) dX8_collect_91 ⟨Nat.zero_le _, Nat.zero_le _⟩) hw hA h (fun u H locs hw h => ?_)
        refine lv_aload_n hx hb dX8_collect_94 rfl (lv_at hl 1 rfl) ?_
        refine r_getC (t2 := 9) (d := 5) hx hb hts n_X8_collect_X8 hown hK hw hv_t0 (by decide) rfl 5 (by decide) rfl rfl (hts _ k_X8_collect_9) (fun _ q => q) dX8_collect_95 (fun hv11 => ?_)
        refine lv_iload_n hx hb dX8_collect_98 rfl (lv_at hl 0 rfl) ?_
        refine lv_dup2_11 hx hb dX8_collect_99 rfl rfl ?_
        refine r_iald (n := 80) hx hb hK hw hv11 rfl dX8_collect_100 h (fun x12 h => ?_)
        refine lv_iconst (v := 1) hx hb dX8_collect_101 (by decide) ?_
        refine lv_iadd hx hb dX8_collect_102 ?_
        refine r_iast (n := 80) hx hb hK hw hv11 rfl dX8_collect_103 h (fun u H locs hw h => ?_)
        refine lv_aload_n hx hb dX8_collect_104 rfl (lv_at hl 1 rfl) ?_
        refine lv_iload_n hx hb dX8_collect_105 rfl (lv_at hl 0 rfl) ?_
        refine r_bV (fun o ho => r_vV (As := [.int x7]) (rest := []) ⟨hx, hb, hml, hown, hts⟩ (c_X8_blacken l D cy L ad N x7 u o hv_t0 ho) (cwV 1 hts gX8_collect_X8_blacken rfl rfl rfl (by decide +kernel) ⟨Nat.le_of_ble_eq_true rfl, Nat.le_of_ble_eq_true rfl⟩) hw hK hv_t0 (by decide) rfl rfl hl.1 rfl (Nat.le_of_ble_eq_true rfl) dX8_collect_106 ⟨Nat.zero_le _, Nat.zero_le _⟩) hw hA h (fun u H locs hw h => ?_)
        exact j_X8_collect_109 N C0 hA K56 hK56 v1 v2 u _ _ _ hv_t0 hw (lv_sub hl [1, 2, 3] rfl) h
set_option maxHeartbeats 4000000 in
set_option maxRecDepth 100000 in
theorem j_X8_collect_56 {p : Program} {l : Launch} {e : Env} {s : State} {m : MethodId} {args : Array Value} {below : List Frame} {meth : Method} {c : Code} {D : va_G} {cy : Nat → ClassId} {L : List Nat} {ad : Nat → Nat} {A : Nat → Prop} {o : Int32 × Mm} (N : Nat)   (C0 : Cx p m meth c cX8_collect (some .int) 4 s args wsX8_collect RX8 D cy) (hA : ∀ q : Nat, s.heap.size ≤ q → A q)  : ∀ (n : Nat), ∀ (v1 : Int32) (v2 : Int32) (u : Mm) (H : Heap) (locs : List Loc) (ls : Array Slot), vn L 8 0 → Wd D cy L ad A s.heap u H locs → lv_has ls 4 [(0, .ref (ad 0)), (1, .int v1), (2, .int v2)] → f_X8_collect_56 N   n v1 v2 u = some o → W p l e ({ frames := 4, cells := 0, slots := 0, locals := 92 } : Room) s m args below meth c H locs 0 0 (MQ below (QcI D cy L ad A o) args s 0 0 A) (F0 m 56 ls []) := by
  intro n
  induction n with
  | zero =>
    intro v1 v2 u H locs ls hv_t0 hw hl h
    cases h
  | succ n ih => exact jg_X8_collect_56 N   C0 hA  _ ih
def g_X8_collect_26 (N : Nat)  (K26 : Int32 → Int32 → Mm → Option (Int32 × Mm)) (v1 : Int32) (v2 : Int32) (u : Mm) : Option (Int32 × Mm) :=
  pt (u.1 0 15) (fun x3 => if x3 ≤ v2 then (bv (f_X8_findByAddress N u) (fun u => f_X8_collect_56 N N v1 0 u)) else (ck (bI v2 80) (pt (u.1 14 (ix v2)) (fun x14 => bv (f_X8_scan N x14 u) (fun u => K26 v1 (v2 + 1) u)))))
def f_X8_collect_26 (N : Nat)   : Nat → Int32 → Int32 → Mm → Option (Int32 × Mm)
  | 0 => fun _ _ _ => none
  | n + 1 => g_X8_collect_26 N   (f_X8_collect_26 N   n)
set_option maxHeartbeats 4000000 in
set_option maxRecDepth 100000 in
theorem jg_X8_collect_26 {p : Program} {l : Launch} {e : Env} {s : State} {m : MethodId} {args : Array Value} {below : List Frame} {meth : Method} {c : Code} {D : va_G} {cy : Nat → ClassId} {L : List Nat} {ad : Nat → Nat} {A : Nat → Prop} {o : Int32 × Mm} (N : Nat)   (C0 : Cx p m meth c cX8_collect (some .int) 4 s args wsX8_collect RX8 D cy) (hA : ∀ q : Nat, s.heap.size ≤ q → A q)  (K26 : Int32 → Int32 → Mm → Option (Int32 × Mm)) (hK26 : ∀ (v1 : Int32) (v2 : Int32) (u : Mm) (H : Heap) (locs : List Loc) (ls : Array Slot), vn L 8 0 → Wd D cy L ad A s.heap u H locs → lv_has ls 4 [(0, .ref (ad 0)), (1, .int v1), (2, .int v2)] → K26 v1 v2 u = some o → W p l e ({ frames := 4, cells := 0, slots := 0, locals := 92 } : Room) s m args below meth c H locs 0 0 (MQ below (QcI D cy L ad A o) args s 0 0 A) (F0 m 26 ls [])) : ∀ (v1 : Int32) (v2 : Int32) (u : Mm) (H : Heap) (locs : List Loc) (ls : Array Slot), vn L 8 0 → Wd D cy L ad A s.heap u H locs → lv_has ls 4 [(0, .ref (ad 0)), (1, .int v1), (2, .int v2)] → g_X8_collect_26 N   K26 v1 v2 u = some o → W p l e ({ frames := 4, cells := 0, slots := 0, locals := 92 } : Room) s m args below meth c H locs 0 0 (MQ below (QcI D cy L ad A o) args s 0 0 A) (F0 m 26 ls []) := by
  obtain ⟨hx, hb, hr, hml, hown, hts, hlocks, hK⟩ := id C0
  intro v1 v2 u H locs ls hv_t0 hw hl h
  unfold g_X8_collect_26 at h
  refine lv_iload_n hx hb dX8_collect_26 rfl (lv_at hl 2 rfl) ?_
  refine lv_aload_n hx hb dX8_collect_27 rfl (lv_at hl 0 rfl) ?_
  refine r_getI hx hb hts n_X8_collect_X8 hown hK hw hv_t0 (by decide) rfl 15 (by decide) rfl (hts _ k_X8_collect_4) (fun _ q => q) dX8_collect_28 h (fun x3 h => ?_)
  refine lv_icmp_ge (tgt := 50) hx hb dX8_collect_31 (by decide) (fun hc => ?_) (fun hc => ?_)
  · rw [if_pos hc] at h
    refine lv_aload_n hx hb dX8_collect_50 rfl (lv_at hl 0 rfl) ?_
    refine r_bV (fun o ho => r_vV (As := []) (rest := []) ⟨hx, hb, hml, hown, hts⟩ (c_X8_findByAddress l D cy L ad N u o hv_t0 ho) (cwV 0 hts gX8_collect_X8_findByAddress rfl rfl rfl (by decide +kernel) ⟨Nat.le_of_ble_eq_true rfl, Nat.le_of_ble_eq_true rfl⟩) hw hK hv_t0 (by decide) rfl rfl hl.1 rfl (Nat.le_of_ble_eq_true rfl) dX8_collect_51 ⟨Nat.zero_le _, Nat.zero_le _⟩) hw hA h (fun u H locs hw h => ?_)
    refine lv_iconst (v := 0) hx hb dX8_collect_54 (by decide) ?_
    refine lv_istore_n (lv' := [(2, .int 0), (0, .ref (ad 0)), (1, .int v1)]) hx hb dX8_collect_55 rfl hl (by decide) rfl (fun ls hl => ?_)
    exact j_X8_collect_56 N C0 hA N v1 0 u _ _ _ hv_t0 hw (lv_sub hl [1, 2, 0] rfl) h
  · rw [if_neg hc] at h
    refine lv_aload_n hx hb dX8_collect_34 rfl (lv_at hl 0 rfl) ?_
    refine lv_aload_n hx hb dX8_collect_35 rfl (lv_at hl 0 rfl) ?_
    refine r_getC (t2 := 9) (d := 14) hx hb hts n_X8_collect_X8 hown hK hw hv_t0 (by decide) rfl 14 (by decide) rfl rfl (hts _ k_X8_collect_5) (fun _ q => q) dX8_collect_36 (fun hv13 => ?_)
    refine lv_iload_n hx hb dX8_collect_39 rfl (lv_at hl 2 rfl) ?_
    refine r_iald (n := 80) hx hb hK hw hv13 rfl dX8_collect_40 h (fun x14 h => ?_)
    refine r_bV (fun o ho => r_vV (As := [.int x14]) (rest := []) ⟨hx, hb, hml, hown, hts⟩ (c_X8_scan l D cy L ad N x14 u o hv_t0 ho) (cwV 1 hts gX8_collect_X8_scan rfl rfl rfl (by decide +kernel) ⟨Nat.le_of_ble_eq_true rfl, Nat.le_of_ble_eq_true rfl⟩) hw hK hv_t0 (by decide) rfl rfl hl.1 rfl (Nat.le_of_ble_eq_true rfl) dX8_collect_41 ⟨Nat.zero_le _, Nat.zero_le _⟩) hw hA h (fun u H locs hw h => ?_)
    refine lv_iinc (v := v2 + 1) (lv' := [(2, .int (v2 + 1)), (0, .ref (ad 0)), (1, .int v1)]) hx hb dX8_collect_44 hl (k := 2) rfl rfl (by decide) rfl (fun ls hl => ?_)
    refine lv_goto (tgt := 26) hx hb dX8_collect_47 (by decide) ?_
    exact hK26 v1 (v2 + 1) u _ _ _ hv_t0 hw (lv_sub hl [1, 2, 0] rfl) h
set_option maxHeartbeats 4000000 in
set_option maxRecDepth 100000 in
theorem j_X8_collect_26 {p : Program} {l : Launch} {e : Env} {s : State} {m : MethodId} {args : Array Value} {below : List Frame} {meth : Method} {c : Code} {D : va_G} {cy : Nat → ClassId} {L : List Nat} {ad : Nat → Nat} {A : Nat → Prop} {o : Int32 × Mm} (N : Nat)   (C0 : Cx p m meth c cX8_collect (some .int) 4 s args wsX8_collect RX8 D cy) (hA : ∀ q : Nat, s.heap.size ≤ q → A q)  : ∀ (n : Nat), ∀ (v1 : Int32) (v2 : Int32) (u : Mm) (H : Heap) (locs : List Loc) (ls : Array Slot), vn L 8 0 → Wd D cy L ad A s.heap u H locs → lv_has ls 4 [(0, .ref (ad 0)), (1, .int v1), (2, .int v2)] → f_X8_collect_26 N   n v1 v2 u = some o → W p l e ({ frames := 4, cells := 0, slots := 0, locals := 92 } : Room) s m args below meth c H locs 0 0 (MQ below (QcI D cy L ad A o) args s 0 0 A) (F0 m 26 ls []) := by
  intro n
  induction n with
  | zero =>
    intro v1 v2 u H locs ls hv_t0 hw hl h
    cases h
  | succ n ih => exact jg_X8_collect_26 N   C0 hA  _ ih
def f_X8_collect (N : Nat)  (u : Mm) : Option (Int32 × Mm) :=
  pt (sI u 0 0 0) (fun u => pt (u.1 0 20) (fun x1 => pt (u.1 0 21) (fun x2 => pt (sI u 0 21 (x2 + 1)) (fun u => bv (f_X8_mark N u) (fun u => f_X8_collect_26 N N x1 0 u)))))
set_option maxHeartbeats 4000000 in
set_option maxRecDepth 100000 in
theorem c_X8_collect (l : Launch) (D : va_G) (cy : Nat → ClassId) (L : List Nat) (ad : Nat → Nat) (N : Nat)  (u : Mm) (o : Int32 × Mm) (h_this : vn L 8 0) (h : f_X8_collect N  u = some o) : MtI l yX8_collect wsX8_collect ({ frames := 4, cells := 0, slots := 0, locals := 92 } : Room) D cy L ad [.ref (ad 0)] u o := by
  intro sz
  refine Met.ofW (cc := cX8_collect) (maxL := 4) (ret := (some .int)) (by decide) rfl ?_
  intro p e s m args below meth c s₁ B hml hv
  obtain ⟨rfl, hsz, hP, hK, hD0, hok⟩ := hv
  have hx := B.exec
  have hb := B.bytes
  have hr := B.returns
  have hts := atoms_spec (ws := wsX8_collect) B.pre
  have hown : s.vm.findClass RX8 = some m.cls := findClass_of_methodNamed B.named
  have hlocks := B.notSynchronized
  subst hsz
  have hw := wd_start hP hD0 hok
  have hA : ∀ q : Nat, s.heap.size ≤ q → va_A (wl cy L ad u) s.heap.size q := fun q h => Or.inr h
  generalize va_A (wl cy L ad u) s.heap.size = A at hw hA ⊢
  have C0 : Cx p m meth c cX8_collect (some .int) 4 s _ wsX8_collect RX8 D cy := ⟨hx, hb, hr, hml, hown, hts, hlocks, hK⟩
  have hl := lv_entry ([.ref (ad 0)]) (n := 4) (Nat.le_of_ble_eq_true rfl)
  rw [lg_entry_eq]
  generalize (lg_sl ([.ref (ad 0)]) ++ List.replicate (4 - (lg_sl ([.ref (ad 0)])).length) Slot.unset).toArray = ls at hl ⊢
  have hl : lv_has ls 4 [(0, .ref (ad 0))] := hl
  unfold f_X8_collect at h
  refine lv_aload_n hx hb dX8_collect_0 rfl (lv_at hl 0 rfl) ?_
  refine lv_iconst (v := 0) hx hb dX8_collect_1 (by decide) ?_
  refine r_putI (ty := .int) hx hb hts n_X8_collect_X8 tyX8 tyX8_ok nmX8 hown hK hw h_this (by decide) rfl 0 (by decide) rfl (hts _ k_X8_collect_1) (fun _ q => q) rfl rfl rfl rfl dX8_collect_2 h (fun u H locs hw h => ?_)
  refine lv_aload_n hx hb dX8_collect_5 rfl (lv_at hl 0 rfl) ?_
  refine r_getI hx hb hts n_X8_collect_X8 hown hK hw h_this (by decide) rfl 20 (by decide) rfl (hts _ k_X8_collect_2) (fun _ q => q) dX8_collect_6 h (fun x1 h => ?_)
  refine lv_istore_n (lv' := [(1, .int x1), (0, .ref (ad 0))]) hx hb dX8_collect_9 rfl hl (by decide) rfl (fun ls hl => ?_)
  refine lv_aload_n hx hb dX8_collect_10 rfl (lv_at hl 1 rfl) ?_
  refine lv_dup hx hb dX8_collect_11 rfl ?_
  refine r_getI hx hb hts n_X8_collect_X8 hown hK hw h_this (by decide) rfl 21 (by decide) rfl (hts _ k_X8_collect_3) (fun _ q => q) dX8_collect_12 h (fun x2 h => ?_)
  refine lv_iconst (v := 1) hx hb dX8_collect_15 (by decide) ?_
  refine lv_iadd hx hb dX8_collect_16 ?_
  refine r_putI (ty := .int) hx hb hts n_X8_collect_X8 tyX8 tyX8_ok nmX8 hown hK hw h_this (by decide) rfl 21 (by decide) rfl (hts _ k_X8_collect_3) (fun _ q => q) rfl rfl rfl rfl dX8_collect_17 h (fun u H locs hw h => ?_)
  refine lv_aload_n hx hb dX8_collect_20 rfl (lv_at hl 1 rfl) ?_
  refine r_bV (fun o ho => r_vV (As := []) (rest := []) ⟨hx, hb, hml, hown, hts⟩ (c_X8_mark l D cy L ad N u o h_this ho) (cwV 0 hts gX8_collect_X8_mark rfl rfl rfl (by decide +kernel) ⟨Nat.le_of_ble_eq_true rfl, Nat.le_of_ble_eq_true rfl⟩) hw hK h_this (by decide) rfl rfl hl.1 rfl (Nat.le_of_ble_eq_true rfl) dX8_collect_21 ⟨Nat.zero_le _, Nat.zero_le _⟩) hw hA h (fun u H locs hw h => ?_)
  refine lv_iconst (v := 0) hx hb dX8_collect_24 (by decide) ?_
  refine lv_istore_n (lv' := [(2, .int 0), (1, .int x1), (0, .ref (ad 0))]) hx hb dX8_collect_25 rfl hl (by decide) rfl (fun ls hl => ?_)
  exact j_X8_collect_26 N C0 hA N x1 0 u _ _ _ h_this hw (lv_sub hl [2, 1, 0] rfl) h

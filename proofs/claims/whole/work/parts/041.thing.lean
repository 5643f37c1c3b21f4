theorem k_X5_hasField_1 : Cond.fieldLink RX5 21 "RingHeap$Thing" "kind" "LRingHeap$Kind;" ∈ wsX5_hasField := List.mem_of_getElem? (i := 1) (by rfl)
theorem n_X5_hasField_X5 : ∀ w ∈ u_ws RX5 TX5 11, w ∈ wsX5_hasField := fun _ h => List.mem_cons_of_mem _ (List.mem_append_left _ (List.mem_append_right _ h))
theorem k_X5_hasField_2 : Cond.fieldLink RX5 29 "RingHeap$Kind" "fields" "I" ∈ wsX5_hasField := List.mem_of_getElem? (i := 2) (by rfl)
theorem n_X5_hasField_X2 : ∀ w ∈ u_ws RX2 TX2 4, w ∈ wsX5_hasField := fun _ h => List.mem_cons_of_mem _ (List.mem_append_right _ h)
theorem k_X5_hasField_3 : Cond.fieldLink RX5 25 "RingHeap$Thing" "held" "[LRingHeap$Thing;" ∈ wsX5_hasField := List.mem_of_getElem? (i := 3) (by rfl)
def f_X5_hasField (N : Nat) (a0 : Nat) (p0 : Int32) (u : Mm) : Option (Int32 × Mm) :=
  if p0 < 0 then (some (0, u)) else (pt (u.2 a0 1) (fun r1 => nl r1 none (fun t2 => pt (u.1 t2 1) (fun x4 => if x4 ≤ p0 then (some (0, u)) else (if 6 ≤ p0 then (some (0, u)) else (some (1, u)))))))
set_option maxHeartbeats 4000000 in
set_option maxRecDepth 100000 in
theorem c_X5_hasField (l : Launch) (D : va_G) (cy : Nat → ClassId) (L : List Nat) (ad : Nat → Nat) (N : Nat) (a0 : Nat) (p0 : Int32) (u : Mm) (o : Int32 × Mm) (h_a0 : vn L 5 a0) (h : f_X5_hasField N a0 p0 u = some o) : MtI l yX5_hasField wsX5_hasField ({ frames := 0, cells := 0, slots := 0, locals := 0 } : Room) D cy L ad [.ref (ad a0), .int p0] u o := by
  intro sz
  refine Met.ofW (cc := cX5_hasField) (maxL := 2) (ret := (some .boolean)) (by decide) rfl ?_
  intro p e s m args below meth c s₁ B hml hv
  obtain ⟨rfl, hsz, hP, hK, hD0, hok⟩ := hv
  have hx := B.exec
  have hb := B.bytes
  have hr := B.returns
  have hts := atoms_spec (ws := wsX5_hasField) B.pre
  have hown : s.vm.findClass RX5 = some m.cls := findClass_of_methodNamed B.named
  have hlocks := B.notSynchronized
  subst hsz
  have hw := wd_start hP hD0 hok
  have hA : ∀ q : Nat, s.heap.size ≤ q → va_A (wl cy L ad u) s.heap.size q := fun q h => Or.inr h
  generalize va_A (wl cy L ad u) s.heap.size = A at hw hA ⊢
  have C0 : Cx p m meth c cX5_hasField (some .boolean) 2 s _ wsX5_hasField RX5 D cy := ⟨hx, hb, hr, hml, hown, hts, hlocks, hK⟩
  have hl := lv_entry ([.ref (ad a0), .int p0]) (n := 2) (Nat.le_of_ble_eq_true rfl)
  rw [lg_entry_eq]
  generalize (lg_sl ([.ref (ad a0), .int p0]) ++ List.replicate (2 - (lg_sl ([.ref (ad a0), .int p0])).length) Slot.unset).toArray = ls at hl ⊢
  have hl : lv_has ls 2 [(0, .ref (ad a0)), (1, .int p0)] := hl
  unfold f_X5_hasField at h
  refine lv_iload_n hx hb dX5_hasField_0 rfl (lv_at hl 1 rfl) ?_
  refine lv_if_lt (tgt := 28) hx hb dX5_hasField_1 (by decide) (fun hc => ?_) (fun hc => ?_)
  · rw [if_pos hc] at h
    refine lv_iconst (v := 0) hx hb dX5_hasField_28 (by decide) ?_
    exact r_zret hx hb hr hlocks hK hw (by decide) h dX5_hasField_29
  · rw [if_neg hc] at h
    refine lv_iload_n hx hb dX5_hasField_4 rfl (lv_at hl 1 rfl) ?_
    refine lv_aload_n hx hb dX5_hasField_5 rfl (lv_at hl 0 rfl) ?_
    refine r_getR (t2 := 2) hx hb hts n_X5_hasField_X5 hown hK hw h_a0 (by decide) rfl 1 (by decide) rfl (hts _ k_X5_hasField_1) (fun _ q => q) dX5_hasField_6 h (fun r1 hv_r1 h => ?_)
    refine r_nn hv_r1 h (fun t2 e3 hv_t2 h9 => ?_)
    clear h
    subst e3
    have h := h9
    have hl : lv_has ls 2 [(0, .ref (ad a0)), (1, .int p0)] := hl
    refine r_getI hx hb hts n_X5_hasField_X2 hown hK hw hv_t2 (by decide) rfl 1 (by decide) rfl (hts _ k_X5_hasField_2) (fun _ q => q) dX5_hasField_9 h (fun x4 h => ?_)
    refine lv_icmp_ge (tgt := 28) hx hb dX5_hasField_12 (by decide) (fun hc => ?_) (fun hc => ?_)
    · rw [if_pos hc] at h
      refine lv_iconst (v := 0) hx hb dX5_hasField_28 (by decide) ?_
      exact r_zret hx hb hr hlocks hK hw (by decide) h dX5_hasField_29
    · rw [if_neg hc] at h
      refine lv_iload_n hx hb dX5_hasField_15 rfl (lv_at hl 1 rfl) ?_
      refine lv_aload_n hx hb dX5_hasField_16 rfl (lv_at hl 0 rfl) ?_
      refine r_getC (t2 := 12) (d := (a0 + 1)) hx hb hts n_X5_hasField_X5 hown hK hw h_a0 (by decide) rfl 2 (by decide) rfl (cst5 h_a0.2) (hts _ k_X5_hasField_3) (fun _ q => q) dX5_hasField_17 (fun hv5 => ?_)
      refine r_alen (n := 6) (v := 6) hx hb hK hw hv5 (by decide) (ln5s h_a0.2) rfl dX5_hasField_20 ?_
      refine lv_icmp_ge (tgt := 28) hx hb dX5_hasField_21 (by decide) (fun hc => ?_) (fun hc => ?_)
      · rw [if_pos hc] at h
        refine lv_iconst (v := 0) hx hb dX5_hasField_28 (by decide) ?_
        exact r_zret hx hb hr hlocks hK hw (by decide) h dX5_hasField_29
      · rw [if_neg hc] at h
        refine lv_iconst (v := 1) hx hb dX5_hasField_24 (by decide) ?_
        refine lv_goto (tgt := 29) hx hb dX5_hasField_25 (by decide) ?_
        exact r_zret hx hb hr hlocks hK hw (by decide) h dX5_hasField_29
theorem k_X5_isGreen_1 : Cond.fieldLink RX5 34 "RingHeap$Thing" "colour" "I" ∈ wsX5_isGreen := List.mem_of_getElem? (i := 1) (by rfl)
theorem n_X5_isGreen_X5 : ∀ w ∈ u_ws RX5 TX5 11, w ∈ wsX5_isGreen := fun _ h => List.mem_cons_of_mem _ (List.mem_append_right _ h)
def f_X5_isGreen (N : Nat) (a0 : Nat) (u : Mm) : Option (Int32 × Mm) :=
  pt (u.1 a0 5) (fun x1 => if x1 = 4 then (some (1, u)) else (some (0, u)))
set_option maxHeartbeats 4000000 in
set_option maxRecDepth 100000 in
theorem c_X5_isGreen (l : Launch) (D : va_G) (cy : Nat → ClassId) (L : List Nat) (ad : Nat → Nat) (N : Nat) (a0 : Nat) (u : Mm) (o : Int32 × Mm) (h_a0 : vn L 5 a0) (h : f_X5_isGreen N a0 u = some o) : MtI l yX5_isGreen wsX5_isGreen ({ frames := 0, cells := 0, slots := 0, locals := 0 } : Room) D cy L ad [.ref (ad a0)] u o := by
  intro sz
  refine Met.ofW (cc := cX5_isGreen) (maxL := 1) (ret := (some .boolean)) (by decide) rfl ?_
  intro p e s m args below meth c s₁ B hml hv
  obtain ⟨rfl, hsz, hP, hK, hD0, hok⟩ := hv
  have hx := B.exec
  have hb := B.bytes
  have hr := B.returns
  have hts := atoms_spec (ws := wsX5_isGreen) B.pre
  have hown : s.vm.findClass RX5 = some m.cls := findClass_of_methodNamed B.named
  have hlocks := B.notSynchronized
  subst hsz
  have hw := wd_start hP hD0 hok
  have hA : ∀ q : Nat, s.heap.size ≤ q → va_A (wl cy L ad u) s.heap.size q := fun q h => Or.inr h
  generalize va_A (wl cy L ad u) s.heap.size = A at hw hA ⊢
  have C0 : Cx p m meth c cX5_isGreen (some .boolean) 1 s _ wsX5_isGreen RX5 D cy := ⟨hx, hb, hr, hml, hown, hts, hlocks, hK⟩
  have hl := lv_entry ([.ref (ad a0)]) (n := 1) (Nat.le_of_ble_eq_true rfl)
  rw [lg_entry_eq]
  generalize (lg_sl ([.ref (ad a0)]) ++ List.replicate (1 - (lg_sl ([.ref (ad a0)])).length) Slot.unset).toArray = ls at hl ⊢
  have hl : lv_has ls 1 [(0, .ref (ad a0))] := hl
  unfold f_X5_isGreen at h
  refine lv_aload_n hx hb dX5_isGreen_0 rfl (lv_at hl 0 rfl) ?_
  refine r_getI hx hb hts n_X5_isGreen_X5 hown hK hw h_a0 (by decide) rfl 5 (by decide) rfl (hts _ k_X5_isGreen_1) (fun _ q => q) dX5_isGreen_1 h (fun x1 h => ?_)
  refine lv_iconst (v := 4) hx hb dX5_isGreen_4 (by decide) ?_
  refine lv_icmp_ne (tgt := 12) hx hb dX5_isGreen_5 (by decide) (fun hc => ?_) (fun hc => ?_)
  · rw [if_neg hc] at h
    refine lv_iconst (v := 0) hx hb dX5_isGreen_12 (by decide) ?_
    exact r_zret hx hb hr hlocks hK hw (by decide) h dX5_isGreen_13
  · rw [if_pos hc] at h
    refine lv_iconst (v := 1) hx hb dX5_isGreen_8 (by decide) ?_
    refine lv_goto (tgt := 13) hx hb dX5_isGreen_9 (by decide) ?_
    exact r_zret hx hb hr hlocks hK hw (by decide) h dX5_isGreen_13
theorem k_X5_blackenUnlessGreen_1 : Cond.fieldLink RX5 34 "RingHeap$Thing" "colour" "I" ∈ wsX5_blackenUnlessGreen := List.mem_of_getElem? (i := 1) (by rfl)
theorem n_X5_blackenUnlessGreen_X5 : ∀ w ∈ u_ws RX5 TX5 11, w ∈ wsX5_blackenUnlessGreen := fun _ h => List.mem_cons_of_mem _ (List.mem_append_right _ h)
def f_X5_blackenUnlessGreen (N : Nat) (a0 : Nat) (u : Mm) : Option (Mm) :=
  bd (f_X5_isGreen N a0 u) (fun x1 u => if x1 = 0 then (pt (sI u a0 5 0) (fun u => some u)) else (some u))
set_option maxHeartbeats 4000000 in
set_option maxRecDepth 100000 in
theorem c_X5_blackenUnlessGreen (l : Launch) (D : va_G) (cy : Nat → ClassId) (L : List Nat) (ad : Nat → Nat) (N : Nat) (a0 : Nat) (u : Mm) (o : Mm) (h_a0 : vn L 5 a0) (h : f_X5_blackenUnlessGreen N a0 u = some o) : MtV l yX5_blackenUnlessGreen wsX5_blackenUnlessGreen ({ frames := 1, cells := 0, slots := 0, locals := 20 } : Room) D cy L ad [.ref (ad a0)] u o := by
  intro sz
  refine Met.ofW (cc := cX5_blackenUnlessGreen) (maxL := 1) (ret := none) (by decide) rfl ?_
  intro p e s m args below meth c s₁ B hml hv
  obtain ⟨rfl, hsz, hP, hK, hD0, hok⟩ := hv
  have hx := B.exec
  have hb := B.bytes
  have hr := B.returns
  have hts := atoms_spec (ws := wsX5_blackenUnlessGreen) B.pre
  have hown : s.vm.findClass RX5 = some m.cls := findClass_of_methodNamed B.named
  have hlocks := B.notSynchronized
  subst hsz
  have hw := wd_start hP hD0 hok
  have hA : ∀ q : Nat, s.heap.size ≤ q → va_A (wl cy L ad u) s.heap.size q := fun q h => Or.inr h
  generalize va_A (wl cy L ad u) s.heap.size = A at hw hA ⊢
  have C0 : Cx p m meth c cX5_blackenUnlessGreen none 1 s _ wsX5_blackenUnlessGreen RX5 D cy := ⟨hx, hb, hr, hml, hown, hts, hlocks, hK⟩
  have hl := lv_entry ([.ref (ad a0)]) (n := 1) (Nat.le_of_ble_eq_true rfl)
  rw [lg_entry_eq]
  generalize (lg_sl ([.ref (ad a0)]) ++ List.replicate (1 - (lg_sl ([.ref (ad a0)])).length) Slot.unset).toArray = ls at hl ⊢
  have hl : lv_has ls 1 [(0, .ref (ad a0))] := hl
  unfold f_X5_blackenUnlessGreen at h
  refine lv_aload_n hx hb dX5_blackenUnlessGreen_0 rfl (lv_at hl 0 rfl) ?_
  refine r_bI (fun o ho => r_vI (As := []) (rest := []) ⟨hx, hb, hml, hown, hts⟩ (c_X5_isGreen l D cy L ad N a0 u o h_a0 ho) (cwV 0 hts gX5_blackenUnlessGreen_X5_isGreen rfl rfl rfl (by decide +kernel) ⟨Nat.le_of_ble_eq_true rfl, Nat.le_of_ble_eq_true rfl⟩) hw hK h_a0 (by decide) rfl rfl hl.1 rfl (Nat.le_of_ble_eq_true rfl) dX5_blackenUnlessGreen_1 ⟨Nat.zero_le _, Nat.zero_le _⟩) hw hA h (fun x1 u H locs hw h => ?_)
  refine lv_if_ne (tgt := 12) hx hb dX5_blackenUnlessGreen_4 (by decide) (fun hc => ?_) (fun hc => ?_)
  · rw [if_neg hc] at h
    exact r_vret hx hb hr hlocks hK hw h dX5_blackenUnlessGreen_12
  · rw [if_pos hc] at h
    refine lv_aload_n hx hb dX5_blackenUnlessGreen_7 rfl (lv_at hl 0 rfl) ?_
    refine lv_iconst (v := 0) hx hb dX5_blackenUnlessGreen_8 (by decide) ?_
    refine r_putI (ty := .int) hx hb hts n_X5_blackenUnlessGreen_X5 tyX5 tyX5_ok nmX5 hown hK hw h_a0 (by decide) rfl 5 (by decide) rfl (hts _ k_X5_blackenUnlessGreen_1) (fun _ q => q) rfl rfl rfl rfl dX5_blackenUnlessGreen_9 h (fun u H locs hw h => ?_)
    exact r_vret hx hb hr hlocks hK hw h dX5_blackenUnlessGreen_12
theorem k_X5_giveUpNext_1 : Cond.fieldLink RX5 48 "RingHeap$Thing" "nextField" "I" ∈ wsX5_giveUpNext := List.mem_of_getElem? (i := 1) (by rfl)
theorem n_X5_giveUpNext_X5 : ∀ w ∈ u_ws RX5 TX5 11, w ∈ wsX5_giveUpNext := fun _ h => List.mem_cons_of_mem _ (List.mem_append_right _ h)
theorem k_X5_giveUpNext_2 : Cond.fieldLink RX5 25 "RingHeap$Thing" "held" "[LRingHeap$Thing;" ∈ wsX5_giveUpNext := List.mem_of_getElem? (i := 2) (by rfl)
def g_X5_giveUpNext_2 (N : Nat) (a0 : Nat) (K2 : Option Nat → Mm → Option (Option Nat × Mm)) (r1 : Option Nat) (u : Mm) : Option (Option Nat × Mm) :=
  nl r1 (pt (u.1 a0 7) (fun x3 => if x3 < 0 then (some (none, u)) else (pt (u.1 a0 7) (fun x4 => if 6 ≤ x4 then (some (none, u)) else (pt (u.1 a0 7) (fun x7 => ck (bI x7 6) (pt (u.2 (a0 + 1) (ix x7)) (fun r8 => pt (u.1 a0 7) (fun x10 => ck (bI x10 6) (pt (sR u (a0 + 1) (ix x10) none) (fun u => pt (u.1 a0 7) (fun x11 => pt (sI u a0 7 (x11 + 1)) (fun u => K2 r8 u))))))))))))) (fun t1 => some ((some t1), u))
def f_X5_giveUpNext_2 (N : Nat) (a0 : Nat)  : Nat → Option Nat → Mm → Option (Option Nat × Mm)
  | 0 => fun _ _ => none
  | n + 1 => g_X5_giveUpNext_2 N a0  (f_X5_giveUpNext_2 N a0  n)
set_option maxHeartbeats 4000000 in
set_option maxRecDepth 100000 in
theorem jg_X5_giveUpNext_2 {p : Program} {l : Launch} {e : Env} {s : State} {m : MethodId} {args : Array Value} {below : List Frame} {meth : Method} {c : Code} {D : va_G} {cy : Nat → ClassId} {L : List Nat} {ad : Nat → Nat} {A : Nat → Prop} {o : Option Nat × Mm} (N : Nat) (a0 : Nat) (h_a0 : vn L 5 a0) (C0 : Cx p m meth c cX5_giveUpNext (some (.object "RingHeap$Thing")) 2 s args wsX5_giveUpNext RX5 D cy) (hA : ∀ q : Nat, s.heap.size ≤ q → A q)  (K2 : Option Nat → Mm → Option (Option Nat × Mm)) (hK2 : ∀ (r1 : Option Nat) (u : Mm) (H : Heap) (locs : List Loc) (ls : Array Slot), vn L 5 a0 → vr L 5 r1 → Wd D cy L ad A s.heap u H locs → lv_has ls 2 [(0, .ref (ad a0)), (1, va_re ad r1)] → K2 r1 u = some o → W p l e ({ frames := 0, cells := 0, slots := 0, locals := 0 } : Room) s m args below meth c H locs 0 0 (MQ below (QcQ D cy L ad A 5 o) args s 0 0 A) (F0 m 2 ls [])) : ∀ (r1 : Option Nat) (u : Mm) (H : Heap) (locs : List Loc) (ls : Array Slot), vn L 5 a0 → vr L 5 r1 → Wd D cy L ad A s.heap u H locs → lv_has ls 2 [(0, .ref (ad a0)), (1, va_re ad r1)] → g_X5_giveUpNext_2 N a0  K2 r1 u = some o → W p l e ({ frames := 0, cells := 0, slots := 0, locals := 0 } : Room) s m args below meth c H locs 0 0 (MQ below (QcQ D cy L ad A 5 o) args s 0 0 A) (F0 m 2 ls []) := by
  obtain ⟨hx, hb, hr, hml, hown, hts, hlocks, hK⟩ := id C0
  intro r1 u H locs ls hv_t0 hv_r1 hw hl h
  unfold g_X5_giveUpNext_2 at h
  refine r_aloadn hx hb dX5_giveUpNext_2 rfl (lv_at hl 1 rfl) ?_
  refine r_ifnonnull (tgt := 58) hx hb hv_r1 dX5_giveUpNext_3 (by decide) h (fun e2 h9 => ?_) (fun t1 e2 hv_t1 h9 => ?_)
  · clear h
    subst e2
    have h := h9
    have hl : lv_has ls 2 [(0, .ref (ad a0)), (1, va_re ad none)] := hl
    refine lv_aload_n hx hb dX5_giveUpNext_6 rfl (lv_at hl 0 rfl) ?_
    refine r_getI hx hb hts n_X5_giveUpNext_X5 hown hK hw hv_t0 (by decide) rfl 7 (by decide) rfl (hts _ k_X5_giveUpNext_1) (fun _ q => q) dX5_giveUpNext_7 h (fun x3 h => ?_)
    refine lv_if_lt (tgt := 58) hx hb dX5_giveUpNext_10 (by decide) (fun hc => ?_) (fun hc => ?_)
    · rw [if_pos hc] at h
      refine r_aloadn hx hb dX5_giveUpNext_58 rfl (lv_at hl 1 rfl) ?_
      exact r_qret (v := none) hx hb hr hlocks hK hw vr_none h dX5_giveUpNext_59
    · rw [if_neg hc] at h
      refine lv_aload_n hx hb dX5_giveUpNext_13 rfl (lv_at hl 0 rfl) ?_
      refine r_getI hx hb hts n_X5_giveUpNext_X5 hown hK hw hv_t0 (by decide) rfl 7 (by decide) rfl (hts _ k_X5_giveUpNext_1) (fun _ q => q) dX5_giveUpNext_14 h (fun x4 h => ?_)
      refine lv_aload_n hx hb dX5_giveUpNext_17 rfl (lv_at hl 0 rfl) ?_
      refine r_getC (t2 := 12) (d := (a0 + 1)) hx hb hts n_X5_giveUpNext_X5 hown hK hw hv_t0 (by decide) rfl 2 (by decide) rfl (cst5 hv_t0.2) (hts _ k_X5_giveUpNext_2) (fun _ q => q) dX5_giveUpNext_18 (fun hv5 => ?_)
      refine r_alen (n := 6) (v := 6) hx hb hK hw hv5 (by decide) (ln5s hv_t0.2) rfl dX5_giveUpNext_21 ?_
      refine lv_icmp_ge (tgt := 58) hx hb dX5_giveUpNext_22 (by decide) (fun hc => ?_) (fun hc => ?_)
      · rw [if_pos hc] at h
        refine r_aloadn hx hb dX5_giveUpNext_58 rfl (lv_at hl 1 rfl) ?_
        exact r_qret (v := none) hx hb hr hlocks hK hw vr_none h dX5_giveUpNext_59
      · rw [if_neg hc] at h
        refine lv_aload_n hx hb dX5_giveUpNext_25 rfl (lv_at hl 0 rfl) ?_
        refine r_getC (t2 := 12) (d := (a0 + 1)) hx hb hts n_X5_giveUpNext_X5 hown hK hw hv_t0 (by decide) rfl 2 (by decide) rfl (cst5 hv_t0.2) (hts _ k_X5_giveUpNext_2) (fun _ q => q) dX5_giveUpNext_26 (fun hv6 => ?_)
        refine lv_aload_n hx hb dX5_giveUpNext_29 rfl (lv_at hl 0 rfl) ?_
        refine r_getI hx hb hts n_X5_giveUpNext_X5 hown hK hw hv_t0 (by decide) rfl 7 (by decide) rfl (hts _ k_X5_giveUpNext_1) (fun _ q => q) dX5_giveUpNext_30 h (fun x7 h => ?_)
        refine r_tald (n := 6) hx hb hK hw hv6 (ln5s hv_t0.2) dX5_giveUpNext_33 h (fun r8 hv_r8 h => ?_)
        refine r_astoren (lv' := [(1, va_re ad r8), (0, .ref (ad a0))]) hx hb dX5_giveUpNext_34 rfl hl (by decide) rfl (fun ls hl => ?_)
        refine lv_aload_n hx hb dX5_giveUpNext_35 rfl (lv_at hl 1 rfl) ?_
        refine r_getC (t2 := 12) (d := (a0 + 1)) hx hb hts n_X5_giveUpNext_X5 hown hK hw hv_t0 (by decide) rfl 2 (by decide) rfl (cst5 hv_t0.2) (hts _ k_X5_giveUpNext_2) (fun _ q => q) dX5_giveUpNext_36 (fun hv9 => ?_)
        refine lv_aload_n hx hb dX5_giveUpNext_39 rfl (lv_at hl 1 rfl) ?_
        refine r_getI hx hb hts n_X5_giveUpNext_X5 hown hK hw hv_t0 (by decide) rfl 7 (by decide) rfl (hts _ k_X5_giveUpNext_1) (fun _ q => q) dX5_giveUpNext_40 h (fun x10 h => ?_)
        refine lv_null hx hb dX5_giveUpNext_43 ?_
        refine r_tast (n := 6) (v := none) hx hb hK hw hv9 (ln5s hv_t0.2) vr_none dX5_giveUpNext_44 h (fun u H locs hw h => ?_)
        refine lv_aload_n hx hb dX5_giveUpNext_45 rfl (lv_at hl 1 rfl) ?_
        refine lv_dup hx hb dX5_giveUpNext_46 rfl ?_
        refine r_getI hx hb hts n_X5_giveUpNext_X5 hown hK hw hv_t0 (by decide) rfl 7 (by decide) rfl (hts _ k_X5_giveUpNext_1) (fun _ q => q) dX5_giveUpNext_47 h (fun x11 h => ?_)
        refine lv_iconst (v := 1) hx hb dX5_giveUpNext_50 (by decide) ?_
        refine lv_iadd hx hb dX5_giveUpNext_51 ?_
        refine r_putI (ty := .int) hx hb hts n_X5_giveUpNext_X5 tyX5 tyX5_ok nmX5 hown hK hw hv_t0 (by decide) rfl 7 (by decide) rfl (hts _ k_X5_giveUpNext_1) (fun _ q => q) rfl rfl rfl rfl dX5_giveUpNext_52 h (fun u H locs hw h => ?_)
        refine lv_goto (tgt := 2) hx hb dX5_giveUpNext_55 (by decide) ?_
        exact hK2 r8 u _ _ _ hv_t0 hv_r8 hw (lv_sub hl [1, 0] rfl) h
  · clear h
    subst e2
    have h := h9
    have hl : lv_has ls 2 [(0, .ref (ad a0)), (1, .ref (ad t1))] := hl
    refine lv_aload_n hx hb dX5_giveUpNext_58 rfl (lv_at hl 1 rfl) ?_
    exact r_qret (v := (some t1)) hx hb hr hlocks hK hw (vr_some hv_t1) h dX5_giveUpNext_59
set_option maxHeartbeats 4000000 in
set_option maxRecDepth 100000 in
theorem j_X5_giveUpNext_2 {p : Program} {l : Launch} {e : Env} {s : State} {m : MethodId} {args : Array Value} {below : List Frame} {meth : Method} {c : Code} {D : va_G} {cy : Nat → ClassId} {L : List Nat} {ad : Nat → Nat} {A : Nat → Prop} {o : Option Nat × Mm} (N : Nat) (a0 : Nat) (h_a0 : vn L 5 a0) (C0 : Cx p m meth c cX5_giveUpNext (some (.object "RingHeap$Thing")) 2 s args wsX5_giveUpNext RX5 D cy) (hA : ∀ q : Nat, s.heap.size ≤ q → A q)  : ∀ (n : Nat), ∀ (r1 : Option Nat) (u : Mm) (H : Heap) (locs : List Loc) (ls : Array Slot), vn L 5 a0 → vr L 5 r1 → Wd D cy L ad A s.heap u H locs → lv_has ls 2 [(0, .ref (ad a0)), (1, va_re ad r1)] → f_X5_giveUpNext_2 N a0  n r1 u = some o → W p l e ({ frames := 0, cells := 0, slots := 0, locals := 0 } : Room) s m args below meth c H locs 0 0 (MQ below (QcQ D cy L ad A 5 o) args s 0 0 A) (F0 m 2 ls []) := by
  intro n
  induction n with
  | zero =>
    intro r1 u H locs ls hv_t0 hv_r1 hw hl h
    cases h
  | succ n ih => exact jg_X5_giveUpNext_2 N a0 h_a0 C0 hA  _ ih
def f_X5_giveUpNext (N : Nat) (a0 : Nat) (u : Mm) : Option (Option Nat × Mm) :=
  f_X5_giveUpNext_2 N a0 N none u
set_option maxHeartbeats 4000000 in
set_option maxRecDepth 100000 in
theorem c_X5_giveUpNext (l : Launch) (D : va_G) (cy : Nat → ClassId) (L : List Nat) (ad : Nat → Nat) (N : Nat) (a0 : Nat) (u : Mm) (o : Option Nat × Mm) (h_a0 : vn L 5 a0) (h : f_X5_giveUpNext N a0 u = some o) : MtQ l yX5_giveUpNext wsX5_giveUpNext ({ frames := 0, cells := 0, slots := 0, locals := 0 } : Room) D cy L ad 5 [.ref (ad a0)] u o := by
  intro sz
  refine Met.ofW (cc := cX5_giveUpNext) (maxL := 2) (ret := (some (.object "RingHeap$Thing"))) (by decide) rfl ?_
  intro p e s m args below meth c s₁ B hml hv
  obtain ⟨rfl, hsz, hP, hK, hD0, hok⟩ := hv
  have hx := B.exec
  have hb := B.bytes
  have hr := B.returns
  have hts := atoms_spec (ws := wsX5_giveUpNext) B.pre
  have hown : s.vm.findClass RX5 = some m.cls := findClass_of_methodNamed B.named
  have hlocks := B.notSynchronized
  subst hsz
  have hw := wd_start hP hD0 hok
  have hA : ∀ q : Nat, s.heap.size ≤ q → va_A (wl cy L ad u) s.heap.size q := fun q h => Or.inr h
  generalize va_A (wl cy L ad u) s.heap.size = A at hw hA ⊢
  have C0 : Cx p m meth c cX5_giveUpNext (some (.object "RingHeap$Thing")) 2 s _ wsX5_giveUpNext RX5 D cy := ⟨hx, hb, hr, hml, hown, hts, hlocks, hK⟩
  have hl := lv_entry ([.ref (ad a0)]) (n := 2) (Nat.le_of_ble_eq_true rfl)
  rw [lg_entry_eq]
  generalize (lg_sl ([.ref (ad a0)]) ++ List.replicate (2 - (lg_sl ([.ref (ad a0)])).length) Slot.unset).toArray = ls at hl ⊢
  have hl : lv_has ls 2 [(0, .ref (ad a0))] := hl
  unfold f_X5_giveUpNext at h
  refine lv_null hx hb dX5_giveUpNext_0 ?_
  refine r_astoren (lv' := [(1, va_re ad none), (0, .ref (ad a0))]) hx hb dX5_giveUpNext_1 rfl hl (by decide) rfl (fun ls hl => ?_)
  exact j_X5_giveUpNext_2 N a0 h_a0 C0 hA N none u _ _ _ h_a0 vr_none hw (lv_sub hl [1, 0] rfl) h
theorem k_X5_tell_1 : Cond.fieldLink RX5 21 "RingHeap$Thing" "kind" "LRingHeap$Kind;" ∈ wsX5_tell := List.mem_of_getElem? (i := 1) (by rfl)
theorem n_X5_tell_X5 : ∀ w ∈ u_ws RX5 TX5 11, w ∈ wsX5_tell := fun _ h => List.mem_cons_of_mem _ (List.mem_append_left _ (List.mem_append_right _ h))
theorem k_X5_tell_2 : Cond.fieldLink RX5 51 "RingHeap$Kind" "number" "I" ∈ wsX5_tell := List.mem_of_getElem? (i := 2) (by rfl)
theorem n_X5_tell_X2 : ∀ w ∈ u_ws RX2 TX2 4, w ∈ wsX5_tell := fun _ h => List.mem_cons_of_mem _ (List.mem_append_right _ h)
theorem k_X5_tell_3 : Cond.fieldLink RX5 9 "RingHeap$Thing" "count" "I" ∈ wsX5_tell := List.mem_of_getElem? (i := 3) (by rfl)
theorem k_X5_tell_4 : Cond.fieldLink RX5 34 "RingHeap$Thing" "colour" "I" ∈ wsX5_tell := List.mem_of_getElem? (i := 4) (by rfl)
theorem k_X5_tell_5 : Cond.fieldLink RX5 52 "RingHeap$Thing" "address" "I" ∈ wsX5_tell := List.mem_of_getElem? (i := 5) (by rfl)
theorem k_X5_tell_6 : Cond.fieldLink RX5 55 "RingHeap$Thing" "inList" "Z" ∈ wsX5_tell := List.mem_of_getElem? (i := 6) (by rfl)
theorem k_X5_tell_7 : Cond.fieldLink RX5 41 "RingHeap$Thing" "wishUntold" "Z" ∈ wsX5_tell := List.mem_of_getElem? (i := 7) (by rfl)
theorem k_X5_tell_8 : Cond.fieldLink RX5 15 "RingHeap$Thing" "hands" "I" ∈ wsX5_tell := List.mem_of_getElem? (i := 8) (by rfl)
theorem k_X5_tell_9 : Cond.fieldLink RX5 58 "RingHeap$Thing" "husk" "Z" ∈ wsX5_tell := List.mem_of_getElem? (i := 9) (by rfl)
def f_X5_tell (N : Nat) (a0 : Nat) (p0 : Int32) (u : Mm) : Option (Int32 × Mm) :=
  if p0 = 0 then (pt (u.2 a0 1) (fun r1 => nl r1 none (fun t2 => pt (u.1 t2 0) (fun x4 => some (x4, u))))) else (if p0 = 1 then (pt (u.1 a0 3) (fun x6 => some (x6, u))) else (if p0 = 2 then (pt (u.1 a0 5) (fun x8 => some (x8, u))) else (if p0 = 3 then (pt (u.1 a0 6) (fun x10 => some (x10, u))) else (if p0 = 4 then (pt (u.1 a0 8) (fun x12 => if x12 = 0 then (some (0, u)) else (some (1, u)))) else (if p0 = 5 then (pt (u.1 a0 9) (fun x14 => if x14 = 0 then (some (0, u)) else (some (1, u)))) else (if p0 = 6 then (pt (u.1 a0 4) (fun x16 => some (x16, u))) else (pt (u.1 a0 10) (fun x18 => if x18 = 0 then (some (0, u)) else (some (1, u))))))))))
set_option maxHeartbeats 4000000 in
set_option maxRecDepth 100000 in
theorem c_X5_tell (l : Launch) (D : va_G) (cy : Nat → ClassId) (L : List Nat) (ad : Nat → Nat) (N : Nat) (a0 : Nat) (p0 : Int32) (u : Mm) (o : Int32 × Mm) (h_a0 : vn L 5 a0) (h : f_X5_tell N a0 p0 u = some o) : MtI l yX5_tell wsX5_tell ({ frames := 0, cells := 0, slots := 0, locals := 0 } : Room) D cy L ad [.ref (ad a0), .int p0] u o := by
  intro sz
  refine Met.ofW (cc := cX5_tell) (maxL := 2) (ret := (some .int)) (by decide) rfl ?_
  intro p e s m args below meth c s₁ B hml hv
  obtain ⟨rfl, hsz, hP, hK, hD0, hok⟩ := hv
  have hx := B.exec
  have hb := B.bytes
  have hr := B.returns
  have hts := atoms_spec (ws := wsX5_tell) B.pre
  have hown : s.vm.findClass RX5 = some m.cls := findClass_of_methodNamed B.named
  have hlocks := B.notSynchronized
  subst hsz
  have hw := wd_start hP hD0 hok
  have hA : ∀ q : Nat, s.heap.size ≤ q → va_A (wl cy L ad u) s.heap.size q := fun q h => Or.inr h
  generalize va_A (wl cy L ad u) s.heap.size = A at hw hA ⊢
  have C0 : Cx p m meth c cX5_tell (some .int) 2 s _ wsX5_tell RX5 D cy := ⟨hx, hb, hr, hml, hown, hts, hlocks, hK⟩
  have hl := lv_entry ([.ref (ad a0), .int p0]) (n := 2) (Nat.le_of_ble_eq_true rfl)
  rw [lg_entry_eq]
  generalize (lg_sl ([.ref (ad a0), .int p0]) ++ List.replicate (2 - (lg_sl ([.ref (ad a0), .int p0])).length) Slot.unset).toArray = ls at hl ⊢
  have hl : lv_has ls 2 [(0, .ref (ad a0)), (1, .int p0)] := hl
  unfold f_X5_tell at h
  refine lv_iload_n hx hb dX5_tell_0 rfl (lv_at hl 1 rfl) ?_
  by_cases hq5 : p0 = 0
  · rw [if_pos hq5] at h
    refine r_tin (tgt := 44) (k := 0) (off := 43) hx hb dX5_tell_1 hq5 (by decide) (by decide) (by decide) (by decide) ?_
    refine lv_aload_n hx hb dX5_tell_44 rfl (lv_at hl 0 rfl) ?_
    refine r_getR (t2 := 2) hx hb hts n_X5_tell_X5 hown hK hw h_a0 (by decide) rfl 1 (by decide) rfl (hts _ k_X5_tell_1) (fun _ q => q) dX5_tell_45 h (fun r1 hv_r1 h => ?_)
    refine r_nn hv_r1 h (fun t2 e3 hv_t2 h9 => ?_)
    clear h
    subst e3
    have h := h9
    have hl : lv_has ls 2 [(0, .ref (ad a0)), (1, .int p0)] := hl
    refine r_getI hx hb hts n_X5_tell_X2 hown hK hw hv_t2 (by decide) rfl 0 (by decide) rfl (hts _ k_X5_tell_2) (fun _ q => q) dX5_tell_48 h (fun x4 h => ?_)
    exact r_iret hx hb hr hlocks hK hw h dX5_tell_51
  · rw [if_neg hq5] at h
    by_cases hq7 : p0 = 1
    · rw [if_pos hq7] at h
      refine r_tin (tgt := 52) (k := 1) (off := 51) hx hb dX5_tell_1 hq7 (by decide) (by decide) (by decide) (by decide) ?_
      refine lv_aload_n hx hb dX5_tell_52 rfl (lv_at hl 0 rfl) ?_
      refine r_getI hx hb hts n_X5_tell_X5 hown hK hw h_a0 (by decide) rfl 3 (by decide) rfl (hts _ k_X5_tell_3) (fun _ q => q) dX5_tell_53 h (fun x6 h => ?_)
      exact r_iret hx hb hr hlocks hK hw h dX5_tell_56
    · rw [if_neg hq7] at h
      by_cases hq9 : p0 = 2
      · rw [if_pos hq9] at h
        refine r_tin (tgt := 57) (k := 2) (off := 56) hx hb dX5_tell_1 hq9 (by decide) (by decide) (by decide) (by decide) ?_
        refine lv_aload_n hx hb dX5_tell_57 rfl (lv_at hl 0 rfl) ?_
        refine r_getI hx hb hts n_X5_tell_X5 hown hK hw h_a0 (by decide) rfl 5 (by decide) rfl (hts _ k_X5_tell_4) (fun _ q => q) dX5_tell_58 h (fun x8 h => ?_)
        exact r_iret hx hb hr hlocks hK hw h dX5_tell_61
      · rw [if_neg hq9] at h
        by_cases hq11 : p0 = 3
        · rw [if_pos hq11] at h
          refine r_tin (tgt := 62) (k := 3) (off := 61) hx hb dX5_tell_1 hq11 (by decide) (by decide) (by decide) (by decide) ?_
          refine lv_aload_n hx hb dX5_tell_62 rfl (lv_at hl 0 rfl) ?_
          refine r_getI hx hb hts n_X5_tell_X5 hown hK hw h_a0 (by decide) rfl 6 (by decide) rfl (hts _ k_X5_tell_5) (fun _ q => q) dX5_tell_63 h (fun x10 h => ?_)
          exact r_iret hx hb hr hlocks hK hw h dX5_tell_66
        · rw [if_neg hq11] at h
          by_cases hq13 : p0 = 4
          · rw [if_pos hq13] at h
            refine r_tin (tgt := 67) (k := 4) (off := 66) hx hb dX5_tell_1 hq13 (by decide) (by decide) (by decide) (by decide) ?_
            refine lv_aload_n hx hb dX5_tell_67 rfl (lv_at hl 0 rfl) ?_
            refine r_getI hx hb hts n_X5_tell_X5 hown hK hw h_a0 (by decide) rfl 8 (by decide) rfl (hts _ k_X5_tell_6) (fun _ q => q) dX5_tell_68 h (fun x12 h => ?_)
            refine lv_if_eq (tgt := 78) hx hb dX5_tell_71 (by decide) (fun hc => ?_) (fun hc => ?_)
            · rw [if_pos hc] at h
              refine lv_iconst (v := 0) hx hb dX5_tell_78 (by decide) ?_
              exact r_iret hx hb hr hlocks hK hw h dX5_tell_79
            · rw [if_neg hc] at h
              refine lv_iconst (v := 1) hx hb dX5_tell_74 (by decide) ?_
              refine lv_goto (tgt := 79) hx hb dX5_tell_75 (by decide) ?_
              exact r_iret hx hb hr hlocks hK hw h dX5_tell_79
          · rw [if_neg hq13] at h
            by_cases hq15 : p0 = 5
            · rw [if_pos hq15] at h
              refine r_tin (tgt := 80) (k := 5) (off := 79) hx hb dX5_tell_1 hq15 (by decide) (by decide) (by decide) (by decide) ?_
              refine lv_aload_n hx hb dX5_tell_80 rfl (lv_at hl 0 rfl) ?_
              refine r_getI hx hb hts n_X5_tell_X5 hown hK hw h_a0 (by decide) rfl 9 (by decide) rfl (hts _ k_X5_tell_7) (fun _ q => q) dX5_tell_81 h (fun x14 h => ?_)
              refine lv_if_eq (tgt := 91) hx hb dX5_tell_84 (by decide) (fun hc => ?_) (fun hc => ?_)
              · rw [if_pos hc] at h
                refine lv_iconst (v := 0) hx hb dX5_tell_91 (by decide) ?_
                exact r_iret hx hb hr hlocks hK hw h dX5_tell_92
              · rw [if_neg hc] at h
                refine lv_iconst (v := 1) hx hb dX5_tell_87 (by decide) ?_
                refine lv_goto (tgt := 92) hx hb dX5_tell_88 (by decide) ?_
                exact r_iret hx hb hr hlocks hK hw h dX5_tell_92
            · rw [if_neg hq15] at h
              by_cases hq17 : p0 = 6
              · rw [if_pos hq17] at h
                refine r_tin (tgt := 93) (k := 6) (off := 92) hx hb dX5_tell_1 hq17 (by decide) (by decide) (by decide) (by decide) ?_
                refine lv_aload_n hx hb dX5_tell_93 rfl (lv_at hl 0 rfl) ?_
                refine r_getI hx hb hts n_X5_tell_X5 hown hK hw h_a0 (by decide) rfl 4 (by decide) rfl (hts _ k_X5_tell_8) (fun _ q => q) dX5_tell_94 h (fun x16 h => ?_)
                exact r_iret hx hb hr hlocks hK hw h dX5_tell_97
              · rw [if_neg hq17] at h
                refine lv_tableOut (tgt := 98) hx hb dX5_tell_1 (by have := i32_ne hq5; have := i32_ne hq7; have := i32_ne hq9; have := i32_ne hq11; have := i32_ne hq13; have := i32_ne hq15; have := i32_ne hq17; simp only [i32_0, i32_1, i32_2, i32_3, i32_4, i32_5, i32_6] at *; omega) (by decide) ?_
                refine lv_aload_n hx hb dX5_tell_98 rfl (lv_at hl 0 rfl) ?_
                refine r_getI hx hb hts n_X5_tell_X5 hown hK hw h_a0 (by decide) rfl 10 (by decide) rfl (hts _ k_X5_tell_9) (fun _ q => q) dX5_tell_99 h (fun x18 h => ?_)
                refine lv_if_eq (tgt := 109) hx hb dX5_tell_102 (by decide) (fun hc => ?_) (fun hc => ?_)
                · rw [if_pos hc] at h
                  refine lv_iconst (v := 0) hx hb dX5_tell_109 (by decide) ?_
                  exact r_iret hx hb hr hlocks hK hw h dX5_tell_110
                · rw [if_neg hc] at h
                  refine lv_iconst (v := 1) hx hb dX5_tell_105 (by decide) ?_
                  refine lv_goto (tgt := 110) hx hb dX5_tell_106 (by decide) ?_
                  exact r_iret hx hb hr hlocks hK hw h dX5_tell_110

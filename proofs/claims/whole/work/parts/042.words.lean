theorem k_X6_owner_1 : Cond.fieldLink RX6 11 "RingHeap$Words" "owners" "[LRingHeap$Thing;" ∈ wsX6_owner := List.mem_of_getElem? (i := 1) (by rfl)
theorem n_X6_owner_X6 : ∀ w ∈ u_ws RX6 TX6 2, w ∈ wsX6_owner := fun _ h => List.mem_cons_of_mem _ (List.mem_append_right _ h)
def f_X6_owner (N : Nat) (p0 : Int32) (u : Mm) : Option (Option Nat × Mm) :=
  if p0 < 0 then (some (none, u)) else (if 400 ≤ p0 then (some (none, u)) else (ck (bI p0 400) (pt (u.2 47 (ix p0)) (fun r2 => some (r2, u)))))
set_option maxHeartbeats 4000000 in
set_option maxRecDepth 100000 in
theorem c_X6_owner (l : Launch) (D : va_G) (cy : Nat → ClassId) (L : List Nat) (ad : Nat → Nat) (N : Nat) (p0 : Int32) (u : Mm) (o : Option Nat × Mm) (h_this : vn L 6 46) (h : f_X6_owner N p0 u = some o) : MtQ l yX6_owner wsX6_owner ({ frames := 0, cells := 0, slots := 0, locals := 0 } : Room) D cy L ad 5 [.ref (ad 46), .int p0] u o := by
  intro sz
  refine Met.ofW (cc := cX6_owner) (maxL := 2) (ret := (some (.object "RingHeap$Thing"))) (by decide) rfl ?_
  intro p e s m args below meth c s₁ B hml hv
  obtain ⟨rfl, hsz, hP, hK, hD0, hok⟩ := hv
  have hx := B.exec
  have hb := B.bytes
  have hr := B.returns
  have hts := atoms_spec (ws := wsX6_owner) B.pre
  have hown : s.vm.findClass RX6 = some m.cls := findClass_of_methodNamed B.named
  have hlocks := B.notSynchronized
  subst hsz
  have hw := wd_start hP hD0 hok
  have hA : ∀ q : Nat, s.heap.size ≤ q → va_A (wl cy L ad u) s.heap.size q := fun q h => Or.inr h
  generalize va_A (wl cy L ad u) s.heap.size = A at hw hA ⊢
  have C0 : Cx p m meth c cX6_owner (some (.object "RingHeap$Thing")) 2 s _ wsX6_owner RX6 D cy := ⟨hx, hb, hr, hml, hown, hts, hlocks, hK⟩
  have hl := lv_entry ([.ref (ad 46), .int p0]) (n := 2) (Nat.le_of_ble_eq_true rfl)
  rw [lg_entry_eq]
  generalize (lg_sl ([.ref (ad 46), .int p0]) ++ List.replicate (2 - (lg_sl ([.ref (ad 46), .int p0])).length) Slot.unset).toArray = ls at hl ⊢
  have hl : lv_has ls 2 [(0, .ref (ad 46)), (1, .int p0)] := hl
  unfold f_X6_owner at h
  refine lv_iload_n hx hb dX6_owner_0 rfl (lv_at hl 1 rfl) ?_
  refine lv_if_lt (tgt := 20) hx hb dX6_owner_1 (by decide) (fun hc => ?_) (fun hc => ?_)
  · rw [if_pos hc] at h
    refine lv_null hx hb dX6_owner_20 ?_
    exact r_qret (v := none) hx hb hr hlocks hK hw vr_none h dX6_owner_21
  · rw [if_neg hc] at h
    refine lv_iload_n hx hb dX6_owner_4 rfl (lv_at hl 1 rfl) ?_
    refine lv_sipush (v := 400) hx hb dX6_owner_5 (by decide) ?_
    refine lv_icmp_ge (tgt := 20) hx hb dX6_owner_8 (by decide) (fun hc => ?_) (fun hc => ?_)
    · rw [if_pos hc] at h
      refine lv_null hx hb dX6_owner_20 ?_
      exact r_qret (v := none) hx hb hr hlocks hK hw vr_none h dX6_owner_21
    · rw [if_neg hc] at h
      refine lv_aload_n hx hb dX6_owner_11 rfl (lv_at hl 0 rfl) ?_
      refine r_getC (t2 := 12) (d := 47) hx hb hts n_X6_owner_X6 hown hK hw h_this (by decide) rfl 0 (by decide) rfl rfl (hts _ k_X6_owner_1) (fun _ q => q) dX6_owner_12 (fun hv1 => ?_)
      refine lv_iload_n hx hb dX6_owner_15 rfl (lv_at hl 1 rfl) ?_
      refine r_tald (n := 400) hx hb hK hw hv1 rfl dX6_owner_16 h (fun r2 hv_r2 h => ?_)
      refine lv_goto (tgt := 21) hx hb dX6_owner_17 (by decide) ?_
      exact r_qret (v := r2) hx hb hr hlocks hK hw hv_r2 h dX6_owner_21
theorem k_X6_ownerFrom_1 : Cond.fieldLink RX6 25 "RingHeap$Thing" "address" "I" ∈ wsX6_ownerFrom := List.mem_of_getElem? (i := 1) (by rfl)
theorem n_X6_ownerFrom_X5 : ∀ w ∈ u_ws RX5 TX5 11, w ∈ wsX6_ownerFrom := fun _ h => List.mem_cons_of_mem _ (List.mem_append_left _ (List.mem_append_right _ h))
def f_X6_ownerFrom (N : Nat) (p0 : Int32) (u : Mm) : Option (Option Nat × Mm) :=
  bd (f_X6_owner N p0 u) (fun r1 u => nl r1 (some (none, u)) (fun t2 => pt (u.1 t2 6) (fun x4 => if x4 = p0 then (some ((some t2), u)) else (some (none, u)))))
set_option maxHeartbeats 4000000 in
set_option maxRecDepth 100000 in
theorem c_X6_ownerFrom (l : Launch) (D : va_G) (cy : Nat → ClassId) (L : List Nat) (ad : Nat → Nat) (N : Nat) (p0 : Int32) (u : Mm) (o : Option Nat × Mm) (h_this : vn L 6 46) (h : f_X6_ownerFrom N p0 u = some o) : MtQ l yX6_ownerFrom wsX6_ownerFrom ({ frames := 1, cells := 0, slots := 0, locals := 21 } : Room) D cy L ad 5 [.ref (ad 46), .int p0] u o := by
  intro sz
  refine Met.ofW (cc := cX6_ownerFrom) (maxL := 3) (ret := (some (.object "RingHeap$Thing"))) (by decide) rfl ?_
  intro p e s m args below meth c s₁ B hml hv
  obtain ⟨rfl, hsz, hP, hK, hD0, hok⟩ := hv
  have hx := B.exec
  have hb := B.bytes
  have hr := B.returns
  have hts := atoms_spec (ws := wsX6_ownerFrom) B.pre
  have hown : s.vm.findClass RX6 = some m.cls := findClass_of_methodNamed B.named
  have hlocks := B.notSynchronized
  subst hsz
  have hw := wd_start hP hD0 hok
  have hA : ∀ q : Nat, s.heap.size ≤ q → va_A (wl cy L ad u) s.heap.size q := fun q h => Or.inr h
  generalize va_A (wl cy L ad u) s.heap.size = A at hw hA ⊢
  have C0 : Cx p m meth c cX6_ownerFrom (some (.object "RingHeap$Thing")) 3 s _ wsX6_ownerFrom RX6 D cy := ⟨hx, hb, hr, hml, hown, hts, hlocks, hK⟩
  have hl := lv_entry ([.ref (ad 46), .int p0]) (n := 3) (Nat.le_of_ble_eq_true rfl)
  rw [lg_entry_eq]
  generalize (lg_sl ([.ref (ad 46), .int p0]) ++ List.replicate (3 - (lg_sl ([.ref (ad 46), .int p0])).length) Slot.unset).toArray = ls at hl ⊢
  have hl : lv_has ls 3 [(0, .ref (ad 46)), (1, .int p0)] := hl
  unfold f_X6_ownerFrom at h
  refine lv_aload_n hx hb dX6_ownerFrom_0 rfl (lv_at hl 0 rfl) ?_
  refine lv_iload_n hx hb dX6_ownerFrom_1 rfl (lv_at hl 1 rfl) ?_
  refine r_bQ (fun o ho => r_vQ (As := [.int p0]) (rest := []) ⟨hx, hb, hml, hown, hts⟩ (c_X6_owner l D cy L ad N p0 u o h_this ho) (cwV 1 hts gX6_ownerFrom_X6_owner rfl rfl rfl (by decide +kernel) ⟨Nat.le_of_ble_eq_true rfl, Nat.le_of_ble_eq_true rfl⟩) hw hK h_this (by decide) rfl rfl hl.1 rfl (Nat.le_of_ble_eq_true rfl) dX6_ownerFrom_2 ⟨Nat.zero_le _, Nat.zero_le _⟩) hw hA h (fun r1 u H locs hw hv_r1 h => ?_)
  refine r_astoren (lv' := [(2, va_re ad r1), (0, .ref (ad 46)), (1, .int p0)]) hx hb dX6_ownerFrom_5 rfl hl (by decide) rfl (fun ls hl => ?_)
  refine r_aloadn hx hb dX6_ownerFrom_6 rfl (lv_at hl 0 rfl) ?_
  refine r_ifnull (tgt := 22) hx hb hv_r1 dX6_ownerFrom_7 (by decide) h (fun e3 h9 => ?_) (fun t2 e3 hv_t2 h9 => ?_)
  · clear h
    subst e3
    have h := h9
    have hl : lv_has ls 3 [(2, va_re ad none), (0, .ref (ad 46)), (1, .int p0)] := hl
    refine lv_null hx hb dX6_ownerFrom_22 ?_
    exact r_qret (v := none) hx hb hr hlocks hK hw vr_none h dX6_ownerFrom_23
  · clear h
    subst e3
    have h := h9
    have hl : lv_has ls 3 [(2, .ref (ad t2)), (0, .ref (ad 46)), (1, .int p0)] := hl
    refine lv_aload_n hx hb dX6_ownerFrom_10 rfl (lv_at hl 0 rfl) ?_
    refine r_getI hx hb hts n_X6_ownerFrom_X5 hown hK hw hv_t2 (by decide) rfl 6 (by decide) rfl (hts _ k_X6_ownerFrom_1) (fun _ q => q) dX6_ownerFrom_11 h (fun x4 h => ?_)
    refine lv_iload_n hx hb dX6_ownerFrom_14 rfl (lv_at hl 2 rfl) ?_
    refine lv_icmp_ne (tgt := 22) hx hb dX6_ownerFrom_15 (by decide) (fun hc => ?_) (fun hc => ?_)
    · rw [if_neg hc] at h
      refine lv_null hx hb dX6_ownerFrom_22 ?_
      exact r_qret (v := none) hx hb hr hlocks hK hw vr_none h dX6_ownerFrom_23
    · rw [if_pos hc] at h
      refine lv_aload_n hx hb dX6_ownerFrom_18 rfl (lv_at hl 0 rfl) ?_
      refine lv_goto (tgt := 23) hx hb dX6_ownerFrom_19 (by decide) ?_
      exact r_qret (v := (some t2)) hx hb hr hlocks hK hw (vr_some hv_t2) h dX6_ownerFrom_23
theorem k_X6_gapFor_1 : Cond.fieldLink RX6 11 "RingHeap$Words" "owners" "[LRingHeap$Thing;" ∈ wsX6_gapFor := List.mem_of_getElem? (i := 1) (by rfl)
theorem n_X6_gapFor_X6 : ∀ w ∈ u_ws RX6 TX6 2, w ∈ wsX6_gapFor := fun _ h => List.mem_cons_of_mem _ (List.mem_append_right _ h)
def f_X6_gapFor_27 (N : Nat)  (K4 : Int32 → Int32 → Int32 → Mm → Option (Int32 × Mm)) (v1 : Int32) (v3 : Int32) (w0 : Int32) (u : Mm) : Option (Int32 × Mm) :=
  if w0 < v1 then (K4 v1 w0 (v3 + 1) u) else (some ((v3 + 1) - v1, u))
set_option maxHeartbeats 4000000 in
set_option maxRecDepth 100000 in
theorem j_X6_gapFor_27 {p : Program} {l : Launch} {e : Env} {s : State} {m : MethodId} {args : Array Value} {below : List Frame} {meth : Method} {c : Code} {D : va_G} {cy : Nat → ClassId} {L : List Nat} {ad : Nat → Nat} {A : Nat → Prop} {o : Int32 × Mm} (N : Nat)   (C0 : Cx p m meth c cX6_gapFor (some .int) 4 s args wsX6_gapFor RX6 D cy) (hA : ∀ q : Nat, s.heap.size ≤ q → A q) (K4 : Int32 → Int32 → Int32 → Mm → Option (Int32 × Mm)) (hK4 : ∀ (v1 : Int32) (v2 : Int32) (v3 : Int32) (u : Mm) (H : Heap) (locs : List Loc) (ls : Array Slot), vn L 6 46 → Wd D cy L ad A s.heap u H locs → lv_has ls 4 [(0, .ref (ad 46)), (1, .int v1), (2, .int v2), (3, .int v3)] → K4 v1 v2 v3 u = some o → W p l e ({ frames := 0, cells := 0, slots := 0, locals := 0 } : Room) s m args below meth c H locs 0 0 (MQ below (QcI D cy L ad A o) args s 0 0 A) (F0 m 4 ls [])) : ∀ (v1 : Int32) (v3 : Int32) (w0 : Int32) (u : Mm) (H : Heap) (locs : List Loc) (ls : Array Slot), vn L 6 46 → Wd D cy L ad A s.heap u H locs → lv_has ls 4 [(0, .ref (ad 46)), (1, .int v1), (3, .int v3)] → f_X6_gapFor_27 N  K4 v1 v3 w0 u = some o → W p l e ({ frames := 0, cells := 0, slots := 0, locals := 0 } : Room) s m args below meth c H locs 0 0 (MQ below (QcI D cy L ad A o) args s 0 0 A) (F0 m 27 ls [.int w0]) := by
  obtain ⟨hx, hb, hr, hml, hown, hts, hlocks, hK⟩ := id C0
  intro v1 v3 w0 u H locs ls hv_t0 hw hl h
  unfold f_X6_gapFor_27 at h
  refine lv_istore_n (lv' := [(2, .int w0), (0, .ref (ad 46)), (1, .int v1), (3, .int v3)]) hx hb dX6_gapFor_27 rfl hl (by decide) rfl (fun ls hl => ?_)
  refine lv_iload_n hx hb dX6_gapFor_28 rfl (lv_at hl 0 rfl) ?_
  refine lv_iload_n hx hb dX6_gapFor_29 rfl (lv_at hl 2 rfl) ?_
  refine lv_icmp_lt (tgt := 39) hx hb dX6_gapFor_30 (by decide) (fun hc => ?_) (fun hc => ?_)
  · rw [if_pos hc] at h
    refine lv_iinc (v := v3 + 1) (lv' := [(3, .int (v3 + 1)), (2, .int w0), (0, .ref (ad 46)), (1, .int v1)]) hx hb dX6_gapFor_39 hl (k := 3) rfl rfl (by decide) rfl (fun ls hl => ?_)
    refine lv_goto (tgt := 4) hx hb dX6_gapFor_42 (by decide) ?_
    exact hK4 v1 w0 (v3 + 1) u _ _ _ hv_t0 hw (lv_sub hl [2, 3, 1, 0] rfl) h
  · rw [if_neg hc] at h
    refine lv_iload_n hx hb dX6_gapFor_33 rfl (lv_at hl 3 rfl) ?_
    refine lv_iconst (v := 1) hx hb dX6_gapFor_34 (by decide) ?_
    refine lv_iadd hx hb dX6_gapFor_35 ?_
    refine lv_iload_n hx hb dX6_gapFor_36 rfl (lv_at hl 2 rfl) ?_
    refine lv_isub hx hb dX6_gapFor_37 ?_
    exact r_iret hx hb hr hlocks hK hw h dX6_gapFor_38
def g_X6_gapFor_4 (N : Nat)  (K4 : Int32 → Int32 → Int32 → Mm → Option (Int32 × Mm)) (v1 : Int32) (v2 : Int32) (v3 : Int32) (u : Mm) : Option (Int32 × Mm) :=
  if 400 ≤ v3 then (some ((-1), u)) else (ck (bI v3 400) (pt (u.2 47 (ix v3)) (fun r2 => nl r2 (f_X6_gapFor_27 N K4 v1 v3 (v2 + 1) u) (fun t3 => f_X6_gapFor_27 N K4 v1 v3 0 u))))
def f_X6_gapFor_4 (N : Nat)   : Nat → Int32 → Int32 → Int32 → Mm → Option (Int32 × Mm)
  | 0 => fun _ _ _ _ => none
  | n + 1 => g_X6_gapFor_4 N   (f_X6_gapFor_4 N   n)
set_option maxHeartbeats 4000000 in
set_option maxRecDepth 100000 in
theorem jg_X6_gapFor_4 {p : Program} {l : Launch} {e : Env} {s : State} {m : MethodId} {args : Array Value} {below : List Frame} {meth : Method} {c : Code} {D : va_G} {cy : Nat → ClassId} {L : List Nat} {ad : Nat → Nat} {A : Nat → Prop} {o : Int32 × Mm} (N : Nat)   (C0 : Cx p m meth c cX6_gapFor (some .int) 4 s args wsX6_gapFor RX6 D cy) (hA : ∀ q : Nat, s.heap.size ≤ q → A q)  (K4 : Int32 → Int32 → Int32 → Mm → Option (Int32 × Mm)) (hK4 : ∀ (v1 : Int32) (v2 : Int32) (v3 : Int32) (u : Mm) (H : Heap) (locs : List Loc) (ls : Array Slot), vn L 6 46 → Wd D cy L ad A s.heap u H locs → lv_has ls 4 [(0, .ref (ad 46)), (1, .int v1), (2, .int v2), (3, .int v3)] → K4 v1 v2 v3 u = some o → W p l e ({ frames := 0, cells := 0, slots := 0, locals := 0 } : Room) s m args below meth c H locs 0 0 (MQ below (QcI D cy L ad A o) args s 0 0 A) (F0 m 4 ls [])) : ∀ (v1 : Int32) (v2 : Int32) (v3 : Int32) (u : Mm) (H : Heap) (locs : List Loc) (ls : Array Slot), vn L 6 46 → Wd D cy L ad A s.heap u H locs → lv_has ls 4 [(0, .ref (ad 46)), (1, .int v1), (2, .int v2), (3, .int v3)] → g_X6_gapFor_4 N   K4 v1 v2 v3 u = some o → W p l e ({ frames := 0, cells := 0, slots := 0, locals := 0 } : Room) s m args below meth c H locs 0 0 (MQ below (QcI D cy L ad A o) args s 0 0 A) (F0 m 4 ls []) := by
  obtain ⟨hx, hb, hr, hml, hown, hts, hlocks, hK⟩ := id C0
  intro v1 v2 v3 u H locs ls hv_t0 hw hl h
  unfold g_X6_gapFor_4 at h
  refine lv_iload_n hx hb dX6_gapFor_4 rfl (lv_at hl 3 rfl) ?_
  refine lv_sipush (v := 400) hx hb dX6_gapFor_5 (by decide) ?_
  refine lv_icmp_ge (tgt := 45) hx hb dX6_gapFor_8 (by decide) (fun hc => ?_) (fun hc => ?_)
  · rw [if_pos hc] at h
    refine lv_iconst (v := (-1)) hx hb dX6_gapFor_45 (by decide) ?_
    exact r_iret hx hb hr hlocks hK hw h dX6_gapFor_46
  · rw [if_neg hc] at h
    refine lv_aload_n hx hb dX6_gapFor_11 rfl (lv_at hl 0 rfl) ?_
    refine r_getC (t2 := 12) (d := 47) hx hb hts n_X6_gapFor_X6 hown hK hw hv_t0 (by decide) rfl 0 (by decide) rfl rfl (hts _ k_X6_gapFor_1) (fun _ q => q) dX6_gapFor_12 (fun hv1 => ?_)
    refine lv_iload_n hx hb dX6_gapFor_15 rfl (lv_at hl 3 rfl) ?_
    refine r_tald (n := 400) hx hb hK hw hv1 rfl dX6_gapFor_16 h (fun r2 hv_r2 h => ?_)
    refine r_ifnonnull (tgt := 26) hx hb hv_r2 dX6_gapFor_17 (by decide) h (fun e4 h9 => ?_) (fun t3 e4 hv_t3 h9 => ?_)
    · clear h
      subst e4
      have h := h9
      have hl : lv_has ls 4 [(0, .ref (ad 46)), (1, .int v1), (2, .int v2), (3, .int v3)] := hl
      refine lv_iload_n hx hb dX6_gapFor_20 rfl (lv_at hl 2 rfl) ?_
      refine lv_iconst (v := 1) hx hb dX6_gapFor_21 (by decide) ?_
      refine lv_iadd hx hb dX6_gapFor_22 ?_
      refine lv_goto (tgt := 27) hx hb dX6_gapFor_23 (by decide) ?_
      exact j_X6_gapFor_27 N C0 hA K4 hK4 v1 v3 (v2 + 1) u _ _ _ hv_t0 hw (lv_sub hl [0, 1, 3] rfl) h
    · clear h
      subst e4
      have h := h9
      have hl : lv_has ls 4 [(0, .ref (ad 46)), (1, .int v1), (2, .int v2), (3, .int v3)] := hl
      refine lv_iconst (v := 0) hx hb dX6_gapFor_26 (by decide) ?_
      exact j_X6_gapFor_27 N C0 hA K4 hK4 v1 v3 0 u _ _ _ hv_t0 hw (lv_sub hl [0, 1, 3] rfl) h
set_option maxHeartbeats 4000000 in
set_option maxRecDepth 100000 in
theorem j_X6_gapFor_4 {p : Program} {l : Launch} {e : Env} {s : State} {m : MethodId} {args : Array Value} {below : List Frame} {meth : Method} {c : Code} {D : va_G} {cy : Nat → ClassId} {L : List Nat} {ad : Nat → Nat} {A : Nat → Prop} {o : Int32 × Mm} (N : Nat)   (C0 : Cx p m meth c cX6_gapFor (some .int) 4 s args wsX6_gapFor RX6 D cy) (hA : ∀ q : Nat, s.heap.size ≤ q → A q)  : ∀ (n : Nat), ∀ (v1 : Int32) (v2 : Int32) (v3 : Int32) (u : Mm) (H : Heap) (locs : List Loc) (ls : Array Slot), vn L 6 46 → Wd D cy L ad A s.heap u H locs → lv_has ls 4 [(0, .ref (ad 46)), (1, .int v1), (2, .int v2), (3, .int v3)] → f_X6_gapFor_4 N   n v1 v2 v3 u = some o → W p l e ({ frames := 0, cells := 0, slots := 0, locals := 0 } : Room) s m args below meth c H locs 0 0 (MQ below (QcI D cy L ad A o) args s 0 0 A) (F0 m 4 ls []) := by
  intro n
  induction n with
  | zero =>
    intro v1 v2 v3 u H locs ls hv_t0 hw hl h
    cases h
  | succ n ih => exact jg_X6_gapFor_4 N   C0 hA  _ ih
def f_X6_gapFor (N : Nat) (p0 : Int32) (u : Mm) : Option (Int32 × Mm) :=
  f_X6_gapFor_4 N N p0 0 0 u
set_option maxHeartbeats 4000000 in
set_option maxRecDepth 100000 in
theorem c_X6_gapFor (l : Launch) (D : va_G) (cy : Nat → ClassId) (L : List Nat) (ad : Nat → Nat) (N : Nat) (p0 : Int32) (u : Mm) (o : Int32 × Mm) (h_this : vn L 6 46) (h : f_X6_gapFor N p0 u = some o) : MtI l yX6_gapFor wsX6_gapFor ({ frames := 0, cells := 0, slots := 0, locals := 0 } : Room) D cy L ad [.ref (ad 46), .int p0] u o := by
  intro sz
  refine Met.ofW (cc := cX6_gapFor) (maxL := 4) (ret := (some .int)) (by decide) rfl ?_
  intro p e s m args below meth c s₁ B hml hv
  obtain ⟨rfl, hsz, hP, hK, hD0, hok⟩ := hv
  have hx := B.exec
  have hb := B.bytes
  have hr := B.returns
  have hts := atoms_spec (ws := wsX6_gapFor) B.pre
  have hown : s.vm.findClass RX6 = some m.cls := findClass_of_methodNamed B.named
  have hlocks := B.notSynchronized
  subst hsz
  have hw := wd_start hP hD0 hok
  have hA : ∀ q : Nat, s.heap.size ≤ q → va_A (wl cy L ad u) s.heap.size q := fun q h => Or.inr h
  generalize va_A (wl cy L ad u) s.heap.size = A at hw hA ⊢
  have C0 : Cx p m meth c cX6_gapFor (some .int) 4 s _ wsX6_gapFor RX6 D cy := ⟨hx, hb, hr, hml, hown, hts, hlocks, hK⟩
  have hl := lv_entry ([.ref (ad 46), .int p0]) (n := 4) (Nat.le_of_ble_eq_true rfl)
  rw [lg_entry_eq]
  generalize (lg_sl ([.ref (ad 46), .int p0]) ++ List.replicate (4 - (lg_sl ([.ref (ad 46), .int p0])).length) Slot.unset).toArray = ls at hl ⊢
  have hl : lv_has ls 4 [(0, .ref (ad 46)), (1, .int p0)] := hl
  unfold f_X6_gapFor at h
  refine lv_iconst (v := 0) hx hb dX6_gapFor_0 (by decide) ?_
  refine lv_istore_n (lv' := [(2, .int 0), (0, .ref (ad 46)), (1, .int p0)]) hx hb dX6_gapFor_1 rfl hl (by decide) rfl (fun ls hl => ?_)
  refine lv_iconst (v := 0) hx hb dX6_gapFor_2 (by decide) ?_
  refine lv_istore_n (lv' := [(3, .int 0), (2, .int 0), (0, .ref (ad 46)), (1, .int p0)]) hx hb dX6_gapFor_3 rfl hl (by decide) rfl (fun ls hl => ?_)
  exact j_X6_gapFor_4 N C0 hA N p0 0 0 u _ _ _ h_this hw (lv_sub hl [2, 3, 1, 0] rfl) h
theorem k_X6_give_1 : Cond.fieldLink RX6 28 "RingHeap$Thing" "kind" "LRingHeap$Kind;" ∈ wsX6_give := List.mem_of_getElem? (i := 1) (by rfl)
theorem n_X6_give_X5 : ∀ w ∈ u_ws RX5 TX5 11, w ∈ wsX6_give := fun _ h => List.mem_cons_of_mem _ (List.mem_append_left _ (List.mem_append_left _ (List.mem_append_right _ h)))
theorem k_X6_give_2 : Cond.fieldLink RX6 32 "RingHeap$Kind" "size" "I" ∈ wsX6_give := List.mem_of_getElem? (i := 2) (by rfl)
theorem n_X6_give_X2 : ∀ w ∈ u_ws RX2 TX2 4, w ∈ wsX6_give := fun _ h => List.mem_cons_of_mem _ (List.mem_append_left _ (List.mem_append_right _ h))
theorem k_X6_give_4 : Cond.fieldLink RX6 25 "RingHeap$Thing" "address" "I" ∈ wsX6_give := List.mem_of_getElem? (i := 4) (by rfl)
theorem k_X6_give_5 : Cond.fieldLink RX6 17 "RingHeap$Words" "free" "I" ∈ wsX6_give := List.mem_of_getElem? (i := 5) (by rfl)
theorem n_X6_give_X6 : ∀ w ∈ u_ws RX6 TX6 2, w ∈ wsX6_give := fun _ h => List.mem_cons_of_mem _ (List.mem_append_right _ h)
theorem k_X6_give_3 : Cond.fieldLink RX6 11 "RingHeap$Words" "owners" "[LRingHeap$Thing;" ∈ wsX6_give := List.mem_of_getElem? (i := 3) (by rfl)
def f_X6_give_46 (N : Nat) (p0 : Nat)  (v2 : Int32) (u : Mm) : Option (Mm) :=
  pt (sI u p0 6 v2) (fun u => pt (u.1 46 1) (fun x5 => pt (u.2 p0 1) (fun r6 => nl r6 none (fun t7 => pt (u.1 t7 2) (fun x9 => pt (sI u 46 1 (x5 - x9)) (fun u => some u))))))
set_option maxHeartbeats 4000000 in
set_option maxRecDepth 100000 in
theorem j_X6_give_46 {p : Program} {l : Launch} {e : Env} {s : State} {m : MethodId} {args : Array Value} {below : List Frame} {meth : Method} {c : Code} {D : va_G} {cy : Nat → ClassId} {L : List Nat} {ad : Nat → Nat} {A : Nat → Prop} {o : Mm} (N : Nat) (p0 : Nat) (h_p0 : vn L 5 p0) (C0 : Cx p m meth c cX6_give none 5 s args wsX6_give RX6 D cy) (hA : ∀ q : Nat, s.heap.size ≤ q → A q)  : ∀ (v2 : Int32) (u : Mm) (H : Heap) (locs : List Loc) (ls : Array Slot), vn L 6 46 → vn L 5 p0 → Wd D cy L ad A s.heap u H locs → lv_has ls 5 [(0, .ref (ad 46)), (1, .ref (ad p0)), (2, .int v2)] → f_X6_give_46 N p0  v2 u = some o → W p l e ({ frames := 0, cells := 0, slots := 0, locals := 0 } : Room) s m args below meth c H locs 0 0 (MQ below (QcV D cy L ad A o) args s 0 0 A) (F0 m 46 ls []) := by
  obtain ⟨hx, hb, hr, hml, hown, hts, hlocks, hK⟩ := id C0
  intro v2 u H locs ls hv_t0 hv_t1 hw hl h
  unfold f_X6_give_46 at h
  refine lv_aload_n hx hb dX6_give_46 rfl (lv_at hl 1 rfl) ?_
  refine lv_iload_n hx hb dX6_give_47 rfl (lv_at hl 2 rfl) ?_
  refine r_putI (ty := .int) hx hb hts n_X6_give_X5 tyX5 tyX5_ok nmX5 hown hK hw hv_t1 (by decide) rfl 6 (by decide) rfl (hts _ k_X6_give_4) (fun _ q => q) rfl rfl rfl rfl dX6_give_48 h (fun u H locs hw h => ?_)
  refine lv_aload_n hx hb dX6_give_51 rfl (lv_at hl 0 rfl) ?_
  refine lv_dup hx hb dX6_give_52 rfl ?_
  refine r_getI hx hb hts n_X6_give_X6 hown hK hw hv_t0 (by decide) rfl 1 (by decide) rfl (hts _ k_X6_give_5) (fun _ q => q) dX6_give_53 h (fun x5 h => ?_)
  refine lv_aload_n hx hb dX6_give_56 rfl (lv_at hl 1 rfl) ?_
  refine r_getR (t2 := 2) hx hb hts n_X6_give_X5 hown hK hw hv_t1 (by decide) rfl 1 (by decide) rfl (hts _ k_X6_give_1) (fun _ q => q) dX6_give_57 h (fun r6 hv_r6 h => ?_)
  refine r_nn hv_r6 h (fun t7 e8 hv_t7 h9 => ?_)
  clear h
  subst e8
  have h := h9
  have hl : lv_has ls 5 [(0, .ref (ad 46)), (1, .ref (ad p0)), (2, .int v2)] := hl
  refine r_getI hx hb hts n_X6_give_X2 hown hK hw hv_t7 (by decide) rfl 2 (by decide) rfl (hts _ k_X6_give_2) (fun _ q => q) dX6_give_60 h (fun x9 h => ?_)
  refine lv_isub hx hb dX6_give_63 ?_
  refine r_putI (ty := .int) hx hb hts n_X6_give_X6 tyX6 tyX6_ok nmX6 hown hK hw hv_t0 (by decide) rfl 1 (by decide) rfl (hts _ k_X6_give_5) (fun _ q => q) rfl rfl rfl rfl dX6_give_64 h (fun u H locs hw h => ?_)
  exact r_vret hx hb hr hlocks hK hw h dX6_give_67
def g_X6_give_13 (N : Nat) (p0 : Nat) (K13 : Int32 → Int32 → Int32 → Mm → Option (Mm)) (v2 : Int32) (v3 : Int32) (v4 : Int32) (u : Mm) : Option (Mm) :=
  if v4 < 0 then (f_X6_give_46 N p0 v2 u) else (if v3 ≤ v4 then (f_X6_give_46 N p0 v2 u) else (if 400 ≤ v4 then (f_X6_give_46 N p0 v2 u) else (ck (bI v4 400) (pt (sR u 47 (ix v4) (some p0)) (fun u => K13 v2 v3 (v4 + 1) u)))))
def f_X6_give_13 (N : Nat) (p0 : Nat)  : Nat → Int32 → Int32 → Int32 → Mm → Option (Mm)
  | 0 => fun _ _ _ _ => none
  | n + 1 => g_X6_give_13 N p0  (f_X6_give_13 N p0  n)
set_option maxHeartbeats 4000000 in
set_option maxRecDepth 100000 in
theorem jg_X6_give_13 {p : Program} {l : Launch} {e : Env} {s : State} {m : MethodId} {args : Array Value} {below : List Frame} {meth : Method} {c : Code} {D : va_G} {cy : Nat → ClassId} {L : List Nat} {ad : Nat → Nat} {A : Nat → Prop} {o : Mm} (N : Nat) (p0 : Nat) (h_p0 : vn L 5 p0) (C0 : Cx p m meth c cX6_give none 5 s args wsX6_give RX6 D cy) (hA : ∀ q : Nat, s.heap.size ≤ q → A q)  (K13 : Int32 → Int32 → Int32 → Mm → Option (Mm)) (hK13 : ∀ (v2 : Int32) (v3 : Int32) (v4 : Int32) (u : Mm) (H : Heap) (locs : List Loc) (ls : Array Slot), vn L 6 46 → vn L 5 p0 → Wd D cy L ad A s.heap u H locs → lv_has ls 5 [(0, .ref (ad 46)), (1, .ref (ad p0)), (2, .int v2), (3, .int v3), (4, .int v4)] → K13 v2 v3 v4 u = some o → W p l e ({ frames := 0, cells := 0, slots := 0, locals := 0 } : Room) s m args below meth c H locs 0 0 (MQ below (QcV D cy L ad A o) args s 0 0 A) (F0 m 13 ls [])) : ∀ (v2 : Int32) (v3 : Int32) (v4 : Int32) (u : Mm) (H : Heap) (locs : List Loc) (ls : Array Slot), vn L 6 46 → vn L 5 p0 → Wd D cy L ad A s.heap u H locs → lv_has ls 5 [(0, .ref (ad 46)), (1, .ref (ad p0)), (2, .int v2), (3, .int v3), (4, .int v4)] → g_X6_give_13 N p0  K13 v2 v3 v4 u = some o → W p l e ({ frames := 0, cells := 0, slots := 0, locals := 0 } : Room) s m args below meth c H locs 0 0 (MQ below (QcV D cy L ad A o) args s 0 0 A) (F0 m 13 ls []) := by
  obtain ⟨hx, hb, hr, hml, hown, hts, hlocks, hK⟩ := id C0
  intro v2 v3 v4 u H locs ls hv_t0 hv_t1 hw hl h
  unfold g_X6_give_13 at h
  refine lv_iload hx hb dX6_give_13 (lv_at hl 4 rfl) ?_
  refine lv_if_lt (tgt := 46) hx hb dX6_give_15 (by decide) (fun hc => ?_) (fun hc => ?_)
  · rw [if_pos hc] at h
    exact j_X6_give_46 N p0 h_p0 C0 hA v2 u _ _ _ hv_t0 hv_t1 hw (lv_sub hl [0, 1, 2] rfl) h
  · rw [if_neg hc] at h
    refine lv_iload hx hb dX6_give_18 (lv_at hl 4 rfl) ?_
    refine lv_iload_n hx hb dX6_give_20 rfl (lv_at hl 3 rfl) ?_
    refine lv_icmp_ge (tgt := 46) hx hb dX6_give_21 (by decide) (fun hc => ?_) (fun hc => ?_)
    · rw [if_pos hc] at h
      exact j_X6_give_46 N p0 h_p0 C0 hA v2 u _ _ _ hv_t0 hv_t1 hw (lv_sub hl [0, 1, 2] rfl) h
    · rw [if_neg hc] at h
      refine lv_iload hx hb dX6_give_24 (lv_at hl 4 rfl) ?_
      refine lv_sipush (v := 400) hx hb dX6_give_26 (by decide) ?_
      refine lv_icmp_ge (tgt := 46) hx hb dX6_give_29 (by decide) (fun hc => ?_) (fun hc => ?_)
      · rw [if_pos hc] at h
        exact j_X6_give_46 N p0 h_p0 C0 hA v2 u _ _ _ hv_t0 hv_t1 hw (lv_sub hl [0, 1, 2] rfl) h
      · rw [if_neg hc] at h
        refine lv_aload_n hx hb dX6_give_32 rfl (lv_at hl 0 rfl) ?_
        refine r_getC (t2 := 12) (d := 47) hx hb hts n_X6_give_X6 hown hK hw hv_t0 (by decide) rfl 0 (by decide) rfl rfl (hts _ k_X6_give_3) (fun _ q => q) dX6_give_33 (fun hv10 => ?_)
        refine lv_iload hx hb dX6_give_36 (lv_at hl 4 rfl) ?_
        refine lv_aload_n hx hb dX6_give_38 rfl (lv_at hl 1 rfl) ?_
        refine r_tast (n := 400) (v := (some p0)) hx hb hK hw hv10 rfl (vr_some hv_t1) dX6_give_39 h (fun u H locs hw h => ?_)
        refine lv_iinc (v := v4 + 1) (lv' := [(4, .int (v4 + 1)), (0, .ref (ad 46)), (1, .ref (ad p0)), (2, .int v2), (3, .int v3)]) hx hb dX6_give_40 hl (k := 4) rfl rfl (by decide) rfl (fun ls hl => ?_)
        refine lv_goto (tgt := 13) hx hb dX6_give_43 (by decide) ?_
        exact hK13 v2 v3 (v4 + 1) u _ _ _ hv_t0 hv_t1 hw (lv_sub hl [1, 2, 3, 4, 0] rfl) h
set_option maxHeartbeats 4000000 in
set_option maxRecDepth 100000 in
theorem j_X6_give_13 {p : Program} {l : Launch} {e : Env} {s : State} {m : MethodId} {args : Array Value} {below : List Frame} {meth : Method} {c : Code} {D : va_G} {cy : Nat → ClassId} {L : List Nat} {ad : Nat → Nat} {A : Nat → Prop} {o : Mm} (N : Nat) (p0 : Nat) (h_p0 : vn L 5 p0) (C0 : Cx p m meth c cX6_give none 5 s args wsX6_give RX6 D cy) (hA : ∀ q : Nat, s.heap.size ≤ q → A q)  : ∀ (n : Nat), ∀ (v2 : Int32) (v3 : Int32) (v4 : Int32) (u : Mm) (H : Heap) (locs : List Loc) (ls : Array Slot), vn L 6 46 → vn L 5 p0 → Wd D cy L ad A s.heap u H locs → lv_has ls 5 [(0, .ref (ad 46)), (1, .ref (ad p0)), (2, .int v2), (3, .int v3), (4, .int v4)] → f_X6_give_13 N p0  n v2 v3 v4 u = some o → W p l e ({ frames := 0, cells := 0, slots := 0, locals := 0 } : Room) s m args below meth c H locs 0 0 (MQ below (QcV D cy L ad A o) args s 0 0 A) (F0 m 13 ls []) := by
  intro n
  induction n with
  | zero =>
    intro v2 v3 v4 u H locs ls hv_t0 hv_t1 hw hl h
    cases h
  | succ n ih => exact jg_X6_give_13 N p0 h_p0 C0 hA  _ ih
def f_X6_give (N : Nat) (p0 : Nat) (p1 : Int32) (u : Mm) : Option (Mm) :=
  pt (u.2 p0 1) (fun r1 => nl r1 none (fun t2 => pt (u.1 t2 2) (fun x4 => f_X6_give_13 N p0 N p1 (p1 + x4) p1 u)))
set_option maxHeartbeats 4000000 in
set_option maxRecDepth 100000 in
theorem c_X6_give (l : Launch) (D : va_G) (cy : Nat → ClassId) (L : List Nat) (ad : Nat → Nat) (N : Nat) (p0 : Nat) (p1 : Int32) (u : Mm) (o : Mm) (h_this : vn L 6 46) (h_p0 : vn L 5 p0) (h : f_X6_give N p0 p1 u = some o) : MtV l yX6_give wsX6_give ({ frames := 0, cells := 0, slots := 0, locals := 0 } : Room) D cy L ad [.ref (ad 46), .ref (ad p0), .int p1] u o := by
  intro sz
  refine Met.ofW (cc := cX6_give) (maxL := 5) (ret := none) (by decide) rfl ?_
  intro p e s m args below meth c s₁ B hml hv
  obtain ⟨rfl, hsz, hP, hK, hD0, hok⟩ := hv
  have hx := B.exec
  have hb := B.bytes
  have hr := B.returns
  have hts := atoms_spec (ws := wsX6_give) B.pre
  have hown : s.vm.findClass RX6 = some m.cls := findClass_of_methodNamed B.named
  have hlocks := B.notSynchronized
  subst hsz
  have hw := wd_start hP hD0 hok
  have hA : ∀ q : Nat, s.heap.size ≤ q → va_A (wl cy L ad u) s.heap.size q := fun q h => Or.inr h
  generalize va_A (wl cy L ad u) s.heap.size = A at hw hA ⊢
  have C0 : Cx p m meth c cX6_give none 5 s _ wsX6_give RX6 D cy := ⟨hx, hb, hr, hml, hown, hts, hlocks, hK⟩
  have hl := lv_entry ([.ref (ad 46), .ref (ad p0), .int p1]) (n := 5) (Nat.le_of_ble_eq_true rfl)
  rw [lg_entry_eq]
  generalize (lg_sl ([.ref (ad 46), .ref (ad p0), .int p1]) ++ List.replicate (5 - (lg_sl ([.ref (ad 46), .ref (ad p0), .int p1])).length) Slot.unset).toArray = ls at hl ⊢
  have hl : lv_has ls 5 [(0, .ref (ad 46)), (1, .ref (ad p0)), (2, .int p1)] := hl
  unfold f_X6_give at h
  refine lv_iload_n hx hb dX6_give_0 rfl (lv_at hl 2 rfl) ?_
  refine lv_aload_n hx hb dX6_give_1 rfl (lv_at hl 1 rfl) ?_
  refine r_getR (t2 := 2) hx hb hts n_X6_give_X5 hown hK hw h_p0 (by decide) rfl 1 (by decide) rfl (hts _ k_X6_give_1) (fun _ q => q) dX6_give_2 h (fun r1 hv_r1 h => ?_)
  refine r_nn hv_r1 h (fun t2 e3 hv_t2 h9 => ?_)
  clear h
  subst e3
  have h := h9
  have hl : lv_has ls 5 [(0, .ref (ad 46)), (1, .ref (ad p0)), (2, .int p1)] := hl
  refine r_getI hx hb hts n_X6_give_X2 hown hK hw hv_t2 (by decide) rfl 2 (by decide) rfl (hts _ k_X6_give_2) (fun _ q => q) dX6_give_5 h (fun x4 h => ?_)
  refine lv_iadd hx hb dX6_give_8 ?_
  refine lv_istore_n (lv' := [(3, .int (p1 + x4)), (0, .ref (ad 46)), (1, .ref (ad p0)), (2, .int p1)]) hx hb dX6_give_9 rfl hl (by decide) rfl (fun ls hl => ?_)
  refine lv_iload_n hx hb dX6_give_10 rfl (lv_at hl 3 rfl) ?_
  refine lv_istore (lv' := [(4, .int p1), (3, .int (p1 + x4)), (0, .ref (ad 46)), (1, .ref (ad p0)), (2, .int p1)]) hx hb dX6_give_11 hl (by decide) rfl (fun ls hl => ?_)
  exact j_X6_give_13 N p0 h_p0 C0 hA N p1 (p1 + x4) p1 u _ _ _ h_this h_p0 hw (lv_sub hl [2, 3, 4, 1, 0] rfl) h
theorem k_X6_takeBack_1 : Cond.fieldLink RX6 25 "RingHeap$Thing" "address" "I" ∈ wsX6_takeBack := List.mem_of_getElem? (i := 1) (by rfl)
theorem n_X6_takeBack_X5 : ∀ w ∈ u_ws RX5 TX5 11, w ∈ wsX6_takeBack := fun _ h => List.mem_cons_of_mem _ (List.mem_append_left _ (List.mem_append_left _ (List.mem_append_right _ h)))
theorem k_X6_takeBack_2 : Cond.fieldLink RX6 28 "RingHeap$Thing" "kind" "LRingHeap$Kind;" ∈ wsX6_takeBack := List.mem_of_getElem? (i := 2) (by rfl)
theorem k_X6_takeBack_3 : Cond.fieldLink RX6 32 "RingHeap$Kind" "size" "I" ∈ wsX6_takeBack := List.mem_of_getElem? (i := 3) (by rfl)
theorem n_X6_takeBack_X2 : ∀ w ∈ u_ws RX2 TX2 4, w ∈ wsX6_takeBack := fun _ h => List.mem_cons_of_mem _ (List.mem_append_left _ (List.mem_append_right _ h))
theorem k_X6_takeBack_5 : Cond.fieldLink RX6 17 "RingHeap$Words" "free" "I" ∈ wsX6_takeBack := List.mem_of_getElem? (i := 5) (by rfl)
theorem n_X6_takeBack_X6 : ∀ w ∈ u_ws RX6 TX6 2, w ∈ wsX6_takeBack := fun _ h => List.mem_cons_of_mem _ (List.mem_append_right _ h)
theorem k_X6_takeBack_4 : Cond.fieldLink RX6 11 "RingHeap$Words" "owners" "[LRingHeap$Thing;" ∈ wsX6_takeBack := List.mem_of_getElem? (i := 4) (by rfl)
def f_X6_takeBack_47 (N : Nat) (p0 : Nat)   (u : Mm) : Option (Mm) :=
  pt (u.1 46 1) (fun x7 => pt (u.2 p0 1) (fun r8 => nl r8 none (fun t9 => pt (u.1 t9 2) (fun x11 => pt (sI u 46 1 (x7 + x11)) (fun u => some u)))))
set_option maxHeartbeats 4000000 in
set_option maxRecDepth 100000 in
theorem j_X6_takeBack_47 {p : Program} {l : Launch} {e : Env} {s : State} {m : MethodId} {args : Array Value} {below : List Frame} {meth : Method} {c : Code} {D : va_G} {cy : Nat → ClassId} {L : List Nat} {ad : Nat → Nat} {A : Nat → Prop} {o : Mm} (N : Nat) (p0 : Nat) (h_p0 : vn L 5 p0) (C0 : Cx p m meth c cX6_takeBack none 4 s args wsX6_takeBack RX6 D cy) (hA : ∀ q : Nat, s.heap.size ≤ q → A q)  : ∀  (u : Mm) (H : Heap) (locs : List Loc) (ls : Array Slot), vn L 6 46 → vn L 5 p0 → Wd D cy L ad A s.heap u H locs → lv_has ls 4 [(0, .ref (ad 46)), (1, .ref (ad p0))] → f_X6_takeBack_47 N p0   u = some o → W p l e ({ frames := 0, cells := 0, slots := 0, locals := 0 } : Room) s m args below meth c H locs 0 0 (MQ below (QcV D cy L ad A o) args s 0 0 A) (F0 m 47 ls []) := by
  obtain ⟨hx, hb, hr, hml, hown, hts, hlocks, hK⟩ := id C0
  intro  u H locs ls hv_t0 hv_t1 hw hl h
  unfold f_X6_takeBack_47 at h
  refine lv_aload_n hx hb dX6_takeBack_47 rfl (lv_at hl 0 rfl) ?_
  refine lv_dup hx hb dX6_takeBack_48 rfl ?_
  refine r_getI hx hb hts n_X6_takeBack_X6 hown hK hw hv_t0 (by decide) rfl 1 (by decide) rfl (hts _ k_X6_takeBack_5) (fun _ q => q) dX6_takeBack_49 h (fun x7 h => ?_)
  refine lv_aload_n hx hb dX6_takeBack_52 rfl (lv_at hl 1 rfl) ?_
  refine r_getR (t2 := 2) hx hb hts n_X6_takeBack_X5 hown hK hw hv_t1 (by decide) rfl 1 (by decide) rfl (hts _ k_X6_takeBack_2) (fun _ q => q) dX6_takeBack_53 h (fun r8 hv_r8 h => ?_)
  refine r_nn hv_r8 h (fun t9 e10 hv_t9 h9 => ?_)
  clear h
  subst e10
  have h := h9
  have hl : lv_has ls 4 [(0, .ref (ad 46)), (1, .ref (ad p0))] := hl
  refine r_getI hx hb hts n_X6_takeBack_X2 hown hK hw hv_t9 (by decide) rfl 2 (by decide) rfl (hts _ k_X6_takeBack_3) (fun _ q => q) dX6_takeBack_56 h (fun x11 h => ?_)
  refine lv_iadd hx hb dX6_takeBack_59 ?_
  refine r_putI (ty := .int) hx hb hts n_X6_takeBack_X6 tyX6 tyX6_ok nmX6 hown hK hw hv_t0 (by decide) rfl 1 (by decide) rfl (hts _ k_X6_takeBack_5) (fun _ q => q) rfl rfl rfl rfl dX6_takeBack_60 h (fun u H locs hw h => ?_)
  exact r_vret hx hb hr hlocks hK hw h dX6_takeBack_63
def g_X6_takeBack_18 (N : Nat) (p0 : Nat) (K18 : Int32 → Int32 → Mm → Option (Mm)) (v2 : Int32) (v3 : Int32) (u : Mm) : Option (Mm) :=
  if v3 < 0 then (f_X6_takeBack_47 N p0 u) else (if v2 ≤ v3 then (f_X6_takeBack_47 N p0 u) else (if 400 ≤ v3 then (f_X6_takeBack_47 N p0 u) else (ck (bI v3 400) (pt (sR u 47 (ix v3) none) (fun u => K18 v2 (v3 + 1) u)))))
def f_X6_takeBack_18 (N : Nat) (p0 : Nat)  : Nat → Int32 → Int32 → Mm → Option (Mm)
  | 0 => fun _ _ _ => none
  | n + 1 => g_X6_takeBack_18 N p0  (f_X6_takeBack_18 N p0  n)
set_option maxHeartbeats 4000000 in
set_option maxRecDepth 100000 in
theorem jg_X6_takeBack_18 {p : Program} {l : Launch} {e : Env} {s : State} {m : MethodId} {args : Array Value} {below : List Frame} {meth : Method} {c : Code} {D : va_G} {cy : Nat → ClassId} {L : List Nat} {ad : Nat → Nat} {A : Nat → Prop} {o : Mm} (N : Nat) (p0 : Nat) (h_p0 : vn L 5 p0) (C0 : Cx p m meth c cX6_takeBack none 4 s args wsX6_takeBack RX6 D cy) (hA : ∀ q : Nat, s.heap.size ≤ q → A q)  (K18 : Int32 → Int32 → Mm → Option (Mm)) (hK18 : ∀ (v2 : Int32) (v3 : Int32) (u : Mm) (H : Heap) (locs : List Loc) (ls : Array Slot), vn L 6 46 → vn L 5 p0 → Wd D cy L ad A s.heap u H locs → lv_has ls 4 [(0, .ref (ad 46)), (1, .ref (ad p0)), (2, .int v2), (3, .int v3)] → K18 v2 v3 u = some o → W p l e ({ frames := 0, cells := 0, slots := 0, locals := 0 } : Room) s m args below meth c H locs 0 0 (MQ below (QcV D cy L ad A o) args s 0 0 A) (F0 m 18 ls [])) : ∀ (v2 : Int32) (v3 : Int32) (u : Mm) (H : Heap) (locs : List Loc) (ls : Array Slot), vn L 6 46 → vn L 5 p0 → Wd D cy L ad A s.heap u H locs → lv_has ls 4 [(0, .ref (ad 46)), (1, .ref (ad p0)), (2, .int v2), (3, .int v3)] → g_X6_takeBack_18 N p0  K18 v2 v3 u = some o → W p l e ({ frames := 0, cells := 0, slots := 0, locals := 0 } : Room) s m args below meth c H locs 0 0 (MQ below (QcV D cy L ad A o) args s 0 0 A) (F0 m 18 ls []) := by
  obtain ⟨hx, hb, hr, hml, hown, hts, hlocks, hK⟩ := id C0
  intro v2 v3 u H locs ls hv_t0 hv_t1 hw hl h
  unfold g_X6_takeBack_18 at h
  refine lv_iload_n hx hb dX6_takeBack_18 rfl (lv_at hl 3 rfl) ?_
  refine lv_if_lt (tgt := 47) hx hb dX6_takeBack_19 (by decide) (fun hc => ?_) (fun hc => ?_)
  · rw [if_pos hc] at h
    exact j_X6_takeBack_47 N p0 h_p0 C0 hA u _ _ _ hv_t0 hv_t1 hw (lv_sub hl [0, 1] rfl) h
  · rw [if_neg hc] at h
    refine lv_iload_n hx hb dX6_takeBack_22 rfl (lv_at hl 3 rfl) ?_
    refine lv_iload_n hx hb dX6_takeBack_23 rfl (lv_at hl 2 rfl) ?_
    refine lv_icmp_ge (tgt := 47) hx hb dX6_takeBack_24 (by decide) (fun hc => ?_) (fun hc => ?_)
    · rw [if_pos hc] at h
      exact j_X6_takeBack_47 N p0 h_p0 C0 hA u _ _ _ hv_t0 hv_t1 hw (lv_sub hl [0, 1] rfl) h
    · rw [if_neg hc] at h
      refine lv_iload_n hx hb dX6_takeBack_27 rfl (lv_at hl 3 rfl) ?_
      refine lv_sipush (v := 400) hx hb dX6_takeBack_28 (by decide) ?_
      refine lv_icmp_ge (tgt := 47) hx hb dX6_takeBack_31 (by decide) (fun hc => ?_) (fun hc => ?_)
      · rw [if_pos hc] at h
        exact j_X6_takeBack_47 N p0 h_p0 C0 hA u _ _ _ hv_t0 hv_t1 hw (lv_sub hl [0, 1] rfl) h
      · rw [if_neg hc] at h
        refine lv_aload_n hx hb dX6_takeBack_34 rfl (lv_at hl 0 rfl) ?_
        refine r_getC (t2 := 12) (d := 47) hx hb hts n_X6_takeBack_X6 hown hK hw hv_t0 (by decide) rfl 0 (by decide) rfl rfl (hts _ k_X6_takeBack_4) (fun _ q => q) dX6_takeBack_35 (fun hv12 => ?_)
        refine lv_iload_n hx hb dX6_takeBack_38 rfl (lv_at hl 3 rfl) ?_
        refine lv_null hx hb dX6_takeBack_39 ?_
        refine r_tast (n := 400) (v := none) hx hb hK hw hv12 rfl vr_none dX6_takeBack_40 h (fun u H locs hw h => ?_)
        refine lv_iinc (v := v3 + 1) (lv' := [(3, .int (v3 + 1)), (0, .ref (ad 46)), (1, .ref (ad p0)), (2, .int v2)]) hx hb dX6_takeBack_41 hl (k := 3) rfl rfl (by decide) rfl (fun ls hl => ?_)
        refine lv_goto (tgt := 18) hx hb dX6_takeBack_44 (by decide) ?_
        exact hK18 v2 (v3 + 1) u _ _ _ hv_t0 hv_t1 hw (lv_sub hl [1, 2, 3, 0] rfl) h
set_option maxHeartbeats 4000000 in
set_option maxRecDepth 100000 in
theorem j_X6_takeBack_18 {p : Program} {l : Launch} {e : Env} {s : State} {m : MethodId} {args : Array Value} {below : List Frame} {meth : Method} {c : Code} {D : va_G} {cy : Nat → ClassId} {L : List Nat} {ad : Nat → Nat} {A : Nat → Prop} {o : Mm} (N : Nat) (p0 : Nat) (h_p0 : vn L 5 p0) (C0 : Cx p m meth c cX6_takeBack none 4 s args wsX6_takeBack RX6 D cy) (hA : ∀ q : Nat, s.heap.size ≤ q → A q)  : ∀ (n : Nat), ∀ (v2 : Int32) (v3 : Int32) (u : Mm) (H : Heap) (locs : List Loc) (ls : Array Slot), vn L 6 46 → vn L 5 p0 → Wd D cy L ad A s.heap u H locs → lv_has ls 4 [(0, .ref (ad 46)), (1, .ref (ad p0)), (2, .int v2), (3, .int v3)] → f_X6_takeBack_18 N p0  n v2 v3 u = some o → W p l e ({ frames := 0, cells := 0, slots := 0, locals := 0 } : Room) s m args below meth c H locs 0 0 (MQ below (QcV D cy L ad A o) args s 0 0 A) (F0 m 18 ls []) := by
  intro n
  induction n with
  | zero =>
    intro v2 v3 u H locs ls hv_t0 hv_t1 hw hl h
    cases h
  | succ n ih => exact jg_X6_takeBack_18 N p0 h_p0 C0 hA  _ ih
def f_X6_takeBack (N : Nat) (p0 : Nat) (u : Mm) : Option (Mm) :=
  pt (u.1 p0 6) (fun x1 => pt (u.2 p0 1) (fun r2 => nl r2 none (fun t3 => pt (u.1 t3 2) (fun x5 => pt (u.1 p0 6) (fun x6 => f_X6_takeBack_18 N p0 N (x1 + x5) x6 u)))))
set_option maxHeartbeats 4000000 in
set_option maxRecDepth 100000 in
theorem c_X6_takeBack (l : Launch) (D : va_G) (cy : Nat → ClassId) (L : List Nat) (ad : Nat → Nat) (N : Nat) (p0 : Nat) (u : Mm) (o : Mm) (h_this : vn L 6 46) (h_p0 : vn L 5 p0) (h : f_X6_takeBack N p0 u = some o) : MtV l yX6_takeBack wsX6_takeBack ({ frames := 0, cells := 0, slots := 0, locals := 0 } : Room) D cy L ad [.ref (ad 46), .ref (ad p0)] u o := by
  intro sz
  refine Met.ofW (cc := cX6_takeBack) (maxL := 4) (ret := none) (by decide) rfl ?_
  intro p e s m args below meth c s₁ B hml hv
  obtain ⟨rfl, hsz, hP, hK, hD0, hok⟩ := hv
  have hx := B.exec
  have hb := B.bytes
  have hr := B.returns
  have hts := atoms_spec (ws := wsX6_takeBack) B.pre
  have hown : s.vm.findClass RX6 = some m.cls := findClass_of_methodNamed B.named
  have hlocks := B.notSynchronized
  subst hsz
  have hw := wd_start hP hD0 hok
  have hA : ∀ q : Nat, s.heap.size ≤ q → va_A (wl cy L ad u) s.heap.size q := fun q h => Or.inr h
  generalize va_A (wl cy L ad u) s.heap.size = A at hw hA ⊢
  have C0 : Cx p m meth c cX6_takeBack none 4 s _ wsX6_takeBack RX6 D cy := ⟨hx, hb, hr, hml, hown, hts, hlocks, hK⟩
  have hl := lv_entry ([.ref (ad 46), .ref (ad p0)]) (n := 4) (Nat.le_of_ble_eq_true rfl)
  rw [lg_entry_eq]
  generalize (lg_sl ([.ref (ad 46), .ref (ad p0)]) ++ List.replicate (4 - (lg_sl ([.ref (ad 46), .ref (ad p0)])).length) Slot.unset).toArray = ls at hl ⊢
  have hl : lv_has ls 4 [(0, .ref (ad 46)), (1, .ref (ad p0))] := hl
  unfold f_X6_takeBack at h
  refine lv_aload_n hx hb dX6_takeBack_0 rfl (lv_at hl 1 rfl) ?_
  refine r_getI hx hb hts n_X6_takeBack_X5 hown hK hw h_p0 (by decide) rfl 6 (by decide) rfl (hts _ k_X6_takeBack_1) (fun _ q => q) dX6_takeBack_1 h (fun x1 h => ?_)
  refine lv_aload_n hx hb dX6_takeBack_4 rfl (lv_at hl 1 rfl) ?_
  refine r_getR (t2 := 2) hx hb hts n_X6_takeBack_X5 hown hK hw h_p0 (by decide) rfl 1 (by decide) rfl (hts _ k_X6_takeBack_2) (fun _ q => q) dX6_takeBack_5 h (fun r2 hv_r2 h => ?_)
  refine r_nn hv_r2 h (fun t3 e4 hv_t3 h9 => ?_)
  clear h
  subst e4
  have h := h9
  have hl : lv_has ls 4 [(0, .ref (ad 46)), (1, .ref (ad p0))] := hl
  refine r_getI hx hb hts n_X6_takeBack_X2 hown hK hw hv_t3 (by decide) rfl 2 (by decide) rfl (hts _ k_X6_takeBack_3) (fun _ q => q) dX6_takeBack_8 h (fun x5 h => ?_)
  refine lv_iadd hx hb dX6_takeBack_11 ?_
  refine lv_istore_n (lv' := [(2, .int (x1 + x5)), (0, .ref (ad 46)), (1, .ref (ad p0))]) hx hb dX6_takeBack_12 rfl hl (by decide) rfl (fun ls hl => ?_)
  refine lv_aload_n hx hb dX6_takeBack_13 rfl (lv_at hl 2 rfl) ?_
  refine r_getI hx hb hts n_X6_takeBack_X5 hown hK hw h_p0 (by decide) rfl 6 (by decide) rfl (hts _ k_X6_takeBack_1) (fun _ q => q) dX6_takeBack_14 h (fun x6 h => ?_)
  refine lv_istore_n (lv' := [(3, .int x6), (2, .int (x1 + x5)), (0, .ref (ad 46)), (1, .ref (ad p0))]) hx hb dX6_takeBack_17 rfl hl (by decide) rfl (fun ls hl => ?_)
  exact j_X6_takeBack_18 N p0 h_p0 C0 hA N (x1 + x5) x6 u _ _ _ h_this h_p0 hw (lv_sub hl [2, 3, 1, 0] rfl) h
theorem k_X6_moveAllDown_1 : Cond.fieldLink RX6 28 "RingHeap$Thing" "kind" "LRingHeap$Kind;" ∈ wsX6_moveAllDown := List.mem_of_getElem? (i := 1) (by rfl)
theorem n_X6_moveAllDown_X5 : ∀ w ∈ u_ws RX5 TX5 11, w ∈ wsX6_moveAllDown := fun _ h => List.mem_cons_of_mem _ (List.mem_append_left _ (List.mem_append_left _ (List.mem_append_right _ h)))
theorem k_X6_moveAllDown_2 : Cond.fieldLink RX6 32 "RingHeap$Kind" "size" "I" ∈ wsX6_moveAllDown := List.mem_of_getElem? (i := 2) (by rfl)
theorem n_X6_moveAllDown_X2 : ∀ w ∈ u_ws RX2 TX2 4, w ∈ wsX6_moveAllDown := fun _ h => List.mem_cons_of_mem _ (List.mem_append_left _ (List.mem_append_right _ h))
def f_X6_moveAllDown_57 (N : Nat)  (K6 : Int32 → Int32 → Int32 → Mm → Option (Int32 × Mm)) (v1 : Int32) (v2 : Int32) (v3 : Int32) (u : Mm) : Option (Int32 × Mm) :=
  K6 v1 v2 (v3 + 1) u
set_option maxHeartbeats 4000000 in
set_option maxRecDepth 100000 in
theorem j_X6_moveAllDown_57 {p : Program} {l : Launch} {e : Env} {s : State} {m : MethodId} {args : Array Value} {below : List Frame} {meth : Method} {c : Code} {D : va_G} {cy : Nat → ClassId} {L : List Nat} {ad : Nat → Nat} {A : Nat → Prop} {o : Int32 × Mm} (N : Nat)   (C0 : Cx p m meth c cX6_moveAllDown (some .int) 5 s args wsX6_moveAllDown RX6 D cy) (hA : ∀ q : Nat, s.heap.size ≤ q → A q) (K6 : Int32 → Int32 → Int32 → Mm → Option (Int32 × Mm)) (hK6 : ∀ (v1 : Int32) (v2 : Int32) (v3 : Int32) (u : Mm) (H : Heap) (locs : List Loc) (ls : Array Slot), vn L 6 46 → Wd D cy L ad A s.heap u H locs → lv_has ls 5 [(0, .ref (ad 46)), (1, .int v1), (2, .int v2), (3, .int v3)] → K6 v1 v2 v3 u = some o → W p l e ({ frames := 2, cells := 0, slots := 0, locals := 43 } : Room) s m args below meth c H locs 0 0 (MQ below (QcI D cy L ad A o) args s 0 0 A) (F0 m 6 ls [])) : ∀ (v1 : Int32) (v2 : Int32) (v3 : Int32) (u : Mm) (H : Heap) (locs : List Loc) (ls : Array Slot), vn L 6 46 → Wd D cy L ad A s.heap u H locs → lv_has ls 5 [(0, .ref (ad 46)), (1, .int v1), (2, .int v2), (3, .int v3)] → f_X6_moveAllDown_57 N  K6 v1 v2 v3 u = some o → W p l e ({ frames := 2, cells := 0, slots := 0, locals := 43 } : Room) s m args below meth c H locs 0 0 (MQ below (QcI D cy L ad A o) args s 0 0 A) (F0 m 57 ls []) := by
  obtain ⟨hx, hb, hr, hml, hown, hts, hlocks, hK⟩ := id C0
  intro v1 v2 v3 u H locs ls hv_t0 hw hl h
  unfold f_X6_moveAllDown_57 at h
  refine lv_iinc (v := v3 + 1) (lv' := [(3, .int (v3 + 1)), (0, .ref (ad 46)), (1, .int v1), (2, .int v2)]) hx hb dX6_moveAllDown_57 hl (k := 3) rfl rfl (by decide) rfl (fun ls hl => ?_)
  refine lv_goto (tgt := 6) hx hb dX6_moveAllDown_60 (by decide) ?_
  exact hK6 v1 v2 (v3 + 1) u _ _ _ hv_t0 hw (lv_sub hl [1, 2, 3, 0] rfl) h
def f_X6_moveAllDown_46 (N : Nat)  (K6 : Int32 → Int32 → Int32 → Mm → Option (Int32 × Mm)) (v1 : Int32) (v2 : Int32) (v3 : Int32) (t4 : Nat) (u : Mm) : Option (Int32 × Mm) :=
  pt (u.2 t4 1) (fun r4 => nl r4 none (fun t5 => pt (u.1 t5 2) (fun x7 => f_X6_moveAllDown_57 N K6 v1 (v2 + x7) v3 u)))
set_option maxHeartbeats 4000000 in
set_option maxRecDepth 100000 in
theorem j_X6_moveAllDown_46 {p : Program} {l : Launch} {e : Env} {s : State} {m : MethodId} {args : Array Value} {below : List Frame} {meth : Method} {c : Code} {D : va_G} {cy : Nat → ClassId} {L : List Nat} {ad : Nat → Nat} {A : Nat → Prop} {o : Int32 × Mm} (N : Nat)   (C0 : Cx p m meth c cX6_moveAllDown (some .int) 5 s args wsX6_moveAllDown RX6 D cy) (hA : ∀ q : Nat, s.heap.size ≤ q → A q) (K6 : Int32 → Int32 → Int32 → Mm → Option (Int32 × Mm)) (hK6 : ∀ (v1 : Int32) (v2 : Int32) (v3 : Int32) (u : Mm) (H : Heap) (locs : List Loc) (ls : Array Slot), vn L 6 46 → Wd D cy L ad A s.heap u H locs → lv_has ls 5 [(0, .ref (ad 46)), (1, .int v1), (2, .int v2), (3, .int v3)] → K6 v1 v2 v3 u = some o → W p l e ({ frames := 2, cells := 0, slots := 0, locals := 43 } : Room) s m args below meth c H locs 0 0 (MQ below (QcI D cy L ad A o) args s 0 0 A) (F0 m 6 ls [])) : ∀ (v1 : Int32) (v2 : Int32) (v3 : Int32) (t4 : Nat) (u : Mm) (H : Heap) (locs : List Loc) (ls : Array Slot), vn L 6 46 → vn L 5 t4 → Wd D cy L ad A s.heap u H locs → lv_has ls 5 [(0, .ref (ad 46)), (1, .int v1), (2, .int v2), (3, .int v3), (4, .ref (ad t4))] → f_X6_moveAllDown_46 N  K6 v1 v2 v3 t4 u = some o → W p l e ({ frames := 2, cells := 0, slots := 0, locals := 43 } : Room) s m args below meth c H locs 0 0 (MQ below (QcI D cy L ad A o) args s 0 0 A) (F0 m 46 ls []) := by
  obtain ⟨hx, hb, hr, hml, hown, hts, hlocks, hK⟩ := id C0
  intro v1 v2 v3 t4 u H locs ls hv_t0 hv_t4 hw hl h
  unfold f_X6_moveAllDown_46 at h
  refine lv_iload_n hx hb dX6_moveAllDown_46 rfl (lv_at hl 2 rfl) ?_
  refine lv_aload hx hb dX6_moveAllDown_47 (lv_at hl 4 rfl) ?_
  refine r_getR (t2 := 2) hx hb hts n_X6_moveAllDown_X5 hown hK hw hv_t4 (by decide) rfl 1 (by decide) rfl (hts _ k_X6_moveAllDown_1) (fun _ q => q) dX6_moveAllDown_49 h (fun r4 hv_r4 h => ?_)
  refine r_nn hv_r4 h (fun t5 e6 hv_t5 h9 => ?_)
  clear h
  subst e6
  have h := h9
  have hl : lv_has ls 5 [(0, .ref (ad 46)), (1, .int v1), (2, .int v2), (3, .int v3), (4, .ref (ad t4))] := hl
  refine r_getI hx hb hts n_X6_moveAllDown_X2 hown hK hw hv_t5 (by decide) rfl 2 (by decide) rfl (hts _ k_X6_moveAllDown_2) (fun _ q => q) dX6_moveAllDown_52 h (fun x7 h => ?_)
  refine lv_iadd hx hb dX6_moveAllDown_55 ?_
  refine lv_istore_n (lv' := [(2, .int (v2 + x7)), (0, .ref (ad 46)), (1, .int v1), (3, .int v3), (4, .ref (ad t4))]) hx hb dX6_moveAllDown_56 rfl hl (by decide) rfl (fun ls hl => ?_)
  exact j_X6_moveAllDown_57 N C0 hA K6 hK6 v1 (v2 + x7) v3 u _ _ _ hv_t0 hw (lv_sub hl [1, 2, 0, 3] rfl) h
def g_X6_moveAllDown_6 (N : Nat)  (K6 : Int32 → Int32 → Int32 → Mm → Option (Int32 × Mm)) (v1 : Int32) (v2 : Int32) (v3 : Int32) (u : Mm) : Option (Int32 × Mm) :=
  if 400 ≤ v3 then (some (v1, u)) else (bd (f_X6_ownerFrom N v3 u) (fun r1 u => nl r1 (f_X6_moveAllDown_57 N K6 v1 v2 v3 u) (fun t2 => if v3 = v2 then (f_X6_moveAllDown_46 N K6 v1 v2 v3 t2 u) else (bv (f_X6_takeBack N t2 u) (fun u => bv (f_X6_give N t2 v2 u) (fun u => f_X6_moveAllDown_46 N K6 (v1 + 1) v2 v3 t2 u))))))
def f_X6_moveAllDown_6 (N : Nat)   : Nat → Int32 → Int32 → Int32 → Mm → Option (Int32 × Mm)
  | 0 => fun _ _ _ _ => none
  | n + 1 => g_X6_moveAllDown_6 N   (f_X6_moveAllDown_6 N   n)
set_option maxHeartbeats 4000000 in
set_option maxRecDepth 100000 in
theorem jg_X6_moveAllDown_6 {p : Program} {l : Launch} {e : Env} {s : State} {m : MethodId} {args : Array Value} {below : List Frame} {meth : Method} {c : Code} {D : va_G} {cy : Nat → ClassId} {L : List Nat} {ad : Nat → Nat} {A : Nat → Prop} {o : Int32 × Mm} (N : Nat)   (C0 : Cx p m meth c cX6_moveAllDown (some .int) 5 s args wsX6_moveAllDown RX6 D cy) (hA : ∀ q : Nat, s.heap.size ≤ q → A q)  (K6 : Int32 → Int32 → Int32 → Mm → Option (Int32 × Mm)) (hK6 : ∀ (v1 : Int32) (v2 : Int32) (v3 : Int32) (u : Mm) (H : Heap) (locs : List Loc) (ls : Array Slot), vn L 6 46 → Wd D cy L ad A s.heap u H locs → lv_has ls 5 [(0, .ref (ad 46)), (1, .int v1), (2, .int v2), (3, .int v3)] → K6 v1 v2 v3 u = some o → W p l e ({ frames := 2, cells := 0, slots := 0, locals := 43 } : Room) s m args below meth c H locs 0 0 (MQ below (QcI D cy L ad A o) args s 0 0 A) (F0 m 6 ls [])) : ∀ (v1 : Int32) (v2 : Int32) (v3 : Int32) (u : Mm) (H : Heap) (locs : List Loc) (ls : Array Slot), vn L 6 46 → Wd D cy L ad A s.heap u H locs → lv_has ls 5 [(0, .ref (ad 46)), (1, .int v1), (2, .int v2), (3, .int v3)] → g_X6_moveAllDown_6 N   K6 v1 v2 v3 u = some o → W p l e ({ frames := 2, cells := 0, slots := 0, locals := 43 } : Room) s m args below meth c H locs 0 0 (MQ below (QcI D cy L ad A o) args s 0 0 A) (F0 m 6 ls []) := by
  obtain ⟨hx, hb, hr, hml, hown, hts, hlocks, hK⟩ := id C0
  intro v1 v2 v3 u H locs ls hv_t0 hw hl h
  unfold g_X6_moveAllDown_6 at h
  refine lv_iload_n hx hb dX6_moveAllDown_6 rfl (lv_at hl 3 rfl) ?_
  refine lv_sipush (v := 400) hx hb dX6_moveAllDown_7 (by decide) ?_
  refine lv_icmp_ge (tgt := 63) hx hb dX6_moveAllDown_10 (by decide) (fun hc => ?_) (fun hc => ?_)
  · rw [if_pos hc] at h
    refine lv_iload_n hx hb dX6_moveAllDown_63 rfl (lv_at hl 1 rfl) ?_
    exact r_iret hx hb hr hlocks hK hw h dX6_moveAllDown_64
  · rw [if_neg hc] at h
    refine lv_aload_n hx hb dX6_moveAllDown_13 rfl (lv_at hl 0 rfl) ?_
    refine lv_iload_n hx hb dX6_moveAllDown_14 rfl (lv_at hl 3 rfl) ?_
    refine r_bQ (fun o ho => r_vQ (As := [.int v3]) (rest := []) ⟨hx, hb, hml, hown, hts⟩ (c_X6_ownerFrom l D cy L ad N v3 u o hv_t0 ho) (cwV 1 hts gX6_moveAllDown_X6_ownerFrom rfl rfl rfl (by decide +kernel) ⟨Nat.le_of_ble_eq_true rfl, Nat.le_of_ble_eq_true rfl⟩) hw hK hv_t0 (by decide) rfl rfl hl.1 rfl (Nat.le_of_ble_eq_true rfl) dX6_moveAllDown_15 ⟨Nat.zero_le _, Nat.zero_le _⟩) hw hA h (fun r1 u H locs hw hv_r1 h => ?_)
    refine r_astore (lv' := [(4, va_re ad r1), (0, .ref (ad 46)), (1, .int v1), (2, .int v2), (3, .int v3)]) hx hb dX6_moveAllDown_18 hl (by decide) rfl (fun ls hl => ?_)
    refine r_aload hx hb dX6_moveAllDown_20 (lv_at hl 0 rfl) ?_
    refine r_ifnull (tgt := 57) hx hb hv_r1 dX6_moveAllDown_22 (by decide) h (fun e3 h9 => ?_) (fun t2 e3 hv_t2 h9 => ?_)
    · clear h
      subst e3
      have h := h9
      have hl : lv_has ls 5 [(4, va_re ad none), (0, .ref (ad 46)), (1, .int v1), (2, .int v2), (3, .int v3)] := hl
      exact j_X6_moveAllDown_57 N C0 hA K6 hK6 v1 v2 v3 u _ _ _ hv_t0 hw (lv_sub hl [1, 2, 3, 4] rfl) h
    · clear h
      subst e3
      have h := h9
      have hl : lv_has ls 5 [(4, .ref (ad t2)), (0, .ref (ad 46)), (1, .int v1), (2, .int v2), (3, .int v3)] := hl
      refine lv_iload_n hx hb dX6_moveAllDown_25 rfl (lv_at hl 4 rfl) ?_
      refine lv_iload_n hx hb dX6_moveAllDown_26 rfl (lv_at hl 3 rfl) ?_
      refine lv_icmp_eq (tgt := 46) hx hb dX6_moveAllDown_27 (by decide) (fun hc => ?_) (fun hc => ?_)
      · rw [if_pos hc] at h
        exact j_X6_moveAllDown_46 N C0 hA K6 hK6 v1 v2 v3 t2 u _ _ _ hv_t0 hv_t2 hw (lv_sub hl [1, 2, 3, 4, 0] rfl) h
      · rw [if_neg hc] at h
        refine lv_aload_n hx hb dX6_moveAllDown_30 rfl (lv_at hl 1 rfl) ?_
        refine lv_aload hx hb dX6_moveAllDown_31 (lv_at hl 0 rfl) ?_
        refine r_bV (fun o ho => r_vV (As := [.ref (ad t2)]) (rest := []) ⟨hx, hb, hml, hown, hts⟩ (c_X6_takeBack l D cy L ad N t2 u o hv_t0 hv_t2 ho) (cwV 1 hts gX6_moveAllDown_X6_takeBack rfl rfl rfl (by decide +kernel) ⟨Nat.le_of_ble_eq_true rfl, Nat.le_of_ble_eq_true rfl⟩) hw hK hv_t0 (by decide) rfl rfl hl.1 rfl (Nat.le_of_ble_eq_true rfl) dX6_moveAllDown_33 ⟨Nat.zero_le _, Nat.zero_le _⟩) hw hA h (fun u H locs hw h => ?_)
        refine lv_aload_n hx hb dX6_moveAllDown_36 rfl (lv_at hl 1 rfl) ?_
        refine lv_aload hx hb dX6_moveAllDown_37 (lv_at hl 0 rfl) ?_
        refine lv_iload_n hx hb dX6_moveAllDown_39 rfl (lv_at hl 3 rfl) ?_
        refine r_bV (fun o ho => r_vV (As := [.ref (ad t2), .int v2]) (rest := []) ⟨hx, hb, hml, hown, hts⟩ (c_X6_give l D cy L ad N t2 v2 u o hv_t0 hv_t2 ho) (cwV 2 hts gX6_moveAllDown_X6_give rfl rfl rfl (by decide +kernel) ⟨Nat.le_of_ble_eq_true rfl, Nat.le_of_ble_eq_true rfl⟩) hw hK hv_t0 (by decide) rfl rfl hl.1 rfl (Nat.le_of_ble_eq_true rfl) dX6_moveAllDown_40 ⟨Nat.zero_le _, Nat.zero_le _⟩) hw hA h (fun u H locs hw h => ?_)
        refine lv_iinc (v := v1 + 1) (lv' := [(1, .int (v1 + 1)), (4, .ref (ad t2)), (0, .ref (ad 46)), (2, .int v2), (3, .int v3)]) hx hb dX6_moveAllDown_43 hl (k := 2) rfl rfl (by decide) rfl (fun ls hl => ?_)
        exact j_X6_moveAllDown_46 N C0 hA K6 hK6 (v1 + 1) v2 v3 t2 u _ _ _ hv_t0 hv_t2 hw (lv_sub hl [2, 0, 3, 4, 1] rfl) h
set_option maxHeartbeats 4000000 in
set_option maxRecDepth 100000 in
theorem j_X6_moveAllDown_6 {p : Program} {l : Launch} {e : Env} {s : State} {m : MethodId} {args : Array Value} {below : List Frame} {meth : Method} {c : Code} {D : va_G} {cy : Nat → ClassId} {L : List Nat} {ad : Nat → Nat} {A : Nat → Prop} {o : Int32 × Mm} (N : Nat)   (C0 : Cx p m meth c cX6_moveAllDown (some .int) 5 s args wsX6_moveAllDown RX6 D cy) (hA : ∀ q : Nat, s.heap.size ≤ q → A q)  : ∀ (n : Nat), ∀ (v1 : Int32) (v2 : Int32) (v3 : Int32) (u : Mm) (H : Heap) (locs : List Loc) (ls : Array Slot), vn L 6 46 → Wd D cy L ad A s.heap u H locs → lv_has ls 5 [(0, .ref (ad 46)), (1, .int v1), (2, .int v2), (3, .int v3)] → f_X6_moveAllDown_6 N   n v1 v2 v3 u = some o → W p l e ({ frames := 2, cells := 0, slots := 0, locals := 43 } : Room) s m args below meth c H locs 0 0 (MQ below (QcI D cy L ad A o) args s 0 0 A) (F0 m 6 ls []) := by
  intro n
  induction n with
  | zero =>
    intro v1 v2 v3 u H locs ls hv_t0 hw hl h
    cases h
  | succ n ih => exact jg_X6_moveAllDown_6 N   C0 hA  _ ih
def f_X6_moveAllDown (N : Nat)  (u : Mm) : Option (Int32 × Mm) :=
  f_X6_moveAllDown_6 N N 0 0 0 u
set_option maxHeartbeats 4000000 in
set_option maxRecDepth 100000 in
theorem c_X6_moveAllDown (l : Launch) (D : va_G) (cy : Nat → ClassId) (L : List Nat) (ad : Nat → Nat) (N : Nat)  (u : Mm) (o : Int32 × Mm) (h_this : vn L 6 46) (h : f_X6_moveAllDown N  u = some o) : MtI l yX6_moveAllDown wsX6_moveAllDown ({ frames := 2, cells := 0, slots := 0, locals := 43 } : Room) D cy L ad [.ref (ad 46)] u o := by
  intro sz
  refine Met.ofW (cc := cX6_moveAllDown) (maxL := 5) (ret := (some .int)) (by decide) rfl ?_
  intro p e s m args below meth c s₁ B hml hv
  obtain ⟨rfl, hsz, hP, hK, hD0, hok⟩ := hv
  have hx := B.exec
  have hb := B.bytes
  have hr := B.returns
  have hts := atoms_spec (ws := wsX6_moveAllDown) B.pre
  have hown : s.vm.findClass RX6 = some m.cls := findClass_of_methodNamed B.named
  have hlocks := B.notSynchronized
  subst hsz
  have hw := wd_start hP hD0 hok
  have hA : ∀ q : Nat, s.heap.size ≤ q → va_A (wl cy L ad u) s.heap.size q := fun q h => Or.inr h
  generalize va_A (wl cy L ad u) s.heap.size = A at hw hA ⊢
  have C0 : Cx p m meth c cX6_moveAllDown (some .int) 5 s _ wsX6_moveAllDown RX6 D cy := ⟨hx, hb, hr, hml, hown, hts, hlocks, hK⟩
  have hl := lv_entry ([.ref (ad 46)]) (n := 5) (Nat.le_of_ble_eq_true rfl)
  rw [lg_entry_eq]
  generalize (lg_sl ([.ref (ad 46)]) ++ List.replicate (5 - (lg_sl ([.ref (ad 46)])).length) Slot.unset).toArray = ls at hl ⊢
  have hl : lv_has ls 5 [(0, .ref (ad 46))] := hl
  unfold f_X6_moveAllDown at h
  refine lv_iconst (v := 0) hx hb dX6_moveAllDown_0 (by decide) ?_
  refine lv_istore_n (lv' := [(1, .int 0), (0, .ref (ad 46))]) hx hb dX6_moveAllDown_1 rfl hl (by decide) rfl (fun ls hl => ?_)
  refine lv_iconst (v := 0) hx hb dX6_moveAllDown_2 (by decide) ?_
  refine lv_istore_n (lv' := [(2, .int 0), (1, .int 0), (0, .ref (ad 46))]) hx hb dX6_moveAllDown_3 rfl hl (by decide) rfl (fun ls hl => ?_)
  refine lv_iconst (v := 0) hx hb dX6_moveAllDown_4 (by decide) ?_
  refine lv_istore_n (lv' := [(3, .int 0), (2, .int 0), (1, .int 0), (0, .ref (ad 46))]) hx hb dX6_moveAllDown_5 rfl hl (by decide) rfl (fun ls hl => ?_)
  exact j_X6_moveAllDown_6 N C0 hA N 0 0 0 u _ _ _ h_this hw (lv_sub hl [3, 2, 1, 0] rfl) h

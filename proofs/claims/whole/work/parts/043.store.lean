def f_J9_floorMod_7cf53 (N : Nat) (p0 : Int32) (p1 : Int32) (u : Mm) : Option (Int32 × Mm) :=
  ck (decide (¬ p1 = 0)) (if 0 ≤ (p0 ^^^ p1) then (some (p0 - p0 / p1 * p1, u)) else (if (p0 - p0 / p1 * p1) = 0 then (some (p0 - p0 / p1 * p1, u)) else (some ((p0 - p0 / p1 * p1) + p1, u))))
set_option maxHeartbeats 4000000 in
set_option maxRecDepth 100000 in
theorem c_J9_floorMod_7cf53 (l : Launch) (D : va_G) (cy : Nat → ClassId) (L : List Nat) (ad : Nat → Nat) (N : Nat) (p0 : Int32) (p1 : Int32) (u : Mm) (o : Int32 × Mm)  (h : f_J9_floorMod_7cf53 N p0 p1 u = some o) : MtI l yJ9_floorMod_7cf53 wsJ9_floorMod_7cf53 ({ frames := 0, cells := 0, slots := 0, locals := 0 } : Room) D cy L ad [.int p0, .int p1] u o := by
  intro sz
  refine va_MetF (cc := cJ9_floorMod_7cf53) (maxL := 3) (ret := (some .int)) (by decide +kernel) rfl ?_
  intro p e s m args below meth c s₁ B hml hv
  obtain ⟨rfl, hsz, hP, hK, hD0, hok⟩ := hv
  have hx := B.exec
  have hb := B.bytes
  have hr := B.returns
  have hts := atoms_spec (ws := wsJ9_floorMod_7cf53) B.pre
  have hown : s.vm.findClass RJ9 = some m.cls := findClass_of_methodNamed B.named
  have hlocks := B.notSynchronized
  subst hsz
  have hw := wd_start hP hD0 hok
  have hA : ∀ q : Nat, s.heap.size ≤ q → va_A (wl cy L ad u) s.heap.size q := fun q h => Or.inr h
  generalize va_A (wl cy L ad u) s.heap.size = A at hw hA ⊢
  have C0 : Cx p m meth c cJ9_floorMod_7cf53 (some .int) 3 s _ wsJ9_floorMod_7cf53 RJ9 D cy := ⟨hx, hb, hr, hml, hown, hts, hlocks, hK⟩
  have hl := lv_entry ([.int p0, .int p1]) (n := 3) (Nat.le_of_ble_eq_true rfl)
  rw [lg_entry_eq]
  generalize (lg_sl ([.int p0, .int p1]) ++ List.replicate (3 - (lg_sl ([.int p0, .int p1])).length) Slot.unset).toArray = ls at hl ⊢
  have hl : lv_has ls 3 [(0, .int p0), (1, .int p1)] := hl
  unfold f_J9_floorMod_7cf53 at h
  refine lv_iload_n hx hb dJ9_floorMod_7cf53_0 rfl (lv_at hl 0 rfl) ?_
  refine lv_iload_n hx hb dJ9_floorMod_7cf53_1 rfl (lv_at hl 1 rfl) ?_
  obtain ⟨hz1, h⟩ := ck_e h
  refine lv_irem hx hb dJ9_floorMod_7cf53_2 (of_decide_eq_true hz1) ?_
  refine lv_istore_n (lv' := [(2, .int (p0 - p0 / p1 * p1)), (0, .int p0), (1, .int p1)]) hx hb dJ9_floorMod_7cf53_3 rfl hl (by decide) rfl (fun ls hl => ?_)
  refine lv_iload_n hx hb dJ9_floorMod_7cf53_4 rfl (lv_at hl 1 rfl) ?_
  refine lv_iload_n hx hb dJ9_floorMod_7cf53_5 rfl (lv_at hl 2 rfl) ?_
  refine lv_ixor hx hb dJ9_floorMod_7cf53_6 ?_
  refine lv_if_ge (tgt := 18) hx hb dJ9_floorMod_7cf53_7 (by decide) (fun hc => ?_) (fun hc => ?_)
  · rw [if_pos hc] at h
    refine lv_iload_n hx hb dJ9_floorMod_7cf53_18 rfl (lv_at hl 0 rfl) ?_
    exact r_iret hx hb hr hlocks hK hw h dJ9_floorMod_7cf53_19
  · rw [if_neg hc] at h
    refine lv_iload_n hx hb dJ9_floorMod_7cf53_10 rfl (lv_at hl 0 rfl) ?_
    refine lv_if_eq (tgt := 18) hx hb dJ9_floorMod_7cf53_11 (by decide) (fun hc => ?_) (fun hc => ?_)
    · rw [if_pos hc] at h
      refine lv_iload_n hx hb dJ9_floorMod_7cf53_18 rfl (lv_at hl 0 rfl) ?_
      exact r_iret hx hb hr hlocks hK hw h dJ9_floorMod_7cf53_19
    · rw [if_neg hc] at h
      refine lv_iload_n hx hb dJ9_floorMod_7cf53_14 rfl (lv_at hl 0 rfl) ?_
      refine lv_iload_n hx hb dJ9_floorMod_7cf53_15 rfl (lv_at hl 2 rfl) ?_
      refine lv_iadd hx hb dJ9_floorMod_7cf53_16 ?_
      exact r_iret hx hb hr hlocks hK hw h dJ9_floorMod_7cf53_17
theorem k_X4_thing_1 : Cond.fieldLink RX4 11 "RingHeap$Store" "things" "[LRingHeap$Thing;" ∈ wsX4_thing := List.mem_of_getElem? (i := 1) (by rfl)
theorem n_X4_thing_X4 : ∀ w ∈ u_ws RX4 TX4 6, w ∈ wsX4_thing := fun _ h => List.mem_cons_of_mem _ (List.mem_append_right _ h)
def f_X4_thing (N : Nat) (p0 : Int32) (u : Mm) : Option (Option Nat × Mm) :=
  if p0 < 0 then (some (none, u)) else (if 80 ≤ p0 then (some (none, u)) else (ck (bI p0 80) (pt (u.2 43 (ix p0)) (fun r2 => some (r2, u)))))
set_option maxHeartbeats 4000000 in
set_option maxRecDepth 100000 in
theorem c_X4_thing (l : Launch) (D : va_G) (cy : Nat → ClassId) (L : List Nat) (ad : Nat → Nat) (N : Nat) (p0 : Int32) (u : Mm) (o : Option Nat × Mm) (h_this : vn L 4 42) (h : f_X4_thing N p0 u = some o) : MtQ l yX4_thing wsX4_thing ({ frames := 0, cells := 0, slots := 0, locals := 0 } : Room) D cy L ad 5 [.ref (ad 42), .int p0] u o := by
  intro sz
  refine Met.ofW (cc := cX4_thing) (maxL := 2) (ret := (some (.object "RingHeap$Thing"))) (by decide) rfl ?_
  intro p e s m args below meth c s₁ B hml hv
  obtain ⟨rfl, hsz, hP, hK, hD0, hok⟩ := hv
  have hx := B.exec
  have hb := B.bytes
  have hr := B.returns
  have hts := atoms_spec (ws := wsX4_thing) B.pre
  have hown : s.vm.findClass RX4 = some m.cls := findClass_of_methodNamed B.named
  have hlocks := B.notSynchronized
  subst hsz
  have hw := wd_start hP hD0 hok
  have hA : ∀ q : Nat, s.heap.size ≤ q → va_A (wl cy L ad u) s.heap.size q := fun q h => Or.inr h
  generalize va_A (wl cy L ad u) s.heap.size = A at hw hA ⊢
  have C0 : Cx p m meth c cX4_thing (some (.object "RingHeap$Thing")) 2 s _ wsX4_thing RX4 D cy := ⟨hx, hb, hr, hml, hown, hts, hlocks, hK⟩
  have hl := lv_entry ([.ref (ad 42), .int p0]) (n := 2) (Nat.le_of_ble_eq_true rfl)
  rw [lg_entry_eq]
  generalize (lg_sl ([.ref (ad 42), .int p0]) ++ List.replicate (2 - (lg_sl ([.ref (ad 42), .int p0])).length) Slot.unset).toArray = ls at hl ⊢
  have hl : lv_has ls 2 [(0, .ref (ad 42)), (1, .int p0)] := hl
  unfold f_X4_thing at h
  refine lv_iload_n hx hb dX4_thing_0 rfl (lv_at hl 1 rfl) ?_
  refine lv_if_lt (tgt := 19) hx hb dX4_thing_1 (by decide) (fun hc => ?_) (fun hc => ?_)
  · rw [if_pos hc] at h
    refine lv_null hx hb dX4_thing_19 ?_
    exact r_qret (v := none) hx hb hr hlocks hK hw vr_none h dX4_thing_20
  · rw [if_neg hc] at h
    refine lv_iload_n hx hb dX4_thing_4 rfl (lv_at hl 1 rfl) ?_
    refine lv_bipush (v := 80) hx hb dX4_thing_5 (by decide) ?_
    refine lv_icmp_ge (tgt := 19) hx hb dX4_thing_7 (by decide) (fun hc => ?_) (fun hc => ?_)
    · rw [if_pos hc] at h
      refine lv_null hx hb dX4_thing_19 ?_
      exact r_qret (v := none) hx hb hr hlocks hK hw vr_none h dX4_thing_20
    · rw [if_neg hc] at h
      refine lv_aload_n hx hb dX4_thing_10 rfl (lv_at hl 0 rfl) ?_
      refine r_getC (t2 := 12) (d := 43) hx hb hts n_X4_thing_X4 hown hK hw h_this (by decide) rfl 0 (by decide) rfl rfl (hts _ k_X4_thing_1) (fun _ q => q) dX4_thing_11 (fun hv1 => ?_)
      refine lv_iload_n hx hb dX4_thing_14 rfl (lv_at hl 1 rfl) ?_
      refine r_tald (n := 80) hx hb hK hw hv1 rfl dX4_thing_15 h (fun r2 hv_r2 h => ?_)
      refine lv_goto (tgt := 20) hx hb dX4_thing_16 (by decide) ?_
      exact r_qret (v := r2) hx hb hr hlocks hK hw hv_r2 h dX4_thing_20
theorem k_X4_living_1 : Cond.fieldLink RX4 35 "RingHeap$Thing" "husk" "Z" ∈ wsX4_living := List.mem_of_getElem? (i := 1) (by rfl)
theorem n_X4_living_X5 : ∀ w ∈ u_ws RX5 TX5 11, w ∈ wsX4_living := fun _ h => List.mem_cons_of_mem _ (List.mem_append_left _ (List.mem_append_right _ h))
def f_X4_living (N : Nat) (p0 : Int32) (u : Mm) : Option (Option Nat × Mm) :=
  bd (f_X4_thing N p0 u) (fun r1 u => nl r1 (some (none, u)) (fun t2 => pt (u.1 t2 10) (fun x4 => if x4 = 0 then (some ((some t2), u)) else (some (none, u)))))
set_option maxHeartbeats 4000000 in
set_option maxRecDepth 100000 in
theorem c_X4_living (l : Launch) (D : va_G) (cy : Nat → ClassId) (L : List Nat) (ad : Nat → Nat) (N : Nat) (p0 : Int32) (u : Mm) (o : Option Nat × Mm) (h_this : vn L 4 42) (h : f_X4_living N p0 u = some o) : MtQ l yX4_living wsX4_living ({ frames := 1, cells := 0, slots := 0, locals := 21 } : Room) D cy L ad 5 [.ref (ad 42), .int p0] u o := by
  intro sz
  refine Met.ofW (cc := cX4_living) (maxL := 3) (ret := (some (.object "RingHeap$Thing"))) (by decide) rfl ?_
  intro p e s m args below meth c s₁ B hml hv
  obtain ⟨rfl, hsz, hP, hK, hD0, hok⟩ := hv
  have hx := B.exec
  have hb := B.bytes
  have hr := B.returns
  have hts := atoms_spec (ws := wsX4_living) B.pre
  have hown : s.vm.findClass RX4 = some m.cls := findClass_of_methodNamed B.named
  have hlocks := B.notSynchronized
  subst hsz
  have hw := wd_start hP hD0 hok
  have hA : ∀ q : Nat, s.heap.size ≤ q → va_A (wl cy L ad u) s.heap.size q := fun q h => Or.inr h
  generalize va_A (wl cy L ad u) s.heap.size = A at hw hA ⊢
  have C0 : Cx p m meth c cX4_living (some (.object "RingHeap$Thing")) 3 s _ wsX4_living RX4 D cy := ⟨hx, hb, hr, hml, hown, hts, hlocks, hK⟩
  have hl := lv_entry ([.ref (ad 42), .int p0]) (n := 3) (Nat.le_of_ble_eq_true rfl)
  rw [lg_entry_eq]
  generalize (lg_sl ([.ref (ad 42), .int p0]) ++ List.replicate (3 - (lg_sl ([.ref (ad 42), .int p0])).length) Slot.unset).toArray = ls at hl ⊢
  have hl : lv_has ls 3 [(0, .ref (ad 42)), (1, .int p0)] := hl
  unfold f_X4_living at h
  refine lv_aload_n hx hb dX4_living_0 rfl (lv_at hl 0 rfl) ?_
  refine lv_iload_n hx hb dX4_living_1 rfl (lv_at hl 1 rfl) ?_
  refine r_bQ (fun o ho => r_vQ (As := [.int p0]) (rest := []) ⟨hx, hb, hml, hown, hts⟩ (c_X4_thing l D cy L ad N p0 u o h_this ho) (cwV 1 hts gX4_living_X4_thing rfl rfl rfl (by decide +kernel) ⟨Nat.le_of_ble_eq_true rfl, Nat.le_of_ble_eq_true rfl⟩) hw hK h_this (by decide) rfl rfl hl.1 rfl (Nat.le_of_ble_eq_true rfl) dX4_living_2 ⟨Nat.zero_le _, Nat.zero_le _⟩) hw hA h (fun r1 u H locs hw hv_r1 h => ?_)
  refine r_astoren (lv' := [(2, va_re ad r1), (0, .ref (ad 42)), (1, .int p0)]) hx hb dX4_living_5 rfl hl (by decide) rfl (fun ls hl => ?_)
  refine r_aloadn hx hb dX4_living_6 rfl (lv_at hl 0 rfl) ?_
  refine r_ifnull (tgt := 17) hx hb hv_r1 dX4_living_7 (by decide) h (fun e3 h9 => ?_) (fun t2 e3 hv_t2 h9 => ?_)
  · clear h
    subst e3
    have h := h9
    have hl : lv_has ls 3 [(2, va_re ad none), (0, .ref (ad 42)), (1, .int p0)] := hl
    refine lv_null hx hb dX4_living_17 ?_
    refine lv_goto (tgt := 22) hx hb dX4_living_18 (by decide) ?_
    exact r_qret (v := none) hx hb hr hlocks hK hw vr_none h dX4_living_22
  · clear h
    subst e3
    have h := h9
    have hl : lv_has ls 3 [(2, .ref (ad t2)), (0, .ref (ad 42)), (1, .int p0)] := hl
    refine lv_aload_n hx hb dX4_living_10 rfl (lv_at hl 0 rfl) ?_
    refine r_getI hx hb hts n_X4_living_X5 hown hK hw hv_t2 (by decide) rfl 10 (by decide) rfl (hts _ k_X4_living_1) (fun _ q => q) dX4_living_11 h (fun x4 h => ?_)
    refine lv_if_eq (tgt := 21) hx hb dX4_living_14 (by decide) (fun hc => ?_) (fun hc => ?_)
    · rw [if_pos hc] at h
      refine lv_aload_n hx hb dX4_living_21 rfl (lv_at hl 0 rfl) ?_
      exact r_qret (v := (some t2)) hx hb hr hlocks hK hw (vr_some hv_t2) h dX4_living_22
    · rw [if_neg hc] at h
      refine lv_null hx hb dX4_living_17 ?_
      refine lv_goto (tgt := 22) hx hb dX4_living_18 (by decide) ?_
      exact r_qret (v := none) hx hb hr hlocks hK hw vr_none h dX4_living_22
theorem k_X4_leastFreeNumber_1 : Cond.fieldLink RX4 11 "RingHeap$Store" "things" "[LRingHeap$Thing;" ∈ wsX4_leastFreeNumber := List.mem_of_getElem? (i := 1) (by rfl)
theorem n_X4_leastFreeNumber_X4 : ∀ w ∈ u_ws RX4 TX4 6, w ∈ wsX4_leastFreeNumber := fun _ h => List.mem_cons_of_mem _ (List.mem_append_right _ h)
def g_X4_leastFreeNumber_2 (N : Nat)  (K2 : Int32 → Mm → Option (Int32 × Mm)) (v1 : Int32) (u : Mm) : Option (Int32 × Mm) :=
  if 80 ≤ v1 then (some ((-1), u)) else (ck (bI v1 80) (pt (u.2 43 (ix v1)) (fun r2 => nl r2 (some (v1, u)) (fun t3 => K2 (v1 + 1) u))))
def f_X4_leastFreeNumber_2 (N : Nat)   : Nat → Int32 → Mm → Option (Int32 × Mm)
  | 0 => fun _ _ => none
  | n + 1 => g_X4_leastFreeNumber_2 N   (f_X4_leastFreeNumber_2 N   n)
set_option maxHeartbeats 4000000 in
set_option maxRecDepth 100000 in
theorem jg_X4_leastFreeNumber_2 {p : Program} {l : Launch} {e : Env} {s : State} {m : MethodId} {args : Array Value} {below : List Frame} {meth : Method} {c : Code} {D : va_G} {cy : Nat → ClassId} {L : List Nat} {ad : Nat → Nat} {A : Nat → Prop} {o : Int32 × Mm} (N : Nat)   (C0 : Cx p m meth c cX4_leastFreeNumber (some .int) 2 s args wsX4_leastFreeNumber RX4 D cy) (hA : ∀ q : Nat, s.heap.size ≤ q → A q)  (K2 : Int32 → Mm → Option (Int32 × Mm)) (hK2 : ∀ (v1 : Int32) (u : Mm) (H : Heap) (locs : List Loc) (ls : Array Slot), vn L 4 42 → Wd D cy L ad A s.heap u H locs → lv_has ls 2 [(0, .ref (ad 42)), (1, .int v1)] → K2 v1 u = some o → W p l e ({ frames := 0, cells := 0, slots := 0, locals := 0 } : Room) s m args below meth c H locs 0 0 (MQ below (QcI D cy L ad A o) args s 0 0 A) (F0 m 2 ls [])) : ∀ (v1 : Int32) (u : Mm) (H : Heap) (locs : List Loc) (ls : Array Slot), vn L 4 42 → Wd D cy L ad A s.heap u H locs → lv_has ls 2 [(0, .ref (ad 42)), (1, .int v1)] → g_X4_leastFreeNumber_2 N   K2 v1 u = some o → W p l e ({ frames := 0, cells := 0, slots := 0, locals := 0 } : Room) s m args below meth c H locs 0 0 (MQ below (QcI D cy L ad A o) args s 0 0 A) (F0 m 2 ls []) := by
  obtain ⟨hx, hb, hr, hml, hown, hts, hlocks, hK⟩ := id C0
  intro v1 u H locs ls hv_t0 hw hl h
  unfold g_X4_leastFreeNumber_2 at h
  refine lv_iload_n hx hb dX4_leastFreeNumber_2 rfl (lv_at hl 1 rfl) ?_
  refine lv_bipush (v := 80) hx hb dX4_leastFreeNumber_3 (by decide) ?_
  refine lv_icmp_ge (tgt := 25) hx hb dX4_leastFreeNumber_5 (by decide) (fun hc => ?_) (fun hc => ?_)
  · rw [if_pos hc] at h
    refine lv_iconst (v := (-1)) hx hb dX4_leastFreeNumber_25 (by decide) ?_
    exact r_iret hx hb hr hlocks hK hw h dX4_leastFreeNumber_26
  · rw [if_neg hc] at h
    refine lv_aload_n hx hb dX4_leastFreeNumber_8 rfl (lv_at hl 0 rfl) ?_
    refine r_getC (t2 := 12) (d := 43) hx hb hts n_X4_leastFreeNumber_X4 hown hK hw hv_t0 (by decide) rfl 0 (by decide) rfl rfl (hts _ k_X4_leastFreeNumber_1) (fun _ q => q) dX4_leastFreeNumber_9 (fun hv1 => ?_)
    refine lv_iload_n hx hb dX4_leastFreeNumber_12 rfl (lv_at hl 1 rfl) ?_
    refine r_tald (n := 80) hx hb hK hw hv1 rfl dX4_leastFreeNumber_13 h (fun r2 hv_r2 h => ?_)
    refine r_ifnonnull (tgt := 19) hx hb hv_r2 dX4_leastFreeNumber_14 (by decide) h (fun e4 h9 => ?_) (fun t3 e4 hv_t3 h9 => ?_)
    · clear h
      subst e4
      have h := h9
      have hl : lv_has ls 2 [(0, .ref (ad 42)), (1, .int v1)] := hl
      refine lv_iload_n hx hb dX4_leastFreeNumber_17 rfl (lv_at hl 1 rfl) ?_
      exact r_iret hx hb hr hlocks hK hw h dX4_leastFreeNumber_18
    · clear h
      subst e4
      have h := h9
      have hl : lv_has ls 2 [(0, .ref (ad 42)), (1, .int v1)] := hl
      refine lv_iinc (v := v1 + 1) (lv' := [(1, .int (v1 + 1)), (0, .ref (ad 42))]) hx hb dX4_leastFreeNumber_19 hl (k := 1) rfl rfl (by decide) rfl (fun ls hl => ?_)
      refine lv_goto (tgt := 2) hx hb dX4_leastFreeNumber_22 (by decide) ?_
      exact hK2 (v1 + 1) u _ _ _ hv_t0 hw (lv_sub hl [1, 0] rfl) h
set_option maxHeartbeats 4000000 in
set_option maxRecDepth 100000 in
theorem j_X4_leastFreeNumber_2 {p : Program} {l : Launch} {e : Env} {s : State} {m : MethodId} {args : Array Value} {below : List Frame} {meth : Method} {c : Code} {D : va_G} {cy : Nat → ClassId} {L : List Nat} {ad : Nat → Nat} {A : Nat → Prop} {o : Int32 × Mm} (N : Nat)   (C0 : Cx p m meth c cX4_leastFreeNumber (some .int) 2 s args wsX4_leastFreeNumber RX4 D cy) (hA : ∀ q : Nat, s.heap.size ≤ q → A q)  : ∀ (n : Nat), ∀ (v1 : Int32) (u : Mm) (H : Heap) (locs : List Loc) (ls : Array Slot), vn L 4 42 → Wd D cy L ad A s.heap u H locs → lv_has ls 2 [(0, .ref (ad 42)), (1, .int v1)] → f_X4_leastFreeNumber_2 N   n v1 u = some o → W p l e ({ frames := 0, cells := 0, slots := 0, locals := 0 } : Room) s m args below meth c H locs 0 0 (MQ below (QcI D cy L ad A o) args s 0 0 A) (F0 m 2 ls []) := by
  intro n
  induction n with
  | zero =>
    intro v1 u H locs ls hv_t0 hw hl h
    cases h
  | succ n ih => exact jg_X4_leastFreeNumber_2 N   C0 hA  _ ih
def f_X4_leastFreeNumber (N : Nat)  (u : Mm) : Option (Int32 × Mm) :=
  f_X4_leastFreeNumber_2 N N 0 u
set_option maxHeartbeats 4000000 in
set_option maxRecDepth 100000 in
theorem c_X4_leastFreeNumber (l : Launch) (D : va_G) (cy : Nat → ClassId) (L : List Nat) (ad : Nat → Nat) (N : Nat)  (u : Mm) (o : Int32 × Mm) (h_this : vn L 4 42) (h : f_X4_leastFreeNumber N  u = some o) : MtI l yX4_leastFreeNumber wsX4_leastFreeNumber ({ frames := 0, cells := 0, slots := 0, locals := 0 } : Room) D cy L ad [.ref (ad 42)] u o := by
  intro sz
  refine Met.ofW (cc := cX4_leastFreeNumber) (maxL := 2) (ret := (some .int)) (by decide) rfl ?_
  intro p e s m args below meth c s₁ B hml hv
  obtain ⟨rfl, hsz, hP, hK, hD0, hok⟩ := hv
  have hx := B.exec
  have hb := B.bytes
  have hr := B.returns
  have hts := atoms_spec (ws := wsX4_leastFreeNumber) B.pre
  have hown : s.vm.findClass RX4 = some m.cls := findClass_of_methodNamed B.named
  have hlocks := B.notSynchronized
  subst hsz
  have hw := wd_start hP hD0 hok
  have hA : ∀ q : Nat, s.heap.size ≤ q → va_A (wl cy L ad u) s.heap.size q := fun q h => Or.inr h
  generalize va_A (wl cy L ad u) s.heap.size = A at hw hA ⊢
  have C0 : Cx p m meth c cX4_leastFreeNumber (some .int) 2 s _ wsX4_leastFreeNumber RX4 D cy := ⟨hx, hb, hr, hml, hown, hts, hlocks, hK⟩
  have hl := lv_entry ([.ref (ad 42)]) (n := 2) (Nat.le_of_ble_eq_true rfl)
  rw [lg_entry_eq]
  generalize (lg_sl ([.ref (ad 42)]) ++ List.replicate (2 - (lg_sl ([.ref (ad 42)])).length) Slot.unset).toArray = ls at hl ⊢
  have hl : lv_has ls 2 [(0, .ref (ad 42))] := hl
  unfold f_X4_leastFreeNumber at h
  refine lv_iconst (v := 0) hx hb dX4_leastFreeNumber_0 (by decide) ?_
  refine lv_istore_n (lv' := [(1, .int 0), (0, .ref (ad 42))]) hx hb dX4_leastFreeNumber_1 rfl hl (by decide) rfl (fun ls hl => ?_)
  exact j_X4_leastFreeNumber_2 N C0 hA N 0 u _ _ _ h_this hw (lv_sub hl [1, 0] rfl) h
theorem k_X4_hasRoomFor_1 : Cond.fieldLink RX4 27 "RingHeap$Store" "words" "LRingHeap$Words;" ∈ wsX4_hasRoomFor := List.mem_of_getElem? (i := 1) (by rfl)
theorem n_X4_hasRoomFor_X4 : ∀ w ∈ u_ws RX4 TX4 6, w ∈ wsX4_hasRoomFor := fun _ h => List.mem_cons_of_mem _ (List.mem_append_left _ (List.mem_append_left _ (List.mem_append_right _ h)))
theorem k_X4_hasRoomFor_2 : Cond.fieldLink RX4 43 "RingHeap$Kind" "size" "I" ∈ wsX4_hasRoomFor := List.mem_of_getElem? (i := 2) (by rfl)
theorem n_X4_hasRoomFor_X2 : ∀ w ∈ u_ws RX2 TX2 4, w ∈ wsX4_hasRoomFor := fun _ h => List.mem_cons_of_mem _ (List.mem_append_left _ (List.mem_append_right _ h))
def f_X4_hasRoomFor (N : Nat) (p0 : Nat) (u : Mm) : Option (Int32 × Mm) :=
  bd (f_X4_leastFreeNumber N u) (fun x1 u => if x1 = (-1) then (some (0, u)) else (pt (u.1 p0 2) (fun x3 => bd (f_X6_gapFor N x3 u) (fun x4 u => if x4 = (-1) then (some (0, u)) else (some (1, u))))))
set_option maxHeartbeats 4000000 in
set_option maxRecDepth 100000 in
theorem c_X4_hasRoomFor (l : Launch) (D : va_G) (cy : Nat → ClassId) (L : List Nat) (ad : Nat → Nat) (N : Nat) (p0 : Nat) (u : Mm) (o : Int32 × Mm) (h_this : vn L 4 42) (h_p0 : vn L 2 p0) (h : f_X4_hasRoomFor N p0 u = some o) : MtI l yX4_hasRoomFor wsX4_hasRoomFor ({ frames := 1, cells := 0, slots := 0, locals := 23 } : Room) D cy L ad [.ref (ad 42), .ref (ad p0)] u o := by
  intro sz
  refine Met.ofW (cc := cX4_hasRoomFor) (maxL := 2) (ret := (some .boolean)) (by decide) rfl ?_
  intro p e s m args below meth c s₁ B hml hv
  obtain ⟨rfl, hsz, hP, hK, hD0, hok⟩ := hv
  have hx := B.exec
  have hb := B.bytes
  have hr := B.returns
  have hts := atoms_spec (ws := wsX4_hasRoomFor) B.pre
  have hown : s.vm.findClass RX4 = some m.cls := findClass_of_methodNamed B.named
  have hlocks := B.notSynchronized
  subst hsz
  have hw := wd_start hP hD0 hok
  have hA : ∀ q : Nat, s.heap.size ≤ q → va_A (wl cy L ad u) s.heap.size q := fun q h => Or.inr h
  generalize va_A (wl cy L ad u) s.heap.size = A at hw hA ⊢
  have C0 : Cx p m meth c cX4_hasRoomFor (some .boolean) 2 s _ wsX4_hasRoomFor RX4 D cy := ⟨hx, hb, hr, hml, hown, hts, hlocks, hK⟩
  have hl := lv_entry ([.ref (ad 42), .ref (ad p0)]) (n := 2) (Nat.le_of_ble_eq_true rfl)
  rw [lg_entry_eq]
  generalize (lg_sl ([.ref (ad 42), .ref (ad p0)]) ++ List.replicate (2 - (lg_sl ([.ref (ad 42), .ref (ad p0)])).length) Slot.unset).toArray = ls at hl ⊢
  have hl : lv_has ls 2 [(0, .ref (ad 42)), (1, .ref (ad p0))] := hl
  unfold f_X4_hasRoomFor at h
  refine lv_aload_n hx hb dX4_hasRoomFor_0 rfl (lv_at hl 0 rfl) ?_
  refine r_bI (fun o ho => r_vI (As := []) (rest := []) ⟨hx, hb, hml, hown, hts⟩ (c_X4_leastFreeNumber l D cy L ad N u o h_this ho) (cwV 0 hts gX4_hasRoomFor_X4_leastFreeNumber rfl rfl rfl (by decide +kernel) ⟨Nat.le_of_ble_eq_true rfl, Nat.le_of_ble_eq_true rfl⟩) hw hK h_this (by decide) rfl rfl hl.1 rfl (Nat.le_of_ble_eq_true rfl) dX4_hasRoomFor_1 ⟨Nat.zero_le _, Nat.zero_le _⟩) hw hA h (fun x1 u H locs hw h => ?_)
  refine lv_iconst (v := (-1)) hx hb dX4_hasRoomFor_4 (by decide) ?_
  refine lv_icmp_eq (tgt := 27) hx hb dX4_hasRoomFor_5 (by decide) (fun hc => ?_) (fun hc => ?_)
  · rw [if_pos hc] at h
    refine lv_iconst (v := 0) hx hb dX4_hasRoomFor_27 (by decide) ?_
    exact r_zret hx hb hr hlocks hK hw (by decide) h dX4_hasRoomFor_28
  · rw [if_neg hc] at h
    refine lv_aload_n hx hb dX4_hasRoomFor_8 rfl (lv_at hl 0 rfl) ?_
    refine r_getC (t2 := 6) (d := 46) hx hb hts n_X4_hasRoomFor_X4 hown hK hw h_this (by decide) rfl 3 (by decide) rfl rfl (hts _ k_X4_hasRoomFor_1) (fun _ q => q) dX4_hasRoomFor_9 (fun hv2 => ?_)
    refine lv_aload_n hx hb dX4_hasRoomFor_12 rfl (lv_at hl 1 rfl) ?_
    refine r_getI hx hb hts n_X4_hasRoomFor_X2 hown hK hw h_p0 (by decide) rfl 2 (by decide) rfl (hts _ k_X4_hasRoomFor_2) (fun _ q => q) dX4_hasRoomFor_13 h (fun x3 h => ?_)
    refine r_bI (fun o ho => r_vI (As := [.int x3]) (rest := []) ⟨hx, hb, hml, hown, hts⟩ (c_X6_gapFor l D cy L ad N x3 u o hv2 ho) (cwV 1 hts gX4_hasRoomFor_X6_gapFor rfl rfl rfl (by decide +kernel) ⟨Nat.le_of_ble_eq_true rfl, Nat.le_of_ble_eq_true rfl⟩) hw hK hv2 (by decide) rfl rfl hl.1 rfl (Nat.le_of_ble_eq_true rfl) dX4_hasRoomFor_16 ⟨Nat.zero_le _, Nat.zero_le _⟩) hw hA h (fun x4 u H locs hw h => ?_)
    refine lv_iconst (v := (-1)) hx hb dX4_hasRoomFor_19 (by decide) ?_
    refine lv_icmp_eq (tgt := 27) hx hb dX4_hasRoomFor_20 (by decide) (fun hc => ?_) (fun hc => ?_)
    · rw [if_pos hc] at h
      refine lv_iconst (v := 0) hx hb dX4_hasRoomFor_27 (by decide) ?_
      exact r_zret hx hb hr hlocks hK hw (by decide) h dX4_hasRoomFor_28
    · rw [if_neg hc] at h
      refine lv_iconst (v := 1) hx hb dX4_hasRoomFor_23 (by decide) ?_
      refine lv_goto (tgt := 28) hx hb dX4_hasRoomFor_24 (by decide) ?_
      exact r_zret hx hb hr hlocks hK hw (by decide) h dX4_hasRoomFor_28
theorem k_X4_free_1 : Cond.fieldLink RX4 63 "RingHeap$Thing" "number" "I" ∈ wsX4_free := List.mem_of_getElem? (i := 1) (by rfl)
theorem n_X4_free_X5 : ∀ w ∈ u_ws RX5 TX5 11, w ∈ wsX4_free := fun _ h => List.mem_cons_of_mem _ (List.mem_append_left _ (List.mem_append_left _ (List.mem_append_left _ (List.mem_append_right _ h))))
theorem k_X4_free_2 : Cond.fieldLink RX4 27 "RingHeap$Store" "words" "LRingHeap$Words;" ∈ wsX4_free := List.mem_of_getElem? (i := 2) (by rfl)
theorem n_X4_free_X4 : ∀ w ∈ u_ws RX4 TX4 6, w ∈ wsX4_free := fun _ h => List.mem_cons_of_mem _ (List.mem_append_left _ (List.mem_append_left _ (List.mem_append_right _ h)))
theorem k_X4_free_3 : Cond.fieldLink RX4 11 "RingHeap$Store" "things" "[LRingHeap$Thing;" ∈ wsX4_free := List.mem_of_getElem? (i := 3) (by rfl)
theorem k_X4_free_4 : Cond.fieldLink RX4 60 "RingHeap$Store" "thingsThere" "I" ∈ wsX4_free := List.mem_of_getElem? (i := 4) (by rfl)
theorem k_X4_free_6 : Cond.fieldLink RX4 17 "RingHeap$Store" "freedNumbers" "[I" ∈ wsX4_free := List.mem_of_getElem? (i := 6) (by rfl)
theorem k_X4_free_7 : Cond.fieldLink RX4 70 "RingHeap$Store" "freedEver" "I" ∈ wsX4_free := List.mem_of_getElem? (i := 7) (by rfl)
theorem k_X4_free_5 : Cond.fieldLink RX4 21 "RingHeap$Store" "weaks" "[LRingHeap$Thing;" ∈ wsX4_free := List.mem_of_getElem? (i := 5) (by rfl)
def f_X4_free_66 (N : Nat) (p0 : Nat) (K43 : Int32 → Int32 → Mm → Option (Mm)) (v2 : Int32) (v3 : Int32) (u : Mm) : Option (Mm) :=
  K43 v2 (v3 + 1) u
set_option maxHeartbeats 4000000 in
set_option maxRecDepth 100000 in
theorem j_X4_free_66 {p : Program} {l : Launch} {e : Env} {s : State} {m : MethodId} {args : Array Value} {below : List Frame} {meth : Method} {c : Code} {D : va_G} {cy : Nat → ClassId} {L : List Nat} {ad : Nat → Nat} {A : Nat → Prop} {o : Mm} (N : Nat) (p0 : Nat) (h_p0 : vn L 5 p0) (C0 : Cx p m meth c cX4_free none 4 s args wsX4_free RX4 D cy) (hA : ∀ q : Nat, s.heap.size ≤ q → A q) (K43 : Int32 → Int32 → Mm → Option (Mm)) (hK43 : ∀ (v2 : Int32) (v3 : Int32) (u : Mm) (H : Heap) (locs : List Loc) (ls : Array Slot), vn L 4 42 → vn L 5 p0 → Wd D cy L ad A s.heap u H locs → lv_has ls 4 [(0, .ref (ad 42)), (1, .ref (ad p0)), (2, .int v2), (3, .int v3)] → K43 v2 v3 u = some o → W p l e ({ frames := 1, cells := 0, slots := 0, locals := 23 } : Room) s m args below meth c H locs 0 0 (MQ below (QcV D cy L ad A o) args s 0 0 A) (F0 m 43 ls [])) : ∀ (v2 : Int32) (v3 : Int32) (u : Mm) (H : Heap) (locs : List Loc) (ls : Array Slot), vn L 4 42 → vn L 5 p0 → Wd D cy L ad A s.heap u H locs → lv_has ls 4 [(0, .ref (ad 42)), (1, .ref (ad p0)), (2, .int v2), (3, .int v3)] → f_X4_free_66 N p0 K43 v2 v3 u = some o → W p l e ({ frames := 1, cells := 0, slots := 0, locals := 23 } : Room) s m args below meth c H locs 0 0 (MQ below (QcV D cy L ad A o) args s 0 0 A) (F0 m 66 ls []) := by
  obtain ⟨hx, hb, hr, hml, hown, hts, hlocks, hK⟩ := id C0
  intro v2 v3 u H locs ls hv_t0 hv_t1 hw hl h
  unfold f_X4_free_66 at h
  refine lv_iinc (v := v3 + 1) (lv' := [(3, .int (v3 + 1)), (0, .ref (ad 42)), (1, .ref (ad p0)), (2, .int v2)]) hx hb dX4_free_66 hl (k := 3) rfl rfl (by decide) rfl (fun ls hl => ?_)
  refine lv_goto (tgt := 43) hx hb dX4_free_69 (by decide) ?_
  exact hK43 v2 (v3 + 1) u _ _ _ hv_t0 hv_t1 hw (lv_sub hl [1, 2, 3, 0] rfl) h
def g_X4_free_43 (N : Nat) (p0 : Nat) (K43 : Int32 → Int32 → Mm → Option (Mm)) (v2 : Int32) (v3 : Int32) (u : Mm) : Option (Mm) :=
  if 20 ≤ v3 then (pt (u.1 42 5) (fun x6 => bd (f_J9_floorMod_7cf53 N x6 100 u) (fun x7 u => ck (bI x7 100) (pt (sI u 44 (ix x7) v2) (fun u => pt (u.1 42 5) (fun x8 => pt (sI u 42 5 (x8 + 1)) (fun u => some u))))))) else (ck (bI v3 20) (pt (u.2 45 (ix v3)) (fun r10 => if r10 = (some p0) then (ck (bI v3 20) (pt (sR u 45 (ix v3) none) (fun u => f_X4_free_66 N p0 K43 v2 v3 u))) else (f_X4_free_66 N p0 K43 v2 v3 u))))
def f_X4_free_43 (N : Nat) (p0 : Nat)  : Nat → Int32 → Int32 → Mm → Option (Mm)
  | 0 => fun _ _ _ => none
  | n + 1 => g_X4_free_43 N p0  (f_X4_free_43 N p0  n)
set_option maxHeartbeats 4000000 in
set_option maxRecDepth 100000 in
theorem jg_X4_free_43 {p : Program} {l : Launch} {e : Env} {s : State} {m : MethodId} {args : Array Value} {below : List Frame} {meth : Method} {c : Code} {D : va_G} {cy : Nat → ClassId} {L : List Nat} {ad : Nat → Nat} {A : Nat → Prop} {o : Mm} (N : Nat) (p0 : Nat) (h_p0 : vn L 5 p0) (C0 : Cx p m meth c cX4_free none 4 s args wsX4_free RX4 D cy) (hA : ∀ q : Nat, s.heap.size ≤ q → A q)  (K43 : Int32 → Int32 → Mm → Option (Mm)) (hK43 : ∀ (v2 : Int32) (v3 : Int32) (u : Mm) (H : Heap) (locs : List Loc) (ls : Array Slot), vn L 4 42 → vn L 5 p0 → Wd D cy L ad A s.heap u H locs → lv_has ls 4 [(0, .ref (ad 42)), (1, .ref (ad p0)), (2, .int v2), (3, .int v3)] → K43 v2 v3 u = some o → W p l e ({ frames := 1, cells := 0, slots := 0, locals := 23 } : Room) s m args below meth c H locs 0 0 (MQ below (QcV D cy L ad A o) args s 0 0 A) (F0 m 43 ls [])) : ∀ (v2 : Int32) (v3 : Int32) (u : Mm) (H : Heap) (locs : List Loc) (ls : Array Slot), vn L 4 42 → vn L 5 p0 → Wd D cy L ad A s.heap u H locs → lv_has ls 4 [(0, .ref (ad 42)), (1, .ref (ad p0)), (2, .int v2), (3, .int v3)] → g_X4_free_43 N p0  K43 v2 v3 u = some o → W p l e ({ frames := 1, cells := 0, slots := 0, locals := 23 } : Room) s m args below meth c H locs 0 0 (MQ below (QcV D cy L ad A o) args s 0 0 A) (F0 m 43 ls []) := by
  obtain ⟨hx, hb, hr, hml, hown, hts, hlocks, hK⟩ := id C0
  intro v2 v3 u H locs ls hv_t0 hv_t1 hw hl h
  unfold g_X4_free_43 at h
  refine lv_iload_n hx hb dX4_free_43 rfl (lv_at hl 3 rfl) ?_
  refine lv_bipush (v := 20) hx hb dX4_free_44 (by decide) ?_
  refine lv_icmp_ge (tgt := 72) hx hb dX4_free_46 (by decide) (fun hc => ?_) (fun hc => ?_)
  · rw [if_pos hc] at h
    refine lv_aload_n hx hb dX4_free_72 rfl (lv_at hl 0 rfl) ?_
    refine r_getC (t2 := 9) (d := 44) hx hb hts n_X4_free_X4 hown hK hw hv_t0 (by decide) rfl 1 (by decide) rfl rfl (hts _ k_X4_free_6) (fun _ q => q) dX4_free_73 (fun hv5 => ?_)
    refine lv_aload_n hx hb dX4_free_76 rfl (lv_at hl 0 rfl) ?_
    refine r_getI hx hb hts n_X4_free_X4 hown hK hw hv_t0 (by decide) rfl 5 (by decide) rfl (hts _ k_X4_free_7) (fun _ q => q) dX4_free_77 h (fun x6 h => ?_)
    refine lv_bipush (v := 100) hx hb dX4_free_80 (by decide) ?_
    refine r_bI (fun o ho => r_sI (As := [.int x6, .int 100]) (rest := [.ref (ad 44)]) ⟨hx, hb, hml, hown, hts⟩ (c_J9_floorMod_7cf53 l D cy L ad N x6 100 u o ho) (va_cwS 2 hts gX4_free_J9_floorMod_7cf53 rfl rfl rfl (by decide +kernel) ⟨Nat.le_of_ble_eq_true rfl, Nat.le_of_ble_eq_true rfl⟩) hw hK rfl hl.1 rfl (Nat.le_of_ble_eq_true rfl) dX4_free_82 ⟨Nat.zero_le _, Nat.zero_le _⟩) hw hA h (fun x7 u H locs hw h => ?_)
    refine lv_iload_n hx hb dX4_free_85 rfl (lv_at hl 2 rfl) ?_
    refine r_iast (n := 100) hx hb hK hw hv5 rfl dX4_free_86 h (fun u H locs hw h => ?_)
    refine lv_aload_n hx hb dX4_free_87 rfl (lv_at hl 0 rfl) ?_
    refine lv_dup hx hb dX4_free_88 rfl ?_
    refine r_getI hx hb hts n_X4_free_X4 hown hK hw hv_t0 (by decide) rfl 5 (by decide) rfl (hts _ k_X4_free_7) (fun _ q => q) dX4_free_89 h (fun x8 h => ?_)
    refine lv_iconst (v := 1) hx hb dX4_free_92 (by decide) ?_
    refine lv_iadd hx hb dX4_free_93 ?_
    refine r_putI (ty := .int) hx hb hts n_X4_free_X4 tyX4 tyX4_ok nmX4 hown hK hw hv_t0 (by decide) rfl 5 (by decide) rfl (hts _ k_X4_free_7) (fun _ q => q) rfl rfl rfl rfl dX4_free_94 h (fun u H locs hw h => ?_)
    exact r_vret hx hb hr hlocks hK hw h dX4_free_97
  · rw [if_neg hc] at h
    refine lv_aload_n hx hb dX4_free_49 rfl (lv_at hl 0 rfl) ?_
    refine r_getC (t2 := 12) (d := 45) hx hb hts n_X4_free_X4 hown hK hw hv_t0 (by decide) rfl 2 (by decide) rfl rfl (hts _ k_X4_free_5) (fun _ q => q) dX4_free_50 (fun hv9 => ?_)
    refine lv_iload_n hx hb dX4_free_53 rfl (lv_at hl 3 rfl) ?_
    refine r_tald (n := 20) hx hb hK hw hv9 rfl dX4_free_54 h (fun r10 hv_r10 h => ?_)
    refine lv_aload_n hx hb dX4_free_55 rfl (lv_at hl 1 rfl) ?_
    refine r_acmpne (tgt := 66) (v := r10) (w := (some p0)) hx hb hw hv_r10 (vr_some hv_t1) dX4_free_56 (by decide) (fun hc => ?_) (fun hc => ?_)
    · rw [if_neg hc] at h
      exact j_X4_free_66 N p0 h_p0 C0 hA K43 hK43 v2 v3 u _ _ _ hv_t0 hv_t1 hw (lv_sub hl [0, 1, 2, 3] rfl) h
    · rw [if_pos hc] at h
      refine lv_aload_n hx hb dX4_free_59 rfl (lv_at hl 0 rfl) ?_
      refine r_getC (t2 := 12) (d := 45) hx hb hts n_X4_free_X4 hown hK hw hv_t0 (by decide) rfl 2 (by decide) rfl rfl (hts _ k_X4_free_5) (fun _ q => q) dX4_free_60 (fun hv11 => ?_)
      refine lv_iload_n hx hb dX4_free_63 rfl (lv_at hl 3 rfl) ?_
      refine lv_null hx hb dX4_free_64 ?_
      refine r_tast (n := 20) (v := none) hx hb hK hw hv11 rfl vr_none dX4_free_65 h (fun u H locs hw h => ?_)
      exact j_X4_free_66 N p0 h_p0 C0 hA K43 hK43 v2 v3 u _ _ _ hv_t0 hv_t1 hw (lv_sub hl [0, 1, 2, 3] rfl) h
set_option maxHeartbeats 4000000 in
set_option maxRecDepth 100000 in
theorem j_X4_free_43 {p : Program} {l : Launch} {e : Env} {s : State} {m : MethodId} {args : Array Value} {below : List Frame} {meth : Method} {c : Code} {D : va_G} {cy : Nat → ClassId} {L : List Nat} {ad : Nat → Nat} {A : Nat → Prop} {o : Mm} (N : Nat) (p0 : Nat) (h_p0 : vn L 5 p0) (C0 : Cx p m meth c cX4_free none 4 s args wsX4_free RX4 D cy) (hA : ∀ q : Nat, s.heap.size ≤ q → A q)  : ∀ (n : Nat), ∀ (v2 : Int32) (v3 : Int32) (u : Mm) (H : Heap) (locs : List Loc) (ls : Array Slot), vn L 4 42 → vn L 5 p0 → Wd D cy L ad A s.heap u H locs → lv_has ls 4 [(0, .ref (ad 42)), (1, .ref (ad p0)), (2, .int v2), (3, .int v3)] → f_X4_free_43 N p0  n v2 v3 u = some o → W p l e ({ frames := 1, cells := 0, slots := 0, locals := 23 } : Room) s m args below meth c H locs 0 0 (MQ below (QcV D cy L ad A o) args s 0 0 A) (F0 m 43 ls []) := by
  intro n
  induction n with
  | zero =>
    intro v2 v3 u H locs ls hv_t0 hv_t1 hw hl h
    cases h
  | succ n ih => exact jg_X4_free_43 N p0 h_p0 C0 hA  _ ih
def f_X4_free (N : Nat) (p0 : Nat) (u : Mm) : Option (Mm) :=
  pt (u.1 p0 0) (fun x1 => if x1 < 0 then (some u) else (if x1 < 80 then (bv (f_X6_takeBack N p0 u) (fun u => ck (bI x1 80) (pt (sR u 43 (ix x1) none) (fun u => pt (u.1 42 4) (fun x4 => pt (sI u 42 4 (x4 - 1)) (fun u => f_X4_free_43 N p0 N x1 0 u)))))) else (some u)))
set_option maxHeartbeats 4000000 in
set_option maxRecDepth 100000 in
theorem c_X4_free (l : Launch) (D : va_G) (cy : Nat → ClassId) (L : List Nat) (ad : Nat → Nat) (N : Nat) (p0 : Nat) (u : Mm) (o : Mm) (h_this : vn L 4 42) (h_p0 : vn L 5 p0) (h : f_X4_free N p0 u = some o) : MtV l yX4_free wsX4_free ({ frames := 1, cells := 0, slots := 0, locals := 23 } : Room) D cy L ad [.ref (ad 42), .ref (ad p0)] u o := by
  intro sz
  refine Met.ofW (cc := cX4_free) (maxL := 4) (ret := none) (by decide) rfl ?_
  intro p e s m args below meth c s₁ B hml hv
  obtain ⟨rfl, hsz, hP, hK, hD0, hok⟩ := hv
  have hx := B.exec
  have hb := B.bytes
  have hr := B.returns
  have hts := atoms_spec (ws := wsX4_free) B.pre
  have hown : s.vm.findClass RX4 = some m.cls := findClass_of_methodNamed B.named
  have hlocks := B.notSynchronized
  subst hsz
  have hw := wd_start hP hD0 hok
  have hA : ∀ q : Nat, s.heap.size ≤ q → va_A (wl cy L ad u) s.heap.size q := fun q h => Or.inr h
  generalize va_A (wl cy L ad u) s.heap.size = A at hw hA ⊢
  have C0 : Cx p m meth c cX4_free none 4 s _ wsX4_free RX4 D cy := ⟨hx, hb, hr, hml, hown, hts, hlocks, hK⟩
  have hl := lv_entry ([.ref (ad 42), .ref (ad p0)]) (n := 4) (Nat.le_of_ble_eq_true rfl)
  rw [lg_entry_eq]
  generalize (lg_sl ([.ref (ad 42), .ref (ad p0)]) ++ List.replicate (4 - (lg_sl ([.ref (ad 42), .ref (ad p0)])).length) Slot.unset).toArray = ls at hl ⊢
  have hl : lv_has ls 4 [(0, .ref (ad 42)), (1, .ref (ad p0))] := hl
  unfold f_X4_free at h
  refine lv_aload_n hx hb dX4_free_0 rfl (lv_at hl 1 rfl) ?_
  refine r_getI hx hb hts n_X4_free_X5 hown hK hw h_p0 (by decide) rfl 0 (by decide) rfl (hts _ k_X4_free_1) (fun _ q => q) dX4_free_1 h (fun x1 h => ?_)
  refine lv_istore_n (lv' := [(2, .int x1), (0, .ref (ad 42)), (1, .ref (ad p0))]) hx hb dX4_free_4 rfl hl (by decide) rfl (fun ls hl => ?_)
  refine lv_iload_n hx hb dX4_free_5 rfl (lv_at hl 0 rfl) ?_
  refine lv_if_lt (tgt := 15) hx hb dX4_free_6 (by decide) (fun hc => ?_) (fun hc => ?_)
  · rw [if_pos hc] at h
    exact r_vret hx hb hr hlocks hK hw h dX4_free_15
  · rw [if_neg hc] at h
    refine lv_iload_n hx hb dX4_free_9 rfl (lv_at hl 0 rfl) ?_
    refine lv_bipush (v := 80) hx hb dX4_free_10 (by decide) ?_
    refine lv_icmp_lt (tgt := 16) hx hb dX4_free_12 (by decide) (fun hc => ?_) (fun hc => ?_)
    · rw [if_pos hc] at h
      refine lv_aload_n hx hb dX4_free_16 rfl (lv_at hl 1 rfl) ?_
      refine r_getC (t2 := 6) (d := 46) hx hb hts n_X4_free_X4 hown hK hw h_this (by decide) rfl 3 (by decide) rfl rfl (hts _ k_X4_free_2) (fun _ q => q) dX4_free_17 (fun hv2 => ?_)
      refine lv_aload_n hx hb dX4_free_20 rfl (lv_at hl 2 rfl) ?_
      refine r_bV (fun o ho => r_vV (As := [.ref (ad p0)]) (rest := []) ⟨hx, hb, hml, hown, hts⟩ (c_X6_takeBack l D cy L ad N p0 u o hv2 h_p0 ho) (cwV 1 hts gX4_free_X6_takeBack rfl rfl rfl (by decide +kernel) ⟨Nat.le_of_ble_eq_true rfl, Nat.le_of_ble_eq_true rfl⟩) hw hK hv2 (by decide) rfl rfl hl.1 rfl (Nat.le_of_ble_eq_true rfl) dX4_free_21 ⟨Nat.zero_le _, Nat.zero_le _⟩) hw hA h (fun u H locs hw h => ?_)
      refine lv_aload_n hx hb dX4_free_24 rfl (lv_at hl 1 rfl) ?_
      refine r_getC (t2 := 12) (d := 43) hx hb hts n_X4_free_X4 hown hK hw h_this (by decide) rfl 0 (by decide) rfl rfl (hts _ k_X4_free_3) (fun _ q => q) dX4_free_25 (fun hv3 => ?_)
      refine lv_iload_n hx hb dX4_free_28 rfl (lv_at hl 0 rfl) ?_
      refine lv_null hx hb dX4_free_29 ?_
      refine r_tast (n := 80) (v := none) hx hb hK hw hv3 rfl vr_none dX4_free_30 h (fun u H locs hw h => ?_)
      refine lv_aload_n hx hb dX4_free_31 rfl (lv_at hl 1 rfl) ?_
      refine lv_dup hx hb dX4_free_32 rfl ?_
      refine r_getI hx hb hts n_X4_free_X4 hown hK hw h_this (by decide) rfl 4 (by decide) rfl (hts _ k_X4_free_4) (fun _ q => q) dX4_free_33 h (fun x4 h => ?_)
      refine lv_iconst (v := 1) hx hb dX4_free_36 (by decide) ?_
      refine lv_isub hx hb dX4_free_37 ?_
      refine r_putI (ty := .int) hx hb hts n_X4_free_X4 tyX4 tyX4_ok nmX4 hown hK hw h_this (by decide) rfl 4 (by decide) rfl (hts _ k_X4_free_4) (fun _ q => q) rfl rfl rfl rfl dX4_free_38 h (fun u H locs hw h => ?_)
      refine lv_iconst (v := 0) hx hb dX4_free_41 (by decide) ?_
      refine lv_istore_n (lv' := [(3, .int 0), (2, .int x1), (0, .ref (ad 42)), (1, .ref (ad p0))]) hx hb dX4_free_42 rfl hl (by decide) rfl (fun ls hl => ?_)
      exact j_X4_free_43 N p0 h_p0 C0 hA N x1 0 u _ _ _ h_this h_p0 hw (lv_sub hl [2, 3, 1, 0] rfl) h
    · rw [if_neg hc] at h
      exact r_vret hx hb hr hlocks hK hw h dX4_free_15
theorem k_X4_freedNumber_1 : Cond.fieldLink RX4 70 "RingHeap$Store" "freedEver" "I" ∈ wsX4_freedNumber := List.mem_of_getElem? (i := 1) (by rfl)
theorem n_X4_freedNumber_X4 : ∀ w ∈ u_ws RX4 TX4 6, w ∈ wsX4_freedNumber := fun _ h => List.mem_cons_of_mem _ (List.mem_append_right _ h)
theorem k_X4_freedNumber_2 : Cond.fieldLink RX4 17 "RingHeap$Store" "freedNumbers" "[I" ∈ wsX4_freedNumber := List.mem_of_getElem? (i := 2) (by rfl)
def f_X4_freedNumber (N : Nat) (p0 : Int32) (u : Mm) : Option (Int32 × Mm) :=
  if p0 < 0 then (some ((-1), u)) else (pt (u.1 42 5) (fun x1 => if x1 ≤ p0 then (some ((-1), u)) else (pt (u.1 42 5) (fun x2 => if (x2 - 100) ≤ p0 then (ck (bI (p0 - p0 / 100 * 100) 100) (pt (u.1 44 (ix (p0 - p0 / 100 * 100))) (fun x4 => some (x4, u)))) else (some ((-1), u))))))
set_option maxHeartbeats 4000000 in
set_option maxRecDepth 100000 in
theorem c_X4_freedNumber (l : Launch) (D : va_G) (cy : Nat → ClassId) (L : List Nat) (ad : Nat → Nat) (N : Nat) (p0 : Int32) (u : Mm) (o : Int32 × Mm) (h_this : vn L 4 42) (h : f_X4_freedNumber N p0 u = some o) : MtI l yX4_freedNumber wsX4_freedNumber ({ frames := 0, cells := 0, slots := 0, locals := 0 } : Room) D cy L ad [.ref (ad 42), .int p0] u o := by
  intro sz
  refine Met.ofW (cc := cX4_freedNumber) (maxL := 2) (ret := (some .int)) (by decide) rfl ?_
  intro p e s m args below meth c s₁ B hml hv
  obtain ⟨rfl, hsz, hP, hK, hD0, hok⟩ := hv
  have hx := B.exec
  have hb := B.bytes
  have hr := B.returns
  have hts := atoms_spec (ws := wsX4_freedNumber) B.pre
  have hown : s.vm.findClass RX4 = some m.cls := findClass_of_methodNamed B.named
  have hlocks := B.notSynchronized
  subst hsz
  have hw := wd_start hP hD0 hok
  have hA : ∀ q : Nat, s.heap.size ≤ q → va_A (wl cy L ad u) s.heap.size q := fun q h => Or.inr h
  generalize va_A (wl cy L ad u) s.heap.size = A at hw hA ⊢
  have C0 : Cx p m meth c cX4_freedNumber (some .int) 2 s _ wsX4_freedNumber RX4 D cy := ⟨hx, hb, hr, hml, hown, hts, hlocks, hK⟩
  have hl := lv_entry ([.ref (ad 42), .int p0]) (n := 2) (Nat.le_of_ble_eq_true rfl)
  rw [lg_entry_eq]
  generalize (lg_sl ([.ref (ad 42), .int p0]) ++ List.replicate (2 - (lg_sl ([.ref (ad 42), .int p0])).length) Slot.unset).toArray = ls at hl ⊢
  have hl : lv_has ls 2 [(0, .ref (ad 42)), (1, .int p0)] := hl
  unfold f_X4_freedNumber at h
  refine lv_iload_n hx hb dX4_freedNumber_0 rfl (lv_at hl 1 rfl) ?_
  refine lv_if_lt (tgt := 23) hx hb dX4_freedNumber_1 (by decide) (fun hc => ?_) (fun hc => ?_)
  · rw [if_pos hc] at h
    refine lv_iconst (v := (-1)) hx hb dX4_freedNumber_23 (by decide) ?_
    exact r_iret hx hb hr hlocks hK hw h dX4_freedNumber_24
  · rw [if_neg hc] at h
    refine lv_iload_n hx hb dX4_freedNumber_4 rfl (lv_at hl 1 rfl) ?_
    refine lv_aload_n hx hb dX4_freedNumber_5 rfl (lv_at hl 0 rfl) ?_
    refine r_getI hx hb hts n_X4_freedNumber_X4 hown hK hw h_this (by decide) rfl 5 (by decide) rfl (hts _ k_X4_freedNumber_1) (fun _ q => q) dX4_freedNumber_6 h (fun x1 h => ?_)
    refine lv_icmp_ge (tgt := 23) hx hb dX4_freedNumber_9 (by decide) (fun hc => ?_) (fun hc => ?_)
    · rw [if_pos hc] at h
      refine lv_iconst (v := (-1)) hx hb dX4_freedNumber_23 (by decide) ?_
      exact r_iret hx hb hr hlocks hK hw h dX4_freedNumber_24
    · rw [if_neg hc] at h
      refine lv_iload_n hx hb dX4_freedNumber_12 rfl (lv_at hl 1 rfl) ?_
      refine lv_aload_n hx hb dX4_freedNumber_13 rfl (lv_at hl 0 rfl) ?_
      refine r_getI hx hb hts n_X4_freedNumber_X4 hown hK hw h_this (by decide) rfl 5 (by decide) rfl (hts _ k_X4_freedNumber_1) (fun _ q => q) dX4_freedNumber_14 h (fun x2 h => ?_)
      refine lv_bipush (v := 100) hx hb dX4_freedNumber_17 (by decide) ?_
      refine lv_isub hx hb dX4_freedNumber_19 ?_
      refine lv_icmp_ge (tgt := 25) hx hb dX4_freedNumber_20 (by decide) (fun hc => ?_) (fun hc => ?_)
      · rw [if_pos hc] at h
        refine lv_aload_n hx hb dX4_freedNumber_25 rfl (lv_at hl 0 rfl) ?_
        refine r_getC (t2 := 9) (d := 44) hx hb hts n_X4_freedNumber_X4 hown hK hw h_this (by decide) rfl 1 (by decide) rfl rfl (hts _ k_X4_freedNumber_2) (fun _ q => q) dX4_freedNumber_26 (fun hv3 => ?_)
        refine lv_iload_n hx hb dX4_freedNumber_29 rfl (lv_at hl 1 rfl) ?_
        refine lv_bipush (v := 100) hx hb dX4_freedNumber_30 (by decide) ?_
        refine lv_irem hx hb dX4_freedNumber_32 (by decide) ?_
        refine r_iald (n := 100) hx hb hK hw hv3 rfl dX4_freedNumber_33 h (fun x4 h => ?_)
        exact r_iret hx hb hr hlocks hK hw h dX4_freedNumber_34
      · rw [if_neg hc] at h
        refine lv_iconst (v := (-1)) hx hb dX4_freedNumber_23 (by decide) ?_
        exact r_iret hx hb hr hlocks hK hw h dX4_freedNumber_24

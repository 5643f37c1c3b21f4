theorem k_X8_place_1 : Cond.fieldLink RX8 51 "RingHeapModel" "owners" "[I" ∈ wsX8_place := List.mem_of_getElem? (i := 1) (by rfl)
theorem n_X8_place_X8 : ∀ w ∈ u_ws RX8 TX8 31, w ∈ wsX8_place := fun _ h => List.mem_cons_of_mem _ (List.mem_append_right _ h)
def f_X8_place_27 (N : Nat)  (K4 : Int32 → Int32 → Int32 → Mm → Option (Int32 × Mm)) (v1 : Int32) (v3 : Int32) (w0 : Int32) (u : Mm) : Option (Int32 × Mm) :=
  if w0 = v1 then (some ((v3 + 1) - v1, u)) else (K4 v1 w0 (v3 + 1) u)
set_option maxHeartbeats 4000000 in
set_option maxRecDepth 100000 in
theorem j_X8_place_27 {p : Program} {l : Launch} {e : Env} {s : State} {m : MethodId} {args : Array Value} {below : List Frame} {meth : Method} {c : Code} {D : va_G} {cy : Nat → ClassId} {L : List Nat} {ad : Nat → Nat} {A : Nat → Prop} {o : Int32 × Mm} (N : Nat)   (C0 : Cx p m meth c cX8_place (some .int) 4 s args wsX8_place RX8 D cy) (hA : ∀ q : Nat, s.heap.size ≤ q → A q) (K4 : Int32 → Int32 → Int32 → Mm → Option (Int32 × Mm)) (hK4 : ∀ (v1 : Int32) (v2 : Int32) (v3 : Int32) (u : Mm) (H : Heap) (locs : List Loc) (ls : Array Slot), vn L 8 0 → Wd D cy L ad A s.heap u H locs → lv_has ls 4 [(0, .ref (ad 0)), (1, .int v1), (2, .int v2), (3, .int v3)] → K4 v1 v2 v3 u = some o → W p l e ({ frames := 0, cells := 0, slots := 0, locals := 0 } : Room) s m args below meth c H locs 0 0 (MQ below (QcI D cy L ad A o) args s 0 0 A) (F0 m 4 ls [])) : ∀ (v1 : Int32) (v3 : Int32) (w0 : Int32) (u : Mm) (H : Heap) (locs : List Loc) (ls : Array Slot), vn L 8 0 → Wd D cy L ad A s.heap u H locs → lv_has ls 4 [(0, .ref (ad 0)), (1, .int v1), (3, .int v3)] → f_X8_place_27 N  K4 v1 v3 w0 u = some o → W p l e ({ frames := 0, cells := 0, slots := 0, locals := 0 } : Room) s m args below meth c H locs 0 0 (MQ below (QcI D cy L ad A o) args s 0 0 A) (F0 m 27 ls [.int w0]) := by
  obtain ⟨hx, hb, hr, hml, hown, hts, hlocks, hK⟩ := id C0
  intro v1 v3 w0 u H locs ls hv_t0 hw hl h
  unfold f_X8_place_27 at h
  refine lv_istore_n (lv' := [(2, .int w0), (0, .ref (ad 0)), (1, .int v1), (3, .int v3)]) hx hb dX8_place_27 rfl hl (by decide) rfl (fun ls hl => ?_)
  refine lv_iload_n hx hb dX8_place_28 rfl (lv_at hl 0 rfl) ?_
  refine lv_iload_n hx hb dX8_place_29 rfl (lv_at hl 2 rfl) ?_
  refine lv_icmp_ne (tgt := 39) hx hb dX8_place_30 (by decide) (fun hc => ?_) (fun hc => ?_)
  · rw [if_neg hc] at h
    refine lv_iinc (v := v3 + 1) (lv' := [(3, .int (v3 + 1)), (2, .int w0), (0, .ref (ad 0)), (1, .int v1)]) hx hb dX8_place_39 hl (k := 3) rfl rfl (by decide) rfl (fun ls hl => ?_)
    refine lv_goto (tgt := 4) hx hb dX8_place_42 (by decide) ?_
    exact hK4 v1 w0 (v3 + 1) u _ _ _ hv_t0 hw (lv_sub hl [2, 3, 1, 0] rfl) h
  · rw [if_pos hc] at h
    refine lv_iload_n hx hb dX8_place_33 rfl (lv_at hl 3 rfl) ?_
    refine lv_iconst (v := 1) hx hb dX8_place_34 (by decide) ?_
    refine lv_iadd hx hb dX8_place_35 ?_
    refine lv_iload_n hx hb dX8_place_36 rfl (lv_at hl 2 rfl) ?_
    refine lv_isub hx hb dX8_place_37 ?_
    exact r_iret hx hb hr hlocks hK hw h dX8_place_38
def g_X8_place_4 (N : Nat)  (K4 : Int32 → Int32 → Int32 → Mm → Option (Int32 × Mm)) (v1 : Int32) (v2 : Int32) (v3 : Int32) (u : Mm) : Option (Int32 × Mm) :=
  if 400 ≤ v3 then (some ((-1), u)) else (ck (bI v3 400) (pt (u.1 13 (ix v3)) (fun x2 => if 0 ≤ x2 then (f_X8_place_27 N K4 v1 v3 0 u) else (f_X8_place_27 N K4 v1 v3 (v2 + 1) u))))
def f_X8_place_4 (N : Nat)   : Nat → Int32 → Int32 → Int32 → Mm → Option (Int32 × Mm)
  | 0 => fun _ _ _ _ => none
  | n + 1 => g_X8_place_4 N   (f_X8_place_4 N   n)
set_option maxHeartbeats 4000000 in
set_option maxRecDepth 100000 in
theorem jg_X8_place_4 {p : Program} {l : Launch} {e : Env} {s : State} {m : MethodId} {args : Array Value} {below : List Frame} {meth : Method} {c : Code} {D : va_G} {cy : Nat → ClassId} {L : List Nat} {ad : Nat → Nat} {A : Nat → Prop} {o : Int32 × Mm} (N : Nat)   (C0 : Cx p m meth c cX8_place (some .int) 4 s args wsX8_place RX8 D cy) (hA : ∀ q : Nat, s.heap.size ≤ q → A q)  (K4 : Int32 → Int32 → Int32 → Mm → Option (Int32 × Mm)) (hK4 : ∀ (v1 : Int32) (v2 : Int32) (v3 : Int32) (u : Mm) (H : Heap) (locs : List Loc) (ls : Array Slot), vn L 8 0 → Wd D cy L ad A s.heap u H locs → lv_has ls 4 [(0, .ref (ad 0)), (1, .int v1), (2, .int v2), (3, .int v3)] → K4 v1 v2 v3 u = some o → W p l e ({ frames := 0, cells := 0, slots := 0, locals := 0 } : Room) s m args below meth c H locs 0 0 (MQ below (QcI D cy L ad A o) args s 0 0 A) (F0 m 4 ls [])) : ∀ (v1 : Int32) (v2 : Int32) (v3 : Int32) (u : Mm) (H : Heap) (locs : List Loc) (ls : Array Slot), vn L 8 0 → Wd D cy L ad A s.heap u H locs → lv_has ls 4 [(0, .ref (ad 0)), (1, .int v1), (2, .int v2), (3, .int v3)] → g_X8_place_4 N   K4 v1 v2 v3 u = some o → W p l e ({ frames := 0, cells := 0, slots := 0, locals := 0 } : Room) s m args below meth c H locs 0 0 (MQ below (QcI D cy L ad A o) args s 0 0 A) (F0 m 4 ls []) := by
  obtain ⟨hx, hb, hr, hml, hown, hts, hlocks, hK⟩ := id C0
  intro v1 v2 v3 u H locs ls hv_t0 hw hl h
  unfold g_X8_place_4 at h
  refine lv_iload_n hx hb dX8_place_4 rfl (lv_at hl 3 rfl) ?_
  refine lv_sipush (v := 400) hx hb dX8_place_5 (by decide) ?_
  refine lv_icmp_ge (tgt := 45) hx hb dX8_place_8 (by decide) (fun hc => ?_) (fun hc => ?_)
  · rw [if_pos hc] at h
    refine lv_iconst (v := (-1)) hx hb dX8_place_45 (by decide) ?_
    exact r_iret hx hb hr hlocks hK hw h dX8_place_46
  · rw [if_neg hc] at h
    refine lv_aload_n hx hb dX8_place_11 rfl (lv_at hl 0 rfl) ?_
    refine r_getC (t2 := 9) (d := 13) hx hb hts n_X8_place_X8 hown hK hw hv_t0 (by decide) rfl 13 (by decide) rfl rfl (hts _ k_X8_place_1) (fun _ q => q) dX8_place_12 (fun hv1 => ?_)
    refine lv_iload_n hx hb dX8_place_15 rfl (lv_at hl 3 rfl) ?_
    refine r_iald (n := 400) hx hb hK hw hv1 rfl dX8_place_16 h (fun x2 h => ?_)
    refine lv_if_ge (tgt := 26) hx hb dX8_place_17 (by decide) (fun hc => ?_) (fun hc => ?_)
    · rw [if_pos hc] at h
      refine lv_iconst (v := 0) hx hb dX8_place_26 (by decide) ?_
      exact j_X8_place_27 N C0 hA K4 hK4 v1 v3 0 u _ _ _ hv_t0 hw (lv_sub hl [0, 1, 3] rfl) h
    · rw [if_neg hc] at h
      refine lv_iload_n hx hb dX8_place_20 rfl (lv_at hl 2 rfl) ?_
      refine lv_iconst (v := 1) hx hb dX8_place_21 (by decide) ?_
      refine lv_iadd hx hb dX8_place_22 ?_
      refine lv_goto (tgt := 27) hx hb dX8_place_23 (by decide) ?_
      exact j_X8_place_27 N C0 hA K4 hK4 v1 v3 (v2 + 1) u _ _ _ hv_t0 hw (lv_sub hl [0, 1, 3] rfl) h
set_option maxHeartbeats 4000000 in
set_option maxRecDepth 100000 in
theorem j_X8_place_4 {p : Program} {l : Launch} {e : Env} {s : State} {m : MethodId} {args : Array Value} {below : List Frame} {meth : Method} {c : Code} {D : va_G} {cy : Nat → ClassId} {L : List Nat} {ad : Nat → Nat} {A : Nat → Prop} {o : Int32 × Mm} (N : Nat)   (C0 : Cx p m meth c cX8_place (some .int) 4 s args wsX8_place RX8 D cy) (hA : ∀ q : Nat, s.heap.size ≤ q → A q)  : ∀ (n : Nat), ∀ (v1 : Int32) (v2 : Int32) (v3 : Int32) (u : Mm) (H : Heap) (locs : List Loc) (ls : Array Slot), vn L 8 0 → Wd D cy L ad A s.heap u H locs → lv_has ls 4 [(0, .ref (ad 0)), (1, .int v1), (2, .int v2), (3, .int v3)] → f_X8_place_4 N   n v1 v2 v3 u = some o → W p l e ({ frames := 0, cells := 0, slots := 0, locals := 0 } : Room) s m args below meth c H locs 0 0 (MQ below (QcI D cy L ad A o) args s 0 0 A) (F0 m 4 ls []) := by
  intro n
  induction n with
  | zero =>
    intro v1 v2 v3 u H locs ls hv_t0 hw hl h
    cases h
  | succ n ih => exact jg_X8_place_4 N   C0 hA  _ ih
def f_X8_place (N : Nat) (p0 : Int32) (u : Mm) : Option (Int32 × Mm) :=
  f_X8_place_4 N N p0 0 0 u
set_option maxHeartbeats 4000000 in
set_option maxRecDepth 100000 in
theorem c_X8_place (l : Launch) (D : va_G) (cy : Nat → ClassId) (L : List Nat) (ad : Nat → Nat) (N : Nat) (p0 : Int32) (u : Mm) (o : Int32 × Mm) (h_this : vn L 8 0) (h : f_X8_place N p0 u = some o) : MtI l yX8_place wsX8_place ({ frames := 0, cells := 0, slots := 0, locals := 0 } : Room) D cy L ad [.ref (ad 0), .int p0] u o := by
  intro sz
  refine Met.ofW (cc := cX8_place) (maxL := 4) (ret := (some .int)) (by decide) rfl ?_
  intro p e s m args below meth c s₁ B hml hv
  obtain ⟨rfl, hsz, hP, hK, hD0, hok⟩ := hv
  have hx := B.exec
  have hb := B.bytes
  have hr := B.returns
  have hts := atoms_spec (ws := wsX8_place) B.pre
  have hown : s.vm.findClass RX8 = some m.cls := findClass_of_methodNamed B.named
  have hlocks := B.notSynchronized
  subst hsz
  have hw := wd_start hP hD0 hok
  have hA : ∀ q : Nat, s.heap.size ≤ q → va_A (wl cy L ad u) s.heap.size q := fun q h => Or.inr h
  generalize va_A (wl cy L ad u) s.heap.size = A at hw hA ⊢
  have C0 : Cx p m meth c cX8_place (some .int) 4 s _ wsX8_place RX8 D cy := ⟨hx, hb, hr, hml, hown, hts, hlocks, hK⟩
  have hl := lv_entry ([.ref (ad 0), .int p0]) (n := 4) (Nat.le_of_ble_eq_true rfl)
  rw [lg_entry_eq]
  generalize (lg_sl ([.ref (ad 0), .int p0]) ++ List.replicate (4 - (lg_sl ([.ref (ad 0), .int p0])).length) Slot.unset).toArray = ls at hl ⊢
  have hl : lv_has ls 4 [(0, .ref (ad 0)), (1, .int p0)] := hl
  unfold f_X8_place at h
  refine lv_iconst (v := 0) hx hb dX8_place_0 (by decide) ?_
  refine lv_istore_n (lv' := [(2, .int 0), (0, .ref (ad 0)), (1, .int p0)]) hx hb dX8_place_1 rfl hl (by decide) rfl (fun ls hl => ?_)
  refine lv_iconst (v := 0) hx hb dX8_place_2 (by decide) ?_
  refine lv_istore_n (lv' := [(3, .int 0), (2, .int 0), (0, .ref (ad 0)), (1, .int p0)]) hx hb dX8_place_3 rfl hl (by decide) rfl (fun ls hl => ?_)
  exact j_X8_place_4 N C0 hA N p0 0 0 u _ _ _ h_this hw (lv_sub hl [2, 3, 1, 0] rfl) h
theorem k_X8_number_1 : Cond.fieldLink RX8 24 "RingHeapModel" "types" "[I" ∈ wsX8_number := List.mem_of_getElem? (i := 1) (by rfl)
theorem n_X8_number_X8 : ∀ w ∈ u_ws RX8 TX8 31, w ∈ wsX8_number := fun _ h => List.mem_cons_of_mem _ (List.mem_append_right _ h)
def f_X8_number_23 (N : Nat)   (v1 : Int32) (u : Mm) : Option (Int32 × Mm) :=
  if 80 ≤ v1 then (some ((-1), u)) else (some (v1, u))
set_option maxHeartbeats 4000000 in
set_option maxRecDepth 100000 in
theorem j_X8_number_23 {p : Program} {l : Launch} {e : Env} {s : State} {m : MethodId} {args : Array Value} {below : List Frame} {meth : Method} {c : Code} {D : va_G} {cy : Nat → ClassId} {L : List Nat} {ad : Nat → Nat} {A : Nat → Prop} {o : Int32 × Mm} (N : Nat)   (C0 : Cx p m meth c cX8_number (some .int) 2 s args wsX8_number RX8 D cy) (hA : ∀ q : Nat, s.heap.size ≤ q → A q)  : ∀ (v1 : Int32) (u : Mm) (H : Heap) (locs : List Loc) (ls : Array Slot), Wd D cy L ad A s.heap u H locs → lv_has ls 2 [(1, .int v1)] → f_X8_number_23 N   v1 u = some o → W p l e ({ frames := 0, cells := 0, slots := 0, locals := 0 } : Room) s m args below meth c H locs 0 0 (MQ below (QcI D cy L ad A o) args s 0 0 A) (F0 m 23 ls []) := by
  obtain ⟨hx, hb, hr, hml, hown, hts, hlocks, hK⟩ := id C0
  intro v1 u H locs ls  hw hl h
  unfold f_X8_number_23 at h
  refine lv_iload_n hx hb dX8_number_23 rfl (lv_at hl 0 rfl) ?_
  refine lv_bipush (v := 80) hx hb dX8_number_24 (by decide) ?_
  refine lv_icmp_ge (tgt := 33) hx hb dX8_number_26 (by decide) (fun hc => ?_) (fun hc => ?_)
  · rw [if_pos hc] at h
    refine lv_iconst (v := (-1)) hx hb dX8_number_33 (by decide) ?_
    exact r_iret hx hb hr hlocks hK hw h dX8_number_34
  · rw [if_neg hc] at h
    refine lv_iload_n hx hb dX8_number_29 rfl (lv_at hl 0 rfl) ?_
    refine lv_goto (tgt := 34) hx hb dX8_number_30 (by decide) ?_
    exact r_iret hx hb hr hlocks hK hw h dX8_number_34
def g_X8_number_2 (N : Nat)  (K2 : Int32 → Mm → Option (Int32 × Mm)) (v1 : Int32) (u : Mm) : Option (Int32 × Mm) :=
  if 80 ≤ v1 then (f_X8_number_23 N v1 u) else (ck (bI v1 80) (pt (u.1 4 (ix v1)) (fun x2 => if x2 < 0 then (f_X8_number_23 N v1 u) else (K2 (v1 + 1) u))))
def f_X8_number_2 (N : Nat)   : Nat → Int32 → Mm → Option (Int32 × Mm)
  | 0 => fun _ _ => none
  | n + 1 => g_X8_number_2 N   (f_X8_number_2 N   n)
set_option maxHeartbeats 4000000 in
set_option maxRecDepth 100000 in
theorem jg_X8_number_2 {p : Program} {l : Launch} {e : Env} {s : State} {m : MethodId} {args : Array Value} {below : List Frame} {meth : Method} {c : Code} {D : va_G} {cy : Nat → ClassId} {L : List Nat} {ad : Nat → Nat} {A : Nat → Prop} {o : Int32 × Mm} (N : Nat)   (C0 : Cx p m meth c cX8_number (some .int) 2 s args wsX8_number RX8 D cy) (hA : ∀ q : Nat, s.heap.size ≤ q → A q)  (K2 : Int32 → Mm → Option (Int32 × Mm)) (hK2 : ∀ (v1 : Int32) (u : Mm) (H : Heap) (locs : List Loc) (ls : Array Slot), vn L 8 0 → Wd D cy L ad A s.heap u H locs → lv_has ls 2 [(0, .ref (ad 0)), (1, .int v1)] → K2 v1 u = some o → W p l e ({ frames := 0, cells := 0, slots := 0, locals := 0 } : Room) s m args below meth c H locs 0 0 (MQ below (QcI D cy L ad A o) args s 0 0 A) (F0 m 2 ls [])) : ∀ (v1 : Int32) (u : Mm) (H : Heap) (locs : List Loc) (ls : Array Slot), vn L 8 0 → Wd D cy L ad A s.heap u H locs → lv_has ls 2 [(0, .ref (ad 0)), (1, .int v1)] → g_X8_number_2 N   K2 v1 u = some o → W p l e ({ frames := 0, cells := 0, slots := 0, locals := 0 } : Room) s m args below meth c H locs 0 0 (MQ below (QcI D cy L ad A o) args s 0 0 A) (F0 m 2 ls []) := by
  obtain ⟨hx, hb, hr, hml, hown, hts, hlocks, hK⟩ := id C0
  intro v1 u H locs ls hv_t0 hw hl h
  unfold g_X8_number_2 at h
  refine lv_iload_n hx hb dX8_number_2 rfl (lv_at hl 1 rfl) ?_
  refine lv_bipush (v := 80) hx hb dX8_number_3 (by decide) ?_
  refine lv_icmp_ge (tgt := 23) hx hb dX8_number_5 (by decide) (fun hc => ?_) (fun hc => ?_)
  · rw [if_pos hc] at h
    exact j_X8_number_23 N C0 hA v1 u _ _ _ hw (lv_sub hl [1] rfl) h
  · rw [if_neg hc] at h
    refine lv_aload_n hx hb dX8_number_8 rfl (lv_at hl 0 rfl) ?_
    refine r_getC (t2 := 9) (d := 4) hx hb hts n_X8_number_X8 hown hK hw hv_t0 (by decide) rfl 4 (by decide) rfl rfl (hts _ k_X8_number_1) (fun _ q => q) dX8_number_9 (fun hv1 => ?_)
    refine lv_iload_n hx hb dX8_number_12 rfl (lv_at hl 1 rfl) ?_
    refine r_iald (n := 80) hx hb hK hw hv1 rfl dX8_number_13 h (fun x2 h => ?_)
    refine lv_if_lt (tgt := 23) hx hb dX8_number_14 (by decide) (fun hc => ?_) (fun hc => ?_)
    · rw [if_pos hc] at h
      exact j_X8_number_23 N C0 hA v1 u _ _ _ hw (lv_sub hl [1] rfl) h
    · rw [if_neg hc] at h
      refine lv_iinc (v := v1 + 1) (lv' := [(1, .int (v1 + 1)), (0, .ref (ad 0))]) hx hb dX8_number_17 hl (k := 1) rfl rfl (by decide) rfl (fun ls hl => ?_)
      refine lv_goto (tgt := 2) hx hb dX8_number_20 (by decide) ?_
      exact hK2 (v1 + 1) u _ _ _ hv_t0 hw (lv_sub hl [1, 0] rfl) h
set_option maxHeartbeats 4000000 in
set_option maxRecDepth 100000 in
theorem j_X8_number_2 {p : Program} {l : Launch} {e : Env} {s : State} {m : MethodId} {args : Array Value} {below : List Frame} {meth : Method} {c : Code} {D : va_G} {cy : Nat → ClassId} {L : List Nat} {ad : Nat → Nat} {A : Nat → Prop} {o : Int32 × Mm} (N : Nat)   (C0 : Cx p m meth c cX8_number (some .int) 2 s args wsX8_number RX8 D cy) (hA : ∀ q : Nat, s.heap.size ≤ q → A q)  : ∀ (n : Nat), ∀ (v1 : Int32) (u : Mm) (H : Heap) (locs : List Loc) (ls : Array Slot), vn L 8 0 → Wd D cy L ad A s.heap u H locs → lv_has ls 2 [(0, .ref (ad 0)), (1, .int v1)] → f_X8_number_2 N   n v1 u = some o → W p l e ({ frames := 0, cells := 0, slots := 0, locals := 0 } : Room) s m args below meth c H locs 0 0 (MQ below (QcI D cy L ad A o) args s 0 0 A) (F0 m 2 ls []) := by
  intro n
  induction n with
  | zero =>
    intro v1 u H locs ls hv_t0 hw hl h
    cases h
  | succ n ih => exact jg_X8_number_2 N   C0 hA  _ ih
def f_X8_number (N : Nat)  (u : Mm) : Option (Int32 × Mm) :=
  f_X8_number_2 N N 0 u
set_option maxHeartbeats 4000000 in
set_option maxRecDepth 100000 in
theorem c_X8_number (l : Launch) (D : va_G) (cy : Nat → ClassId) (L : List Nat) (ad : Nat → Nat) (N : Nat)  (u : Mm) (o : Int32 × Mm) (h_this : vn L 8 0) (h : f_X8_number N  u = some o) : MtI l yX8_number wsX8_number ({ frames := 0, cells := 0, slots := 0, locals := 0 } : Room) D cy L ad [.ref (ad 0)] u o := by
  intro sz
  refine Met.ofW (cc := cX8_number) (maxL := 2) (ret := (some .int)) (by decide) rfl ?_
  intro p e s m args below meth c s₁ B hml hv
  obtain ⟨rfl, hsz, hP, hK, hD0, hok⟩ := hv
  have hx := B.exec
  have hb := B.bytes
  have hr := B.returns
  have hts := atoms_spec (ws := wsX8_number) B.pre
  have hown : s.vm.findClass RX8 = some m.cls := findClass_of_methodNamed B.named
  have hlocks := B.notSynchronized
  subst hsz
  have hw := wd_start hP hD0 hok
  have hA : ∀ q : Nat, s.heap.size ≤ q → va_A (wl cy L ad u) s.heap.size q := fun q h => Or.inr h
  generalize va_A (wl cy L ad u) s.heap.size = A at hw hA ⊢
  have C0 : Cx p m meth c cX8_number (some .int) 2 s _ wsX8_number RX8 D cy := ⟨hx, hb, hr, hml, hown, hts, hlocks, hK⟩
  have hl := lv_entry ([.ref (ad 0)]) (n := 2) (Nat.le_of_ble_eq_true rfl)
  rw [lg_entry_eq]
  generalize (lg_sl ([.ref (ad 0)]) ++ List.replicate (2 - (lg_sl ([.ref (ad 0)])).length) Slot.unset).toArray = ls at hl ⊢
  have hl : lv_has ls 2 [(0, .ref (ad 0))] := hl
  unfold f_X8_number at h
  refine lv_iconst (v := 0) hx hb dX8_number_0 (by decide) ?_
  refine lv_istore_n (lv' := [(1, .int 0), (0, .ref (ad 0))]) hx hb dX8_number_1 rfl hl (by decide) rfl (fun ls hl => ?_)
  exact j_X8_number_2 N C0 hA N 0 u _ _ _ h_this hw (lv_sub hl [1, 0] rfl) h
theorem k_X8_freeWords_1 : Cond.fieldLink RX8 51 "RingHeapModel" "owners" "[I" ∈ wsX8_freeWords := List.mem_of_getElem? (i := 1) (by rfl)
theorem n_X8_freeWords_X8 : ∀ w ∈ u_ws RX8 TX8 31, w ∈ wsX8_freeWords := fun _ h => List.mem_cons_of_mem _ (List.mem_append_right _ h)
def f_X8_freeWords_26 (N : Nat)  (K4 : Int32 → Int32 → Mm → Option (Int32 × Mm)) (v2 : Int32) (w0 : Int32) (w1 : Int32) (u : Mm) : Option (Int32 × Mm) :=
  K4 (w1 + w0) (v2 + 1) u
set_option maxHeartbeats 4000000 in
set_option maxRecDepth 100000 in
theorem j_X8_freeWords_26 {p : Program} {l : Launch} {e : Env} {s : State} {m : MethodId} {args : Array Value} {below : List Frame} {meth : Method} {c : Code} {D : va_G} {cy : Nat → ClassId} {L : List Nat} {ad : Nat → Nat} {A : Nat → Prop} {o : Int32 × Mm} (N : Nat)   (C0 : Cx p m meth c cX8_freeWords (some .int) 3 s args wsX8_freeWords RX8 D cy) (hA : ∀ q : Nat, s.heap.size ≤ q → A q) (K4 : Int32 → Int32 → Mm → Option (Int32 × Mm)) (hK4 : ∀ (v1 : Int32) (v2 : Int32) (u : Mm) (H : Heap) (locs : List Loc) (ls : Array Slot), vn L 8 0 → Wd D cy L ad A s.heap u H locs → lv_has ls 3 [(0, .ref (ad 0)), (1, .int v1), (2, .int v2)] → K4 v1 v2 u = some o → W p l e ({ frames := 0, cells := 0, slots := 0, locals := 0 } : Room) s m args below meth c H locs 0 0 (MQ below (QcI D cy L ad A o) args s 0 0 A) (F0 m 4 ls [])) : ∀ (v2 : Int32) (w0 : Int32) (w1 : Int32) (u : Mm) (H : Heap) (locs : List Loc) (ls : Array Slot), vn L 8 0 → Wd D cy L ad A s.heap u H locs → lv_has ls 3 [(0, .ref (ad 0)), (2, .int v2)] → f_X8_freeWords_26 N  K4 v2 w0 w1 u = some o → W p l e ({ frames := 0, cells := 0, slots := 0, locals := 0 } : Room) s m args below meth c H locs 0 0 (MQ below (QcI D cy L ad A o) args s 0 0 A) (F0 m 26 ls [.int w0, .int w1]) := by
  obtain ⟨hx, hb, hr, hml, hown, hts, hlocks, hK⟩ := id C0
  intro v2 w0 w1 u H locs ls hv_t0 hw hl h
  unfold f_X8_freeWords_26 at h
  refine lv_iadd hx hb dX8_freeWords_26 ?_
  refine lv_istore_n (lv' := [(1, .int (w1 + w0)), (0, .ref (ad 0)), (2, .int v2)]) hx hb dX8_freeWords_27 rfl hl (by decide) rfl (fun ls hl => ?_)
  refine lv_iinc (v := v2 + 1) (lv' := [(2, .int (v2 + 1)), (1, .int (w1 + w0)), (0, .ref (ad 0))]) hx hb dX8_freeWords_28 hl (k := 2) rfl rfl (by decide) rfl (fun ls hl => ?_)
  refine lv_goto (tgt := 4) hx hb dX8_freeWords_31 (by decide) ?_
  exact hK4 (w1 + w0) (v2 + 1) u _ _ _ hv_t0 hw (lv_sub hl [2, 1, 0] rfl) h
def g_X8_freeWords_4 (N : Nat)  (K4 : Int32 → Int32 → Mm → Option (Int32 × Mm)) (v1 : Int32) (v2 : Int32) (u : Mm) : Option (Int32 × Mm) :=
  if 400 ≤ v2 then (some (v1, u)) else (ck (bI v2 400) (pt (u.1 13 (ix v2)) (fun x2 => if 0 ≤ x2 then (f_X8_freeWords_26 N K4 v2 0 v1 u) else (f_X8_freeWords_26 N K4 v2 1 v1 u))))
def f_X8_freeWords_4 (N : Nat)   : Nat → Int32 → Int32 → Mm → Option (Int32 × Mm)
  | 0 => fun _ _ _ => none
  | n + 1 => g_X8_freeWords_4 N   (f_X8_freeWords_4 N   n)
set_option maxHeartbeats 4000000 in
set_option maxRecDepth 100000 in
theorem jg_X8_freeWords_4 {p : Program} {l : Launch} {e : Env} {s : State} {m : MethodId} {args : Array Value} {below : List Frame} {meth : Method} {c : Code} {D : va_G} {cy : Nat → ClassId} {L : List Nat} {ad : Nat → Nat} {A : Nat → Prop} {o : Int32 × Mm} (N : Nat)   (C0 : Cx p m meth c cX8_freeWords (some .int) 3 s args wsX8_freeWords RX8 D cy) (hA : ∀ q : Nat, s.heap.size ≤ q → A q)  (K4 : Int32 → Int32 → Mm → Option (Int32 × Mm)) (hK4 : ∀ (v1 : Int32) (v2 : Int32) (u : Mm) (H : Heap) (locs : List Loc) (ls : Array Slot), vn L 8 0 → Wd D cy L ad A s.heap u H locs → lv_has ls 3 [(0, .ref (ad 0)), (1, .int v1), (2, .int v2)] → K4 v1 v2 u = some o → W p l e ({ frames := 0, cells := 0, slots := 0, locals := 0 } : Room) s m args below meth c H locs 0 0 (MQ below (QcI D cy L ad A o) args s 0 0 A) (F0 m 4 ls [])) : ∀ (v1 : Int32) (v2 : Int32) (u : Mm) (H : Heap) (locs : List Loc) (ls : Array Slot), vn L 8 0 → Wd D cy L ad A s.heap u H locs → lv_has ls 3 [(0, .ref (ad 0)), (1, .int v1), (2, .int v2)] → g_X8_freeWords_4 N   K4 v1 v2 u = some o → W p l e ({ frames := 0, cells := 0, slots := 0, locals := 0 } : Room) s m args below meth c H locs 0 0 (MQ below (QcI D cy L ad A o) args s 0 0 A) (F0 m 4 ls []) := by
  obtain ⟨hx, hb, hr, hml, hown, hts, hlocks, hK⟩ := id C0
  intro v1 v2 u H locs ls hv_t0 hw hl h
  unfold g_X8_freeWords_4 at h
  refine lv_iload_n hx hb dX8_freeWords_4 rfl (lv_at hl 2 rfl) ?_
  refine lv_sipush (v := 400) hx hb dX8_freeWords_5 (by decide) ?_
  refine lv_icmp_ge (tgt := 34) hx hb dX8_freeWords_8 (by decide) (fun hc => ?_) (fun hc => ?_)
  · rw [if_pos hc] at h
    refine lv_iload_n hx hb dX8_freeWords_34 rfl (lv_at hl 1 rfl) ?_
    exact r_iret hx hb hr hlocks hK hw h dX8_freeWords_35
  · rw [if_neg hc] at h
    refine lv_iload_n hx hb dX8_freeWords_11 rfl (lv_at hl 1 rfl) ?_
    refine lv_aload_n hx hb dX8_freeWords_12 rfl (lv_at hl 0 rfl) ?_
    refine r_getC (t2 := 9) (d := 13) hx hb hts n_X8_freeWords_X8 hown hK hw hv_t0 (by decide) rfl 13 (by decide) rfl rfl (hts _ k_X8_freeWords_1) (fun _ q => q) dX8_freeWords_13 (fun hv1 => ?_)
    refine lv_iload_n hx hb dX8_freeWords_16 rfl (lv_at hl 2 rfl) ?_
    refine r_iald (n := 400) hx hb hK hw hv1 rfl dX8_freeWords_17 h (fun x2 h => ?_)
    refine lv_if_ge (tgt := 25) hx hb dX8_freeWords_18 (by decide) (fun hc => ?_) (fun hc => ?_)
    · rw [if_pos hc] at h
      refine lv_iconst (v := 0) hx hb dX8_freeWords_25 (by decide) ?_
      exact j_X8_freeWords_26 N C0 hA K4 hK4 v2 0 v1 u _ _ _ hv_t0 hw (lv_sub hl [0, 2] rfl) h
    · rw [if_neg hc] at h
      refine lv_iconst (v := 1) hx hb dX8_freeWords_21 (by decide) ?_
      refine lv_goto (tgt := 26) hx hb dX8_freeWords_22 (by decide) ?_
      exact j_X8_freeWords_26 N C0 hA K4 hK4 v2 1 v1 u _ _ _ hv_t0 hw (lv_sub hl [0, 2] rfl) h
set_option maxHeartbeats 4000000 in
set_option maxRecDepth 100000 in
theorem j_X8_freeWords_4 {p : Program} {l : Launch} {e : Env} {s : State} {m : MethodId} {args : Array Value} {below : List Frame} {meth : Method} {c : Code} {D : va_G} {cy : Nat → ClassId} {L : List Nat} {ad : Nat → Nat} {A : Nat → Prop} {o : Int32 × Mm} (N : Nat)   (C0 : Cx p m meth c cX8_freeWords (some .int) 3 s args wsX8_freeWords RX8 D cy) (hA : ∀ q : Nat, s.heap.size ≤ q → A q)  : ∀ (n : Nat), ∀ (v1 : Int32) (v2 : Int32) (u : Mm) (H : Heap) (locs : List Loc) (ls : Array Slot), vn L 8 0 → Wd D cy L ad A s.heap u H locs → lv_has ls 3 [(0, .ref (ad 0)), (1, .int v1), (2, .int v2)] → f_X8_freeWords_4 N   n v1 v2 u = some o → W p l e ({ frames := 0, cells := 0, slots := 0, locals := 0 } : Room) s m args below meth c H locs 0 0 (MQ below (QcI D cy L ad A o) args s 0 0 A) (F0 m 4 ls []) := by
  intro n
  induction n with
  | zero =>
    intro v1 v2 u H locs ls hv_t0 hw hl h
    cases h
  | succ n ih => exact jg_X8_freeWords_4 N   C0 hA  _ ih
def f_X8_freeWords (N : Nat)  (u : Mm) : Option (Int32 × Mm) :=
  f_X8_freeWords_4 N N 0 0 u
set_option maxHeartbeats 4000000 in
set_option maxRecDepth 100000 in
theorem c_X8_freeWords (l : Launch) (D : va_G) (cy : Nat → ClassId) (L : List Nat) (ad : Nat → Nat) (N : Nat)  (u : Mm) (o : Int32 × Mm) (h_this : vn L 8 0) (h : f_X8_freeWords N  u = some o) : MtI l yX8_freeWords wsX8_freeWords ({ frames := 0, cells := 0, slots := 0, locals := 0 } : Room) D cy L ad [.ref (ad 0)] u o := by
  intro sz
  refine Met.ofW (cc := cX8_freeWords) (maxL := 3) (ret := (some .int)) (by decide) rfl ?_
  intro p e s m args below meth c s₁ B hml hv
  obtain ⟨rfl, hsz, hP, hK, hD0, hok⟩ := hv
  have hx := B.exec
  have hb := B.bytes
  have hr := B.returns
  have hts := atoms_spec (ws := wsX8_freeWords) B.pre
  have hown : s.vm.findClass RX8 = some m.cls := findClass_of_methodNamed B.named
  have hlocks := B.notSynchronized
  subst hsz
  have hw := wd_start hP hD0 hok
  have hA : ∀ q : Nat, s.heap.size ≤ q → va_A (wl cy L ad u) s.heap.size q := fun q h => Or.inr h
  generalize va_A (wl cy L ad u) s.heap.size = A at hw hA ⊢
  have C0 : Cx p m meth c cX8_freeWords (some .int) 3 s _ wsX8_freeWords RX8 D cy := ⟨hx, hb, hr, hml, hown, hts, hlocks, hK⟩
  have hl := lv_entry ([.ref (ad 0)]) (n := 3) (Nat.le_of_ble_eq_true rfl)
  rw [lg_entry_eq]
  generalize (lg_sl ([.ref (ad 0)]) ++ List.replicate (3 - (lg_sl ([.ref (ad 0)])).length) Slot.unset).toArray = ls at hl ⊢
  have hl : lv_has ls 3 [(0, .ref (ad 0))] := hl
  unfold f_X8_freeWords at h
  refine lv_iconst (v := 0) hx hb dX8_freeWords_0 (by decide) ?_
  refine lv_istore_n (lv' := [(1, .int 0), (0, .ref (ad 0))]) hx hb dX8_freeWords_1 rfl hl (by decide) rfl (fun ls hl => ?_)
  refine lv_iconst (v := 0) hx hb dX8_freeWords_2 (by decide) ?_
  refine lv_istore_n (lv' := [(2, .int 0), (1, .int 0), (0, .ref (ad 0))]) hx hb dX8_freeWords_3 rfl hl (by decide) rfl (fun ls hl => ?_)
  exact j_X8_freeWords_4 N C0 hA N 0 0 u _ _ _ h_this hw (lv_sub hl [2, 1, 0] rfl) h
theorem k_X8_pack_1 : Cond.fieldLink RX8 1 "RingHeapModel" "thrown" "I" ∈ wsX8_pack := List.mem_of_getElem? (i := 1) (by rfl)
theorem n_X8_pack_X8 : ∀ w ∈ u_ws RX8 TX8 31, w ∈ wsX8_pack := fun _ h => List.mem_cons_of_mem _ (List.mem_append_right _ h)
theorem k_X8_pack_2 : Cond.fieldLink RX8 154 "RingHeapModel" "moves" "I" ∈ wsX8_pack := List.mem_of_getElem? (i := 2) (by rfl)
theorem k_X8_pack_4 : Cond.fieldLink RX8 130 "RingHeapModel" "byAddressCount" "I" ∈ wsX8_pack := List.mem_of_getElem? (i := 4) (by rfl)
theorem k_X8_pack_5 : Cond.fieldLink RX8 72 "RingHeapModel" "byAddress" "[I" ∈ wsX8_pack := List.mem_of_getElem? (i := 5) (by rfl)
theorem k_X8_pack_6 : Cond.fieldLink RX8 33 "RingHeapModel" "addresses" "[I" ∈ wsX8_pack := List.mem_of_getElem? (i := 6) (by rfl)
theorem k_X8_pack_7 : Cond.fieldLink RX8 17 "RingHeapModel" "typeWords" "[I" ∈ wsX8_pack := List.mem_of_getElem? (i := 7) (by rfl)
theorem k_X8_pack_8 : Cond.fieldLink RX8 24 "RingHeapModel" "types" "[I" ∈ wsX8_pack := List.mem_of_getElem? (i := 8) (by rfl)
theorem k_X8_pack_3 : Cond.fieldLink RX8 51 "RingHeapModel" "owners" "[I" ∈ wsX8_pack := List.mem_of_getElem? (i := 3) (by rfl)
def g_X8_pack_93 (N : Nat)  (K47 : Int32 → Int32 → Int32 → Mm → Option (Int32 × Mm)) (K93 : Int32 → Int32 → Int32 → Int32 → Int32 → Mm → Option (Int32 × Mm)) (v1 : Int32) (v2 : Int32) (v3 : Int32) (v4 : Int32) (v5 : Int32) (u : Mm) : Option (Int32 × Mm) :=
  ck (bI v4 80) (pt (u.1 4 (ix v4)) (fun x10 => ck (bI x10 10) (pt (u.1 2 (ix x10)) (fun x11 => if x11 ≤ v5 then (K47 v1 v2 (v3 + 1) u) else (ck (bI v1 400) (pt (sI u 13 (ix v1) v4) (fun u => K93 (v1 + 1) v2 v3 v4 (v5 + 1) u)))))))
def f_X8_pack_93 (N : Nat)  (K47 : Int32 → Int32 → Int32 → Mm → Option (Int32 × Mm)) : Nat → Int32 → Int32 → Int32 → Int32 → Int32 → Mm → Option (Int32 × Mm)
  | 0 => fun _ _ _ _ _ _ => none
  | n + 1 => g_X8_pack_93 N  K47 (f_X8_pack_93 N  K47 n)
set_option maxHeartbeats 4000000 in
set_option maxRecDepth 100000 in
theorem jg_X8_pack_93 {p : Program} {l : Launch} {e : Env} {s : State} {m : MethodId} {args : Array Value} {below : List Frame} {meth : Method} {c : Code} {D : va_G} {cy : Nat → ClassId} {L : List Nat} {ad : Nat → Nat} {A : Nat → Prop} {o : Int32 × Mm} (N : Nat)   (C0 : Cx p m meth c cX8_pack (some .int) 6 s args wsX8_pack RX8 D cy) (hA : ∀ q : Nat, s.heap.size ≤ q → A q) (K47 : Int32 → Int32 → Int32 → Mm → Option (Int32 × Mm)) (hK47 : ∀ (v1 : Int32) (v2 : Int32) (v3 : Int32) (u : Mm) (H : Heap) (locs : List Loc) (ls : Array Slot), vn L 8 0 → Wd D cy L ad A s.heap u H locs → lv_has ls 6 [(0, .ref (ad 0)), (1, .int v1), (2, .int v2), (3, .int v3)] → K47 v1 v2 v3 u = some o → W p l e ({ frames := 1, cells := 0, slots := 0, locals := 22 } : Room) s m args below meth c H locs 0 0 (MQ below (QcI D cy L ad A o) args s 0 0 A) (F0 m 47 ls [])) (K93 : Int32 → Int32 → Int32 → Int32 → Int32 → Mm → Option (Int32 × Mm)) (hK93 : ∀ (v1 : Int32) (v2 : Int32) (v3 : Int32) (v4 : Int32) (v5 : Int32) (u : Mm) (H : Heap) (locs : List Loc) (ls : Array Slot), vn L 8 0 → Wd D cy L ad A s.heap u H locs → lv_has ls 6 [(0, .ref (ad 0)), (1, .int v1), (2, .int v2), (3, .int v3), (4, .int v4), (5, .int v5)] → K93 v1 v2 v3 v4 v5 u = some o → W p l e ({ frames := 1, cells := 0, slots := 0, locals := 22 } : Room) s m args below meth c H locs 0 0 (MQ below (QcI D cy L ad A o) args s 0 0 A) (F0 m 93 ls [])) : ∀ (v1 : Int32) (v2 : Int32) (v3 : Int32) (v4 : Int32) (v5 : Int32) (u : Mm) (H : Heap) (locs : List Loc) (ls : Array Slot), vn L 8 0 → Wd D cy L ad A s.heap u H locs → lv_has ls 6 [(0, .ref (ad 0)), (1, .int v1), (2, .int v2), (3, .int v3), (4, .int v4), (5, .int v5)] → g_X8_pack_93 N  K47 K93 v1 v2 v3 v4 v5 u = some o → W p l e ({ frames := 1, cells := 0, slots := 0, locals := 22 } : Room) s m args below meth c H locs 0 0 (MQ below (QcI D cy L ad A o) args s 0 0 A) (F0 m 93 ls []) := by
  obtain ⟨hx, hb, hr, hml, hown, hts, hlocks, hK⟩ := id C0
  intro v1 v2 v3 v4 v5 u H locs ls hv_t0 hw hl h
  unfold g_X8_pack_93 at h
  refine lv_iload hx hb dX8_pack_93 (lv_at hl 5 rfl) ?_
  refine lv_aload_n hx hb dX8_pack_95 rfl (lv_at hl 0 rfl) ?_
  refine r_getC (t2 := 9) (d := 2) hx hb hts n_X8_pack_X8 hown hK hw hv_t0 (by decide) rfl 2 (by decide) rfl rfl (hts _ k_X8_pack_7) (fun _ q => q) dX8_pack_96 (fun hv8 => ?_)
  refine lv_aload_n hx hb dX8_pack_99 rfl (lv_at hl 0 rfl) ?_
  refine r_getC (t2 := 9) (d := 4) hx hb hts n_X8_pack_X8 hown hK hw hv_t0 (by decide) rfl 4 (by decide) rfl rfl (hts _ k_X8_pack_8) (fun _ q => q) dX8_pack_100 (fun hv9 => ?_)
  refine lv_iload hx hb dX8_pack_103 (lv_at hl 4 rfl) ?_
  refine r_iald (n := 80) hx hb hK hw hv9 rfl dX8_pack_105 h (fun x10 h => ?_)
  refine r_iald (n := 10) hx hb hK hw hv8 rfl dX8_pack_106 h (fun x11 h => ?_)
  refine lv_icmp_ge (tgt := 127) hx hb dX8_pack_107 (by decide) (fun hc => ?_) (fun hc => ?_)
  · rw [if_pos hc] at h
    refine lv_iinc (v := v3 + 1) (lv' := [(3, .int (v3 + 1)), (0, .ref (ad 0)), (1, .int v1), (2, .int v2), (4, .int v4), (5, .int v5)]) hx hb dX8_pack_127 hl (k := 3) rfl rfl (by decide) rfl (fun ls hl => ?_)
    refine lv_goto (tgt := 47) hx hb dX8_pack_130 (by decide) ?_
    exact hK47 v1 v2 (v3 + 1) u _ _ _ hv_t0 hw (lv_sub hl [1, 2, 3, 0] rfl) h
  · rw [if_neg hc] at h
    refine lv_aload_n hx hb dX8_pack_110 rfl (lv_at hl 0 rfl) ?_
    refine r_getC (t2 := 9) (d := 13) hx hb hts n_X8_pack_X8 hown hK hw hv_t0 (by decide) rfl 13 (by decide) rfl rfl (hts _ k_X8_pack_3) (fun _ q => q) dX8_pack_111 (fun hv12 => ?_)
    refine lv_iload_n hx hb dX8_pack_114 rfl (lv_at hl 1 rfl) ?_
    refine lv_iload hx hb dX8_pack_115 (lv_at hl 4 rfl) ?_
    refine r_iast (n := 400) hx hb hK hw hv12 rfl dX8_pack_117 h (fun u H locs hw h => ?_)
    refine lv_iinc (v := v1 + 1) (lv' := [(1, .int (v1 + 1)), (0, .ref (ad 0)), (2, .int v2), (3, .int v3), (4, .int v4), (5, .int v5)]) hx hb dX8_pack_118 hl (k := 1) rfl rfl (by decide) rfl (fun ls hl => ?_)
    refine lv_iinc (v := v5 + 1) (lv' := [(5, .int (v5 + 1)), (1, .int (v1 + 1)), (0, .ref (ad 0)), (2, .int v2), (3, .int v3), (4, .int v4)]) hx hb dX8_pack_121 hl (k := 5) rfl rfl (by decide) rfl (fun ls hl => ?_)
    refine lv_goto (tgt := 93) hx hb dX8_pack_124 (by decide) ?_
    exact hK93 (v1 + 1) v2 v3 v4 (v5 + 1) u _ _ _ hv_t0 hw (lv_sub hl [2, 1, 3, 4, 5, 0] rfl) h
set_option maxHeartbeats 4000000 in
set_option maxRecDepth 100000 in
theorem j_X8_pack_93 {p : Program} {l : Launch} {e : Env} {s : State} {m : MethodId} {args : Array Value} {below : List Frame} {meth : Method} {c : Code} {D : va_G} {cy : Nat → ClassId} {L : List Nat} {ad : Nat → Nat} {A : Nat → Prop} {o : Int32 × Mm} (N : Nat)   (C0 : Cx p m meth c cX8_pack (some .int) 6 s args wsX8_pack RX8 D cy) (hA : ∀ q : Nat, s.heap.size ≤ q → A q) (K47 : Int32 → Int32 → Int32 → Mm → Option (Int32 × Mm)) (hK47 : ∀ (v1 : Int32) (v2 : Int32) (v3 : Int32) (u : Mm) (H : Heap) (locs : List Loc) (ls : Array Slot), vn L 8 0 → Wd D cy L ad A s.heap u H locs → lv_has ls 6 [(0, .ref (ad 0)), (1, .int v1), (2, .int v2), (3, .int v3)] → K47 v1 v2 v3 u = some o → W p l e ({ frames := 1, cells := 0, slots := 0, locals := 22 } : Room) s m args below meth c H locs 0 0 (MQ below (QcI D cy L ad A o) args s 0 0 A) (F0 m 47 ls [])) : ∀ (n : Nat), ∀ (v1 : Int32) (v2 : Int32) (v3 : Int32) (v4 : Int32) (v5 : Int32) (u : Mm) (H : Heap) (locs : List Loc) (ls : Array Slot), vn L 8 0 → Wd D cy L ad A s.heap u H locs → lv_has ls 6 [(0, .ref (ad 0)), (1, .int v1), (2, .int v2), (3, .int v3), (4, .int v4), (5, .int v5)] → f_X8_pack_93 N  K47 n v1 v2 v3 v4 v5 u = some o → W p l e ({ frames := 1, cells := 0, slots := 0, locals := 22 } : Room) s m args below meth c H locs 0 0 (MQ below (QcI D cy L ad A o) args s 0 0 A) (F0 m 93 ls []) := by
  intro n
  induction n with
  | zero =>
    intro v1 v2 v3 v4 v5 u H locs ls hv_t0 hw hl h
    cases h
  | succ n ih => exact jg_X8_pack_93 N   C0 hA K47 hK47 _ ih
def f_X8_pack_80 (N : Nat)  (K47 : Int32 → Int32 → Int32 → Mm → Option (Int32 × Mm)) (v1 : Int32) (v3 : Int32) (v4 : Int32) (w0 : Int32) (w1 : Int32) (u : Mm) : Option (Int32 × Mm) :=
  ck (bI v4 80) (pt (sI u 7 (ix v4) v1) (fun u => f_X8_pack_93 N K47 N v1 (w1 + w0) v3 v4 0 u))
set_option maxHeartbeats 4000000 in
set_option maxRecDepth 100000 in
theorem j_X8_pack_80 {p : Program} {l : Launch} {e : Env} {s : State} {m : MethodId} {args : Array Value} {below : List Frame} {meth : Method} {c : Code} {D : va_G} {cy : Nat → ClassId} {L : List Nat} {ad : Nat → Nat} {A : Nat → Prop} {o : Int32 × Mm} (N : Nat)   (C0 : Cx p m meth c cX8_pack (some .int) 6 s args wsX8_pack RX8 D cy) (hA : ∀ q : Nat, s.heap.size ≤ q → A q) (K47 : Int32 → Int32 → Int32 → Mm → Option (Int32 × Mm)) (hK47 : ∀ (v1 : Int32) (v2 : Int32) (v3 : Int32) (u : Mm) (H : Heap) (locs : List Loc) (ls : Array Slot), vn L 8 0 → Wd D cy L ad A s.heap u H locs → lv_has ls 6 [(0, .ref (ad 0)), (1, .int v1), (2, .int v2), (3, .int v3)] → K47 v1 v2 v3 u = some o → W p l e ({ frames := 1, cells := 0, slots := 0, locals := 22 } : Room) s m args below meth c H locs 0 0 (MQ below (QcI D cy L ad A o) args s 0 0 A) (F0 m 47 ls [])) : ∀ (v1 : Int32) (v3 : Int32) (v4 : Int32) (w0 : Int32) (w1 : Int32) (u : Mm) (H : Heap) (locs : List Loc) (ls : Array Slot), vn L 8 0 → Wd D cy L ad A s.heap u H locs → lv_has ls 6 [(0, .ref (ad 0)), (1, .int v1), (3, .int v3), (4, .int v4)] → f_X8_pack_80 N  K47 v1 v3 v4 w0 w1 u = some o → W p l e ({ frames := 1, cells := 0, slots := 0, locals := 22 } : Room) s m args below meth c H locs 0 0 (MQ below (QcI D cy L ad A o) args s 0 0 A) (F0 m 80 ls [.int w0, .int w1]) := by
  obtain ⟨hx, hb, hr, hml, hown, hts, hlocks, hK⟩ := id C0
  intro v1 v3 v4 w0 w1 u H locs ls hv_t0 hw hl h
  unfold f_X8_pack_80 at h
  refine lv_iadd hx hb dX8_pack_80 ?_
  refine lv_istore_n (lv' := [(2, .int (w1 + w0)), (0, .ref (ad 0)), (1, .int v1), (3, .int v3), (4, .int v4)]) hx hb dX8_pack_81 rfl hl (by decide) rfl (fun ls hl => ?_)
  refine lv_aload_n hx hb dX8_pack_82 rfl (lv_at hl 1 rfl) ?_
  refine r_getC (t2 := 9) (d := 7) hx hb hts n_X8_pack_X8 hown hK hw hv_t0 (by decide) rfl 7 (by decide) rfl rfl (hts _ k_X8_pack_6) (fun _ q => q) dX8_pack_83 (fun hv7 => ?_)
  refine lv_iload hx hb dX8_pack_86 (lv_at hl 4 rfl) ?_
  refine lv_iload_n hx hb dX8_pack_88 rfl (lv_at hl 2 rfl) ?_
  refine r_iast (n := 80) hx hb hK hw hv7 rfl dX8_pack_89 h (fun u H locs hw h => ?_)
  refine lv_iconst (v := 0) hx hb dX8_pack_90 (by decide) ?_
  refine lv_istore (lv' := [(5, .int 0), (2, .int (w1 + w0)), (0, .ref (ad 0)), (1, .int v1), (3, .int v3), (4, .int v4)]) hx hb dX8_pack_91 hl (by decide) rfl (fun ls hl => ?_)
  exact j_X8_pack_93 N C0 hA K47 hK47 N v1 (w1 + w0) v3 v4 0 u _ _ _ hv_t0 hw (lv_sub hl [2, 3, 1, 4, 5, 0] rfl) h
def g_X8_pack_47 (N : Nat)  (K47 : Int32 → Int32 → Int32 → Mm → Option (Int32 × Mm)) (v1 : Int32) (v2 : Int32) (v3 : Int32) (u : Mm) : Option (Int32 × Mm) :=
  pt (u.1 0 29) (fun x2 => if x2 ≤ v3 then (some (v2, u)) else (ck (bI v3 80) (pt (u.1 28 (ix v3)) (fun x4 => ck (bI x4 80) (pt (u.1 7 (ix x4)) (fun x6 => if x6 = v1 then (f_X8_pack_80 N K47 v1 v3 x4 0 v2 u) else (f_X8_pack_80 N K47 v1 v3 x4 1 v2 u)))))))
def f_X8_pack_47 (N : Nat)   : Nat → Int32 → Int32 → Int32 → Mm → Option (Int32 × Mm)
  | 0 => fun _ _ _ _ => none
  | n + 1 => g_X8_pack_47 N   (f_X8_pack_47 N   n)
set_option maxHeartbeats 4000000 in
set_option maxRecDepth 100000 in
theorem jg_X8_pack_47 {p : Program} {l : Launch} {e : Env} {s : State} {m : MethodId} {args : Array Value} {below : List Frame} {meth : Method} {c : Code} {D : va_G} {cy : Nat → ClassId} {L : List Nat} {ad : Nat → Nat} {A : Nat → Prop} {o : Int32 × Mm} (N : Nat)   (C0 : Cx p m meth c cX8_pack (some .int) 6 s args wsX8_pack RX8 D cy) (hA : ∀ q : Nat, s.heap.size ≤ q → A q)  (K47 : Int32 → Int32 → Int32 → Mm → Option (Int32 × Mm)) (hK47 : ∀ (v1 : Int32) (v2 : Int32) (v3 : Int32) (u : Mm) (H : Heap) (locs : List Loc) (ls : Array Slot), vn L 8 0 → Wd D cy L ad A s.heap u H locs → lv_has ls 6 [(0, .ref (ad 0)), (1, .int v1), (2, .int v2), (3, .int v3)] → K47 v1 v2 v3 u = some o → W p l e ({ frames := 1, cells := 0, slots := 0, locals := 22 } : Room) s m args below meth c H locs 0 0 (MQ below (QcI D cy L ad A o) args s 0 0 A) (F0 m 47 ls [])) : ∀ (v1 : Int32) (v2 : Int32) (v3 : Int32) (u : Mm) (H : Heap) (locs : List Loc) (ls : Array Slot), vn L 8 0 → Wd D cy L ad A s.heap u H locs → lv_has ls 6 [(0, .ref (ad 0)), (1, .int v1), (2, .int v2), (3, .int v3)] → g_X8_pack_47 N   K47 v1 v2 v3 u = some o → W p l e ({ frames := 1, cells := 0, slots := 0, locals := 22 } : Room) s m args below meth c H locs 0 0 (MQ below (QcI D cy L ad A o) args s 0 0 A) (F0 m 47 ls []) := by
  obtain ⟨hx, hb, hr, hml, hown, hts, hlocks, hK⟩ := id C0
  intro v1 v2 v3 u H locs ls hv_t0 hw hl h
  unfold g_X8_pack_47 at h
  refine lv_iload_n hx hb dX8_pack_47 rfl (lv_at hl 3 rfl) ?_
  refine lv_aload_n hx hb dX8_pack_48 rfl (lv_at hl 0 rfl) ?_
  refine r_getI hx hb hts n_X8_pack_X8 hown hK hw hv_t0 (by decide) rfl 29 (by decide) rfl (hts _ k_X8_pack_4) (fun _ q => q) dX8_pack_49 h (fun x2 h => ?_)
  refine lv_icmp_ge (tgt := 133) hx hb dX8_pack_52 (by decide) (fun hc => ?_) (fun hc => ?_)
  · rw [if_pos hc] at h
    refine lv_iload_n hx hb dX8_pack_133 rfl (lv_at hl 2 rfl) ?_
    exact r_iret hx hb hr hlocks hK hw h dX8_pack_134
  · rw [if_neg hc] at h
    refine lv_aload_n hx hb dX8_pack_55 rfl (lv_at hl 0 rfl) ?_
    refine r_getC (t2 := 9) (d := 28) hx hb hts n_X8_pack_X8 hown hK hw hv_t0 (by decide) rfl 28 (by decide) rfl rfl (hts _ k_X8_pack_5) (fun _ q => q) dX8_pack_56 (fun hv3 => ?_)
    refine lv_iload_n hx hb dX8_pack_59 rfl (lv_at hl 3 rfl) ?_
    refine r_iald (n := 80) hx hb hK hw hv3 rfl dX8_pack_60 h (fun x4 h => ?_)
    refine lv_istore (lv' := [(4, .int x4), (0, .ref (ad 0)), (1, .int v1), (2, .int v2), (3, .int v3)]) hx hb dX8_pack_61 hl (by decide) rfl (fun ls hl => ?_)
    refine lv_iload_n hx hb dX8_pack_63 rfl (lv_at hl 3 rfl) ?_
    refine lv_aload_n hx hb dX8_pack_64 rfl (lv_at hl 1 rfl) ?_
    refine r_getC (t2 := 9) (d := 7) hx hb hts n_X8_pack_X8 hown hK hw hv_t0 (by decide) rfl 7 (by decide) rfl rfl (hts _ k_X8_pack_6) (fun _ q => q) dX8_pack_65 (fun hv5 => ?_)
    refine lv_iload hx hb dX8_pack_68 (lv_at hl 0 rfl) ?_
    refine r_iald (n := 80) hx hb hK hw hv5 rfl dX8_pack_70 h (fun x6 h => ?_)
    refine lv_iload_n hx hb dX8_pack_71 rfl (lv_at hl 2 rfl) ?_
    refine lv_icmp_eq (tgt := 79) hx hb dX8_pack_72 (by decide) (fun hc => ?_) (fun hc => ?_)
    · rw [if_pos hc] at h
      refine lv_iconst (v := 0) hx hb dX8_pack_79 (by decide) ?_
      exact j_X8_pack_80 N C0 hA K47 hK47 v1 v3 x4 0 v2 u _ _ _ hv_t0 hw (lv_sub hl [1, 2, 4, 0] rfl) h
    · rw [if_neg hc] at h
      refine lv_iconst (v := 1) hx hb dX8_pack_75 (by decide) ?_
      refine lv_goto (tgt := 80) hx hb dX8_pack_76 (by decide) ?_
      exact j_X8_pack_80 N C0 hA K47 hK47 v1 v3 x4 1 v2 u _ _ _ hv_t0 hw (lv_sub hl [1, 2, 4, 0] rfl) h
set_option maxHeartbeats 4000000 in
set_option maxRecDepth 100000 in
theorem j_X8_pack_47 {p : Program} {l : Launch} {e : Env} {s : State} {m : MethodId} {args : Array Value} {below : List Frame} {meth : Method} {c : Code} {D : va_G} {cy : Nat → ClassId} {L : List Nat} {ad : Nat → Nat} {A : Nat → Prop} {o : Int32 × Mm} (N : Nat)   (C0 : Cx p m meth c cX8_pack (some .int) 6 s args wsX8_pack RX8 D cy) (hA : ∀ q : Nat, s.heap.size ≤ q → A q)  : ∀ (n : Nat), ∀ (v1 : Int32) (v2 : Int32) (v3 : Int32) (u : Mm) (H : Heap) (locs : List Loc) (ls : Array Slot), vn L 8 0 → Wd D cy L ad A s.heap u H locs → lv_has ls 6 [(0, .ref (ad 0)), (1, .int v1), (2, .int v2), (3, .int v3)] → f_X8_pack_47 N   n v1 v2 v3 u = some o → W p l e ({ frames := 1, cells := 0, slots := 0, locals := 22 } : Room) s m args below meth c H locs 0 0 (MQ below (QcI D cy L ad A o) args s 0 0 A) (F0 m 47 ls []) := by
  intro n
  induction n with
  | zero =>
    intro v1 v2 v3 u H locs ls hv_t0 hw hl h
    cases h
  | succ n ih => exact jg_X8_pack_47 N   C0 hA  _ ih
def g_X8_pack_21 (N : Nat)  (K21 : Int32 → Mm → Option (Int32 × Mm)) (v1 : Int32) (u : Mm) : Option (Int32 × Mm) :=
  if 400 ≤ v1 then (f_X8_pack_47 N N 0 0 0 u) else (ck (bI v1 400) (pt (sI u 13 (ix v1) (-1)) (fun u => K21 (v1 + 1) u)))
def f_X8_pack_21 (N : Nat)   : Nat → Int32 → Mm → Option (Int32 × Mm)
  | 0 => fun _ _ => none
  | n + 1 => g_X8_pack_21 N   (f_X8_pack_21 N   n)
set_option maxHeartbeats 4000000 in
set_option maxRecDepth 100000 in
theorem jg_X8_pack_21 {p : Program} {l : Launch} {e : Env} {s : State} {m : MethodId} {args : Array Value} {below : List Frame} {meth : Method} {c : Code} {D : va_G} {cy : Nat → ClassId} {L : List Nat} {ad : Nat → Nat} {A : Nat → Prop} {o : Int32 × Mm} (N : Nat)   (C0 : Cx p m meth c cX8_pack (some .int) 6 s args wsX8_pack RX8 D cy) (hA : ∀ q : Nat, s.heap.size ≤ q → A q)  (K21 : Int32 → Mm → Option (Int32 × Mm)) (hK21 : ∀ (v1 : Int32) (u : Mm) (H : Heap) (locs : List Loc) (ls : Array Slot), vn L 8 0 → Wd D cy L ad A s.heap u H locs → lv_has ls 6 [(0, .ref (ad 0)), (1, .int v1)] → K21 v1 u = some o → W p l e ({ frames := 1, cells := 0, slots := 0, locals := 22 } : Room) s m args below meth c H locs 0 0 (MQ below (QcI D cy L ad A o) args s 0 0 A) (F0 m 21 ls [])) : ∀ (v1 : Int32) (u : Mm) (H : Heap) (locs : List Loc) (ls : Array Slot), vn L 8 0 → Wd D cy L ad A s.heap u H locs → lv_has ls 6 [(0, .ref (ad 0)), (1, .int v1)] → g_X8_pack_21 N   K21 v1 u = some o → W p l e ({ frames := 1, cells := 0, slots := 0, locals := 22 } : Room) s m args below meth c H locs 0 0 (MQ below (QcI D cy L ad A o) args s 0 0 A) (F0 m 21 ls []) := by
  obtain ⟨hx, hb, hr, hml, hown, hts, hlocks, hK⟩ := id C0
  intro v1 u H locs ls hv_t0 hw hl h
  unfold g_X8_pack_21 at h
  refine lv_iload_n hx hb dX8_pack_21 rfl (lv_at hl 1 rfl) ?_
  refine lv_sipush (v := 400) hx hb dX8_pack_22 (by decide) ?_
  refine lv_icmp_ge (tgt := 41) hx hb dX8_pack_25 (by decide) (fun hc => ?_) (fun hc => ?_)
  · rw [if_pos hc] at h
    refine lv_iconst (v := 0) hx hb dX8_pack_41 (by decide) ?_
    refine lv_istore_n (lv' := [(1, .int 0), (0, .ref (ad 0))]) hx hb dX8_pack_42 rfl hl (by decide) rfl (fun ls hl => ?_)
    refine lv_iconst (v := 0) hx hb dX8_pack_43 (by decide) ?_
    refine lv_istore_n (lv' := [(2, .int 0), (1, .int 0), (0, .ref (ad 0))]) hx hb dX8_pack_44 rfl hl (by decide) rfl (fun ls hl => ?_)
    refine lv_iconst (v := 0) hx hb dX8_pack_45 (by decide) ?_
    refine lv_istore_n (lv' := [(3, .int 0), (2, .int 0), (1, .int 0), (0, .ref (ad 0))]) hx hb dX8_pack_46 rfl hl (by decide) rfl (fun ls hl => ?_)
    exact j_X8_pack_47 N C0 hA N 0 0 0 u _ _ _ hv_t0 hw (lv_sub hl [3, 2, 1, 0] rfl) h
  · rw [if_neg hc] at h
    refine lv_aload_n hx hb dX8_pack_28 rfl (lv_at hl 0 rfl) ?_
    refine r_getC (t2 := 9) (d := 13) hx hb hts n_X8_pack_X8 hown hK hw hv_t0 (by decide) rfl 13 (by decide) rfl rfl (hts _ k_X8_pack_3) (fun _ q => q) dX8_pack_29 (fun hv13 => ?_)
    refine lv_iload_n hx hb dX8_pack_32 rfl (lv_at hl 1 rfl) ?_
    refine lv_iconst (v := (-1)) hx hb dX8_pack_33 (by decide) ?_
    refine r_iast (n := 400) hx hb hK hw hv13 rfl dX8_pack_34 h (fun u H locs hw h => ?_)
    refine lv_iinc (v := v1 + 1) (lv' := [(1, .int (v1 + 1)), (0, .ref (ad 0))]) hx hb dX8_pack_35 hl (k := 1) rfl rfl (by decide) rfl (fun ls hl => ?_)
    refine lv_goto (tgt := 21) hx hb dX8_pack_38 (by decide) ?_
    exact hK21 (v1 + 1) u _ _ _ hv_t0 hw (lv_sub hl [1, 0] rfl) h
set_option maxHeartbeats 4000000 in
set_option maxRecDepth 100000 in
theorem j_X8_pack_21 {p : Program} {l : Launch} {e : Env} {s : State} {m : MethodId} {args : Array Value} {below : List Frame} {meth : Method} {c : Code} {D : va_G} {cy : Nat → ClassId} {L : List Nat} {ad : Nat → Nat} {A : Nat → Prop} {o : Int32 × Mm} (N : Nat)   (C0 : Cx p m meth c cX8_pack (some .int) 6 s args wsX8_pack RX8 D cy) (hA : ∀ q : Nat, s.heap.size ≤ q → A q)  : ∀ (n : Nat), ∀ (v1 : Int32) (u : Mm) (H : Heap) (locs : List Loc) (ls : Array Slot), vn L 8 0 → Wd D cy L ad A s.heap u H locs → lv_has ls 6 [(0, .ref (ad 0)), (1, .int v1)] → f_X8_pack_21 N   n v1 u = some o → W p l e ({ frames := 1, cells := 0, slots := 0, locals := 22 } : Room) s m args below meth c H locs 0 0 (MQ below (QcI D cy L ad A o) args s 0 0 A) (F0 m 21 ls []) := by
  intro n
  induction n with
  | zero =>
    intro v1 u H locs ls hv_t0 hw hl h
    cases h
  | succ n ih => exact jg_X8_pack_21 N   C0 hA  _ ih
def f_X8_pack (N : Nat)  (u : Mm) : Option (Int32 × Mm) :=
  pt (sI u 0 0 0) (fun u => pt (u.1 0 22) (fun x1 => pt (sI u 0 22 (x1 + 1)) (fun u => bv (f_X8_findByAddress N u) (fun u => f_X8_pack_21 N N 0 u))))
set_option maxHeartbeats 4000000 in
set_option maxRecDepth 100000 in
theorem c_X8_pack (l : Launch) (D : va_G) (cy : Nat → ClassId) (L : List Nat) (ad : Nat → Nat) (N : Nat)  (u : Mm) (o : Int32 × Mm) (h_this : vn L 8 0) (h : f_X8_pack N  u = some o) : MtI l yX8_pack wsX8_pack ({ frames := 1, cells := 0, slots := 0, locals := 22 } : Room) D cy L ad [.ref (ad 0)] u o := by
  intro sz
  refine Met.ofW (cc := cX8_pack) (maxL := 6) (ret := (some .int)) (by decide) rfl ?_
  intro p e s m args below meth c s₁ B hml hv
  obtain ⟨rfl, hsz, hP, hK, hD0, hok⟩ := hv
  have hx := B.exec
  have hb := B.bytes
  have hr := B.returns
  have hts := atoms_spec (ws := wsX8_pack) B.pre
  have hown : s.vm.findClass RX8 = some m.cls := findClass_of_methodNamed B.named
  have hlocks := B.notSynchronized
  subst hsz
  have hw := wd_start hP hD0 hok
  have hA : ∀ q : Nat, s.heap.size ≤ q → va_A (wl cy L ad u) s.heap.size q := fun q h => Or.inr h
  generalize va_A (wl cy L ad u) s.heap.size = A at hw hA ⊢
  have C0 : Cx p m meth c cX8_pack (some .int) 6 s _ wsX8_pack RX8 D cy := ⟨hx, hb, hr, hml, hown, hts, hlocks, hK⟩
  have hl := lv_entry ([.ref (ad 0)]) (n := 6) (Nat.le_of_ble_eq_true rfl)
  rw [lg_entry_eq]
  generalize (lg_sl ([.ref (ad 0)]) ++ List.replicate (6 - (lg_sl ([.ref (ad 0)])).length) Slot.unset).toArray = ls at hl ⊢
  have hl : lv_has ls 6 [(0, .ref (ad 0))] := hl
  unfold f_X8_pack at h
  refine lv_aload_n hx hb dX8_pack_0 rfl (lv_at hl 0 rfl) ?_
  refine lv_iconst (v := 0) hx hb dX8_pack_1 (by decide) ?_
  refine r_putI (ty := .int) hx hb hts n_X8_pack_X8 tyX8 tyX8_ok nmX8 hown hK hw h_this (by decide) rfl 0 (by decide) rfl (hts _ k_X8_pack_1) (fun _ q => q) rfl rfl rfl rfl dX8_pack_2 h (fun u H locs hw h => ?_)
  refine lv_aload_n hx hb dX8_pack_5 rfl (lv_at hl 0 rfl) ?_
  refine lv_dup hx hb dX8_pack_6 rfl ?_
  refine r_getI hx hb hts n_X8_pack_X8 hown hK hw h_this (by decide) rfl 22 (by decide) rfl (hts _ k_X8_pack_2) (fun _ q => q) dX8_pack_7 h (fun x1 h => ?_)
  refine lv_iconst (v := 1) hx hb dX8_pack_10 (by decide) ?_
  refine lv_iadd hx hb dX8_pack_11 ?_
  refine r_putI (ty := .int) hx hb hts n_X8_pack_X8 tyX8 tyX8_ok nmX8 hown hK hw h_this (by decide) rfl 22 (by decide) rfl (hts _ k_X8_pack_2) (fun _ q => q) rfl rfl rfl rfl dX8_pack_12 h (fun u H locs hw h => ?_)
  refine lv_aload_n hx hb dX8_pack_15 rfl (lv_at hl 0 rfl) ?_
  refine r_bV (fun o ho => r_vV (As := []) (rest := []) ⟨hx, hb, hml, hown, hts⟩ (c_X8_findByAddress l D cy L ad N u o h_this ho) (cwV 0 hts gX8_pack_X8_findByAddress rfl rfl rfl (by decide +kernel) ⟨Nat.le_of_ble_eq_true rfl, Nat.le_of_ble_eq_true rfl⟩) hw hK h_this (by decide) rfl rfl hl.1 rfl (Nat.le_of_ble_eq_true rfl) dX8_pack_16 ⟨Nat.zero_le _, Nat.zero_le _⟩) hw hA h (fun u H locs hw h => ?_)
  refine lv_iconst (v := 0) hx hb dX8_pack_19 (by decide) ?_
  refine lv_istore_n (lv' := [(1, .int 0), (0, .ref (ad 0))]) hx hb dX8_pack_20 rfl hl (by decide) rfl (fun ls hl => ?_)
  exact j_X8_pack_21 N C0 hA N 0 u _ _ _ h_this hw (lv_sub hl [1, 0] rfl) h
theorem k_X8_make_2 : Cond.fieldLink RX8 1 "RingHeapModel" "thrown" "I" ∈ wsX8_make := List.mem_of_getElem? (i := 2) (by rfl)
theorem n_X8_make_X8 : ∀ w ∈ u_ws RX8 TX8 31, w ∈ wsX8_make := fun _ h => List.mem_cons_of_mem _ (List.mem_append_right _ h)
theorem k_X8_make_3 : Cond.fieldLink RX8 17 "RingHeapModel" "typeWords" "[I" ∈ wsX8_make := List.mem_of_getElem? (i := 3) (by rfl)
theorem k_X8_make_4 : Cond.fieldLink RX8 24 "RingHeapModel" "types" "[I" ∈ wsX8_make := List.mem_of_getElem? (i := 4) (by rfl)
theorem k_X8_make_5 : Cond.fieldLink RX8 27 "RingHeapModel" "counts" "[I" ∈ wsX8_make := List.mem_of_getElem? (i := 5) (by rfl)
theorem k_X8_make_6 : Cond.fieldLink RX8 36 "RingHeapModel" "hands" "[I" ∈ wsX8_make := List.mem_of_getElem? (i := 6) (by rfl)
theorem k_X8_make_7 : Cond.fieldLink RX8 30 "RingHeapModel" "colours" "[I" ∈ wsX8_make := List.mem_of_getElem? (i := 7) (by rfl)
theorem k_X8_make_1 : Cond.fieldLink RX8 13 "RingHeapModel" "typeFields" "[I" ∈ wsX8_make := List.mem_of_getElem? (i := 1) (by rfl)
theorem k_X8_make_8 : Cond.fieldLink RX8 33 "RingHeapModel" "addresses" "[I" ∈ wsX8_make := List.mem_of_getElem? (i := 8) (by rfl)
theorem k_X8_make_9 : Cond.fieldLink RX8 39 "RingHeapModel" "listedNow" "[Z" ∈ wsX8_make := List.mem_of_getElem? (i := 9) (by rfl)
theorem k_X8_make_10 : Cond.fieldLink RX8 42 "RingHeapModel" "wishTold" "[Z" ∈ wsX8_make := List.mem_of_getElem? (i := 10) (by rfl)
theorem k_X8_make_11 : Cond.fieldLink RX8 45 "RingHeapModel" "husks" "[Z" ∈ wsX8_make := List.mem_of_getElem? (i := 11) (by rfl)
theorem k_X8_make_13 : Cond.fieldLink RX8 51 "RingHeapModel" "owners" "[I" ∈ wsX8_make := List.mem_of_getElem? (i := 13) (by rfl)
theorem k_X8_make_12 : Cond.fieldLink RX8 48 "RingHeapModel" "fields" "[I" ∈ wsX8_make := List.mem_of_getElem? (i := 12) (by rfl)
def g_X8_make_218 (N : Nat)  (K218 : Int32 → Int32 → Int32 → Int32 → Mm → Option (Int32 × Mm)) (v2 : Int32) (v3 : Int32) (v4 : Int32) (v5 : Int32) (u : Mm) : Option (Int32 × Mm) :=
  if v2 ≤ v5 then (some (v3, u)) else (ck (bI (v4 + v5) 400) (pt (sI u 13 (ix (v4 + v5)) v3) (fun u => K218 v2 v3 v4 (v5 + 1) u)))
def f_X8_make_218 (N : Nat)   : Nat → Int32 → Int32 → Int32 → Int32 → Mm → Option (Int32 × Mm)
  | 0 => fun _ _ _ _ _ => none
  | n + 1 => g_X8_make_218 N   (f_X8_make_218 N   n)
set_option maxHeartbeats 4000000 in
set_option maxRecDepth 100000 in
theorem jg_X8_make_218 {p : Program} {l : Launch} {e : Env} {s : State} {m : MethodId} {args : Array Value} {below : List Frame} {meth : Method} {c : Code} {D : va_G} {cy : Nat → ClassId} {L : List Nat} {ad : Nat → Nat} {A : Nat → Prop} {o : Int32 × Mm} (N : Nat)   (C0 : Cx p m meth c cX8_make (some .int) 6 s args wsX8_make RX8 D cy) (hA : ∀ q : Nat, s.heap.size ≤ q → A q)  (K218 : Int32 → Int32 → Int32 → Int32 → Mm → Option (Int32 × Mm)) (hK218 : ∀ (v2 : Int32) (v3 : Int32) (v4 : Int32) (v5 : Int32) (u : Mm) (H : Heap) (locs : List Loc) (ls : Array Slot), vn L 8 0 → Wd D cy L ad A s.heap u H locs → lv_has ls 6 [(0, .ref (ad 0)), (2, .int v2), (3, .int v3), (4, .int v4), (5, .int v5)] → K218 v2 v3 v4 v5 u = some o → W p l e ({ frames := 5, cells := 0, slots := 0, locals := 115 } : Room) s m args below meth c H locs 0 0 (MQ below (QcI D cy L ad A o) args s 0 0 A) (F0 m 218 ls [])) : ∀ (v2 : Int32) (v3 : Int32) (v4 : Int32) (v5 : Int32) (u : Mm) (H : Heap) (locs : List Loc) (ls : Array Slot), vn L 8 0 → Wd D cy L ad A s.heap u H locs → lv_has ls 6 [(0, .ref (ad 0)), (2, .int v2), (3, .int v3), (4, .int v4), (5, .int v5)] → g_X8_make_218 N   K218 v2 v3 v4 v5 u = some o → W p l e ({ frames := 5, cells := 0, slots := 0, locals := 115 } : Room) s m args below meth c H locs 0 0 (MQ below (QcI D cy L ad A o) args s 0 0 A) (F0 m 218 ls []) := by
  obtain ⟨hx, hb, hr, hml, hown, hts, hlocks, hK⟩ := id C0
  intro v2 v3 v4 v5 u H locs ls hv_t0 hw hl h
  unfold g_X8_make_218 at h
  refine lv_iload hx hb dX8_make_218 (lv_at hl 4 rfl) ?_
  refine lv_iload_n hx hb dX8_make_220 rfl (lv_at hl 1 rfl) ?_
  refine lv_icmp_ge (tgt := 241) hx hb dX8_make_221 (by decide) (fun hc => ?_) (fun hc => ?_)
  · rw [if_pos hc] at h
    refine lv_iload_n hx hb dX8_make_241 rfl (lv_at hl 2 rfl) ?_
    exact r_iret hx hb hr hlocks hK hw h dX8_make_242
  · rw [if_neg hc] at h
    refine lv_aload_n hx hb dX8_make_224 rfl (lv_at hl 0 rfl) ?_
    refine r_getC (t2 := 9) (d := 13) hx hb hts n_X8_make_X8 hown hK hw hv_t0 (by decide) rfl 13 (by decide) rfl rfl (hts _ k_X8_make_13) (fun _ q => q) dX8_make_225 (fun hv19 => ?_)
    refine lv_iload hx hb dX8_make_228 (lv_at hl 3 rfl) ?_
    refine lv_iload hx hb dX8_make_230 (lv_at hl 4 rfl) ?_
    refine lv_iadd hx hb dX8_make_232 ?_
    refine lv_iload_n hx hb dX8_make_233 rfl (lv_at hl 2 rfl) ?_
    refine r_iast (n := 400) hx hb hK hw hv19 rfl dX8_make_234 h (fun u H locs hw h => ?_)
    refine lv_iinc (v := v5 + 1) (lv' := [(5, .int (v5 + 1)), (0, .ref (ad 0)), (2, .int v2), (3, .int v3), (4, .int v4)]) hx hb dX8_make_235 hl (k := 4) rfl rfl (by decide) rfl (fun ls hl => ?_)
    refine lv_goto (tgt := 218) hx hb dX8_make_238 (by decide) ?_
    exact hK218 v2 v3 v4 (v5 + 1) u _ _ _ hv_t0 hw (lv_sub hl [1, 2, 3, 4, 0] rfl) h
set_option maxHeartbeats 4000000 in
set_option maxRecDepth 100000 in
theorem j_X8_make_218 {p : Program} {l : Launch} {e : Env} {s : State} {m : MethodId} {args : Array Value} {below : List Frame} {meth : Method} {c : Code} {D : va_G} {cy : Nat → ClassId} {L : List Nat} {ad : Nat → Nat} {A : Nat → Prop} {o : Int32 × Mm} (N : Nat)   (C0 : Cx p m meth c cX8_make (some .int) 6 s args wsX8_make RX8 D cy) (hA : ∀ q : Nat, s.heap.size ≤ q → A q)  : ∀ (n : Nat), ∀ (v2 : Int32) (v3 : Int32) (v4 : Int32) (v5 : Int32) (u : Mm) (H : Heap) (locs : List Loc) (ls : Array Slot), vn L 8 0 → Wd D cy L ad A s.heap u H locs → lv_has ls 6 [(0, .ref (ad 0)), (2, .int v2), (3, .int v3), (4, .int v4), (5, .int v5)] → f_X8_make_218 N   n v2 v3 v4 v5 u = some o → W p l e ({ frames := 5, cells := 0, slots := 0, locals := 115 } : Room) s m args below meth c H locs 0 0 (MQ below (QcI D cy L ad A o) args s 0 0 A) (F0 m 218 ls []) := by
  intro n
  induction n with
  | zero =>
    intro v2 v3 v4 v5 u H locs ls hv_t0 hw hl h
    cases h
  | succ n ih => exact jg_X8_make_218 N   C0 hA  _ ih
def g_X8_make_189 (N : Nat)  (K189 : Int32 → Int32 → Int32 → Int32 → Mm → Option (Int32 × Mm)) (v2 : Int32) (v3 : Int32) (v4 : Int32) (v5 : Int32) (u : Mm) : Option (Int32 × Mm) :=
  if 6 ≤ v5 then (f_X8_make_218 N N v2 v3 v4 0 u) else (ck (bI ((6 * v3) + v5) 480) (pt (sI u 12 (ix ((6 * v3) + v5)) (-1)) (fun u => K189 v2 v3 v4 (v5 + 1) u)))
def f_X8_make_189 (N : Nat)   : Nat → Int32 → Int32 → Int32 → Int32 → Mm → Option (Int32 × Mm)
  | 0 => fun _ _ _ _ _ => none
  | n + 1 => g_X8_make_189 N   (f_X8_make_189 N   n)
set_option maxHeartbeats 4000000 in
set_option maxRecDepth 100000 in
theorem jg_X8_make_189 {p : Program} {l : Launch} {e : Env} {s : State} {m : MethodId} {args : Array Value} {below : List Frame} {meth : Method} {c : Code} {D : va_G} {cy : Nat → ClassId} {L : List Nat} {ad : Nat → Nat} {A : Nat → Prop} {o : Int32 × Mm} (N : Nat)   (C0 : Cx p m meth c cX8_make (some .int) 6 s args wsX8_make RX8 D cy) (hA : ∀ q : Nat, s.heap.size ≤ q → A q)  (K189 : Int32 → Int32 → Int32 → Int32 → Mm → Option (Int32 × Mm)) (hK189 : ∀ (v2 : Int32) (v3 : Int32) (v4 : Int32) (v5 : Int32) (u : Mm) (H : Heap) (locs : List Loc) (ls : Array Slot), vn L 8 0 → Wd D cy L ad A s.heap u H locs → lv_has ls 6 [(0, .ref (ad 0)), (2, .int v2), (3, .int v3), (4, .int v4), (5, .int v5)] → K189 v2 v3 v4 v5 u = some o → W p l e ({ frames := 5, cells := 0, slots := 0, locals := 115 } : Room) s m args below meth c H locs 0 0 (MQ below (QcI D cy L ad A o) args s 0 0 A) (F0 m 189 ls [])) : ∀ (v2 : Int32) (v3 : Int32) (v4 : Int32) (v5 : Int32) (u : Mm) (H : Heap) (locs : List Loc) (ls : Array Slot), vn L 8 0 → Wd D cy L ad A s.heap u H locs → lv_has ls 6 [(0, .ref (ad 0)), (2, .int v2), (3, .int v3), (4, .int v4), (5, .int v5)] → g_X8_make_189 N   K189 v2 v3 v4 v5 u = some o → W p l e ({ frames := 5, cells := 0, slots := 0, locals := 115 } : Room) s m args below meth c H locs 0 0 (MQ below (QcI D cy L ad A o) args s 0 0 A) (F0 m 189 ls []) := by
  obtain ⟨hx, hb, hr, hml, hown, hts, hlocks, hK⟩ := id C0
  intro v2 v3 v4 v5 u H locs ls hv_t0 hw hl h
  unfold g_X8_make_189 at h
  refine lv_iload hx hb dX8_make_189 (lv_at hl 4 rfl) ?_
  refine lv_bipush (v := 6) hx hb dX8_make_191 (by decide) ?_
  refine lv_icmp_ge (tgt := 215) hx hb dX8_make_193 (by decide) (fun hc => ?_) (fun hc => ?_)
  · rw [if_pos hc] at h
    refine lv_iconst (v := 0) hx hb dX8_make_215 (by decide) ?_
    refine lv_istore (lv' := [(5, .int 0), (0, .ref (ad 0)), (2, .int v2), (3, .int v3), (4, .int v4)]) hx hb dX8_make_216 hl (by decide) rfl (fun ls hl => ?_)
    exact j_X8_make_218 N C0 hA N v2 v3 v4 0 u _ _ _ hv_t0 hw (lv_sub hl [1, 2, 3, 4, 0] rfl) h
  · rw [if_neg hc] at h
    refine lv_aload_n hx hb dX8_make_196 rfl (lv_at hl 0 rfl) ?_
    refine r_getC (t2 := 9) (d := 12) hx hb hts n_X8_make_X8 hown hK hw hv_t0 (by decide) rfl 12 (by decide) rfl rfl (hts _ k_X8_make_12) (fun _ q => q) dX8_make_197 (fun hv20 => ?_)
    refine lv_bipush (v := 6) hx hb dX8_make_200 (by decide) ?_
    refine lv_iload_n hx hb dX8_make_202 rfl (lv_at hl 2 rfl) ?_
    refine lv_imul hx hb dX8_make_203 ?_
    refine lv_iload hx hb dX8_make_204 (lv_at hl 4 rfl) ?_
    refine lv_iadd hx hb dX8_make_206 ?_
    refine lv_iconst (v := (-1)) hx hb dX8_make_207 (by decide) ?_
    refine r_iast (n := 480) hx hb hK hw hv20 rfl dX8_make_208 h (fun u H locs hw h => ?_)
    refine lv_iinc (v := v5 + 1) (lv' := [(5, .int (v5 + 1)), (0, .ref (ad 0)), (2, .int v2), (3, .int v3), (4, .int v4)]) hx hb dX8_make_209 hl (k := 4) rfl rfl (by decide) rfl (fun ls hl => ?_)
    refine lv_goto (tgt := 189) hx hb dX8_make_212 (by decide) ?_
    exact hK189 v2 v3 v4 (v5 + 1) u _ _ _ hv_t0 hw (lv_sub hl [1, 2, 3, 4, 0] rfl) h
set_option maxHeartbeats 4000000 in
set_option maxRecDepth 100000 in
theorem j_X8_make_189 {p : Program} {l : Launch} {e : Env} {s : State} {m : MethodId} {args : Array Value} {below : List Frame} {meth : Method} {c : Code} {D : va_G} {cy : Nat → ClassId} {L : List Nat} {ad : Nat → Nat} {A : Nat → Prop} {o : Int32 × Mm} (N : Nat)   (C0 : Cx p m meth c cX8_make (some .int) 6 s args wsX8_make RX8 D cy) (hA : ∀ q : Nat, s.heap.size ≤ q → A q)  : ∀ (n : Nat), ∀ (v2 : Int32) (v3 : Int32) (v4 : Int32) (v5 : Int32) (u : Mm) (H : Heap) (locs : List Loc) (ls : Array Slot), vn L 8 0 → Wd D cy L ad A s.heap u H locs → lv_has ls 6 [(0, .ref (ad 0)), (2, .int v2), (3, .int v3), (4, .int v4), (5, .int v5)] → f_X8_make_189 N   n v2 v3 v4 v5 u = some o → W p l e ({ frames := 5, cells := 0, slots := 0, locals := 115 } : Room) s m args below meth c H locs 0 0 (MQ below (QcI D cy L ad A o) args s 0 0 A) (F0 m 189 ls []) := by
  intro n
  induction n with
  | zero =>
    intro v2 v3 v4 v5 u H locs ls hv_t0 hw hl h
    cases h
  | succ n ih => exact jg_X8_make_189 N   C0 hA  _ ih
def f_X8_make_156 (N : Nat)   (v2 : Int32) (v3 : Int32) (v4 : Int32) (w0 : Int32) (w1 : Int32) (u : Mm) : Option (Int32 × Mm) :=
  ck (bI w1 80) (pt (sI u 6 (ix w1) w0) (fun u => ck (bI v3 80) (pt (sI u 7 (ix v3) v4) (fun u => ck (bI v3 80) (pt (sI u 9 (ix v3) (vp_nar .boolean 0)) (fun u => ck (bI v3 80) (pt (sI u 10 (ix v3) (vp_nar .boolean 0)) (fun u => ck (bI v3 80) (pt (sI u 11 (ix v3) (vp_nar .boolean 0)) (fun u => f_X8_make_189 N N v2 v3 v4 0 u))))))))))
set_option maxHeartbeats 4000000 in
set_option maxRecDepth 100000 in
theorem j_X8_make_156 {p : Program} {l : Launch} {e : Env} {s : State} {m : MethodId} {args : Array Value} {below : List Frame} {meth : Method} {c : Code} {D : va_G} {cy : Nat → ClassId} {L : List Nat} {ad : Nat → Nat} {A : Nat → Prop} {o : Int32 × Mm} (N : Nat)   (C0 : Cx p m meth c cX8_make (some .int) 6 s args wsX8_make RX8 D cy) (hA : ∀ q : Nat, s.heap.size ≤ q → A q)  : ∀ (v2 : Int32) (v3 : Int32) (v4 : Int32) (w0 : Int32) (w1 : Int32) (u : Mm) (H : Heap) (locs : List Loc) (ls : Array Slot), vn L 8 0 → vn L 9 6 → Wd D cy L ad A s.heap u H locs → lv_has ls 6 [(0, .ref (ad 0)), (2, .int v2), (3, .int v3), (4, .int v4)] → f_X8_make_156 N   v2 v3 v4 w0 w1 u = some o → W p l e ({ frames := 5, cells := 0, slots := 0, locals := 115 } : Room) s m args below meth c H locs 0 0 (MQ below (QcI D cy L ad A o) args s 0 0 A) (F0 m 156 ls [.int w0, .int w1, .ref (ad 6)]) := by
  obtain ⟨hx, hb, hr, hml, hown, hts, hlocks, hK⟩ := id C0
  intro v2 v3 v4 w0 w1 u H locs ls hv_t0 hv_z2 hw hl h
  unfold f_X8_make_156 at h
  refine r_iast (n := 80) hx hb hK hw hv_z2 rfl dX8_make_156 h (fun u H locs hw h => ?_)
  refine lv_aload_n hx hb dX8_make_157 rfl (lv_at hl 0 rfl) ?_
  refine r_getC (t2 := 9) (d := 7) hx hb hts n_X8_make_X8 hown hK hw hv_t0 (by decide) rfl 7 (by decide) rfl rfl (hts _ k_X8_make_8) (fun _ q => q) dX8_make_158 (fun hv15 => ?_)
  refine lv_iload_n hx hb dX8_make_161 rfl (lv_at hl 2 rfl) ?_
  refine lv_iload hx hb dX8_make_162 (lv_at hl 3 rfl) ?_
  refine r_iast (n := 80) hx hb hK hw hv15 rfl dX8_make_164 h (fun u H locs hw h => ?_)
  refine lv_aload_n hx hb dX8_make_165 rfl (lv_at hl 0 rfl) ?_
  refine r_getC (t2 := 10) (d := 9) hx hb hts n_X8_make_X8 hown hK hw hv_t0 (by decide) rfl 9 (by decide) rfl rfl (hts _ k_X8_make_9) (fun _ q => q) dX8_make_166 (fun hv16 => ?_)
  refine lv_iload_n hx hb dX8_make_169 rfl (lv_at hl 2 rfl) ?_
  refine lv_iconst (v := 0) hx hb dX8_make_170 (by decide) ?_
  refine r_zast (n := 80) hx hb hK hw hv16 rfl dX8_make_171 h (fun u H locs hw h => ?_)
  refine lv_aload_n hx hb dX8_make_172 rfl (lv_at hl 0 rfl) ?_
  refine r_getC (t2 := 10) (d := 10) hx hb hts n_X8_make_X8 hown hK hw hv_t0 (by decide) rfl 10 (by decide) rfl rfl (hts _ k_X8_make_10) (fun _ q => q) dX8_make_173 (fun hv17 => ?_)
  refine lv_iload_n hx hb dX8_make_176 rfl (lv_at hl 2 rfl) ?_
  refine lv_iconst (v := 0) hx hb dX8_make_177 (by decide) ?_
  refine r_zast (n := 80) hx hb hK hw hv17 rfl dX8_make_178 h (fun u H locs hw h => ?_)
  refine lv_aload_n hx hb dX8_make_179 rfl (lv_at hl 0 rfl) ?_
  refine r_getC (t2 := 10) (d := 11) hx hb hts n_X8_make_X8 hown hK hw hv_t0 (by decide) rfl 11 (by decide) rfl rfl (hts _ k_X8_make_11) (fun _ q => q) dX8_make_180 (fun hv18 => ?_)
  refine lv_iload_n hx hb dX8_make_183 rfl (lv_at hl 2 rfl) ?_
  refine lv_iconst (v := 0) hx hb dX8_make_184 (by decide) ?_
  refine r_zast (n := 80) hx hb hK hw hv18 rfl dX8_make_185 h (fun u H locs hw h => ?_)
  refine lv_iconst (v := 0) hx hb dX8_make_186 (by decide) ?_
  refine lv_istore (lv' := [(5, .int 0), (0, .ref (ad 0)), (2, .int v2), (3, .int v3), (4, .int v4)]) hx hb dX8_make_187 hl (by decide) rfl (fun ls hl => ?_)
  exact j_X8_make_189 N C0 hA N v2 v3 v4 0 u _ _ _ hv_t0 hw (lv_sub hl [1, 2, 3, 4, 0] rfl) h
def f_X8_make_92 (N : Nat)   (v1 : Int32) (v2 : Int32) (u : Mm) : Option (Int32 × Mm) :=
  bd (f_X8_number N u) (fun x7 u => bd (f_X8_place N v2 u) (fun x8 u => if x7 < 0 then (some ((-2), u)) else (if 0 ≤ x8 then (ck (bI x7 80) (pt (sI u 4 (ix x7) v1) (fun u => ck (bI x7 80) (pt (sI u 5 (ix x7) 1) (fun u => ck (bI x7 80) (pt (sI u 8 (ix x7) 1) (fun u => ck (bI v1 10) (pt (u.1 1 (ix v1)) (fun x14 => if x14 = 0 then (f_X8_make_156 N v2 x7 x8 4 x7 u) else (f_X8_make_156 N v2 x7 x8 0 x7 u)))))))))) else (some ((-2), u)))))
set_option maxHeartbeats 4000000 in
set_option maxRecDepth 100000 in
theorem j_X8_make_92 {p : Program} {l : Launch} {e : Env} {s : State} {m : MethodId} {args : Array Value} {below : List Frame} {meth : Method} {c : Code} {D : va_G} {cy : Nat → ClassId} {L : List Nat} {ad : Nat → Nat} {A : Nat → Prop} {o : Int32 × Mm} (N : Nat)   (C0 : Cx p m meth c cX8_make (some .int) 6 s args wsX8_make RX8 D cy) (hA : ∀ q : Nat, s.heap.size ≤ q → A q)  : ∀ (v1 : Int32) (v2 : Int32) (u : Mm) (H : Heap) (locs : List Loc) (ls : Array Slot), vn L 8 0 → Wd D cy L ad A s.heap u H locs → lv_has ls 6 [(0, .ref (ad 0)), (1, .int v1), (2, .int v2)] → f_X8_make_92 N   v1 v2 u = some o → W p l e ({ frames := 5, cells := 0, slots := 0, locals := 115 } : Room) s m args below meth c H locs 0 0 (MQ below (QcI D cy L ad A o) args s 0 0 A) (F0 m 92 ls []) := by
  obtain ⟨hx, hb, hr, hml, hown, hts, hlocks, hK⟩ := id C0
  intro v1 v2 u H locs ls hv_t0 hw hl h
  unfold f_X8_make_92 at h
  refine lv_aload_n hx hb dX8_make_92 rfl (lv_at hl 0 rfl) ?_
  refine r_bI (fun o ho => r_vI (As := []) (rest := []) ⟨hx, hb, hml, hown, hts⟩ (c_X8_number l D cy L ad N u o hv_t0 ho) (cwV 0 hts gX8_make_X8_number rfl rfl rfl (by decide +kernel) ⟨Nat.le_of_ble_eq_true rfl, Nat.le_of_ble_eq_true rfl⟩) hw hK hv_t0 (by decide) rfl rfl hl.1 rfl (Nat.le_of_ble_eq_true rfl) dX8_make_93 ⟨Nat.zero_le _, Nat.zero_le _⟩) hw hA h (fun x7 u H locs hw h => ?_)
  refine lv_istore_n (lv' := [(3, .int x7), (0, .ref (ad 0)), (1, .int v1), (2, .int v2)]) hx hb dX8_make_96 rfl hl (by decide) rfl (fun ls hl => ?_)
  refine lv_aload_n hx hb dX8_make_97 rfl (lv_at hl 1 rfl) ?_
  refine lv_iload_n hx hb dX8_make_98 rfl (lv_at hl 3 rfl) ?_
  refine r_bI (fun o ho => r_vI (As := [.int v2]) (rest := []) ⟨hx, hb, hml, hown, hts⟩ (c_X8_place l D cy L ad N v2 u o hv_t0 ho) (cwV 1 hts gX8_make_X8_place rfl rfl rfl (by decide +kernel) ⟨Nat.le_of_ble_eq_true rfl, Nat.le_of_ble_eq_true rfl⟩) hw hK hv_t0 (by decide) rfl rfl hl.1 rfl (Nat.le_of_ble_eq_true rfl) dX8_make_99 ⟨Nat.zero_le _, Nat.zero_le _⟩) hw hA h (fun x8 u H locs hw h => ?_)
  refine lv_istore (lv' := [(4, .int x8), (3, .int x7), (0, .ref (ad 0)), (1, .int v1), (2, .int v2)]) hx hb dX8_make_102 hl (by decide) rfl (fun ls hl => ?_)
  refine lv_iload_n hx hb dX8_make_104 rfl (lv_at hl 1 rfl) ?_
  refine lv_if_lt (tgt := 113) hx hb dX8_make_105 (by decide) (fun hc => ?_) (fun hc => ?_)
  · rw [if_pos hc] at h
    refine lv_bipush (v := (-2)) hx hb dX8_make_113 (by decide) ?_
    exact r_iret hx hb hr hlocks hK hw h dX8_make_115
  · rw [if_neg hc] at h
    refine lv_iload hx hb dX8_make_108 (lv_at hl 0 rfl) ?_
    refine lv_if_ge (tgt := 116) hx hb dX8_make_110 (by decide) (fun hc => ?_) (fun hc => ?_)
    · rw [if_pos hc] at h
      refine lv_aload_n hx hb dX8_make_116 rfl (lv_at hl 2 rfl) ?_
      refine r_getC (t2 := 9) (d := 4) hx hb hts n_X8_make_X8 hown hK hw hv_t0 (by decide) rfl 4 (by decide) rfl rfl (hts _ k_X8_make_4) (fun _ q => q) dX8_make_117 (fun hv9 => ?_)
      refine lv_iload_n hx hb dX8_make_120 rfl (lv_at hl 1 rfl) ?_
      refine lv_iload_n hx hb dX8_make_121 rfl (lv_at hl 3 rfl) ?_
      refine r_iast (n := 80) hx hb hK hw hv9 rfl dX8_make_122 h (fun u H locs hw h => ?_)
      refine lv_aload_n hx hb dX8_make_123 rfl (lv_at hl 2 rfl) ?_
      refine r_getC (t2 := 9) (d := 5) hx hb hts n_X8_make_X8 hown hK hw hv_t0 (by decide) rfl 5 (by decide) rfl rfl (hts _ k_X8_make_5) (fun _ q => q) dX8_make_124 (fun hv10 => ?_)
      refine lv_iload_n hx hb dX8_make_127 rfl (lv_at hl 1 rfl) ?_
      refine lv_iconst (v := 1) hx hb dX8_make_128 (by decide) ?_
      refine r_iast (n := 80) hx hb hK hw hv10 rfl dX8_make_129 h (fun u H locs hw h => ?_)
      refine lv_aload_n hx hb dX8_make_130 rfl (lv_at hl 2 rfl) ?_
      refine r_getC (t2 := 9) (d := 8) hx hb hts n_X8_make_X8 hown hK hw hv_t0 (by decide) rfl 8 (by decide) rfl rfl (hts _ k_X8_make_6) (fun _ q => q) dX8_make_131 (fun hv11 => ?_)
      refine lv_iload_n hx hb dX8_make_134 rfl (lv_at hl 1 rfl) ?_
      refine lv_iconst (v := 1) hx hb dX8_make_135 (by decide) ?_
      refine r_iast (n := 80) hx hb hK hw hv11 rfl dX8_make_136 h (fun u H locs hw h => ?_)
      refine lv_aload_n hx hb dX8_make_137 rfl (lv_at hl 2 rfl) ?_
      refine r_getC (t2 := 9) (d := 6) hx hb hts n_X8_make_X8 hown hK hw hv_t0 (by decide) rfl 6 (by decide) rfl rfl (hts _ k_X8_make_7) (fun _ q => q) dX8_make_138 (fun hv12 => ?_)
      refine lv_iload_n hx hb dX8_make_141 rfl (lv_at hl 1 rfl) ?_
      refine lv_aload_n hx hb dX8_make_142 rfl (lv_at hl 2 rfl) ?_
      refine r_getC (t2 := 9) (d := 1) hx hb hts n_X8_make_X8 hown hK hw hv_t0 (by decide) rfl 1 (by decide) rfl rfl (hts _ k_X8_make_1) (fun _ q => q) dX8_make_143 (fun hv13 => ?_)
      refine lv_iload_n hx hb dX8_make_146 rfl (lv_at hl 3 rfl) ?_
      refine r_iald (n := 10) hx hb hK hw hv13 rfl dX8_make_147 h (fun x14 h => ?_)
      refine lv_if_ne (tgt := 155) hx hb dX8_make_148 (by decide) (fun hc => ?_) (fun hc => ?_)
      · rw [if_neg hc] at h
        refine lv_iconst (v := 0) hx hb dX8_make_155 (by decide) ?_
        exact j_X8_make_156 N C0 hA v2 x7 x8 0 x7 u _ _ _ hv_t0 hv12 hw (lv_sub hl [2, 4, 1, 0] rfl) h
      · rw [if_pos hc] at h
        refine lv_iconst (v := 4) hx hb dX8_make_151 (by decide) ?_
        refine lv_goto (tgt := 156) hx hb dX8_make_152 (by decide) ?_
        exact j_X8_make_156 N C0 hA v2 x7 x8 4 x7 u _ _ _ hv_t0 hv12 hw (lv_sub hl [2, 4, 1, 0] rfl) h
    · rw [if_neg hc] at h
      refine lv_bipush (v := (-2)) hx hb dX8_make_113 (by decide) ?_
      exact r_iret hx hb hr hlocks hK hw h dX8_make_115
def f_X8_make_59 (N : Nat)   (v1 : Int32) (v2 : Int32) (u : Mm) : Option (Int32 × Mm) :=
  bd (f_X8_collect N u) (fun x5 u => bd (f_X8_number N u) (fun x6 u => if x6 < 0 then (f_X8_make_92 N v1 v2 u) else (bd (f_X8_place N v2 u) (fun x21 u => if 0 ≤ x21 then (f_X8_make_92 N v1 v2 u) else (bd (f_X8_freeWords N u) (fun x22 u => if x22 < v2 then (f_X8_make_92 N v1 v2 u) else (bd (f_X8_pack N u) (fun x23 u => f_X8_make_92 N v1 v2 u))))))))
set_option maxHeartbeats 4000000 in
set_option maxRecDepth 100000 in
theorem j_X8_make_59 {p : Program} {l : Launch} {e : Env} {s : State} {m : MethodId} {args : Array Value} {below : List Frame} {meth : Method} {c : Code} {D : va_G} {cy : Nat → ClassId} {L : List Nat} {ad : Nat → Nat} {A : Nat → Prop} {o : Int32 × Mm} (N : Nat)   (C0 : Cx p m meth c cX8_make (some .int) 6 s args wsX8_make RX8 D cy) (hA : ∀ q : Nat, s.heap.size ≤ q → A q)  : ∀ (v1 : Int32) (v2 : Int32) (u : Mm) (H : Heap) (locs : List Loc) (ls : Array Slot), vn L 8 0 → Wd D cy L ad A s.heap u H locs → lv_has ls 6 [(0, .ref (ad 0)), (1, .int v1), (2, .int v2)] → f_X8_make_59 N   v1 v2 u = some o → W p l e ({ frames := 5, cells := 0, slots := 0, locals := 115 } : Room) s m args below meth c H locs 0 0 (MQ below (QcI D cy L ad A o) args s 0 0 A) (F0 m 59 ls []) := by
  obtain ⟨hx, hb, hr, hml, hown, hts, hlocks, hK⟩ := id C0
  intro v1 v2 u H locs ls hv_t0 hw hl h
  unfold f_X8_make_59 at h
  refine lv_aload_n hx hb dX8_make_59 rfl (lv_at hl 0 rfl) ?_
  refine r_bI (fun o ho => r_vI (As := []) (rest := []) ⟨hx, hb, hml, hown, hts⟩ (c_X8_collect l D cy L ad N u o hv_t0 ho) (cwV 0 hts gX8_make_X8_collect rfl rfl rfl (by decide +kernel) ⟨Nat.le_of_ble_eq_true rfl, Nat.le_of_ble_eq_true rfl⟩) hw hK hv_t0 (by decide) rfl rfl hl.1 rfl (Nat.le_of_ble_eq_true rfl) dX8_make_60 ⟨Nat.zero_le _, Nat.zero_le _⟩) hw hA h (fun x5 u H locs hw h => ?_)
  refine lv_pop hx hb dX8_make_63 rfl ?_
  refine lv_aload_n hx hb dX8_make_64 rfl (lv_at hl 0 rfl) ?_
  refine r_bI (fun o ho => r_vI (As := []) (rest := []) ⟨hx, hb, hml, hown, hts⟩ (c_X8_number l D cy L ad N u o hv_t0 ho) (cwV 0 hts gX8_make_X8_number rfl rfl rfl (by decide +kernel) ⟨Nat.le_of_ble_eq_true rfl, Nat.le_of_ble_eq_true rfl⟩) hw hK hv_t0 (by decide) rfl rfl hl.1 rfl (Nat.le_of_ble_eq_true rfl) dX8_make_65 ⟨Nat.zero_le _, Nat.zero_le _⟩) hw hA h (fun x6 u H locs hw h => ?_)
  refine lv_if_lt (tgt := 92) hx hb dX8_make_68 (by decide) (fun hc => ?_) (fun hc => ?_)
  · rw [if_pos hc] at h
    exact j_X8_make_92 N C0 hA v1 v2 u _ _ _ hv_t0 hw (lv_sub hl [0, 1, 2] rfl) h
  · rw [if_neg hc] at h
    refine lv_aload_n hx hb dX8_make_71 rfl (lv_at hl 0 rfl) ?_
    refine lv_iload_n hx hb dX8_make_72 rfl (lv_at hl 2 rfl) ?_
    refine r_bI (fun o ho => r_vI (As := [.int v2]) (rest := []) ⟨hx, hb, hml, hown, hts⟩ (c_X8_place l D cy L ad N v2 u o hv_t0 ho) (cwV 1 hts gX8_make_X8_place rfl rfl rfl (by decide +kernel) ⟨Nat.le_of_ble_eq_true rfl, Nat.le_of_ble_eq_true rfl⟩) hw hK hv_t0 (by decide) rfl rfl hl.1 rfl (Nat.le_of_ble_eq_true rfl) dX8_make_73 ⟨Nat.zero_le _, Nat.zero_le _⟩) hw hA h (fun x21 u H locs hw h => ?_)
    refine lv_if_ge (tgt := 92) hx hb dX8_make_76 (by decide) (fun hc => ?_) (fun hc => ?_)
    · rw [if_pos hc] at h
      exact j_X8_make_92 N C0 hA v1 v2 u _ _ _ hv_t0 hw (lv_sub hl [0, 1, 2] rfl) h
    · rw [if_neg hc] at h
      refine lv_aload_n hx hb dX8_make_79 rfl (lv_at hl 0 rfl) ?_
      refine r_bI (fun o ho => r_vI (As := []) (rest := []) ⟨hx, hb, hml, hown, hts⟩ (c_X8_freeWords l D cy L ad N u o hv_t0 ho) (cwV 0 hts gX8_make_X8_freeWords rfl rfl rfl (by decide +kernel) ⟨Nat.le_of_ble_eq_true rfl, Nat.le_of_ble_eq_true rfl⟩) hw hK hv_t0 (by decide) rfl rfl hl.1 rfl (Nat.le_of_ble_eq_true rfl) dX8_make_80 ⟨Nat.zero_le _, Nat.zero_le _⟩) hw hA h (fun x22 u H locs hw h => ?_)
      refine lv_iload_n hx hb dX8_make_83 rfl (lv_at hl 2 rfl) ?_
      refine lv_icmp_lt (tgt := 92) hx hb dX8_make_84 (by decide) (fun hc => ?_) (fun hc => ?_)
      · rw [if_pos hc] at h
        exact j_X8_make_92 N C0 hA v1 v2 u _ _ _ hv_t0 hw (lv_sub hl [0, 1, 2] rfl) h
      · rw [if_neg hc] at h
        refine lv_aload_n hx hb dX8_make_87 rfl (lv_at hl 0 rfl) ?_
        refine r_bI (fun o ho => r_vI (As := []) (rest := []) ⟨hx, hb, hml, hown, hts⟩ (c_X8_pack l D cy L ad N u o hv_t0 ho) (cwV 0 hts gX8_make_X8_pack rfl rfl rfl (by decide +kernel) ⟨Nat.le_of_ble_eq_true rfl, Nat.le_of_ble_eq_true rfl⟩) hw hK hv_t0 (by decide) rfl rfl hl.1 rfl (Nat.le_of_ble_eq_true rfl) dX8_make_88 ⟨Nat.zero_le _, Nat.zero_le _⟩) hw hA h (fun x23 u H locs hw h => ?_)
        refine lv_pop hx hb dX8_make_91 rfl ?_
        exact j_X8_make_92 N C0 hA v1 v2 u _ _ _ hv_t0 hw (lv_sub hl [0, 1, 2] rfl) h
def f_X8_make_25 (N : Nat)   (v1 : Int32) (w0 : Int32) (u : Mm) : Option (Int32 × Mm) :=
  pt (sI u 0 0 w0) (fun u => pt (u.1 0 0) (fun x1 => if x1 ≤ 0 then (ck (bI v1 10) (pt (u.1 2 (ix v1)) (fun x3 => bd (f_X8_place N x3 u) (fun x4 u => if x4 < 0 then (f_X8_make_59 N v1 x3 u) else (bd (f_X8_number N u) (fun x24 u => if 0 ≤ x24 then (f_X8_make_92 N v1 x3 u) else (f_X8_make_59 N v1 x3 u))))))) else (some (0, u))))
set_option maxHeartbeats 4000000 in
set_option maxRecDepth 100000 in
theorem j_X8_make_25 {p : Program} {l : Launch} {e : Env} {s : State} {m : MethodId} {args : Array Value} {below : List Frame} {meth : Method} {c : Code} {D : va_G} {cy : Nat → ClassId} {L : List Nat} {ad : Nat → Nat} {A : Nat → Prop} {o : Int32 × Mm} (N : Nat)   (C0 : Cx p m meth c cX8_make (some .int) 6 s args wsX8_make RX8 D cy) (hA : ∀ q : Nat, s.heap.size ≤ q → A q)  : ∀ (v1 : Int32) (w0 : Int32) (u : Mm) (H : Heap) (locs : List Loc) (ls : Array Slot), vn L 8 0 → vn L 8 0 → Wd D cy L ad A s.heap u H locs → lv_has ls 6 [(0, .ref (ad 0)), (1, .int v1)] → f_X8_make_25 N   v1 w0 u = some o → W p l e ({ frames := 5, cells := 0, slots := 0, locals := 115 } : Room) s m args below meth c H locs 0 0 (MQ below (QcI D cy L ad A o) args s 0 0 A) (F0 m 25 ls [.int w0, .ref (ad 0)]) := by
  obtain ⟨hx, hb, hr, hml, hown, hts, hlocks, hK⟩ := id C0
  intro v1 w0 u H locs ls hv_t0 hv_z1 hw hl h
  unfold f_X8_make_25 at h
  refine r_putI (ty := .int) hx hb hts n_X8_make_X8 tyX8 tyX8_ok nmX8 hown hK hw hv_z1 (by decide) rfl 0 (by decide) rfl (hts _ k_X8_make_2) (fun _ q => q) rfl rfl rfl rfl dX8_make_25 h (fun u H locs hw h => ?_)
  refine lv_aload_n hx hb dX8_make_28 rfl (lv_at hl 0 rfl) ?_
  refine r_getI hx hb hts n_X8_make_X8 hown hK hw hv_t0 (by decide) rfl 0 (by decide) rfl (hts _ k_X8_make_2) (fun _ q => q) dX8_make_29 h (fun x1 h => ?_)
  refine lv_if_le (tgt := 37) hx hb dX8_make_32 (by decide) (fun hc => ?_) (fun hc => ?_)
  · rw [if_pos hc] at h
    refine lv_aload_n hx hb dX8_make_37 rfl (lv_at hl 0 rfl) ?_
    refine r_getC (t2 := 9) (d := 2) hx hb hts n_X8_make_X8 hown hK hw hv_t0 (by decide) rfl 2 (by decide) rfl rfl (hts _ k_X8_make_3) (fun _ q => q) dX8_make_38 (fun hv2 => ?_)
    refine lv_iload_n hx hb dX8_make_41 rfl (lv_at hl 1 rfl) ?_
    refine r_iald (n := 10) hx hb hK hw hv2 rfl dX8_make_42 h (fun x3 h => ?_)
    refine lv_istore_n (lv' := [(2, .int x3), (0, .ref (ad 0)), (1, .int v1)]) hx hb dX8_make_43 rfl hl (by decide) rfl (fun ls hl => ?_)
    refine lv_aload_n hx hb dX8_make_44 rfl (lv_at hl 1 rfl) ?_
    refine lv_iload_n hx hb dX8_make_45 rfl (lv_at hl 0 rfl) ?_
    refine r_bI (fun o ho => r_vI (As := [.int x3]) (rest := []) ⟨hx, hb, hml, hown, hts⟩ (c_X8_place l D cy L ad N x3 u o hv_t0 ho) (cwV 1 hts gX8_make_X8_place rfl rfl rfl (by decide +kernel) ⟨Nat.le_of_ble_eq_true rfl, Nat.le_of_ble_eq_true rfl⟩) hw hK hv_t0 (by decide) rfl rfl hl.1 rfl (Nat.le_of_ble_eq_true rfl) dX8_make_46 ⟨Nat.zero_le _, Nat.zero_le _⟩) hw hA h (fun x4 u H locs hw h => ?_)
    refine lv_if_lt (tgt := 59) hx hb dX8_make_49 (by decide) (fun hc => ?_) (fun hc => ?_)
    · rw [if_pos hc] at h
      exact j_X8_make_59 N C0 hA v1 x3 u _ _ _ hv_t0 hw (lv_sub hl [1, 2, 0] rfl) h
    · rw [if_neg hc] at h
      refine lv_aload_n hx hb dX8_make_52 rfl (lv_at hl 1 rfl) ?_
      refine r_bI (fun o ho => r_vI (As := []) (rest := []) ⟨hx, hb, hml, hown, hts⟩ (c_X8_number l D cy L ad N u o hv_t0 ho) (cwV 0 hts gX8_make_X8_number rfl rfl rfl (by decide +kernel) ⟨Nat.le_of_ble_eq_true rfl, Nat.le_of_ble_eq_true rfl⟩) hw hK hv_t0 (by decide) rfl rfl hl.1 rfl (Nat.le_of_ble_eq_true rfl) dX8_make_53 ⟨Nat.zero_le _, Nat.zero_le _⟩) hw hA h (fun x24 u H locs hw h => ?_)
      refine lv_if_ge (tgt := 92) hx hb dX8_make_56 (by decide) (fun hc => ?_) (fun hc => ?_)
      · rw [if_pos hc] at h
        exact j_X8_make_92 N C0 hA v1 x3 u _ _ _ hv_t0 hw (lv_sub hl [1, 2, 0] rfl) h
      · rw [if_neg hc] at h
        exact j_X8_make_59 N C0 hA v1 x3 u _ _ _ hv_t0 hw (lv_sub hl [1, 2, 0] rfl) h
  · rw [if_neg hc] at h
    refine lv_iconst (v := 0) hx hb dX8_make_35 (by decide) ?_
    exact r_iret hx hb hr hlocks hK hw h dX8_make_36
def f_X8_make_20 (N : Nat)   (v1 : Int32) (u : Mm) : Option (Int32 × Mm) :=
  f_X8_make_25 N v1 1 u
set_option maxHeartbeats 4000000 in
set_option maxRecDepth 100000 in
theorem j_X8_make_20 {p : Program} {l : Launch} {e : Env} {s : State} {m : MethodId} {args : Array Value} {below : List Frame} {meth : Method} {c : Code} {D : va_G} {cy : Nat → ClassId} {L : List Nat} {ad : Nat → Nat} {A : Nat → Prop} {o : Int32 × Mm} (N : Nat)   (C0 : Cx p m meth c cX8_make (some .int) 6 s args wsX8_make RX8 D cy) (hA : ∀ q : Nat, s.heap.size ≤ q → A q)  : ∀ (v1 : Int32) (u : Mm) (H : Heap) (locs : List Loc) (ls : Array Slot), vn L 8 0 → vn L 8 0 → Wd D cy L ad A s.heap u H locs → lv_has ls 6 [(0, .ref (ad 0)), (1, .int v1)] → f_X8_make_20 N   v1 u = some o → W p l e ({ frames := 5, cells := 0, slots := 0, locals := 115 } : Room) s m args below meth c H locs 0 0 (MQ below (QcI D cy L ad A o) args s 0 0 A) (F0 m 20 ls [.ref (ad 0)]) := by
  obtain ⟨hx, hb, hr, hml, hown, hts, hlocks, hK⟩ := id C0
  intro v1 u H locs ls hv_t0 hv_z0 hw hl h
  unfold f_X8_make_20 at h
  refine lv_iconst (v := 1) hx hb dX8_make_20 (by decide) ?_
  refine lv_goto (tgt := 25) hx hb dX8_make_21 (by decide) ?_
  exact j_X8_make_25 N C0 hA v1 1 u _ _ _ hv_t0 hv_z0 hw (lv_sub hl [0, 1] rfl) h
def f_X8_make (N : Nat) (p0 : Int32) (u : Mm) : Option (Int32 × Mm) :=
  if p0 < 0 then (f_X8_make_20 N p0 u) else (if 10 ≤ p0 then (f_X8_make_20 N p0 u) else (ck (bI p0 10) (pt (u.1 1 (ix p0)) (fun x26 => if 0 ≤ x26 then (f_X8_make_25 N p0 0 u) else (f_X8_make_20 N p0 u)))))
set_option maxHeartbeats 4000000 in
set_option maxRecDepth 100000 in
theorem c_X8_make (l : Launch) (D : va_G) (cy : Nat → ClassId) (L : List Nat) (ad : Nat → Nat) (N : Nat) (p0 : Int32) (u : Mm) (o : Int32 × Mm) (h_this : vn L 8 0) (h : f_X8_make N p0 u = some o) : MtI l yX8_make wsX8_make ({ frames := 5, cells := 0, slots := 0, locals := 115 } : Room) D cy L ad [.ref (ad 0), .int p0] u o := by
  intro sz
  refine Met.ofW (cc := cX8_make) (maxL := 6) (ret := (some .int)) (by decide) rfl ?_
  intro p e s m args below meth c s₁ B hml hv
  obtain ⟨rfl, hsz, hP, hK, hD0, hok⟩ := hv
  have hx := B.exec
  have hb := B.bytes
  have hr := B.returns
  have hts := atoms_spec (ws := wsX8_make) B.pre
  have hown : s.vm.findClass RX8 = some m.cls := findClass_of_methodNamed B.named
  have hlocks := B.notSynchronized
  subst hsz
  have hw := wd_start hP hD0 hok
  have hA : ∀ q : Nat, s.heap.size ≤ q → va_A (wl cy L ad u) s.heap.size q := fun q h => Or.inr h
  generalize va_A (wl cy L ad u) s.heap.size = A at hw hA ⊢
  have C0 : Cx p m meth c cX8_make (some .int) 6 s _ wsX8_make RX8 D cy := ⟨hx, hb, hr, hml, hown, hts, hlocks, hK⟩
  have hl := lv_entry ([.ref (ad 0), .int p0]) (n := 6) (Nat.le_of_ble_eq_true rfl)
  rw [lg_entry_eq]
  generalize (lg_sl ([.ref (ad 0), .int p0]) ++ List.replicate (6 - (lg_sl ([.ref (ad 0), .int p0])).length) Slot.unset).toArray = ls at hl ⊢
  have hl : lv_has ls 6 [(0, .ref (ad 0)), (1, .int p0)] := hl
  unfold f_X8_make at h
  refine lv_aload_n hx hb dX8_make_0 rfl (lv_at hl 0 rfl) ?_
  refine lv_iload_n hx hb dX8_make_1 rfl (lv_at hl 1 rfl) ?_
  refine lv_if_lt (tgt := 20) hx hb dX8_make_2 (by decide) (fun hc => ?_) (fun hc => ?_)
  · rw [if_pos hc] at h
    exact j_X8_make_20 N C0 hA p0 u _ _ _ h_this h_this hw (lv_sub hl [0, 1] rfl) h
  · rw [if_neg hc] at h
    refine lv_iload_n hx hb dX8_make_5 rfl (lv_at hl 1 rfl) ?_
    refine lv_bipush (v := 10) hx hb dX8_make_6 (by decide) ?_
    refine lv_icmp_ge (tgt := 20) hx hb dX8_make_8 (by decide) (fun hc => ?_) (fun hc => ?_)
    · rw [if_pos hc] at h
      exact j_X8_make_20 N C0 hA p0 u _ _ _ h_this h_this hw (lv_sub hl [0, 1] rfl) h
    · rw [if_neg hc] at h
      refine lv_aload_n hx hb dX8_make_11 rfl (lv_at hl 0 rfl) ?_
      refine r_getC (t2 := 9) (d := 1) hx hb hts n_X8_make_X8 hown hK hw h_this (by decide) rfl 1 (by decide) rfl rfl (hts _ k_X8_make_1) (fun _ q => q) dX8_make_12 (fun hv25 => ?_)
      refine lv_iload_n hx hb dX8_make_15 rfl (lv_at hl 1 rfl) ?_
      refine r_iald (n := 10) hx hb hK hw hv25 rfl dX8_make_16 h (fun x26 h => ?_)
      refine lv_if_ge (tgt := 24) hx hb dX8_make_17 (by decide) (fun hc => ?_) (fun hc => ?_)
      · rw [if_pos hc] at h
        refine lv_iconst (v := 0) hx hb dX8_make_24 (by decide) ?_
        exact j_X8_make_25 N C0 hA p0 0 u _ _ _ h_this h_this hw (lv_sub hl [0, 1] rfl) h
      · rw [if_neg hc] at h
        exact j_X8_make_20 N C0 hA p0 u _ _ _ h_this h_this hw (lv_sub hl [0, 1] rfl) h
theorem k_X8_type_1 : Cond.fieldLink RX8 1 "RingHeapModel" "thrown" "I" ∈ wsX8_type := List.mem_of_getElem? (i := 1) (by rfl)
theorem n_X8_type_X8 : ∀ w ∈ u_ws RX8 TX8 31, w ∈ wsX8_type := fun _ h => List.mem_cons_of_mem _ (List.mem_append_right _ h)
theorem k_X8_type_2 : Cond.fieldLink RX8 13 "RingHeapModel" "typeFields" "[I" ∈ wsX8_type := List.mem_of_getElem? (i := 2) (by rfl)
theorem k_X8_type_3 : Cond.fieldLink RX8 17 "RingHeapModel" "typeWords" "[I" ∈ wsX8_type := List.mem_of_getElem? (i := 3) (by rfl)
theorem k_X8_type_4 : Cond.fieldLink RX8 20 "RingHeapModel" "typeWish" "[Z" ∈ wsX8_type := List.mem_of_getElem? (i := 4) (by rfl)
def f_X8_type_40 (N : Nat)   (v1 : Int32) (v2 : Int32) (v3 : Int32) (v4 : Int32) (w0 : Int32) (u : Mm) : Option (Int32 × Mm) :=
  pt (sI u 0 0 w0) (fun u => pt (u.1 0 0) (fun x1 => if 0 < x1 then (some (0, u)) else (ck (bI v1 10) (pt (u.1 1 (ix v1)) (fun x3 => if x3 < 0 then (ck (bI v1 10) (pt (sI u 1 (ix v1) v2) (fun u => ck (bI v1 10) (pt (sI u 2 (ix v1) ((2 + v2) + v3)) (fun u => ck (bI v1 10) (pt (sI u 3 (ix v1) (vp_nar .boolean v4)) (fun u => some (1, u)))))))) else (some (0, u)))))))
set_option maxHeartbeats 4000000 in
set_option maxRecDepth 100000 in
theorem j_X8_type_40 {p : Program} {l : Launch} {e : Env} {s : State} {m : MethodId} {args : Array Value} {below : List Frame} {meth : Method} {c : Code} {D : va_G} {cy : Nat → ClassId} {L : List Nat} {ad : Nat → Nat} {A : Nat → Prop} {o : Int32 × Mm} (N : Nat)   (C0 : Cx p m meth c cX8_type (some .boolean) 5 s args wsX8_type RX8 D cy) (hA : ∀ q : Nat, s.heap.size ≤ q → A q)  : ∀ (v1 : Int32) (v2 : Int32) (v3 : Int32) (v4 : Int32) (w0 : Int32) (u : Mm) (H : Heap) (locs : List Loc) (ls : Array Slot), vn L 8 0 → vn L 8 0 → Wd D cy L ad A s.heap u H locs → lv_has ls 5 [(0, .ref (ad 0)), (1, .int v1), (2, .int v2), (3, .int v3), (4, .int v4)] → f_X8_type_40 N   v1 v2 v3 v4 w0 u = some o → W p l e ({ frames := 0, cells := 0, slots := 0, locals := 0 } : Room) s m args below meth c H locs 0 0 (MQ below (QcI D cy L ad A o) args s 0 0 A) (F0 m 40 ls [.int w0, .ref (ad 0)]) := by
  obtain ⟨hx, hb, hr, hml, hown, hts, hlocks, hK⟩ := id C0
  intro v1 v2 v3 v4 w0 u H locs ls hv_t0 hv_z1 hw hl h
  unfold f_X8_type_40 at h
  refine r_putI (ty := .int) hx hb hts n_X8_type_X8 tyX8 tyX8_ok nmX8 hown hK hw hv_z1 (by decide) rfl 0 (by decide) rfl (hts _ k_X8_type_1) (fun _ q => q) rfl rfl rfl rfl dX8_type_40 h (fun u H locs hw h => ?_)
  refine lv_aload_n hx hb dX8_type_43 rfl (lv_at hl 0 rfl) ?_
  refine r_getI hx hb hts n_X8_type_X8 hown hK hw hv_t0 (by decide) rfl 0 (by decide) rfl (hts _ k_X8_type_1) (fun _ q => q) dX8_type_44 h (fun x1 h => ?_)
  refine lv_if_gt (tgt := 59) hx hb dX8_type_47 (by decide) (fun hc => ?_) (fun hc => ?_)
  · rw [if_pos hc] at h
    refine lv_iconst (v := 0) hx hb dX8_type_59 (by decide) ?_
    exact r_zret hx hb hr hlocks hK hw (by decide) h dX8_type_60
  · rw [if_neg hc] at h
    refine lv_aload_n hx hb dX8_type_50 rfl (lv_at hl 0 rfl) ?_
    refine r_getC (t2 := 9) (d := 1) hx hb hts n_X8_type_X8 hown hK hw hv_t0 (by decide) rfl 1 (by decide) rfl rfl (hts _ k_X8_type_2) (fun _ q => q) dX8_type_51 (fun hv2 => ?_)
    refine lv_iload_n hx hb dX8_type_54 rfl (lv_at hl 1 rfl) ?_
    refine r_iald (n := 10) hx hb hK hw hv2 rfl dX8_type_55 h (fun x3 h => ?_)
    refine lv_if_lt (tgt := 61) hx hb dX8_type_56 (by decide) (fun hc => ?_) (fun hc => ?_)
    · rw [if_pos hc] at h
      refine lv_aload_n hx hb dX8_type_61 rfl (lv_at hl 0 rfl) ?_
      refine r_getC (t2 := 9) (d := 1) hx hb hts n_X8_type_X8 hown hK hw hv_t0 (by decide) rfl 1 (by decide) rfl rfl (hts _ k_X8_type_2) (fun _ q => q) dX8_type_62 (fun hv4 => ?_)
      refine lv_iload_n hx hb dX8_type_65 rfl (lv_at hl 1 rfl) ?_
      refine lv_iload_n hx hb dX8_type_66 rfl (lv_at hl 2 rfl) ?_
      refine r_iast (n := 10) hx hb hK hw hv4 rfl dX8_type_67 h (fun u H locs hw h => ?_)
      refine lv_aload_n hx hb dX8_type_68 rfl (lv_at hl 0 rfl) ?_
      refine r_getC (t2 := 9) (d := 2) hx hb hts n_X8_type_X8 hown hK hw hv_t0 (by decide) rfl 2 (by decide) rfl rfl (hts _ k_X8_type_3) (fun _ q => q) dX8_type_69 (fun hv5 => ?_)
      refine lv_iload_n hx hb dX8_type_72 rfl (lv_at hl 1 rfl) ?_
      refine lv_iconst (v := 2) hx hb dX8_type_73 (by decide) ?_
      refine lv_iload_n hx hb dX8_type_74 rfl (lv_at hl 2 rfl) ?_
      refine lv_iadd hx hb dX8_type_75 ?_
      refine lv_iload_n hx hb dX8_type_76 rfl (lv_at hl 3 rfl) ?_
      refine lv_iadd hx hb dX8_type_77 ?_
      refine r_iast (n := 10) hx hb hK hw hv5 rfl dX8_type_78 h (fun u H locs hw h => ?_)
      refine lv_aload_n hx hb dX8_type_79 rfl (lv_at hl 0 rfl) ?_
      refine r_getC (t2 := 10) (d := 3) hx hb hts n_X8_type_X8 hown hK hw hv_t0 (by decide) rfl 3 (by decide) rfl rfl (hts _ k_X8_type_4) (fun _ q => q) dX8_type_80 (fun hv6 => ?_)
      refine lv_iload_n hx hb dX8_type_83 rfl (lv_at hl 1 rfl) ?_
      refine lv_iload hx hb dX8_type_84 (lv_at hl 4 rfl) ?_
      refine r_zast (n := 10) hx hb hK hw hv6 rfl dX8_type_86 h (fun u H locs hw h => ?_)
      refine lv_iconst (v := 1) hx hb dX8_type_87 (by decide) ?_
      exact r_zret hx hb hr hlocks hK hw (by decide) h dX8_type_88
    · rw [if_neg hc] at h
      refine lv_iconst (v := 0) hx hb dX8_type_59 (by decide) ?_
      exact r_zret hx hb hr hlocks hK hw (by decide) h dX8_type_60
def f_X8_type_11 (N : Nat)   (v1 : Int32) (v2 : Int32) (v3 : Int32) (v4 : Int32) (u : Mm) : Option (Int32 × Mm) :=
  f_X8_type_40 N v1 v2 v3 v4 1 u
set_option maxHeartbeats 4000000 in
set_option maxRecDepth 100000 in
theorem j_X8_type_11 {p : Program} {l : Launch} {e : Env} {s : State} {m : MethodId} {args : Array Value} {below : List Frame} {meth : Method} {c : Code} {D : va_G} {cy : Nat → ClassId} {L : List Nat} {ad : Nat → Nat} {A : Nat → Prop} {o : Int32 × Mm} (N : Nat)   (C0 : Cx p m meth c cX8_type (some .boolean) 5 s args wsX8_type RX8 D cy) (hA : ∀ q : Nat, s.heap.size ≤ q → A q)  : ∀ (v1 : Int32) (v2 : Int32) (v3 : Int32) (v4 : Int32) (u : Mm) (H : Heap) (locs : List Loc) (ls : Array Slot), vn L 8 0 → vn L 8 0 → Wd D cy L ad A s.heap u H locs → lv_has ls 5 [(0, .ref (ad 0)), (1, .int v1), (2, .int v2), (3, .int v3), (4, .int v4)] → f_X8_type_11 N   v1 v2 v3 v4 u = some o → W p l e ({ frames := 0, cells := 0, slots := 0, locals := 0 } : Room) s m args below meth c H locs 0 0 (MQ below (QcI D cy L ad A o) args s 0 0 A) (F0 m 11 ls [.ref (ad 0)]) := by
  obtain ⟨hx, hb, hr, hml, hown, hts, hlocks, hK⟩ := id C0
  intro v1 v2 v3 v4 u H locs ls hv_t0 hv_z0 hw hl h
  unfold f_X8_type_11 at h
  refine lv_iconst (v := 1) hx hb dX8_type_11 (by decide) ?_
  refine lv_goto (tgt := 40) hx hb dX8_type_12 (by decide) ?_
  exact j_X8_type_40 N C0 hA v1 v2 v3 v4 1 u _ _ _ hv_t0 hv_z0 hw (lv_sub hl [0, 1, 2, 3, 4] rfl) h
def f_X8_type_35 (N : Nat)   (v1 : Int32) (v2 : Int32) (v3 : Int32) (v4 : Int32) (u : Mm) : Option (Int32 × Mm) :=
  f_X8_type_40 N v1 v2 v3 v4 2 u
set_option maxHeartbeats 4000000 in
set_option maxRecDepth 100000 in
theorem j_X8_type_35 {p : Program} {l : Launch} {e : Env} {s : State} {m : MethodId} {args : Array Value} {below : List Frame} {meth : Method} {c : Code} {D : va_G} {cy : Nat → ClassId} {L : List Nat} {ad : Nat → Nat} {A : Nat → Prop} {o : Int32 × Mm} (N : Nat)   (C0 : Cx p m meth c cX8_type (some .boolean) 5 s args wsX8_type RX8 D cy) (hA : ∀ q : Nat, s.heap.size ≤ q → A q)  : ∀ (v1 : Int32) (v2 : Int32) (v3 : Int32) (v4 : Int32) (u : Mm) (H : Heap) (locs : List Loc) (ls : Array Slot), vn L 8 0 → vn L 8 0 → Wd D cy L ad A s.heap u H locs → lv_has ls 5 [(0, .ref (ad 0)), (1, .int v1), (2, .int v2), (3, .int v3), (4, .int v4)] → f_X8_type_35 N   v1 v2 v3 v4 u = some o → W p l e ({ frames := 0, cells := 0, slots := 0, locals := 0 } : Room) s m args below meth c H locs 0 0 (MQ below (QcI D cy L ad A o) args s 0 0 A) (F0 m 35 ls [.ref (ad 0)]) := by
  obtain ⟨hx, hb, hr, hml, hown, hts, hlocks, hK⟩ := id C0
  intro v1 v2 v3 v4 u H locs ls hv_t0 hv_z0 hw hl h
  unfold f_X8_type_35 at h
  refine lv_iconst (v := 2) hx hb dX8_type_35 (by decide) ?_
  refine lv_goto (tgt := 40) hx hb dX8_type_36 (by decide) ?_
  exact j_X8_type_40 N C0 hA v1 v2 v3 v4 2 u _ _ _ hv_t0 hv_z0 hw (lv_sub hl [0, 1, 2, 3, 4] rfl) h
def f_X8_type (N : Nat) (p0 : Int32) (p1 : Int32) (p2 : Int32) (p3 : Int32) (u : Mm) : Option (Int32 × Mm) :=
  if p0 < 0 then (f_X8_type_11 N p0 p1 p2 p3 u) else (if p0 < 10 then (if p1 < 0 then (f_X8_type_35 N p0 p1 p2 p3 u) else (if 6 < p1 then (f_X8_type_35 N p0 p1 p2 p3 u) else (if p2 < 0 then (f_X8_type_35 N p0 p1 p2 p3 u) else (if p2 ≤ 60 then (f_X8_type_40 N p0 p1 p2 p3 0 u) else (f_X8_type_35 N p0 p1 p2 p3 u))))) else (f_X8_type_11 N p0 p1 p2 p3 u))
set_option maxHeartbeats 4000000 in
set_option maxRecDepth 100000 in
theorem c_X8_type (l : Launch) (D : va_G) (cy : Nat → ClassId) (L : List Nat) (ad : Nat → Nat) (N : Nat) (p0 : Int32) (p1 : Int32) (p2 : Int32) (p3 : Int32) (u : Mm) (o : Int32 × Mm) (h_this : vn L 8 0) (h : f_X8_type N p0 p1 p2 p3 u = some o) : MtI l yX8_type wsX8_type ({ frames := 0, cells := 0, slots := 0, locals := 0 } : Room) D cy L ad [.ref (ad 0), .int p0, .int p1, .int p2, .int p3] u o := by
  intro sz
  refine Met.ofW (cc := cX8_type) (maxL := 5) (ret := (some .boolean)) (by decide) rfl ?_
  intro p e s m args below meth c s₁ B hml hv
  obtain ⟨rfl, hsz, hP, hK, hD0, hok⟩ := hv
  have hx := B.exec
  have hb := B.bytes
  have hr := B.returns
  have hts := atoms_spec (ws := wsX8_type) B.pre
  have hown : s.vm.findClass RX8 = some m.cls := findClass_of_methodNamed B.named
  have hlocks := B.notSynchronized
  subst hsz
  have hw := wd_start hP hD0 hok
  have hA : ∀ q : Nat, s.heap.size ≤ q → va_A (wl cy L ad u) s.heap.size q := fun q h => Or.inr h
  generalize va_A (wl cy L ad u) s.heap.size = A at hw hA ⊢
  have C0 : Cx p m meth c cX8_type (some .boolean) 5 s _ wsX8_type RX8 D cy := ⟨hx, hb, hr, hml, hown, hts, hlocks, hK⟩
  have hl := lv_entry ([.ref (ad 0), .int p0, .int p1, .int p2, .int p3]) (n := 5) (Nat.le_of_ble_eq_true rfl)
  rw [lg_entry_eq]
  generalize (lg_sl ([.ref (ad 0), .int p0, .int p1, .int p2, .int p3]) ++ List.replicate (5 - (lg_sl ([.ref (ad 0), .int p0, .int p1, .int p2, .int p3])).length) Slot.unset).toArray = ls at hl ⊢
  have hl : lv_has ls 5 [(0, .ref (ad 0)), (1, .int p0), (2, .int p1), (3, .int p2), (4, .int p3)] := hl
  unfold f_X8_type at h
  refine lv_aload_n hx hb dX8_type_0 rfl (lv_at hl 0 rfl) ?_
  refine lv_iload_n hx hb dX8_type_1 rfl (lv_at hl 1 rfl) ?_
  refine lv_if_lt (tgt := 11) hx hb dX8_type_2 (by decide) (fun hc => ?_) (fun hc => ?_)
  · rw [if_pos hc] at h
    exact j_X8_type_11 N C0 hA p0 p1 p2 p3 u _ _ _ h_this h_this hw (lv_sub hl [0, 1, 2, 3, 4] rfl) h
  · rw [if_neg hc] at h
    refine lv_iload_n hx hb dX8_type_5 rfl (lv_at hl 1 rfl) ?_
    refine lv_bipush (v := 10) hx hb dX8_type_6 (by decide) ?_
    refine lv_icmp_lt (tgt := 15) hx hb dX8_type_8 (by decide) (fun hc => ?_) (fun hc => ?_)
    · rw [if_pos hc] at h
      refine lv_iload_n hx hb dX8_type_15 rfl (lv_at hl 2 rfl) ?_
      refine lv_if_lt (tgt := 35) hx hb dX8_type_16 (by decide) (fun hc => ?_) (fun hc => ?_)
      · rw [if_pos hc] at h
        exact j_X8_type_35 N C0 hA p0 p1 p2 p3 u _ _ _ h_this h_this hw (lv_sub hl [0, 1, 2, 3, 4] rfl) h
      · rw [if_neg hc] at h
        refine lv_iload_n hx hb dX8_type_19 rfl (lv_at hl 2 rfl) ?_
        refine lv_bipush (v := 6) hx hb dX8_type_20 (by decide) ?_
        refine lv_icmp_gt (tgt := 35) hx hb dX8_type_22 (by decide) (fun hc => ?_) (fun hc => ?_)
        · rw [if_pos hc] at h
          exact j_X8_type_35 N C0 hA p0 p1 p2 p3 u _ _ _ h_this h_this hw (lv_sub hl [0, 1, 2, 3, 4] rfl) h
        · rw [if_neg hc] at h
          refine lv_iload_n hx hb dX8_type_25 rfl (lv_at hl 3 rfl) ?_
          refine lv_if_lt (tgt := 35) hx hb dX8_type_26 (by decide) (fun hc => ?_) (fun hc => ?_)
          · rw [if_pos hc] at h
            exact j_X8_type_35 N C0 hA p0 p1 p2 p3 u _ _ _ h_this h_this hw (lv_sub hl [0, 1, 2, 3, 4] rfl) h
          · rw [if_neg hc] at h
            refine lv_iload_n hx hb dX8_type_29 rfl (lv_at hl 3 rfl) ?_
            refine lv_bipush (v := 60) hx hb dX8_type_30 (by decide) ?_
            refine lv_icmp_le (tgt := 39) hx hb dX8_type_32 (by decide) (fun hc => ?_) (fun hc => ?_)
            · rw [if_pos hc] at h
              refine lv_iconst (v := 0) hx hb dX8_type_39 (by decide) ?_
              exact j_X8_type_40 N C0 hA p0 p1 p2 p3 0 u _ _ _ h_this h_this hw (lv_sub hl [0, 1, 2, 3, 4] rfl) h
            · rw [if_neg hc] at h
              exact j_X8_type_35 N C0 hA p0 p1 p2 p3 u _ _ _ h_this h_this hw (lv_sub hl [0, 1, 2, 3, 4] rfl) h
    · rw [if_neg hc] at h
      exact j_X8_type_11 N C0 hA p0 p1 p2 p3 u _ _ _ h_this h_this hw (lv_sub hl [0, 1, 2, 3, 4] rfl) h
theorem k_X8_hold_1 : Cond.fieldLink RX8 1 "RingHeapModel" "thrown" "I" ∈ wsX8_hold := List.mem_of_getElem? (i := 1) (by rfl)
theorem n_X8_hold_X8 : ∀ w ∈ u_ws RX8 TX8 31, w ∈ wsX8_hold := fun _ h => List.mem_cons_of_mem _ (List.mem_append_right _ h)
theorem k_X8_hold_2 : Cond.fieldLink RX8 36 "RingHeapModel" "hands" "[I" ∈ wsX8_hold := List.mem_of_getElem? (i := 2) (by rfl)
theorem k_X8_hold_3 : Cond.fieldLink RX8 27 "RingHeapModel" "counts" "[I" ∈ wsX8_hold := List.mem_of_getElem? (i := 3) (by rfl)
def f_X8_hold (N : Nat) (p0 : Int32) (u : Mm) : Option (Int32 × Mm) :=
  pt (sI u 0 0 0) (fun u => bd (f_X8_isWhole N p0 u) (fun x1 u => if x1 = 0 then (some ((-1), u)) else (ck (bI p0 80) (pt (u.1 8 (ix p0)) (fun x3 => ck (bI p0 80) (pt (sI u 8 (ix p0) (x3 + 1)) (fun u => bv (f_X8_more N p0 u) (fun u => ck (bI p0 80) (pt (u.1 5 (ix p0)) (fun x5 => some (x5, u)))))))))))
set_option maxHeartbeats 4000000 in
set_option maxRecDepth 100000 in
theorem c_X8_hold (l : Launch) (D : va_G) (cy : Nat → ClassId) (L : List Nat) (ad : Nat → Nat) (N : Nat) (p0 : Int32) (u : Mm) (o : Int32 × Mm) (h_this : vn L 8 0) (h : f_X8_hold N p0 u = some o) : MtI l yX8_hold wsX8_hold ({ frames := 2, cells := 0, slots := 0, locals := 43 } : Room) D cy L ad [.ref (ad 0), .int p0] u o := by
  intro sz
  refine Met.ofW (cc := cX8_hold) (maxL := 2) (ret := (some .int)) (by decide) rfl ?_
  intro p e s m args below meth c s₁ B hml hv
  obtain ⟨rfl, hsz, hP, hK, hD0, hok⟩ := hv
  have hx := B.exec
  have hb := B.bytes
  have hr := B.returns
  have hts := atoms_spec (ws := wsX8_hold) B.pre
  have hown : s.vm.findClass RX8 = some m.cls := findClass_of_methodNamed B.named
  have hlocks := B.notSynchronized
  subst hsz
  have hw := wd_start hP hD0 hok
  have hA : ∀ q : Nat, s.heap.size ≤ q → va_A (wl cy L ad u) s.heap.size q := fun q h => Or.inr h
  generalize va_A (wl cy L ad u) s.heap.size = A at hw hA ⊢
  have C0 : Cx p m meth c cX8_hold (some .int) 2 s _ wsX8_hold RX8 D cy := ⟨hx, hb, hr, hml, hown, hts, hlocks, hK⟩
  have hl := lv_entry ([.ref (ad 0), .int p0]) (n := 2) (Nat.le_of_ble_eq_true rfl)
  rw [lg_entry_eq]
  generalize (lg_sl ([.ref (ad 0), .int p0]) ++ List.replicate (2 - (lg_sl ([.ref (ad 0), .int p0])).length) Slot.unset).toArray = ls at hl ⊢
  have hl : lv_has ls 2 [(0, .ref (ad 0)), (1, .int p0)] := hl
  unfold f_X8_hold at h
  refine lv_aload_n hx hb dX8_hold_0 rfl (lv_at hl 0 rfl) ?_
  refine lv_iconst (v := 0) hx hb dX8_hold_1 (by decide) ?_
  refine r_putI (ty := .int) hx hb hts n_X8_hold_X8 tyX8 tyX8_ok nmX8 hown hK hw h_this (by decide) rfl 0 (by decide) rfl (hts _ k_X8_hold_1) (fun _ q => q) rfl rfl rfl rfl dX8_hold_2 h (fun u H locs hw h => ?_)
  refine lv_aload_n hx hb dX8_hold_5 rfl (lv_at hl 0 rfl) ?_
  refine lv_iload_n hx hb dX8_hold_6 rfl (lv_at hl 1 rfl) ?_
  refine r_bI (fun o ho => r_vI (As := [.int p0]) (rest := []) ⟨hx, hb, hml, hown, hts⟩ (c_X8_isWhole l D cy L ad N p0 u o h_this ho) (cwV 1 hts gX8_hold_X8_isWhole rfl rfl rfl (by decide +kernel) ⟨Nat.le_of_ble_eq_true rfl, Nat.le_of_ble_eq_true rfl⟩) hw hK h_this (by decide) rfl rfl hl.1 rfl (Nat.le_of_ble_eq_true rfl) dX8_hold_7 ⟨Nat.zero_le _, Nat.zero_le _⟩) hw hA h (fun x1 u H locs hw h => ?_)
  refine lv_if_ne (tgt := 15) hx hb dX8_hold_10 (by decide) (fun hc => ?_) (fun hc => ?_)
  · rw [if_neg hc] at h
    refine lv_aload_n hx hb dX8_hold_15 rfl (lv_at hl 0 rfl) ?_
    refine r_getC (t2 := 9) (d := 8) hx hb hts n_X8_hold_X8 hown hK hw h_this (by decide) rfl 8 (by decide) rfl rfl (hts _ k_X8_hold_2) (fun _ q => q) dX8_hold_16 (fun hv2 => ?_)
    refine lv_iload_n hx hb dX8_hold_19 rfl (lv_at hl 1 rfl) ?_
    refine lv_dup2_11 hx hb dX8_hold_20 rfl rfl ?_
    refine r_iald (n := 80) hx hb hK hw hv2 rfl dX8_hold_21 h (fun x3 h => ?_)
    refine lv_iconst (v := 1) hx hb dX8_hold_22 (by decide) ?_
    refine lv_iadd hx hb dX8_hold_23 ?_
    refine r_iast (n := 80) hx hb hK hw hv2 rfl dX8_hold_24 h (fun u H locs hw h => ?_)
    refine lv_aload_n hx hb dX8_hold_25 rfl (lv_at hl 0 rfl) ?_
    refine lv_iload_n hx hb dX8_hold_26 rfl (lv_at hl 1 rfl) ?_
    refine r_bV (fun o ho => r_vV (As := [.int p0]) (rest := []) ⟨hx, hb, hml, hown, hts⟩ (c_X8_more l D cy L ad N p0 u o h_this ho) (cwV 1 hts gX8_hold_X8_more rfl rfl rfl (by decide +kernel) ⟨Nat.le_of_ble_eq_true rfl, Nat.le_of_ble_eq_true rfl⟩) hw hK h_this (by decide) rfl rfl hl.1 rfl (Nat.le_of_ble_eq_true rfl) dX8_hold_27 ⟨Nat.zero_le _, Nat.zero_le _⟩) hw hA h (fun u H locs hw h => ?_)
    refine lv_aload_n hx hb dX8_hold_30 rfl (lv_at hl 0 rfl) ?_
    refine r_getC (t2 := 9) (d := 5) hx hb hts n_X8_hold_X8 hown hK hw h_this (by decide) rfl 5 (by decide) rfl rfl (hts _ k_X8_hold_3) (fun _ q => q) dX8_hold_31 (fun hv4 => ?_)
    refine lv_iload_n hx hb dX8_hold_34 rfl (lv_at hl 1 rfl) ?_
    refine r_iald (n := 80) hx hb hK hw hv4 rfl dX8_hold_35 h (fun x5 h => ?_)
    exact r_iret hx hb hr hlocks hK hw h dX8_hold_36
  · rw [if_pos hc] at h
    refine lv_iconst (v := (-1)) hx hb dX8_hold_13 (by decide) ?_
    exact r_iret hx hb hr hlocks hK hw h dX8_hold_14
theorem k_X8_loose_1 : Cond.fieldLink RX8 1 "RingHeapModel" "thrown" "I" ∈ wsX8_loose := List.mem_of_getElem? (i := 1) (by rfl)
theorem n_X8_loose_X8 : ∀ w ∈ u_ws RX8 TX8 31, w ∈ wsX8_loose := fun _ h => List.mem_cons_of_mem _ (List.mem_append_right _ h)
theorem k_X8_loose_2 : Cond.fieldLink RX8 36 "RingHeapModel" "hands" "[I" ∈ wsX8_loose := List.mem_of_getElem? (i := 2) (by rfl)
theorem k_X8_loose_3 : Cond.fieldLink RX8 82 "RingHeapModel" "freedEver" "I" ∈ wsX8_loose := List.mem_of_getElem? (i := 3) (by rfl)
def f_X8_loose (N : Nat) (p0 : Int32) (u : Mm) : Option (Int32 × Mm) :=
  pt (sI u 0 0 0) (fun u => bd (f_X8_isWhole N p0 u) (fun x1 u => if x1 = 0 then (some ((-1), u)) else (ck (bI p0 80) (pt (u.1 8 (ix p0)) (fun x3 => if x3 = 0 then (some ((-1), u)) else (pt (u.1 0 20) (fun x4 => ck (bI p0 80) (pt (u.1 8 (ix p0)) (fun x6 => ck (bI p0 80) (pt (sI u 8 (ix p0) (x6 - 1)) (fun u => bv (f_X8_less N p0 u) (fun u => pt (u.1 0 20) (fun x7 => some (x7 - x4, u))))))))))))))
set_option maxHeartbeats 4000000 in
set_option maxRecDepth 100000 in
theorem c_X8_loose (l : Launch) (D : va_G) (cy : Nat → ClassId) (L : List Nat) (ad : Nat → Nat) (N : Nat) (p0 : Int32) (u : Mm) (o : Int32 × Mm) (h_this : vn L 8 0) (h : f_X8_loose N p0 u = some o) : MtI l yX8_loose wsX8_loose ({ frames := 3, cells := 0, slots := 0, locals := 68 } : Room) D cy L ad [.ref (ad 0), .int p0] u o := by
  intro sz
  refine Met.ofW (cc := cX8_loose) (maxL := 3) (ret := (some .int)) (by decide) rfl ?_
  intro p e s m args below meth c s₁ B hml hv
  obtain ⟨rfl, hsz, hP, hK, hD0, hok⟩ := hv
  have hx := B.exec
  have hb := B.bytes
  have hr := B.returns
  have hts := atoms_spec (ws := wsX8_loose) B.pre
  have hown : s.vm.findClass RX8 = some m.cls := findClass_of_methodNamed B.named
  have hlocks := B.notSynchronized
  subst hsz
  have hw := wd_start hP hD0 hok
  have hA : ∀ q : Nat, s.heap.size ≤ q → va_A (wl cy L ad u) s.heap.size q := fun q h => Or.inr h
  generalize va_A (wl cy L ad u) s.heap.size = A at hw hA ⊢
  have C0 : Cx p m meth c cX8_loose (some .int) 3 s _ wsX8_loose RX8 D cy := ⟨hx, hb, hr, hml, hown, hts, hlocks, hK⟩
  have hl := lv_entry ([.ref (ad 0), .int p0]) (n := 3) (Nat.le_of_ble_eq_true rfl)
  rw [lg_entry_eq]
  generalize (lg_sl ([.ref (ad 0), .int p0]) ++ List.replicate (3 - (lg_sl ([.ref (ad 0), .int p0])).length) Slot.unset).toArray = ls at hl ⊢
  have hl : lv_has ls 3 [(0, .ref (ad 0)), (1, .int p0)] := hl
  unfold f_X8_loose at h
  refine lv_aload_n hx hb dX8_loose_0 rfl (lv_at hl 0 rfl) ?_
  refine lv_iconst (v := 0) hx hb dX8_loose_1 (by decide) ?_
  refine r_putI (ty := .int) hx hb hts n_X8_loose_X8 tyX8 tyX8_ok nmX8 hown hK hw h_this (by decide) rfl 0 (by decide) rfl (hts _ k_X8_loose_1) (fun _ q => q) rfl rfl rfl rfl dX8_loose_2 h (fun u H locs hw h => ?_)
  refine lv_aload_n hx hb dX8_loose_5 rfl (lv_at hl 0 rfl) ?_
  refine lv_iload_n hx hb dX8_loose_6 rfl (lv_at hl 1 rfl) ?_
  refine r_bI (fun o ho => r_vI (As := [.int p0]) (rest := []) ⟨hx, hb, hml, hown, hts⟩ (c_X8_isWhole l D cy L ad N p0 u o h_this ho) (cwV 1 hts gX8_loose_X8_isWhole rfl rfl rfl (by decide +kernel) ⟨Nat.le_of_ble_eq_true rfl, Nat.le_of_ble_eq_true rfl⟩) hw hK h_this (by decide) rfl rfl hl.1 rfl (Nat.le_of_ble_eq_true rfl) dX8_loose_7 ⟨Nat.zero_le _, Nat.zero_le _⟩) hw hA h (fun x1 u H locs hw h => ?_)
  refine lv_if_eq (tgt := 22) hx hb dX8_loose_10 (by decide) (fun hc => ?_) (fun hc => ?_)
  · rw [if_pos hc] at h
    refine lv_iconst (v := (-1)) hx hb dX8_loose_22 (by decide) ?_
    exact r_iret hx hb hr hlocks hK hw h dX8_loose_23
  · rw [if_neg hc] at h
    refine lv_aload_n hx hb dX8_loose_13 rfl (lv_at hl 0 rfl) ?_
    refine r_getC (t2 := 9) (d := 8) hx hb hts n_X8_loose_X8 hown hK hw h_this (by decide) rfl 8 (by decide) rfl rfl (hts _ k_X8_loose_2) (fun _ q => q) dX8_loose_14 (fun hv2 => ?_)
    refine lv_iload_n hx hb dX8_loose_17 rfl (lv_at hl 1 rfl) ?_
    refine r_iald (n := 80) hx hb hK hw hv2 rfl dX8_loose_18 h (fun x3 h => ?_)
    refine lv_if_ne (tgt := 24) hx hb dX8_loose_19 (by decide) (fun hc => ?_) (fun hc => ?_)
    · rw [if_neg hc] at h
      refine lv_aload_n hx hb dX8_loose_24 rfl (lv_at hl 0 rfl) ?_
      refine r_getI hx hb hts n_X8_loose_X8 hown hK hw h_this (by decide) rfl 20 (by decide) rfl (hts _ k_X8_loose_3) (fun _ q => q) dX8_loose_25 h (fun x4 h => ?_)
      refine lv_istore_n (lv' := [(2, .int x4), (0, .ref (ad 0)), (1, .int p0)]) hx hb dX8_loose_28 rfl hl (by decide) rfl (fun ls hl => ?_)
      refine lv_aload_n hx hb dX8_loose_29 rfl (lv_at hl 1 rfl) ?_
      refine r_getC (t2 := 9) (d := 8) hx hb hts n_X8_loose_X8 hown hK hw h_this (by decide) rfl 8 (by decide) rfl rfl (hts _ k_X8_loose_2) (fun _ q => q) dX8_loose_30 (fun hv5 => ?_)
      refine lv_iload_n hx hb dX8_loose_33 rfl (lv_at hl 2 rfl) ?_
      refine lv_dup2_11 hx hb dX8_loose_34 rfl rfl ?_
      refine r_iald (n := 80) hx hb hK hw hv5 rfl dX8_loose_35 h (fun x6 h => ?_)
      refine lv_iconst (v := 1) hx hb dX8_loose_36 (by decide) ?_
      refine lv_isub hx hb dX8_loose_37 ?_
      refine r_iast (n := 80) hx hb hK hw hv5 rfl dX8_loose_38 h (fun u H locs hw h => ?_)
      refine lv_aload_n hx hb dX8_loose_39 rfl (lv_at hl 1 rfl) ?_
      refine lv_iload_n hx hb dX8_loose_40 rfl (lv_at hl 2 rfl) ?_
      refine r_bV (fun o ho => r_vV (As := [.int p0]) (rest := []) ⟨hx, hb, hml, hown, hts⟩ (c_X8_less l D cy L ad N p0 u o h_this ho) (cwV 1 hts gX8_loose_X8_less rfl rfl rfl (by decide +kernel) ⟨Nat.le_of_ble_eq_true rfl, Nat.le_of_ble_eq_true rfl⟩) hw hK h_this (by decide) rfl rfl hl.1 rfl (Nat.le_of_ble_eq_true rfl) dX8_loose_41 ⟨Nat.zero_le _, Nat.zero_le _⟩) hw hA h (fun u H locs hw h => ?_)
      refine lv_aload_n hx hb dX8_loose_44 rfl (lv_at hl 1 rfl) ?_
      refine r_getI hx hb hts n_X8_loose_X8 hown hK hw h_this (by decide) rfl 20 (by decide) rfl (hts _ k_X8_loose_3) (fun _ q => q) dX8_loose_45 h (fun x7 h => ?_)
      refine lv_iload_n hx hb dX8_loose_48 rfl (lv_at hl 0 rfl) ?_
      refine lv_isub hx hb dX8_loose_49 ?_
      exact r_iret hx hb hr hlocks hK hw h dX8_loose_50
    · rw [if_pos hc] at h
      refine lv_iconst (v := (-1)) hx hb dX8_loose_22 (by decide) ?_
      exact r_iret hx hb hr hlocks hK hw h dX8_loose_23
theorem k_X8_set_1 : Cond.fieldLink RX8 1 "RingHeapModel" "thrown" "I" ∈ wsX8_set := List.mem_of_getElem? (i := 1) (by rfl)
theorem n_X8_set_X8 : ∀ w ∈ u_ws RX8 TX8 31, w ∈ wsX8_set := fun _ h => List.mem_cons_of_mem _ (List.mem_append_right _ h)
theorem k_X8_set_2 : Cond.fieldLink RX8 82 "RingHeapModel" "freedEver" "I" ∈ wsX8_set := List.mem_of_getElem? (i := 2) (by rfl)
theorem k_X8_set_3 : Cond.fieldLink RX8 48 "RingHeapModel" "fields" "[I" ∈ wsX8_set := List.mem_of_getElem? (i := 3) (by rfl)
def f_X8_set_113 (N : Nat)   (v4 : Int32) (u : Mm) : Option (Int32 × Mm) :=
  pt (u.1 0 20) (fun x7 => some (x7 - v4, u))
set_option maxHeartbeats 4000000 in
set_option maxRecDepth 100000 in
theorem j_X8_set_113 {p : Program} {l : Launch} {e : Env} {s : State} {m : MethodId} {args : Array Value} {below : List Frame} {meth : Method} {c : Code} {D : va_G} {cy : Nat → ClassId} {L : List Nat} {ad : Nat → Nat} {A : Nat → Prop} {o : Int32 × Mm} (N : Nat)   (C0 : Cx p m meth c cX8_set (some .int) 6 s args wsX8_set RX8 D cy) (hA : ∀ q : Nat, s.heap.size ≤ q → A q)  : ∀ (v4 : Int32) (u : Mm) (H : Heap) (locs : List Loc) (ls : Array Slot), vn L 8 0 → Wd D cy L ad A s.heap u H locs → lv_has ls 6 [(0, .ref (ad 0)), (4, .int v4)] → f_X8_set_113 N   v4 u = some o → W p l e ({ frames := 3, cells := 0, slots := 0, locals := 68 } : Room) s m args below meth c H locs 0 0 (MQ below (QcI D cy L ad A o) args s 0 0 A) (F0 m 113 ls []) := by
  obtain ⟨hx, hb, hr, hml, hown, hts, hlocks, hK⟩ := id C0
  intro v4 u H locs ls hv_t0 hw hl h
  unfold f_X8_set_113 at h
  refine lv_aload_n hx hb dX8_set_113 rfl (lv_at hl 0 rfl) ?_
  refine r_getI hx hb hts n_X8_set_X8 hown hK hw hv_t0 (by decide) rfl 20 (by decide) rfl (hts _ k_X8_set_2) (fun _ q => q) dX8_set_114 h (fun x7 h => ?_)
  refine lv_iload hx hb dX8_set_117 (lv_at hl 1 rfl) ?_
  refine lv_isub hx hb dX8_set_119 ?_
  exact r_iret hx hb hr hlocks hK hw h dX8_set_120
def f_X8_set_77 (N : Nat)   (v1 : Int32) (v2 : Int32) (v3 : Int32) (v4 : Int32) (u : Mm) : Option (Int32 × Mm) :=
  ck (bI ((6 * v1) + v2) 480) (pt (u.1 12 (ix ((6 * v1) + v2))) (fun x5 => ck (bI ((6 * v1) + v2) 480) (pt (sI u 12 (ix ((6 * v1) + v2)) v3) (fun u => if x5 < 0 then (f_X8_set_113 N v4 u) else (bv (f_X8_less N x5 u) (fun u => f_X8_set_113 N v4 u))))))
set_option maxHeartbeats 4000000 in
set_option maxRecDepth 100000 in
theorem j_X8_set_77 {p : Program} {l : Launch} {e : Env} {s : State} {m : MethodId} {args : Array Value} {below : List Frame} {meth : Method} {c : Code} {D : va_G} {cy : Nat → ClassId} {L : List Nat} {ad : Nat → Nat} {A : Nat → Prop} {o : Int32 × Mm} (N : Nat)   (C0 : Cx p m meth c cX8_set (some .int) 6 s args wsX8_set RX8 D cy) (hA : ∀ q : Nat, s.heap.size ≤ q → A q)  : ∀ (v1 : Int32) (v2 : Int32) (v3 : Int32) (v4 : Int32) (u : Mm) (H : Heap) (locs : List Loc) (ls : Array Slot), vn L 8 0 → Wd D cy L ad A s.heap u H locs → lv_has ls 6 [(0, .ref (ad 0)), (1, .int v1), (2, .int v2), (3, .int v3), (4, .int v4)] → f_X8_set_77 N   v1 v2 v3 v4 u = some o → W p l e ({ frames := 3, cells := 0, slots := 0, locals := 68 } : Room) s m args below meth c H locs 0 0 (MQ below (QcI D cy L ad A o) args s 0 0 A) (F0 m 77 ls []) := by
  obtain ⟨hx, hb, hr, hml, hown, hts, hlocks, hK⟩ := id C0
  intro v1 v2 v3 v4 u H locs ls hv_t0 hw hl h
  unfold f_X8_set_77 at h
  refine lv_aload_n hx hb dX8_set_77 rfl (lv_at hl 0 rfl) ?_
  refine r_getC (t2 := 9) (d := 12) hx hb hts n_X8_set_X8 hown hK hw hv_t0 (by decide) rfl 12 (by decide) rfl rfl (hts _ k_X8_set_3) (fun _ q => q) dX8_set_78 (fun hv4 => ?_)
  refine lv_bipush (v := 6) hx hb dX8_set_81 (by decide) ?_
  refine lv_iload_n hx hb dX8_set_83 rfl (lv_at hl 1 rfl) ?_
  refine lv_imul hx hb dX8_set_84 ?_
  refine lv_iload_n hx hb dX8_set_85 rfl (lv_at hl 2 rfl) ?_
  refine lv_iadd hx hb dX8_set_86 ?_
  refine r_iald (n := 480) hx hb hK hw hv4 rfl dX8_set_87 h (fun x5 h => ?_)
  refine lv_istore (lv' := [(5, .int x5), (0, .ref (ad 0)), (1, .int v1), (2, .int v2), (3, .int v3), (4, .int v4)]) hx hb dX8_set_88 hl (by decide) rfl (fun ls hl => ?_)
  refine lv_aload_n hx hb dX8_set_90 rfl (lv_at hl 1 rfl) ?_
  refine r_getC (t2 := 9) (d := 12) hx hb hts n_X8_set_X8 hown hK hw hv_t0 (by decide) rfl 12 (by decide) rfl rfl (hts _ k_X8_set_3) (fun _ q => q) dX8_set_91 (fun hv6 => ?_)
  refine lv_bipush (v := 6) hx hb dX8_set_94 (by decide) ?_
  refine lv_iload_n hx hb dX8_set_96 rfl (lv_at hl 2 rfl) ?_
  refine lv_imul hx hb dX8_set_97 ?_
  refine lv_iload_n hx hb dX8_set_98 rfl (lv_at hl 3 rfl) ?_
  refine lv_iadd hx hb dX8_set_99 ?_
  refine lv_iload_n hx hb dX8_set_100 rfl (lv_at hl 4 rfl) ?_
  refine r_iast (n := 480) hx hb hK hw hv6 rfl dX8_set_101 h (fun u H locs hw h => ?_)
  refine lv_iload hx hb dX8_set_102 (lv_at hl 0 rfl) ?_
  refine lv_if_lt (tgt := 113) hx hb dX8_set_104 (by decide) (fun hc => ?_) (fun hc => ?_)
  · rw [if_pos hc] at h
    exact j_X8_set_113 N C0 hA v4 u _ _ _ hv_t0 hw (lv_sub hl [1, 5] rfl) h
  · rw [if_neg hc] at h
    refine lv_aload_n hx hb dX8_set_107 rfl (lv_at hl 1 rfl) ?_
    refine lv_iload hx hb dX8_set_108 (lv_at hl 0 rfl) ?_
    refine r_bV (fun o ho => r_vV (As := [.int x5]) (rest := []) ⟨hx, hb, hml, hown, hts⟩ (c_X8_less l D cy L ad N x5 u o hv_t0 ho) (cwV 1 hts gX8_set_X8_less rfl rfl rfl (by decide +kernel) ⟨Nat.le_of_ble_eq_true rfl, Nat.le_of_ble_eq_true rfl⟩) hw hK hv_t0 (by decide) rfl rfl hl.1 rfl (Nat.le_of_ble_eq_true rfl) dX8_set_110 ⟨Nat.zero_le _, Nat.zero_le _⟩) hw hA h (fun u H locs hw h => ?_)
    exact j_X8_set_113 N C0 hA v4 u _ _ _ hv_t0 hw (lv_sub hl [1, 5] rfl) h
def f_X8_set_61 (N : Nat)   (v1 : Int32) (v2 : Int32) (v3 : Int32) (u : Mm) : Option (Int32 × Mm) :=
  pt (u.1 0 20) (fun x3 => if v3 = (-1) then (f_X8_set_77 N v1 v2 v3 x3 u) else (bv (f_X8_more N v3 u) (fun u => f_X8_set_77 N v1 v2 v3 x3 u)))
set_option maxHeartbeats 4000000 in
set_option maxRecDepth 100000 in
theorem j_X8_set_61 {p : Program} {l : Launch} {e : Env} {s : State} {m : MethodId} {args : Array Value} {below : List Frame} {meth : Method} {c : Code} {D : va_G} {cy : Nat → ClassId} {L : List Nat} {ad : Nat → Nat} {A : Nat → Prop} {o : Int32 × Mm} (N : Nat)   (C0 : Cx p m meth c cX8_set (some .int) 6 s args wsX8_set RX8 D cy) (hA : ∀ q : Nat, s.heap.size ≤ q → A q)  : ∀ (v1 : Int32) (v2 : Int32) (v3 : Int32) (u : Mm) (H : Heap) (locs : List Loc) (ls : Array Slot), vn L 8 0 → Wd D cy L ad A s.heap u H locs → lv_has ls 6 [(0, .ref (ad 0)), (1, .int v1), (2, .int v2), (3, .int v3)] → f_X8_set_61 N   v1 v2 v3 u = some o → W p l e ({ frames := 3, cells := 0, slots := 0, locals := 68 } : Room) s m args below meth c H locs 0 0 (MQ below (QcI D cy L ad A o) args s 0 0 A) (F0 m 61 ls []) := by
  obtain ⟨hx, hb, hr, hml, hown, hts, hlocks, hK⟩ := id C0
  intro v1 v2 v3 u H locs ls hv_t0 hw hl h
  unfold f_X8_set_61 at h
  refine lv_aload_n hx hb dX8_set_61 rfl (lv_at hl 0 rfl) ?_
  refine r_getI hx hb hts n_X8_set_X8 hown hK hw hv_t0 (by decide) rfl 20 (by decide) rfl (hts _ k_X8_set_2) (fun _ q => q) dX8_set_62 h (fun x3 h => ?_)
  refine lv_istore (lv' := [(4, .int x3), (0, .ref (ad 0)), (1, .int v1), (2, .int v2), (3, .int v3)]) hx hb dX8_set_65 hl (by decide) rfl (fun ls hl => ?_)
  refine lv_iload_n hx hb dX8_set_67 rfl (lv_at hl 4 rfl) ?_
  refine lv_iconst (v := (-1)) hx hb dX8_set_68 (by decide) ?_
  refine lv_icmp_eq (tgt := 77) hx hb dX8_set_69 (by decide) (fun hc => ?_) (fun hc => ?_)
  · rw [if_pos hc] at h
    exact j_X8_set_77 N C0 hA v1 v2 v3 x3 u _ _ _ hv_t0 hw (lv_sub hl [1, 2, 3, 4, 0] rfl) h
  · rw [if_neg hc] at h
    refine lv_aload_n hx hb dX8_set_72 rfl (lv_at hl 1 rfl) ?_
    refine lv_iload_n hx hb dX8_set_73 rfl (lv_at hl 4 rfl) ?_
    refine r_bV (fun o ho => r_vV (As := [.int v3]) (rest := []) ⟨hx, hb, hml, hown, hts⟩ (c_X8_more l D cy L ad N v3 u o hv_t0 ho) (cwV 1 hts gX8_set_X8_more rfl rfl rfl (by decide +kernel) ⟨Nat.le_of_ble_eq_true rfl, Nat.le_of_ble_eq_true rfl⟩) hw hK hv_t0 (by decide) rfl rfl hl.1 rfl (Nat.le_of_ble_eq_true rfl) dX8_set_74 ⟨Nat.zero_le _, Nat.zero_le _⟩) hw hA h (fun u H locs hw h => ?_)
    exact j_X8_set_77 N C0 hA v1 v2 v3 x3 u _ _ _ hv_t0 hw (lv_sub hl [1, 2, 3, 4, 0] rfl) h
def f_X8_set_34 (N : Nat)   (v1 : Int32) (v2 : Int32) (v3 : Int32) (w0 : Int32) (u : Mm) : Option (Int32 × Mm) :=
  pt (sI u 0 0 w0) (fun u => pt (u.1 0 0) (fun x2 => if x2 ≤ 0 then (if v3 = (-1) then (f_X8_set_61 N v1 v2 v3 u) else (bd (f_X8_isWhole N v3 u) (fun x8 u => if x8 = 0 then (some ((-1), u)) else (f_X8_set_61 N v1 v2 v3 u)))) else (some (0, u))))
set_option maxHeartbeats 4000000 in
set_option maxRecDepth 100000 in
theorem j_X8_set_34 {p : Program} {l : Launch} {e : Env} {s : State} {m : MethodId} {args : Array Value} {below : List Frame} {meth : Method} {c : Code} {D : va_G} {cy : Nat → ClassId} {L : List Nat} {ad : Nat → Nat} {A : Nat → Prop} {o : Int32 × Mm} (N : Nat)   (C0 : Cx p m meth c cX8_set (some .int) 6 s args wsX8_set RX8 D cy) (hA : ∀ q : Nat, s.heap.size ≤ q → A q)  : ∀ (v1 : Int32) (v2 : Int32) (v3 : Int32) (w0 : Int32) (u : Mm) (H : Heap) (locs : List Loc) (ls : Array Slot), vn L 8 0 → vn L 8 0 → Wd D cy L ad A s.heap u H locs → lv_has ls 6 [(0, .ref (ad 0)), (1, .int v1), (2, .int v2), (3, .int v3)] → f_X8_set_34 N   v1 v2 v3 w0 u = some o → W p l e ({ frames := 3, cells := 0, slots := 0, locals := 68 } : Room) s m args below meth c H locs 0 0 (MQ below (QcI D cy L ad A o) args s 0 0 A) (F0 m 34 ls [.int w0, .ref (ad 0)]) := by
  obtain ⟨hx, hb, hr, hml, hown, hts, hlocks, hK⟩ := id C0
  intro v1 v2 v3 w0 u H locs ls hv_t0 hv_z1 hw hl h
  unfold f_X8_set_34 at h
  refine r_putI (ty := .int) hx hb hts n_X8_set_X8 tyX8 tyX8_ok nmX8 hown hK hw hv_z1 (by decide) rfl 0 (by decide) rfl (hts _ k_X8_set_1) (fun _ q => q) rfl rfl rfl rfl dX8_set_34 h (fun u H locs hw h => ?_)
  refine lv_aload_n hx hb dX8_set_37 rfl (lv_at hl 0 rfl) ?_
  refine r_getI hx hb hts n_X8_set_X8 hown hK hw hv_t0 (by decide) rfl 0 (by decide) rfl (hts _ k_X8_set_1) (fun _ q => q) dX8_set_38 h (fun x2 h => ?_)
  refine lv_if_le (tgt := 46) hx hb dX8_set_41 (by decide) (fun hc => ?_) (fun hc => ?_)
  · rw [if_pos hc] at h
    refine lv_iload_n hx hb dX8_set_46 rfl (lv_at hl 3 rfl) ?_
    refine lv_iconst (v := (-1)) hx hb dX8_set_47 (by decide) ?_
    refine lv_icmp_eq (tgt := 61) hx hb dX8_set_48 (by decide) (fun hc => ?_) (fun hc => ?_)
    · rw [if_pos hc] at h
      exact j_X8_set_61 N C0 hA v1 v2 v3 u _ _ _ hv_t0 hw (lv_sub hl [0, 1, 2, 3] rfl) h
    · rw [if_neg hc] at h
      refine lv_aload_n hx hb dX8_set_51 rfl (lv_at hl 0 rfl) ?_
      refine lv_iload_n hx hb dX8_set_52 rfl (lv_at hl 3 rfl) ?_
      refine r_bI (fun o ho => r_vI (As := [.int v3]) (rest := []) ⟨hx, hb, hml, hown, hts⟩ (c_X8_isWhole l D cy L ad N v3 u o hv_t0 ho) (cwV 1 hts gX8_set_X8_isWhole rfl rfl rfl (by decide +kernel) ⟨Nat.le_of_ble_eq_true rfl, Nat.le_of_ble_eq_true rfl⟩) hw hK hv_t0 (by decide) rfl rfl hl.1 rfl (Nat.le_of_ble_eq_true rfl) dX8_set_53 ⟨Nat.zero_le _, Nat.zero_le _⟩) hw hA h (fun x8 u H locs hw h => ?_)
      refine lv_if_ne (tgt := 61) hx hb dX8_set_56 (by decide) (fun hc => ?_) (fun hc => ?_)
      · rw [if_neg hc] at h
        exact j_X8_set_61 N C0 hA v1 v2 v3 u _ _ _ hv_t0 hw (lv_sub hl [0, 1, 2, 3] rfl) h
      · rw [if_pos hc] at h
        refine lv_iconst (v := (-1)) hx hb dX8_set_59 (by decide) ?_
        exact r_iret hx hb hr hlocks hK hw h dX8_set_60
  · rw [if_neg hc] at h
    refine lv_iconst (v := 0) hx hb dX8_set_44 (by decide) ?_
    exact r_iret hx hb hr hlocks hK hw h dX8_set_45
def f_X8_set_29 (N : Nat)   (v1 : Int32) (v2 : Int32) (v3 : Int32) (u : Mm) : Option (Int32 × Mm) :=
  f_X8_set_34 N v1 v2 v3 1 u
set_option maxHeartbeats 4000000 in
set_option maxRecDepth 100000 in
theorem j_X8_set_29 {p : Program} {l : Launch} {e : Env} {s : State} {m : MethodId} {args : Array Value} {below : List Frame} {meth : Method} {c : Code} {D : va_G} {cy : Nat → ClassId} {L : List Nat} {ad : Nat → Nat} {A : Nat → Prop} {o : Int32 × Mm} (N : Nat)   (C0 : Cx p m meth c cX8_set (some .int) 6 s args wsX8_set RX8 D cy) (hA : ∀ q : Nat, s.heap.size ≤ q → A q)  : ∀ (v1 : Int32) (v2 : Int32) (v3 : Int32) (u : Mm) (H : Heap) (locs : List Loc) (ls : Array Slot), vn L 8 0 → vn L 8 0 → Wd D cy L ad A s.heap u H locs → lv_has ls 6 [(0, .ref (ad 0)), (1, .int v1), (2, .int v2), (3, .int v3)] → f_X8_set_29 N   v1 v2 v3 u = some o → W p l e ({ frames := 3, cells := 0, slots := 0, locals := 68 } : Room) s m args below meth c H locs 0 0 (MQ below (QcI D cy L ad A o) args s 0 0 A) (F0 m 29 ls [.ref (ad 0)]) := by
  obtain ⟨hx, hb, hr, hml, hown, hts, hlocks, hK⟩ := id C0
  intro v1 v2 v3 u H locs ls hv_t0 hv_z0 hw hl h
  unfold f_X8_set_29 at h
  refine lv_iconst (v := 1) hx hb dX8_set_29 (by decide) ?_
  refine lv_goto (tgt := 34) hx hb dX8_set_30 (by decide) ?_
  exact j_X8_set_34 N C0 hA v1 v2 v3 1 u _ _ _ hv_t0 hv_z0 hw (lv_sub hl [0, 1, 2, 3] rfl) h
def f_X8_set (N : Nat) (p0 : Int32) (p1 : Int32) (p2 : Int32) (u : Mm) : Option (Int32 × Mm) :=
  pt (sI u 0 0 0) (fun u => bd (f_X8_isWhole N p0 u) (fun x1 u => if x1 = 0 then (some ((-1), u)) else (if p1 < 0 then (f_X8_set_29 N p0 p1 p2 u) else (bd (f_X8_fieldsOf N p0 u) (fun x9 u => if p1 < x9 then (f_X8_set_34 N p0 p1 p2 0 u) else (f_X8_set_29 N p0 p1 p2 u))))))
set_option maxHeartbeats 4000000 in
set_option maxRecDepth 100000 in
theorem c_X8_set (l : Launch) (D : va_G) (cy : Nat → ClassId) (L : List Nat) (ad : Nat → Nat) (N : Nat) (p0 : Int32) (p1 : Int32) (p2 : Int32) (u : Mm) (o : Int32 × Mm) (h_this : vn L 8 0) (h : f_X8_set N p0 p1 p2 u = some o) : MtI l yX8_set wsX8_set ({ frames := 3, cells := 0, slots := 0, locals := 68 } : Room) D cy L ad [.ref (ad 0), .int p0, .int p1, .int p2] u o := by
  intro sz
  refine Met.ofW (cc := cX8_set) (maxL := 6) (ret := (some .int)) (by decide) rfl ?_
  intro p e s m args below meth c s₁ B hml hv
  obtain ⟨rfl, hsz, hP, hK, hD0, hok⟩ := hv
  have hx := B.exec
  have hb := B.bytes
  have hr := B.returns
  have hts := atoms_spec (ws := wsX8_set) B.pre
  have hown : s.vm.findClass RX8 = some m.cls := findClass_of_methodNamed B.named
  have hlocks := B.notSynchronized
  subst hsz
  have hw := wd_start hP hD0 hok
  have hA : ∀ q : Nat, s.heap.size ≤ q → va_A (wl cy L ad u) s.heap.size q := fun q h => Or.inr h
  generalize va_A (wl cy L ad u) s.heap.size = A at hw hA ⊢
  have C0 : Cx p m meth c cX8_set (some .int) 6 s _ wsX8_set RX8 D cy := ⟨hx, hb, hr, hml, hown, hts, hlocks, hK⟩
  have hl := lv_entry ([.ref (ad 0), .int p0, .int p1, .int p2]) (n := 6) (Nat.le_of_ble_eq_true rfl)
  rw [lg_entry_eq]
  generalize (lg_sl ([.ref (ad 0), .int p0, .int p1, .int p2]) ++ List.replicate (6 - (lg_sl ([.ref (ad 0), .int p0, .int p1, .int p2])).length) Slot.unset).toArray = ls at hl ⊢
  have hl : lv_has ls 6 [(0, .ref (ad 0)), (1, .int p0), (2, .int p1), (3, .int p2)] := hl
  unfold f_X8_set at h
  refine lv_aload_n hx hb dX8_set_0 rfl (lv_at hl 0 rfl) ?_
  refine lv_iconst (v := 0) hx hb dX8_set_1 (by decide) ?_
  refine r_putI (ty := .int) hx hb hts n_X8_set_X8 tyX8 tyX8_ok nmX8 hown hK hw h_this (by decide) rfl 0 (by decide) rfl (hts _ k_X8_set_1) (fun _ q => q) rfl rfl rfl rfl dX8_set_2 h (fun u H locs hw h => ?_)
  refine lv_aload_n hx hb dX8_set_5 rfl (lv_at hl 0 rfl) ?_
  refine lv_iload_n hx hb dX8_set_6 rfl (lv_at hl 1 rfl) ?_
  refine r_bI (fun o ho => r_vI (As := [.int p0]) (rest := []) ⟨hx, hb, hml, hown, hts⟩ (c_X8_isWhole l D cy L ad N p0 u o h_this ho) (cwV 1 hts gX8_set_X8_isWhole rfl rfl rfl (by decide +kernel) ⟨Nat.le_of_ble_eq_true rfl, Nat.le_of_ble_eq_true rfl⟩) hw hK h_this (by decide) rfl rfl hl.1 rfl (Nat.le_of_ble_eq_true rfl) dX8_set_7 ⟨Nat.zero_le _, Nat.zero_le _⟩) hw hA h (fun x1 u H locs hw h => ?_)
  refine lv_if_ne (tgt := 15) hx hb dX8_set_10 (by decide) (fun hc => ?_) (fun hc => ?_)
  · rw [if_neg hc] at h
    refine lv_aload_n hx hb dX8_set_15 rfl (lv_at hl 0 rfl) ?_
    refine lv_iload_n hx hb dX8_set_16 rfl (lv_at hl 2 rfl) ?_
    refine lv_if_lt (tgt := 29) hx hb dX8_set_17 (by decide) (fun hc => ?_) (fun hc => ?_)
    · rw [if_pos hc] at h
      exact j_X8_set_29 N C0 hA p0 p1 p2 u _ _ _ h_this h_this hw (lv_sub hl [0, 1, 2, 3] rfl) h
    · rw [if_neg hc] at h
      refine lv_iload_n hx hb dX8_set_20 rfl (lv_at hl 2 rfl) ?_
      refine lv_aload_n hx hb dX8_set_21 rfl (lv_at hl 0 rfl) ?_
      refine lv_iload_n hx hb dX8_set_22 rfl (lv_at hl 1 rfl) ?_
      refine r_bI (fun o ho => r_vI (As := [.int p0]) (rest := [.int p1, .ref (ad 0)]) ⟨hx, hb, hml, hown, hts⟩ (c_X8_fieldsOf l D cy L ad N p0 u o h_this ho) (cwV 1 hts gX8_set_X8_fieldsOf rfl rfl rfl (by decide +kernel) ⟨Nat.le_of_ble_eq_true rfl, Nat.le_of_ble_eq_true rfl⟩) hw hK h_this (by decide) rfl rfl hl.1 rfl (Nat.le_of_ble_eq_true rfl) dX8_set_23 ⟨Nat.zero_le _, Nat.zero_le _⟩) hw hA h (fun x9 u H locs hw h => ?_)
      refine lv_icmp_lt (tgt := 33) hx hb dX8_set_26 (by decide) (fun hc => ?_) (fun hc => ?_)
      · rw [if_pos hc] at h
        refine lv_iconst (v := 0) hx hb dX8_set_33 (by decide) ?_
        exact j_X8_set_34 N C0 hA p0 p1 p2 0 u _ _ _ h_this h_this hw (lv_sub hl [0, 1, 2, 3] rfl) h
      · rw [if_neg hc] at h
        exact j_X8_set_29 N C0 hA p0 p1 p2 u _ _ _ h_this h_this hw (lv_sub hl [0, 1, 2, 3] rfl) h
  · rw [if_pos hc] at h
    refine lv_iconst (v := (-1)) hx hb dX8_set_13 (by decide) ?_
    exact r_iret hx hb hr hlocks hK hw h dX8_set_14
theorem k_X8_get_1 : Cond.fieldLink RX8 1 "RingHeapModel" "thrown" "I" ∈ wsX8_get := List.mem_of_getElem? (i := 1) (by rfl)
theorem n_X8_get_X8 : ∀ w ∈ u_ws RX8 TX8 31, w ∈ wsX8_get := fun _ h => List.mem_cons_of_mem _ (List.mem_append_right _ h)
theorem k_X8_get_2 : Cond.fieldLink RX8 48 "RingHeapModel" "fields" "[I" ∈ wsX8_get := List.mem_of_getElem? (i := 2) (by rfl)
def f_X8_get_27 (N : Nat)   (v1 : Int32) (v2 : Int32) (w0 : Int32) (u : Mm) : Option (Int32 × Mm) :=
  pt (sI u 0 0 w0) (fun u => pt (u.1 0 0) (fun x2 => if x2 ≤ 0 then (ck (bI ((6 * v1) + v2) 480) (pt (u.1 12 (ix ((6 * v1) + v2))) (fun x4 => some (x4, u)))) else (some (0, u))))
set_option maxHeartbeats 4000000 in
set_option maxRecDepth 100000 in
theorem j_X8_get_27 {p : Program} {l : Launch} {e : Env} {s : State} {m : MethodId} {args : Array Value} {below : List Frame} {meth : Method} {c : Code} {D : va_G} {cy : Nat → ClassId} {L : List Nat} {ad : Nat → Nat} {A : Nat → Prop} {o : Int32 × Mm} (N : Nat)   (C0 : Cx p m meth c cX8_get (some .int) 3 s args wsX8_get RX8 D cy) (hA : ∀ q : Nat, s.heap.size ≤ q → A q)  : ∀ (v1 : Int32) (v2 : Int32) (w0 : Int32) (u : Mm) (H : Heap) (locs : List Loc) (ls : Array Slot), vn L 8 0 → vn L 8 0 → Wd D cy L ad A s.heap u H locs → lv_has ls 3 [(0, .ref (ad 0)), (1, .int v1), (2, .int v2)] → f_X8_get_27 N   v1 v2 w0 u = some o → W p l e ({ frames := 1, cells := 0, slots := 0, locals := 21 } : Room) s m args below meth c H locs 0 0 (MQ below (QcI D cy L ad A o) args s 0 0 A) (F0 m 27 ls [.int w0, .ref (ad 0)]) := by
  obtain ⟨hx, hb, hr, hml, hown, hts, hlocks, hK⟩ := id C0
  intro v1 v2 w0 u H locs ls hv_t0 hv_z1 hw hl h
  unfold f_X8_get_27 at h
  refine r_putI (ty := .int) hx hb hts n_X8_get_X8 tyX8 tyX8_ok nmX8 hown hK hw hv_z1 (by decide) rfl 0 (by decide) rfl (hts _ k_X8_get_1) (fun _ q => q) rfl rfl rfl rfl dX8_get_27 h (fun u H locs hw h => ?_)
  refine lv_aload_n hx hb dX8_get_30 rfl (lv_at hl 0 rfl) ?_
  refine r_getI hx hb hts n_X8_get_X8 hown hK hw hv_t0 (by decide) rfl 0 (by decide) rfl (hts _ k_X8_get_1) (fun _ q => q) dX8_get_31 h (fun x2 h => ?_)
  refine lv_if_le (tgt := 41) hx hb dX8_get_34 (by decide) (fun hc => ?_) (fun hc => ?_)
  · rw [if_pos hc] at h
    refine lv_aload_n hx hb dX8_get_41 rfl (lv_at hl 0 rfl) ?_
    refine r_getC (t2 := 9) (d := 12) hx hb hts n_X8_get_X8 hown hK hw hv_t0 (by decide) rfl 12 (by decide) rfl rfl (hts _ k_X8_get_2) (fun _ q => q) dX8_get_42 (fun hv3 => ?_)
    refine lv_bipush (v := 6) hx hb dX8_get_45 (by decide) ?_
    refine lv_iload_n hx hb dX8_get_47 rfl (lv_at hl 1 rfl) ?_
    refine lv_imul hx hb dX8_get_48 ?_
    refine lv_iload_n hx hb dX8_get_49 rfl (lv_at hl 2 rfl) ?_
    refine lv_iadd hx hb dX8_get_50 ?_
    refine r_iald (n := 480) hx hb hK hw hv3 rfl dX8_get_51 h (fun x4 h => ?_)
    exact r_iret hx hb hr hlocks hK hw h dX8_get_52
  · rw [if_neg hc] at h
    refine lv_iconst (v := 0) hx hb dX8_get_37 (by decide) ?_
    refine lv_goto (tgt := 52) hx hb dX8_get_38 (by decide) ?_
    exact r_iret hx hb hr hlocks hK hw h dX8_get_52
def f_X8_get_22 (N : Nat)   (v1 : Int32) (v2 : Int32) (u : Mm) : Option (Int32 × Mm) :=
  f_X8_get_27 N v1 v2 1 u
set_option maxHeartbeats 4000000 in
set_option maxRecDepth 100000 in
theorem j_X8_get_22 {p : Program} {l : Launch} {e : Env} {s : State} {m : MethodId} {args : Array Value} {below : List Frame} {meth : Method} {c : Code} {D : va_G} {cy : Nat → ClassId} {L : List Nat} {ad : Nat → Nat} {A : Nat → Prop} {o : Int32 × Mm} (N : Nat)   (C0 : Cx p m meth c cX8_get (some .int) 3 s args wsX8_get RX8 D cy) (hA : ∀ q : Nat, s.heap.size ≤ q → A q)  : ∀ (v1 : Int32) (v2 : Int32) (u : Mm) (H : Heap) (locs : List Loc) (ls : Array Slot), vn L 8 0 → vn L 8 0 → Wd D cy L ad A s.heap u H locs → lv_has ls 3 [(0, .ref (ad 0)), (1, .int v1), (2, .int v2)] → f_X8_get_22 N   v1 v2 u = some o → W p l e ({ frames := 1, cells := 0, slots := 0, locals := 21 } : Room) s m args below meth c H locs 0 0 (MQ below (QcI D cy L ad A o) args s 0 0 A) (F0 m 22 ls [.ref (ad 0)]) := by
  obtain ⟨hx, hb, hr, hml, hown, hts, hlocks, hK⟩ := id C0
  intro v1 v2 u H locs ls hv_t0 hv_z0 hw hl h
  unfold f_X8_get_22 at h
  refine lv_iconst (v := 1) hx hb dX8_get_22 (by decide) ?_
  refine lv_goto (tgt := 27) hx hb dX8_get_23 (by decide) ?_
  exact j_X8_get_27 N C0 hA v1 v2 1 u _ _ _ hv_t0 hv_z0 hw (lv_sub hl [0, 1, 2] rfl) h
def f_X8_get (N : Nat) (p0 : Int32) (p1 : Int32) (u : Mm) : Option (Int32 × Mm) :=
  bd (f_X8_isThere N p0 u) (fun x1 u => if x1 = 0 then (f_X8_get_22 N p0 p1 u) else (if p1 < 0 then (f_X8_get_22 N p0 p1 u) else (bd (f_X8_fieldsOf N p0 u) (fun x5 u => if p1 < x5 then (f_X8_get_27 N p0 p1 0 u) else (f_X8_get_22 N p0 p1 u)))))
set_option maxHeartbeats 4000000 in
set_option maxRecDepth 100000 in
theorem c_X8_get (l : Launch) (D : va_G) (cy : Nat → ClassId) (L : List Nat) (ad : Nat → Nat) (N : Nat) (p0 : Int32) (p1 : Int32) (u : Mm) (o : Int32 × Mm) (h_this : vn L 8 0) (h : f_X8_get N p0 p1 u = some o) : MtI l yX8_get wsX8_get ({ frames := 1, cells := 0, slots := 0, locals := 21 } : Room) D cy L ad [.ref (ad 0), .int p0, .int p1] u o := by
  intro sz
  refine Met.ofW (cc := cX8_get) (maxL := 3) (ret := (some .int)) (by decide) rfl ?_
  intro p e s m args below meth c s₁ B hml hv
  obtain ⟨rfl, hsz, hP, hK, hD0, hok⟩ := hv
  have hx := B.exec
  have hb := B.bytes
  have hr := B.returns
  have hts := atoms_spec (ws := wsX8_get) B.pre
  have hown : s.vm.findClass RX8 = some m.cls := findClass_of_methodNamed B.named
  have hlocks := B.notSynchronized
  subst hsz
  have hw := wd_start hP hD0 hok
  have hA : ∀ q : Nat, s.heap.size ≤ q → va_A (wl cy L ad u) s.heap.size q := fun q h => Or.inr h
  generalize va_A (wl cy L ad u) s.heap.size = A at hw hA ⊢
  have C0 : Cx p m meth c cX8_get (some .int) 3 s _ wsX8_get RX8 D cy := ⟨hx, hb, hr, hml, hown, hts, hlocks, hK⟩
  have hl := lv_entry ([.ref (ad 0), .int p0, .int p1]) (n := 3) (Nat.le_of_ble_eq_true rfl)
  rw [lg_entry_eq]
  generalize (lg_sl ([.ref (ad 0), .int p0, .int p1]) ++ List.replicate (3 - (lg_sl ([.ref (ad 0), .int p0, .int p1])).length) Slot.unset).toArray = ls at hl ⊢
  have hl : lv_has ls 3 [(0, .ref (ad 0)), (1, .int p0), (2, .int p1)] := hl
  unfold f_X8_get at h
  refine lv_aload_n hx hb dX8_get_0 rfl (lv_at hl 0 rfl) ?_
  refine lv_aload_n hx hb dX8_get_1 rfl (lv_at hl 0 rfl) ?_
  refine lv_iload_n hx hb dX8_get_2 rfl (lv_at hl 1 rfl) ?_
  refine r_bI (fun o ho => r_vI (As := [.int p0]) (rest := [.ref (ad 0)]) ⟨hx, hb, hml, hown, hts⟩ (c_X8_isThere l D cy L ad N p0 u o h_this ho) (cwV 1 hts gX8_get_X8_isThere rfl rfl rfl (by decide +kernel) ⟨Nat.le_of_ble_eq_true rfl, Nat.le_of_ble_eq_true rfl⟩) hw hK h_this (by decide) rfl rfl hl.1 rfl (Nat.le_of_ble_eq_true rfl) dX8_get_3 ⟨Nat.zero_le _, Nat.zero_le _⟩) hw hA h (fun x1 u H locs hw h => ?_)
  refine lv_if_eq (tgt := 22) hx hb dX8_get_6 (by decide) (fun hc => ?_) (fun hc => ?_)
  · rw [if_pos hc] at h
    exact j_X8_get_22 N C0 hA p0 p1 u _ _ _ h_this h_this hw (lv_sub hl [0, 1, 2] rfl) h
  · rw [if_neg hc] at h
    refine lv_iload_n hx hb dX8_get_9 rfl (lv_at hl 2 rfl) ?_
    refine lv_if_lt (tgt := 22) hx hb dX8_get_10 (by decide) (fun hc => ?_) (fun hc => ?_)
    · rw [if_pos hc] at h
      exact j_X8_get_22 N C0 hA p0 p1 u _ _ _ h_this h_this hw (lv_sub hl [0, 1, 2] rfl) h
    · rw [if_neg hc] at h
      refine lv_iload_n hx hb dX8_get_13 rfl (lv_at hl 2 rfl) ?_
      refine lv_aload_n hx hb dX8_get_14 rfl (lv_at hl 0 rfl) ?_
      refine lv_iload_n hx hb dX8_get_15 rfl (lv_at hl 1 rfl) ?_
      refine r_bI (fun o ho => r_vI (As := [.int p0]) (rest := [.int p1, .ref (ad 0)]) ⟨hx, hb, hml, hown, hts⟩ (c_X8_fieldsOf l D cy L ad N p0 u o h_this ho) (cwV 1 hts gX8_get_X8_fieldsOf rfl rfl rfl (by decide +kernel) ⟨Nat.le_of_ble_eq_true rfl, Nat.le_of_ble_eq_true rfl⟩) hw hK h_this (by decide) rfl rfl hl.1 rfl (Nat.le_of_ble_eq_true rfl) dX8_get_16 ⟨Nat.zero_le _, Nat.zero_le _⟩) hw hA h (fun x5 u H locs hw h => ?_)
      refine lv_icmp_lt (tgt := 26) hx hb dX8_get_19 (by decide) (fun hc => ?_) (fun hc => ?_)
      · rw [if_pos hc] at h
        refine lv_iconst (v := 0) hx hb dX8_get_26 (by decide) ?_
        exact j_X8_get_27 N C0 hA p0 p1 0 u _ _ _ h_this h_this hw (lv_sub hl [0, 1, 2] rfl) h
      · rw [if_neg hc] at h
        exact j_X8_get_22 N C0 hA p0 p1 u _ _ _ h_this h_this hw (lv_sub hl [0, 1, 2] rfl) h
theorem k_X8_wish_1 : Cond.fieldLink RX8 1 "RingHeapModel" "thrown" "I" ∈ wsX8_wish := List.mem_of_getElem? (i := 1) (by rfl)
theorem n_X8_wish_X8 : ∀ w ∈ u_ws RX8 TX8 31, w ∈ wsX8_wish := fun _ h => List.mem_cons_of_mem _ (List.mem_append_right _ h)
theorem k_X8_wish_2 : Cond.fieldLink RX8 85 "RingHeapModel" "wishCount" "I" ∈ wsX8_wish := List.mem_of_getElem? (i := 2) (by rfl)
theorem k_X8_wish_3 : Cond.fieldLink RX8 57 "RingHeapModel" "wishes" "[I" ∈ wsX8_wish := List.mem_of_getElem? (i := 3) (by rfl)
theorem k_X8_wish_4 : Cond.fieldLink RX8 36 "RingHeapModel" "hands" "[I" ∈ wsX8_wish := List.mem_of_getElem? (i := 4) (by rfl)
def g_X8_wish_33 (N : Nat)  (K33 : Int32 → Int32 → Mm → Option (Int32 × Mm)) (v1 : Int32) (v2 : Int32) (u : Mm) : Option (Int32 × Mm) :=
  pt (u.1 0 17) (fun x5 => if x5 ≤ v2 then (ck (bI v1 80) (pt (u.1 8 (ix v1)) (fun x7 => ck (bI v1 80) (pt (sI u 8 (ix v1) (x7 + 1)) (fun u => some (v1, u)))))) else (ck (bI (v2 + 1) 80) (pt (u.1 16 (ix (v2 + 1))) (fun x10 => ck (bI v2 80) (pt (sI u 16 (ix v2) x10) (fun u => K33 v1 (v2 + 1) u))))))
def f_X8_wish_33 (N : Nat)   : Nat → Int32 → Int32 → Mm → Option (Int32 × Mm)
  | 0 => fun _ _ _ => none
  | n + 1 => g_X8_wish_33 N   (f_X8_wish_33 N   n)
set_option maxHeartbeats 4000000 in
set_option maxRecDepth 100000 in
theorem jg_X8_wish_33 {p : Program} {l : Launch} {e : Env} {s : State} {m : MethodId} {args : Array Value} {below : List Frame} {meth : Method} {c : Code} {D : va_G} {cy : Nat → ClassId} {L : List Nat} {ad : Nat → Nat} {A : Nat → Prop} {o : Int32 × Mm} (N : Nat)   (C0 : Cx p m meth c cX8_wish (some .int) 3 s args wsX8_wish RX8 D cy) (hA : ∀ q : Nat, s.heap.size ≤ q → A q)  (K33 : Int32 → Int32 → Mm → Option (Int32 × Mm)) (hK33 : ∀ (v1 : Int32) (v2 : Int32) (u : Mm) (H : Heap) (locs : List Loc) (ls : Array Slot), vn L 8 0 → Wd D cy L ad A s.heap u H locs → lv_has ls 3 [(0, .ref (ad 0)), (1, .int v1), (2, .int v2)] → K33 v1 v2 u = some o → W p l e ({ frames := 0, cells := 0, slots := 0, locals := 0 } : Room) s m args below meth c H locs 0 0 (MQ below (QcI D cy L ad A o) args s 0 0 A) (F0 m 33 ls [])) : ∀ (v1 : Int32) (v2 : Int32) (u : Mm) (H : Heap) (locs : List Loc) (ls : Array Slot), vn L 8 0 → Wd D cy L ad A s.heap u H locs → lv_has ls 3 [(0, .ref (ad 0)), (1, .int v1), (2, .int v2)] → g_X8_wish_33 N   K33 v1 v2 u = some o → W p l e ({ frames := 0, cells := 0, slots := 0, locals := 0 } : Room) s m args below meth c H locs 0 0 (MQ below (QcI D cy L ad A o) args s 0 0 A) (F0 m 33 ls []) := by
  obtain ⟨hx, hb, hr, hml, hown, hts, hlocks, hK⟩ := id C0
  intro v1 v2 u H locs ls hv_t0 hw hl h
  unfold g_X8_wish_33 at h
  refine lv_iload_n hx hb dX8_wish_33 rfl (lv_at hl 2 rfl) ?_
  refine lv_aload_n hx hb dX8_wish_34 rfl (lv_at hl 0 rfl) ?_
  refine r_getI hx hb hts n_X8_wish_X8 hown hK hw hv_t0 (by decide) rfl 17 (by decide) rfl (hts _ k_X8_wish_2) (fun _ q => q) dX8_wish_35 h (fun x5 h => ?_)
  refine lv_icmp_ge (tgt := 61) hx hb dX8_wish_38 (by decide) (fun hc => ?_) (fun hc => ?_)
  · rw [if_pos hc] at h
    refine lv_aload_n hx hb dX8_wish_61 rfl (lv_at hl 0 rfl) ?_
    refine r_getC (t2 := 9) (d := 8) hx hb hts n_X8_wish_X8 hown hK hw hv_t0 (by decide) rfl 8 (by decide) rfl rfl (hts _ k_X8_wish_4) (fun _ q => q) dX8_wish_62 (fun hv6 => ?_)
    refine lv_iload_n hx hb dX8_wish_65 rfl (lv_at hl 1 rfl) ?_
    refine lv_dup2_11 hx hb dX8_wish_66 rfl rfl ?_
    refine r_iald (n := 80) hx hb hK hw hv6 rfl dX8_wish_67 h (fun x7 h => ?_)
    refine lv_iconst (v := 1) hx hb dX8_wish_68 (by decide) ?_
    refine lv_iadd hx hb dX8_wish_69 ?_
    refine r_iast (n := 80) hx hb hK hw hv6 rfl dX8_wish_70 h (fun u H locs hw h => ?_)
    refine lv_iload_n hx hb dX8_wish_71 rfl (lv_at hl 1 rfl) ?_
    exact r_iret hx hb hr hlocks hK hw h dX8_wish_72
  · rw [if_neg hc] at h
    refine lv_aload_n hx hb dX8_wish_41 rfl (lv_at hl 0 rfl) ?_
    refine r_getC (t2 := 9) (d := 16) hx hb hts n_X8_wish_X8 hown hK hw hv_t0 (by decide) rfl 16 (by decide) rfl rfl (hts _ k_X8_wish_3) (fun _ q => q) dX8_wish_42 (fun hv8 => ?_)
    refine lv_iload_n hx hb dX8_wish_45 rfl (lv_at hl 2 rfl) ?_
    refine lv_aload_n hx hb dX8_wish_46 rfl (lv_at hl 0 rfl) ?_
    refine r_getC (t2 := 9) (d := 16) hx hb hts n_X8_wish_X8 hown hK hw hv_t0 (by decide) rfl 16 (by decide) rfl rfl (hts _ k_X8_wish_3) (fun _ q => q) dX8_wish_47 (fun hv9 => ?_)
    refine lv_iload_n hx hb dX8_wish_50 rfl (lv_at hl 2 rfl) ?_
    refine lv_iconst (v := 1) hx hb dX8_wish_51 (by decide) ?_
    refine lv_iadd hx hb dX8_wish_52 ?_
    refine r_iald (n := 80) hx hb hK hw hv9 rfl dX8_wish_53 h (fun x10 h => ?_)
    refine r_iast (n := 80) hx hb hK hw hv8 rfl dX8_wish_54 h (fun u H locs hw h => ?_)
    refine lv_iinc (v := v2 + 1) (lv' := [(2, .int (v2 + 1)), (0, .ref (ad 0)), (1, .int v1)]) hx hb dX8_wish_55 hl (k := 2) rfl rfl (by decide) rfl (fun ls hl => ?_)
    refine lv_goto (tgt := 33) hx hb dX8_wish_58 (by decide) ?_
    exact hK33 v1 (v2 + 1) u _ _ _ hv_t0 hw (lv_sub hl [1, 2, 0] rfl) h
set_option maxHeartbeats 4000000 in
set_option maxRecDepth 100000 in
theorem j_X8_wish_33 {p : Program} {l : Launch} {e : Env} {s : State} {m : MethodId} {args : Array Value} {below : List Frame} {meth : Method} {c : Code} {D : va_G} {cy : Nat → ClassId} {L : List Nat} {ad : Nat → Nat} {A : Nat → Prop} {o : Int32 × Mm} (N : Nat)   (C0 : Cx p m meth c cX8_wish (some .int) 3 s args wsX8_wish RX8 D cy) (hA : ∀ q : Nat, s.heap.size ≤ q → A q)  : ∀ (n : Nat), ∀ (v1 : Int32) (v2 : Int32) (u : Mm) (H : Heap) (locs : List Loc) (ls : Array Slot), vn L 8 0 → Wd D cy L ad A s.heap u H locs → lv_has ls 3 [(0, .ref (ad 0)), (1, .int v1), (2, .int v2)] → f_X8_wish_33 N   n v1 v2 u = some o → W p l e ({ frames := 0, cells := 0, slots := 0, locals := 0 } : Room) s m args below meth c H locs 0 0 (MQ below (QcI D cy L ad A o) args s 0 0 A) (F0 m 33 ls []) := by
  intro n
  induction n with
  | zero =>
    intro v1 v2 u H locs ls hv_t0 hw hl h
    cases h
  | succ n ih => exact jg_X8_wish_33 N   C0 hA  _ ih
def f_X8_wish (N : Nat)  (u : Mm) : Option (Int32 × Mm) :=
  pt (sI u 0 0 0) (fun u => pt (u.1 0 17) (fun x1 => if x1 = 0 then (some ((-1), u)) else (ck (bI 0 80) (pt (u.1 16 (ix 0)) (fun x3 => pt (u.1 0 17) (fun x4 => pt (sI u 0 17 (x4 - 1)) (fun u => f_X8_wish_33 N N x3 0 u)))))))
set_option maxHeartbeats 4000000 in
set_option maxRecDepth 100000 in
theorem c_X8_wish (l : Launch) (D : va_G) (cy : Nat → ClassId) (L : List Nat) (ad : Nat → Nat) (N : Nat)  (u : Mm) (o : Int32 × Mm) (h_this : vn L 8 0) (h : f_X8_wish N  u = some o) : MtI l yX8_wish wsX8_wish ({ frames := 0, cells := 0, slots := 0, locals := 0 } : Room) D cy L ad [.ref (ad 0)] u o := by
  intro sz
  refine Met.ofW (cc := cX8_wish) (maxL := 3) (ret := (some .int)) (by decide) rfl ?_
  intro p e s m args below meth c s₁ B hml hv
  obtain ⟨rfl, hsz, hP, hK, hD0, hok⟩ := hv
  have hx := B.exec
  have hb := B.bytes
  have hr := B.returns
  have hts := atoms_spec (ws := wsX8_wish) B.pre
  have hown : s.vm.findClass RX8 = some m.cls := findClass_of_methodNamed B.named
  have hlocks := B.notSynchronized
  subst hsz
  have hw := wd_start hP hD0 hok
  have hA : ∀ q : Nat, s.heap.size ≤ q → va_A (wl cy L ad u) s.heap.size q := fun q h => Or.inr h
  generalize va_A (wl cy L ad u) s.heap.size = A at hw hA ⊢
  have C0 : Cx p m meth c cX8_wish (some .int) 3 s _ wsX8_wish RX8 D cy := ⟨hx, hb, hr, hml, hown, hts, hlocks, hK⟩
  have hl := lv_entry ([.ref (ad 0)]) (n := 3) (Nat.le_of_ble_eq_true rfl)
  rw [lg_entry_eq]
  generalize (lg_sl ([.ref (ad 0)]) ++ List.replicate (3 - (lg_sl ([.ref (ad 0)])).length) Slot.unset).toArray = ls at hl ⊢
  have hl : lv_has ls 3 [(0, .ref (ad 0))] := hl
  unfold f_X8_wish at h
  refine lv_aload_n hx hb dX8_wish_0 rfl (lv_at hl 0 rfl) ?_
  refine lv_iconst (v := 0) hx hb dX8_wish_1 (by decide) ?_
  refine r_putI (ty := .int) hx hb hts n_X8_wish_X8 tyX8 tyX8_ok nmX8 hown hK hw h_this (by decide) rfl 0 (by decide) rfl (hts _ k_X8_wish_1) (fun _ q => q) rfl rfl rfl rfl dX8_wish_2 h (fun u H locs hw h => ?_)
  refine lv_aload_n hx hb dX8_wish_5 rfl (lv_at hl 0 rfl) ?_
  refine r_getI hx hb hts n_X8_wish_X8 hown hK hw h_this (by decide) rfl 17 (by decide) rfl (hts _ k_X8_wish_2) (fun _ q => q) dX8_wish_6 h (fun x1 h => ?_)
  refine lv_if_ne (tgt := 14) hx hb dX8_wish_9 (by decide) (fun hc => ?_) (fun hc => ?_)
  · rw [if_neg hc] at h
    refine lv_aload_n hx hb dX8_wish_14 rfl (lv_at hl 0 rfl) ?_
    refine r_getC (t2 := 9) (d := 16) hx hb hts n_X8_wish_X8 hown hK hw h_this (by decide) rfl 16 (by decide) rfl rfl (hts _ k_X8_wish_3) (fun _ q => q) dX8_wish_15 (fun hv2 => ?_)
    refine lv_iconst (v := 0) hx hb dX8_wish_18 (by decide) ?_
    refine r_iald (n := 80) hx hb hK hw hv2 rfl dX8_wish_19 h (fun x3 h => ?_)
    refine lv_istore_n (lv' := [(1, .int x3), (0, .ref (ad 0))]) hx hb dX8_wish_20 rfl hl (by decide) rfl (fun ls hl => ?_)
    refine lv_aload_n hx hb dX8_wish_21 rfl (lv_at hl 1 rfl) ?_
    refine lv_dup hx hb dX8_wish_22 rfl ?_
    refine r_getI hx hb hts n_X8_wish_X8 hown hK hw h_this (by decide) rfl 17 (by decide) rfl (hts _ k_X8_wish_2) (fun _ q => q) dX8_wish_23 h (fun x4 h => ?_)
    refine lv_iconst (v := 1) hx hb dX8_wish_26 (by decide) ?_
    refine lv_isub hx hb dX8_wish_27 ?_
    refine r_putI (ty := .int) hx hb hts n_X8_wish_X8 tyX8 tyX8_ok nmX8 hown hK hw h_this (by decide) rfl 17 (by decide) rfl (hts _ k_X8_wish_2) (fun _ q => q) rfl rfl rfl rfl dX8_wish_28 h (fun u H locs hw h => ?_)
    refine lv_iconst (v := 0) hx hb dX8_wish_31 (by decide) ?_
    refine lv_istore_n (lv' := [(2, .int 0), (1, .int x3), (0, .ref (ad 0))]) hx hb dX8_wish_32 rfl hl (by decide) rfl (fun ls hl => ?_)
    exact j_X8_wish_33 N C0 hA N x3 0 u _ _ _ h_this hw (lv_sub hl [2, 1, 0] rfl) h
  · rw [if_pos hc] at h
    refine lv_iconst (v := (-1)) hx hb dX8_wish_12 (by decide) ?_
    exact r_iret hx hb hr hlocks hK hw h dX8_wish_13
theorem k_X8_weak_1 : Cond.fieldLink RX8 1 "RingHeapModel" "thrown" "I" ∈ wsX8_weak := List.mem_of_getElem? (i := 1) (by rfl)
theorem n_X8_weak_X8 : ∀ w ∈ u_ws RX8 TX8 31, w ∈ wsX8_weak := fun _ h => List.mem_cons_of_mem _ (List.mem_append_right _ h)
theorem k_X8_weak_2 : Cond.fieldLink RX8 60 "RingHeapModel" "weaks" "[I" ∈ wsX8_weak := List.mem_of_getElem? (i := 2) (by rfl)
def f_X8_weak_41 (N : Nat)   (v1 : Int32) (v2 : Int32) (u : Mm) : Option (Int32 × Mm) :=
  ck (bI v1 20) (pt (u.1 18 (ix v1)) (fun x3 => ck (bI v1 20) (pt (sI u 18 (ix v1) v2) (fun u => some (x3, u)))))
set_option maxHeartbeats 4000000 in
set_option maxRecDepth 100000 in
theorem j_X8_weak_41 {p : Program} {l : Launch} {e : Env} {s : State} {m : MethodId} {args : Array Value} {below : List Frame} {meth : Method} {c : Code} {D : va_G} {cy : Nat → ClassId} {L : List Nat} {ad : Nat → Nat} {A : Nat → Prop} {o : Int32 × Mm} (N : Nat)   (C0 : Cx p m meth c cX8_weak (some .int) 4 s args wsX8_weak RX8 D cy) (hA : ∀ q : Nat, s.heap.size ≤ q → A q)  : ∀ (v1 : Int32) (v2 : Int32) (u : Mm) (H : Heap) (locs : List Loc) (ls : Array Slot), vn L 8 0 → Wd D cy L ad A s.heap u H locs → lv_has ls 4 [(0, .ref (ad 0)), (1, .int v1), (2, .int v2)] → f_X8_weak_41 N   v1 v2 u = some o → W p l e ({ frames := 2, cells := 0, slots := 0, locals := 42 } : Room) s m args below meth c H locs 0 0 (MQ below (QcI D cy L ad A o) args s 0 0 A) (F0 m 41 ls []) := by
  obtain ⟨hx, hb, hr, hml, hown, hts, hlocks, hK⟩ := id C0
  intro v1 v2 u H locs ls hv_t0 hw hl h
  unfold f_X8_weak_41 at h
  refine lv_aload_n hx hb dX8_weak_41 rfl (lv_at hl 0 rfl) ?_
  refine r_getC (t2 := 9) (d := 18) hx hb hts n_X8_weak_X8 hown hK hw hv_t0 (by decide) rfl 18 (by decide) rfl rfl (hts _ k_X8_weak_2) (fun _ q => q) dX8_weak_42 (fun hv2 => ?_)
  refine lv_iload_n hx hb dX8_weak_45 rfl (lv_at hl 1 rfl) ?_
  refine r_iald (n := 20) hx hb hK hw hv2 rfl dX8_weak_46 h (fun x3 h => ?_)
  refine lv_istore_n (lv' := [(3, .int x3), (0, .ref (ad 0)), (1, .int v1), (2, .int v2)]) hx hb dX8_weak_47 rfl hl (by decide) rfl (fun ls hl => ?_)
  refine lv_aload_n hx hb dX8_weak_48 rfl (lv_at hl 1 rfl) ?_
  refine r_getC (t2 := 9) (d := 18) hx hb hts n_X8_weak_X8 hown hK hw hv_t0 (by decide) rfl 18 (by decide) rfl rfl (hts _ k_X8_weak_2) (fun _ q => q) dX8_weak_49 (fun hv4 => ?_)
  refine lv_iload_n hx hb dX8_weak_52 rfl (lv_at hl 2 rfl) ?_
  refine lv_iload_n hx hb dX8_weak_53 rfl (lv_at hl 3 rfl) ?_
  refine r_iast (n := 20) hx hb hK hw hv4 rfl dX8_weak_54 h (fun u H locs hw h => ?_)
  refine lv_iload_n hx hb dX8_weak_55 rfl (lv_at hl 0 rfl) ?_
  exact r_iret hx hb hr hlocks hK hw h dX8_weak_56
def f_X8_weak_16 (N : Nat)   (v1 : Int32) (v2 : Int32) (w0 : Int32) (u : Mm) : Option (Int32 × Mm) :=
  pt (sI u 0 0 w0) (fun u => pt (u.1 0 0) (fun x1 => if 0 < x1 then (some ((-1), u)) else (if v2 = (-1) then (f_X8_weak_41 N v1 v2 u) else (bd (f_X8_isWhole N v2 u) (fun x5 u => if x5 = 0 then (some ((-1), u)) else (f_X8_weak_41 N v1 v2 u))))))
set_option maxHeartbeats 4000000 in
set_option maxRecDepth 100000 in
theorem j_X8_weak_16 {p : Program} {l : Launch} {e : Env} {s : State} {m : MethodId} {args : Array Value} {below : List Frame} {meth : Method} {c : Code} {D : va_G} {cy : Nat → ClassId} {L : List Nat} {ad : Nat → Nat} {A : Nat → Prop} {o : Int32 × Mm} (N : Nat)   (C0 : Cx p m meth c cX8_weak (some .int) 4 s args wsX8_weak RX8 D cy) (hA : ∀ q : Nat, s.heap.size ≤ q → A q)  : ∀ (v1 : Int32) (v2 : Int32) (w0 : Int32) (u : Mm) (H : Heap) (locs : List Loc) (ls : Array Slot), vn L 8 0 → vn L 8 0 → Wd D cy L ad A s.heap u H locs → lv_has ls 4 [(0, .ref (ad 0)), (1, .int v1), (2, .int v2)] → f_X8_weak_16 N   v1 v2 w0 u = some o → W p l e ({ frames := 2, cells := 0, slots := 0, locals := 42 } : Room) s m args below meth c H locs 0 0 (MQ below (QcI D cy L ad A o) args s 0 0 A) (F0 m 16 ls [.int w0, .ref (ad 0)]) := by
  obtain ⟨hx, hb, hr, hml, hown, hts, hlocks, hK⟩ := id C0
  intro v1 v2 w0 u H locs ls hv_t0 hv_z1 hw hl h
  unfold f_X8_weak_16 at h
  refine r_putI (ty := .int) hx hb hts n_X8_weak_X8 tyX8 tyX8_ok nmX8 hown hK hw hv_z1 (by decide) rfl 0 (by decide) rfl (hts _ k_X8_weak_1) (fun _ q => q) rfl rfl rfl rfl dX8_weak_16 h (fun u H locs hw h => ?_)
  refine lv_aload_n hx hb dX8_weak_19 rfl (lv_at hl 0 rfl) ?_
  refine r_getI hx hb hts n_X8_weak_X8 hown hK hw hv_t0 (by decide) rfl 0 (by decide) rfl (hts _ k_X8_weak_1) (fun _ q => q) dX8_weak_20 h (fun x1 h => ?_)
  refine lv_if_gt (tgt := 39) hx hb dX8_weak_23 (by decide) (fun hc => ?_) (fun hc => ?_)
  · rw [if_pos hc] at h
    refine lv_iconst (v := (-1)) hx hb dX8_weak_39 (by decide) ?_
    exact r_iret hx hb hr hlocks hK hw h dX8_weak_40
  · rw [if_neg hc] at h
    refine lv_iload_n hx hb dX8_weak_26 rfl (lv_at hl 2 rfl) ?_
    refine lv_iconst (v := (-1)) hx hb dX8_weak_27 (by decide) ?_
    refine lv_icmp_eq (tgt := 41) hx hb dX8_weak_28 (by decide) (fun hc => ?_) (fun hc => ?_)
    · rw [if_pos hc] at h
      exact j_X8_weak_41 N C0 hA v1 v2 u _ _ _ hv_t0 hw (lv_sub hl [0, 1, 2] rfl) h
    · rw [if_neg hc] at h
      refine lv_aload_n hx hb dX8_weak_31 rfl (lv_at hl 0 rfl) ?_
      refine lv_iload_n hx hb dX8_weak_32 rfl (lv_at hl 2 rfl) ?_
      refine r_bI (fun o ho => r_vI (As := [.int v2]) (rest := []) ⟨hx, hb, hml, hown, hts⟩ (c_X8_isWhole l D cy L ad N v2 u o hv_t0 ho) (cwV 1 hts gX8_weak_X8_isWhole rfl rfl rfl (by decide +kernel) ⟨Nat.le_of_ble_eq_true rfl, Nat.le_of_ble_eq_true rfl⟩) hw hK hv_t0 (by decide) rfl rfl hl.1 rfl (Nat.le_of_ble_eq_true rfl) dX8_weak_33 ⟨Nat.zero_le _, Nat.zero_le _⟩) hw hA h (fun x5 u H locs hw h => ?_)
      refine lv_if_ne (tgt := 41) hx hb dX8_weak_36 (by decide) (fun hc => ?_) (fun hc => ?_)
      · rw [if_neg hc] at h
        exact j_X8_weak_41 N C0 hA v1 v2 u _ _ _ hv_t0 hw (lv_sub hl [0, 1, 2] rfl) h
      · rw [if_pos hc] at h
        refine lv_iconst (v := (-1)) hx hb dX8_weak_39 (by decide) ?_
        exact r_iret hx hb hr hlocks hK hw h dX8_weak_40
def f_X8_weak_11 (N : Nat)   (v1 : Int32) (v2 : Int32) (u : Mm) : Option (Int32 × Mm) :=
  f_X8_weak_16 N v1 v2 1 u
set_option maxHeartbeats 4000000 in
set_option maxRecDepth 100000 in
theorem j_X8_weak_11 {p : Program} {l : Launch} {e : Env} {s : State} {m : MethodId} {args : Array Value} {below : List Frame} {meth : Method} {c : Code} {D : va_G} {cy : Nat → ClassId} {L : List Nat} {ad : Nat → Nat} {A : Nat → Prop} {o : Int32 × Mm} (N : Nat)   (C0 : Cx p m meth c cX8_weak (some .int) 4 s args wsX8_weak RX8 D cy) (hA : ∀ q : Nat, s.heap.size ≤ q → A q)  : ∀ (v1 : Int32) (v2 : Int32) (u : Mm) (H : Heap) (locs : List Loc) (ls : Array Slot), vn L 8 0 → vn L 8 0 → Wd D cy L ad A s.heap u H locs → lv_has ls 4 [(0, .ref (ad 0)), (1, .int v1), (2, .int v2)] → f_X8_weak_11 N   v1 v2 u = some o → W p l e ({ frames := 2, cells := 0, slots := 0, locals := 42 } : Room) s m args below meth c H locs 0 0 (MQ below (QcI D cy L ad A o) args s 0 0 A) (F0 m 11 ls [.ref (ad 0)]) := by
  obtain ⟨hx, hb, hr, hml, hown, hts, hlocks, hK⟩ := id C0
  intro v1 v2 u H locs ls hv_t0 hv_z0 hw hl h
  unfold f_X8_weak_11 at h
  refine lv_iconst (v := 1) hx hb dX8_weak_11 (by decide) ?_
  refine lv_goto (tgt := 16) hx hb dX8_weak_12 (by decide) ?_
  exact j_X8_weak_16 N C0 hA v1 v2 1 u _ _ _ hv_t0 hv_z0 hw (lv_sub hl [0, 1, 2] rfl) h
def f_X8_weak (N : Nat) (p0 : Int32) (p1 : Int32) (u : Mm) : Option (Int32 × Mm) :=
  if p0 < 0 then (f_X8_weak_11 N p0 p1 u) else (if p0 < 20 then (f_X8_weak_16 N p0 p1 0 u) else (f_X8_weak_11 N p0 p1 u))
set_option maxHeartbeats 4000000 in
set_option maxRecDepth 100000 in
theorem c_X8_weak (l : Launch) (D : va_G) (cy : Nat → ClassId) (L : List Nat) (ad : Nat → Nat) (N : Nat) (p0 : Int32) (p1 : Int32) (u : Mm) (o : Int32 × Mm) (h_this : vn L 8 0) (h : f_X8_weak N p0 p1 u = some o) : MtI l yX8_weak wsX8_weak ({ frames := 2, cells := 0, slots := 0, locals := 42 } : Room) D cy L ad [.ref (ad 0), .int p0, .int p1] u o := by
  intro sz
  refine Met.ofW (cc := cX8_weak) (maxL := 4) (ret := (some .int)) (by decide) rfl ?_
  intro p e s m args below meth c s₁ B hml hv
  obtain ⟨rfl, hsz, hP, hK, hD0, hok⟩ := hv
  have hx := B.exec
  have hb := B.bytes
  have hr := B.returns
  have hts := atoms_spec (ws := wsX8_weak) B.pre
  have hown : s.vm.findClass RX8 = some m.cls := findClass_of_methodNamed B.named
  have hlocks := B.notSynchronized
  subst hsz
  have hw := wd_start hP hD0 hok
  have hA : ∀ q : Nat, s.heap.size ≤ q → va_A (wl cy L ad u) s.heap.size q := fun q h => Or.inr h
  generalize va_A (wl cy L ad u) s.heap.size = A at hw hA ⊢
  have C0 : Cx p m meth c cX8_weak (some .int) 4 s _ wsX8_weak RX8 D cy := ⟨hx, hb, hr, hml, hown, hts, hlocks, hK⟩
  have hl := lv_entry ([.ref (ad 0), .int p0, .int p1]) (n := 4) (Nat.le_of_ble_eq_true rfl)
  rw [lg_entry_eq]
  generalize (lg_sl ([.ref (ad 0), .int p0, .int p1]) ++ List.replicate (4 - (lg_sl ([.ref (ad 0), .int p0, .int p1])).length) Slot.unset).toArray = ls at hl ⊢
  have hl : lv_has ls 4 [(0, .ref (ad 0)), (1, .int p0), (2, .int p1)] := hl
  unfold f_X8_weak at h
  refine lv_aload_n hx hb dX8_weak_0 rfl (lv_at hl 0 rfl) ?_
  refine lv_iload_n hx hb dX8_weak_1 rfl (lv_at hl 1 rfl) ?_
  refine lv_if_lt (tgt := 11) hx hb dX8_weak_2 (by decide) (fun hc => ?_) (fun hc => ?_)
  · rw [if_pos hc] at h
    exact j_X8_weak_11 N C0 hA p0 p1 u _ _ _ h_this h_this hw (lv_sub hl [0, 1, 2] rfl) h
  · rw [if_neg hc] at h
    refine lv_iload_n hx hb dX8_weak_5 rfl (lv_at hl 1 rfl) ?_
    refine lv_bipush (v := 20) hx hb dX8_weak_6 (by decide) ?_
    refine lv_icmp_lt (tgt := 15) hx hb dX8_weak_8 (by decide) (fun hc => ?_) (fun hc => ?_)
    · rw [if_pos hc] at h
      refine lv_iconst (v := 0) hx hb dX8_weak_15 (by decide) ?_
      exact j_X8_weak_16 N C0 hA p0 p1 0 u _ _ _ h_this h_this hw (lv_sub hl [0, 1, 2] rfl) h
    · rw [if_neg hc] at h
      exact j_X8_weak_11 N C0 hA p0 p1 u _ _ _ h_this h_this hw (lv_sub hl [0, 1, 2] rfl) h
theorem k_X8_seen_1 : Cond.fieldLink RX8 1 "RingHeapModel" "thrown" "I" ∈ wsX8_seen := List.mem_of_getElem? (i := 1) (by rfl)
theorem n_X8_seen_X8 : ∀ w ∈ u_ws RX8 TX8 31, w ∈ wsX8_seen := fun _ h => List.mem_cons_of_mem _ (List.mem_append_right _ h)
theorem k_X8_seen_2 : Cond.fieldLink RX8 60 "RingHeapModel" "weaks" "[I" ∈ wsX8_seen := List.mem_of_getElem? (i := 2) (by rfl)
def f_X8_seen_16 (N : Nat)   (v1 : Int32) (w0 : Int32) (u : Mm) : Option (Int32 × Mm) :=
  pt (sI u 0 0 w0) (fun u => pt (u.1 0 0) (fun x1 => if x1 ≤ 0 then (ck (bI v1 20) (pt (u.1 18 (ix v1)) (fun x3 => some (x3, u)))) else (some (0, u))))
set_option maxHeartbeats 4000000 in
set_option maxRecDepth 100000 in
theorem j_X8_seen_16 {p : Program} {l : Launch} {e : Env} {s : State} {m : MethodId} {args : Array Value} {below : List Frame} {meth : Method} {c : Code} {D : va_G} {cy : Nat → ClassId} {L : List Nat} {ad : Nat → Nat} {A : Nat → Prop} {o : Int32 × Mm} (N : Nat)   (C0 : Cx p m meth c cX8_seen (some .int) 2 s args wsX8_seen RX8 D cy) (hA : ∀ q : Nat, s.heap.size ≤ q → A q)  : ∀ (v1 : Int32) (w0 : Int32) (u : Mm) (H : Heap) (locs : List Loc) (ls : Array Slot), vn L 8 0 → vn L 8 0 → Wd D cy L ad A s.heap u H locs → lv_has ls 2 [(0, .ref (ad 0)), (1, .int v1)] → f_X8_seen_16 N   v1 w0 u = some o → W p l e ({ frames := 0, cells := 0, slots := 0, locals := 0 } : Room) s m args below meth c H locs 0 0 (MQ below (QcI D cy L ad A o) args s 0 0 A) (F0 m 16 ls [.int w0, .ref (ad 0)]) := by
  obtain ⟨hx, hb, hr, hml, hown, hts, hlocks, hK⟩ := id C0
  intro v1 w0 u H locs ls hv_t0 hv_z1 hw hl h
  unfold f_X8_seen_16 at h
  refine r_putI (ty := .int) hx hb hts n_X8_seen_X8 tyX8 tyX8_ok nmX8 hown hK hw hv_z1 (by decide) rfl 0 (by decide) rfl (hts _ k_X8_seen_1) (fun _ q => q) rfl rfl rfl rfl dX8_seen_16 h (fun u H locs hw h => ?_)
  refine lv_aload_n hx hb dX8_seen_19 rfl (lv_at hl 0 rfl) ?_
  refine r_getI hx hb hts n_X8_seen_X8 hown hK hw hv_t0 (by decide) rfl 0 (by decide) rfl (hts _ k_X8_seen_1) (fun _ q => q) dX8_seen_20 h (fun x1 h => ?_)
  refine lv_if_le (tgt := 30) hx hb dX8_seen_23 (by decide) (fun hc => ?_) (fun hc => ?_)
  · rw [if_pos hc] at h
    refine lv_aload_n hx hb dX8_seen_30 rfl (lv_at hl 0 rfl) ?_
    refine r_getC (t2 := 9) (d := 18) hx hb hts n_X8_seen_X8 hown hK hw hv_t0 (by decide) rfl 18 (by decide) rfl rfl (hts _ k_X8_seen_2) (fun _ q => q) dX8_seen_31 (fun hv2 => ?_)
    refine lv_iload_n hx hb dX8_seen_34 rfl (lv_at hl 1 rfl) ?_
    refine r_iald (n := 20) hx hb hK hw hv2 rfl dX8_seen_35 h (fun x3 h => ?_)
    exact r_iret hx hb hr hlocks hK hw h dX8_seen_36
  · rw [if_neg hc] at h
    refine lv_iconst (v := 0) hx hb dX8_seen_26 (by decide) ?_
    refine lv_goto (tgt := 36) hx hb dX8_seen_27 (by decide) ?_
    exact r_iret hx hb hr hlocks hK hw h dX8_seen_36
def f_X8_seen_11 (N : Nat)   (v1 : Int32) (u : Mm) : Option (Int32 × Mm) :=
  f_X8_seen_16 N v1 1 u
set_option maxHeartbeats 4000000 in
set_option maxRecDepth 100000 in
theorem j_X8_seen_11 {p : Program} {l : Launch} {e : Env} {s : State} {m : MethodId} {args : Array Value} {below : List Frame} {meth : Method} {c : Code} {D : va_G} {cy : Nat → ClassId} {L : List Nat} {ad : Nat → Nat} {A : Nat → Prop} {o : Int32 × Mm} (N : Nat)   (C0 : Cx p m meth c cX8_seen (some .int) 2 s args wsX8_seen RX8 D cy) (hA : ∀ q : Nat, s.heap.size ≤ q → A q)  : ∀ (v1 : Int32) (u : Mm) (H : Heap) (locs : List Loc) (ls : Array Slot), vn L 8 0 → vn L 8 0 → Wd D cy L ad A s.heap u H locs → lv_has ls 2 [(0, .ref (ad 0)), (1, .int v1)] → f_X8_seen_11 N   v1 u = some o → W p l e ({ frames := 0, cells := 0, slots := 0, locals := 0 } : Room) s m args below meth c H locs 0 0 (MQ below (QcI D cy L ad A o) args s 0 0 A) (F0 m 11 ls [.ref (ad 0)]) := by
  obtain ⟨hx, hb, hr, hml, hown, hts, hlocks, hK⟩ := id C0
  intro v1 u H locs ls hv_t0 hv_z0 hw hl h
  unfold f_X8_seen_11 at h
  refine lv_iconst (v := 1) hx hb dX8_seen_11 (by decide) ?_
  refine lv_goto (tgt := 16) hx hb dX8_seen_12 (by decide) ?_
  exact j_X8_seen_16 N C0 hA v1 1 u _ _ _ hv_t0 hv_z0 hw (lv_sub hl [0, 1] rfl) h
def f_X8_seen (N : Nat) (p0 : Int32) (u : Mm) : Option (Int32 × Mm) :=
  if p0 < 0 then (f_X8_seen_11 N p0 u) else (if p0 < 20 then (f_X8_seen_16 N p0 0 u) else (f_X8_seen_11 N p0 u))
set_option maxHeartbeats 4000000 in
set_option maxRecDepth 100000 in
theorem c_X8_seen (l : Launch) (D : va_G) (cy : Nat → ClassId) (L : List Nat) (ad : Nat → Nat) (N : Nat) (p0 : Int32) (u : Mm) (o : Int32 × Mm) (h_this : vn L 8 0) (h : f_X8_seen N p0 u = some o) : MtI l yX8_seen wsX8_seen ({ frames := 0, cells := 0, slots := 0, locals := 0 } : Room) D cy L ad [.ref (ad 0), .int p0] u o := by
  intro sz
  refine Met.ofW (cc := cX8_seen) (maxL := 2) (ret := (some .int)) (by decide) rfl ?_
  intro p e s m args below meth c s₁ B hml hv
  obtain ⟨rfl, hsz, hP, hK, hD0, hok⟩ := hv
  have hx := B.exec
  have hb := B.bytes
  have hr := B.returns
  have hts := atoms_spec (ws := wsX8_seen) B.pre
  have hown : s.vm.findClass RX8 = some m.cls := findClass_of_methodNamed B.named
  have hlocks := B.notSynchronized
  subst hsz
  have hw := wd_start hP hD0 hok
  have hA : ∀ q : Nat, s.heap.size ≤ q → va_A (wl cy L ad u) s.heap.size q := fun q h => Or.inr h
  generalize va_A (wl cy L ad u) s.heap.size = A at hw hA ⊢
  have C0 : Cx p m meth c cX8_seen (some .int) 2 s _ wsX8_seen RX8 D cy := ⟨hx, hb, hr, hml, hown, hts, hlocks, hK⟩
  have hl := lv_entry ([.ref (ad 0), .int p0]) (n := 2) (Nat.le_of_ble_eq_true rfl)
  rw [lg_entry_eq]
  generalize (lg_sl ([.ref (ad 0), .int p0]) ++ List.replicate (2 - (lg_sl ([.ref (ad 0), .int p0])).length) Slot.unset).toArray = ls at hl ⊢
  have hl : lv_has ls 2 [(0, .ref (ad 0)), (1, .int p0)] := hl
  unfold f_X8_seen at h
  refine lv_aload_n hx hb dX8_seen_0 rfl (lv_at hl 0 rfl) ?_
  refine lv_iload_n hx hb dX8_seen_1 rfl (lv_at hl 1 rfl) ?_
  refine lv_if_lt (tgt := 11) hx hb dX8_seen_2 (by decide) (fun hc => ?_) (fun hc => ?_)
  · rw [if_pos hc] at h
    exact j_X8_seen_11 N C0 hA p0 u _ _ _ h_this h_this hw (lv_sub hl [0, 1] rfl) h
  · rw [if_neg hc] at h
    refine lv_iload_n hx hb dX8_seen_5 rfl (lv_at hl 1 rfl) ?_
    refine lv_bipush (v := 20) hx hb dX8_seen_6 (by decide) ?_
    refine lv_icmp_lt (tgt := 15) hx hb dX8_seen_8 (by decide) (fun hc => ?_) (fun hc => ?_)
    · rw [if_pos hc] at h
      refine lv_iconst (v := 0) hx hb dX8_seen_15 (by decide) ?_
      exact j_X8_seen_16 N C0 hA p0 0 u _ _ _ h_this h_this hw (lv_sub hl [0, 1] rfl) h
    · rw [if_neg hc] at h
      exact j_X8_seen_11 N C0 hA p0 u _ _ _ h_this h_this hw (lv_sub hl [0, 1] rfl) h
theorem k_X8_object_1 : Cond.fieldLink RX8 1 "RingHeapModel" "thrown" "I" ∈ wsX8_object := List.mem_of_getElem? (i := 1) (by rfl)
theorem n_X8_object_X8 : ∀ w ∈ u_ws RX8 TX8 31, w ∈ wsX8_object := fun _ h => List.mem_cons_of_mem _ (List.mem_append_right _ h)
theorem k_X8_object_2 : Cond.fieldLink RX8 24 "RingHeapModel" "types" "[I" ∈ wsX8_object := List.mem_of_getElem? (i := 2) (by rfl)
theorem k_X8_object_3 : Cond.fieldLink RX8 27 "RingHeapModel" "counts" "[I" ∈ wsX8_object := List.mem_of_getElem? (i := 3) (by rfl)
theorem k_X8_object_4 : Cond.fieldLink RX8 30 "RingHeapModel" "colours" "[I" ∈ wsX8_object := List.mem_of_getElem? (i := 4) (by rfl)
theorem k_X8_object_5 : Cond.fieldLink RX8 33 "RingHeapModel" "addresses" "[I" ∈ wsX8_object := List.mem_of_getElem? (i := 5) (by rfl)
theorem k_X8_object_6 : Cond.fieldLink RX8 39 "RingHeapModel" "listedNow" "[Z" ∈ wsX8_object := List.mem_of_getElem? (i := 6) (by rfl)
theorem k_X8_object_7 : Cond.fieldLink RX8 36 "RingHeapModel" "hands" "[I" ∈ wsX8_object := List.mem_of_getElem? (i := 7) (by rfl)
theorem k_X8_object_8 : Cond.fieldLink RX8 45 "RingHeapModel" "husks" "[Z" ∈ wsX8_object := List.mem_of_getElem? (i := 8) (by rfl)
def f_X8_object_16 (N : Nat)   (v1 : Int32) (v2 : Int32) (w0 : Int32) (u : Mm) : Option (Int32 × Mm) :=
  pt (sI u 0 0 w0) (fun u => pt (u.1 0 0) (fun x1 => if 0 < x1 then (some ((-1), u)) else (bd (f_X8_isThere N v1 u) (fun x2 u => if x2 = 0 then (some ((-1), u)) else (if v2 = 0 then (ck (bI v1 80) (pt (u.1 4 (ix v1)) (fun x4 => some (x4, u)))) else (if v2 = 1 then (ck (bI v1 80) (pt (u.1 5 (ix v1)) (fun x7 => some (x7, u)))) else (if v2 = 2 then (ck (bI v1 80) (pt (u.1 6 (ix v1)) (fun x10 => some (x10, u)))) else (if v2 = 3 then (ck (bI v1 80) (pt (u.1 7 (ix v1)) (fun x13 => some (x13, u)))) else (if v2 = 4 then (ck (bI v1 80) (pt (u.1 9 (ix v1)) (fun x16 => if x16 = 0 then (some (0, u)) else (some (1, u))))) else (if v2 = 5 then (bd (f_X8_hasWish N v1 u) (fun x18 u => if x18 = 0 then (some (0, u)) else (some (1, u)))) else (if v2 = 6 then (ck (bI v1 80) (pt (u.1 8 (ix v1)) (fun x21 => some (x21, u)))) else (ck (bI v1 80) (pt (u.1 11 (ix v1)) (fun x24 => if x24 = 0 then (some (0, u)) else (some (1, u))))))))))))))))
set_option maxHeartbeats 4000000 in
set_option maxRecDepth 100000 in
theorem j_X8_object_16 {p : Program} {l : Launch} {e : Env} {s : State} {m : MethodId} {args : Array Value} {below : List Frame} {meth : Method} {c : Code} {D : va_G} {cy : Nat → ClassId} {L : List Nat} {ad : Nat → Nat} {A : Nat → Prop} {o : Int32 × Mm} (N : Nat)   (C0 : Cx p m meth c cX8_object (some .int) 3 s args wsX8_object RX8 D cy) (hA : ∀ q : Nat, s.heap.size ≤ q → A q)  : ∀ (v1 : Int32) (v2 : Int32) (w0 : Int32) (u : Mm) (H : Heap) (locs : List Loc) (ls : Array Slot), vn L 8 0 → vn L 8 0 → Wd D cy L ad A s.heap u H locs → lv_has ls 3 [(0, .ref (ad 0)), (1, .int v1), (2, .int v2)] → f_X8_object_16 N   v1 v2 w0 u = some o → W p l e ({ frames := 1, cells := 0, slots := 0, locals := 21 } : Room) s m args below meth c H locs 0 0 (MQ below (QcI D cy L ad A o) args s 0 0 A) (F0 m 16 ls [.int w0, .ref (ad 0)]) := by
  obtain ⟨hx, hb, hr, hml, hown, hts, hlocks, hK⟩ := id C0
  intro v1 v2 w0 u H locs ls hv_t0 hv_z1 hw hl h
  unfold f_X8_object_16 at h
  refine r_putI (ty := .int) hx hb hts n_X8_object_X8 tyX8 tyX8_ok nmX8 hown hK hw hv_z1 (by decide) rfl 0 (by decide) rfl (hts _ k_X8_object_1) (fun _ q => q) rfl rfl rfl rfl dX8_object_16 h (fun u H locs hw h => ?_)
  refine lv_aload_n hx hb dX8_object_19 rfl (lv_at hl 0 rfl) ?_
  refine r_getI hx hb hts n_X8_object_X8 hown hK hw hv_t0 (by decide) rfl 0 (by decide) rfl (hts _ k_X8_object_1) (fun _ q => q) dX8_object_20 h (fun x1 h => ?_)
  refine lv_if_gt (tgt := 34) hx hb dX8_object_23 (by decide) (fun hc => ?_) (fun hc => ?_)
  · rw [if_pos hc] at h
    refine lv_iconst (v := (-1)) hx hb dX8_object_34 (by decide) ?_
    exact r_iret hx hb hr hlocks hK hw h dX8_object_35
  · rw [if_neg hc] at h
    refine lv_aload_n hx hb dX8_object_26 rfl (lv_at hl 0 rfl) ?_
    refine lv_iload_n hx hb dX8_object_27 rfl (lv_at hl 1 rfl) ?_
    refine r_bI (fun o ho => r_vI (As := [.int v1]) (rest := []) ⟨hx, hb, hml, hown, hts⟩ (c_X8_isThere l D cy L ad N v1 u o hv_t0 ho) (cwV 1 hts gX8_object_X8_isThere rfl rfl rfl (by decide +kernel) ⟨Nat.le_of_ble_eq_true rfl, Nat.le_of_ble_eq_true rfl⟩) hw hK hv_t0 (by decide) rfl rfl hl.1 rfl (Nat.le_of_ble_eq_true rfl) dX8_object_28 ⟨Nat.zero_le _, Nat.zero_le _⟩) hw hA h (fun x2 u H locs hw h => ?_)
    refine lv_if_ne (tgt := 36) hx hb dX8_object_31 (by decide) (fun hc => ?_) (fun hc => ?_)
    · rw [if_neg hc] at h
      refine lv_iload_n hx hb dX8_object_36 rfl (lv_at hl 2 rfl) ?_
      by_cases hq5 : v2 = 0
      · rw [if_pos hq5] at h
        refine r_tin (tgt := 80) (k := 0) (off := 43) hx hb dX8_object_37 hq5 (by decide) (by decide) (by decide) (by decide) ?_
        refine lv_aload_n hx hb dX8_object_80 rfl (lv_at hl 0 rfl) ?_
        refine r_getC (t2 := 9) (d := 4) hx hb hts n_X8_object_X8 hown hK hw hv_t0 (by decide) rfl 4 (by decide) rfl rfl (hts _ k_X8_object_2) (fun _ q => q) dX8_object_81 (fun hv3 => ?_)
        refine lv_iload_n hx hb dX8_object_84 rfl (lv_at hl 1 rfl) ?_
        refine r_iald (n := 80) hx hb hK hw hv3 rfl dX8_object_85 h (fun x4 h => ?_)
        exact r_iret hx hb hr hlocks hK hw h dX8_object_86
      · rw [if_neg hq5] at h
        by_cases hq8 : v2 = 1
        · rw [if_pos hq8] at h
          refine r_tin (tgt := 87) (k := 1) (off := 50) hx hb dX8_object_37 hq8 (by decide) (by decide) (by decide) (by decide) ?_
          refine lv_aload_n hx hb dX8_object_87 rfl (lv_at hl 0 rfl) ?_
          refine r_getC (t2 := 9) (d := 5) hx hb hts n_X8_object_X8 hown hK hw hv_t0 (by decide) rfl 5 (by decide) rfl rfl (hts _ k_X8_object_3) (fun _ q => q) dX8_object_88 (fun hv6 => ?_)
          refine lv_iload_n hx hb dX8_object_91 rfl (lv_at hl 1 rfl) ?_
          refine r_iald (n := 80) hx hb hK hw hv6 rfl dX8_object_92 h (fun x7 h => ?_)
          exact r_iret hx hb hr hlocks hK hw h dX8_object_93
        · rw [if_neg hq8] at h
          by_cases hq11 : v2 = 2
          · rw [if_pos hq11] at h
            refine r_tin (tgt := 94) (k := 2) (off := 57) hx hb dX8_object_37 hq11 (by decide) (by decide) (by decide) (by decide) ?_
            refine lv_aload_n hx hb dX8_object_94 rfl (lv_at hl 0 rfl) ?_
            refine r_getC (t2 := 9) (d := 6) hx hb hts n_X8_object_X8 hown hK hw hv_t0 (by decide) rfl 6 (by decide) rfl rfl (hts _ k_X8_object_4) (fun _ q => q) dX8_object_95 (fun hv9 => ?_)
            refine lv_iload_n hx hb dX8_object_98 rfl (lv_at hl 1 rfl) ?_
            refine r_iald (n := 80) hx hb hK hw hv9 rfl dX8_object_99 h (fun x10 h => ?_)
            exact r_iret hx hb hr hlocks hK hw h dX8_object_100
          · rw [if_neg hq11] at h
            by_cases hq14 : v2 = 3
            · rw [if_pos hq14] at h
              refine r_tin (tgt := 101) (k := 3) (off := 64) hx hb dX8_object_37 hq14 (by decide) (by decide) (by decide) (by decide) ?_
              refine lv_aload_n hx hb dX8_object_101 rfl (lv_at hl 0 rfl) ?_
              refine r_getC (t2 := 9) (d := 7) hx hb hts n_X8_object_X8 hown hK hw hv_t0 (by decide) rfl 7 (by decide) rfl rfl (hts _ k_X8_object_5) (fun _ q => q) dX8_object_102 (fun hv12 => ?_)
              refine lv_iload_n hx hb dX8_object_105 rfl (lv_at hl 1 rfl) ?_
              refine r_iald (n := 80) hx hb hK hw hv12 rfl dX8_object_106 h (fun x13 h => ?_)
              exact r_iret hx hb hr hlocks hK hw h dX8_object_107
            · rw [if_neg hq14] at h
              by_cases hq17 : v2 = 4
              · rw [if_pos hq17] at h
                refine r_tin (tgt := 108) (k := 4) (off := 71) hx hb dX8_object_37 hq17 (by decide) (by decide) (by decide) (by decide) ?_
                refine lv_aload_n hx hb dX8_object_108 rfl (lv_at hl 0 rfl) ?_
                refine r_getC (t2 := 10) (d := 9) hx hb hts n_X8_object_X8 hown hK hw hv_t0 (by decide) rfl 9 (by decide) rfl rfl (hts _ k_X8_object_6) (fun _ q => q) dX8_object_109 (fun hv15 => ?_)
                refine lv_iload_n hx hb dX8_object_112 rfl (lv_at hl 1 rfl) ?_
                refine r_zald (n := 80) hx hb hK hw hv15 rfl dX8_object_113 h (fun x16 h => ?_)
                refine lv_if_eq (tgt := 121) hx hb dX8_object_114 (by decide) (fun hc => ?_) (fun hc => ?_)
                · rw [if_pos hc] at h
                  refine lv_iconst (v := 0) hx hb dX8_object_121 (by decide) ?_
                  exact r_iret hx hb hr hlocks hK hw h dX8_object_122
                · rw [if_neg hc] at h
                  refine lv_iconst (v := 1) hx hb dX8_object_117 (by decide) ?_
                  refine lv_goto (tgt := 122) hx hb dX8_object_118 (by decide) ?_
                  exact r_iret hx hb hr hlocks hK hw h dX8_object_122
              · rw [if_neg hq17] at h
                by_cases hq19 : v2 = 5
                · rw [if_pos hq19] at h
                  refine r_tin (tgt := 123) (k := 5) (off := 86) hx hb dX8_object_37 hq19 (by decide) (by decide) (by decide) (by decide) ?_
                  refine lv_aload_n hx hb dX8_object_123 rfl (lv_at hl 0 rfl) ?_
                  refine lv_iload_n hx hb dX8_object_124 rfl (lv_at hl 1 rfl) ?_
                  refine r_bI (fun o ho => r_vI (As := [.int v1]) (rest := []) ⟨hx, hb, hml, hown, hts⟩ (c_X8_hasWish l D cy L ad N v1 u o hv_t0 ho) (cwV 1 hts gX8_object_X8_hasWish rfl rfl rfl (by decide +kernel) ⟨Nat.le_of_ble_eq_true rfl, Nat.le_of_ble_eq_true rfl⟩) hw hK hv_t0 (by decide) rfl rfl hl.1 rfl (Nat.le_of_ble_eq_true rfl) dX8_object_125 ⟨Nat.zero_le _, Nat.zero_le _⟩) hw hA h (fun x18 u H locs hw h => ?_)
                  refine lv_if_eq (tgt := 135) hx hb dX8_object_128 (by decide) (fun hc => ?_) (fun hc => ?_)
                  · rw [if_pos hc] at h
                    refine lv_iconst (v := 0) hx hb dX8_object_135 (by decide) ?_
                    exact r_iret hx hb hr hlocks hK hw h dX8_object_136
                  · rw [if_neg hc] at h
                    refine lv_iconst (v := 1) hx hb dX8_object_131 (by decide) ?_
                    refine lv_goto (tgt := 136) hx hb dX8_object_132 (by decide) ?_
                    exact r_iret hx hb hr hlocks hK hw h dX8_object_136
                · rw [if_neg hq19] at h
                  by_cases hq22 : v2 = 6
                  · rw [if_pos hq22] at h
                    refine r_tin (tgt := 137) (k := 6) (off := 100) hx hb dX8_object_37 hq22 (by decide) (by decide) (by decide) (by decide) ?_
                    refine lv_aload_n hx hb dX8_object_137 rfl (lv_at hl 0 rfl) ?_
                    refine r_getC (t2 := 9) (d := 8) hx hb hts n_X8_object_X8 hown hK hw hv_t0 (by decide) rfl 8 (by decide) rfl rfl (hts _ k_X8_object_7) (fun _ q => q) dX8_object_138 (fun hv20 => ?_)
                    refine lv_iload_n hx hb dX8_object_141 rfl (lv_at hl 1 rfl) ?_
                    refine r_iald (n := 80) hx hb hK hw hv20 rfl dX8_object_142 h (fun x21 h => ?_)
                    exact r_iret hx hb hr hlocks hK hw h dX8_object_143
                  · rw [if_neg hq22] at h
                    refine lv_tableOut (tgt := 144) hx hb dX8_object_37 (by have := i32_ne hq5; have := i32_ne hq8; have := i32_ne hq11; have := i32_ne hq14; have := i32_ne hq17; have := i32_ne hq19; have := i32_ne hq22; simp only [i32_0, i32_1, i32_2, i32_3, i32_4, i32_5, i32_6] at *; omega) (by decide) ?_
                    refine lv_aload_n hx hb dX8_object_144 rfl (lv_at hl 0 rfl) ?_
                    refine r_getC (t2 := 10) (d := 11) hx hb hts n_X8_object_X8 hown hK hw hv_t0 (by decide) rfl 11 (by decide) rfl rfl (hts _ k_X8_object_8) (fun _ q => q) dX8_object_145 (fun hv23 => ?_)
                    refine lv_iload_n hx hb dX8_object_148 rfl (lv_at hl 1 rfl) ?_
                    refine r_zald (n := 80) hx hb hK hw hv23 rfl dX8_object_149 h (fun x24 h => ?_)
                    refine lv_if_eq (tgt := 157) hx hb dX8_object_150 (by decide) (fun hc => ?_) (fun hc => ?_)
                    · rw [if_pos hc] at h
                      refine lv_iconst (v := 0) hx hb dX8_object_157 (by decide) ?_
                      exact r_iret hx hb hr hlocks hK hw h dX8_object_158
                    · rw [if_neg hc] at h
                      refine lv_iconst (v := 1) hx hb dX8_object_153 (by decide) ?_
                      refine lv_goto (tgt := 158) hx hb dX8_object_154 (by decide) ?_
                      exact r_iret hx hb hr hlocks hK hw h dX8_object_158
    · rw [if_pos hc] at h
      refine lv_iconst (v := (-1)) hx hb dX8_object_34 (by decide) ?_
      exact r_iret hx hb hr hlocks hK hw h dX8_object_35
def f_X8_object_11 (N : Nat)   (v1 : Int32) (v2 : Int32) (u : Mm) : Option (Int32 × Mm) :=
  f_X8_object_16 N v1 v2 1 u
set_option maxHeartbeats 4000000 in
set_option maxRecDepth 100000 in
theorem j_X8_object_11 {p : Program} {l : Launch} {e : Env} {s : State} {m : MethodId} {args : Array Value} {below : List Frame} {meth : Method} {c : Code} {D : va_G} {cy : Nat → ClassId} {L : List Nat} {ad : Nat → Nat} {A : Nat → Prop} {o : Int32 × Mm} (N : Nat)   (C0 : Cx p m meth c cX8_object (some .int) 3 s args wsX8_object RX8 D cy) (hA : ∀ q : Nat, s.heap.size ≤ q → A q)  : ∀ (v1 : Int32) (v2 : Int32) (u : Mm) (H : Heap) (locs : List Loc) (ls : Array Slot), vn L 8 0 → vn L 8 0 → Wd D cy L ad A s.heap u H locs → lv_has ls 3 [(0, .ref (ad 0)), (1, .int v1), (2, .int v2)] → f_X8_object_11 N   v1 v2 u = some o → W p l e ({ frames := 1, cells := 0, slots := 0, locals := 21 } : Room) s m args below meth c H locs 0 0 (MQ below (QcI D cy L ad A o) args s 0 0 A) (F0 m 11 ls [.ref (ad 0)]) := by
  obtain ⟨hx, hb, hr, hml, hown, hts, hlocks, hK⟩ := id C0
  intro v1 v2 u H locs ls hv_t0 hv_z0 hw hl h
  unfold f_X8_object_11 at h
  refine lv_iconst (v := 1) hx hb dX8_object_11 (by decide) ?_
  refine lv_goto (tgt := 16) hx hb dX8_object_12 (by decide) ?_
  exact j_X8_object_16 N C0 hA v1 v2 1 u _ _ _ hv_t0 hv_z0 hw (lv_sub hl [0, 1, 2] rfl) h
def f_X8_object (N : Nat) (p0 : Int32) (p1 : Int32) (u : Mm) : Option (Int32 × Mm) :=
  if p1 < 0 then (f_X8_object_11 N p0 p1 u) else (if p1 ≤ 7 then (f_X8_object_16 N p0 p1 0 u) else (f_X8_object_11 N p0 p1 u))
set_option maxHeartbeats 4000000 in
set_option maxRecDepth 100000 in
theorem c_X8_object (l : Launch) (D : va_G) (cy : Nat → ClassId) (L : List Nat) (ad : Nat → Nat) (N : Nat) (p0 : Int32) (p1 : Int32) (u : Mm) (o : Int32 × Mm) (h_this : vn L 8 0) (h : f_X8_object N p0 p1 u = some o) : MtI l yX8_object wsX8_object ({ frames := 1, cells := 0, slots := 0, locals := 21 } : Room) D cy L ad [.ref (ad 0), .int p0, .int p1] u o := by
  intro sz
  refine Met.ofW (cc := cX8_object) (maxL := 3) (ret := (some .int)) (by decide) rfl ?_
  intro p e s m args below meth c s₁ B hml hv
  obtain ⟨rfl, hsz, hP, hK, hD0, hok⟩ := hv
  have hx := B.exec
  have hb := B.bytes
  have hr := B.returns
  have hts := atoms_spec (ws := wsX8_object) B.pre
  have hown : s.vm.findClass RX8 = some m.cls := findClass_of_methodNamed B.named
  have hlocks := B.notSynchronized
  subst hsz
  have hw := wd_start hP hD0 hok
  have hA : ∀ q : Nat, s.heap.size ≤ q → va_A (wl cy L ad u) s.heap.size q := fun q h => Or.inr h
  generalize va_A (wl cy L ad u) s.heap.size = A at hw hA ⊢
  have C0 : Cx p m meth c cX8_object (some .int) 3 s _ wsX8_object RX8 D cy := ⟨hx, hb, hr, hml, hown, hts, hlocks, hK⟩
  have hl := lv_entry ([.ref (ad 0), .int p0, .int p1]) (n := 3) (Nat.le_of_ble_eq_true rfl)
  rw [lg_entry_eq]
  generalize (lg_sl ([.ref (ad 0), .int p0, .int p1]) ++ List.replicate (3 - (lg_sl ([.ref (ad 0), .int p0, .int p1])).length) Slot.unset).toArray = ls at hl ⊢
  have hl : lv_has ls 3 [(0, .ref (ad 0)), (1, .int p0), (2, .int p1)] := hl
  unfold f_X8_object at h
  refine lv_aload_n hx hb dX8_object_0 rfl (lv_at hl 0 rfl) ?_
  refine lv_iload_n hx hb dX8_object_1 rfl (lv_at hl 2 rfl) ?_
  refine lv_if_lt (tgt := 11) hx hb dX8_object_2 (by decide) (fun hc => ?_) (fun hc => ?_)
  · rw [if_pos hc] at h
    exact j_X8_object_11 N C0 hA p0 p1 u _ _ _ h_this h_this hw (lv_sub hl [0, 1, 2] rfl) h
  · rw [if_neg hc] at h
    refine lv_iload_n hx hb dX8_object_5 rfl (lv_at hl 2 rfl) ?_
    refine lv_bipush (v := 7) hx hb dX8_object_6 (by decide) ?_
    refine lv_icmp_le (tgt := 15) hx hb dX8_object_8 (by decide) (fun hc => ?_) (fun hc => ?_)
    · rw [if_pos hc] at h
      refine lv_iconst (v := 0) hx hb dX8_object_15 (by decide) ?_
      exact j_X8_object_16 N C0 hA p0 p1 0 u _ _ _ h_this h_this hw (lv_sub hl [0, 1, 2] rfl) h
    · rw [if_neg hc] at h
      exact j_X8_object_11 N C0 hA p0 p1 u _ _ _ h_this h_this hw (lv_sub hl [0, 1, 2] rfl) h
theorem k_X8_count_1 : Cond.fieldLink RX8 1 "RingHeapModel" "thrown" "I" ∈ wsX8_count := List.mem_of_getElem? (i := 1) (by rfl)
theorem n_X8_count_X8 : ∀ w ∈ u_ws RX8 TX8 31, w ∈ wsX8_count := fun _ h => List.mem_cons_of_mem _ (List.mem_append_right _ h)
theorem k_X8_count_2 : Cond.fieldLink RX8 130 "RingHeapModel" "byAddressCount" "I" ∈ wsX8_count := List.mem_of_getElem? (i := 2) (by rfl)
theorem k_X8_count_3 : Cond.fieldLink RX8 88 "RingHeapModel" "listCount" "I" ∈ wsX8_count := List.mem_of_getElem? (i := 3) (by rfl)
theorem k_X8_count_4 : Cond.fieldLink RX8 85 "RingHeapModel" "wishCount" "I" ∈ wsX8_count := List.mem_of_getElem? (i := 4) (by rfl)
theorem k_X8_count_5 : Cond.fieldLink RX8 82 "RingHeapModel" "freedEver" "I" ∈ wsX8_count := List.mem_of_getElem? (i := 5) (by rfl)
theorem k_X8_count_6 : Cond.fieldLink RX8 139 "RingHeapModel" "collections" "I" ∈ wsX8_count := List.mem_of_getElem? (i := 6) (by rfl)
theorem k_X8_count_7 : Cond.fieldLink RX8 154 "RingHeapModel" "moves" "I" ∈ wsX8_count := List.mem_of_getElem? (i := 7) (by rfl)
theorem k_X8_count_8 : Cond.fieldLink RX8 118 "RingHeapModel" "grayed" "I" ∈ wsX8_count := List.mem_of_getElem? (i := 8) (by rfl)
theorem k_X8_count_9 : Cond.fieldLink RX8 121 "RingHeapModel" "blackened" "I" ∈ wsX8_count := List.mem_of_getElem? (i := 9) (by rfl)
def f_X8_count_16 (N : Nat)   (v1 : Int32) (w0 : Int32) (u : Mm) : Option (Int32 × Mm) :=
  pt (sI u 0 0 w0) (fun u => if v1 = 0 then (bv (f_X8_findByAddress N u) (fun u => pt (u.1 0 29) (fun x1 => some (x1, u)))) else (if v1 = 1 then (pt (u.1 0 15) (fun x3 => some (x3, u))) else (if v1 = 2 then (pt (u.1 0 17) (fun x5 => some (x5, u))) else (if v1 = 3 then (bd (f_X8_freeWords N u) (fun x7 u => some (x7, u))) else (if v1 = 4 then (pt (u.1 0 20) (fun x9 => some (x9, u))) else (if v1 = 5 then (pt (u.1 0 21) (fun x11 => some (x11, u))) else (if v1 = 6 then (pt (u.1 0 22) (fun x13 => some (x13, u))) else (if v1 = 7 then (pt (u.1 0 23) (fun x15 => some (x15, u))) else (if v1 = 8 then (pt (u.1 0 24) (fun x17 => some (x17, u))) else (some (0, u)))))))))))
set_option maxHeartbeats 4000000 in
set_option maxRecDepth 100000 in
theorem j_X8_count_16 {p : Program} {l : Launch} {e : Env} {s : State} {m : MethodId} {args : Array Value} {below : List Frame} {meth : Method} {c : Code} {D : va_G} {cy : Nat → ClassId} {L : List Nat} {ad : Nat → Nat} {A : Nat → Prop} {o : Int32 × Mm} (N : Nat)   (C0 : Cx p m meth c cX8_count (some .int) 2 s args wsX8_count RX8 D cy) (hA : ∀ q : Nat, s.heap.size ≤ q → A q)  : ∀ (v1 : Int32) (w0 : Int32) (u : Mm) (H : Heap) (locs : List Loc) (ls : Array Slot), vn L 8 0 → vn L 8 0 → Wd D cy L ad A s.heap u H locs → lv_has ls 2 [(0, .ref (ad 0)), (1, .int v1)] → f_X8_count_16 N   v1 w0 u = some o → W p l e ({ frames := 1, cells := 0, slots := 0, locals := 22 } : Room) s m args below meth c H locs 0 0 (MQ below (QcI D cy L ad A o) args s 0 0 A) (F0 m 16 ls [.int w0, .ref (ad 0)]) := by
  obtain ⟨hx, hb, hr, hml, hown, hts, hlocks, hK⟩ := id C0
  intro v1 w0 u H locs ls hv_t0 hv_z1 hw hl h
  unfold f_X8_count_16 at h
  refine r_putI (ty := .int) hx hb hts n_X8_count_X8 tyX8 tyX8_ok nmX8 hown hK hw hv_z1 (by decide) rfl 0 (by decide) rfl (hts _ k_X8_count_1) (fun _ q => q) rfl rfl rfl rfl dX8_count_16 h (fun u H locs hw h => ?_)
  refine lv_iload_n hx hb dX8_count_19 rfl (lv_at hl 1 rfl) ?_
  by_cases hq2 : v1 = 0
  · rw [if_pos hq2] at h
    refine r_tin (tgt := 72) (k := 0) (off := 52) hx hb dX8_count_20 hq2 (by decide) (by decide) (by decide) (by decide) ?_
    refine lv_aload_n hx hb dX8_count_72 rfl (lv_at hl 0 rfl) ?_
    refine r_bV (fun o ho => r_vV (As := []) (rest := []) ⟨hx, hb, hml, hown, hts⟩ (c_X8_findByAddress l D cy L ad N u o hv_t0 ho) (cwV 0 hts gX8_count_X8_findByAddress rfl rfl rfl (by decide +kernel) ⟨Nat.le_of_ble_eq_true rfl, Nat.le_of_ble_eq_true rfl⟩) hw hK hv_t0 (by decide) rfl rfl hl.1 rfl (Nat.le_of_ble_eq_true rfl) dX8_count_73 ⟨Nat.zero_le _, Nat.zero_le _⟩) hw hA h (fun u H locs hw h => ?_)
    refine lv_aload_n hx hb dX8_count_76 rfl (lv_at hl 0 rfl) ?_
    refine r_getI hx hb hts n_X8_count_X8 hown hK hw hv_t0 (by decide) rfl 29 (by decide) rfl (hts _ k_X8_count_2) (fun _ q => q) dX8_count_77 h (fun x1 h => ?_)
    exact r_iret hx hb hr hlocks hK hw h dX8_count_80
  · rw [if_neg hq2] at h
    by_cases hq4 : v1 = 1
    · rw [if_pos hq4] at h
      refine r_tin (tgt := 81) (k := 1) (off := 61) hx hb dX8_count_20 hq4 (by decide) (by decide) (by decide) (by decide) ?_
      refine lv_aload_n hx hb dX8_count_81 rfl (lv_at hl 0 rfl) ?_
      refine r_getI hx hb hts n_X8_count_X8 hown hK hw hv_t0 (by decide) rfl 15 (by decide) rfl (hts _ k_X8_count_3) (fun _ q => q) dX8_count_82 h (fun x3 h => ?_)
      exact r_iret hx hb hr hlocks hK hw h dX8_count_85
    · rw [if_neg hq4] at h
      by_cases hq6 : v1 = 2
      · rw [if_pos hq6] at h
        refine r_tin (tgt := 86) (k := 2) (off := 66) hx hb dX8_count_20 hq6 (by decide) (by decide) (by decide) (by decide) ?_
        refine lv_aload_n hx hb dX8_count_86 rfl (lv_at hl 0 rfl) ?_
        refine r_getI hx hb hts n_X8_count_X8 hown hK hw hv_t0 (by decide) rfl 17 (by decide) rfl (hts _ k_X8_count_4) (fun _ q => q) dX8_count_87 h (fun x5 h => ?_)
        exact r_iret hx hb hr hlocks hK hw h dX8_count_90
      · rw [if_neg hq6] at h
        by_cases hq8 : v1 = 3
        · rw [if_pos hq8] at h
          refine r_tin (tgt := 91) (k := 3) (off := 71) hx hb dX8_count_20 hq8 (by decide) (by decide) (by decide) (by decide) ?_
          refine lv_aload_n hx hb dX8_count_91 rfl (lv_at hl 0 rfl) ?_
          refine r_bI (fun o ho => r_vI (As := []) (rest := []) ⟨hx, hb, hml, hown, hts⟩ (c_X8_freeWords l D cy L ad N u o hv_t0 ho) (cwV 0 hts gX8_count_X8_freeWords rfl rfl rfl (by decide +kernel) ⟨Nat.le_of_ble_eq_true rfl, Nat.le_of_ble_eq_true rfl⟩) hw hK hv_t0 (by decide) rfl rfl hl.1 rfl (Nat.le_of_ble_eq_true rfl) dX8_count_92 ⟨Nat.zero_le _, Nat.zero_le _⟩) hw hA h (fun x7 u H locs hw h => ?_)
          exact r_iret hx hb hr hlocks hK hw h dX8_count_95
        · rw [if_neg hq8] at h
          by_cases hq10 : v1 = 4
          · rw [if_pos hq10] at h
            refine r_tin (tgt := 96) (k := 4) (off := 76) hx hb dX8_count_20 hq10 (by decide) (by decide) (by decide) (by decide) ?_
            refine lv_aload_n hx hb dX8_count_96 rfl (lv_at hl 0 rfl) ?_
            refine r_getI hx hb hts n_X8_count_X8 hown hK hw hv_t0 (by decide) rfl 20 (by decide) rfl (hts _ k_X8_count_5) (fun _ q => q) dX8_count_97 h (fun x9 h => ?_)
            exact r_iret hx hb hr hlocks hK hw h dX8_count_100
          · rw [if_neg hq10] at h
            by_cases hq12 : v1 = 5
            · rw [if_pos hq12] at h
              refine r_tin (tgt := 101) (k := 5) (off := 81) hx hb dX8_count_20 hq12 (by decide) (by decide) (by decide) (by decide) ?_
              refine lv_aload_n hx hb dX8_count_101 rfl (lv_at hl 0 rfl) ?_
              refine r_getI hx hb hts n_X8_count_X8 hown hK hw hv_t0 (by decide) rfl 21 (by decide) rfl (hts _ k_X8_count_6) (fun _ q => q) dX8_count_102 h (fun x11 h => ?_)
              exact r_iret hx hb hr hlocks hK hw h dX8_count_105
            · rw [if_neg hq12] at h
              by_cases hq14 : v1 = 6
              · rw [if_pos hq14] at h
                refine r_tin (tgt := 106) (k := 6) (off := 86) hx hb dX8_count_20 hq14 (by decide) (by decide) (by decide) (by decide) ?_
                refine lv_aload_n hx hb dX8_count_106 rfl (lv_at hl 0 rfl) ?_
                refine r_getI hx hb hts n_X8_count_X8 hown hK hw hv_t0 (by decide) rfl 22 (by decide) rfl (hts _ k_X8_count_7) (fun _ q => q) dX8_count_107 h (fun x13 h => ?_)
                exact r_iret hx hb hr hlocks hK hw h dX8_count_110
              · rw [if_neg hq14] at h
                by_cases hq16 : v1 = 7
                · rw [if_pos hq16] at h
                  refine r_tin (tgt := 111) (k := 7) (off := 91) hx hb dX8_count_20 hq16 (by decide) (by decide) (by decide) (by decide) ?_
                  refine lv_aload_n hx hb dX8_count_111 rfl (lv_at hl 0 rfl) ?_
                  refine r_getI hx hb hts n_X8_count_X8 hown hK hw hv_t0 (by decide) rfl 23 (by decide) rfl (hts _ k_X8_count_8) (fun _ q => q) dX8_count_112 h (fun x15 h => ?_)
                  exact r_iret hx hb hr hlocks hK hw h dX8_count_115
                · rw [if_neg hq16] at h
                  by_cases hq18 : v1 = 8
                  · rw [if_pos hq18] at h
                    refine r_tin (tgt := 116) (k := 8) (off := 96) hx hb dX8_count_20 hq18 (by decide) (by decide) (by decide) (by decide) ?_
                    refine lv_aload_n hx hb dX8_count_116 rfl (lv_at hl 0 rfl) ?_
                    refine r_getI hx hb hts n_X8_count_X8 hown hK hw hv_t0 (by decide) rfl 24 (by decide) rfl (hts _ k_X8_count_9) (fun _ q => q) dX8_count_117 h (fun x17 h => ?_)
                    exact r_iret hx hb hr hlocks hK hw h dX8_count_120
                  · rw [if_neg hq18] at h
                    refine lv_tableOut (tgt := 121) hx hb dX8_count_20 (by have := i32_ne hq2; have := i32_ne hq4; have := i32_ne hq6; have := i32_ne hq8; have := i32_ne hq10; have := i32_ne hq12; have := i32_ne hq14; have := i32_ne hq16; have := i32_ne hq18; simp only [i32_0, i32_1, i32_2, i32_3, i32_4, i32_5, i32_6, i32_7, i32_8] at *; omega) (by decide) ?_
                    refine lv_iconst (v := 0) hx hb dX8_count_121 (by decide) ?_
                    exact r_iret hx hb hr hlocks hK hw h dX8_count_122
def f_X8_count_11 (N : Nat)   (v1 : Int32) (u : Mm) : Option (Int32 × Mm) :=
  f_X8_count_16 N v1 1 u
set_option maxHeartbeats 4000000 in
set_option maxRecDepth 100000 in
theorem j_X8_count_11 {p : Program} {l : Launch} {e : Env} {s : State} {m : MethodId} {args : Array Value} {below : List Frame} {meth : Method} {c : Code} {D : va_G} {cy : Nat → ClassId} {L : List Nat} {ad : Nat → Nat} {A : Nat → Prop} {o : Int32 × Mm} (N : Nat)   (C0 : Cx p m meth c cX8_count (some .int) 2 s args wsX8_count RX8 D cy) (hA : ∀ q : Nat, s.heap.size ≤ q → A q)  : ∀ (v1 : Int32) (u : Mm) (H : Heap) (locs : List Loc) (ls : Array Slot), vn L 8 0 → vn L 8 0 → Wd D cy L ad A s.heap u H locs → lv_has ls 2 [(0, .ref (ad 0)), (1, .int v1)] → f_X8_count_11 N   v1 u = some o → W p l e ({ frames := 1, cells := 0, slots := 0, locals := 22 } : Room) s m args below meth c H locs 0 0 (MQ below (QcI D cy L ad A o) args s 0 0 A) (F0 m 11 ls [.ref (ad 0)]) := by
  obtain ⟨hx, hb, hr, hml, hown, hts, hlocks, hK⟩ := id C0
  intro v1 u H locs ls hv_t0 hv_z0 hw hl h
  unfold f_X8_count_11 at h
  refine lv_iconst (v := 1) hx hb dX8_count_11 (by decide) ?_
  refine lv_goto (tgt := 16) hx hb dX8_count_12 (by decide) ?_
  exact j_X8_count_16 N C0 hA v1 1 u _ _ _ hv_t0 hv_z0 hw (lv_sub hl [0, 1] rfl) h
def f_X8_count (N : Nat) (p0 : Int32) (u : Mm) : Option (Int32 × Mm) :=
  if p0 < 0 then (f_X8_count_11 N p0 u) else (if p0 ≤ 8 then (f_X8_count_16 N p0 0 u) else (f_X8_count_11 N p0 u))
set_option maxHeartbeats 4000000 in
set_option maxRecDepth 100000 in
theorem c_X8_count (l : Launch) (D : va_G) (cy : Nat → ClassId) (L : List Nat) (ad : Nat → Nat) (N : Nat) (p0 : Int32) (u : Mm) (o : Int32 × Mm) (h_this : vn L 8 0) (h : f_X8_count N p0 u = some o) : MtI l yX8_count wsX8_count ({ frames := 1, cells := 0, slots := 0, locals := 22 } : Room) D cy L ad [.ref (ad 0), .int p0] u o := by
  intro sz
  refine Met.ofW (cc := cX8_count) (maxL := 2) (ret := (some .int)) (by decide) rfl ?_
  intro p e s m args below meth c s₁ B hml hv
  obtain ⟨rfl, hsz, hP, hK, hD0, hok⟩ := hv
  have hx := B.exec
  have hb := B.bytes
  have hr := B.returns
  have hts := atoms_spec (ws := wsX8_count) B.pre
  have hown : s.vm.findClass RX8 = some m.cls := findClass_of_methodNamed B.named
  have hlocks := B.notSynchronized
  subst hsz
  have hw := wd_start hP hD0 hok
  have hA : ∀ q : Nat, s.heap.size ≤ q → va_A (wl cy L ad u) s.heap.size q := fun q h => Or.inr h
  generalize va_A (wl cy L ad u) s.heap.size = A at hw hA ⊢
  have C0 : Cx p m meth c cX8_count (some .int) 2 s _ wsX8_count RX8 D cy := ⟨hx, hb, hr, hml, hown, hts, hlocks, hK⟩
  have hl := lv_entry ([.ref (ad 0), .int p0]) (n := 2) (Nat.le_of_ble_eq_true rfl)
  rw [lg_entry_eq]
  generalize (lg_sl ([.ref (ad 0), .int p0]) ++ List.replicate (2 - (lg_sl ([.ref (ad 0), .int p0])).length) Slot.unset).toArray = ls at hl ⊢
  have hl : lv_has ls 2 [(0, .ref (ad 0)), (1, .int p0)] := hl
  unfold f_X8_count at h
  refine lv_aload_n hx hb dX8_count_0 rfl (lv_at hl 0 rfl) ?_
  refine lv_iload_n hx hb dX8_count_1 rfl (lv_at hl 1 rfl) ?_
  refine lv_if_lt (tgt := 11) hx hb dX8_count_2 (by decide) (fun hc => ?_) (fun hc => ?_)
  · rw [if_pos hc] at h
    exact j_X8_count_11 N C0 hA p0 u _ _ _ h_this h_this hw (lv_sub hl [0, 1] rfl) h
  · rw [if_neg hc] at h
    refine lv_iload_n hx hb dX8_count_5 rfl (lv_at hl 1 rfl) ?_
    refine lv_bipush (v := 8) hx hb dX8_count_6 (by decide) ?_
    refine lv_icmp_le (tgt := 15) hx hb dX8_count_8 (by decide) (fun hc => ?_) (fun hc => ?_)
    · rw [if_pos hc] at h
      refine lv_iconst (v := 0) hx hb dX8_count_15 (by decide) ?_
      exact j_X8_count_16 N C0 hA p0 0 u _ _ _ h_this h_this hw (lv_sub hl [0, 1] rfl) h
    · rw [if_neg hc] at h
      exact j_X8_count_11 N C0 hA p0 u _ _ _ h_this h_this hw (lv_sub hl [0, 1] rfl) h
theorem k_X8_listed_1 : Cond.fieldLink RX8 1 "RingHeapModel" "thrown" "I" ∈ wsX8_listed := List.mem_of_getElem? (i := 1) (by rfl)
theorem n_X8_listed_X8 : ∀ w ∈ u_ws RX8 TX8 31, w ∈ wsX8_listed := fun _ h => List.mem_cons_of_mem _ (List.mem_append_right _ h)
theorem k_X8_listed_2 : Cond.fieldLink RX8 88 "RingHeapModel" "listCount" "I" ∈ wsX8_listed := List.mem_of_getElem? (i := 2) (by rfl)
theorem k_X8_listed_3 : Cond.fieldLink RX8 54 "RingHeapModel" "list" "[I" ∈ wsX8_listed := List.mem_of_getElem? (i := 3) (by rfl)
def f_X8_listed (N : Nat) (p0 : Int32) (u : Mm) : Option (Int32 × Mm) :=
  pt (sI u 0 0 0) (fun u => if p0 < 0 then (some ((-1), u)) else (pt (u.1 0 15) (fun x1 => if x1 ≤ p0 then (some ((-1), u)) else (ck (bI p0 80) (pt (u.1 14 (ix p0)) (fun x3 => some (x3, u)))))))
set_option maxHeartbeats 4000000 in
set_option maxRecDepth 100000 in
theorem c_X8_listed (l : Launch) (D : va_G) (cy : Nat → ClassId) (L : List Nat) (ad : Nat → Nat) (N : Nat) (p0 : Int32) (u : Mm) (o : Int32 × Mm) (h_this : vn L 8 0) (h : f_X8_listed N p0 u = some o) : MtI l yX8_listed wsX8_listed ({ frames := 0, cells := 0, slots := 0, locals := 0 } : Room) D cy L ad [.ref (ad 0), .int p0] u o := by
  intro sz
  refine Met.ofW (cc := cX8_listed) (maxL := 2) (ret := (some .int)) (by decide) rfl ?_
  intro p e s m args below meth c s₁ B hml hv
  obtain ⟨rfl, hsz, hP, hK, hD0, hok⟩ := hv
  have hx := B.exec
  have hb := B.bytes
  have hr := B.returns
  have hts := atoms_spec (ws := wsX8_listed) B.pre
  have hown : s.vm.findClass RX8 = some m.cls := findClass_of_methodNamed B.named
  have hlocks := B.notSynchronized
  subst hsz
  have hw := wd_start hP hD0 hok
  have hA : ∀ q : Nat, s.heap.size ≤ q → va_A (wl cy L ad u) s.heap.size q := fun q h => Or.inr h
  generalize va_A (wl cy L ad u) s.heap.size = A at hw hA ⊢
  have C0 : Cx p m meth c cX8_listed (some .int) 2 s _ wsX8_listed RX8 D cy := ⟨hx, hb, hr, hml, hown, hts, hlocks, hK⟩
  have hl := lv_entry ([.ref (ad 0), .int p0]) (n := 2) (Nat.le_of_ble_eq_true rfl)
  rw [lg_entry_eq]
  generalize (lg_sl ([.ref (ad 0), .int p0]) ++ List.replicate (2 - (lg_sl ([.ref (ad 0), .int p0])).length) Slot.unset).toArray = ls at hl ⊢
  have hl : lv_has ls 2 [(0, .ref (ad 0)), (1, .int p0)] := hl
  unfold f_X8_listed at h
  refine lv_aload_n hx hb dX8_listed_0 rfl (lv_at hl 0 rfl) ?_
  refine lv_iconst (v := 0) hx hb dX8_listed_1 (by decide) ?_
  refine r_putI (ty := .int) hx hb hts n_X8_listed_X8 tyX8 tyX8_ok nmX8 hown hK hw h_this (by decide) rfl 0 (by decide) rfl (hts _ k_X8_listed_1) (fun _ q => q) rfl rfl rfl rfl dX8_listed_2 h (fun u H locs hw h => ?_)
  refine lv_iload_n hx hb dX8_listed_5 rfl (lv_at hl 1 rfl) ?_
  refine lv_if_lt (tgt := 26) hx hb dX8_listed_6 (by decide) (fun hc => ?_) (fun hc => ?_)
  · rw [if_pos hc] at h
    refine lv_iconst (v := (-1)) hx hb dX8_listed_26 (by decide) ?_
    exact r_iret hx hb hr hlocks hK hw h dX8_listed_27
  · rw [if_neg hc] at h
    refine lv_iload_n hx hb dX8_listed_9 rfl (lv_at hl 1 rfl) ?_
    refine lv_aload_n hx hb dX8_listed_10 rfl (lv_at hl 0 rfl) ?_
    refine r_getI hx hb hts n_X8_listed_X8 hown hK hw h_this (by decide) rfl 15 (by decide) rfl (hts _ k_X8_listed_2) (fun _ q => q) dX8_listed_11 h (fun x1 h => ?_)
    refine lv_icmp_ge (tgt := 26) hx hb dX8_listed_14 (by decide) (fun hc => ?_) (fun hc => ?_)
    · rw [if_pos hc] at h
      refine lv_iconst (v := (-1)) hx hb dX8_listed_26 (by decide) ?_
      exact r_iret hx hb hr hlocks hK hw h dX8_listed_27
    · rw [if_neg hc] at h
      refine lv_aload_n hx hb dX8_listed_17 rfl (lv_at hl 0 rfl) ?_
      refine r_getC (t2 := 9) (d := 14) hx hb hts n_X8_listed_X8 hown hK hw h_this (by decide) rfl 14 (by decide) rfl rfl (hts _ k_X8_listed_3) (fun _ q => q) dX8_listed_18 (fun hv2 => ?_)
      refine lv_iload_n hx hb dX8_listed_21 rfl (lv_at hl 1 rfl) ?_
      refine r_iald (n := 80) hx hb hK hw hv2 rfl dX8_listed_22 h (fun x3 h => ?_)
      refine lv_goto (tgt := 27) hx hb dX8_listed_23 (by decide) ?_
      exact r_iret hx hb hr hlocks hK hw h dX8_listed_27
theorem k_X8_freed_1 : Cond.fieldLink RX8 1 "RingHeapModel" "thrown" "I" ∈ wsX8_freed := List.mem_of_getElem? (i := 1) (by rfl)
theorem n_X8_freed_X8 : ∀ w ∈ u_ws RX8 TX8 31, w ∈ wsX8_freed := fun _ h => List.mem_cons_of_mem _ (List.mem_append_right _ h)
theorem k_X8_freed_2 : Cond.fieldLink RX8 82 "RingHeapModel" "freedEver" "I" ∈ wsX8_freed := List.mem_of_getElem? (i := 2) (by rfl)
theorem k_X8_freed_3 : Cond.fieldLink RX8 63 "RingHeapModel" "freedRow" "[I" ∈ wsX8_freed := List.mem_of_getElem? (i := 3) (by rfl)
def f_X8_freed (N : Nat) (p0 : Int32) (u : Mm) : Option (Int32 × Mm) :=
  pt (sI u 0 0 0) (fun u => if p0 < 0 then (some ((-1), u)) else (pt (u.1 0 20) (fun x1 => if x1 ≤ p0 then (some ((-1), u)) else (pt (u.1 0 20) (fun x2 => if p0 < (x2 - 100) then (some ((-1), u)) else (ck (bI (p0 - p0 / 100 * 100) 100) (pt (u.1 19 (ix (p0 - p0 / 100 * 100))) (fun x4 => some (x4, u)))))))))
set_option maxHeartbeats 4000000 in
set_option maxRecDepth 100000 in
theorem c_X8_freed (l : Launch) (D : va_G) (cy : Nat → ClassId) (L : List Nat) (ad : Nat → Nat) (N : Nat) (p0 : Int32) (u : Mm) (o : Int32 × Mm) (h_this : vn L 8 0) (h : f_X8_freed N p0 u = some o) : MtI l yX8_freed wsX8_freed ({ frames := 0, cells := 0, slots := 0, locals := 0 } : Room) D cy L ad [.ref (ad 0), .int p0] u o := by
  intro sz
  refine Met.ofW (cc := cX8_freed) (maxL := 2) (ret := (some .int)) (by decide) rfl ?_
  intro p e s m args below meth c s₁ B hml hv
  obtain ⟨rfl, hsz, hP, hK, hD0, hok⟩ := hv
  have hx := B.exec
  have hb := B.bytes
  have hr := B.returns
  have hts := atoms_spec (ws := wsX8_freed) B.pre
  have hown : s.vm.findClass RX8 = some m.cls := findClass_of_methodNamed B.named
  have hlocks := B.notSynchronized
  subst hsz
  have hw := wd_start hP hD0 hok
  have hA : ∀ q : Nat, s.heap.size ≤ q → va_A (wl cy L ad u) s.heap.size q := fun q h => Or.inr h
  generalize va_A (wl cy L ad u) s.heap.size = A at hw hA ⊢
  have C0 : Cx p m meth c cX8_freed (some .int) 2 s _ wsX8_freed RX8 D cy := ⟨hx, hb, hr, hml, hown, hts, hlocks, hK⟩
  have hl := lv_entry ([.ref (ad 0), .int p0]) (n := 2) (Nat.le_of_ble_eq_true rfl)
  rw [lg_entry_eq]
  generalize (lg_sl ([.ref (ad 0), .int p0]) ++ List.replicate (2 - (lg_sl ([.ref (ad 0), .int p0])).length) Slot.unset).toArray = ls at hl ⊢
  have hl : lv_has ls 2 [(0, .ref (ad 0)), (1, .int p0)] := hl
  unfold f_X8_freed at h
  refine lv_aload_n hx hb dX8_freed_0 rfl (lv_at hl 0 rfl) ?_
  refine lv_iconst (v := 0) hx hb dX8_freed_1 (by decide) ?_
  refine r_putI (ty := .int) hx hb hts n_X8_freed_X8 tyX8 tyX8_ok nmX8 hown hK hw h_this (by decide) rfl 0 (by decide) rfl (hts _ k_X8_freed_1) (fun _ q => q) rfl rfl rfl rfl dX8_freed_2 h (fun u H locs hw h => ?_)
  refine lv_iload_n hx hb dX8_freed_5 rfl (lv_at hl 1 rfl) ?_
  refine lv_if_lt (tgt := 40) hx hb dX8_freed_6 (by decide) (fun hc => ?_) (fun hc => ?_)
  · rw [if_pos hc] at h
    refine lv_iconst (v := (-1)) hx hb dX8_freed_40 (by decide) ?_
    exact r_iret hx hb hr hlocks hK hw h dX8_freed_41
  · rw [if_neg hc] at h
    refine lv_iload_n hx hb dX8_freed_9 rfl (lv_at hl 1 rfl) ?_
    refine lv_aload_n hx hb dX8_freed_10 rfl (lv_at hl 0 rfl) ?_
    refine r_getI hx hb hts n_X8_freed_X8 hown hK hw h_this (by decide) rfl 20 (by decide) rfl (hts _ k_X8_freed_2) (fun _ q => q) dX8_freed_11 h (fun x1 h => ?_)
    refine lv_icmp_ge (tgt := 40) hx hb dX8_freed_14 (by decide) (fun hc => ?_) (fun hc => ?_)
    · rw [if_pos hc] at h
      refine lv_iconst (v := (-1)) hx hb dX8_freed_40 (by decide) ?_
      exact r_iret hx hb hr hlocks hK hw h dX8_freed_41
    · rw [if_neg hc] at h
      refine lv_iload_n hx hb dX8_freed_17 rfl (lv_at hl 1 rfl) ?_
      refine lv_aload_n hx hb dX8_freed_18 rfl (lv_at hl 0 rfl) ?_
      refine r_getI hx hb hts n_X8_freed_X8 hown hK hw h_this (by decide) rfl 20 (by decide) rfl (hts _ k_X8_freed_2) (fun _ q => q) dX8_freed_19 h (fun x2 h => ?_)
      refine lv_bipush (v := 100) hx hb dX8_freed_22 (by decide) ?_
      refine lv_isub hx hb dX8_freed_24 ?_
      refine lv_icmp_lt (tgt := 40) hx hb dX8_freed_25 (by decide) (fun hc => ?_) (fun hc => ?_)
      · rw [if_pos hc] at h
        refine lv_iconst (v := (-1)) hx hb dX8_freed_40 (by decide) ?_
        exact r_iret hx hb hr hlocks hK hw h dX8_freed_41
      · rw [if_neg hc] at h
        refine lv_aload_n hx hb dX8_freed_28 rfl (lv_at hl 0 rfl) ?_
        refine r_getC (t2 := 9) (d := 19) hx hb hts n_X8_freed_X8 hown hK hw h_this (by decide) rfl 19 (by decide) rfl rfl (hts _ k_X8_freed_3) (fun _ q => q) dX8_freed_29 (fun hv3 => ?_)
        refine lv_iload_n hx hb dX8_freed_32 rfl (lv_at hl 1 rfl) ?_
        refine lv_bipush (v := 100) hx hb dX8_freed_33 (by decide) ?_
        refine lv_irem hx hb dX8_freed_35 (by decide) ?_
        refine r_iald (n := 100) hx hb hK hw hv3 rfl dX8_freed_36 h (fun x4 h => ?_)
        refine lv_goto (tgt := 41) hx hb dX8_freed_37 (by decide) ?_
        exact r_iret hx hb hr hlocks hK hw h dX8_freed_41
theorem k_X8_at_1 : Cond.fieldLink RX8 1 "RingHeapModel" "thrown" "I" ∈ wsX8_at := List.mem_of_getElem? (i := 1) (by rfl)
theorem n_X8_at_X8 : ∀ w ∈ u_ws RX8 TX8 31, w ∈ wsX8_at := fun _ h => List.mem_cons_of_mem _ (List.mem_append_right _ h)
theorem k_X8_at_2 : Cond.fieldLink RX8 51 "RingHeapModel" "owners" "[I" ∈ wsX8_at := List.mem_of_getElem? (i := 2) (by rfl)
def f_X8_at_17 (N : Nat)   (v1 : Int32) (w0 : Int32) (u : Mm) : Option (Int32 × Mm) :=
  pt (sI u 0 0 w0) (fun u => pt (u.1 0 0) (fun x1 => if x1 ≤ 0 then (ck (bI v1 400) (pt (u.1 13 (ix v1)) (fun x3 => some (x3, u)))) else (some (0, u))))
set_option maxHeartbeats 4000000 in
set_option maxRecDepth 100000 in
theorem j_X8_at_17 {p : Program} {l : Launch} {e : Env} {s : State} {m : MethodId} {args : Array Value} {below : List Frame} {meth : Method} {c : Code} {D : va_G} {cy : Nat → ClassId} {L : List Nat} {ad : Nat → Nat} {A : Nat → Prop} {o : Int32 × Mm} (N : Nat)   (C0 : Cx p m meth c cX8_at (some .int) 2 s args wsX8_at RX8 D cy) (hA : ∀ q : Nat, s.heap.size ≤ q → A q)  : ∀ (v1 : Int32) (w0 : Int32) (u : Mm) (H : Heap) (locs : List Loc) (ls : Array Slot), vn L 8 0 → vn L 8 0 → Wd D cy L ad A s.heap u H locs → lv_has ls 2 [(0, .ref (ad 0)), (1, .int v1)] → f_X8_at_17 N   v1 w0 u = some o → W p l e ({ frames := 0, cells := 0, slots := 0, locals := 0 } : Room) s m args below meth c H locs 0 0 (MQ below (QcI D cy L ad A o) args s 0 0 A) (F0 m 17 ls [.int w0, .ref (ad 0)]) := by
  obtain ⟨hx, hb, hr, hml, hown, hts, hlocks, hK⟩ := id C0
  intro v1 w0 u H locs ls hv_t0 hv_z1 hw hl h
  unfold f_X8_at_17 at h
  refine r_putI (ty := .int) hx hb hts n_X8_at_X8 tyX8 tyX8_ok nmX8 hown hK hw hv_z1 (by decide) rfl 0 (by decide) rfl (hts _ k_X8_at_1) (fun _ q => q) rfl rfl rfl rfl dX8_at_17 h (fun u H locs hw h => ?_)
  refine lv_aload_n hx hb dX8_at_20 rfl (lv_at hl 0 rfl) ?_
  refine r_getI hx hb hts n_X8_at_X8 hown hK hw hv_t0 (by decide) rfl 0 (by decide) rfl (hts _ k_X8_at_1) (fun _ q => q) dX8_at_21 h (fun x1 h => ?_)
  refine lv_if_le (tgt := 31) hx hb dX8_at_24 (by decide) (fun hc => ?_) (fun hc => ?_)
  · rw [if_pos hc] at h
    refine lv_aload_n hx hb dX8_at_31 rfl (lv_at hl 0 rfl) ?_
    refine r_getC (t2 := 9) (d := 13) hx hb hts n_X8_at_X8 hown hK hw hv_t0 (by decide) rfl 13 (by decide) rfl rfl (hts _ k_X8_at_2) (fun _ q => q) dX8_at_32 (fun hv2 => ?_)
    refine lv_iload_n hx hb dX8_at_35 rfl (lv_at hl 1 rfl) ?_
    refine r_iald (n := 400) hx hb hK hw hv2 rfl dX8_at_36 h (fun x3 h => ?_)
    exact r_iret hx hb hr hlocks hK hw h dX8_at_37
  · rw [if_neg hc] at h
    refine lv_iconst (v := 0) hx hb dX8_at_27 (by decide) ?_
    refine lv_goto (tgt := 37) hx hb dX8_at_28 (by decide) ?_
    exact r_iret hx hb hr hlocks hK hw h dX8_at_37
def f_X8_at_12 (N : Nat)   (v1 : Int32) (u : Mm) : Option (Int32 × Mm) :=
  f_X8_at_17 N v1 1 u
set_option maxHeartbeats 4000000 in
set_option maxRecDepth 100000 in
theorem j_X8_at_12 {p : Program} {l : Launch} {e : Env} {s : State} {m : MethodId} {args : Array Value} {below : List Frame} {meth : Method} {c : Code} {D : va_G} {cy : Nat → ClassId} {L : List Nat} {ad : Nat → Nat} {A : Nat → Prop} {o : Int32 × Mm} (N : Nat)   (C0 : Cx p m meth c cX8_at (some .int) 2 s args wsX8_at RX8 D cy) (hA : ∀ q : Nat, s.heap.size ≤ q → A q)  : ∀ (v1 : Int32) (u : Mm) (H : Heap) (locs : List Loc) (ls : Array Slot), vn L 8 0 → vn L 8 0 → Wd D cy L ad A s.heap u H locs → lv_has ls 2 [(0, .ref (ad 0)), (1, .int v1)] → f_X8_at_12 N   v1 u = some o → W p l e ({ frames := 0, cells := 0, slots := 0, locals := 0 } : Room) s m args below meth c H locs 0 0 (MQ below (QcI D cy L ad A o) args s 0 0 A) (F0 m 12 ls [.ref (ad 0)]) := by
  obtain ⟨hx, hb, hr, hml, hown, hts, hlocks, hK⟩ := id C0
  intro v1 u H locs ls hv_t0 hv_z0 hw hl h
  unfold f_X8_at_12 at h
  refine lv_iconst (v := 1) hx hb dX8_at_12 (by decide) ?_
  refine lv_goto (tgt := 17) hx hb dX8_at_13 (by decide) ?_
  exact j_X8_at_17 N C0 hA v1 1 u _ _ _ hv_t0 hv_z0 hw (lv_sub hl [0, 1] rfl) h
def f_X8_at (N : Nat) (p0 : Int32) (u : Mm) : Option (Int32 × Mm) :=
  if p0 < 0 then (f_X8_at_12 N p0 u) else (if p0 < 400 then (f_X8_at_17 N p0 0 u) else (f_X8_at_12 N p0 u))
set_option maxHeartbeats 4000000 in
set_option maxRecDepth 100000 in
theorem c_X8_at (l : Launch) (D : va_G) (cy : Nat → ClassId) (L : List Nat) (ad : Nat → Nat) (N : Nat) (p0 : Int32) (u : Mm) (o : Int32 × Mm) (h_this : vn L 8 0) (h : f_X8_at N p0 u = some o) : MtI l yX8_at wsX8_at ({ frames := 0, cells := 0, slots := 0, locals := 0 } : Room) D cy L ad [.ref (ad 0), .int p0] u o := by
  intro sz
  refine Met.ofW (cc := cX8_at) (maxL := 2) (ret := (some .int)) (by decide) rfl ?_
  intro p e s m args below meth c s₁ B hml hv
  obtain ⟨rfl, hsz, hP, hK, hD0, hok⟩ := hv
  have hx := B.exec
  have hb := B.bytes
  have hr := B.returns
  have hts := atoms_spec (ws := wsX8_at) B.pre
  have hown : s.vm.findClass RX8 = some m.cls := findClass_of_methodNamed B.named
  have hlocks := B.notSynchronized
  subst hsz
  have hw := wd_start hP hD0 hok
  have hA : ∀ q : Nat, s.heap.size ≤ q → va_A (wl cy L ad u) s.heap.size q := fun q h => Or.inr h
  generalize va_A (wl cy L ad u) s.heap.size = A at hw hA ⊢
  have C0 : Cx p m meth c cX8_at (some .int) 2 s _ wsX8_at RX8 D cy := ⟨hx, hb, hr, hml, hown, hts, hlocks, hK⟩
  have hl := lv_entry ([.ref (ad 0), .int p0]) (n := 2) (Nat.le_of_ble_eq_true rfl)
  rw [lg_entry_eq]
  generalize (lg_sl ([.ref (ad 0), .int p0]) ++ List.replicate (2 - (lg_sl ([.ref (ad 0), .int p0])).length) Slot.unset).toArray = ls at hl ⊢
  have hl : lv_has ls 2 [(0, .ref (ad 0)), (1, .int p0)] := hl
  unfold f_X8_at at h
  refine lv_aload_n hx hb dX8_at_0 rfl (lv_at hl 0 rfl) ?_
  refine lv_iload_n hx hb dX8_at_1 rfl (lv_at hl 1 rfl) ?_
  refine lv_if_lt (tgt := 12) hx hb dX8_at_2 (by decide) (fun hc => ?_) (fun hc => ?_)
  · rw [if_pos hc] at h
    exact j_X8_at_12 N C0 hA p0 u _ _ _ h_this h_this hw (lv_sub hl [0, 1] rfl) h
  · rw [if_neg hc] at h
    refine lv_iload_n hx hb dX8_at_5 rfl (lv_at hl 1 rfl) ?_
    refine lv_sipush (v := 400) hx hb dX8_at_6 (by decide) ?_
    refine lv_icmp_lt (tgt := 16) hx hb dX8_at_9 (by decide) (fun hc => ?_) (fun hc => ?_)
    · rw [if_pos hc] at h
      refine lv_iconst (v := 0) hx hb dX8_at_16 (by decide) ?_
      exact j_X8_at_17 N C0 hA p0 0 u _ _ _ h_this h_this hw (lv_sub hl [0, 1] rfl) h
    · rw [if_neg hc] at h
      exact j_X8_at_12 N C0 hA p0 u _ _ _ h_this h_this hw (lv_sub hl [0, 1] rfl) h

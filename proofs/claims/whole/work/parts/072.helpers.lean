theorem k_L_type_1 : Cond.classLink RL 13 "java/lang/IndexOutOfBoundsException" ∈ wsL_type := List.mem_of_getElem? (i := 1) (by rfl)
theorem k_L_type_2 : Cond.classLink RL 15 "java/lang/IllegalArgumentException" ∈ wsL_type := List.mem_of_getElem? (i := 2) (by rfl)
set_option maxHeartbeats 4000000 in
set_option maxRecDepth 100000 in
theorem c_L_type (l : Launch) (hst : l.stackTraces = false) (D : va_G) (cy : Nat → ClassId) (cJ : ClassId) (L : List Nat) (ad : Nat → Nat) (N : Nat) (t : Nat) (p0 : Int32) (p1 : Int32) (p2 : Int32) (p3 : Int32) (qo : Nat) (f : Nat → Int64) (u : Mm) (o : Nat × Int32 × Bool × Mm) (h_this : vn L 7 40) (h_t : fK L t) (h01 : o.2.1 = 0 ∨ o.2.1 = 1) (h : f_X7_type N t p0 p1 p2 p3 u = some o) : MtJ l yL_type wsL_type ({ frames := 7, cells := 1, slots := 6, locals := 106 } : Room) D cy cJ L [t] ad 1 6 qo f [.ref (ad 40), .int p0, .int p1, .int p2, .int p3, .ref qo] u o := by
  intro sz
  refine va_MetW (cc := cL_type) (maxL := 7) (ret := (some .int)) (hh := [(0, 21, 24, 13), (0, 21, 28, 15)]) (by decide) rfl ?_
  intro p e s m args below meth c s₁ B hml hv
  obtain ⟨rfl, hsz, hP, hK, hD0, hO, hT, hC, hN⟩ := hv
  have hx := B.exec
  have hb := B.bytes
  have hr := B.returns
  have hts := atoms_spec (ws := wsL_type) B.pre
  have hown : s.vm.findClass RL = some m.cls := findClass_of_methodNamed B.named
  have hlocks := B.notSynchronized
  have htab := vx_table (x := yL_type) B (hts (.codeWith yL_type cL_type 7 (some .int) [(0, 21, 24, 13), (0, 21, 28, 15)]) List.mem_cons_self)
  subst hsz
  have hw : Wj D cy cJ L ad (va_A (wJ cy cJ L ad u qo f) s.heap.size) s.heap u qo f s.heap [] := ⟨hP, hD0.self, va_S.rf, hO⟩
  have hA : ∀ q : Nat, s.heap.size ≤ q → va_A (wJ cy cJ L ad u qo f) s.heap.size q := fun q h => Or.inr h
  generalize va_A (wJ cy cJ L ad u qo f) s.heap.size = A at hw hA hT ⊢
  have hl := lv_entry ([.ref (ad 40), .int p0, .int p1, .int p2, .int p3, .ref qo]) (n := 7) (Nat.le_of_ble_eq_true rfl)
  rw [lg_entry_eq]
  generalize (lg_sl ([.ref (ad 40), .int p0, .int p1, .int p2, .int p3, .ref qo]) ++ List.replicate (7 - (lg_sl ([.ref (ad 40), .int p0, .int p1, .int p2, .int p3, .ref qo])).length) Slot.unset).toArray = ls at hl ⊢
  have hl : lv_has ls 7 [(0, .ref (ad 40)), (1, .int p0), (2, .int p1), (3, .int p2), (4, .int p3), (5, .ref qo)] := hl
  refine lv_aload hx hb dL_type_0 (lv_at hl 5 rfl) ?_
  refine lv_iconst (v := 0) hx hb dL_type_2 (by decide) ?_
  refine lv_aload_n hx hb dL_type_3 rfl (lv_at hl 0 rfl) ?_
  refine lv_iload_n hx hb dL_type_4 rfl (lv_at hl 1 rfl) ?_
  refine lv_iload_n hx hb dL_type_5 rfl (lv_at hl 2 rfl) ?_
  refine lv_iload_n hx hb dL_type_6 rfl (lv_at hl 3 rfl) ?_
  refine lv_iload hx hb dL_type_7 (lv_at hl 4 rfl) ?_
  refine h_call (As := [.int p0, .int p1, .int p2, .int p3]) (rest := [.int 0, .ref qo]) ⟨hx, hb, hml, hown, hts⟩ (c_X7_type l hst D cy L ad N t p0 p1 p2 p3 u o h_this h_t h) (cwV 4 hts gL_type_X7_type rfl rfl rfl (by decide +kernel) ⟨Nat.le_of_ble_eq_true rfl, Nat.le_of_ble_eq_true rfl⟩) hw hA hK hT hC h_this (by decide) rfl rfl hl.1 rfl (Nat.le_of_ble_eq_true rfl) dL_type_9 ⟨Nat.le_of_ble_eq_true rfl, Nat.le_of_ble_eq_true rfl⟩ (fun E ce q9 v H locs hE hw hce hcv hcl => ?_) (fun r b v ad2 H locs hq hag hw => ?_)
  · rcases hE with ⟨rfl, hE⟩ | ⟨rfl, hE⟩
    · refine vx_catch hown [] (⟨0, 21, 24, 13⟩ : ExceptionTableEntry) [(⟨0, 21, 28, 15⟩ : ExceptionTableEntry)] htab (fun z hz => by cases hz) (by decide) (by decide) (hts _ k_L_type_1) (hT.2.2.2.2.2.1.use rfl) hce hcv hcl ?_
      refine lv_astore (lv' := [(6, .ref q9), (0, .ref (ad 40)), (1, .int p0), (2, .int p1), (3, .int p2), (4, .int p3), (5, .ref qo)]) hx hb dL_type_24 hl (by decide) rfl (fun ls hl => ?_)
      refine lv_iconst (v := 1) hx hb dL_type_26 (by decide) ?_
      subst hE
      refine W.widen (k := 1) (n := 6) (Nat.le_of_ble_eq_true rfl) (Nat.le_of_ble_eq_true rfl) ?_
      exact h_iret (ad2 := ad) hx hb hr hlocks hK (fun _ _ => rfl) hw (Or.inr (Or.inl ⟨rfl, rfl⟩)) dL_type_27
    · refine vx_catch hown [(⟨0, 21, 24, 13⟩ : ExceptionTableEntry)] (⟨0, 21, 28, 15⟩ : ExceptionTableEntry) [] htab (fun z hz => by simp only [List.mem_cons, List.not_mem_nil, or_false] at hz; subst hz; exact Or.inr ⟨by decide, eIO, (hts _ k_L_type_1), hN⟩) (by decide) (by decide) (hts _ k_L_type_2) (hT.2.2.2.2.2.2.1.use rfl) hce hcv hcl ?_
      refine lv_astore (lv' := [(6, .ref q9), (0, .ref (ad 40)), (1, .int p0), (2, .int p1), (3, .int p2), (4, .int p3), (5, .ref qo)]) hx hb dL_type_28 hl (by decide) rfl (fun ls hl => ?_)
      refine lv_iconst (v := 2) hx hb dL_type_30 (by decide) ?_
      subst hE
      refine W.widen (k := 1) (n := 6) (Nat.le_of_ble_eq_true rfl) (Nat.le_of_ble_eq_true rfl) ?_
      exact h_iret (ad2 := ad) hx hb hr hlocks hK (fun _ _ => rfl) hw (Or.inr (Or.inr ⟨rfl, rfl⟩)) dL_type_31
  · subst hq
    refine lv_if_eq (tgt := 19) hx hb dL_type_12 (by decide) (fun hc => ?_) (fun hc => ?_)
    · refine lv_lconst (v := 0) hx hb dL_type_19 (by decide) ?_
      refine h_last hx hb hK hw dL_type_20 (fun H locs hw => ?_)
      refine lv_goto (tgt := 32) hx hb dL_type_21 (by decide) ?_
      refine lv_iconst (v := 0) hx hb dL_type_32 (by decide) ?_
      refine W.widen (k := 1) (n := 6) (Nat.le_of_ble_eq_true rfl) (Nat.le_of_ble_eq_true rfl) ?_
      exact h_iret (ad2 := ad2) hx hb hr hlocks hK hag hw (Or.inl ⟨rfl, rfl, by rw [hc]; rfl⟩) dL_type_33
    · refine lv_lconst (v := 1) hx hb dL_type_15 (by decide) ?_
      refine lv_goto (tgt := 20) hx hb dL_type_16 (by decide) ?_
      refine h_last hx hb hK hw dL_type_20 (fun H locs hw => ?_)
      refine lv_goto (tgt := 32) hx hb dL_type_21 (by decide) ?_
      refine lv_iconst (v := 0) hx hb dL_type_32 (by decide) ?_
      refine W.widen (k := 1) (n := 6) (Nat.le_of_ble_eq_true rfl) (Nat.le_of_ble_eq_true rfl) ?_
      exact h_iret (ad2 := ad2) hx hb hr hlocks hK hag hw (Or.inl ⟨rfl, rfl, by rcases h01 with q | q; exact absurd q hc; rw [q]; rfl⟩) dL_type_33
theorem k_L_make_1 : Cond.classLink RL 13 "java/lang/IndexOutOfBoundsException" ∈ wsL_make := List.mem_of_getElem? (i := 1) (by rfl)
set_option maxHeartbeats 4000000 in
set_option maxRecDepth 100000 in
theorem c_L_make (l : Launch) (hst : l.stackTraces = false) (D : va_G) (cy : Nat → ClassId) (cJ : ClassId) (L : List Nat) (ad : Nat → Nat) (N : Nat) (t : Nat) (p0 : Int32) (qo : Nat) (f : Nat → Int64) (u : Mm) (o : Nat × Int32 × Bool × Mm) (h_this : vn L 7 40) (h_t : fT L t) (h2 : o.1 ≠ 2) (h : f_X7_make N t p0 u = some o) : MtJ l yL_make wsL_make ({ frames := 8, cells := 2, slots := 17, locals := 183 } : Room) D cy cJ L [t, t + 1] ad 2 17 qo f [.ref (ad 40), .int p0, .ref qo] u o := by
  intro sz
  refine va_MetW (cc := cL_make) (maxL := 4) (ret := (some .int)) (hh := [(0, 9, 12, 13)]) (by decide) rfl ?_
  intro p e s m args below meth c s₁ B hml hv
  obtain ⟨rfl, hsz, hP, hK, hD0, hO, hT, hC, hN⟩ := hv
  have hx := B.exec
  have hb := B.bytes
  have hr := B.returns
  have hts := atoms_spec (ws := wsL_make) B.pre
  have hown : s.vm.findClass RL = some m.cls := findClass_of_methodNamed B.named
  have hlocks := B.notSynchronized
  have htab := vx_table (x := yL_make) B (hts (.codeWith yL_make cL_make 4 (some .int) [(0, 9, 12, 13)]) List.mem_cons_self)
  subst hsz
  have hw : Wj D cy cJ L ad (va_A (wJ cy cJ L ad u qo f) s.heap.size) s.heap u qo f s.heap [] := ⟨hP, hD0.self, va_S.rf, hO⟩
  have hA : ∀ q : Nat, s.heap.size ≤ q → va_A (wJ cy cJ L ad u qo f) s.heap.size q := fun q h => Or.inr h
  generalize va_A (wJ cy cJ L ad u qo f) s.heap.size = A at hw hA hT ⊢
  have hl := lv_entry ([.ref (ad 40), .int p0, .ref qo]) (n := 4) (Nat.le_of_ble_eq_true rfl)
  rw [lg_entry_eq]
  generalize (lg_sl ([.ref (ad 40), .int p0, .ref qo]) ++ List.replicate (4 - (lg_sl ([.ref (ad 40), .int p0, .ref qo])).length) Slot.unset).toArray = ls at hl ⊢
  have hl : lv_has ls 4 [(0, .ref (ad 40)), (1, .int p0), (2, .ref qo)] := hl
  refine lv_aload_n hx hb dL_make_0 rfl (lv_at hl 2 rfl) ?_
  refine lv_iconst (v := 0) hx hb dL_make_1 (by decide) ?_
  refine lv_aload_n hx hb dL_make_2 rfl (lv_at hl 0 rfl) ?_
  refine lv_iload_n hx hb dL_make_3 rfl (lv_at hl 1 rfl) ?_
  refine h_call (As := [.int p0]) (rest := [.int 0, .ref qo]) ⟨hx, hb, hml, hown, hts⟩ (c_X7_make l hst D cy L ad N t p0 u o h_this h_t h) (cwV 1 hts gL_make_X7_make rfl rfl rfl (by decide +kernel) ⟨Nat.le_of_ble_eq_true rfl, Nat.le_of_ble_eq_true rfl⟩) hw hA hK hT hC h_this (by decide) rfl rfl hl.1 rfl (Nat.le_of_ble_eq_true rfl) dL_make_4 ⟨Nat.le_of_ble_eq_true rfl, Nat.le_of_ble_eq_true rfl⟩ (fun E ce q9 v H locs hE hw hce hcv hcl => ?_) (fun r b v ad2 H locs hq hag hw => ?_)
  · rcases hE with ⟨rfl, hE⟩ | ⟨rfl, hE⟩
    · refine vx_catch hown [] (⟨0, 9, 12, 13⟩ : ExceptionTableEntry) [] htab (fun z hz => by cases hz) (by decide) (by decide) (hts _ k_L_make_1) (hT.2.2.2.2.2.1.use rfl) hce hcv hcl ?_
      refine lv_astore_n (lv' := [(3, .ref q9), (0, .ref (ad 40)), (1, .int p0), (2, .ref qo)]) hx hb dL_make_12 rfl hl (by decide) rfl (fun ls hl => ?_)
      refine lv_iconst (v := 1) hx hb dL_make_13 (by decide) ?_
      subst hE
      refine W.widen (k := 2) (n := 17) (Nat.le_of_ble_eq_true rfl) (Nat.le_of_ble_eq_true rfl) ?_
      exact h_iret (ad2 := ad) hx hb hr hlocks hK (fun _ _ => rfl) hw (Or.inr (Or.inl ⟨rfl, rfl⟩)) dL_make_14
    · exact absurd (by rw [← hE]) h2
  · subst hq
    refine lv_i2l (v := r.toInt64) hx hb dL_make_7 rfl ?_
    refine h_last hx hb hK hw dL_make_8 (fun H locs hw => ?_)
    refine lv_goto (tgt := 15) hx hb dL_make_9 (by decide) ?_
    refine lv_iconst (v := 0) hx hb dL_make_15 (by decide) ?_
    refine W.widen (k := 2) (n := 17) (Nat.le_of_ble_eq_true rfl) (Nat.le_of_ble_eq_true rfl) ?_
    exact h_iret (ad2 := ad2) hx hb hr hlocks hK hag hw (Or.inl ⟨rfl, rfl, rfl⟩) dL_make_16
theorem k_L_set_1 : Cond.classLink RL 13 "java/lang/IndexOutOfBoundsException" ∈ wsL_set := List.mem_of_getElem? (i := 1) (by rfl)
set_option maxHeartbeats 4000000 in
set_option maxRecDepth 100000 in
theorem c_L_set (l : Launch) (hst : l.stackTraces = false) (D : va_G) (cy : Nat → ClassId) (cJ : ClassId) (L nw : List Nat) (ad : Nat → Nat) (N : Nat) (p0 : Int32) (p1 : Int32) (p2 : Int32) (qo : Nat) (f : Nat → Int64) (u : Mm) (o : Nat × Int32 × Bool × Mm) (h_this : vn L 7 40) (h2 : o.1 ≠ 2) (h : f_X7_set N p0 p1 p2 u = some o) : MtJ l yL_set wsL_set ({ frames := 7, cells := 1, slots := 6, locals := 118 } : Room) D cy cJ L nw ad 1 6 qo f [.ref (ad 40), .int p0, .int p1, .int p2, .ref qo] u o := by
  intro sz
  refine va_MetW (cc := cL_set) (maxL := 6) (ret := (some .int)) (hh := [(0, 12, 15, 13)]) (by decide) rfl ?_
  intro p e s m args below meth c s₁ B hml hv
  obtain ⟨rfl, hsz, hP, hK, hD0, hO, hT, hC, hN⟩ := hv
  have hx := B.exec
  have hb := B.bytes
  have hr := B.returns
  have hts := atoms_spec (ws := wsL_set) B.pre
  have hown : s.vm.findClass RL = some m.cls := findClass_of_methodNamed B.named
  have hlocks := B.notSynchronized
  have htab := vx_table (x := yL_set) B (hts (.codeWith yL_set cL_set 6 (some .int) [(0, 12, 15, 13)]) List.mem_cons_self)
  subst hsz
  have hw : Wj D cy cJ L ad (va_A (wJ cy cJ L ad u qo f) s.heap.size) s.heap u qo f s.heap [] := ⟨hP, hD0.self, va_S.rf, hO⟩
  have hA : ∀ q : Nat, s.heap.size ≤ q → va_A (wJ cy cJ L ad u qo f) s.heap.size q := fun q h => Or.inr h
  generalize va_A (wJ cy cJ L ad u qo f) s.heap.size = A at hw hA hT ⊢
  have hl := lv_entry ([.ref (ad 40), .int p0, .int p1, .int p2, .ref qo]) (n := 6) (Nat.le_of_ble_eq_true rfl)
  rw [lg_entry_eq]
  generalize (lg_sl ([.ref (ad 40), .int p0, .int p1, .int p2, .ref qo]) ++ List.replicate (6 - (lg_sl ([.ref (ad 40), .int p0, .int p1, .int p2, .ref qo])).length) Slot.unset).toArray = ls at hl ⊢
  have hl : lv_has ls 6 [(0, .ref (ad 40)), (1, .int p0), (2, .int p1), (3, .int p2), (4, .ref qo)] := hl
  refine lv_aload hx hb dL_set_0 (lv_at hl 4 rfl) ?_
  refine lv_iconst (v := 0) hx hb dL_set_2 (by decide) ?_
  refine lv_aload_n hx hb dL_set_3 rfl (lv_at hl 0 rfl) ?_
  refine lv_iload_n hx hb dL_set_4 rfl (lv_at hl 1 rfl) ?_
  refine lv_iload_n hx hb dL_set_5 rfl (lv_at hl 2 rfl) ?_
  refine lv_iload_n hx hb dL_set_6 rfl (lv_at hl 3 rfl) ?_
  refine h_call (As := [.int p0, .int p1, .int p2]) (rest := [.int 0, .ref qo]) ⟨hx, hb, hml, hown, hts⟩ (c_X7_set l hst D cy L nw ad N p0 p1 p2 u o h_this h) (cwV 3 hts gL_set_X7_set rfl rfl rfl (by decide +kernel) ⟨Nat.le_of_ble_eq_true rfl, Nat.le_of_ble_eq_true rfl⟩) hw hA hK hT hC h_this (by decide) rfl rfl hl.1 rfl (Nat.le_of_ble_eq_true rfl) dL_set_7 ⟨Nat.le_of_ble_eq_true rfl, Nat.le_of_ble_eq_true rfl⟩ (fun E ce q9 v H locs hE hw hce hcv hcl => ?_) (fun r b v ad2 H locs hq hag hw => ?_)
  · rcases hE with ⟨rfl, hE⟩ | ⟨rfl, hE⟩
    · refine vx_catch hown [] (⟨0, 12, 15, 13⟩ : ExceptionTableEntry) [] htab (fun z hz => by cases hz) (by decide) (by decide) (hts _ k_L_set_1) (hT.2.2.2.2.2.1.use rfl) hce hcv hcl ?_
      refine lv_astore (lv' := [(5, .ref q9), (0, .ref (ad 40)), (1, .int p0), (2, .int p1), (3, .int p2), (4, .ref qo)]) hx hb dL_set_15 hl (by decide) rfl (fun ls hl => ?_)
      refine lv_iconst (v := 1) hx hb dL_set_17 (by decide) ?_
      subst hE
      refine W.widen (k := 1) (n := 6) (Nat.le_of_ble_eq_true rfl) (Nat.le_of_ble_eq_true rfl) ?_
      exact h_iret (ad2 := ad) hx hb hr hlocks hK (fun _ _ => rfl) hw (Or.inr (Or.inl ⟨rfl, rfl⟩)) dL_set_18
    · exact absurd (by rw [← hE]) h2
  · subst hq
    refine lv_i2l (v := r.toInt64) hx hb dL_set_10 rfl ?_
    refine h_last hx hb hK hw dL_set_11 (fun H locs hw => ?_)
    refine lv_goto (tgt := 19) hx hb dL_set_12 (by decide) ?_
    refine lv_iconst (v := 0) hx hb dL_set_19 (by decide) ?_
    refine W.widen (k := 1) (n := 6) (Nat.le_of_ble_eq_true rfl) (Nat.le_of_ble_eq_true rfl) ?_
    exact h_iret (ad2 := ad2) hx hb hr hlocks hK hag hw (Or.inl ⟨rfl, rfl, rfl⟩) dL_set_20
theorem k_L_get_1 : Cond.classLink RL 13 "java/lang/IndexOutOfBoundsException" ∈ wsL_get := List.mem_of_getElem? (i := 1) (by rfl)
set_option maxHeartbeats 4000000 in
set_option maxRecDepth 100000 in
theorem c_L_get (l : Launch) (hst : l.stackTraces = false) (D : va_G) (cy : Nat → ClassId) (cJ : ClassId) (L nw : List Nat) (ad : Nat → Nat) (N : Nat) (p0 : Int32) (p1 : Int32) (qo : Nat) (f : Nat → Int64) (u : Mm) (o : Nat × Int32 × Bool × Mm) (h_this : vn L 7 40) (h2 : o.1 ≠ 2) (h : f_X7_get N p0 p1 u = some o) : MtJ l yL_get wsL_get ({ frames := 7, cells := 1, slots := 6, locals := 105 } : Room) D cy cJ L nw ad 1 6 qo f [.ref (ad 40), .int p0, .int p1, .ref qo] u o := by
  intro sz
  refine va_MetW (cc := cL_get) (maxL := 5) (ret := (some .int)) (hh := [(0, 10, 13, 13)]) (by decide) rfl ?_
  intro p e s m args below meth c s₁ B hml hv
  obtain ⟨rfl, hsz, hP, hK, hD0, hO, hT, hC, hN⟩ := hv
  have hx := B.exec
  have hb := B.bytes
  have hr := B.returns
  have hts := atoms_spec (ws := wsL_get) B.pre
  have hown : s.vm.findClass RL = some m.cls := findClass_of_methodNamed B.named
  have hlocks := B.notSynchronized
  have htab := vx_table (x := yL_get) B (hts (.codeWith yL_get cL_get 5 (some .int) [(0, 10, 13, 13)]) List.mem_cons_self)
  subst hsz
  have hw : Wj D cy cJ L ad (va_A (wJ cy cJ L ad u qo f) s.heap.size) s.heap u qo f s.heap [] := ⟨hP, hD0.self, va_S.rf, hO⟩
  have hA : ∀ q : Nat, s.heap.size ≤ q → va_A (wJ cy cJ L ad u qo f) s.heap.size q := fun q h => Or.inr h
  generalize va_A (wJ cy cJ L ad u qo f) s.heap.size = A at hw hA hT ⊢
  have hl := lv_entry ([.ref (ad 40), .int p0, .int p1, .ref qo]) (n := 5) (Nat.le_of_ble_eq_true rfl)
  rw [lg_entry_eq]
  generalize (lg_sl ([.ref (ad 40), .int p0, .int p1, .ref qo]) ++ List.replicate (5 - (lg_sl ([.ref (ad 40), .int p0, .int p1, .ref qo])).length) Slot.unset).toArray = ls at hl ⊢
  have hl : lv_has ls 5 [(0, .ref (ad 40)), (1, .int p0), (2, .int p1), (3, .ref qo)] := hl
  refine lv_aload_n hx hb dL_get_0 rfl (lv_at hl 3 rfl) ?_
  refine lv_iconst (v := 0) hx hb dL_get_1 (by decide) ?_
  refine lv_aload_n hx hb dL_get_2 rfl (lv_at hl 0 rfl) ?_
  refine lv_iload_n hx hb dL_get_3 rfl (lv_at hl 1 rfl) ?_
  refine lv_iload_n hx hb dL_get_4 rfl (lv_at hl 2 rfl) ?_
  refine h_call (As := [.int p0, .int p1]) (rest := [.int 0, .ref qo]) ⟨hx, hb, hml, hown, hts⟩ (c_X7_get l hst D cy L nw ad N p0 p1 u o h_this h) (cwV 2 hts gL_get_X7_get rfl rfl rfl (by decide +kernel) ⟨Nat.le_of_ble_eq_true rfl, Nat.le_of_ble_eq_true rfl⟩) hw hA hK hT hC h_this (by decide) rfl rfl hl.1 rfl (Nat.le_of_ble_eq_true rfl) dL_get_5 ⟨Nat.le_of_ble_eq_true rfl, Nat.le_of_ble_eq_true rfl⟩ (fun E ce q9 v H locs hE hw hce hcv hcl => ?_) (fun r b v ad2 H locs hq hag hw => ?_)
  · rcases hE with ⟨rfl, hE⟩ | ⟨rfl, hE⟩
    · refine vx_catch hown [] (⟨0, 10, 13, 13⟩ : ExceptionTableEntry) [] htab (fun z hz => by cases hz) (by decide) (by decide) (hts _ k_L_get_1) (hT.2.2.2.2.2.1.use rfl) hce hcv hcl ?_
      refine lv_astore (lv' := [(4, .ref q9), (0, .ref (ad 40)), (1, .int p0), (2, .int p1), (3, .ref qo)]) hx hb dL_get_13 hl (by decide) rfl (fun ls hl => ?_)
      refine lv_iconst (v := 1) hx hb dL_get_15 (by decide) ?_
      subst hE
      refine W.widen (k := 1) (n := 6) (Nat.le_of_ble_eq_true rfl) (Nat.le_of_ble_eq_true rfl) ?_
      exact h_iret (ad2 := ad) hx hb hr hlocks hK (fun _ _ => rfl) hw (Or.inr (Or.inl ⟨rfl, rfl⟩)) dL_get_16
    · exact absurd (by rw [← hE]) h2
  · subst hq
    refine lv_i2l (v := r.toInt64) hx hb dL_get_8 rfl ?_
    refine h_last hx hb hK hw dL_get_9 (fun H locs hw => ?_)
    refine lv_goto (tgt := 17) hx hb dL_get_10 (by decide) ?_
    refine lv_iconst (v := 0) hx hb dL_get_17 (by decide) ?_
    refine W.widen (k := 1) (n := 6) (Nat.le_of_ble_eq_true rfl) (Nat.le_of_ble_eq_true rfl) ?_
    exact h_iret (ad2 := ad2) hx hb hr hlocks hK hag hw (Or.inl ⟨rfl, rfl, rfl⟩) dL_get_18
theorem k_L_weak_1 : Cond.classLink RL 13 "java/lang/IndexOutOfBoundsException" ∈ wsL_weak := List.mem_of_getElem? (i := 1) (by rfl)
set_option maxHeartbeats 4000000 in
set_option maxRecDepth 100000 in
theorem c_L_weak (l : Launch) (hst : l.stackTraces = false) (D : va_G) (cy : Nat → ClassId) (cJ : ClassId) (L nw : List Nat) (ad : Nat → Nat) (N : Nat) (p0 : Int32) (p1 : Int32) (qo : Nat) (f : Nat → Int64) (u : Mm) (o : Nat × Int32 × Bool × Mm) (h_this : vn L 7 40) (h2 : o.1 ≠ 2) (h : f_X7_weak N p0 p1 u = some o) : MtJ l yL_weak wsL_weak ({ frames := 7, cells := 1, slots := 6, locals := 106 } : Room) D cy cJ L nw ad 1 6 qo f [.ref (ad 40), .int p0, .int p1, .ref qo] u o := by
  intro sz
  refine va_MetW (cc := cL_weak) (maxL := 5) (ret := (some .int)) (hh := [(0, 10, 13, 13)]) (by decide) rfl ?_
  intro p e s m args below meth c s₁ B hml hv
  obtain ⟨rfl, hsz, hP, hK, hD0, hO, hT, hC, hN⟩ := hv
  have hx := B.exec
  have hb := B.bytes
  have hr := B.returns
  have hts := atoms_spec (ws := wsL_weak) B.pre
  have hown : s.vm.findClass RL = some m.cls := findClass_of_methodNamed B.named
  have hlocks := B.notSynchronized
  have htab := vx_table (x := yL_weak) B (hts (.codeWith yL_weak cL_weak 5 (some .int) [(0, 10, 13, 13)]) List.mem_cons_self)
  subst hsz
  have hw : Wj D cy cJ L ad (va_A (wJ cy cJ L ad u qo f) s.heap.size) s.heap u qo f s.heap [] := ⟨hP, hD0.self, va_S.rf, hO⟩
  have hA : ∀ q : Nat, s.heap.size ≤ q → va_A (wJ cy cJ L ad u qo f) s.heap.size q := fun q h => Or.inr h
  generalize va_A (wJ cy cJ L ad u qo f) s.heap.size = A at hw hA hT ⊢
  have hl := lv_entry ([.ref (ad 40), .int p0, .int p1, .ref qo]) (n := 5) (Nat.le_of_ble_eq_true rfl)
  rw [lg_entry_eq]
  generalize (lg_sl ([.ref (ad 40), .int p0, .int p1, .ref qo]) ++ List.replicate (5 - (lg_sl ([.ref (ad 40), .int p0, .int p1, .ref qo])).length) Slot.unset).toArray = ls at hl ⊢
  have hl : lv_has ls 5 [(0, .ref (ad 40)), (1, .int p0), (2, .int p1), (3, .ref qo)] := hl
  refine lv_aload_n hx hb dL_weak_0 rfl (lv_at hl 3 rfl) ?_
  refine lv_iconst (v := 0) hx hb dL_weak_1 (by decide) ?_
  refine lv_aload_n hx hb dL_weak_2 rfl (lv_at hl 0 rfl) ?_
  refine lv_iload_n hx hb dL_weak_3 rfl (lv_at hl 1 rfl) ?_
  refine lv_iload_n hx hb dL_weak_4 rfl (lv_at hl 2 rfl) ?_
  refine h_call (As := [.int p0, .int p1]) (rest := [.int 0, .ref qo]) ⟨hx, hb, hml, hown, hts⟩ (c_X7_weak l hst D cy L nw ad N p0 p1 u o h_this h) (cwV 2 hts gL_weak_X7_weak rfl rfl rfl (by decide +kernel) ⟨Nat.le_of_ble_eq_true rfl, Nat.le_of_ble_eq_true rfl⟩) hw hA hK hT hC h_this (by decide) rfl rfl hl.1 rfl (Nat.le_of_ble_eq_true rfl) dL_weak_5 ⟨Nat.le_of_ble_eq_true rfl, Nat.le_of_ble_eq_true rfl⟩ (fun E ce q9 v H locs hE hw hce hcv hcl => ?_) (fun r b v ad2 H locs hq hag hw => ?_)
  · rcases hE with ⟨rfl, hE⟩ | ⟨rfl, hE⟩
    · refine vx_catch hown [] (⟨0, 10, 13, 13⟩ : ExceptionTableEntry) [] htab (fun z hz => by cases hz) (by decide) (by decide) (hts _ k_L_weak_1) (hT.2.2.2.2.2.1.use rfl) hce hcv hcl ?_
      refine lv_astore (lv' := [(4, .ref q9), (0, .ref (ad 40)), (1, .int p0), (2, .int p1), (3, .ref qo)]) hx hb dL_weak_13 hl (by decide) rfl (fun ls hl => ?_)
      refine lv_iconst (v := 1) hx hb dL_weak_15 (by decide) ?_
      subst hE
      refine W.widen (k := 1) (n := 6) (Nat.le_of_ble_eq_true rfl) (Nat.le_of_ble_eq_true rfl) ?_
      exact h_iret (ad2 := ad) hx hb hr hlocks hK (fun _ _ => rfl) hw (Or.inr (Or.inl ⟨rfl, rfl⟩)) dL_weak_16
    · exact absurd (by rw [← hE]) h2
  · subst hq
    refine lv_i2l (v := r.toInt64) hx hb dL_weak_8 rfl ?_
    refine h_last hx hb hK hw dL_weak_9 (fun H locs hw => ?_)
    refine lv_goto (tgt := 17) hx hb dL_weak_10 (by decide) ?_
    refine lv_iconst (v := 0) hx hb dL_weak_17 (by decide) ?_
    refine W.widen (k := 1) (n := 6) (Nat.le_of_ble_eq_true rfl) (Nat.le_of_ble_eq_true rfl) ?_
    exact h_iret (ad2 := ad2) hx hb hr hlocks hK hag hw (Or.inl ⟨rfl, rfl, rfl⟩) dL_weak_18
theorem k_L_seen_1 : Cond.classLink RL 13 "java/lang/IndexOutOfBoundsException" ∈ wsL_seen := List.mem_of_getElem? (i := 1) (by rfl)
set_option maxHeartbeats 4000000 in
set_option maxRecDepth 100000 in
theorem c_L_seen (l : Launch) (hst : l.stackTraces = false) (D : va_G) (cy : Nat → ClassId) (cJ : ClassId) (L nw : List Nat) (ad : Nat → Nat) (N : Nat) (p0 : Int32) (qo : Nat) (f : Nat → Int64) (u : Mm) (o : Nat × Int32 × Bool × Mm) (h_this : vn L 7 40) (h2 : o.1 ≠ 2) (h : f_X7_seen N p0 u = some o) : MtJ l yL_seen wsL_seen ({ frames := 7, cells := 1, slots := 6, locals := 103 } : Room) D cy cJ L nw ad 1 6 qo f [.ref (ad 40), .int p0, .ref qo] u o := by
  intro sz
  refine va_MetW (cc := cL_seen) (maxL := 4) (ret := (some .int)) (hh := [(0, 9, 12, 13)]) (by decide) rfl ?_
  intro p e s m args below meth c s₁ B hml hv
  obtain ⟨rfl, hsz, hP, hK, hD0, hO, hT, hC, hN⟩ := hv
  have hx := B.exec
  have hb := B.bytes
  have hr := B.returns
  have hts := atoms_spec (ws := wsL_seen) B.pre
  have hown : s.vm.findClass RL = some m.cls := findClass_of_methodNamed B.named
  have hlocks := B.notSynchronized
  have htab := vx_table (x := yL_seen) B (hts (.codeWith yL_seen cL_seen 4 (some .int) [(0, 9, 12, 13)]) List.mem_cons_self)
  subst hsz
  have hw : Wj D cy cJ L ad (va_A (wJ cy cJ L ad u qo f) s.heap.size) s.heap u qo f s.heap [] := ⟨hP, hD0.self, va_S.rf, hO⟩
  have hA : ∀ q : Nat, s.heap.size ≤ q → va_A (wJ cy cJ L ad u qo f) s.heap.size q := fun q h => Or.inr h
  generalize va_A (wJ cy cJ L ad u qo f) s.heap.size = A at hw hA hT ⊢
  have hl := lv_entry ([.ref (ad 40), .int p0, .ref qo]) (n := 4) (Nat.le_of_ble_eq_true rfl)
  rw [lg_entry_eq]
  generalize (lg_sl ([.ref (ad 40), .int p0, .ref qo]) ++ List.replicate (4 - (lg_sl ([.ref (ad 40), .int p0, .ref qo])).length) Slot.unset).toArray = ls at hl ⊢
  have hl : lv_has ls 4 [(0, .ref (ad 40)), (1, .int p0), (2, .ref qo)] := hl
  refine lv_aload_n hx hb dL_seen_0 rfl (lv_at hl 2 rfl) ?_
  refine lv_iconst (v := 0) hx hb dL_seen_1 (by decide) ?_
  refine lv_aload_n hx hb dL_seen_2 rfl (lv_at hl 0 rfl) ?_
  refine lv_iload_n hx hb dL_seen_3 rfl (lv_at hl 1 rfl) ?_
  refine h_call (As := [.int p0]) (rest := [.int 0, .ref qo]) ⟨hx, hb, hml, hown, hts⟩ (c_X7_seen l hst D cy L nw ad N p0 u o h_this h) (cwV 1 hts gL_seen_X7_seen rfl rfl rfl (by decide +kernel) ⟨Nat.le_of_ble_eq_true rfl, Nat.le_of_ble_eq_true rfl⟩) hw hA hK hT hC h_this (by decide) rfl rfl hl.1 rfl (Nat.le_of_ble_eq_true rfl) dL_seen_4 ⟨Nat.le_of_ble_eq_true rfl, Nat.le_of_ble_eq_true rfl⟩ (fun E ce q9 v H locs hE hw hce hcv hcl => ?_) (fun r b v ad2 H locs hq hag hw => ?_)
  · rcases hE with ⟨rfl, hE⟩ | ⟨rfl, hE⟩
    · refine vx_catch hown [] (⟨0, 9, 12, 13⟩ : ExceptionTableEntry) [] htab (fun z hz => by cases hz) (by decide) (by decide) (hts _ k_L_seen_1) (hT.2.2.2.2.2.1.use rfl) hce hcv hcl ?_
      refine lv_astore_n (lv' := [(3, .ref q9), (0, .ref (ad 40)), (1, .int p0), (2, .ref qo)]) hx hb dL_seen_12 rfl hl (by decide) rfl (fun ls hl => ?_)
      refine lv_iconst (v := 1) hx hb dL_seen_13 (by decide) ?_
      subst hE
      refine W.widen (k := 1) (n := 6) (Nat.le_of_ble_eq_true rfl) (Nat.le_of_ble_eq_true rfl) ?_
      exact h_iret (ad2 := ad) hx hb hr hlocks hK (fun _ _ => rfl) hw (Or.inr (Or.inl ⟨rfl, rfl⟩)) dL_seen_14
    · exact absurd (by rw [← hE]) h2
  · subst hq
    refine lv_i2l (v := r.toInt64) hx hb dL_seen_7 rfl ?_
    refine h_last hx hb hK hw dL_seen_8 (fun H locs hw => ?_)
    refine lv_goto (tgt := 15) hx hb dL_seen_9 (by decide) ?_
    refine lv_iconst (v := 0) hx hb dL_seen_15 (by decide) ?_
    refine W.widen (k := 1) (n := 6) (Nat.le_of_ble_eq_true rfl) (Nat.le_of_ble_eq_true rfl) ?_
    exact h_iret (ad2 := ad2) hx hb hr hlocks hK hag hw (Or.inl ⟨rfl, rfl, rfl⟩) dL_seen_16
theorem k_L_object_1 : Cond.classLink RL 13 "java/lang/IndexOutOfBoundsException" ∈ wsL_object := List.mem_of_getElem? (i := 1) (by rfl)
set_option maxHeartbeats 4000000 in
set_option maxRecDepth 100000 in
theorem c_L_object (l : Launch) (hst : l.stackTraces = false) (D : va_G) (cy : Nat → ClassId) (cJ : ClassId) (L nw : List Nat) (ad : Nat → Nat) (N : Nat) (p0 : Int32) (p1 : Int32) (qo : Nat) (f : Nat → Int64) (u : Mm) (o : Nat × Int32 × Bool × Mm) (h_this : vn L 7 40) (h2 : o.1 ≠ 2) (h : f_X7_object N p0 p1 u = some o) : MtJ l yL_object wsL_object ({ frames := 7, cells := 1, slots := 6, locals := 105 } : Room) D cy cJ L nw ad 1 6 qo f [.ref (ad 40), .int p0, .int p1, .ref qo] u o := by
  intro sz
  refine va_MetW (cc := cL_object) (maxL := 5) (ret := (some .int)) (hh := [(0, 10, 13, 13)]) (by decide) rfl ?_
  intro p e s m args below meth c s₁ B hml hv
  obtain ⟨rfl, hsz, hP, hK, hD0, hO, hT, hC, hN⟩ := hv
  have hx := B.exec
  have hb := B.bytes
  have hr := B.returns
  have hts := atoms_spec (ws := wsL_object) B.pre
  have hown : s.vm.findClass RL = some m.cls := findClass_of_methodNamed B.named
  have hlocks := B.notSynchronized
  have htab := vx_table (x := yL_object) B (hts (.codeWith yL_object cL_object 5 (some .int) [(0, 10, 13, 13)]) List.mem_cons_self)
  subst hsz
  have hw : Wj D cy cJ L ad (va_A (wJ cy cJ L ad u qo f) s.heap.size) s.heap u qo f s.heap [] := ⟨hP, hD0.self, va_S.rf, hO⟩
  have hA : ∀ q : Nat, s.heap.size ≤ q → va_A (wJ cy cJ L ad u qo f) s.heap.size q := fun q h => Or.inr h
  generalize va_A (wJ cy cJ L ad u qo f) s.heap.size = A at hw hA hT ⊢
  have hl := lv_entry ([.ref (ad 40), .int p0, .int p1, .ref qo]) (n := 5) (Nat.le_of_ble_eq_true rfl)
  rw [lg_entry_eq]
  generalize (lg_sl ([.ref (ad 40), .int p0, .int p1, .ref qo]) ++ List.replicate (5 - (lg_sl ([.ref (ad 40), .int p0, .int p1, .ref qo])).length) Slot.unset).toArray = ls at hl ⊢
  have hl : lv_has ls 5 [(0, .ref (ad 40)), (1, .int p0), (2, .int p1), (3, .ref qo)] := hl
  refine lv_aload_n hx hb dL_object_0 rfl (lv_at hl 3 rfl) ?_
  refine lv_iconst (v := 0) hx hb dL_object_1 (by decide) ?_
  refine lv_aload_n hx hb dL_object_2 rfl (lv_at hl 0 rfl) ?_
  refine lv_iload_n hx hb dL_object_3 rfl (lv_at hl 1 rfl) ?_
  refine lv_iload_n hx hb dL_object_4 rfl (lv_at hl 2 rfl) ?_
  refine h_call (As := [.int p0, .int p1]) (rest := [.int 0, .ref qo]) ⟨hx, hb, hml, hown, hts⟩ (c_X7_object l hst D cy L nw ad N p0 p1 u o h_this h) (cwV 2 hts gL_object_X7_object rfl rfl rfl (by decide +kernel) ⟨Nat.le_of_ble_eq_true rfl, Nat.le_of_ble_eq_true rfl⟩) hw hA hK hT hC h_this (by decide) rfl rfl hl.1 rfl (Nat.le_of_ble_eq_true rfl) dL_object_5 ⟨Nat.le_of_ble_eq_true rfl, Nat.le_of_ble_eq_true rfl⟩ (fun E ce q9 v H locs hE hw hce hcv hcl => ?_) (fun r b v ad2 H locs hq hag hw => ?_)
  · rcases hE with ⟨rfl, hE⟩ | ⟨rfl, hE⟩
    · refine vx_catch hown [] (⟨0, 10, 13, 13⟩ : ExceptionTableEntry) [] htab (fun z hz => by cases hz) (by decide) (by decide) (hts _ k_L_object_1) (hT.2.2.2.2.2.1.use rfl) hce hcv hcl ?_
      refine lv_astore (lv' := [(4, .ref q9), (0, .ref (ad 40)), (1, .int p0), (2, .int p1), (3, .ref qo)]) hx hb dL_object_13 hl (by decide) rfl (fun ls hl => ?_)
      refine lv_iconst (v := 1) hx hb dL_object_15 (by decide) ?_
      subst hE
      refine W.widen (k := 1) (n := 6) (Nat.le_of_ble_eq_true rfl) (Nat.le_of_ble_eq_true rfl) ?_
      exact h_iret (ad2 := ad) hx hb hr hlocks hK (fun _ _ => rfl) hw (Or.inr (Or.inl ⟨rfl, rfl⟩)) dL_object_16
    · exact absurd (by rw [← hE]) h2
  · subst hq
    refine lv_i2l (v := r.toInt64) hx hb dL_object_8 rfl ?_
    refine h_last hx hb hK hw dL_object_9 (fun H locs hw => ?_)
    refine lv_goto (tgt := 17) hx hb dL_object_10 (by decide) ?_
    refine lv_iconst (v := 0) hx hb dL_object_17 (by decide) ?_
    refine W.widen (k := 1) (n := 6) (Nat.le_of_ble_eq_true rfl) (Nat.le_of_ble_eq_true rfl) ?_
    exact h_iret (ad2 := ad2) hx hb hr hlocks hK hag hw (Or.inl ⟨rfl, rfl, rfl⟩) dL_object_18
theorem k_L_count_1 : Cond.classLink RL 13 "java/lang/IndexOutOfBoundsException" ∈ wsL_count := List.mem_of_getElem? (i := 1) (by rfl)
set_option maxHeartbeats 4000000 in
set_option maxRecDepth 100000 in
theorem c_L_count (l : Launch) (hst : l.stackTraces = false) (D : va_G) (cy : Nat → ClassId) (cJ : ClassId) (L nw : List Nat) (ad : Nat → Nat) (N : Nat) (p0 : Int32) (qo : Nat) (f : Nat → Int64) (u : Mm) (o : Nat × Int32 × Bool × Mm) (h_this : vn L 7 40) (h2 : o.1 ≠ 2) (h : f_X7_count N p0 u = some o) : MtJ l yL_count wsL_count ({ frames := 7, cells := 1, slots := 6, locals := 103 } : Room) D cy cJ L nw ad 1 6 qo f [.ref (ad 40), .int p0, .ref qo] u o := by
  intro sz
  refine va_MetW (cc := cL_count) (maxL := 4) (ret := (some .int)) (hh := [(0, 9, 12, 13)]) (by decide) rfl ?_
  intro p e s m args below meth c s₁ B hml hv
  obtain ⟨rfl, hsz, hP, hK, hD0, hO, hT, hC, hN⟩ := hv
  have hx := B.exec
  have hb := B.bytes
  have hr := B.returns
  have hts := atoms_spec (ws := wsL_count) B.pre
  have hown : s.vm.findClass RL = some m.cls := findClass_of_methodNamed B.named
  have hlocks := B.notSynchronized
  have htab := vx_table (x := yL_count) B (hts (.codeWith yL_count cL_count 4 (some .int) [(0, 9, 12, 13)]) List.mem_cons_self)
  subst hsz
  have hw : Wj D cy cJ L ad (va_A (wJ cy cJ L ad u qo f) s.heap.size) s.heap u qo f s.heap [] := ⟨hP, hD0.self, va_S.rf, hO⟩
  have hA : ∀ q : Nat, s.heap.size ≤ q → va_A (wJ cy cJ L ad u qo f) s.heap.size q := fun q h => Or.inr h
  generalize va_A (wJ cy cJ L ad u qo f) s.heap.size = A at hw hA hT ⊢
  have hl := lv_entry ([.ref (ad 40), .int p0, .ref qo]) (n := 4) (Nat.le_of_ble_eq_true rfl)
  rw [lg_entry_eq]
  generalize (lg_sl ([.ref (ad 40), .int p0, .ref qo]) ++ List.replicate (4 - (lg_sl ([.ref (ad 40), .int p0, .ref qo])).length) Slot.unset).toArray = ls at hl ⊢
  have hl : lv_has ls 4 [(0, .ref (ad 40)), (1, .int p0), (2, .ref qo)] := hl
  refine lv_aload_n hx hb dL_count_0 rfl (lv_at hl 2 rfl) ?_
  refine lv_iconst (v := 0) hx hb dL_count_1 (by decide) ?_
  refine lv_aload_n hx hb dL_count_2 rfl (lv_at hl 0 rfl) ?_
  refine lv_iload_n hx hb dL_count_3 rfl (lv_at hl 1 rfl) ?_
  refine h_call (As := [.int p0]) (rest := [.int 0, .ref qo]) ⟨hx, hb, hml, hown, hts⟩ (c_X7_count l hst D cy L nw ad N p0 u o h_this h) (cwV 1 hts gL_count_X7_count rfl rfl rfl (by decide +kernel) ⟨Nat.le_of_ble_eq_true rfl, Nat.le_of_ble_eq_true rfl⟩) hw hA hK hT hC h_this (by decide) rfl rfl hl.1 rfl (Nat.le_of_ble_eq_true rfl) dL_count_4 ⟨Nat.le_of_ble_eq_true rfl, Nat.le_of_ble_eq_true rfl⟩ (fun E ce q9 v H locs hE hw hce hcv hcl => ?_) (fun r b v ad2 H locs hq hag hw => ?_)
  · rcases hE with ⟨rfl, hE⟩ | ⟨rfl, hE⟩
    · refine vx_catch hown [] (⟨0, 9, 12, 13⟩ : ExceptionTableEntry) [] htab (fun z hz => by cases hz) (by decide) (by decide) (hts _ k_L_count_1) (hT.2.2.2.2.2.1.use rfl) hce hcv hcl ?_
      refine lv_astore_n (lv' := [(3, .ref q9), (0, .ref (ad 40)), (1, .int p0), (2, .ref qo)]) hx hb dL_count_12 rfl hl (by decide) rfl (fun ls hl => ?_)
      refine lv_iconst (v := 1) hx hb dL_count_13 (by decide) ?_
      subst hE
      refine W.widen (k := 1) (n := 6) (Nat.le_of_ble_eq_true rfl) (Nat.le_of_ble_eq_true rfl) ?_
      exact h_iret (ad2 := ad) hx hb hr hlocks hK (fun _ _ => rfl) hw (Or.inr (Or.inl ⟨rfl, rfl⟩)) dL_count_14
    · exact absurd (by rw [← hE]) h2
  · subst hq
    refine lv_i2l (v := r.toInt64) hx hb dL_count_7 rfl ?_
    refine h_last hx hb hK hw dL_count_8 (fun H locs hw => ?_)
    refine lv_goto (tgt := 15) hx hb dL_count_9 (by decide) ?_
    refine lv_iconst (v := 0) hx hb dL_count_15 (by decide) ?_
    refine W.widen (k := 1) (n := 6) (Nat.le_of_ble_eq_true rfl) (Nat.le_of_ble_eq_true rfl) ?_
    exact h_iret (ad2 := ad2) hx hb hr hlocks hK hag hw (Or.inl ⟨rfl, rfl, rfl⟩) dL_count_16
theorem k_L_at_1 : Cond.classLink RL 13 "java/lang/IndexOutOfBoundsException" ∈ wsL_at := List.mem_of_getElem? (i := 1) (by rfl)
set_option maxHeartbeats 4000000 in
set_option maxRecDepth 100000 in
theorem c_L_at (l : Launch) (hst : l.stackTraces = false) (D : va_G) (cy : Nat → ClassId) (cJ : ClassId) (L nw : List Nat) (ad : Nat → Nat) (N : Nat) (p0 : Int32) (qo : Nat) (f : Nat → Int64) (u : Mm) (o : Nat × Int32 × Bool × Mm) (h_this : vn L 7 40) (h2 : o.1 ≠ 2) (h : f_X7_at N p0 u = some o) : MtJ l yL_at wsL_at ({ frames := 7, cells := 1, slots := 6, locals := 103 } : Room) D cy cJ L nw ad 1 6 qo f [.ref (ad 40), .int p0, .ref qo] u o := by
  intro sz
  refine va_MetW (cc := cL_at) (maxL := 4) (ret := (some .int)) (hh := [(0, 9, 12, 13)]) (by decide) rfl ?_
  intro p e s m args below meth c s₁ B hml hv
  obtain ⟨rfl, hsz, hP, hK, hD0, hO, hT, hC, hN⟩ := hv
  have hx := B.exec
  have hb := B.bytes
  have hr := B.returns
  have hts := atoms_spec (ws := wsL_at) B.pre
  have hown : s.vm.findClass RL = some m.cls := findClass_of_methodNamed B.named
  have hlocks := B.notSynchronized
  have htab := vx_table (x := yL_at) B (hts (.codeWith yL_at cL_at 4 (some .int) [(0, 9, 12, 13)]) List.mem_cons_self)
  subst hsz
  have hw : Wj D cy cJ L ad (va_A (wJ cy cJ L ad u qo f) s.heap.size) s.heap u qo f s.heap [] := ⟨hP, hD0.self, va_S.rf, hO⟩
  have hA : ∀ q : Nat, s.heap.size ≤ q → va_A (wJ cy cJ L ad u qo f) s.heap.size q := fun q h => Or.inr h
  generalize va_A (wJ cy cJ L ad u qo f) s.heap.size = A at hw hA hT ⊢
  have hl := lv_entry ([.ref (ad 40), .int p0, .ref qo]) (n := 4) (Nat.le_of_ble_eq_true rfl)
  rw [lg_entry_eq]
  generalize (lg_sl ([.ref (ad 40), .int p0, .ref qo]) ++ List.replicate (4 - (lg_sl ([.ref (ad 40), .int p0, .ref qo])).length) Slot.unset).toArray = ls at hl ⊢
  have hl : lv_has ls 4 [(0, .ref (ad 40)), (1, .int p0), (2, .ref qo)] := hl
  refine lv_aload_n hx hb dL_at_0 rfl (lv_at hl 2 rfl) ?_
  refine lv_iconst (v := 0) hx hb dL_at_1 (by decide) ?_
  refine lv_aload_n hx hb dL_at_2 rfl (lv_at hl 0 rfl) ?_
  refine lv_iload_n hx hb dL_at_3 rfl (lv_at hl 1 rfl) ?_
  refine h_call (As := [.int p0]) (rest := [.int 0, .ref qo]) ⟨hx, hb, hml, hown, hts⟩ (c_X7_at l hst D cy L nw ad N p0 u o h_this h) (cwV 1 hts gL_at_X7_at rfl rfl rfl (by decide +kernel) ⟨Nat.le_of_ble_eq_true rfl, Nat.le_of_ble_eq_true rfl⟩) hw hA hK hT hC h_this (by decide) rfl rfl hl.1 rfl (Nat.le_of_ble_eq_true rfl) dL_at_4 ⟨Nat.le_of_ble_eq_true rfl, Nat.le_of_ble_eq_true rfl⟩ (fun E ce q9 v H locs hE hw hce hcv hcl => ?_) (fun r b v ad2 H locs hq hag hw => ?_)
  · rcases hE with ⟨rfl, hE⟩ | ⟨rfl, hE⟩
    · refine vx_catch hown [] (⟨0, 9, 12, 13⟩ : ExceptionTableEntry) [] htab (fun z hz => by cases hz) (by decide) (by decide) (hts _ k_L_at_1) (hT.2.2.2.2.2.1.use rfl) hce hcv hcl ?_
      refine lv_astore_n (lv' := [(3, .ref q9), (0, .ref (ad 40)), (1, .int p0), (2, .ref qo)]) hx hb dL_at_12 rfl hl (by decide) rfl (fun ls hl => ?_)
      refine lv_iconst (v := 1) hx hb dL_at_13 (by decide) ?_
      subst hE
      refine W.widen (k := 1) (n := 6) (Nat.le_of_ble_eq_true rfl) (Nat.le_of_ble_eq_true rfl) ?_
      exact h_iret (ad2 := ad) hx hb hr hlocks hK (fun _ _ => rfl) hw (Or.inr (Or.inl ⟨rfl, rfl⟩)) dL_at_14
    · exact absurd (by rw [← hE]) h2
  · subst hq
    refine lv_i2l (v := r.toInt64) hx hb dL_at_7 rfl ?_
    refine h_last hx hb hK hw dL_at_8 (fun H locs hw => ?_)
    refine lv_goto (tgt := 15) hx hb dL_at_9 (by decide) ?_
    refine lv_iconst (v := 0) hx hb dL_at_15 (by decide) ?_
    refine W.widen (k := 1) (n := 6) (Nat.le_of_ble_eq_true rfl) (Nat.le_of_ble_eq_true rfl) ?_
    exact h_iret (ad2 := ad2) hx hb hr hlocks hK hag hw (Or.inl ⟨rfl, rfl, rfl⟩) dL_at_16

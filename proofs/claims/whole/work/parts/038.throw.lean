abbrev eIO : String := "java/lang/IndexOutOfBoundsException"
abbrev eIA : String := "java/lang/IllegalArgumentException"
def TN (U : State) : Prop := va_Nw (.declares (Bundle.initS "java/lang/RuntimeException")) U ∧ va_Nw (.declares (Bundle.initS "java/lang/Exception")) U ∧ va_Nw (.declares (Bundle.initS Bundle.tN)) U ∧ va_Nw (.castable eIO eIO) U ∧ va_Nw (.castable eIA eIA) U ∧
  ∀ q ∈ ([(42, "no such type"), (49, "too few or too many fields or extra words"), (95, "no such field"), (104, "no such object or field"), (134, "no such weak reference"), (139, "no such what"), (175, "no such word")] : List (Nat × String)), ∃ sa, vk_R RX7 q.1 q.2 sa U
def TX (A : Nat → Prop) (H : Heap) (U : State) : Prop := vx_Zq Bundle.tN "UNASSIGNED_STACK" Bundle.steD A U H ∧ vx_Zq Bundle.tN "SUPPRESSED_SENTINEL" Bundle.listD A U H ∧ TN U
theorem TN_warm {s U : State} (hW : s.WarmedH U.vm) (h : TN s) : TN U := by
  obtain ⟨h1, h2, h3, h4, h5, h6⟩ := h
  refine ⟨h1.warmD hW, h2.warmD hW, h3.warmD hW, h4.warmC hW, h5.warmC hW, fun q hq => ?_⟩
  obtain ⟨sa, h⟩ := h6 q hq
  exact ⟨sa, h.warm hW⟩
theorem TN_calling {U : State} {g : JFrame} {mk : MethodId} {a : Array Value} (h : TN U) : TN (U.calling g mk a) := by
  obtain ⟨h1, h2, h3, h4, h5, h6⟩ := h
  refine ⟨h1.same rfl rfl, h2.same rfl rfl, h3.same rfl rfl, h4.same rfl rfl, h5.same rfl rfl, fun q hq => ?_⟩
  obtain ⟨sa, h⟩ := h6 q hq
  exact ⟨sa, h.same rfl⟩
theorem TX_calling {A : Nat → Prop} {U : State} {g : JFrame} {mk : MethodId} {a : Array Value} {H : Heap} (h : TX A H U) : TX A H (U.calling g mk a) :=
  ⟨vx_Zq.moved (u := U) (U := U.calling g mk a) (Vm.Alike.refl U.vm) h.1, vx_Zq.moved (u := U) (U := U.calling g mk a) (Vm.Alike.refl U.vm) h.2.1, TN_calling h.2.2⟩
theorem TX_call {A B : Nat → Prop} {s U : State} {H0 H : Heap} {locs : List Loc} (h : TX A H0 s) (hS : va_S A H0 H locs) (hW : s.WarmedH U.vm) (hB : ∀ q, B q → A q) : TX B H U :=
  ⟨vx_Zq.moved hW.alike ((h.1.kept (fun a h1 h2 => hS.2.1 a h1 h2)).narrow hB), vx_Zq.moved hW.alike ((h.2.1.kept (fun a h1 h2 => hS.2.1 a h1 h2)).narrow hB), TN_warm hW h.2.2⟩
def LoX (L nw : List Nat) (b : Bool) : List Nat := if b then L ++ nw else L
abbrev PcX (D : va_G) (cy : Nat → ClassId) (L : List Nat) (ad : Nat → Nat) (u : Mm) (sz : Nat) (av : List Value) : Array Value → State → Prop := va_Pc av (fun U => U.heap.size = sz ∧ Hs D cy L ad u (fun _ => True) U ∧ TX (va_A (wl cy L ad u) sz) U.heap U ∧ CN U)
abbrev BX (D : va_G) (cy : Nat → ClassId) (L nw : List Nat) (ad : Nat → Nat) (A : Nat → Prop) : Bool × Mm → State → Prop := fun v t => ∃ ad' : Nat → Nat, (∀ c ∈ L, ad' c = ad c) ∧ Hs D cy (LoX L nw v.1) ad' v.2 A t
abbrev QcX (D : va_G) (cy : Nat → ClassId) (L nw : List Nat) (ad : Nat → Nat) (A : Nat → Prop) (o : Nat × Int32 × Bool × Mm) : Array Value → State → Outcome → State → Prop := va_Qi (fun (r : Int32) (v : Bool × Mm) => (0, r, v.1, v.2) = o) (BX D cy L nw ad A) A
abbrev XcX (D : va_G) (cy : Nat → ClassId) (L : List Nat) (ad : Nat → Nat) (A : Nat → Prop) (o : Nat × Int32 × Bool × Mm) : String → State → State → Prop := vx_X (fun _ : Mm => True) (fun E v t => ((E = eIO ∧ (1, 0, false, v) = o) ∨ (E = eIA ∧ (2, 0, false, v) = o)) ∧ Hs D cy L ad v A t) A
def MtX (l : Launch) (y : MethodName) (ws : List Cond) (rm : Room) (D : va_G) (cy : Nat → ClassId) (L nw : List Nat) (ad : Nat → Nat) (mc ms : Nat) (av : List Value) (u : Mm) (o : Nat × Int32 × Bool × Mm) : Prop := ∀ sz : Nat, vx_Met l y ws rm (PcX D cy L ad u sz av) (QcX D cy L nw ad (va_A (wl cy L ad u) sz) o) (XcX D cy L ad (va_A (wl cy L ad u) sz) o) mc ms (va_A (wl cy L ad u) sz)
set_option maxRecDepth 20000 in
theorem tx_goodIO : ∀ w ∈ Cond.classLink RX7 40 eIO :: Cond.initialized eIO :: vx_atS RX7 44 eIO ["java/lang/RuntimeException", "java/lang/Exception"], vx_ot w = true := by decide +kernel
set_option maxRecDepth 20000 in
theorem tx_goodIA : ∀ w ∈ Cond.classLink RX7 47 eIA :: Cond.initialized eIA :: vx_atS RX7 51 eIA ["java/lang/RuntimeException", "java/lang/Exception"], vx_ot w = true := by decide +kernel
set_option maxRecDepth 20000 in
theorem tx_subIO : ∀ w ∈ (vx_atS RX7 44 eIO ["java/lang/RuntimeException", "java/lang/Exception"]).filter (fun w => !goodWord w), w ∈ [Cond.declares (Bundle.initS "java/lang/RuntimeException"), .declares (Bundle.initS "java/lang/Exception"), .declares (Bundle.initS Bundle.tN), .castable eIO eIO] := by decide +kernel
set_option maxRecDepth 20000 in
theorem tx_subIA : ∀ w ∈ (vx_atS RX7 51 eIA ["java/lang/RuntimeException", "java/lang/Exception"]).filter (fun w => !goodWord w), w ∈ [Cond.declares (Bundle.initS "java/lang/RuntimeException"), .declares (Bundle.initS "java/lang/Exception"), .declares (Bundle.initS Bundle.tN), .castable eIA eIA] := by decide +kernel
section THR
variable {p : Program} {l : Launch} {e : Env} {R : Room} {s : State} {m : MethodId} {args : Array Value} {below : List Frame} {meth : Method} {c : Code} {H : Heap} {locs : List Loc} {cells slots : Nat}
variable {cc : ByteArray} {pc : Nat} {ls : Array Slot} {D : va_G} {cy : Nat → ClassId} {L nw : List Nat} {ad : Nat → Nat} {A : Nat → Prop} {u : Mm} {o : Nat × Int32 × Bool × Mm} {mc ms : Nat}
theorem pcx_blind {sz : Nat} {av : List Value} : FrameBlind (PcX D cy L ad u sz av) := fun a U g mk q => by
  obtain ⟨q0, q1, ⟨qP, qK, qD, qO⟩, qT, qC⟩ := q
  exact ⟨q0, q1, ⟨qP, va_K.moved (u := U) (U := U.calling g mk a) (Vm.Alike.refl U.vm) qK, qD, qO⟩, TX_calling qT, CN_calling qC⟩
theorem x_throwIO (hx : p.tables.exec = Jvm.exec) (hb : c.code = cc) (hst : l.stackTraces = false) (hown : s.vm.findClass RX7 = some m.cls) (hk : (Cond.classLink RX7 40 eIO).before args s = true) (hini : (Cond.initialized eIO).before args s = true) (hg : ∀ w ∈ (vx_atS RX7 44 eIO ["java/lang/RuntimeException", "java/lang/Exception"]).filter goodWord, w.before args s = true) (hT : TX A s.heap s) {is : Nat} {text : String} (hstr : (is, text) ∈ ([(42, "no such type"), (49, "too few or too many fields or extra words"), (95, "no such field"), (104, "no such object or field"), (134, "no such weak reference"), (139, "no such what"), (175, "no such word")] : List (Nat × String)))
    (hK : va_K D vwCl (tyv cy) s) (hw : Wd D cy L ad A s.heap u H locs) (hsize : ls.size = c.maxLocals)
    (d0 : decode cc pc = .ok (.new 40, 3)) (d3 : decode cc (pc + 3) = .ok (.dup, 1)) (d4 : decode cc (pc + 4) = .ok (.ldc is, 2)) (d6 : decode cc (pc + 6) = .ok (.invokespecial 44, 3)) (d9 : decode cc (pc + 9) = .ok (.athrow, 1))
    (ht : ∀ x ∈ c.exceptionTable.toList, False) (hRf : 5 < R.frames) (hRl : 82 ≤ R.locals) (hRc : cells + 1 ≤ R.cells) (hRs : slots + 6 ≤ R.slots) (hlocks : meth.locks = false) (hc : cells + 1 ≤ mc) (hs : slots + 6 ≤ ms) (h : some (1, 0, false, u) = some o) :
    W p l e R s m args below meth c H locs cells slots (vx_MQ below (QcX D cy L nw ad A o) (XcX D cy L ad A o) args s mc ms A) (F0 m pc ls []) := by
  obtain ⟨hU, hN, h1, h2, h3, h4, h5, h6⟩ := hT
  obtain ⟨sa, hsa⟩ := h6 _ hstr
  have hq : (1, 0, false, u) = o := Option.some.inj h
  refine vx_throwS hx hb hst hown (by decide +kernel) (by decide +kernel) hk hini hsa (vx_hat hg tx_subIO (vx_c (h1.use rfl) (vx_c (h2.use rfl) (vx_c (h3.use rfl) (vx_c (h4.use rfl) vx_n))))) tx_goodIO hU hN hw.2.2.1 hsize d0 d3 d4 d6 d9 (fun x q => (ht x q).elim) (by exact hRf) (by exact hRl) hRc hRs hlocks (fun t hA hz hk2 => ?_) hw.2.2.1.2.2 hc hs
  have hkP : ∀ (k : Nat) (x : Nat × va_E), (wl cy L ad u)[k]? = some x → t.heap[x.1]? = H[x.1]? := fun k x hk9 => hk2 x.1 (hw.1 k x hk9).lt
  refine ⟨u, trivial, ⟨Or.inl ⟨rfl, hq⟩, fun k x hk9 => (hw.1 k x hk9).kept (hkP k x hk9), va_K.moved hA hK, hw.2.1, hw.2.2.2⟩, Nat.le_trans hw.2.2.1.1 hz, fun q h7 h8 => ?_⟩
  rw [hk2 q (Nat.lt_of_lt_of_le h7 hw.2.2.1.1)]
  exact hw.2.2.1.2.1 q h7 h8
theorem x_throwIA (hx : p.tables.exec = Jvm.exec) (hb : c.code = cc) (hst : l.stackTraces = false) (hown : s.vm.findClass RX7 = some m.cls) (hk : (Cond.classLink RX7 47 eIA).before args s = true) (hini : (Cond.initialized eIA).before args s = true) (hg : ∀ w ∈ (vx_atS RX7 51 eIA ["java/lang/RuntimeException", "java/lang/Exception"]).filter goodWord, w.before args s = true) (hT : TX A s.heap s) {is : Nat} {text : String} (hstr : (is, text) ∈ ([(42, "no such type"), (49, "too few or too many fields or extra words"), (95, "no such field"), (104, "no such object or field"), (134, "no such weak reference"), (139, "no such what"), (175, "no such word")] : List (Nat × String)))
    (hK : va_K D vwCl (tyv cy) s) (hw : Wd D cy L ad A s.heap u H locs) (hsize : ls.size = c.maxLocals)
    (d0 : decode cc pc = .ok (.new 47, 3)) (d3 : decode cc (pc + 3) = .ok (.dup, 1)) (d4 : decode cc (pc + 4) = .ok (.ldc is, 2)) (d6 : decode cc (pc + 6) = .ok (.invokespecial 51, 3)) (d9 : decode cc (pc + 9) = .ok (.athrow, 1))
    (ht : ∀ x ∈ c.exceptionTable.toList, False) (hRf : 5 < R.frames) (hRl : 82 ≤ R.locals) (hRc : cells + 1 ≤ R.cells) (hRs : slots + 6 ≤ R.slots) (hlocks : meth.locks = false) (hc : cells + 1 ≤ mc) (hs : slots + 6 ≤ ms) (h : some (2, 0, false, u) = some o) :
    W p l e R s m args below meth c H locs cells slots (vx_MQ below (QcX D cy L nw ad A o) (XcX D cy L ad A o) args s mc ms A) (F0 m pc ls []) := by
  obtain ⟨hU, hN, h1, h2, h3, h4, h5, h6⟩ := hT
  obtain ⟨sa, hsa⟩ := h6 _ hstr
  have hq : (2, 0, false, u) = o := Option.some.inj h
  refine vx_throwS hx hb hst hown (by decide +kernel) (by decide +kernel) hk hini hsa (vx_hat hg tx_subIA (vx_c (h1.use rfl) (vx_c (h2.use rfl) (vx_c (h3.use rfl) (vx_c (h5.use rfl) vx_n))))) tx_goodIA hU hN hw.2.2.1 hsize d0 d3 d4 d6 d9 (fun x q => (ht x q).elim) (by exact hRf) (by exact hRl) hRc hRs hlocks (fun t hA hz hk2 => ?_) hw.2.2.1.2.2 hc hs
  have hkP : ∀ (k : Nat) (x : Nat × va_E), (wl cy L ad u)[k]? = some x → t.heap[x.1]? = H[x.1]? := fun k x hk9 => hk2 x.1 (hw.1 k x hk9).lt
  refine ⟨u, trivial, ⟨Or.inr ⟨rfl, hq⟩, fun k x hk9 => (hw.1 k x hk9).kept (hkP k x hk9), va_K.moved hA hK, hw.2.1, hw.2.2.2⟩, Nat.le_trans hw.2.2.1.1 hz, fun q h7 h8 => ?_⟩
  rw [hk2 q (Nat.lt_of_lt_of_le h7 hw.2.2.1.1)]
  exact hw.2.2.1.2.1 q h7 h8
theorem x_iret {v : Int32} {b : Bool} {ad2 : Nat → Nat} (hx : p.tables.exec = Jvm.exec) (hb : c.code = cc) (hr : meth.sig.returnType = some .int) (hlocks : meth.locks = false) (hK : va_K D vwCl (tyv cy) s) (hag : ∀ c ∈ L, ad2 c = ad c) (hw : Wd D cy (LoX L nw b) ad2 A s.heap u H locs) (h : some (0, v, b, u) = some o) (hc : cells ≤ mc) (hs : slots ≤ ms) (hdg : decode cc pc = .ok (.ireturn, 1)) : W p l e R s m args below meth c H locs cells slots (vx_MQ below (QcX D cy L nw ad A o) (XcX D cy L ad A o) args s mc ms A) (F0 m pc ls [.int v]) :=
  W.widen hc hs (vx_ret (W.iret (v := v) hx hb hr (fun t ht hW => ⟨⟨v, (b, u), rfl, Option.some.inj h, ad2, hag, by rw [ht]; exact hw.1, va_K.moved hW.alike hK, hw.2.1, hw.2.2.2⟩, hw.2.2.1.F ht⟩) hw.2.2.1.2.2 hdg hlocks))
theorem x_zret {v : Int32} {b : Bool} {ad2 : Nat → Nat} (hx : p.tables.exec = Jvm.exec) (hb : c.code = cc) (hr : meth.sig.returnType = some .boolean) (hlocks : meth.locks = false) (hK : va_K D vwCl (tyv cy) s) (hag : ∀ c ∈ L, ad2 c = ad c) (hw : Wd D cy (LoX L nw b) ad2 A s.heap u H locs) (hn : narrow .boolean (.int v) = .int v) (h : some (0, v, b, u) = some o) (hc : cells ≤ mc) (hs : slots ≤ ms) (hdg : decode cc pc = .ok (.ireturn, 1)) : W p l e R s m args below meth c H locs cells slots (vx_MQ below (QcX D cy L nw ad A o) (XcX D cy L ad A o) args s mc ms A) (F0 m pc ls [.int v]) :=
  W.widen hc hs (vx_ret (W.zret (v := v) hx hb hr hn (fun t ht hW => ⟨⟨v, (b, u), rfl, Option.some.inj h, ad2, hag, by rw [ht]; exact hw.1, va_K.moved hW.alike hK, hw.2.1, hw.2.2.2⟩, hw.2.2.1.F ht⟩) hw.2.2.1.2.2 hdg hlocks))
theorem lo_false : LoX L nw false = L := rfl
end THR

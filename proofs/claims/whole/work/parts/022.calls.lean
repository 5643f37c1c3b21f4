/-! contracts of methods that make nothing: what the printed function says -/
abbrev PcM (D : va_G) (cy : Nat → ClassId) (L : List Nat) (ad : Nat → Nat) (u : Mm) (sz : Nat) (av : List Value) : Array Value → State → Prop := va_Pc av (fun U => U.heap.size = sz ∧ Hs D cy L ad u (fun _ => True) U)
abbrev QcI (D : va_G) (cy : Nat → ClassId) (L : List Nat) (ad : Nat → Nat) (A : Nat → Prop) (o : Int32 × Mm) : Array Value → State → Outcome → State → Prop := va_Qi (fun (r : Int32) (v : Mm) => (r, v) = o) (fun v t => Hs D cy L ad v A t) A
abbrev QcV (D : va_G) (cy : Nat → ClassId) (L : List Nat) (ad : Nat → Nat) (A : Nat → Prop) (o : Mm) : Array Value → State → Outcome → State → Prop := va_Qv (fun (v : Mm) => v = o) (fun v t => Hs D cy L ad v A t) A
abbrev QcQ (D : va_G) (cy : Nat → ClassId) (L : List Nat) (ad : Nat → Nat) (A : Nat → Prop) (t : Nat) (o : Option Nat × Mm) : Array Value → State → Outcome → State → Prop := va_Qq (fun (r : Option Nat) (v : Mm) => ∃ r0 : Option Nat, r = r0.map ad ∧ (r0, v) = o ∧ vr L t r0) (fun v t => Hs D cy L ad v A t) A
def MtI (l : Launch) (y : MethodName) (ws : List Cond) (rm : Room) (D : va_G) (cy : Nat → ClassId) (L : List Nat) (ad : Nat → Nat) (av : List Value) (u : Mm) (o : Int32 × Mm) : Prop := ∀ sz : Nat, Met l y ws rm (PcM D cy L ad u sz av) (QcI D cy L ad (va_A (wl cy L ad u) sz) o) 0 0 (va_A (wl cy L ad u) sz)
def MtV (l : Launch) (y : MethodName) (ws : List Cond) (rm : Room) (D : va_G) (cy : Nat → ClassId) (L : List Nat) (ad : Nat → Nat) (av : List Value) (u : Mm) (o : Mm) : Prop := ∀ sz : Nat, Met l y ws rm (PcM D cy L ad u sz av) (QcV D cy L ad (va_A (wl cy L ad u) sz) o) 0 0 (va_A (wl cy L ad u) sz)
def MtQ (l : Launch) (y : MethodName) (ws : List Cond) (rm : Room) (D : va_G) (cy : Nat → ClassId) (L : List Nat) (ad : Nat → Nat) (t : Nat) (av : List Value) (u : Mm) (o : Option Nat × Mm) : Prop := ∀ sz : Nat, Met l y ws rm (PcM D cy L ad u sz av) (QcQ D cy L ad (va_A (wl cy L ad u) sz) t o) 0 0 (va_A (wl cy L ad u) sz)
/-- what stays through a method's walk -/
def Cx (p : Program) (m : MethodId) (meth : Method) (c : Code) (cc : ByteArray) (ret : Option FieldType) (nL : Nat) (s : State) (args : Array Value) (Ts : List Cond) (own : String) (D : va_G) (cy : Nat → ClassId) : Prop :=
  p.tables.exec = Jvm.exec ∧ c.code = cc ∧ meth.sig.returnType = ret ∧ c.maxLocals = nL ∧ s.vm.findClass own = some m.cls ∧ (∀ w ∈ Ts, w.before args s = true) ∧ meth.locks = false ∧ va_K D vwCl (tyv cy) s
section CLL
variable {p : Program} {l : Launch} {e : Env} {R : Room} {s : State} {m : MethodId} {args : Array Value} {below : List Frame} {meth : Method} {c : Code} {H : Heap} {locs : List Loc} {cells slots : Nat} {Q : State → Prop}
variable {cc bytes : ByteArray} {pc : Nat} {ls : Array Slot} {rest st0 : List Value} {D : va_G} {cy : Nat → ClassId} {L : List Nat} {ad : Nat → Nat} {A : Nat → Prop} {H0 : Heap} {u : Mm} {O : Type} {out : O}
variable {Ts ws : List Cond} {own C : String} {index maxL nL n : Nat} {y : MethodName} {ret : Option FieldType} {rm : Room} {As : List Value}
theorem pcm_blind {sz : Nat} {av : List Value} : FrameBlind (PcM D cy L ad u sz av) := fun a U g mk q => by
  obtain ⟨q0, q1, qP, qK, qD, qO⟩ := q
  exact ⟨q0, q1, qP, va_K.moved (u := U) (U := U.calling g mk a) (Vm.Alike.refl U.vm) qK, qD, qO⟩
theorem wd_free (hw : Wd D cy L ad A H0 u H locs) (hA : ∀ q, H0.size ≤ q → A q) : ∀ q, va_A (wl cy L ad u) H.size q → A q := by
  intro q h
  rcases h with ⟨k, e, h⟩ | h
  · exact hw.2.1.2 k _ h
  · exact hA q (Nat.le_trans hw.2.2.1.1 h)
theorem wd_start (hP : va_P D vwCl (wl cy L ad u) H) (hD : va_D (fun _ => True) (wl cy L ad u)) (hO : Ok L u) : Wd D cy L ad (va_A (wl cy L ad u) H.size) H u H [] := ⟨hP, hD.self, va_S.rf, hO⟩
theorem pcm_of (hw : Wd D cy L ad A H0 u H locs) (hK : va_K D vwCl (tyv cy) s) {av : List Value} {U : State} (hU : U.heap = H) (hW : s.WarmedH U.vm) : PcM D cy L ad u H.size av av.toArray U :=
  ⟨rfl, by rw [hU], by rw [hU]; exact hw.1, va_K.moved hW.alike hK, hw.2.1.weaken (fun _ _ _ _ => trivial), hw.2.2.2⟩
theorem rv_of (hw : Wd D cy L ad A H0 u H locs) (hK : va_K D vwCl (tyv cy) s) {t a N : Nat} {T : u_T} (ha : vn L t a) (ht : t < 9) (hcl : vwCl[t]? = some (C, T, N)) : ∃ cell : Cell, H[ad a]? = some cell ∧ cell.vm.isStatics = false ∧ s.vm.findClass C = some cell.cls := by
  obtain ⟨i, hi⟩ := List.getElem?_of_mem ha.1
  have he : (wl cy L ad u)[i]? = some (ad a, .inr (t, fso ad u t a)) := by rw [wl_of hi, en_o ha.2 ht]
  exact va_recv hK hw.1 hcl he
theorem r_bI {f : Option (Int32 × Mm)} {F : Int32 → Mm → Option O} {a : Array Value} (hr : ∀ o, f = some o → va_Run p l e R s m args below meth c H locs cells slots 0 0 (F0 m pc ls st0) rest (QcI D cy L ad (va_A (wl cy L ad u) H.size) o a) (va_A (wl cy L ad u) H.size)) (hw : Wd D cy L ad A H0 u H locs) (hA : ∀ q, H0.size ≤ q → A q) (h : bd f F = some out) (kk : ∀ (x : Int32) (u : Mm) (H : Heap) (locs : List Loc), Wd D cy L ad A H0 u H locs → F x u = some out → W p l e R s m args below meth c H locs cells slots Q (F0 m (pc + 3) ls (.int x :: rest))) : W p l e R s m args below meth c H locs cells slots Q (F0 m pc ls st0) := by
  obtain ⟨r, u1, hf, h⟩ := bd_e h
  refine va_calli (hr _ hf) hw.2.2.1 (fun q _ h => wd_free hw hA q h) (wd_free hw hA) (fun x w t H1 locs1 ht hvm hq hB _ _ hS => ?_)
  cases hq
  exact kk _ _ H1 locs1 ⟨ht ▸ hB.1, wl_D hw.2.1, hS, hB.2.2.2⟩ h
theorem r_bV {f : Option Mm} {F : Mm → Option O} {a : Array Value} (hr : ∀ o, f = some o → va_Run p l e R s m args below meth c H locs cells slots 0 0 (F0 m pc ls st0) rest (QcV D cy L ad (va_A (wl cy L ad u) H.size) o a) (va_A (wl cy L ad u) H.size)) (hw : Wd D cy L ad A H0 u H locs) (hA : ∀ q, H0.size ≤ q → A q) (h : bv f F = some out) (kk : ∀ (u : Mm) (H : Heap) (locs : List Loc), Wd D cy L ad A H0 u H locs → F u = some out → W p l e R s m args below meth c H locs cells slots Q (F0 m (pc + 3) ls rest)) : W p l e R s m args below meth c H locs cells slots Q (F0 m pc ls st0) := by
  obtain ⟨u1, hf, h⟩ := bv_e h
  refine va_callv (hr _ hf) hw.2.2.1 (fun q _ h => wd_free hw hA q h) (wd_free hw hA) (fun w t H1 locs1 ht hvm hq hB _ _ hS => ?_)
  cases hq
  exact kk _ H1 locs1 ⟨ht ▸ hB.1, wl_D hw.2.1, hS, hB.2.2.2⟩ h
theorem r_bQ {f : Option (Option Nat × Mm)} {F : Option Nat → Mm → Option O} {a : Array Value} {tt : Nat} (hr : ∀ o, f = some o → va_Run p l e R s m args below meth c H locs cells slots 0 0 (F0 m pc ls st0) rest (QcQ D cy L ad (va_A (wl cy L ad u) H.size) tt o a) (va_A (wl cy L ad u) H.size)) (hw : Wd D cy L ad A H0 u H locs) (hA : ∀ q, H0.size ≤ q → A q) (h : bd f F = some out) (kk : ∀ (x : Option Nat) (u : Mm) (H : Heap) (locs : List Loc), Wd D cy L ad A H0 u H locs → vr L tt x → F x u = some out → W p l e R s m args below meth c H locs cells slots Q (F0 m (pc + 3) ls (va_re ad x :: rest))) : W p l e R s m args below meth c H locs cells slots Q (F0 m pc ls st0) := by
  obtain ⟨r, u1, hf, h⟩ := bd_e h
  refine va_callq (hr _ hf) hw.2.2.1 (fun q _ h => wd_free hw hA q h) (wd_free hw hA) (fun x w t H1 locs1 ht hvm hq hB _ _ hS => ?_)
  obtain ⟨r0, rfl, hq, hv⟩ := hq
  cases hq
  exact kk _ _ H1 locs1 ⟨ht ▸ hB.1, wl_D hw.2.1, hS, hB.2.2.2⟩ hv h
/-- a call of a virtual method: what runs -/
theorem r_vI {o : Int32 × Mm} (S : CallFix p m c cc nL s args Ts own) {t a N : Nat} {T : u_T} (hM : MtI l y ws rm D cy L ad (.ref (ad a) :: As) u o) (cw : CallW R s args own C index y bytes maxL ret ws rm 0 0 n) (hw : Wd D cy L ad A H0 u H locs) (hK : va_K D vwCl (tyv cy) s) (ha : vn L t a) (ht : t < 9) (hcl : vwCl[t]? = some (C, T, N)) (hn : As.length = n) (hsize : ls.size = nL) (hstack : st0 = As.reverse ++ .ref (ad a) :: rest) (hW : (rest.map fun v => v.category).sum ≤ 8) (hdg : decode cc pc = .ok (.invokevirtual index, 3)) (hf : cells + 0 ≤ R.cells ∧ slots + 0 ≤ R.slots) :
    va_Run p l e R s m args below meth c H locs cells slots 0 0 (F0 m pc ls st0) rest (QcI D cy L ad (va_A (wl cy L ad u) H.size) o (Value.ref (ad a) :: As).toArray) (va_A (wl cy L ad u) H.size) :=
  va_runV (As := As) (rest := rest) S (hM H.size) cw ⟨pcm_blind, rv_of hw hK ha ht hcl, fun U hU hW => pcm_of hw hK hU hW⟩ rfl hn hsize hstack (lv_room hW) hdg hf
theorem r_vV {o : Mm} (S : CallFix p m c cc nL s args Ts own) {t a N : Nat} {T : u_T} (hM : MtV l y ws rm D cy L ad (.ref (ad a) :: As) u o) (cw : CallW R s args own C index y bytes maxL ret ws rm 0 0 n) (hw : Wd D cy L ad A H0 u H locs) (hK : va_K D vwCl (tyv cy) s) (ha : vn L t a) (ht : t < 9) (hcl : vwCl[t]? = some (C, T, N)) (hn : As.length = n) (hsize : ls.size = nL) (hstack : st0 = As.reverse ++ .ref (ad a) :: rest) (hW : (rest.map fun v => v.category).sum ≤ 8) (hdg : decode cc pc = .ok (.invokevirtual index, 3)) (hf : cells + 0 ≤ R.cells ∧ slots + 0 ≤ R.slots) :
    va_Run p l e R s m args below meth c H locs cells slots 0 0 (F0 m pc ls st0) rest (QcV D cy L ad (va_A (wl cy L ad u) H.size) o (Value.ref (ad a) :: As).toArray) (va_A (wl cy L ad u) H.size) :=
  va_runV (As := As) (rest := rest) S (hM H.size) cw ⟨pcm_blind, rv_of hw hK ha ht hcl, fun U hU hW => pcm_of hw hK hU hW⟩ rfl hn hsize hstack (lv_room hW) hdg hf
theorem r_vQ {tt : Nat} {o : Option Nat × Mm} (S : CallFix p m c cc nL s args Ts own) {t a N : Nat} {T : u_T} (hM : MtQ l y ws rm D cy L ad tt (.ref (ad a) :: As) u o) (cw : CallW R s args own C index y bytes maxL ret ws rm 0 0 n) (hw : Wd D cy L ad A H0 u H locs) (hK : va_K D vwCl (tyv cy) s) (ha : vn L t a) (ht : t < 9) (hcl : vwCl[t]? = some (C, T, N)) (hn : As.length = n) (hsize : ls.size = nL) (hstack : st0 = As.reverse ++ .ref (ad a) :: rest) (hW : (rest.map fun v => v.category).sum ≤ 8) (hdg : decode cc pc = .ok (.invokevirtual index, 3)) (hf : cells + 0 ≤ R.cells ∧ slots + 0 ≤ R.slots) :
    va_Run p l e R s m args below meth c H locs cells slots 0 0 (F0 m pc ls st0) rest (QcQ D cy L ad (va_A (wl cy L ad u) H.size) tt o (Value.ref (ad a) :: As).toArray) (va_A (wl cy L ad u) H.size) :=
  va_runV (As := As) (rest := rest) S (hM H.size) cw ⟨pcm_blind, rv_of hw hK ha ht hcl, fun U hU hW => pcm_of hw hK hU hW⟩ rfl hn hsize hstack (lv_room hW) hdg hf
theorem r_sI {o : Int32 × Mm} (S : CallFix p m c cc nL s args Ts own) (hM : MtI l y ws rm D cy L ad As u o) (cw : CallB R s args own index y bytes maxL ret ws rm 0 0 n ∧ (Cond.static y).before args s = true) (hw : Wd D cy L ad A H0 u H locs) (hK : va_K D vwCl (tyv cy) s) (hn : As.length = n) (hsize : ls.size = nL) (hstack : st0 = As.reverse ++ rest) (hW : (rest.map fun v => v.category).sum ≤ 8) (hdg : decode cc pc = .ok (.invokestatic index, 3)) (hf : cells + 0 ≤ R.cells ∧ slots + 0 ≤ R.slots) :
    va_Run p l e R s m args below meth c H locs cells slots 0 0 (F0 m pc ls st0) rest (QcI D cy L ad (va_A (wl cy L ad u) H.size) o As.toArray) (va_A (wl cy L ad u) H.size) :=
  va_runS (As := As) (rest := rest) S (hM H.size) cw ⟨pcm_blind, fun U hU hW => pcm_of hw hK hU hW⟩ rfl hn hsize hstack (lv_room hW) hdg hf
/-! the ends -/
theorem r_iret {o : Int32 × Mm} {v : Int32} (hx : p.tables.exec = Jvm.exec) (hb : c.code = cc) (hr : meth.sig.returnType = some .int) (hlocks : meth.locks = false) (hK : va_K D vwCl (tyv cy) s) (hw : Wd D cy L ad A s.heap u H locs) (h : some (v, u) = some o) (hdg : decode cc pc = .ok (.ireturn, 1)) : W p l e R s m args below meth c H locs cells slots (MQ below (QcI D cy L ad A o) args s cells slots A) (F0 m pc ls [.int v]) :=
  W.iret (v := v) hx hb hr (fun t ht hW => ⟨⟨v, u, rfl, Option.some.inj h, by rw [ht]; exact hw.1, va_K.moved hW.alike hK, hw.2.1, hw.2.2.2⟩, hw.2.2.1.F ht⟩) hw.2.2.1.2.2 hdg hlocks
theorem r_zret {o : Int32 × Mm} {v : Int32} (hx : p.tables.exec = Jvm.exec) (hb : c.code = cc) (hr : meth.sig.returnType = some .boolean) (hlocks : meth.locks = false) (hK : va_K D vwCl (tyv cy) s) (hw : Wd D cy L ad A s.heap u H locs) (hn : narrow .boolean (.int v) = .int v) (h : some (v, u) = some o) (hdg : decode cc pc = .ok (.ireturn, 1)) : W p l e R s m args below meth c H locs cells slots (MQ below (QcI D cy L ad A o) args s cells slots A) (F0 m pc ls [.int v]) :=
  W.zret (v := v) hx hb hr hn (fun t ht hW => ⟨⟨v, u, rfl, Option.some.inj h, by rw [ht]; exact hw.1, va_K.moved hW.alike hK, hw.2.1, hw.2.2.2⟩, hw.2.2.1.F ht⟩) hw.2.2.1.2.2 hdg hlocks
theorem r_vret {o : Mm} (hx : p.tables.exec = Jvm.exec) (hb : c.code = cc) (hr : meth.sig.returnType = none) (hlocks : meth.locks = false) (hK : va_K D vwCl (tyv cy) s) (hw : Wd D cy L ad A s.heap u H locs) (h : some u = some o) (hdg : decode cc pc = .ok (.return_, 1)) : W p l e R s m args below meth c H locs cells slots (MQ below (QcV D cy L ad A o) args s cells slots A) (F0 m pc ls []) :=
  W.vret hx hb hr (fun t ht hW => ⟨⟨u, rfl, Option.some.inj h, by rw [ht]; exact hw.1, va_K.moved hW.alike hK, hw.2.1, hw.2.2.2⟩, hw.2.2.1.F ht⟩) hw.2.2.1.2.2 hdg hlocks
theorem r_qret {o : Option Nat × Mm} {v : Option Nat} {tt : Nat} {nm : String} (hx : p.tables.exec = Jvm.exec) (hb : c.code = cc) (hr : meth.sig.returnType = some (.object nm)) (hlocks : meth.locks = false) (hK : va_K D vwCl (tyv cy) s) (hw : Wd D cy L ad A s.heap u H locs) (hv : vr L tt v) (h : some (v, u) = some o) (hdg : decode cc pc = .ok (.areturn, 1)) : W p l e R s m args below meth c H locs cells slots (MQ below (QcQ D cy L ad A tt o) args s cells slots A) (F0 m pc ls [va_re ad v]) :=
  W.aret (v := va_re ad v) hx hb hr (Or.inl ⟨nm, rfl⟩) (va_rf_or _) (fun t ht hW => ⟨⟨v.map ad, u, rfl, ⟨v, rfl, Option.some.inj h, hv⟩, by rw [ht]; exact hw.1, va_K.moved hW.alike hK, hw.2.1, hw.2.2.2⟩, hw.2.2.1.F ht⟩) hw.2.2.1.2.2 hdg hlocks
end CLL

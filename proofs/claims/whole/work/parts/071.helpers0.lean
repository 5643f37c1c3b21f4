def oJ (cJ : ClassId) (f : Nat → Int64) : va_E := .inl (cJ, 1, .inr (.inl f))
abbrev tyJ (cy : Nat → ClassId) (cJ : ClassId) : List (ClassId × FieldType) := tyv cy ++ [(cJ, .long)]
abbrev wJ (cy : Nat → ClassId) (cJ : ClassId) (L : List Nat) (ad : Nat → Nat) (u : Mm) (qo : Nat) (f : Nat → Int64) : va_W := wl cy L ad u ++ [(qo, oJ cJ f)]
def Wj (D : va_G) (cy : Nat → ClassId) (cJ : ClassId) (L : List Nat) (ad : Nat → Nat) (A : Nat → Prop) (H0 : Heap) (u : Mm) (qo : Nat) (f : Nat → Int64) (H : Heap) (locs : List Loc) : Prop :=
  va_P D vwCl (wJ cy cJ L ad u qo f) H ∧ va_D A (wJ cy cJ L ad u qo f) ∧ va_S A H0 H locs ∧ Ok L u
section HLJ
variable {D : va_G} {cy : Nat → ClassId} {cJ : ClassId} {L L2 : List Nat} {ad ad2 : Nat → Nat} {A : Nat → Prop} {H0 H H1 : Heap} {u u2 : Mm} {qo : Nat} {f g : Nat → Int64} {locs : List Loc}
theorem tyJ_K {s : State} (h : va_K D vwCl (tyJ cy cJ) s) : va_K D vwCl (tyv cy) s := h.sub [0, 1, 2, 3] rfl
theorem wJ_last : (wJ cy cJ L ad u qo f)[L.length]? = some (qo, oJ cJ f) := by
  rw [List.getElem?_append_right (by simp [wl])]
  simp [wl]
theorem wJ_old {i c : Nat} (hi : L[i]? = some c) : (wJ cy cJ L ad u qo f)[i]? = some (ad c, en cy ad u c) := by
  have hl : i < L.length := (List.getElem?_eq_some_iff.mp hi).1
  rw [List.getElem?_append_left (by simp [wl]; exact hl), wl_of hi]
theorem wJ_P (h : va_P D vwCl (wJ cy cJ L ad u qo f) H) : va_P D vwCl (wl cy L ad u) H := fun k q hk => by
  obtain ⟨c, hc, rfl⟩ := wl_at hk
  exact h k _ (wJ_old hc)
theorem wJ_D (h : va_D A (wJ cy cJ L ad u qo f)) : va_D A (wl cy L ad u) := ⟨fun i j p q hp hq e => by
  obtain ⟨c, hc, rfl⟩ := wl_at hp
  obtain ⟨d, hd, rfl⟩ := wl_at hq
  exact h.1 i j _ _ (wJ_old hc) (wJ_old hd) e, fun k q hk => by
  obtain ⟨c, hc, rfl⟩ := wl_at hk
  exact h.2 k _ (wJ_old hc)⟩
theorem wJ_ne (h : va_D A (wJ cy cJ L ad u qo f)) : ∀ c ∈ L, ad c ≠ qo := fun c hc hq => by
  obtain ⟨i, hi⟩ := List.getElem?_of_mem hc
  have hl : i < L.length := (List.getElem?_eq_some_iff.mp hi).1
  have := h.1 i L.length _ _ (wJ_old hi) wJ_last hq
  omega
theorem wJ_join (hP : va_P D vwCl (wJ cy cJ L ad u qo f) H) (hD : va_D A (wJ cy cJ L ad u qo f)) (hS : va_S A H0 H1 locs) (hA : ∀ q, H.size ≤ q → A q)
    (hk1 : ∀ q : Nat, q < H.size → ¬ va_A (wl cy L ad u) H.size q → H1[q]? = H[q]?) (hP1 : va_P D vwCl (wl cy L2 ad2 u2) H1) (hD1 : va_D (va_A (wl cy L ad u) H.size) (wl cy L2 ad2 u2)) (hO : Ok L2 u2) : Wj D cy cJ L2 ad2 A H0 u2 qo f H1 locs := by
  have hqo : qo < H.size := (hP L.length _ wJ_last).lt
  have hnq : ¬ va_A (wl cy L ad u) H.size qo := by
    rintro (⟨k, e, h⟩ | h)
    · obtain ⟨c, hc, he⟩ := wl_at h
      exact wJ_ne hD c (List.mem_of_getElem? hc) (congrArg Prod.fst he).symm
    · omega
  have hAq : A qo := hD.2 L.length _ wJ_last
  have hAA : ∀ q, va_A (wl cy L ad u) H.size q → A q := by
    rintro q (⟨k, e, h⟩ | h)
    · exact (wJ_D hD).2 k _ h
    · exact hA q h
  refine ⟨fun k q hk => ?_, ?_, hS, hO⟩
  · rcases List.mem_append.mp (List.mem_of_getElem? hk) with h | h
    · obtain ⟨i, hi⟩ := List.getElem?_of_mem h
      exact hP1 i q hi
    · simp only [List.mem_cons, List.not_mem_nil, or_false] at h
      subst h
      exact (hP L.length _ wJ_last).kept (hk1 qo hqo hnq)
  · refine (hD1.weaken (fun k q _ h => hAA q.1 h)).app (⟨fun i j p q hp hq h => ?_, fun k q hk => ?_⟩ : va_D A [(qo, oJ cJ f)]) (fun i j x y hx hy hxy => ?_)
    · have h1 := (List.getElem?_eq_some_iff.mp hp).1
      have h2 := (List.getElem?_eq_some_iff.mp hq).1
      simp at h1 h2
      omega
    · match k, hk with
      | 0, hk => cases hk; exact hAq
      | k + 1, hk => simp at hk
    · have h1 := hD1.2 i x hx
      match j, hy with
      | 0, hy => cases hy; have hxy : x.1 = qo := hxy; exact hnq (by rw [← hxy]; exact h1)
      | j + 1, hy => simp at hy
theorem wJ_set : (wJ cy cJ L ad u qo f).set L.length (qo, oJ cJ g) = wJ cy cJ L ad u qo g := by
  have h1 : (wl cy L ad u).length = L.length := by simp [wl]
  show (wl cy L ad u ++ [(qo, oJ cJ f)]).set L.length (qo, oJ cJ g) = _
  rw [← h1, List.set_append_right _ _ (Nat.le_refl _), Nat.sub_self]
  rfl
end HLJ
section HLK
variable {p : Program} {l : Launch} {e : Env} {R : Room} {s : State} {m : MethodId} {args : Array Value} {below : List Frame} {meth : Method} {c : Code} {H : Heap} {locs : List Loc} {cells slots : Nat} {Q : State → Prop}
variable {cc bytes : ByteArray} {pc : Nat} {ls : Array Slot} {rest st0 : List Value} {D : va_G} {cy : Nat → ClassId} {cJ : ClassId} {L nw : List Nat} {ad : Nat → Nat} {A : Nat → Prop} {u : Mm} {qo : Nat} {f : Nat → Int64} {mc ms : Nat}
variable {Ts ws : List Cond} {own C : String} {index maxL nL n : Nat} {y : MethodName} {ret : Option FieldType} {rm : Room} {As : List Value}
theorem h_call {o : Nat × Int32 × Bool × Mm} (S : CallFix p m c cc nL s args Ts own) {t a N : Nat} {T : u_T} (hM : MtX l y ws rm D cy L nw ad mc ms (.ref (ad a) :: As) u o) (cw : CallW R s args own C index y bytes maxL ret ws rm mc ms n) (hw : Wj D cy cJ L ad A s.heap u qo f H locs) (hA : ∀ q, s.heap.size ≤ q → A q) (hK : va_K D vwCl (tyJ cy cJ) s) (hT : TX A s.heap s) (hC : CN s) (ha : vn L t a) (ht : t < 9) (hcl : vwCl[t]? = some (C, T, N)) (hn : As.length = n) (hsize : ls.size = nL) (hstack : st0 = As.reverse ++ .ref (ad a) :: rest) (hW : (rest.map fun v => v.category).sum ≤ 8) (hdg : decode cc pc = .ok (.invokevirtual index, 3)) (hf : cells + mc ≤ R.cells ∧ slots + ms ≤ R.slots)
    (kx : ∀ (E : String) (ce : Cell) (q9 : Addr) (v : Mm) (H : Heap) (locs : List Loc), ((E = eIO ∧ (1, 0, false, v) = o) ∨ (E = eIA ∧ (2, 0, false, v) = o)) → Wj D cy cJ L ad A s.heap v qo f H locs → H[q9]? = some ce → ce.vm = .none → s.vm.findClass E = some ce.cls → vx_W p l e R s m args below meth c H locs (cells + mc) (slots + ms) Q (F0 m pc ls rest) q9)
    (kk : ∀ (r : Int32) (b : Bool) (v : Mm) (ad2 : Nat → Nat) (H : Heap) (locs : List Loc), (0, r, b, v) = o → (∀ c ∈ L, ad2 c = ad c) → Wj D cy cJ (LoX L nw b) ad2 A s.heap v qo f H locs → W p l e R s m args below meth c H locs (cells + mc) (slots + ms) Q (F0 m (pc + 3) ls (.int r :: rest))) : W p l e R s m args below meth c H locs cells slots Q (F0 m pc ls st0) := by
  obtain ⟨hP, hD, hS, hO⟩ := hw
  have hA1 : ∀ q : Nat, H.size ≤ q → A q := fun q h => hA q (Nat.le_trans hS.1 h)
  have hAA : ∀ q, va_A (wl cy L ad u) H.size q → A q := by
    rintro q (⟨k, e9, h⟩ | h)
    · exact (wJ_D hD).2 k _ h
    · exact hA1 q h
  have hK2 := tyJ_K hK
  have hwd : Wd D cy L ad A s.heap u H locs := ⟨wJ_P hP, wJ_D hD, hS, hO⟩
  refine vx_calli (vx_runV (As := As) (rest := rest) S (hM H.size) cw ⟨pcx_blind, rv_of hwd hK2 ha ht hcl, fun U hU hW => ⟨rfl, by rw [hU], ⟨by rw [hU]; exact wJ_P hP, va_K.moved hW.alike hK2, (wJ_D hD).weaken (fun _ _ _ _ => trivial), hO⟩, by rw [hU]; exact TX_call hT hS hW hAA, CN_warm hW hC⟩⟩ rfl hn hsize hstack (lv_room hW) hdg hf) hS (fun q _ h => hAA q h) hAA (fun q _ h => hAA q h) (fun E ce q9 v t1 H1 locs1 ht1 hvm _ hB _ hk1 hS1 hce hcv hcl9 => ?_) (fun r v t1 H1 locs1 ht1 hvm hq hB _ hk1 hS1 => ?_)
  · obtain ⟨hE, hP1, hK1, hD1, hO1⟩ := hB
    rw [ht1] at hP1
    exact kx E ce q9 v H1 locs1 hE (wJ_join hP hD hS1 hA1 hk1 hP1 hD1 hO1) hce hcv hcl9
  · obtain ⟨ad2, hag, hP1, hK1, hD1, hO1⟩ := hB
    rw [ht1] at hP1
    exact kk r v.1 v.2 ad2 H1 locs1 hq hag (wJ_join hP hD hS1 hA1 hk1 hP1 hD1 hO1)
theorem h_last (hx : p.tables.exec = Jvm.exec) (hb : c.code = cc) (hK : va_K D vwCl (tyJ cy cJ) s) (hw : Wj D cy cJ L ad A s.heap u qo f H locs) {x : Int64} (hdg : decode cc pc = .ok (.lastore, 1))
    (kk : ∀ (H : Heap) (locs : List Loc), Wj D cy cJ L ad A s.heap u qo (vp_updL f 0 x) H locs → W p l e R s m args below meth c H locs cells slots Q (F0 m (pc + 1) ls rest)) : W p l e R s m args below meth c H locs cells slots Q (F0 m pc ls (.long x :: .int 0 :: .ref qo :: rest)) := by
  obtain ⟨hP, hD, hS, hO⟩ := hw
  refine va_last hx hb hK hP hD hS L.length 4 (n := 1) (f := f) wJ_last rfl (by rw [vp_in_iff]; decide) hdg (fun H1 locs1 hP hD hS => ?_)
  have e1 : (wJ cy cJ L ad u qo f).set L.length (qo, .inl (cJ, 1, .inr (.inl (vp_updL f (0 : Int32).toNatClampNeg x)))) = wJ cy cJ L ad u qo (vp_updL f 0 x) := wJ_set
  rw [e1] at hP hD
  exact kk H1 locs1 ⟨hP, hD, hS, hO⟩
end HLK
abbrev PcJ (D : va_G) (cy : Nat → ClassId) (cJ : ClassId) (L : List Nat) (ad : Nat → Nat) (u : Mm) (qo : Nat) (f : Nat → Int64) (sz : Nat) (av : List Value) : Array Value → State → Prop := va_Pc av (fun U => U.heap.size = sz ∧ va_P D vwCl (wJ cy cJ L ad u qo f) U.heap ∧ va_K D vwCl (tyJ cy cJ) U ∧ va_D (fun _ => True) (wJ cy cJ L ad u qo f) ∧ Ok L u ∧ TX (va_A (wJ cy cJ L ad u qo f) sz) U.heap U ∧ CN U ∧ va_Nc eIA eIO U)
def oOk (o : Nat × Int32 × Bool × Mm) (k : Int32) (f : Nat → Int64) : Prop := (o.1 = 0 ∧ k = 0 ∧ f 0 = o.2.1.toInt64) ∨ (o.1 = 1 ∧ k = 1) ∨ (o.1 = 2 ∧ k = 2)
abbrev QcJ (D : va_G) (cy : Nat → ClassId) (cJ : ClassId) (L nw : List Nat) (ad : Nat → Nat) (qo : Nat) (A : Nat → Prop) (o : Nat × Int32 × Bool × Mm) : Array Value → State → Outcome → State → Prop := va_Qi (fun (k : Int32) (f : Nat → Int64) => oOk o k f) (fun f t => ∃ ad' : Nat → Nat, (∀ c ∈ L, ad' c = ad c) ∧ va_P D vwCl (wJ cy cJ (LoX L nw o.2.2.1) ad' o.2.2.2 qo f) t.heap ∧ va_K D vwCl (tyJ cy cJ) t ∧ va_D A (wJ cy cJ (LoX L nw o.2.2.1) ad' o.2.2.2 qo f) ∧ Ok (LoX L nw o.2.2.1) o.2.2.2) A
def MtJ (l : Launch) (y : MethodName) (ws : List Cond) (rm : Room) (D : va_G) (cy : Nat → ClassId) (cJ : ClassId) (L nw : List Nat) (ad : Nat → Nat) (mc ms : Nat) (qo : Nat) (f : Nat → Int64) (av : List Value) (u : Mm) (o : Nat × Int32 × Bool × Mm) : Prop := ∀ sz : Nat, Met l y ws rm (PcJ D cy cJ L ad u qo f sz av) (QcJ D cy cJ L nw ad qo (va_A (wJ cy cJ L ad u qo f) sz) o) mc ms (va_A (wJ cy cJ L ad u qo f) sz)
section HLM
variable {p : Program} {l : Launch} {e : Env} {R : Room} {s : State} {m : MethodId} {args : Array Value} {below : List Frame} {meth : Method} {c : Code} {H : Heap} {locs : List Loc} {cells slots : Nat} {Q : State → Prop}
variable {cc : ByteArray} {pc : Nat} {ls : Array Slot} {rest : List Value} {D : va_G} {cy : Nat → ClassId} {cJ : ClassId} {L nw : List Nat} {ad : Nat → Nat} {A : Nat → Prop} {u : Mm} {qo : Nat} {f : Nat → Int64} {mc ms : Nat}
theorem pcj_blind {sz : Nat} {av : List Value} : FrameBlind (PcJ D cy cJ L ad u qo f sz av) := fun a U g mk q => by
  obtain ⟨q0, q1, qP, qK, qD, qO, qT, qC, qN⟩ := q
  exact ⟨q0, q1, qP, va_K.moved (u := U) (U := U.calling g mk a) (Vm.Alike.refl U.vm) qK, qD, qO, TX_calling qT, CN_calling qC, va_Nc.moved (u := U) (U := U.calling g mk a) (Vm.Alike.refl U.vm) qN⟩
theorem h_iret {o : Nat × Int32 × Bool × Mm} {v : Int32} {ad2 : Nat → Nat} (hx : p.tables.exec = Jvm.exec) (hb : c.code = cc) (hr : meth.sig.returnType = some .int) (hlocks : meth.locks = false) (hK : va_K D vwCl (tyJ cy cJ) s) (hag : ∀ c ∈ L, ad2 c = ad c) (hw : Wj D cy cJ (LoX L nw o.2.2.1) ad2 A s.heap o.2.2.2 qo f H locs) (h : oOk o v f) (hdg : decode cc pc = .ok (.ireturn, 1)) : W p l e R s m args below meth c H locs cells slots (MQ below (QcJ D cy cJ L nw ad qo A o) args s cells slots A) (F0 m pc ls [.int v]) :=
  W.iret (v := v) hx hb hr (fun t ht hW => ⟨⟨v, f, rfl, h, ad2, hag, by rw [ht]; exact hw.1, va_K.moved hW.alike hK, hw.2.1, hw.2.2.2⟩, hw.2.2.1.F ht⟩) hw.2.2.1.2.2 hdg hlocks
end HLM

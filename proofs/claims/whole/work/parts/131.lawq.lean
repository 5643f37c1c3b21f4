section N2S
variable {u : Mm} {N t : Nat} {x y z : Int32}
theorem n2_77 {r : Option Nat} : No2 (f_X7_make_77 N t r u) := by
  unfold f_X7_make_77
  exact No2.l No2.n (fun _ => No2.d (fun _ _ => No2.s (by decide)))
theorem n2_make : No2 (f_X7_make N t x u) := by
  unfold f_X7_make
  exact No2.i (fun _ => No2.s (by decide)) (fun _ => No2.i (fun _ => No2.s (by decide)) (fun _ => No2.c (No2.p (fun _ => No2.l (No2.s (by decide)) (fun _ => No2.c (No2.p (fun _ => No2.l No2.n (fun _ => No2.d (fun _ _ => No2.i (fun _ => No2.d (fun _ _ => No2.d (fun _ _ => No2.i (fun _ => No2.d (fun _ _ => No2.i (fun _ => No2.s (by decide)) (fun _ => n2_77))) (fun _ => n2_77)))) (fun _ => n2_77))))))))))
theorem n2_90 {r : Option Nat} : No2 (f_X7_set_90 N r u) := by
  unfold f_X7_set_90
  exact No2.l (No2.s (by decide)) (fun _ => No2.d (fun _ _ => No2.s (by decide)))
theorem n2_58 {r : Option Nat} : No2 (f_X7_set_58 N x t r u) := by
  unfold f_X7_set_58
  exact No2.c (No2.p (fun _ => No2.c (No2.p (fun _ => No2.l n2_90 (fun _ => No2.v (fun _ => n2_90))))))
theorem n2_set : No2 (f_X7_set N x y z u) := by
  unfold f_X7_set
  exact No2.d (fun _ _ => No2.l (No2.s (by decide)) (fun _ => No2.d (fun _ _ => No2.i (fun _ => No2.s (by decide)) (fun _ => No2.d (fun _ _ => No2.l (No2.i (fun _ => n2_58) (fun _ => No2.s (by decide))) (fun _ => n2_58))))))
theorem n2_get : No2 (f_X7_get N x y u) := by
  unfold f_X7_get
  exact No2.d (fun _ _ => No2.l (No2.s (by decide)) (fun _ => No2.d (fun _ _ => No2.i (fun _ => No2.s (by decide)) (fun _ => No2.c (No2.p (fun _ => No2.d (fun _ _ => No2.s (by decide))))))))
theorem n2_40 {r : Option Nat} : No2 (f_X7_weak_40 N x r u) := by
  unfold f_X7_weak_40
  exact No2.c (No2.p (fun _ => No2.d (fun _ _ => No2.c (No2.p (fun _ => No2.s (by decide))))))
theorem n2_weak : No2 (f_X7_weak N x y u) := by
  unfold f_X7_weak
  exact No2.i (fun _ => No2.s (by decide)) (fun _ => No2.i (fun _ => No2.d (fun _ _ => No2.l (No2.i (fun _ => n2_40) (fun _ => No2.s (by decide))) (fun _ => n2_40))) (fun _ => No2.s (by decide)))
theorem n2_seen : No2 (f_X7_seen N x u) := by
  unfold f_X7_seen
  exact No2.i (fun _ => No2.s (by decide)) (fun _ => No2.i (fun _ => No2.c (No2.p (fun _ => No2.d (fun _ _ => No2.s (by decide))))) (fun _ => No2.s (by decide)))
theorem n2_object : No2 (f_X7_object N x y u) := by
  unfold f_X7_object
  exact No2.i (fun _ => No2.s (by decide)) (fun _ => No2.i (fun _ => No2.d (fun _ _ => No2.l (No2.s (by decide)) (fun _ => No2.d (fun _ _ => No2.s (by decide))))) (fun _ => No2.s (by decide)))
theorem n2_count : No2 (f_X7_count N x u) := by
  unfold f_X7_count
  have e : ∀ (k : Nat → Mm → Int32), No2 (pt (k 0 u) (fun x2 => some (0, x2, false, u))) := fun _ => No2.p (fun _ => No2.s (by decide))
  exact No2.i (fun _ => No2.s (by decide)) (fun _ => No2.i (fun _ => No2.i (fun _ => No2.p (fun _ => No2.s (by decide))) (fun _ => No2.i (fun _ => No2.p (fun _ => No2.s (by decide))) (fun _ => No2.i (fun _ => No2.p (fun _ => No2.s (by decide))) (fun _ => No2.i (fun _ => No2.p (fun _ => No2.s (by decide))) (fun _ => No2.i (fun _ => No2.p (fun _ => No2.s (by decide))) (fun _ => No2.i (fun _ => No2.p (fun _ => No2.s (by decide))) (fun _ => No2.i (fun _ => No2.p (fun _ => No2.s (by decide))) (fun _ => No2.i (fun _ => No2.p (fun _ => No2.s (by decide))) (fun _ => No2.p (fun _ => No2.s (by decide)))))))))))
    (fun _ => No2.s (by decide)))
theorem n2_at : No2 (f_X7_at N x u) := by
  unfold f_X7_at
  exact No2.i (fun _ => No2.s (by decide)) (fun _ => No2.i (fun _ => No2.d (fun _ _ => No2.d (fun _ _ => No2.s (by decide)))) (fun _ => No2.s (by decide)))
end N2S
section LOM
variable {L nw : List Nat} {b : Bool} {c t a : Nat}
theorem lo_in (h : c ∈ LoX L nw b) : c ∈ L ∨ c ∈ nw := by
  cases b
  · exact Or.inl h
  · exact List.mem_append.mp h
theorem lo_of (h : c ∈ L) : c ∈ LoX L nw b := by
  cases b
  · exact h
  · exact List.mem_append_left _ h
theorem lo_vn (h : vn L t a) : vn (LoX L nw b) t a := ⟨lo_of h.1, h.2⟩
theorem lg_rf (x : Int64) : lg_cmp x x = 0 := by
  unfold lg_cmp
  by_cases h : x > x
  · have h2 : x < x := h
    rw [Int64.lt_iff_toInt_lt] at h2
    omega
  · rw [if_neg h, if_pos rfl]
theorem oOk_k {kx : Nat} {a kk : Int32} {bb : Bool} {v : Mm} {g : Nat → Int64} (h : oOk (kx, a, bb, v) kk g) : kk = i3 kx := by
  rcases h with ⟨h1, h2, _⟩ | ⟨h1, h2⟩ | ⟨h1, h2⟩
  · have h1 : kx = 0 := h1
    rw [h2, h1]; rfl
  · have h1 : kx = 1 := h1
    rw [h2, h1]; rfl
  · have h1 : kx = 2 := h1
    rw [h2, h1]; rfl
theorem oOk_0 {kx : Nat} {a kk : Int32} {bb : Bool} {v : Mm} {g : Nat → Int64} (h : oOk (kx, a, bb, v) kk g) (h0 : kk = 0) : kx = 0 ∧ g 0 = a.toInt64 := by
  rcases h with ⟨h1, _, h3⟩ | ⟨_, h2⟩ | ⟨_, h2⟩
  · exact ⟨h1, h3⟩
  · rw [h2] at h0
    exact absurd h0 (by decide)
  · rw [h2] at h0
    exact absurd h0 (by decide)
end LOM
section LWC
variable {p : Program} {l : Launch} {e : Env} {R : Room} {s : State} {m : MethodId} {args : Array Value} {below : List Frame} {meth : Method} {c : Code} {H : Heap} {locs : List Loc} {cells slots : Nat} {Q : State → Prop}
variable {cc bytes : ByteArray} {pc : Nat} {ls : Array Slot} {rest st0 : List Value} {D : va_G} {cy : Nat → ClassId} {cJ : ClassId} {L nw : List Nat} {ad : Nat → Nat} {A : Nat → Prop} {u : Mm} {qo : Nat} {f : Nat → Int64} {mc ms : Nat}
variable {Ts ws : List Cond} {own C : String} {index maxL nL n : Nat} {y : MethodName} {ret : Option FieldType} {rm : Room} {As : List Value} {hh : List (Nat × Nat × Nat × Nat)}
theorem q_vI {o : Int32 × Mm} (S : CallFix p m c cc nL s args Ts own) {t a ra N : Nat} {T : u_T} (hM : MtI l y ws rm D cy L ad (.ref (ad a) :: As) u o) (cw : CallW R s args own C index y bytes maxL ret ws rm 0 0 n) (hw : Wj D cy cJ L ad A s.heap u qo f H locs) (hA : ∀ q, s.heap.size ≤ q → A q) (hK : va_K D vwCl (tyJ cy cJ) s) (hra : ad a = ra) (ha : vn L t a) (ht : t < 9) (hcl : vwCl[t]? = some (C, T, N)) (hn : As.length = n) (hsize : ls.size = nL) (hstack : st0 = As.reverse ++ .ref ra :: rest) (hW : (rest.map fun v => v.category).sum ≤ 8) (hdg : decode cc pc = .ok (.invokevirtual index, 3)) (hf : cells + 0 ≤ R.cells ∧ slots + 0 ≤ R.slots)
    (kk : ∀ (H : Heap) (locs : List Loc), Wj D cy cJ L ad A s.heap o.2 qo f H locs → W p l e R s m args below meth c H locs cells slots Q (F0 m (pc + 3) ls (.int o.1 :: rest))) : W p l e R s m args below meth c H locs cells slots Q (F0 m pc ls st0) := by
  subst hra
  obtain ⟨hP, hD, hS, hO⟩ := hw
  have hA1 : ∀ q : Nat, H.size ≤ q → A q := fun q h => hA q (Nat.le_trans hS.1 h)
  have hwd : Wd D cy L ad A s.heap u H locs := ⟨wJ_P hP, wJ_D hD, hS, hO⟩
  refine va_calli (r_vI S hM cw hwd (tyJ_K hK) ha ht hcl hn hsize hstack hW hdg hf) hS (fun q _ h => wd_free hwd hA q h) (wd_free hwd hA) (fun x w t1 H1 locs1 ht1 hvm hq hB hz1 hk1 hS1 => ?_)
  cases hq
  have hP1 := hB.1
  rw [ht1] at hP1
  exact kk H1 locs1 (wJ_join hP hD hS1 hA1 hk1 hP1 hB.2.2.1 hB.2.2.2)
theorem q_sJ {o : Nat × Int32 × Bool × Mm} (S : CallFix p m c cc nL s args Ts own) (hM : MtJ l y ws rm D cy cJ L nw ad mc ms qo f As u o) (cw : vx_CSW R s args own index y bytes maxL ret hh ws rm mc ms n) (hw : Wj D cy cJ L ad A s.heap u qo f H locs) (hA : ∀ q, s.heap.size ≤ q → A q) (hK : va_K D vwCl (tyJ cy cJ) s) (hT : TX A s.heap s) (hC : CN s) (hN : va_Nc eIA eIO s) (hn : As.length = n) (hsize : ls.size = nL) (hstack : st0 = As.reverse ++ rest) (hW : (rest.map fun v => v.category).sum ≤ 8) (hdg : decode cc pc = .ok (.invokestatic index, 3)) (hf : cells + mc ≤ R.cells ∧ slots + ms ≤ R.slots)
    (kk : ∀ (k : Int32) (g : Nat → Int64) (ad2 : Nat → Nat) (H : Heap) (locs : List Loc), oOk o k g → (∀ c ∈ L, ad2 c = ad c) → Wj D cy cJ (LoX L nw o.2.2.1) ad2 A s.heap o.2.2.2 qo g H locs → W p l e R s m args below meth c H locs (cells + mc) (slots + ms) Q (F0 m (pc + 3) ls (.int k :: rest))) : W p l e R s m args below meth c H locs cells slots Q (F0 m pc ls st0) := by
  obtain ⟨hP, hD, hS, hO⟩ := hw
  have hA1 : ∀ q : Nat, H.size ≤ q → A q := fun q h => hA q (Nat.le_trans hS.1 h)
  have hAA : ∀ q, va_A (wJ cy cJ L ad u qo f) H.size q → A q := by
    rintro q (⟨k, e9, h⟩ | h)
    · exact hD.2 k _ h
    · exact hA1 q h
  refine va_calli (vx_runSW (As := As) (rest := rest) S (hM H.size) cw ⟨pcj_blind, fun U hU hW => ⟨rfl, by rw [hU], by rw [hU]; exact hP, va_K.moved hW.alike hK, hD.weaken (fun _ _ _ _ => trivial), hO, by rw [hU]; exact TX_call hT hS hW hAA, CN_warm hW hC, va_Nc.moved hW.alike hN⟩⟩ rfl hn hsize hstack (lv_room hW) hdg hf) hS (fun q _ h => hAA q h) hAA (fun k g t1 H1 locs1 ht1 hvm hq hB hz1 hk1 hS1 => ?_)
  obtain ⟨ad2, hag, hP1, hK1, hD1, hO1⟩ := hB
  rw [ht1] at hP1
  exact kk k g ad2 H1 locs1 hq hag ⟨hP1, hD1.weaken (fun j q _ h => hAA q.1 h), hS1, hO1⟩
theorem q_ld (hx : p.tables.exec = Jvm.exec) (hb : c.code = cc) {b Ls : Nat} {xs : Nat → Int32} (hX : va_X b Ls xs s s.heap) (hbl : b < s.heap.size) (hbA : ¬ A b) (hS : va_S A s.heap H locs) {lv : List (Nat × Value)} {i j : Nat} (hl : lv_has ls nL lv) (k0 k4 : Nat) (h0 : lv[k0]? = some (0, .ref b)) (h4 : lv[k4]? = some (4, .int (i3 i))) {nn : Int}
    (d0 : decode cc pc = .ok (.aload_n 0, 1)) (d1 : decode cc (pc + 1) = .ok (.iload 4, 2)) (d3 : decode cc (pc + 3) = .ok (.iconst nn, 1)) (d4 : decode cc (pc + 4) = .ok (.iadd, 1)) (d5 : decode cc (pc + 5) = .ok (.iaload, 1)) (hj : Int32.ofInt nn = i3 j) (hi : i + j < Ls) (hL : Ls ≤ 2560)
    (kk : W p l e R s m args below meth c H locs cells slots Q (F0 m (pc + 6) ls (.int (xs (i + j)) :: rest))) : W p l e R s m args below meth c H locs cells slots Q (F0 m pc ls rest) := by
  refine lv_aload_n hx hb d0 rfl (lv_at hl k0 h0) ?_
  refine lv_iload hx hb d1 (lv_at hl k4 h4) ?_
  refine lv_iconst (v := i3 j) hx hb d3 hj ?_
  refine lv_iadd hx hb d4 ?_
  rw [i3_add]
  have h1 : (i3 (i + j)).toNatClampNeg = i + j := i3_ix (by omega)
  refine va_sld hx hb hX hbl hbA hS (i := i3 (i + j)) ?_ d5 ?_
  · rw [vp_in_iff, i3_int (by omega)]
    omega
  · rw [h1]
    exact kk
theorem q_lald (hx : p.tables.exec = Jvm.exec) (hb : c.code = cc) (hK : va_K D vwCl (tyJ cy cJ) s) (hw : Wj D cy cJ L ad A s.heap u qo f H locs) (hdg : decode cc pc = .ok (.laload, 1))
    (kk : W p l e R s m args below meth c H locs cells slots Q (F0 m (pc + 1) ls (.long (f 0) :: rest))) : W p l e R s m args below meth c H locs cells slots Q (F0 m pc ls (.int 0 :: .ref qo :: rest)) :=
  va_lald hx hb hK hw.1 L.length 4 (n := 1) (f := f) wJ_last rfl (by rw [vp_in_iff]; decide) hdg kk
end LWC
def Lx (p : Program) (s : State) (m : MethodId) (meth : Method) (c : Code) (b Ls : Nat) (xs : Nat → Int32) (D : va_G) (cy : Nat → ClassId) (cJ : ClassId) : Prop :=
  p.tables.exec = Jvm.exec ∧ c.code = cL_law ∧ meth.sig.returnType = ret ∧ c.maxLocals = 7 ∧ s.vm.findClass RL = some m.cls ∧ (∀ w ∈ wsL_law, w.before #[Value.ref b] s = true) ∧ va_X b Ls xs s s.heap ∧ b < s.heap.size ∧ meth.locks = false ∧ va_K D vwCl (tyJ cy cJ) s ∧ TX (fun q : Nat => s.heap.size ≤ q) s.heap s ∧ CN s ∧ va_Nc eIA eIO s
def LW (k : Nat) (s : State) (D : va_G) (cy : Nat → ClassId) (cJ : ClassId) (a1 a2 qo : Nat) (L : List Nat) (ad : Nat → Nat) (u : Mm) (f : Nat → Int64) (H : Heap) (locs : List Loc) : Prop :=
  Wj D cy cJ L ad (fun q : Nat => s.heap.size ≤ q) s.heap u qo f H locs ∧ Jk k u ∧ ad 40 = a1 ∧ ad 0 = a2 ∧ vn L 7 40 ∧ vn L 8 0 ∧ (∀ c ∈ L, c < 72 + 4 * k) ∧ 41 ∈ L ∧ 43 ∈ L
theorem lw_T {k : Nat} {s : State} {D : va_G} {cy : Nat → ClassId} {cJ : ClassId} {a1 a2 qo : Nat} {L : List Nat} {ad : Nat → Nat} {u : Mm} {f : Nat → Int64} {H : Heap} {locs : List Loc} (h : LW k s D cy cJ a1 a2 qo L ad u f H locs) : fT L (72 + 4 * k) ∧ fT2 u (72 + 4 * k) := by
  obtain ⟨hw, _, _, _, _, _, hlt, _, h43⟩ := h
  have n0 : 72 + 4 * k ∉ L := fun q => by have := hlt _ q; omega
  have n1 : 72 + 4 * k + 1 ∉ L := fun q => by have := hlt _ q; omega
  refine ⟨⟨?_, n0, n1⟩, by omega, by omega, fun o _ e => n0 ((hw.2.2.2 43 h43 o).2 (show (6 : Nat) ≠ 0 by decide) _ e).1⟩
  rw [tg_ge (by omega), if_pos (by omega)]
theorem lw_K {k : Nat} {s : State} {D : va_G} {cy : Nat → ClassId} {cJ : ClassId} {a1 a2 qo : Nat} {L : List Nat} {ad : Nat → Nat} {u : Mm} {f : Nat → Int64} {H : Heap} {locs : List Loc} (h : LW k s D cy cJ a1 a2 qo L ad u f H locs) : fK L (74 + 4 * k) ∧ fK2 u (74 + 4 * k) := by
  obtain ⟨hw, _, _, _, _, _, hlt, h41, _⟩ := h
  have n0 : 74 + 4 * k ∉ L := fun q => by have := hlt _ q; omega
  refine ⟨⟨?_, n0⟩, by omega, by omega, fun o _ e => n0 ((hw.2.2.2 41 h41 o).2 (show (3 : Nat) ≠ 0 by decide) _ e).1⟩
  rw [tg_ge (by omega), if_neg (by omega), if_neg (by omega)]

theorem pt_e {α β : Type} {x : α} {F : α → Option β} {o : β} (h : pt x F = some o) : ∃ z, z = x ∧ F z = some o := ⟨x, rfl, h⟩
def fT (L : List Nat) (t : Nat) : Prop := tg t = 5 ∧ t ∉ L ∧ t + 1 ∉ L
def fK (L : List Nat) (t : Nat) : Prop := tg t = 2 ∧ t ∉ L
theorem vn_app {L M : List Nat} {t a : Nat} (h : vn L t a) : vn (L ++ M) t a := ⟨List.mem_append_left _ h.1, h.2⟩
theorem vr_app {L M : List Nat} {t : Nat} {r : Option Nat} (h : vr L t r) : vr (L ++ M) t r := fun a q => vn_app (h a q)
theorem fT_vn {L : List Nat} {t : Nat} (h : fT L t) : vn (L ++ [t, t + 1]) 5 t := ⟨List.mem_append_right _ (by simp), h.1⟩
theorem fK_vn {L : List Nat} {t : Nat} (h : fK L t) : vn (L ++ [t]) 2 t := ⟨List.mem_append_right _ (by simp), h.1⟩
theorem lo_true {L nw : List Nat} : LoX L nw true = L ++ nw := rfl
def zB (x : Int32) : Bool := decide (x = 0) || decide (x = 1)
theorem zB_e {x : Int32} (h : zB x = true) : x = 0 ∨ x = 1 := by
  simpa [zB] using h
section ALK
variable {D : va_G} {cy : Nat → ClassId} {L nw : List Nat} {ad : Nat → Nat} {A : Nat → Prop} {H0 H H1 : Heap} {u : Mm} {locs : List Loc}
theorem kind_cut {q0 : Nat} {e : va_E} (hP : va_P D vwCl (wl cy L ad u ++ [(q0, e)]) H) (hD : va_D A (wl cy L ad u ++ [(q0, e)])) (hA : ∀ q, H.size ≤ q → A q) :
    va_P D vwCl [(q0, e)] H ∧ va_D A [(q0, e)] ∧ ∀ q, va_A [(q0, e)] H.size q → A q := by
  have e0 : (wl cy L ad u ++ [(q0, e)])[L.length]? = some (q0, e) := by
    rw [List.getElem?_append_right (by simp [wl])]
    simp [wl]
  have hP2 := hP.sub (ws' := [(q0, e)]) [L.length] (by simp only [List.filterMap_cons, e0, List.filterMap_nil])
  have hD2 := hD.sub (ws' := [(q0, e)]) [L.length] (by simp [va_nd]) (by simp only [List.map_cons, e0, List.map_nil])
  refine ⟨hP2, hD2, fun q h => ?_⟩
  rcases h with ⟨k, e9, h⟩ | h
  · exact hD2.2 k _ h
  · exact hA q h
theorem kind_join {q0 t : Nat} {p0 p1 p2 p3 : Int32} {e : va_E} (hOk : Ok L u) (hP : va_P D vwCl (wl cy L ad u ++ [(q0, e)]) H) (hD : va_D A (wl cy L ad u ++ [(q0, e)])) (hS : va_S A H0 H1 locs) (ht : tg t = 2) (hn0 : t ∉ L)
    (hk1 : ∀ q : Nat, q < H.size → ¬ va_A [(q0, e)] H.size q → H1[q]? = H[q]?)
    (hP1 : va_P D vwCl [(q0, .inr (2, [.int p0, .int p1, .int p2, .int p3]))] H1) :
    ∃ ad2 : Nat → Nat, (∀ c ∈ L, ad2 c = ad c) ∧ ad2 t = q0 ∧ Wd D cy (L ++ [t]) ad2 A H0 (nK u t p0 p1 p2 p3) H1 locs := by
  have hlt : ∀ c ∈ L, ad c < H.size := fun c hc => by
    obtain ⟨i, hi⟩ := List.getElem?_of_mem hc
    have hl : i < L.length := (List.getElem?_eq_some_iff.mp hi).1
    exact (hP i (ad c, en cy ad u c) (by rw [List.getElem?_append_left (by simp [wl]; exact hl), wl_of hi])).lt
  have hDL : va_D A (wl cy L ad u) := ⟨fun i j p q hp hq h => hD.1 i j p q (by rw [List.getElem?_append_left (List.getElem?_eq_some_iff.mp hp).1]; exact hp) (by rw [List.getElem?_append_left (List.getElem?_eq_some_iff.mp hq).1]; exact hq) h, fun k q hk => hD.2 k q (by rw [List.getElem?_append_left (List.getElem?_eq_some_iff.mp hk).1]; exact hk)⟩
  have hne0 : ∀ c ∈ L, ad c ≠ q0 := fun c hc hq => by
    obtain ⟨i, hi⟩ := List.getElem?_of_mem hc
    have hl : i < L.length := (List.getElem?_eq_some_iff.mp hi).1
    have := hD.1 i L.length (ad c, en cy ad u c) (q0, e) (by rw [List.getElem?_append_left (by simp [wl]; exact hl), wl_of hi]) (by rw [List.getElem?_append_right (by simp [wl])]; simp [wl]) hq
    omega
  have hAq0 : A q0 := hD.2 L.length (q0, e) (by rw [List.getElem?_append_right (by simp [wl])]; simp [wl])
  obtain ⟨ad2, had⟩ : ∃ ad2 : Nat → Nat, ad2 = (fun c => if c = t then q0 else ad c) := ⟨_, rfl⟩
  have a0 : ad2 t = q0 := by subst had; simp
  have hct : ∀ c ∈ L, c ≠ t := by
    rintro c hc rfl
    exact hn0 hc
  have hag : ∀ c ∈ L, ad2 c = ad c := fun c hc => by
    subst had
    show (if c = t then q0 else ad c) = ad c
    rw [if_neg (hct c hc)]
  have hu1 : ∀ c ∈ L, (nK u t p0 p1 p2 p3).1 c = u.1 c := fun c hc => by
    funext k
    show (if c = t then _ else u.1 c k) = u.1 c k
    rw [if_neg (hct c hc)]
  have hu2 : ∀ c ∈ L, (nK u t p0 p1 p2 p3).2 c = u.2 c := fun c hc => by
    funext k
    show (if c = t then _ else u.2 c k) = u.2 c k
    rw [if_neg (hct c hc)]
  have hen : ∀ c ∈ L, en cy ad2 (nK u t p0 p1 p2 p3) c = en cy ad u c := fun c hc => en_congr (hu1 c hc) (fun k hr => by
    rw [hu2 c hc]
    cases hd : u.2 c k with
    | none => rfl
    | some d => exact congrArg some (hag d (((hOk c hc k).2 hr d hd).1)))
  have hw2 : wl cy (L ++ [t]) ad2 (nK u t p0 p1 p2 p3) = wl cy L ad u ++ [(q0, .inr (2, [.int p0, .int p1, .int p2, .int p3]))] := by
    rw [wl_app, wl_old hag hen]
    congr 1
    show [(ad2 t, en cy ad2 (nK u t p0 p1 p2 p3) t)] = _
    rw [en_o ht (by decide), fso_K, a0]
  refine ⟨ad2, hag, a0, ?_, ?_, hS, ?_⟩
  · rw [hw2]
    intro k q hk
    rcases List.mem_append.mp (List.mem_of_getElem? hk) with h | h
    · obtain ⟨c, hc, rfl⟩ := List.mem_map.mp h
      obtain ⟨i, hi⟩ := List.getElem?_of_mem hc
      have hl : i < L.length := (List.getElem?_eq_some_iff.mp hi).1
      have h9 := hP i (ad c, en cy ad u c) (by rw [List.getElem?_append_left (by simp [wl]; exact hl), wl_of hi])
      refine h9.kept (hk1 (ad c) (hlt c hc) ?_)
      rintro (⟨k2, e9, h8⟩ | h8)
      · match k2, h8 with
        | 0, h8 => exact hne0 c hc (congrArg Prod.fst (Option.some.inj h8)).symm
        | k2 + 1, h8 => simp at h8
      · have := hlt c hc
        omega
    · simp only [List.mem_cons, List.not_mem_nil, or_false] at h
      rcases h with rfl
      exact hP1 0 _ rfl
  · rw [hw2]
    have hD0 : va_D A [(q0, .inr (2, [.int p0, .int p1, .int p2, .int p3]))] := by
      refine ⟨fun i j p q hp hq h => ?_, fun k q hk => ?_⟩
      · have h1 := (List.getElem?_eq_some_iff.mp hp).1
        have h2 := (List.getElem?_eq_some_iff.mp hq).1
        simp at h1 h2
        omega
      · match k, hk with
        | 0, hk => cases hk; exact hAq0
        | k + 1, hk => simp at hk
    refine hDL.app hD0 (fun i j x y hx hy hxy => ?_)
    obtain ⟨c, hc, rfl⟩ := wl_at hx
    have hc := List.mem_of_getElem? hc
    match j, hy with
    | 0, hy => cases hy; exact hne0 c hc hxy
    | j + 1, hy => simp at hy
  · intro c hc k
    rcases List.mem_append.mp hc with h | h
    · rw [hu2 c h]
      obtain ⟨g1, g2⟩ := hOk c h k
      exact ⟨g1, fun hr d hd => ⟨List.mem_append_left _ (g2 hr d hd).1, (g2 hr d hd).2⟩⟩
    · simp only [List.mem_cons, List.not_mem_nil, or_false] at h
      subst h
      refine ⟨fun d hd => ?_, fun hr => ?_⟩
      · unfold cst at hd
        rw [ht] at hd
        cases hd
      · rw [ht] at hr
        exact absurd rfl hr
end ALK
abbrev PcP (D : va_G) (cy : Nat → ClassId) (L : List Nat) (ad : Nat → Nat) (u : Mm) (sz : Nat) (av : List Value) : Array Value → State → Prop := va_Pc av (fun U => U.heap.size = sz ∧ Hs D cy L ad u (fun _ => True) U ∧ CN U)
abbrev QcP (D : va_G) (cy : Nat → ClassId) (L nw : List Nat) (ad : Nat → Nat) (A : Nat → Prop) (o : Int32 × Bool × Mm) : Array Value → State → Outcome → State → Prop := va_Qi (fun (r : Int32) (v : Bool × Mm) => (r, v.1, v.2) = o) (BX D cy L nw ad A) A
def MtP (l : Launch) (y : MethodName) (ws : List Cond) (rm : Room) (D : va_G) (cy : Nat → ClassId) (L nw : List Nat) (ad : Nat → Nat) (mc ms : Nat) (av : List Value) (u : Mm) (o : Int32 × Bool × Mm) : Prop := ∀ sz : Nat, Met l y ws rm (PcP D cy L ad u sz av) (QcP D cy L nw ad (va_A (wl cy L ad u) sz) o) mc ms (va_A (wl cy L ad u) sz)
section ALP
variable {p : Program} {l : Launch} {e : Env} {R : Room} {s : State} {m : MethodId} {args : Array Value} {below : List Frame} {meth : Method} {c : Code} {H : Heap} {locs : List Loc} {cells slots : Nat} {Q : State → Prop}
variable {cc bytes : ByteArray} {pc : Nat} {ls : Array Slot} {rest st0 : List Value} {D : va_G} {cy : Nat → ClassId} {L nw : List Nat} {ad : Nat → Nat} {A : Nat → Prop} {H0 : Heap} {u : Mm} {O : Type} {out : O} {mc ms : Nat}
variable {Ts ws : List Cond} {own C : String} {index maxL nL n : Nat} {y : MethodName} {ret : Option FieldType} {rm : Room} {As : List Value}
theorem pcp_blind {sz : Nat} {av : List Value} : FrameBlind (PcP D cy L ad u sz av) := fun a U g mk q => by
  obtain ⟨q0, q1, ⟨qP, qK, qD, qO⟩, qC⟩ := q
  exact ⟨q0, q1, ⟨qP, va_K.moved (u := U) (U := U.calling g mk a) (Vm.Alike.refl U.vm) qK, qD, qO⟩, CN_calling qC⟩
theorem r_vP {o : Int32 × Bool × Mm} (S : CallFix p m c cc nL s args Ts own) {t a N : Nat} {T : u_T} (hM : MtP l y ws rm D cy L nw ad mc ms (.ref (ad a) :: As) u o) (cw : CallW R s args own C index y bytes maxL ret ws rm mc ms n) (hw : Wd D cy L ad A H0 u H locs) (hK : va_K D vwCl (tyv cy) s) (hC : CN s) (ha : vn L t a) (ht : t < 9) (hcl : vwCl[t]? = some (C, T, N)) (hn : As.length = n) (hsize : ls.size = nL) (hstack : st0 = As.reverse ++ .ref (ad a) :: rest) (hW : (rest.map fun v => v.category).sum ≤ 8) (hdg : decode cc pc = .ok (.invokevirtual index, 3)) (hf : cells + mc ≤ R.cells ∧ slots + ms ≤ R.slots) :
    va_Run p l e R s m args below meth c H locs cells slots mc ms (F0 m pc ls st0) rest (QcP D cy L nw ad (va_A (wl cy L ad u) H.size) o (Value.ref (ad a) :: As).toArray) (va_A (wl cy L ad u) H.size) :=
  va_runV (As := As) (rest := rest) S (hM H.size) cw ⟨pcp_blind, rv_of hw hK ha ht hcl, fun U hU hW => ⟨rfl, by rw [hU], ⟨by rw [hU]; exact hw.1, va_K.moved hW.alike hK, hw.2.1.weaken (fun _ _ _ _ => trivial), hw.2.2.2⟩, CN_warm hW hC⟩⟩ rfl hn hsize hstack (lv_room hW) hdg hf
theorem r_bP {f : Option (Int32 × Bool × Mm)} {F : Int32 → Bool × Mm → Option O} {a : Array Value} (hr : ∀ o, f = some o → va_Run p l e R s m args below meth c H locs cells slots mc ms (F0 m pc ls st0) rest (QcP D cy L nw ad (va_A (wl cy L ad u) H.size) o a) (va_A (wl cy L ad u) H.size)) (hw : Wd D cy L ad A H0 u H locs) (hA : ∀ q, H0.size ≤ q → A q) (h : bd f F = some out) (kk : ∀ (x : Int32) (v : Bool × Mm) (ad2 : Nat → Nat) (H : Heap) (locs : List Loc), (∀ c ∈ L, ad2 c = ad c) → Wd D cy (LoX L nw v.1) ad2 A H0 v.2 H locs → F x v = some out → W p l e R s m args below meth c H locs (cells + mc) (slots + ms) Q (F0 m (pc + 3) ls (.int x :: rest))) : W p l e R s m args below meth c H locs cells slots Q (F0 m pc ls st0) := by
  obtain ⟨r, u1, hf, h⟩ := bd_e h
  refine va_calli (hr _ hf) hw.2.2.1 (fun q _ h => wd_free hw hA q h) (wd_free hw hA) (fun x w t H1 locs1 ht hvm hq hB _ _ hS => ?_)
  cases hq
  obtain ⟨ad2, hag, hB⟩ := hB
  exact kk _ w ad2 H1 locs1 hag ⟨ht ▸ hB.1, hB.2.2.1.weaken (fun k q _ h => wd_free hw hA q.1 h), hS, hB.2.2.2⟩ h
theorem p_iret {o : Int32 × Bool × Mm} {v : Int32} {b : Bool} {ad2 : Nat → Nat} (hx : p.tables.exec = Jvm.exec) (hb : c.code = cc) (hr : meth.sig.returnType = some .int) (hlocks : meth.locks = false) (hK : va_K D vwCl (tyv cy) s) (hag : ∀ c ∈ L, ad2 c = ad c) (hw : Wd D cy (LoX L nw b) ad2 A s.heap u H locs) (h : some (v, b, u) = some o) (hc : cells ≤ mc) (hs : slots ≤ ms) (hdg : decode cc pc = .ok (.ireturn, 1)) : W p l e R s m args below meth c H locs cells slots (MQ below (QcP D cy L nw ad A o) args s mc ms A) (F0 m pc ls [.int v]) :=
  W.widen hc hs (W.iret (v := v) hx hb hr (fun t ht hW => ⟨⟨v, (b, u), rfl, Option.some.inj h, ad2, hag, by rw [ht]; exact hw.1, va_K.moved hW.alike hK, hw.2.1, hw.2.2.2⟩, hw.2.2.1.F ht⟩) hw.2.2.1.2.2 hdg hlocks)
theorem r_kast (hx : p.tables.exec = Jvm.exec) (hb : c.code = cc) (hK : va_K D vwCl (tyv cy) s) {a n : Nat} (hw : Wd D cy L ad A H0 u H locs) (ha : vn L 11 a) (hn : ln a = n) {x : Int32} {v : Nat} (hv : vn L 2 v) (hdg : decode cc pc = .ok (.aastore, 1)) {F : Mm → Option O} (h : ck (bI x n) (pt (sR u a (ix x) (some v)) F) = some out) (kk : ∀ (u : Mm) (H : Heap) (locs : List Loc), Wd D cy L ad A H0 u H locs → F u = some out → W p l e R s m args below meth c H locs cells slots Q (F0 m (pc + 1) ls rest)) : W p l e R s m args below meth c H locs cells slots Q (F0 m pc ls (.ref (ad v) :: .int x :: .ref (ad a) :: rest)) := by
  subst hn
  obtain ⟨hi1, h⟩ := ck_e h
  obtain ⟨i, hi⟩ := List.getElem?_of_mem ha.1
  have e1 : (wl cy L ad u).set i (ad a, .inl (cy 2, ln a, .inr (.inr (.inr (.inr (va_up (fun k => (u.2 a k).map ad) x.toNatClampNeg (some (ad v)))))))) = wl cy L ad (sR u a (ix x) (some v)) := wl_set hw.2.1 hi (by rw [en_11 ha.2, ← sR_row]; rfl) (fun d h => sR_ne h)
  have hok : Ok L (sR u a (ix x) (some v)) := Ok_sR (t := 2) hw.2.2.2 (cst_arr ha.2 (by decide)) (by rw [ha.2]; rfl) (fun b q => by cases q; exact hv)
  obtain ⟨j, hj⟩ := List.getElem?_of_mem hv.1
  have he : (wl cy L ad u)[j]? = some (ad v, .inr (2, fso ad u 2 v)) := by rw [wl_of hj, en_o hv.2 (by decide)]
  refine va_astq hx hb hK hw.1 hw.2.1 hw.2.2.1 i 2 j 2 (r := (RX2, TX2, 4)) ((arr_at hw ha hi).2.2.1 rfl) rfl he rfl (bI_in hi1) hdg (fun H1 locs1 hP hD hS => ?_)
  rw [e1] at hP hD
  exact kk _ H1 locs1 ⟨hP, hD, hS, hok⟩ h
end ALP

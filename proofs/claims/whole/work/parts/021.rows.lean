section MRW
variable {p : Program} {l : Launch} {e : Env} {R : Room} {s : State} {m : MethodId} {args : Array Value} {below : List Frame} {meth : Method} {c : Code} {H : Heap} {locs : List Loc} {cells slots : Nat} {Q : State → Prop}
variable {cc : ByteArray} {pc : Nat} {ls : Array Slot} {rest : List Value} {D : va_G} {cy : Nat → ClassId} {L : List Nat} {ad : Nat → Nat} {A : Nat → Prop} {H0 : Heap} {u : Mm} {O : Type} {out : O}
theorem r_getI (hx : p.tables.exec = Jvm.exec) (hb : c.code = cc) {own ref C : String} {T : u_T} {N t index a : Nat} {Ts : List Cond} (hts : ∀ w ∈ Ts, w.before args s = true) (hin : ∀ w ∈ u_ws C T N, w ∈ Ts) (hown : s.vm.findClass own = some m.cls) (hK : va_K D vwCl (tyv cy) s) (hw : Wd D cy L ad A H0 u H locs) (ha : vn L t a) (ht : t < 9) (hcl : vwCl[t]? = some (C, T, N)) (k : Nat) (hk : k < N) (hr : rs t k = 0) (hlink : (Cond.fieldLink own index ref (T k).2.1 (T k).2.2.1).before args s = true) (hsame : ∀ x, s.fieldFound? (T k).1 (T k).2.1 (T k).2.2.1 = some x → s.fieldFound? ref (T k).2.1 (T k).2.2.1 = some x) (hdg : decode cc pc = .ok (.getfield index, 3))
    {F : Int32 → Option O} (h : pt (u.1 a k) F = some out) (kk : ∀ x : Int32, F x = some out → W p l e R s m args below meth c H locs cells slots Q (F0 m (pc + 3) ls (.int x :: rest))) : W p l e R s m args below meth c H locs cells slots Q (F0 m pc ls (.ref (ad a) :: rest)) := by
  obtain ⟨i, hi⟩ := List.getElem?_of_mem ha.1
  have he : (wl cy L ad u)[i]? = some (ad a, .inr (t, fso ad u t a)) := by rw [wl_of hi, en_o ha.2 ht]
  exact va_get hx hb hts hin hown hK hw.1 i he hcl k hk hlink hsame (v := .int (u.1 a k)) (by rw [fso_get hcl hk, if_pos hr]) hdg (kk _ h)
theorem r_getC (hx : p.tables.exec = Jvm.exec) (hb : c.code = cc) {own ref C : String} {T : u_T} {N t t2 index a d : Nat} {Ts : List Cond} (hts : ∀ w ∈ Ts, w.before args s = true) (hin : ∀ w ∈ u_ws C T N, w ∈ Ts) (hown : s.vm.findClass own = some m.cls) (hK : va_K D vwCl (tyv cy) s) (hw : Wd D cy L ad A H0 u H locs) (ha : vn L t a) (ht : t < 9) (hcl : vwCl[t]? = some (C, T, N)) (k : Nat) (hk : k < N) (hr : rs t k = t2 + 1) (hc : cst a k = some d) (hlink : (Cond.fieldLink own index ref (T k).2.1 (T k).2.2.1).before args s = true) (hsame : ∀ x, s.fieldFound? (T k).1 (T k).2.1 (T k).2.2.1 = some x → s.fieldFound? ref (T k).2.1 (T k).2.2.1 = some x) (hdg : decode cc pc = .ok (.getfield index, 3))
    (kk : vn L t2 d → W p l e R s m args below meth c H locs cells slots Q (F0 m (pc + 3) ls (.ref (ad d) :: rest))) : W p l e R s m args below meth c H locs cells slots Q (F0 m pc ls (.ref (ad a) :: rest)) := by
  obtain ⟨i, hi⟩ := List.getElem?_of_mem ha.1
  have he : (wl cy L ad u)[i]? = some (ad a, .inr (t, fso ad u t a)) := by rw [wl_of hi, en_o ha.2 ht]
  have hd := Ok_cst hw.2.2.2 ha.1 hc
  have hv := Ok_get hw.2.2.2 ha.1 (by rw [ha.2]; exact hr) d hd
  exact va_get hx hb hts hin hown hK hw.1 i he hcl k hk hlink hsame (v := .ref (ad d)) (by rw [fso_get hcl hk, if_neg (by omega), hd]; rfl) hdg (kk hv)
theorem r_getR (hx : p.tables.exec = Jvm.exec) (hb : c.code = cc) {own ref C : String} {T : u_T} {N t t2 index a : Nat} {Ts : List Cond} (hts : ∀ w ∈ Ts, w.before args s = true) (hin : ∀ w ∈ u_ws C T N, w ∈ Ts) (hown : s.vm.findClass own = some m.cls) (hK : va_K D vwCl (tyv cy) s) (hw : Wd D cy L ad A H0 u H locs) (ha : vn L t a) (ht : t < 9) (hcl : vwCl[t]? = some (C, T, N)) (k : Nat) (hk : k < N) (hr : rs t k = t2 + 1) (hlink : (Cond.fieldLink own index ref (T k).2.1 (T k).2.2.1).before args s = true) (hsame : ∀ x, s.fieldFound? (T k).1 (T k).2.1 (T k).2.2.1 = some x → s.fieldFound? ref (T k).2.1 (T k).2.2.1 = some x) (hdg : decode cc pc = .ok (.getfield index, 3))
    {F : Option Nat → Option O} (h : pt (u.2 a k) F = some out) (kk : ∀ x : Option Nat, vr L t2 x → F x = some out → W p l e R s m args below meth c H locs cells slots Q (F0 m (pc + 3) ls (va_re ad x :: rest))) : W p l e R s m args below meth c H locs cells slots Q (F0 m pc ls (.ref (ad a) :: rest)) := by
  obtain ⟨i, hi⟩ := List.getElem?_of_mem ha.1
  have he : (wl cy L ad u)[i]? = some (ad a, .inr (t, fso ad u t a)) := by rw [wl_of hi, en_o ha.2 ht]
  have hv := Ok_get hw.2.2.2 ha.1 (by rw [ha.2]; exact hr)
  exact va_get hx hb hts hin hown hK hw.1 i he hcl k hk hlink hsame (v := va_re ad (u.2 a k)) (by rw [fso_get hcl hk, if_neg (by omega)]) hdg (kk _ hv h)
theorem r_putI (hx : p.tables.exec = Jvm.exec) (hb : c.code = cc) {own ref C : String} {T : u_T} {N t index a : Nat} {Ts : List Cond} (hts : ∀ w ∈ Ts, w.before args s = true) (hin : ∀ w ∈ u_ws C T N, w ∈ Ts) (ty0 : Nat → FieldType) (hty : ∀ k, k < N → parseFieldDescriptor (T k).2.2.1 = some (ty0 k)) (hnm : ∀ a, a < N → ∀ b, b < N → a ≠ b → (T a).2.1 ≠ (T b).2.1) (hown : s.vm.findClass own = some m.cls) (hK : va_K D vwCl (tyv cy) s) (hw : Wd D cy L ad A H0 u H locs) (ha : vn L t a) (ht : t < 9) (hcl : vwCl[t]? = some (C, T, N)) (k : Nat) (hk : k < N) (hr : rs t k = 0) (hlink : (Cond.fieldLink own index ref (T k).2.1 (T k).2.2.1).before args s = true) (hsame : ∀ x, s.fieldFound? (T k).1 (T k).2.1 (T k).2.2.1 = some x → s.fieldFound? ref (T k).2.1 (T k).2.2.1 = some x) (hfin : (T k).2.2.2 = false) {ty : FieldType} {v : Int32} (hd : ty0 k = ty) (hn : narrow ty (.int v) = .int v) (hfit : fits ty (.int v) = true) (hdg : decode cc pc = .ok (.putfield index, 3))
    {F : Mm → Option O} (h : pt (sI u a k v) F = some out) (kk : ∀ (u : Mm) (H : Heap) (locs : List Loc), Wd D cy L ad A H0 u H locs → F u = some out → W p l e R s m args below meth c H locs cells slots Q (F0 m (pc + 3) ls rest)) : W p l e R s m args below meth c H locs cells slots Q (F0 m pc ls (.int v :: .ref (ad a) :: rest)) := by
  obtain ⟨i, hi⟩ := List.getElem?_of_mem ha.1
  have he : (wl cy L ad u)[i]? = some (ad a, .inr (t, fso ad u t a)) := by rw [wl_of hi, en_o ha.2 ht]
  refine va_put hx hb hts hin ty0 hty hnm hown hK hw.1 hw.2.1 hw.2.2.1 i he hcl k hk hlink hsame hfin (ty := ty) (v := .int v) (by rw [hty k hk, hd]) hn hfit (by rw [fso_len hcl]; exact hk) hdg (fun H1 locs1 hP hD hS => ?_)
  have e1 : (wl cy L ad u).set i (ad a, .inr (t, (fso ad u t a).set k (.int v))) = wl cy L ad (sI u a k v) := wl_set hw.2.1 hi (by rw [en_o ha.2 ht, sI_fso hcl hk hr]) (fun d h => sI_ne h)
  rw [e1] at hP hD
  exact kk _ H1 locs1 ⟨hP, hD, hS, hw.2.2.2⟩ h
theorem arr_at {t a i : Nat} (hw : Wd D cy L ad A H0 u H locs) (ha : vn L t a) (hi : L[i]? = some a) : (t = 9 → (wl cy L ad u)[i]? = some (ad a, .inl (cy 0, ln a, .inl (u.1 a)))) ∧ (t = 10 → (wl cy L ad u)[i]? = some (ad a, .inl (cy 1, ln a, .inl (u.1 a)))) ∧ (t = 11 → (wl cy L ad u)[i]? = some (ad a, .inl (cy 2, ln a, .inr (.inr (.inr (.inr (fun k => (u.2 a k).map ad))))))) ∧ (t = 12 → (wl cy L ad u)[i]? = some (ad a, .inl (cy 3, ln a, .inr (.inr (.inr (.inr (fun k => (u.2 a k).map ad))))))) := by
  refine ⟨fun h => ?_, fun h => ?_, fun h => ?_, fun h => ?_⟩
  · rw [wl_of hi, en_9 (by rw [ha.2, h])]
  · rw [wl_of hi, en_10 (by rw [ha.2, h])]
  · rw [wl_of hi, en_11 (by rw [ha.2, h])]
  · rw [wl_of hi, en_12 (by rw [ha.2, h])]
theorem r_alen (hx : p.tables.exec = Jvm.exec) (hb : c.code = cc) (hK : va_K D vwCl (tyv cy) s) {t a n : Nat} (hw : Wd D cy L ad A H0 u H locs) (ha : vn L t a) (ht : 9 ≤ t ∧ t < 13) (hn : ln a = n) {v : Int32} (hv : Int32.ofNat n = v) (hdg : decode cc pc = .ok (.arraylength, 1)) (kk : W p l e R s m args below meth c H locs cells slots Q (F0 m (pc + 1) ls (.int v :: rest))) : W p l e R s m args below meth c H locs cells slots Q (F0 m pc ls (.ref (ad a) :: rest)) := by
  subst hn
  obtain ⟨i, hi⟩ := List.getElem?_of_mem ha.1
  obtain ⟨h9, h10, h11, h12⟩ := arr_at hw ha hi
  rcases (show t = 9 ∨ t = 10 ∨ t = 11 ∨ t = 12 by omega) with q | q | q | q
  · exact va_alen hx hb hK hw.1 i 0 (h9 q) rfl hv hdg kk
  · exact va_alen hx hb hK hw.1 i 1 (h10 q) rfl hv hdg kk
  · exact va_alen hx hb hK hw.1 i 2 (h11 q) rfl hv hdg kk
  · exact va_alen hx hb hK hw.1 i 3 (h12 q) rfl hv hdg kk
theorem r_iald (hx : p.tables.exec = Jvm.exec) (hb : c.code = cc) (hK : va_K D vwCl (tyv cy) s) {a n : Nat} (hw : Wd D cy L ad A H0 u H locs) (ha : vn L 9 a) (hn : ln a = n) {x : Int32} (hdg : decode cc pc = .ok (.iaload, 1)) {F : Int32 → Option O} (h : ck (bI x n) (pt (u.1 a (ix x)) F) = some out) (kk : ∀ y : Int32, F y = some out → W p l e R s m args below meth c H locs cells slots Q (F0 m (pc + 1) ls (.int y :: rest))) : W p l e R s m args below meth c H locs cells slots Q (F0 m pc ls (.int x :: .ref (ad a) :: rest)) := by
  subst hn
  obtain ⟨hi1, h⟩ := ck_e h
  obtain ⟨i, hi⟩ := List.getElem?_of_mem ha.1
  exact va_iald hx hb hK hw.1 i 0 ((arr_at hw ha hi).1 rfl) rfl (bI_in hi1) hdg (kk _ h)
theorem r_zald (hx : p.tables.exec = Jvm.exec) (hb : c.code = cc) (hK : va_K D vwCl (tyv cy) s) {a n : Nat} (hw : Wd D cy L ad A H0 u H locs) (ha : vn L 10 a) (hn : ln a = n) {x : Int32} (hdg : decode cc pc = .ok (.baload, 1)) {F : Int32 → Option O} (h : ck (bI x n) (pt (u.1 a (ix x)) F) = some out) (kk : ∀ y : Int32, F y = some out → W p l e R s m args below meth c H locs cells slots Q (F0 m (pc + 1) ls (.int y :: rest))) : W p l e R s m args below meth c H locs cells slots Q (F0 m pc ls (.int x :: .ref (ad a) :: rest)) := by
  subst hn
  obtain ⟨hi1, h⟩ := ck_e h
  obtain ⟨i, hi⟩ := List.getElem?_of_mem ha.1
  exact va_zald hx hb hK hw.1 i 1 ((arr_at hw ha hi).2.1 rfl) rfl (bI_in hi1) hdg (kk _ h)
theorem r_kald (hx : p.tables.exec = Jvm.exec) (hb : c.code = cc) (hK : va_K D vwCl (tyv cy) s) {a n : Nat} (hw : Wd D cy L ad A H0 u H locs) (ha : vn L 11 a) (hn : ln a = n) {x : Int32} (hdg : decode cc pc = .ok (.aaload, 1)) {F : Option Nat → Option O} (h : ck (bI x n) (pt (u.2 a (ix x)) F) = some out) (kk : ∀ y : Option Nat, vr L 2 y → F y = some out → W p l e R s m args below meth c H locs cells slots Q (F0 m (pc + 1) ls (va_re ad y :: rest))) : W p l e R s m args below meth c H locs cells slots Q (F0 m pc ls (.int x :: .ref (ad a) :: rest)) := by
  subst hn
  obtain ⟨hi1, h⟩ := ck_e h
  obtain ⟨i, hi⟩ := List.getElem?_of_mem ha.1
  exact va_aldq hx hb hK hw.1 i 2 ((arr_at hw ha hi).2.2.1 rfl) rfl (bI_in hi1) hdg (kk _ (Ok_get hw.2.2.2 ha.1 (by rw [ha.2]; rfl)) h)
theorem r_tald (hx : p.tables.exec = Jvm.exec) (hb : c.code = cc) (hK : va_K D vwCl (tyv cy) s) {a n : Nat} (hw : Wd D cy L ad A H0 u H locs) (ha : vn L 12 a) (hn : ln a = n) {x : Int32} (hdg : decode cc pc = .ok (.aaload, 1)) {F : Option Nat → Option O} (h : ck (bI x n) (pt (u.2 a (ix x)) F) = some out) (kk : ∀ y : Option Nat, vr L 5 y → F y = some out → W p l e R s m args below meth c H locs cells slots Q (F0 m (pc + 1) ls (va_re ad y :: rest))) : W p l e R s m args below meth c H locs cells slots Q (F0 m pc ls (.int x :: .ref (ad a) :: rest)) := by
  subst hn
  obtain ⟨hi1, h⟩ := ck_e h
  obtain ⟨i, hi⟩ := List.getElem?_of_mem ha.1
  exact va_aldq hx hb hK hw.1 i 3 ((arr_at hw ha hi).2.2.2 rfl) rfl (bI_in hi1) hdg (kk _ (Ok_get hw.2.2.2 ha.1 (by rw [ha.2]; rfl)) h)
theorem sI_row {a : Nat} {x v : Int32} : upd (u.1 a) (ix x) v = (sI u a (ix x) v).1 a := by
  funext j
  by_cases hj : j = ix x
  · subst hj
    simp [upd, sI]
  · simp [upd, sI, hj]
theorem sR_row {a : Nat} {x : Int32} {v : Option Nat} : va_up (fun k => (u.2 a k).map ad) (ix x) (v.map ad) = fun k => ((sR u a (ix x) v).2 a k).map ad := by
  funext j
  by_cases hj : j = ix x
  · subst hj
    simp [va_up, sR]
  · simp [va_up, sR, hj]
theorem r_iast (hx : p.tables.exec = Jvm.exec) (hb : c.code = cc) (hK : va_K D vwCl (tyv cy) s) {a n : Nat} (hw : Wd D cy L ad A H0 u H locs) (ha : vn L 9 a) (hn : ln a = n) {x v : Int32} (hdg : decode cc pc = .ok (.iastore, 1)) {F : Mm → Option O} (h : ck (bI x n) (pt (sI u a (ix x) v) F) = some out) (kk : ∀ (u : Mm) (H : Heap) (locs : List Loc), Wd D cy L ad A H0 u H locs → F u = some out → W p l e R s m args below meth c H locs cells slots Q (F0 m (pc + 1) ls rest)) : W p l e R s m args below meth c H locs cells slots Q (F0 m pc ls (.int v :: .int x :: .ref (ad a) :: rest)) := by
  subst hn
  obtain ⟨hi1, h⟩ := ck_e h
  obtain ⟨i, hi⟩ := List.getElem?_of_mem ha.1
  refine va_iast hx hb hK hw.1 hw.2.1 hw.2.2.1 i 0 ((arr_at hw ha hi).1 rfl) rfl (bI_in hi1) hdg (fun H1 locs1 hP hD hS => ?_)
  have e1 : (wl cy L ad u).set i (ad a, .inl (cy 0, ln a, .inl (upd (u.1 a) x.toNatClampNeg v))) = wl cy L ad (sI u a (ix x) v) := wl_set hw.2.1 hi (by rw [en_9 ha.2, ← sI_row]; rfl) (fun d h => sI_ne h)
  rw [e1] at hP hD
  exact kk _ H1 locs1 ⟨hP, hD, hS, hw.2.2.2⟩ h
theorem r_zast (hx : p.tables.exec = Jvm.exec) (hb : c.code = cc) (hK : va_K D vwCl (tyv cy) s) {a n : Nat} (hw : Wd D cy L ad A H0 u H locs) (ha : vn L 10 a) (hn : ln a = n) {x v : Int32} (hdg : decode cc pc = .ok (.bastore, 1)) {F : Mm → Option O} (h : ck (bI x n) (pt (sI u a (ix x) (vp_nar .boolean v)) F) = some out) (kk : ∀ (u : Mm) (H : Heap) (locs : List Loc), Wd D cy L ad A H0 u H locs → F u = some out → W p l e R s m args below meth c H locs cells slots Q (F0 m (pc + 1) ls rest)) : W p l e R s m args below meth c H locs cells slots Q (F0 m pc ls (.int v :: .int x :: .ref (ad a) :: rest)) := by
  subst hn
  obtain ⟨hi1, h⟩ := ck_e h
  obtain ⟨i, hi⟩ := List.getElem?_of_mem ha.1
  refine va_zast hx hb hK hw.1 hw.2.1 hw.2.2.1 i 1 ((arr_at hw ha hi).2.1 rfl) rfl (bI_in hi1) hdg (fun H1 locs1 hP hD hS => ?_)
  have e1 : (wl cy L ad u).set i (ad a, .inl (cy 1, ln a, .inl (upd (u.1 a) x.toNatClampNeg (vp_nar .boolean v)))) = wl cy L ad (sI u a (ix x) (vp_nar .boolean v)) := wl_set hw.2.1 hi (by rw [en_10 ha.2, ← sI_row]; rfl) (fun d h => sI_ne h)
  rw [e1] at hP hD
  exact kk _ H1 locs1 ⟨hP, hD, hS, hw.2.2.2⟩ h
theorem cst_arr {a k t : Nat} (h : tg a = t) (ht : 9 ≤ t) : cst a k = none := by
  unfold cst
  rw [h]
  split <;> first | rfl | omega
theorem r_tast (hx : p.tables.exec = Jvm.exec) (hb : c.code = cc) (hK : va_K D vwCl (tyv cy) s) {a n : Nat} (hw : Wd D cy L ad A H0 u H locs) (ha : vn L 12 a) (hn : ln a = n) {x : Int32} {v : Option Nat} (hv : vr L 5 v) (hdg : decode cc pc = .ok (.aastore, 1)) {F : Mm → Option O} (h : ck (bI x n) (pt (sR u a (ix x) v) F) = some out) (kk : ∀ (u : Mm) (H : Heap) (locs : List Loc), Wd D cy L ad A H0 u H locs → F u = some out → W p l e R s m args below meth c H locs cells slots Q (F0 m (pc + 1) ls rest)) : W p l e R s m args below meth c H locs cells slots Q (F0 m pc ls (va_re ad v :: .int x :: .ref (ad a) :: rest)) := by
  subst hn
  obtain ⟨hi1, h⟩ := ck_e h
  obtain ⟨i, hi⟩ := List.getElem?_of_mem ha.1
  have e1 : (wl cy L ad u).set i (ad a, .inl (cy 3, ln a, .inr (.inr (.inr (.inr (va_up (fun k => (u.2 a k).map ad) x.toNatClampNeg (v.map ad))))))) = wl cy L ad (sR u a (ix x) v) := wl_set hw.2.1 hi (by rw [en_12 ha.2, ← sR_row]; rfl) (fun d h => sR_ne h)
  have hok : Ok L (sR u a (ix x) v) := Ok_sR (t := 5) hw.2.2.2 (cst_arr ha.2 (by decide)) (by rw [ha.2]; rfl) hv
  cases v with
  | none =>
    refine va_astqN hx hb hK hw.1 hw.2.1 hw.2.2.1 i 3 ((arr_at hw ha hi).2.2.2 rfl) rfl (bI_in hi1) hdg (fun H1 locs1 hP hD hS => ?_)
    have hP : va_P D vwCl ((wl cy L ad u).set i (ad a, .inl (cy 3, ln a, .inr (.inr (.inr (.inr (va_up (fun k => (u.2 a k).map ad) x.toNatClampNeg ((none : Option Nat).map ad)))))))) H1 := hP
    have hD : va_D A ((wl cy L ad u).set i (ad a, .inl (cy 3, ln a, .inr (.inr (.inr (.inr (va_up (fun k => (u.2 a k).map ad) x.toNatClampNeg ((none : Option Nat).map ad)))))))) := hD
    rw [e1] at hP hD
    exact kk _ H1 locs1 ⟨hP, hD, hS, hok⟩ h
  | some v =>
    have hvv := hv v rfl
    obtain ⟨j, hj⟩ := List.getElem?_of_mem hvv.1
    have he : (wl cy L ad u)[j]? = some (ad v, .inr (5, fso ad u 5 v)) := by rw [wl_of hj, en_o hvv.2 (by decide)]
    refine va_astq hx hb hK hw.1 hw.2.1 hw.2.2.1 i 3 j 5 (r := (RX5, TX5, 11)) ((arr_at hw ha hi).2.2.2 rfl) rfl he rfl (bI_in hi1) hdg (fun H1 locs1 hP hD hS => ?_)
    have hP : va_P D vwCl ((wl cy L ad u).set i (ad a, .inl (cy 3, ln a, .inr (.inr (.inr (.inr (va_up (fun k => (u.2 a k).map ad) x.toNatClampNeg ((some v : Option Nat).map ad)))))))) H1 := hP
    have hD : va_D A ((wl cy L ad u).set i (ad a, .inl (cy 3, ln a, .inr (.inr (.inr (.inr (va_up (fun k => (u.2 a k).map ad) x.toNatClampNeg ((some v : Option Nat).map ad)))))))) := hD
    rw [e1] at hP hD
    exact kk _ H1 locs1 ⟨hP, hD, hS, hok⟩ h
theorem r_aloadn (hx : p.tables.exec = Jvm.exec) (hb : c.code = cc) {k : Fin 4} {i : Nat} {v : Option Nat} (hdg : decode cc pc = .ok (.aload_n k, 1)) (hi : (k : Nat) = i) (hl : ls[i]? = some (.val (va_re ad v))) (kk : W p l e R s m args below meth c H locs cells slots Q (F0 m (pc + 1) ls (va_re ad v :: rest))) : W p l e R s m args below meth c H locs cells slots Q (F0 m pc ls rest) := by
  cases v with
  | none => exact lv_aload_nN hx hb hdg hi hl kk
  | some v => exact lv_aload_n hx hb hdg hi hl kk
theorem r_aload (hx : p.tables.exec = Jvm.exec) (hb : c.code = cc) {i : Nat} {v : Option Nat} (hdg : decode cc pc = .ok (.aload i, 2)) (hl : ls[i]? = some (.val (va_re ad v))) (kk : W p l e R s m args below meth c H locs cells slots Q (F0 m (pc + 2) ls (va_re ad v :: rest))) : W p l e R s m args below meth c H locs cells slots Q (F0 m pc ls rest) := by
  cases v with
  | none => exact lv_aloadN hx hb hdg hl kk
  | some v => exact lv_aload hx hb hdg hl kk
theorem r_astoren (hx : p.tables.exec = Jvm.exec) (hb : c.code = cc) {k : Fin 4} {i nL : Nat} {v : Option Nat} {lv lv' : List (Nat × Value)} (hdg : decode cc pc = .ok (.astore_n k, 1)) (hi : (k : Nat) = i) (hl : lv_has ls nL lv) (hn : i < nL) (he : (i, va_re ad v) :: lv.filter (fun q => !(q.1 == i) && !(q.1 + 1 == i && q.2.category == 2)) = lv') (kk : ∀ ls' : Array Slot, lv_has ls' nL lv' → W p l e R s m args below meth c H locs cells slots Q (F0 m (pc + 1) ls' rest)) : W p l e R s m args below meth c H locs cells slots Q (F0 m pc ls (va_re ad v :: rest)) := by
  cases v with
  | none => exact lv_astore_nN hx hb hdg hi hl hn he kk
  | some v => exact lv_astore_n hx hb hdg hi hl hn he kk
theorem r_astore (hx : p.tables.exec = Jvm.exec) (hb : c.code = cc) {i nL : Nat} {v : Option Nat} {lv lv' : List (Nat × Value)} (hdg : decode cc pc = .ok (.astore i, 2)) (hl : lv_has ls nL lv) (hn : i < nL) (he : (i, va_re ad v) :: lv.filter (fun q => !(q.1 == i) && !(q.1 + 1 == i && q.2.category == 2)) = lv') (kk : ∀ ls' : Array Slot, lv_has ls' nL lv' → W p l e R s m args below meth c H locs cells slots Q (F0 m (pc + 2) ls' rest)) : W p l e R s m args below meth c H locs cells slots Q (F0 m pc ls (va_re ad v :: rest)) := by
  cases v with
  | none => exact lv_astoreN hx hb hdg hl hn he kk
  | some v => exact lv_astore hx hb hdg hl hn he kk
theorem r_ifnull (hx : p.tables.exec = Jvm.exec) (hb : c.code = cc) {off : Int} {tgt t : Nat} {v : Option Nat} (hv : vr L t v) (hdg : decode cc pc = .ok (.ifnull off, 3)) (ht : (pc : Int) + off = (tgt : Int)) {X : Option O} {Y : Nat → Option O} (h : nl v X Y = some out) (k0 : v = none → X = some out → W p l e R s m args below meth c H locs cells slots Q (F0 m tgt ls rest)) (k1 : ∀ a, v = some a → vn L t a → Y a = some out → W p l e R s m args below meth c H locs cells slots Q (F0 m (pc + 3) ls rest)) : W p l e R s m args below meth c H locs cells slots Q (F0 m pc ls (va_re ad v :: rest)) := by
  cases v with
  | none => exact lv_ifnullN hx hb hdg ht (k0 rfl h)
  | some v => exact lv_ifnull hx hb hdg (k1 v rfl (hv v rfl) h)
theorem r_ifnonnull (hx : p.tables.exec = Jvm.exec) (hb : c.code = cc) {off : Int} {tgt t : Nat} {v : Option Nat} (hv : vr L t v) (hdg : decode cc pc = .ok (.ifnonnull off, 3)) (ht : (pc : Int) + off = (tgt : Int)) {X : Option O} {Y : Nat → Option O} (h : nl v X Y = some out) (k0 : v = none → X = some out → W p l e R s m args below meth c H locs cells slots Q (F0 m (pc + 3) ls rest)) (k1 : ∀ a, v = some a → vn L t a → Y a = some out → W p l e R s m args below meth c H locs cells slots Q (F0 m tgt ls rest)) : W p l e R s m args below meth c H locs cells slots Q (F0 m pc ls (va_re ad v :: rest)) := by
  cases v with
  | none => exact lv_ifnonnullN hx hb hdg (k0 rfl h)
  | some v => exact lv_ifnonnull hx hb hdg ht (k1 v rfl (hv v rfl) h)
theorem r_nn {t : Nat} {v : Option Nat} (hv : vr L t v) {Y : Nat → Option O} (h : nl v none Y = some out) {P : Prop} (kk : ∀ a, v = some a → vn L t a → Y a = some out → P) : P := by
  cases v with
  | none => cases h
  | some v => exact kk v rfl (hv v rfl) h
theorem r_acmpne (hx : p.tables.exec = Jvm.exec) (hb : c.code = cc) {off : Int} {tgt t : Nat} {v w : Option Nat} (hw : Wd D cy L ad A H0 u H locs) (hv : vr L t v) (hv2 : vr L t w) (hdg : decode cc pc = .ok (.if_acmp .ne off, 3)) (ht : (pc : Int) + off = (tgt : Int)) (kt : ¬ v = w → W p l e R s m args below meth c H locs cells slots Q (F0 m tgt ls rest)) (kf : v = w → W p l e R s m args below meth c H locs cells slots Q (F0 m (pc + 3) ls rest)) : W p l e R s m args below meth c H locs cells slots Q (F0 m pc ls (va_re ad w :: va_re ad v :: rest)) := by
  have e1 : v.map ad = w.map ad ↔ v = w := by
    constructor
    · intro h
      cases v with
      | none => cases w with
        | none => rfl
        | some w => cases h
      | some v => cases w with
        | none => cases h
        | some w => rw [wl_inj hw.2.1 (hv v rfl).1 (hv2 w rfl).1 (Option.some.inj h)]
    · intro h
      rw [h]
  exact lv_acmp_ne hx hb (rx := v.map ad) (ry := w.map ad) hdg ht (fun q => kt (fun z => q (e1.mpr z))) (fun q => kf (e1.mp q))
end MRW

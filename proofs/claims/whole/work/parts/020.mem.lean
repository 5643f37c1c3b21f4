abbrev Mm : Type := (Nat → Nat → Int32) × (Nat → Nat → Option Nat)
def sI (u : Mm) (c k : Nat) (v : Int32) : Mm := (fun a b => if a = c ∧ b = k then v else u.1 a b, u.2)
def sR (u : Mm) (c k : Nat) (v : Option Nat) : Mm := (u.1, fun a b => if a = c ∧ b = k then v else u.2 a b)
def tgl : List Nat := [8, 9, 9, 10, 9, 9, 9, 9, 9, 10, 10, 10, 9, 9, 9, 99, 9, 99, 9, 9, 99, 99, 99, 99, 99, 9, 9, 99, 9, 99, 9, 99, 99, 99, 99, 99, 99, 99, 99, 99, 7, 11, 4, 12, 9, 12, 6, 12, 1, 3, 12, 3, 12, 3, 12, 0, 3, 12, 3, 12, 2, 2, 2, 2, 2, 2, 2, 2, 2, 2]
def tg (c : Nat) : Nat := if c < 70 then tgl.getD c 99 else if c % 4 = 0 then 5 else if c % 4 = 1 then 12 else 2
def lnl : List Nat := [0, 10, 10, 10, 80, 80, 80, 80, 80, 80, 80, 80, 480, 400, 80, 0, 80, 0, 20, 100, 0, 0, 0, 0, 0, 80, 80, 0, 80, 0, 80, 0, 0, 0, 0, 0, 0, 0, 0, 0, 0, 10, 0, 80, 100, 20, 0, 400, 0, 0, 80, 0, 80, 0, 80, 0, 0, 80, 0, 80, 0, 0, 0, 0, 0, 0, 0, 0, 0, 0]
def ln (c : Nat) : Nat := if c < 70 then lnl.getD c 0 else 6
def rs (t k : Nat) : Nat := match t with
  | 0 => [5, 2, 4, 4].getD k 0
  | 1 => [5, 4, 4, 4].getD k 0
  | 3 => [13].getD k 0
  | 4 => [13, 10, 13, 7].getD k 0
  | 5 => [0, 3, 13].getD k 0
  | 6 => [13].getD k 0
  | 7 => [12, 5, 2, 1].getD k 0
  | 8 => [0, 10, 10, 11, 10, 10, 10, 10, 10, 11, 11, 11, 10, 10, 10, 0, 10, 0, 10, 10, 0, 0, 0, 0, 0, 10, 10, 0, 10, 0, 10].getD k 0
  | 11 => 3
  | 12 => 6
  | _ => 0
def cst (c k : Nat) : Option Nat := match tg c with
  | 0 => [42, 48, 56, 58][k]?
  | 1 => [42, 49, 51, 53][k]?
  | 3 => if k = 0 then some (c + 1) else none
  | 4 => [43, 44, 45, 46][k]?
  | 5 => if k = 2 then some (c + 1) else none
  | 6 => if k = 0 then some 47 else none
  | 7 => [41, 42, 48, 55][k]?
  | 8 => if rs 8 k = 0 then none else some k
  | _ => none
def nf (t : Nat) : Nat := match vwCl[t]? with
  | some q => q.2.2
  | none => 0
def vn (L : List Nat) (t a : Nat) : Prop := a ∈ L ∧ tg a = t
def vr (L : List Nat) (t : Nat) (r : Option Nat) : Prop := ∀ a, r = some a → vn L t a
def Ok (L : List Nat) (u : Mm) : Prop := ∀ c ∈ L, ∀ k, (∀ d, cst c k = some d → u.2 c k = some d) ∧ (rs (tg c) k ≠ 0 → ∀ d, u.2 c k = some d → d ∈ L ∧ tg d + 1 = rs (tg c) k)
def fso (ad : Nat → Nat) (u : Mm) (t c : Nat) : List Value := (List.range (nf t)).map (fun k => if rs t k = 0 then .int (u.1 c k) else va_re ad (u.2 c k))
def en (cy : Nat → ClassId) (ad : Nat → Nat) (u : Mm) (c : Nat) : va_E :=
  if tg c = 9 then .inl (cy 0, ln c, .inl (u.1 c))
  else if tg c = 10 then .inl (cy 1, ln c, .inl (u.1 c))
  else if tg c = 11 then .inl (cy 2, ln c, .inr (.inr (.inr (.inr (fun k => (u.2 c k).map ad)))))
  else if tg c = 12 then .inl (cy 3, ln c, .inr (.inr (.inr (.inr (fun k => (u.2 c k).map ad)))))
  else .inr (tg c, fso ad u (tg c) c)
def wl (cy : Nat → ClassId) (L : List Nat) (ad : Nat → Nat) (u : Mm) : va_W := L.map (fun c => (ad c, en cy ad u c))
def tyv (cy : Nat → ClassId) : List (ClassId × FieldType) := [(cy 0, .int), (cy 1, .boolean), (cy 2, .object RX2), (cy 3, .object RX5)]
def Wd (D : va_G) (cy : Nat → ClassId) (L : List Nat) (ad : Nat → Nat) (A : Nat → Prop) (H0 : Heap) (u : Mm) (H : Heap) (locs : List Loc) : Prop :=
  va_P D vwCl (wl cy L ad u) H ∧ va_D A (wl cy L ad u) ∧ va_S A H0 H locs ∧ Ok L u
def Hs (D : va_G) (cy : Nat → ClassId) (L : List Nat) (ad : Nat → Nat) (u : Mm) (A : Nat → Prop) (U : State) : Prop :=
  va_P D vwCl (wl cy L ad u) U.heap ∧ va_K D vwCl (tyv cy) U ∧ va_D A (wl cy L ad u) ∧ Ok L u
def pt {α β : Type} (x : α) (k : α → β) : β := k x
def ck {β : Type} (b : Bool) (x : Option β) : Option β := match b with
  | true => x
  | false => none
def nl {β : Type} (r : Option Nat) (x : Option β) (y : Nat → Option β) : Option β := match r with
  | none => x
  | some t => y t
def bd {α β γ : Type} (r : Option (α × β)) (k : α → β → Option γ) : Option γ := match r with
  | none => none
  | some (a, b) => k a b
def bv {β γ : Type} (r : Option β) (k : β → Option γ) : Option γ := match r with
  | none => none
  | some b => k b
def bI (i : Int32) (n : Nat) : Bool := decide (0 ≤ i.toInt) && decide (i.toInt < n)
def ix (i : Int32) : Nat := i.toNatClampNeg
theorem bI_in {i : Int32} {n : Nat} (h : bI i n = true) : vp_in i n := by
  rw [vp_in_iff]
  simp only [bI, Bool.and_eq_true, decide_eq_true_eq] at h
  exact h
theorem ck_e {β : Type} {b : Bool} {x : Option β} {o : β} (h : ck b x = some o) : b = true ∧ x = some o := by
  cases b with
  | true => exact ⟨rfl, h⟩
  | false => cases h
theorem bd_e {α β γ : Type} {r : Option (α × β)} {k : α → β → Option γ} {o : γ} (h : bd r k = some o) : ∃ a b, r = some (a, b) ∧ k a b = some o := by
  cases r with
  | none => cases h
  | some q => exact ⟨q.1, q.2, rfl, h⟩
theorem bv_e {β γ : Type} {r : Option β} {k : β → Option γ} {o : γ} (h : bv r k = some o) : ∃ b, r = some b ∧ k b = some o := by
  cases r with
  | none => cases h
  | some q => exact ⟨q, rfl, h⟩
theorem tg_ge {c : Nat} (h : 70 ≤ c) : tg c = if c % 4 = 0 then 5 else if c % 4 = 1 then 12 else 2 := by
  unfold tg
  rw [if_neg (by omega)]
theorem tg_lt : ∀ c, c < 70 → tg c = tgl.getD c 99 := fun c h => by
  unfold tg
  rw [if_pos h]
theorem tg5 {c : Nat} (h : tg c = 5) : 70 ≤ c ∧ c % 4 = 0 := by
  by_cases hc : c < 70
  · have h9 : ∀ c, c < 70 → tgl.getD c 99 ≠ 5 := by decide +kernel
    rw [tg_lt c hc] at h
    exact absurd h (h9 c hc)
  · refine ⟨by omega, ?_⟩
    rw [tg_ge (by omega)] at h
    by_cases h2 : c % 4 = 0
    · exact h2
    · rw [if_neg h2] at h
      split at h <;> cases h
theorem tg5s {c : Nat} (h : tg c = 5) : tg (c + 1) = 12 := by
  have h1 := tg5 h
  rw [tg_ge (by omega), if_neg (by omega), if_pos (by omega)]
theorem ln5s {c : Nat} (h : tg c = 5) : ln (c + 1) = 6 := by
  have h1 := tg5 h
  unfold ln
  rw [if_neg (by omega)]
theorem cst5 {c : Nat} (h : tg c = 5) : cst c 2 = some (c + 1) := by
  unfold cst
  rw [h]
  rfl
theorem tg3 {c : Nat} (h : tg c = 3) : c = 49 ∨ c = 51 ∨ c = 53 ∨ c = 56 ∨ c = 58 := by
  by_cases hc : c < 70
  · have h9 : ∀ c, c < 70 → tgl.getD c 99 = 3 → c = 49 ∨ c = 51 ∨ c = 53 ∨ c = 56 ∨ c = 58 := by decide +kernel
    rw [tg_lt c hc] at h
    exact h9 c hc h
  · rw [tg_ge (by omega)] at h
    split at h
    · cases h
    · split at h <;> cases h
theorem tg3s {c : Nat} (h : tg c = 3) : tg (c + 1) = 12 := by
  rcases tg3 h with rfl | rfl | rfl | rfl | rfl <;> rfl
theorem ln3s {c : Nat} (h : tg c = 3) : ln (c + 1) = 80 := by
  rcases tg3 h with rfl | rfl | rfl | rfl | rfl <;> rfl
theorem cst3 {c : Nat} (h : tg c = 3) : cst c 0 = some (c + 1) := by
  unfold cst
  rw [h]
  rfl
section WLD
variable {D : va_G} {cy : Nat → ClassId} {L : List Nat} {ad : Nat → Nat} {A : Nat → Prop} {u u' : Mm}
theorem wl_at {i : Nat} {q : Nat × va_E} (h : (wl cy L ad u)[i]? = some q) : ∃ c, L[i]? = some c ∧ q = (ad c, en cy ad u c) := by
  simp only [wl, List.getElem?_map, Option.map_eq_some_iff] at h
  obtain ⟨c, h1, h2⟩ := h
  exact ⟨c, h1, h2.symm⟩
theorem wl_of {i c : Nat} (h : L[i]? = some c) : (wl cy L ad u)[i]? = some (ad c, en cy ad u c) := by
  simp [wl, h]
theorem wl_D (h : va_D A (wl cy L ad u)) : va_D A (wl cy L ad u') := by
  refine ⟨fun i j p q hp hq hpq => ?_, fun k q hq => ?_⟩
  · obtain ⟨c, h1, rfl⟩ := wl_at hp
    obtain ⟨d, h2, rfl⟩ := wl_at hq
    exact h.1 i j _ _ (wl_of h1) (wl_of h2) hpq
  · obtain ⟨c, h1, rfl⟩ := wl_at hq
    exact h.2 k (ad c, en cy ad u c) (wl_of h1)
theorem wl_inj (h : va_D A (wl cy L ad u)) {c d : Nat} (hc : c ∈ L) (hd : d ∈ L) (he : ad c = ad d) : c = d := by
  obtain ⟨i, hi⟩ := List.getElem?_of_mem hc
  obtain ⟨j, hj⟩ := List.getElem?_of_mem hd
  have hij := h.1 i j _ _ (wl_of hi) (wl_of hj) he
  subst hij
  exact Option.some.inj (hi.symm.trans hj)
theorem wl_set {i c : Nat} {e : va_E} (hD : va_D A (wl cy L ad u)) (hc : L[i]? = some c) (he : e = en cy ad u' c) (hne : ∀ d, d ≠ c → en cy ad u' d = en cy ad u d) : (wl cy L ad u).set i (ad c, e) = wl cy L ad u' := by
  subst he
  have hl : i < (wl cy L ad u).length := (List.getElem?_eq_some_iff.mp (wl_of (cy := cy) (ad := ad) (u := u) hc)).1
  apply List.ext_getElem?
  intro j
  by_cases hj : j = i
  · subst hj
    rw [List.getElem?_set_self hl, wl_of hc]
  · rw [List.getElem?_set_ne (Ne.symm hj)]
    cases hd : L[j]? with
    | none => simp [wl, hd]
    | some d =>
      have hdc : d ≠ c := by
        intro q
        subst q
        exact hj (hD.1 j i _ _ (wl_of hd) (wl_of hc) rfl)
      rw [wl_of hd, wl_of hd, hne d hdc]
theorem fso_get {t c k N : Nat} {C : String} {T : u_T} (hcl : vwCl[t]? = some (C, T, N)) (hk : k < N) : (fso ad u t c)[k]? = some (if rs t k = 0 then .int (u.1 c k) else va_re ad (u.2 c k)) := by
  have h1 : nf t = N := by simp [nf, hcl]
  simp [fso, h1, hk]
theorem fso_len {t c N : Nat} {C : String} {T : u_T} (hcl : vwCl[t]? = some (C, T, N)) : (fso ad u t c).length = N := by
  have h1 : nf t = N := by simp [nf, hcl]
  simp [fso, h1]
theorem en_o {t c : Nat} (h : tg c = t) (ht : t < 9) : en cy ad u c = .inr (t, fso ad u t c) := by
  subst h
  unfold en
  rw [if_neg (by omega), if_neg (by omega), if_neg (by omega), if_neg (by omega)]
theorem en_9 {c : Nat} (h : tg c = 9) : en cy ad u c = .inl (cy 0, ln c, .inl (u.1 c)) := by
  unfold en
  rw [if_pos h]
theorem en_10 {c : Nat} (h : tg c = 10) : en cy ad u c = .inl (cy 1, ln c, .inl (u.1 c)) := by
  unfold en
  rw [if_neg (by omega), if_pos h]
theorem en_11 {c : Nat} (h : tg c = 11) : en cy ad u c = .inl (cy 2, ln c, .inr (.inr (.inr (.inr (fun k => (u.2 c k).map ad))))) := by
  unfold en
  rw [if_neg (by omega), if_neg (by omega), if_pos h]
theorem en_12 {c : Nat} (h : tg c = 12) : en cy ad u c = .inl (cy 3, ln c, .inr (.inr (.inr (.inr (fun k => (u.2 c k).map ad))))) := by
  unfold en
  rw [if_neg (by omega), if_neg (by omega), if_neg (by omega), if_pos h]
theorem sI_ne {a k : Nat} {v : Int32} {d : Nat} (h : d ≠ a) : en cy ad (sI u a k v) d = en cy ad u d := by
  have h1 : (sI u a k v).1 d = u.1 d := by
    funext b
    show (if d = a ∧ b = k then v else u.1 d b) = u.1 d b
    rw [if_neg (fun q => h q.1)]
  have h2 : ∀ t, fso ad (sI u a k v) t d = fso ad u t d := fun t => by
    unfold fso
    rw [h1]
    rfl
  unfold en
  rw [h1, h2]
  rfl
theorem sR_ne {a k : Nat} {v : Option Nat} {d : Nat} (h : d ≠ a) : en cy ad (sR u a k v) d = en cy ad u d := by
  have h1 : (sR u a k v).2 d = u.2 d := by
    funext b
    show (if d = a ∧ b = k then v else u.2 d b) = u.2 d b
    rw [if_neg (fun q => h q.1)]
  have h2 : ∀ t, fso ad (sR u a k v) t d = fso ad u t d := fun t => by
    unfold fso
    rw [h1]
    rfl
  unfold en
  rw [h1, h2]
  rfl
theorem sI_fso {t a k N : Nat} {v : Int32} {C : String} {T : u_T} (hcl : vwCl[t]? = some (C, T, N)) (hk : k < N) (hr : rs t k = 0) : (fso ad u t a).set k (.int v) = fso ad (sI u a k v) t a := by
  apply List.ext_getElem?
  intro j
  by_cases hj : j = k
  · subst hj
    rw [List.getElem?_set_self (by rw [fso_len hcl]; exact hk), fso_get hcl hk, if_pos hr]
    simp [sI]
  · rw [List.getElem?_set_ne (Ne.symm hj)]
    by_cases hjN : j < N
    · rw [fso_get hcl hjN, fso_get hcl hjN]
      simp [sI, hj]
    · rw [List.getElem?_eq_none (by rw [fso_len hcl]; omega), List.getElem?_eq_none (by rw [fso_len hcl]; omega)]
theorem sR_fso {t a k N : Nat} {v : Option Nat} {C : String} {T : u_T} (hcl : vwCl[t]? = some (C, T, N)) (hk : k < N) (hr : rs t k ≠ 0) : (fso ad u t a).set k (va_re ad v) = fso ad (sR u a k v) t a := by
  apply List.ext_getElem?
  intro j
  by_cases hj : j = k
  · subst hj
    rw [List.getElem?_set_self (by rw [fso_len hcl]; exact hk), fso_get hcl hk, if_neg hr]
    simp [sR]
  · rw [List.getElem?_set_ne (Ne.symm hj)]
    by_cases hjN : j < N
    · rw [fso_get hcl hjN, fso_get hcl hjN]
      simp [sR, hj]
    · rw [List.getElem?_eq_none (by rw [fso_len hcl]; omega), List.getElem?_eq_none (by rw [fso_len hcl]; omega)]
theorem Ok_sI {a k : Nat} {v : Int32} (h : Ok L u) : Ok L (sI u a k v) := h
theorem Ok_sR {a k t : Nat} {v : Option Nat} (h : Ok L u) (hc : cst a k = none) (hr : rs (tg a) k = t + 1) (hv : vr L t v) : Ok L (sR u a k v) := by
  intro c hcL j
  by_cases hcj : c = a ∧ j = k
  · obtain ⟨rfl, rfl⟩ := hcj
    refine ⟨fun d hd => ?_, fun _ d hd => ?_⟩
    · rw [hc] at hd
      cases hd
    · have hd : (if c = c ∧ j = j then v else u.2 c j) = some d := hd
      rw [if_pos ⟨rfl, rfl⟩] at hd
      obtain ⟨h1, h2⟩ := hv d hd
      exact ⟨h1, by rw [h2, hr]⟩
  · have e : (sR u a k v).2 c j = u.2 c j := by
      show (if c = a ∧ j = k then v else u.2 c j) = u.2 c j
      rw [if_neg hcj]
    rw [e]
    exact h c hcL j
theorem Ok_get {a k t : Nat} (h : Ok L u) (ha : a ∈ L) (hr : rs (tg a) k = t + 1) : vr L t (u.2 a k) := fun d hd => by
  obtain ⟨h1, h2⟩ := (h a ha k).2 (by omega) d hd
  exact ⟨h1, by omega⟩
theorem Ok_cst {a k d : Nat} (h : Ok L u) (ha : a ∈ L) (hc : cst a k = some d) : u.2 a k = some d := (h a ha k).1 d hc
end WLD

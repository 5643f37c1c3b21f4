def nT (u : Mm) (t : Nat) (num : Int32) (kd : Nat) : Mm := (fun a b => if a = t then ([num, 0, 0, 1, 1, (if u.1 kd 1 = 0 then 4 else 0), 0, 0, 0, u.1 kd 3, 0] : List Int32).getD b 0 else if a = t + 1 then 0 else u.1 a b, fun a b => if a = t then (if b = 1 then some kd else if b = 2 then some (t + 1) else none) else if a = t + 1 then none else u.2 a b)
def nK (u : Mm) (t : Nat) (p0 p1 p2 p3 : Int32) : Mm := (fun a b => if a = t then ([p0, p1, p2, p3] : List Int32).getD b 0 else u.1 a b, fun a b => if a = t then none else u.2 a b)
theorem en_congr {cy : Nat → ClassId} {ad ad2 : Nat → Nat} {u u2 : Mm} {c : Nat} (h1 : u2.1 c = u.1 c) (h2 : ∀ k, rs (tg c) k ≠ 0 → (u2.2 c k).map ad2 = (u.2 c k).map ad) : en cy ad2 u2 c = en cy ad u c := by
  have h3 : fso ad2 u2 (tg c) c = fso ad u (tg c) c := by
    unfold fso
    apply List.map_congr_left
    intro k _
    by_cases hr : rs (tg c) k = 0
    · rw [if_pos hr, if_pos hr, h1]
    · rw [if_neg hr, if_neg hr]
      show va_rf _ = va_rf _
      rw [h2 k hr]
  have h4 : tg c = 11 → (fun k => (u2.2 c k).map ad2) = (fun k => (u.2 c k).map ad) := fun h => by
    funext k
    exact h2 k (by rw [h]; show 3 ≠ 0; decide)
  have h5 : tg c = 12 → (fun k => (u2.2 c k).map ad2) = (fun k => (u.2 c k).map ad) := fun h => by
    funext k
    exact h2 k (by rw [h]; show 6 ≠ 0; decide)
  unfold en
  by_cases g9 : tg c = 9
  · rw [if_pos g9, if_pos g9, h1]
  · rw [if_neg g9, if_neg g9]
    by_cases g10 : tg c = 10
    · rw [if_pos g10, if_pos g10, h1]
    · rw [if_neg g10, if_neg g10]
      by_cases g11 : tg c = 11
      · rw [if_pos g11, if_pos g11, h4 g11]
      · rw [if_neg g11, if_neg g11]
        by_cases g12 : tg c = 12
        · rw [if_pos g12, if_pos g12, h5 g12]
        · rw [if_neg g12, if_neg g12, h3]
theorem wl_app {cy : Nat → ClassId} {L M : List Nat} {ad : Nat → Nat} {u : Mm} : wl cy (L ++ M) ad u = wl cy L ad u ++ wl cy M ad u := by simp [wl]
theorem wl_old {cy : Nat → ClassId} {L : List Nat} {ad ad2 : Nat → Nat} {u u2 : Mm} (hag : ∀ c ∈ L, ad2 c = ad c) (h : ∀ c ∈ L, en cy ad2 u2 c = en cy ad u c) : wl cy L ad2 u2 = wl cy L ad u := by
  unfold wl
  apply List.map_congr_left
  intro c hc
  rw [hag c hc, h c hc]
theorem fso_T {ad : Nat → Nat} {u : Mm} {t kd : Nat} {num : Int32} : fso ad (nT u t num kd) 5 t = [.int num, .ref (ad kd), .ref (ad (t + 1)), .int 1, .int 1, .int (if u.1 kd 1 = 0 then 4 else 0), .int 0, .int 0, .int 0, .int (u.1 kd 3), .int 0] := by
  have h1 : nf 5 = 11 := rfl
  simp [fso, h1, List.range, List.range.loop, rs, nT, va_re, va_rf]
theorem fso_K {ad : Nat → Nat} {u : Mm} {t : Nat} {p0 p1 p2 p3 : Int32} : fso ad (nK u t p0 p1 p2 p3) 2 t = [.int p0, .int p1, .int p2, .int p3] := by
  have h1 : nf 2 = 4 := rfl
  simp [fso, h1, List.range, List.range.loop, rs, nK]
theorem fso_Kd {ad : Nat → Nat} {u : Mm} {t : Nat} : fso ad u 2 t = [.int (u.1 t 0), .int (u.1 t 1), .int (u.1 t 2), .int (u.1 t 3)] := by
  have h1 : nf 2 = 4 := rfl
  simp [fso, h1, List.range, List.range.loop, rs]
section ALC
variable {D : va_G} {cy : Nat → ClassId} {L : List Nat} {ad : Nat → Nat} {A : Nat → Prop} {H0 H H1 : Heap} {u : Mm} {locs : List Loc}
theorem thing_cut {q0 kd : Nat} {e : va_E} (hP : va_P D vwCl (wl cy L ad u ++ [(q0, e)]) H) (hD : va_D A (wl cy L ad u ++ [(q0, e)])) (hkd : vn L 2 kd) (hA : ∀ q, H.size ≤ q → A q) :
    va_P D vwCl [(q0, e), (ad kd, .inr (2, [.int (u.1 kd 0), .int (u.1 kd 1), .int (u.1 kd 2), .int (u.1 kd 3)]))] H ∧ va_D A [(q0, e), (ad kd, .inr (2, [.int (u.1 kd 0), .int (u.1 kd 1), .int (u.1 kd 2), .int (u.1 kd 3)]))] ∧ ∀ q, va_A [(q0, e), (ad kd, .inr (2, [.int (u.1 kd 0), .int (u.1 kd 1), .int (u.1 kd 2), .int (u.1 kd 3)]))] H.size q → A q := by
  obtain ⟨i, hi⟩ := List.getElem?_of_mem hkd.1
  have hl : i < L.length := (List.getElem?_eq_some_iff.mp hi).1
  have e0 : (wl cy L ad u ++ [(q0, e)])[L.length]? = some (q0, e) := by
    rw [List.getElem?_append_right (by simp [wl])]
    simp [wl]
  have e1 : (wl cy L ad u ++ [(q0, e)])[i]? = some (ad kd, .inr (2, [.int (u.1 kd 0), .int (u.1 kd 1), .int (u.1 kd 2), .int (u.1 kd 3)])) := by
    rw [List.getElem?_append_left (by simp [wl]; exact hl), wl_of hi, en_o hkd.2 (by decide), fso_Kd]
  have hz : [L.length, i].filterMap (fun k => (wl cy L ad u ++ [(q0, e)])[k]?) = [(q0, e), (ad kd, .inr (2, [.int (u.1 kd 0), .int (u.1 kd 1), .int (u.1 kd 2), .int (u.1 kd 3)]))] := by
    simp only [List.filterMap_cons, e0, e1, List.filterMap_nil]
  have hP2 := hP.sub [L.length, i] hz
  have hzm : [L.length, i].map (fun k => (wl cy L ad u ++ [(q0, e)])[k]?) = ([(q0, e), (ad kd, .inr (2, [.int (u.1 kd 0), .int (u.1 kd 1), .int (u.1 kd 2), .int (u.1 kd 3)]))] : va_W).map some := by
    simp only [List.map_cons, e0, e1, List.map_nil]
  have hD2 := hD.sub [L.length, i] (by simp [va_nd]; omega) hzm
  refine ⟨hP2, hD2, fun q h => ?_⟩
  rcases h with ⟨k, e9, h⟩ | h
  · exact hD2.2 k _ h
  · exact hA q h
theorem thing_join {q0 q1 t kd : Nat} {num : Int32} {e : va_E} (hOk : Ok L u) (hP : va_P D vwCl (wl cy L ad u ++ [(q0, e)]) H) (hD : va_D A (wl cy L ad u ++ [(q0, e)])) (hS : va_S A H0 H1 locs) (hkd : vn L 2 kd) (ht : tg t = 5) (hn0 : t ∉ L) (hn1 : t + 1 ∉ L) (hA : ∀ q, H.size ≤ q → A q)
    (hk1 : ∀ q : Nat, q < H.size → ¬ va_A [(q0, e), (ad kd, .inr (2, [.int (u.1 kd 0), .int (u.1 kd 1), .int (u.1 kd 2), .int (u.1 kd 3)]))] H.size q → H1[q]? = H[q]?)
    (hP1 : va_P D vwCl [(q0, .inr (5, [.int num, .ref (ad kd), .ref q1, .int 1, .int 1, .int (if u.1 kd 1 = 0 then 4 else 0), .int 0, .int 0, .int 0, .int (u.1 kd 3), .int 0])), (ad kd, .inr (2, [.int (u.1 kd 0), .int (u.1 kd 1), .int (u.1 kd 2), .int (u.1 kd 3)])), (q1, .inl (cy 3, 6, .inr (.inr (.inr (.inr (fun _ => none))))))] H1)
    (hD1 : va_D (va_A [(q0, e), (ad kd, .inr (2, [.int (u.1 kd 0), .int (u.1 kd 1), .int (u.1 kd 2), .int (u.1 kd 3)]))] H.size) [(q0, .inr (5, [.int num, .ref (ad kd), .ref q1, .int 1, .int 1, .int (if u.1 kd 1 = 0 then 4 else 0), .int 0, .int 0, .int 0, .int (u.1 kd 3), .int 0])), (ad kd, .inr (2, [.int (u.1 kd 0), .int (u.1 kd 1), .int (u.1 kd 2), .int (u.1 kd 3)])), (q1, .inl (cy 3, 6, .inr (.inr (.inr (.inr (fun _ => none))))))]) :
    ∃ ad2 : Nat → Nat, (∀ c ∈ L, ad2 c = ad c) ∧ ad2 t = q0 ∧ Wd D cy (L ++ [t, t + 1]) ad2 A H0 (nT u t num kd) H1 locs := by
  have hq1 : H.size ≤ q1 := by
    have h1 := hD1.2 2 _ rfl
    rcases h1 with ⟨k, e9, h1⟩ | h1
    · match k, h1 with
      | 0, h1 =>
        have : q0 = q1 := congrArg Prod.fst (Option.some.inj h1)
        have := hD1.1 0 2 _ _ rfl rfl this
        omega
      | 1, h1 =>
        have : ad kd = q1 := congrArg Prod.fst (Option.some.inj h1)
        have := hD1.1 1 2 _ _ rfl rfl this
        omega
      | k + 2, h1 => simp at h1
    · exact h1
  have hlt : ∀ c ∈ L, ad c < H.size := fun c hc => by
    obtain ⟨i, hi⟩ := List.getElem?_of_mem hc
    have hl : i < L.length := (List.getElem?_eq_some_iff.mp hi).1
    have := (hP i (ad c, en cy ad u c) (by rw [List.getElem?_append_left (by simp [wl]; exact hl), wl_of hi])).lt
    exact this
  have hDL : va_D A (wl cy L ad u) := ⟨fun i j p q hp hq h => hD.1 i j p q (by rw [List.getElem?_append_left (List.getElem?_eq_some_iff.mp hp).1]; exact hp) (by rw [List.getElem?_append_left (List.getElem?_eq_some_iff.mp hq).1]; exact hq) h, fun k q hk => hD.2 k q (by rw [List.getElem?_append_left (List.getElem?_eq_some_iff.mp hk).1]; exact hk)⟩
  have hne0 : ∀ c ∈ L, ad c ≠ q0 := fun c hc hq => by
    obtain ⟨i, hi⟩ := List.getElem?_of_mem hc
    have hl : i < L.length := (List.getElem?_eq_some_iff.mp hi).1
    have := hD.1 i L.length (ad c, en cy ad u c) (q0, e) (by rw [List.getElem?_append_left (by simp [wl]; exact hl), wl_of hi]) (by rw [List.getElem?_append_right (by simp [wl])]; simp [wl]) hq
    omega
  have h0l : q0 < H.size := (hP L.length (q0, e) (by rw [List.getElem?_append_right (by simp [wl])]; simp [wl])).lt
  have hAq0 : A q0 := hD.2 L.length (q0, e) (by rw [List.getElem?_append_right (by simp [wl])]; simp [wl])
  obtain ⟨ad2, had⟩ : ∃ ad2 : Nat → Nat, ad2 = (fun c => if c = t then q0 else if c = t + 1 then q1 else ad c) := ⟨_, rfl⟩
  have a0 : ad2 t = q0 := by subst had; simp
  have a1 : ad2 (t + 1) = q1 := by subst had; simp
  have hct : ∀ c ∈ L, c ≠ t := by
    rintro c hc rfl
    exact hn0 hc
  have hct1 : ∀ c ∈ L, c ≠ t + 1 := by
    rintro c hc rfl
    exact hn1 hc
  have hag : ∀ c ∈ L, ad2 c = ad c := fun c hc => by
    subst had
    show (if c = t then q0 else if c = t + 1 then q1 else ad c) = ad c
    rw [if_neg (hct c hc), if_neg (hct1 c hc)]
  have hu1 : ∀ c ∈ L, (nT u t num kd).1 c = u.1 c := fun c hc => by
    funext k
    show (if c = t then _ else if c = t + 1 then _ else u.1 c k) = u.1 c k
    rw [if_neg (hct c hc), if_neg (hct1 c hc)]
  have hu2 : ∀ c ∈ L, (nT u t num kd).2 c = u.2 c := fun c hc => by
    funext k
    show (if c = t then _ else if c = t + 1 then _ else u.2 c k) = u.2 c k
    rw [if_neg (hct c hc), if_neg (hct1 c hc)]
  have hen : ∀ c ∈ L, en cy ad2 (nT u t num kd) c = en cy ad u c := fun c hc => en_congr (hu1 c hc) (fun k hr => by
    rw [hu2 c hc]
    cases hd : u.2 c k with
    | none => rfl
    | some d => exact congrArg some (hag d (((hOk c hc k).2 hr d hd).1)))
  have hw2 : wl cy (L ++ [t, t + 1]) ad2 (nT u t num kd) = wl cy L ad u ++ [(q0, .inr (5, [.int num, .ref (ad kd), .ref q1, .int 1, .int 1, .int (if u.1 kd 1 = 0 then 4 else 0), .int 0, .int 0, .int 0, .int (u.1 kd 3), .int 0])), (q1, .inl (cy 3, 6, .inr (.inr (.inr (.inr (fun _ => none))))))] := by
    rw [wl_app, wl_old hag hen]
    congr 1
    show [(ad2 t, en cy ad2 (nT u t num kd) t), (ad2 (t + 1), en cy ad2 (nT u t num kd) (t + 1))] = _
    rw [en_o ht (by decide), fso_T, en_12 (tg5s ht), ln5s ht, a0, a1, hag kd hkd.1]
    simp [nT]
  refine ⟨ad2, hag, a0, ?_, ?_, hS, ?_⟩
  · rw [hw2]
    intro k q hk
    rcases List.mem_append.mp (List.mem_of_getElem? hk) with h | h
    · obtain ⟨c, hc, rfl⟩ := List.mem_map.mp h
      by_cases hck : c = kd
      · subst hck
        have := hP1 1 _ rfl
        rw [en_o hkd.2 (by decide), fso_Kd]
        exact this
      · obtain ⟨i, hi⟩ := List.getElem?_of_mem hc
        have hl : i < L.length := (List.getElem?_eq_some_iff.mp hi).1
        have h9 := hP i (ad c, en cy ad u c) (by rw [List.getElem?_append_left (by simp [wl]; exact hl), wl_of hi])
        refine h9.kept (hk1 (ad c) (hlt c hc) ?_)
        rintro (⟨k2, e9, h8⟩ | h8)
        · match k2, h8 with
          | 0, h8 => exact hne0 c hc (congrArg Prod.fst (Option.some.inj h8)).symm
          | 1, h8 => exact hck (wl_inj hDL hc hkd.1 (congrArg Prod.fst (Option.some.inj h8)).symm)
          | k2 + 2, h8 => simp at h8
        · have := hlt c hc
          omega
    · simp only [List.mem_cons, List.not_mem_nil, or_false] at h
      rcases h with rfl | rfl
      · exact hP1 0 _ rfl
      · exact hP1 2 _ rfl
  · rw [hw2]
    have hD0 : va_D A [(q0, .inr (5, [.int num, .ref (ad kd), .ref q1, .int 1, .int 1, .int (if u.1 kd 1 = 0 then 4 else 0), .int 0, .int 0, .int 0, .int (u.1 kd 3), .int 0])), (q1, .inl (cy 3, 6, .inr (.inr (.inr (.inr (fun _ => none))))))] := by
      have h1 := hD1.sub (ws' := [(q0, .inr (5, [.int num, .ref (ad kd), .ref q1, .int 1, .int 1, .int (if u.1 kd 1 = 0 then 4 else 0), .int 0, .int 0, .int 0, .int (u.1 kd 3), .int 0])), (q1, .inl (cy 3, 6, .inr (.inr (.inr (.inr (fun _ => none))))))]) [0, 2] (by decide) rfl
      refine ⟨h1.1, fun k q hk => ?_⟩
      match k, hk with
      | 0, hk => cases hk; exact hAq0
      | 1, hk => cases hk; exact hA _ hq1
      | k + 2, hk => simp at hk
    refine hDL.app hD0 (fun i j x y hx hy hxy => ?_)
    obtain ⟨c, hc, rfl⟩ := wl_at hx
    have hc := List.mem_of_getElem? hc
    match j, hy with
    | 0, hy => cases hy; exact hne0 c hc hxy
    | 1, hy =>
      cases hy
      have h7 : ad c = q1 := hxy
      have := hlt c hc
      omega
    | j + 2, hy => simp at hy
  · intro c hc k
    rcases List.mem_append.mp hc with h | h
    · rw [hu2 c h]
      obtain ⟨g1, g2⟩ := hOk c h k
      exact ⟨g1, fun hr d hd => ⟨List.mem_append_left _ (g2 hr d hd).1, (g2 hr d hd).2⟩⟩
    · simp only [List.mem_cons, List.not_mem_nil, or_false] at h
      rcases h with rfl | rfl
      · refine ⟨fun d hd => ?_, fun hr d hd => ?_⟩
        · unfold cst at hd
          rw [ht] at hd
          have hd : (if k = 2 then some (c + 1) else none) = some d := hd
          by_cases hk2 : k = 2
          · subst hk2
            show (if c = c then (if 2 = 1 then some kd else if 2 = 2 then some (c + 1) else none) else _) = some d
            rw [if_pos rfl]
            exact hd
          · rw [if_neg hk2] at hd
            cases hd
        · have hd : (if c = c then (if k = 1 then some kd else if k = 2 then some (c + 1) else none) else _) = some d := hd
          rw [if_pos rfl] at hd
          by_cases hk1 : k = 1
          · rw [if_pos hk1] at hd
            cases hd
            subst hk1
            rw [ht, hkd.2]
            exact ⟨List.mem_append_left _ hkd.1, rfl⟩
          · rw [if_neg hk1] at hd
            by_cases hk2 : k = 2
            · rw [if_pos hk2] at hd
              cases hd
              subst hk2
              rw [ht, tg5s ht]
              exact ⟨List.mem_append_right _ (by simp), rfl⟩
            · rw [if_neg hk2] at hd
              cases hd
      · refine ⟨fun d hd => ?_, fun hr d hd => ?_⟩
        · rw [cst_arr (tg5s ht) (by decide)] at hd
          cases hd
        · have hd : (if t + 1 = t then _ else if t + 1 = t + 1 then none else _) = some d := hd
          rw [if_neg (by omega), if_pos rfl] at hd
          cases hd
end ALC

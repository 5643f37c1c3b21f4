section TEL
variable {th : Nat → Option Nat} {n m fw tt w k : Nat} {l g : Nat → Nat} {q : Nat → Prop} {r u u1 u2 : Mm} {s s' : Sm} {o t v N : Nat}
theorem LI_nfo {d : Nat → Nat} (H : LI n d m g s) (ho : o < 80) (h4 : s 4 o ≠ 0) : nfo s o ≤ 6 ∧ s 1 (s 4 o - 1) ≤ 7 ∧ s 3 (s 4 o - 1) ≤ 1 ∧ vo s o := by
  have hv := ((H.2.1 o ho).1 h4).1
  have hk := H.1 (s 4 o - 1) (by have := hv.1; have := hv.2.1; omega)
  exact ⟨by unfold nfo; omega, hk.1, hk.2.1, hv⟩
theorem co_hasField {d : Nat → Nat} {m0 : Nat} {g0 : Nat → Nat} (H : LI n d m0 g0 s) (C : CR th w l m g q fw tt r u s) (ho : o < 80) (h4 : s 4 o ≠ 0) (ht : th o = some t) (x : Int32) :
    f_X5_hasField N t x u = some (if ¬ x < 0 ∧ x < i3 (nfo s o) then 1 else 0, u) := by
  obtain ⟨h6, _, _, hv⟩ := LI_nfo H ho h4
  obtain ⟨kd, k1, k2, k3, k4, k5, k6, k7⟩ := C.kd ht hv
  unfold f_X5_hasField
  by_cases h0 : x < 0
  · rw [if_pos h0, if_neg (fun z => z.1 h0)]
  · obtain ⟨i, hi, rfl⟩ := i3_of h0
    rw [if_neg h0, pt_d, k1, nl_s, pt_d, k5]
    by_cases h1 : nfo s o ≤ i
    · rw [if_pos ((i3_le (by omega) hi).mpr h1), if_neg (fun z => by have := (i3_lt hi (by omega)).mp z.2; omega)]
    · rw [if_neg (fun z => h1 ((i3_le (by omega) hi).mp z)), if_neg (show ¬ (6 : Int32) ≤ i3 i by rw [i3_Lle hi (by decide)]; omega), if_pos ⟨h0, (i3_lt hi (by omega)).mpr (by omega)⟩]
theorem st_get (hN : 5000 ≤ N) (J : Jk k u) (hk : k + 1 ≤ 1000) (x y : Int32) : St2 k (f_X7_get N x y u) (f_X8_get N x y) := by
  obtain ⟨th, g, s, H, C, M, hd⟩ := J
  have ex22 : ∀ u1, Ms u1 u1 s → Go (f_X8_get_22 N x y u1) (fun z => (1 = 0 → z.1 = (0 : Int32)) ∧ Ms u1 z.2 (nS s 0 0 1)) := fun u1 M1 => by
    unfold f_X8_get_22 f_X8_get_27
    rw [pt_d, pt_d, show (sI u1 0 0 1).1 0 0 = 1 from rfl, if_neg (by decide)]
    exact Go.s ⟨(fun z => by cases z), Ms_0 M1 rfl⟩
  rcases i3_cs x (b := 80) (by decide) with hx | ⟨o, ho, rfl⟩
  · refine St2.ex (kx := 1) (a := 0) (by decide) hk H C M ⟨false, ?_⟩ (fun u1 M1 => ?_)
    · unfold f_X7_get
      rw [co_thing_no hx, bd_s, nl_n]
    · unfold f_X8_get
      rw [mo_isThere_no M1.mr (by exact hx), bd_s, if_pos rfl]
      exact ex22 u1 M1
  · by_cases h4 : s 4 o = 0
    · refine St2.ex (kx := 1) (a := 0) (by decide) hk H C M ⟨false, ?_⟩ (fun u1 M1 => ?_)
      · unfold f_X7_get
        rw [co_thing C ho, bd_s, if_pos h4, nl_n]
      · unfold f_X8_get
        rw [mo_isThere M1.mr ho (by omega), bd_s, if_pos h4, if_pos rfl]
        exact ex22 u1 M1
    · obtain ⟨h6, h17, _, hv⟩ := LI_nfo H ho h4
      have hth := ((C.cs ho).2 h4).2
      cases hc : th o with
      | none => exact absurd hc hth
      | some t =>
      by_cases hf : ¬ y < 0 ∧ y < i3 (nfo s o)
      · obtain ⟨f, hfi, rfl⟩ := i3_of hf.1
        have hfn := (i3_lt hfi (by omega)).mp hf.2
        have hown := J_own H C hd (c := 12) (x := 6 * o + f) (by right; right; exact ⟨rfl, by omega, by rw [show (6 * o + f) / 6 = o by omega]; exact h4⟩)
        refine St2.ex (kx := 0) (a := oI (s 12 (6 * o + f))) (by decide) hk H C M ⟨false, ?_⟩ (fun u1 M1 => ?_)
        · unfold f_X7_get
          rw [co_thing C ho, bd_s, if_neg h4, hc, nl_s, co_hasField H C ho h4 hc, bd_s, if_pos hf, if_neg (by decide), i3_bI hfi, decide_eq_true (by omega), ck_t, pt_d, i3_ix hfi, C.h hc (by omega), co_num C hown.2, bd_s]
        · unfold f_X8_get
          rw [mo_isThere M1.mr ho hv.2.1, bd_s, if_neg h4, if_neg (by decide), if_neg hf.1]
          refine Go_bde (mo_fieldsOf M1.mr ho hv h17) ?_
          rw [if_pos hf.2]
          unfold f_X8_get_27
          have M2 : Ms u1 (sI u1 0 0 0) (nS s 0 0 0) := Ms_0 (kx := 0) M1 rfl
          have e6 : 6 * i3 o + i3 f = i3 (6 * o + f) := by rw [i3_mulL, i3_add]
          rw [pt_d, pt_d, show (sI u1 0 0 0).1 0 0 = 0 from rfl, if_pos (by decide), e6, i3_bI (by omega), decide_eq_true (by omega), ck_t, pt_d, i3_ix (by omega), M2.mr.g12 (by omega), nS_ne (by omega)]
          exact Go.s ⟨fun _ => rfl, M2⟩
      · refine St2.ex (kx := 1) (a := 0) (by decide) hk H C M ⟨false, ?_⟩ (fun u1 M1 => ?_)
        · unfold f_X7_get
          rw [co_thing C ho, bd_s, if_neg h4, hc, nl_s, co_hasField H C ho h4 hc, bd_s, if_neg hf, if_pos rfl]
        · unfold f_X8_get
          rw [mo_isThere M1.mr ho hv.2.1, bd_s, if_neg h4, if_neg (by decide)]
          by_cases h0 : y < 0
          · rw [if_pos h0]; exact ex22 u1 M1
          · rw [if_neg h0]
            refine Go_bde (mo_fieldsOf M1.mr ho hv h17) ?_
            rw [if_neg (fun z => hf ⟨h0, z⟩)]
            exact ex22 u1 M1
theorem st_object (hN : 5000 ≤ N) (J : Jk k u) (hk : k + 1 ≤ 1000) (x y : Int32) : St2 k (f_X7_object N x y u) (f_X8_object N x y) := by
  obtain ⟨th, g, s, H, C, M, hd⟩ := J
  rcases i3_cs y (b := 8) (by decide) with hy | ⟨i, hi8, rfl⟩
  · refine St2.ex (kx := 1) (a := 0) (by decide) hk H C M ⟨false, ?_⟩ (fun u1 M1 => ?_)
    · unfold f_X7_object
      by_cases h0 : y < 0
      · rw [if_pos h0]
      · rw [if_neg h0, if_neg (fun z => by rcases hy with a | a; exact h0 a; exact absurd z (Int32.not_lt.mpr a))]
    · have : f_X8_object N x y u1 = f_X8_object_11 N x y u1 := by
        unfold f_X8_object
        by_cases h0 : y < 0
        · rw [if_pos h0]
        · obtain ⟨j, hj, rfl⟩ := i3_of h0
          have h8 : 8 ≤ j := by
            rcases hy with a | a
            · exact absurd a h0
            · exact (i3_le (by decide) hj).mp a
          rw [if_neg h0, if_neg (show ¬ i3 j ≤ 7 by rw [i3_leL hj (by decide)]; omega)]
      rw [this]
      unfold f_X8_object_11 f_X8_object_16
      rw [pt_d, pt_d, show (sI u1 0 0 1).1 0 0 = 1 from rfl, if_pos (by decide)]
      exact Go.s ⟨(fun z => by cases z), Ms_0 M1 rfl⟩
  · have hn0 : ¬ i3 i < 0 := by rw [i3_ltL (by omega) (by decide)]; omega
    have h8 : i3 i < 8 := by rw [i3_ltL (by omega) (by decide)]; omega
    have h7 : i3 i ≤ 7 := by rw [i3_leL (by omega) (by decide)]; omega
    have hm : ∀ u1, f_X8_object N x (i3 i) u1 = f_X8_object_16 N x (i3 i) 0 u1 := fun u1 => by
      unfold f_X8_object
      rw [if_neg hn0, if_pos h7]
    have hM2 : ∀ u1, Ms u1 u1 s → Ms u1 (sI u1 0 0 0) (nS s 0 0 0) := fun u1 M1 => Ms_0 M1 rfl
    rcases i3_cs x (b := 80) (by decide) with hx | ⟨o, ho, rfl⟩
    · refine St2.ex (kx := 0) (a := -1) (by decide) hk H C M ⟨false, ?_⟩ (fun u1 M1 => ?_)
      · unfold f_X7_object
        rw [if_neg hn0, if_pos h8, co_thing_no hx, bd_s, nl_n]
      · rw [hm]
        unfold f_X8_object_16
        rw [pt_d, pt_d, show (sI u1 0 0 0).1 0 0 = 0 from rfl, if_neg (by decide), mo_isThere_no (hM2 u1 M1).mr (by exact hx), bd_s, if_pos rfl]
        exact Go.s ⟨fun _ => rfl, hM2 u1 M1⟩
    · by_cases h4 : s 4 o = 0
      · refine St2.ex (kx := 0) (a := -1) (by decide) hk H C M ⟨false, ?_⟩ (fun u1 M1 => ?_)
        · unfold f_X7_object
          rw [if_neg hn0, if_pos h8, co_thing C ho, bd_s, if_pos h4, nl_n]
        · rw [hm]
          unfold f_X8_object_16
          have h42 : nS s 0 0 0 4 o = 0 := by rw [nS_ne (by omega)]; exact h4
          rw [pt_d, pt_d, show (sI u1 0 0 0).1 0 0 = 0 from rfl, if_neg (by decide), mo_isThere (hM2 u1 M1).mr ho (by omega), bd_s, if_pos h42, if_pos rfl]
          exact Go.s ⟨fun _ => rfl, hM2 u1 M1⟩
      · obtain ⟨_, h17, h3, hv⟩ := LI_nfo H ho h4
        have hT := (H.2.1 o ho).1 h4
        have hth := ((C.cs ho).2 h4).2
        cases hc : th o with
        | none => exact absurd hc hth
        | some t =>
        obtain ⟨kd, k1, k2, k3, k4, k5, k6, k7⟩ := C.kd hc hv
        have hb := C.b hc h4
        have z9 : i3 (s 9 o) = 0 ↔ s 9 o = 0 := i3_eqL (by omega) (by decide)
        have z11 : i3 (s 11 o) = 0 ↔ s 11 o = 0 := i3_eqL (by omega) (by decide)
        have hx7 : ∀ a : Int32, f_X5_tell N t (i3 i) u = some (a, u) → f_X7_object N (i3 o) (i3 i) u = some (0, a, false, u) := fun a ha => by
          unfold f_X7_object
          rw [if_neg hn0, if_pos h8, co_thing C ho, bd_s, if_neg h4, hc, nl_s, ha, bd_s]
        have e4 : ∀ c x, (c ≠ 0) → nS s 0 0 0 c x = s c x := fun c x hcc => nS_ne (fun z => hcc z.1)
        have hv2 : vo (nS s 0 0 0) o := by unfold vo; rw [e4 4 o (by decide), e4 1 _ (by decide)]; exact hv
        have hx8 : ∀ u1, Ms u1 u1 s → ∀ a : Int32, Go (if i3 i = 0 then (Option.some (α := Int32 × Mm) (oI (s 4 o), sI u1 0 0 0)) else (if i3 i = 1 then some (i3 (s 5 o), sI u1 0 0 0) else (if i3 i = 2 then some (i3 (s 6 o), sI u1 0 0 0) else (if i3 i = 3 then some (i3 (s 7 o), sI u1 0 0 0) else (if i3 i = 4 then some (if s 9 o = 0 then 0 else 1, sI u1 0 0 0) else (if i3 i = 5 then some (if s 3 (s 4 o - 1) = 1 ∧ s 10 o = 0 then 1 else 0, sI u1 0 0 0) else (if i3 i = 6 then some (i3 (s 8 o), sI u1 0 0 0) else some (if s 11 o = 0 then 0 else 1, sI u1 0 0 0)))))))) (fun z => z.1 = a ∧ Ms u1 z.2 (nS s 0 0 0)) → Go (f_X8_object N (i3 o) (i3 i) u1) (fun z => (0 = 0 → z.1 = a) ∧ Ms u1 z.2 (nS s 0 0 0)) := fun u1 M1 a ha => by
          have M2 := hM2 u1 M1
          have e : f_X8_object N (i3 o) (i3 i) u1 = (if i3 i = 0 then (Option.some (α := Int32 × Mm) (oI (s 4 o), sI u1 0 0 0)) else (if i3 i = 1 then some (i3 (s 5 o), sI u1 0 0 0) else (if i3 i = 2 then some (i3 (s 6 o), sI u1 0 0 0) else (if i3 i = 3 then some (i3 (s 7 o), sI u1 0 0 0) else (if i3 i = 4 then some (if s 9 o = 0 then 0 else 1, sI u1 0 0 0) else (if i3 i = 5 then some (if s 3 (s 4 o - 1) = 1 ∧ s 10 o = 0 then 1 else 0, sI u1 0 0 0) else (if i3 i = 6 then some (i3 (s 8 o), sI u1 0 0 0) else some (if s 11 o = 0 then 0 else 1, sI u1 0 0 0)))))))) := by
            rw [hm]
            unfold f_X8_object_16
            have h10 := hT.2.2.2.1
            have hth8 : f_X8_isThere N (i3 o) (sI u1 0 0 0) = some (1, sI u1 0 0 0) := by
              rw [mo_isThere M2.mr ho (by rw [e4 4 o (by decide)]; exact hv.2.1), if_neg (by rw [e4 4 o (by decide)]; exact h4)]
            have hw8 : f_X8_hasWish N (i3 o) (sI u1 0 0 0) = some (if s 3 (s 4 o - 1) = 1 ∧ s 10 o = 0 then 1 else 0, sI u1 0 0 0) := by
              rw [mo_hasWish M2.mr ho hv2 (by rw [e4 4 o (by decide), e4 3 _ (by decide)]; exact h3) (by rw [e4 10 o (by decide)]; exact h10), e4 4 o (by decide), e4 3 _ (by decide), e4 10 o (by decide)]
            rw [pt_d, pt_d, show (sI u1 0 0 0).1 0 0 = 0 from rfl, if_neg (show ¬ (0 : Int32) < 0 by decide), hth8, bd_s, if_neg (show ¬ (1 : Int32) = 0 by decide), hw8, i3_bI (by omega), decide_eq_true ho]
            simp only [ck_t, pt_d, bd_s, i3_ix (show o < 2147483648 by omega), M2.mr.g4 ho, M2.mr.g5 ho, M2.mr.g6 ho, M2.mr.g7 ho, M2.mr.g8 ho, M2.mr.g9 ho, M2.mr.g11 ho, e4 4 o (by decide), e4 5 o (by decide), e4 6 o (by decide), e4 7 o (by decide), e4 8 o (by decide), e4 9 o (by decide), e4 11 o (by decide), z9, z11]
            have s9 : (if s 9 o = 0 then (Option.some (α := Int32 × Mm) (0, sI u1 0 0 0)) else some (1, sI u1 0 0 0)) = some (if s 9 o = 0 then 0 else 1, sI u1 0 0 0) := by split <;> rfl
            have s11 : (if s 11 o = 0 then (Option.some (α := Int32 × Mm) (0, sI u1 0 0 0)) else some (1, sI u1 0 0 0)) = some (if s 11 o = 0 then 0 else 1, sI u1 0 0 0) := by split <;> rfl
            have s5 : (if (if s 3 (s 4 o - 1) = 1 ∧ s 10 o = 0 then (1 : Int32) else 0) = 0 then (Option.some (α := Int32 × Mm) (0, sI u1 0 0 0)) else some (1, sI u1 0 0 0)) = some (if s 3 (s 4 o - 1) = 1 ∧ s 10 o = 0 then 1 else 0, sI u1 0 0 0) := by
              by_cases y : s 3 (s 4 o - 1) = 1 ∧ s 10 o = 0
              · rw [if_pos y, if_neg (by decide)]
              · rw [if_neg y, if_pos rfl]
            rw [s9, s11, s5]
          rw [e]
          exact ha.mono (fun z hz => ⟨fun _ => hz.1, hz.2⟩)
        have hT7 : f_X5_tell N t (i3 i) u = (if i3 i = 0 then (Option.some (α := Int32 × Mm) (i3 (s 4 o - 1), u)) else (if i3 i = 1 then some (i3 (s 5 o), u) else (if i3 i = 2 then some (i3 (s 6 o), u) else (if i3 i = 3 then some (i3 (s 7 o), u) else (if i3 i = 4 then some (if s 9 o = 0 then 0 else 1, u) else (if i3 i = 5 then some (if s 3 (s 4 o - 1) = 1 ∧ s 10 o = 0 then 1 else 0, u) else (if i3 i = 6 then some (i3 (s 8 o), u) else some (if s 11 o = 0 then 0 else 1, u)))))))) := by
          unfold f_X5_tell
          simp only [pt_d, k1, nl_s, k4, C.a3 hc, C.a5 hc, C.a6 hc, C.a8 hc, C.a4 hc, hb.1, z9, z11]
          congr 1
          congr 1
          congr 1
          congr 1
          congr 1
          · split <;> rfl
          · congr 1
            · by_cases y : s 3 (s 4 o - 1) = 1 ∧ s 10 o = 0
              · rw [hb.2.2.1 y, if_neg (by decide), if_pos y]
              · rw [hb.2.2.2 y, if_pos rfl, if_neg y]
            · congr 1
              split <;> rfl
        have e40 : oI (s 4 o) = i3 (s 4 o - 1) := oI_p h4
        have hall : ∃ a : Int32, f_X5_tell N t (i3 i) u = some (a, u) ∧ ∀ u1, Ms u1 u1 s → Go (if i3 i = 0 then (Option.some (α := Int32 × Mm) (oI (s 4 o), sI u1 0 0 0)) else (if i3 i = 1 then some (i3 (s 5 o), sI u1 0 0 0) else (if i3 i = 2 then some (i3 (s 6 o), sI u1 0 0 0) else (if i3 i = 3 then some (i3 (s 7 o), sI u1 0 0 0) else (if i3 i = 4 then some (if s 9 o = 0 then 0 else 1, sI u1 0 0 0) else (if i3 i = 5 then some (if s 3 (s 4 o - 1) = 1 ∧ s 10 o = 0 then 1 else 0, sI u1 0 0 0) else (if i3 i = 6 then some (i3 (s 8 o), sI u1 0 0 0) else some (if s 11 o = 0 then 0 else 1, sI u1 0 0 0)))))))) (fun z => z.1 = a ∧ Ms u1 z.2 (nS s 0 0 0)) := by
          rw [hT7, e40]
          by_cases a0 : i3 i = 0
          · simp only [a0, if_true]; exact ⟨_, rfl, fun u1 M1 => Go.s ⟨rfl, hM2 u1 M1⟩⟩
          · by_cases a1 : i3 i = 1
            · simp only [if_neg a0, if_pos a1]; exact ⟨_, rfl, fun u1 M1 => Go.s ⟨rfl, hM2 u1 M1⟩⟩
            · by_cases a2 : i3 i = 2
              · simp only [if_neg a0, if_neg a1, if_pos a2]; exact ⟨_, rfl, fun u1 M1 => Go.s ⟨rfl, hM2 u1 M1⟩⟩
              · by_cases a3 : i3 i = 3
                · simp only [if_neg a0, if_neg a1, if_neg a2, if_pos a3]; exact ⟨_, rfl, fun u1 M1 => Go.s ⟨rfl, hM2 u1 M1⟩⟩
                · by_cases a4 : i3 i = 4
                  · simp only [if_neg a0, if_neg a1, if_neg a2, if_neg a3, if_pos a4]; exact ⟨_, rfl, fun u1 M1 => Go.s ⟨rfl, hM2 u1 M1⟩⟩
                  · by_cases a5 : i3 i = 5
                    · simp only [if_neg a0, if_neg a1, if_neg a2, if_neg a3, if_neg a4, if_pos a5]; exact ⟨_, rfl, fun u1 M1 => Go.s ⟨rfl, hM2 u1 M1⟩⟩
                    · by_cases a6 : i3 i = 6
                      · simp only [if_neg a0, if_neg a1, if_neg a2, if_neg a3, if_neg a4, if_neg a5, if_pos a6]; exact ⟨_, rfl, fun u1 M1 => Go.s ⟨rfl, hM2 u1 M1⟩⟩
                      · simp only [if_neg a0, if_neg a1, if_neg a2, if_neg a3, if_neg a4, if_neg a5, if_neg a6]; exact ⟨_, rfl, fun u1 M1 => Go.s ⟨rfl, hM2 u1 M1⟩⟩
        obtain ⟨a, h1, h2⟩ := hall
        exact St2.ex (kx := 0) (a := a) (by decide) hk H C M ⟨false, hx7 a h1⟩ (fun u1 M1 => hx8 u1 M1 a (h2 u1 M1))
end TEL

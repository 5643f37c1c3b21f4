section OPS
variable {th : Nat → Option Nat} {n m fw tt w k : Nat} {l g : Nat → Nat} {q : Nat → Prop} {r u u1 u2 : Mm} {s s' : Sm} {o t v N : Nat}
theorem CRr_0 {kx : Nat} (C : CRr th m g q r u s) : CRr th m g q r u (nS s 0 0 kx) := by
  unfold CRr
  have e1 : nS s 0 0 kx 0 15 = s 0 15 := nS_ne (by omega)
  have e2 : nS s 0 0 kx 14 = s 14 := by funext x; rw [nS_ne (by omega)]
  have e3 : FW (nS s 0 0 kx) = FW s := FW_c (by funext x; rw [nS_ne (by omega)])
  have e4 : TT (nS s 0 0 kx) = TT s := TT_c (by funext x; rw [nS_ne (by omega)])
  rw [e1, e2, e3, e4]
  exact C.s00
theorem Ms_0 {kx : Nat} {w : Int32} (M : Ms r u s) (hw : w = i3 kx) : Ms r (sI u 0 0 w) (nS s 0 0 kx) := by
  subst hw
  exact M.step (M.mr.set (by simp [nsc]) rfl)
theorem St1.mk {x : Option (Int32 × Mm)} {y : Mm → Option (Int32 × Mm)} {a : Int32} {g' : Nat → Nat} (M : Ms u u s) (hc : Go x (fun z => z.1 = a ∧ CRr th 0 g' (fun _ => False) u z.2 s')) (hm : ∀ u1, Ms u1 u1 s → Go (y u1) (fun z => z.1 = a ∧ Ms u1 z.2 s')) (H : LI (k + 1) d0 0 g s') : St1 k x y := by
  obtain ⟨⟨a1, u1⟩, h1, h2, h3⟩ := hc
  obtain ⟨⟨a2, u2⟩, h4, h5, h6⟩ := hm u1 (M.of h3.1)
  have h2 : a1 = a := h2
  have h5 : a2 = a := h5
  subst h2 h5
  exact ⟨a2, u1, u2, h1, h4, Jr.nx H h3 h6⟩
theorem St2.mk {x : Option (Nat × Int32 × Bool × Mm)} {y : Mm → Option (Int32 × Mm)} {kx : Nat} {a : Int32} {g' : Nat → Nat} (hk : kx ≤ 2) (M : Ms u u s) (hc : Go x (fun z => z.1 = kx ∧ z.2.1 = a ∧ CRr th 0 g' (fun _ => False) u z.2.2.2 s')) (hm : ∀ u1, Ms u1 u1 s → Go (y u1) (fun z => (kx = 0 → z.1 = a) ∧ Ms u1 z.2 s')) (h0 : s' 0 0 = kx) (H : LI (k + 1) d0 0 g s') : St2 k x y := by
  obtain ⟨⟨kx1, a1, b1, u1⟩, h1, h2, h3, h4⟩ := hc
  obtain ⟨⟨a2, u2⟩, h5, h6, h7⟩ := hm u1 (M.of h4.1)
  have h2 : kx1 = kx := h2
  have h3 : a1 = a := h3
  subst h2 h3
  refine ⟨kx1, a1, b1, u1, a2, u2, h1, h5, ?_, fun z => (h6 z).symm, hk, Jr.nx H h4 h7⟩
  have := h7.mr.g0 (k := 0) (by simp [nsc])
  rw [h0] at this
  exact this
theorem LI_z {kx : Nat} (H : LI k d0 0 g s) (hk : k + 1 ≤ 1000) : LI (k + 1) d0 0 g (nS s 0 0 kx) := LI_0 (by decide) (LI_up H hk)
theorem St2.ex {x : Option (Nat × Int32 × Bool × Mm)} {y : Mm → Option (Int32 × Mm)} {kx : Nat} {a : Int32} (hk : kx ≤ 2) (hkk : k + 1 ≤ 1000) (H : LI k d0 0 g s) (C : CRr th 0 g (fun _ => False) u u s) (M : Ms u u s) (hx : ∃ b, x = some (kx, a, b, u)) (hm : ∀ u1, Ms u1 u1 s → Go (y u1) (fun z => (kx = 0 → z.1 = a) ∧ Ms u1 z.2 (nS s 0 0 kx))) : St2 k x y := by
  obtain ⟨b, hx⟩ := hx
  exact St2.mk (s' := nS s 0 0 kx) hk M ⟨_, hx, rfl, rfl, CRr_0 C⟩ hm nS_eq (LI_z H hkk)
theorem J_own (H : LI n d0 0 g s) (C : CR th m l v g q fw tt r u s) (hd : ∀ o, s 4 o = 0 → th o = none) {c x : Nat} (hc : (c = 13 ∧ x < 400) ∨ (c = 18 ∧ x < 20) ∨ (c = 12 ∧ x < 480 ∧ s 4 (x / 6) ≠ 0)) : s c x ≤ 80 ∧ (s c x ≠ 0 → th (s c x - 1) ≠ none) := by
  have key : s c x ≤ 80 ∧ (s c x ≠ 0 → s 4 (s c x - 1) ≠ 0) := by
    rcases hc with ⟨rfl, h⟩ | ⟨rfl, h⟩ | ⟨rfl, h, h4⟩
    · exact H.2.2.2.2.2.2.2.1 x h
    · exact H.2.2.2.2.2.2.2.2.1 x h
    · have := H.2.2.2.1 x h h4
      exact ⟨this.1, fun z => (this.2 z).2⟩
  exact ⟨key.1, fun z => ((C.cs (by omega)).2 (key.2 z)).2⟩
theorem st_seen (hN : 5000 ≤ N) (J : Jk k u) (hk : k + 1 ≤ 1000) (x : Int32) : St2 k (f_X7_seen N x u) (f_X8_seen N x) := by
  obtain ⟨th, g, s, H, C, M, hd⟩ := J
  rcases i3_cs x (b := 20) (by decide) with hx | ⟨w, hw, rfl⟩
  · refine St2.ex (kx := 1) (a := 0) (by decide) hk H C M ⟨false, ?_⟩ (fun u1 M1 => ?_)
    · unfold f_X7_seen
      by_cases h0 : x < 0
      · rw [if_pos h0]
      · rw [if_neg h0, if_neg (fun z => by rcases hx with y | y; exact h0 y; exact absurd z (Int32.not_lt.mpr y))]
    · have : f_X8_seen N x u1 = f_X8_seen_11 N x u1 := by
        unfold f_X8_seen
        by_cases h0 : x < 0
        · rw [if_pos h0]
        · rw [if_neg h0, if_neg (fun z => by rcases hx with y | y; exact h0 y; exact absurd z (Int32.not_lt.mpr y))]
      rw [this]
      unfold f_X8_seen_11 f_X8_seen_16
      rw [pt_d, pt_d, show (sI u1 0 0 1).1 0 0 = 1 from rfl, if_neg (by decide)]
      exact Go.s ⟨(fun z => by cases z), Ms_0 M1 rfl⟩
  · have hn0 : ¬ i3 w < 0 := by rw [i3_ltL (by omega) (by decide)]; omega
    have h20 : i3 w < 20 := by rw [i3_ltL (by omega) (by decide)]; omega
    have ho := J_own H C hd (c := 18) (x := w) (by omega)
    refine St2.ex (kx := 0) (a := oI (s 18 w)) (by decide) hk H C M ⟨false, ?_⟩ (fun u1 M1 => ?_)
    · unfold f_X7_seen
      rw [if_neg hn0, if_pos h20, i3_bI (by omega), decide_eq_true hw, ck_t, pt_d, i3_ix (by omega), C.x hw, co_num C ho.2, bd_s]
    · unfold f_X8_seen
      rw [if_neg hn0, if_pos h20]
      unfold f_X8_seen_16
      rw [pt_d, pt_d, show (sI u1 0 0 0).1 0 0 = 0 from rfl, if_pos (by decide), i3_bI (by omega), decide_eq_true hw, ck_t, pt_d, i3_ix (by omega)]
      have M2 : Ms u1 (sI u1 0 0 0) (nS s 0 0 0) := Ms_0 (kx := 0) M1 rfl
      rw [M2.mr.g18 hw, nS_ne (by omega)]
      exact Go.s ⟨fun _ => rfl, M2⟩
theorem st_at (hN : 5000 ≤ N) (J : Jk k u) (hk : k + 1 ≤ 1000) (x : Int32) : St2 k (f_X7_at N x u) (f_X8_at N x) := by
  obtain ⟨th, g, s, H, C, M, hd⟩ := J
  rcases i3_cs x (b := 400) (by decide) with hx | ⟨w, hw, rfl⟩
  · refine St2.ex (kx := 1) (a := 0) (by decide) hk H C M ⟨false, ?_⟩ (fun u1 M1 => ?_)
    · unfold f_X7_at
      by_cases h0 : x < 0
      · rw [if_pos h0]
      · rw [if_neg h0, if_neg (fun z => by rcases hx with y | y; exact h0 y; exact absurd z (Int32.not_lt.mpr y))]
    · have : f_X8_at N x u1 = f_X8_at_12 N x u1 := by
        unfold f_X8_at
        by_cases h0 : x < 0
        · rw [if_pos h0]
        · rw [if_neg h0, if_neg (fun z => by rcases hx with y | y; exact h0 y; exact absurd z (Int32.not_lt.mpr y))]
      rw [this]
      unfold f_X8_at_12 f_X8_at_17
      rw [pt_d, pt_d, show (sI u1 0 0 1).1 0 0 = 1 from rfl, if_neg (by decide)]
      exact Go.s ⟨(fun z => by cases z), Ms_0 M1 rfl⟩
  · have hn0 : ¬ i3 w < 0 := by rw [i3_ltL (by omega) (by decide)]; omega
    have h20 : i3 w < 400 := by rw [i3_ltL (by omega) (by decide)]; omega
    have ho := J_own H C hd (c := 13) (x := w) (by omega)
    refine St2.ex (kx := 0) (a := oI (s 13 w)) (by decide) hk H C M ⟨false, ?_⟩ (fun u1 M1 => ?_)
    · unfold f_X7_at
      rw [if_neg hn0, if_pos h20, co_owner C hw, bd_s, co_num C ho.2, bd_s]
    · unfold f_X8_at
      rw [if_neg hn0, if_pos h20]
      unfold f_X8_at_17
      rw [pt_d, pt_d, show (sI u1 0 0 0).1 0 0 = 0 from rfl, if_pos (by decide), i3_bI (by omega), decide_eq_true hw, ck_t, pt_d, i3_ix (by omega)]
      have M2 : Ms u1 (sI u1 0 0 0) (nS s 0 0 0) := Ms_0 (kx := 0) M1 rfl
      rw [M2.mr.g13 hw, nS_ne (by omega)]
      exact Go.s ⟨fun _ => rfl, M2⟩
theorem st_freed (hN : 5000 ≤ N) (J : Jk k u) (hk : k + 1 ≤ 1000) (x : Int32) : St1 k (f_X7_freed N x u) (f_X8_freed N x) := by
  obtain ⟨th, g, s, H, C, M, hd⟩ := J
  have hB := H.2.2.2.2.2.2.2.2.2.1
  have hf : s 0 20 ≤ 1000 := by have := hB.2.1; have := hB.2.2; omega
  have key : ∃ a, f_X7_freed N x u = some (a, u) ∧ ∀ u1, Ms u1 u1 s → Go (f_X8_freed N x u1) (fun z => z.1 = a ∧ Ms u1 z.2 (nS s 0 0 0)) := by
    by_cases h0 : x < 0
    · refine ⟨-1, ?_, fun u1 M1 => ?_⟩
      · unfold f_X7_freed f_X4_freedNumber
        rw [if_pos h0, bd_s]
      · unfold f_X8_freed
        rw [pt_d, if_pos h0]
        exact Go.s ⟨rfl, Ms_0 M1 rfl⟩
    · obtain ⟨i, hi, rfl⟩ := i3_of h0
      have hM2 : ∀ u1, Ms u1 u1 s → Ms u1 (sI u1 0 0 0) (nS s 0 0 0) := fun u1 M1 => Ms_0 M1 rfl
      have h20 : ∀ u1, Ms u1 u1 s → (sI u1 0 0 0).1 0 20 = i3 (s 0 20) := fun u1 M1 => by rw [(hM2 u1 M1).mr.g0 (k := 20) (by simp [nsc]), nS_ne (by omega)]
      by_cases h1 : s 0 20 ≤ i
      · refine ⟨-1, ?_, fun u1 M1 => ?_⟩
        · unfold f_X7_freed f_X4_freedNumber
          rw [if_neg h0, pt_d, C.cn.1, if_pos ((i3_le (by omega) hi).mpr h1), bd_s]
        · unfold f_X8_freed
          rw [pt_d, if_neg h0, pt_d, h20 u1 M1, if_pos ((i3_le (by omega) hi).mpr h1)]
          exact Go.s ⟨rfl, hM2 u1 M1⟩
      · have hle : ¬ i3 (s 0 20) ≤ i3 i := fun z => h1 ((i3_le (by omega) hi).mp z)
        have cmp : (i3 (s 0 20) - 100 ≤ i3 i ↔ s 0 20 ≤ i + 100) ∧ (i3 i < i3 (s 0 20) - 100 ↔ ¬ s 0 20 ≤ i + 100) := by
          have e1 : (i3 (s 0 20) - 100).toInt = (s 0 20 : Int) - 100 := by
            rw [Int32.toInt_sub, i3_int (by omega), show (100 : Int32).toInt = 100 by decide]
            apply Int.bmod_eq_of_le <;> omega
          have e2 : (i3 i).toInt = (i : Int) := i3_int hi
          rw [Int32.le_iff_toInt_le, Int32.lt_iff_toInt_lt, e1, e2]
          omega
        by_cases h2 : s 0 20 ≤ i + 100
        · refine ⟨i3 (s 19 (i % 100)), ?_, fun u1 M1 => ?_⟩
          · unfold f_X7_freed f_X4_freedNumber
            rw [if_neg h0, pt_d, C.cn.1, if_neg hle, pt_d, if_pos (cmp.1.mpr h2), i3_mod hi, i3_bI (by omega), decide_eq_true (by omega), ck_t, pt_d, i3_ix (by omega), C.e (by omega), bd_s]
          · unfold f_X8_freed
            rw [pt_d, if_neg h0, pt_d, h20 u1 M1, if_neg hle, pt_d, if_neg (fun z => (cmp.2.mp z) h2), i3_mod hi, i3_bI (by omega), decide_eq_true (by omega), ck_t, pt_d, i3_ix (by omega), (hM2 u1 M1).mr.g19 (by omega), nS_ne (by omega)]
            exact Go.s ⟨rfl, hM2 u1 M1⟩
        · refine ⟨-1, ?_, fun u1 M1 => ?_⟩
          · unfold f_X7_freed f_X4_freedNumber
            rw [if_neg h0, pt_d, C.cn.1, if_neg hle, pt_d, if_neg (fun z => h2 (cmp.1.mp z)), bd_s]
          · unfold f_X8_freed
            rw [pt_d, if_neg h0, pt_d, h20 u1 M1, if_neg hle, pt_d, if_pos (cmp.2.mpr h2)]
            exact Go.s ⟨rfl, hM2 u1 M1⟩
  obtain ⟨a, h1, h2⟩ := key
  exact St1.mk (s' := nS s 0 0 0) M ⟨_, h1, rfl, CRr_0 C⟩ h2 (LI_z H hk)
theorem st_listed (hN : 5000 ≤ N) (J : Jk k u) (hk : k + 1 ≤ 1000) (x : Int32) : St1 k (f_X7_listed N x u) (f_X8_listed N x) := by
  obtain ⟨th, g, s, H, C, M, hd⟩ := J
  have hL := H.2.2.2.2.2.1
  have h80 : s 0 15 ≤ 80 := by rw [hL.1]; exact cnt_le
  have key : ∃ a, f_X7_listed N x u = some (a, u) ∧ ∀ u1, Ms u1 u1 s → Go (f_X8_listed N x u1) (fun z => z.1 = a ∧ Ms u1 z.2 (nS s 0 0 0)) := by
    by_cases h0 : x < 0
    · refine ⟨-1, ?_, fun u1 M1 => ?_⟩
      · unfold f_X7_listed f_X3_item
        rw [if_pos h0, bd_s]
        unfold f_X7_numberOf
        rw [nl_n, bd_s]
      · unfold f_X8_listed
        rw [pt_d, if_pos h0]
        exact Go.s ⟨rfl, Ms_0 M1 rfl⟩
    · obtain ⟨i, hi, rfl⟩ := i3_of h0
      have M2 : ∀ u1, Ms u1 u1 s → Ms u1 (sI u1 0 0 0) (nS s 0 0 0) := fun u1 M1 => Ms_0 M1 rfl
      have h15 : ∀ u1, Ms u1 u1 s → (sI u1 0 0 0).1 0 15 = i3 (s 0 15) := fun u1 M1 => by rw [(M2 u1 M1).mr.g0 (k := 15) (by simp [nsc]), nS_ne (by omega)]
      by_cases h1 : i < s 0 15
      · have hLi := hL.2 i h1
        have h4 : s 4 (s 14 i) ≠ 0 := fun z => by
          have := ((H.2.1 _ hLi.1).2 z).1
          omega
        have hth := ((C.cs hLi.1).2 h4).2
        refine ⟨i3 (s 14 i), ?_, fun u1 M1 => ?_⟩
        · unfold f_X7_listed
          rw [x3_item (j := i) C.cl.1 h80 rfl hi, bd_s, if_pos h1, C.cl.2 i h1]
          unfold f_X7_numberOf
          cases hc : th (s 14 i) with
          | none => exact absurd hc hth
          | some t => rw [nl_s, pt_d, C.a0 hc, bd_s]
        · unfold f_X8_listed
          rw [pt_d, if_neg h0, pt_d, h15 u1 M1, if_neg (fun z => by have := (i3_le (by omega) hi).mp z; omega), i3_bI hi, decide_eq_true (by omega), ck_t, pt_d, i3_ix hi, (M2 u1 M1).mr.g14 (by omega), nS_ne (by omega)]
          exact Go.s ⟨rfl, M2 u1 M1⟩
      · refine ⟨-1, ?_, fun u1 M1 => ?_⟩
        · unfold f_X7_listed
          rw [x3_item (j := i) C.cl.1 h80 rfl hi, bd_s, if_neg h1]
          unfold f_X7_numberOf
          rw [nl_n, bd_s]
        · unfold f_X8_listed
          rw [pt_d, if_neg h0, pt_d, h15 u1 M1, if_pos ((i3_le (by omega) hi).mpr (by omega))]
          exact Go.s ⟨rfl, M2 u1 M1⟩
  obtain ⟨a, h1, h2⟩ := key
  exact St1.mk (s' := nS s 0 0 0) M ⟨_, h1, rfl, CRr_0 C⟩ h2 (LI_z H hk)
end OPS

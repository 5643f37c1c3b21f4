section OP2
variable {th : Nat → Option Nat} {n m fw tt w k : Nat} {l g : Nat → Nat} {q : Nat → Prop} {r u u1 u2 : Mm} {s s' : Sm} {o t v N : Nat}
theorem LI_CI (H : LI n d0 0 g s) : CI n s := by
  have hM := (mark_start H).1
  obtain ⟨hK, hT, hG, hF, hR, hL, hW, hO, hX, hB, hC, hS⟩ := H
  refine ⟨hK, fun p hp h4 => ?_, hG, hF, fun p hp h4 => ?_, hW, hO, hX, hB⟩
  · have h := (hT p hp).1 h4
    exact ⟨h.1, h.2.1, h.2.2.1, h.2.2.2.1, h.2.2.2.2.1, h.2.2.2.2.2.1⟩
  · have h := hM.2.2.2.2.1 p hp (by rw [nS_ne (by omega)]; exact h4)
    rw [nS_ne (by omega), nS_ne (by omega)] at h
    have e1 : eK (nS s 0 15 0) p = eK s p := cnt_congr (fun i _ => by rw [nS_ne (by omega), nS_ne (by omega), nS_ne (by omega), nS_ne (by omega)])
    have e2 : wT (nS s 0 15 0) p = wT s p := by
      unfold wT
      rw [nS_ne (by omega)]
      exact cnt_congr (fun i _ => by rw [nS_ne (by omega)])
    rw [e1, e2] at h
    exact h
theorem bs_TT (H : LI n d0 0 g s) : cnt 400 (bs s) = TT s := by
  have hC := LI_CI H
  have HP := LI_PG H
  apply Nat.le_antisymm
  · exact cnt_inj (fun w => s 13 w - 1) (fun i hi hb => by
      have h := bs_ok hC hi hb
      exact ⟨h.1, decide_eq_true h.2.1⟩) (fun i j hi hj hb1 hb2 e => by
      have e : s 13 i - 1 = s 13 j - 1 := e
      have h1 := (bs_t.mp hb1).2
      have h2 := (bs_t.mp hb2).2
      rw [e] at h1
      omega)
  · exact cnt_inj (fun o => s 7 o) (fun o ho hb => by
      have h4 : s 4 o ≠ 0 := by simpa using hb
      have hg := HP.1 o ho h4
      have h1 := (hg.1.2 (s 7 o) (by have := hg.1.1; omega)).mpr ⟨Nat.le_refl _, by omega⟩
      exact ⟨by have := hg.1.1; omega, bs_t.mpr ⟨by omega, by rw [h1, show o + 1 - 1 = o by omega]⟩⟩) (fun i j hi hj hb1 hb2 e => by
      have e : s 7 i = s 7 j := e
      have h4i : s 4 i ≠ 0 := by simpa using hb1
      have h4j : s 4 j ≠ 0 := by simpa using hb2
      have hgi := HP.1 i hi h4i
      have hgj := HP.1 j hj h4j
      have h1 := (hgi.1.2 (s 7 i) (by have := hgi.1.1; omega)).mpr ⟨Nat.le_refl _, by omega⟩
      have h2 := (hgj.1.2 (s 7 i) (by have := hgi.1.1; omega)).mpr ⟨by omega, by omega⟩
      omega)
theorem lo_fw (hO : iO s) : ∀ (j w : Nat) (u : Mm), w ≤ 400 → 400 - w < j → Ms r u s → f_X8_freeWords_4 N j (i3 (cnt w (fun x => s 13 x == 0))) (i3 w) u = some (i3 (FW s), u) := by
  intro j
  induction j with
  | zero => intro w u _ hj; omega
  | succ j ih =>
    intro w u hw hj C
    show g_X8_freeWords_4 N (f_X8_freeWords_4 N j) (i3 (cnt w (fun x => s 13 x == 0))) (i3 w) u = _
    unfold g_X8_freeWords_4
    by_cases hw4 : 400 ≤ w
    · rw [if_pos ((i3_Lle (by omega) (by decide)).mpr hw4)]
      have : w = 400 := by omega
      subst this
      rfl
    · have h80 := (hO w (by omega)).1
      rw [if_neg (fun z => hw4 ((i3_Lle (by omega) (by decide)).mp z)), i3_bI (by omega), decide_eq_true (by omega), ck_t, pt_d, i3_ix (by omega), C.mr.g13 (by omega)]
      have zge : 0 ≤ oI (s 13 w) ↔ s 13 w ≠ 0 := oI_ge0 (by omega)
      unfold f_X8_freeWords_26
      by_cases h0 : s 13 w = 0
      · rw [if_neg (fun z => (zge.mp z) h0)]
        simp only [i3_addL]
        have := ih (w + 1) u (by omega) (by omega) C
        have e : cnt (w + 1) (fun x => s 13 x == 0) = cnt w (fun x => s 13 x == 0) + 1 := cnt_step (by simp [h0])
        rw [e] at this
        exact this
      · rw [if_pos (zge.mpr h0)]
        simp only [i3_addL, Nat.add_zero]
        have := ih (w + 1) u (by omega) (by omega) C
        have e : cnt (w + 1) (fun x => s 13 x == 0) = cnt w (fun x => s 13 x == 0) := cnt_stay (by simp [h0])
        rw [e] at this
        exact this
theorem mo_fw (hN : 5000 ≤ N) (hO : iO s) (C : Ms r u s) : f_X8_freeWords N u = some (i3 (FW s), u) := lo_fw hO N 0 u (by omega) (by omega) C
theorem st_count (hN : 5000 ≤ N) (J : Jk k u) (hk : k + 1 ≤ 1000) (x : Int32) : St2 k (f_X7_count N x u) (f_X8_count N x) := by
  obtain ⟨th, g, s, H, C, M, hd⟩ := J
  rcases i3_cs x (b := 9) (by decide) with hy | ⟨i, hi9, rfl⟩
  · have hm : ∀ u1, Ms u1 u1 s → Go (f_X8_count N x u1) (fun z => (1 = 0 → z.1 = (0 : Int32)) ∧ Ms u1 z.2 (nS s 0 0 1)) := fun u1 M1 => by
      have hne : ∀ j : Nat, j < 9 → ¬ x = i3 j := fun j hj z => by
        rcases hy with a | a
        · rw [z, i3_ltL (by omega) (by decide)] at a; omega
        · rw [z, i3_le (by decide) (by omega)] at a; omega
      have : f_X8_count N x u1 = f_X8_count_11 N x u1 := by
        unfold f_X8_count
        by_cases h0 : x < 0
        · rw [if_pos h0]
        · obtain ⟨j, hj, rfl⟩ := i3_of h0
          have h8 : 9 ≤ j := by
            rcases hy with a | a
            · exact absurd a h0
            · exact (i3_le (by decide) hj).mp a
          rw [if_neg h0, if_neg (show ¬ i3 j ≤ 8 by rw [i3_leL hj (by decide)]; omega)]
      rw [this]
      unfold f_X8_count_11 f_X8_count_16
      rw [pt_d, if_neg (show ¬ x = 0 from hne 0 (by decide)), if_neg (show ¬ x = 1 from hne 1 (by decide)), if_neg (show ¬ x = 2 from hne 2 (by decide)), if_neg (show ¬ x = 3 from hne 3 (by decide)), if_neg (show ¬ x = 4 from hne 4 (by decide)), if_neg (show ¬ x = 5 from hne 5 (by decide)), if_neg (show ¬ x = 6 from hne 6 (by decide)), if_neg (show ¬ x = 7 from hne 7 (by decide)), if_neg (show ¬ x = 8 from hne 8 (by decide))]
      exact Go.s ⟨(fun z => by cases z), Ms_0 M1 rfl⟩
    refine St2.ex (kx := 1) (a := 0) (by decide) hk H C M ⟨false, ?_⟩ hm
    unfold f_X7_count
    by_cases h0 : x < 0
    · rw [if_pos h0]
    · rw [if_neg h0, if_neg (fun z => by rcases hy with a | a; exact h0 a; exact absurd z (Int32.not_lt.mpr a))]
  · have hn0 : ¬ i3 i < 0 := by rw [i3_ltL (by omega) (by decide)]; omega
    have h9 : i3 i < 9 := by rw [i3_ltL (by omega) (by decide)]; omega
    have h8 : i3 i ≤ 8 := by rw [i3_leL (by omega) (by decide)]; omega
    have hm : ∀ u1, f_X8_count N (i3 i) u1 = f_X8_count_16 N (i3 i) 0 u1 := fun u1 => by
      unfold f_X8_count
      rw [if_neg hn0, if_pos h8]
    have hM2 : ∀ u1, Ms u1 u1 s → Ms u1 (sI u1 0 0 0) (nS s 0 0 0) := fun u1 M1 => Ms_0 M1 rfl
    have hg : ∀ u1, Ms u1 u1 s → ∀ j, nsc 0 j → j ≠ 0 → (sI u1 0 0 0).1 0 j = i3 (s 0 j) := fun u1 M1 j hj hj0 => by rw [(hM2 u1 M1).mr.g0 hj, nS_ne (fun z => hj0 z.2)]
    have fin : ∀ a : Int32, f_X7_count N (i3 i) u = some (0, a, false, u) → (∀ u1, Ms u1 u1 s → Go (f_X8_count_16 N (i3 i) 0 u1) (fun z => z.1 = a ∧ Ms u1 z.2 (nS s 0 0 0))) → St2 k (f_X7_count N (i3 i) u) (f_X8_count N (i3 i)) := fun a h1 h2 =>
      St2.ex (kx := 0) (a := a) (by decide) hk H C M ⟨false, h1⟩ (fun u1 M1 => by rw [hm]; exact (h2 u1 M1).mono (fun z hz => ⟨fun _ => hz.1, hz.2⟩))
    rcases (show i = 0 ∨ i = 1 ∨ i = 2 ∨ i = 3 ∨ i = 4 ∨ i = 5 ∨ i = 6 ∨ i = 7 ∨ i = 8 by omega) with rfl | rfl | rfl | rfl | rfl | rfl | rfl | rfl | rfl
    · refine fin (i3 (TT s)) (by unfold f_X7_count; rw [if_neg hn0, if_pos h9, if_pos (show i3 0 = 0 by decide), pt_d, C.c.2]) (fun u1 M1 => ?_)
      unfold f_X8_count_16
      rw [pt_d, if_pos (show i3 0 = 0 by decide)]
      have hC2 : CI (k + 1) (nS s 0 0 0) := LI_CI (LI_z H hk)
      refine Go.bv (mo_find hN hC2 (hM2 u1 M1)) (fun u2 h2 => ?_)
      have e : cnt 400 (bs (nS s 0 0 0)) = TT s := by
        rw [bs_TT (LI_z H hk)]
        exact TT_c (by funext x; rw [nS_ne (by omega)])
      rw [pt_d, h2.2.1, e]
      exact Go.s ⟨rfl, h2.1⟩
    · refine fin (i3 (s 0 15)) (by unfold f_X7_count; rw [if_neg hn0, if_pos h9, if_neg (show ¬ i3 1 = 0 by decide), if_pos (show i3 1 = 1 by decide), pt_d, C.cl.1]) (fun u1 M1 => ?_)
      unfold f_X8_count_16
      rw [pt_d, if_neg (show ¬ i3 1 = 0 by decide), if_pos (show i3 1 = 1 by decide)]
      rw [pt_d, hg u1 M1 15 (by simp [nsc]) (by decide)]
      exact Go.s ⟨rfl, hM2 u1 M1⟩
    · refine fin (i3 (s 0 17)) (by unfold f_X7_count; rw [if_neg hn0, if_pos h9, if_neg (show ¬ i3 2 = 0 by decide), if_neg (show ¬ i3 2 = 1 by decide), if_pos (show i3 2 = 2 by decide), pt_d, C.i.1]) (fun u1 M1 => ?_)
      unfold f_X8_count_16
      rw [pt_d, if_neg (show ¬ i3 2 = 0 by decide), if_neg (show ¬ i3 2 = 1 by decide), if_pos (show i3 2 = 2 by decide)]
      rw [pt_d, hg u1 M1 17 (by simp [nsc]) (by decide)]
      exact Go.s ⟨rfl, hM2 u1 M1⟩
    · refine fin (i3 (FW s)) (by unfold f_X7_count; rw [if_neg hn0, if_pos h9, if_neg (show ¬ i3 3 = 0 by decide), if_neg (show ¬ i3 3 = 1 by decide), if_neg (show ¬ i3 3 = 2 by decide), if_pos (show i3 3 = 3 by decide), pt_d, C.c.1]) (fun u1 M1 => ?_)
      unfold f_X8_count_16
      rw [pt_d, if_neg (show ¬ i3 3 = 0 by decide), if_neg (show ¬ i3 3 = 1 by decide), if_neg (show ¬ i3 3 = 2 by decide), if_pos (show i3 3 = 3 by decide)]
      have hO := (LI_z (kx := 0) H hk).2.2.2.2.2.2.2.1
      rw [mo_fw hN hO (hM2 u1 M1), bd_s, FW_c (s := s) (by funext x; rw [nS_ne (by omega)])]
      exact Go.s ⟨rfl, hM2 u1 M1⟩
    · refine fin (i3 (s 0 20)) (by unfold f_X7_count; rw [if_neg hn0, if_pos h9, if_neg (show ¬ i3 4 = 0 by decide), if_neg (show ¬ i3 4 = 1 by decide), if_neg (show ¬ i3 4 = 2 by decide), if_neg (show ¬ i3 4 = 3 by decide), if_pos (show i3 4 = 4 by decide), pt_d, C.cn.1]) (fun u1 M1 => ?_)
      unfold f_X8_count_16
      rw [pt_d, if_neg (show ¬ i3 4 = 0 by decide), if_neg (show ¬ i3 4 = 1 by decide), if_neg (show ¬ i3 4 = 2 by decide), if_neg (show ¬ i3 4 = 3 by decide), if_pos (show i3 4 = 4 by decide)]
      rw [pt_d, hg u1 M1 20 (by simp [nsc]) (by decide)]
      exact Go.s ⟨rfl, hM2 u1 M1⟩
    · refine fin (i3 (s 0 21)) (by unfold f_X7_count; rw [if_neg hn0, if_pos h9, if_neg (show ¬ i3 5 = 0 by decide), if_neg (show ¬ i3 5 = 1 by decide), if_neg (show ¬ i3 5 = 2 by decide), if_neg (show ¬ i3 5 = 3 by decide), if_neg (show ¬ i3 5 = 4 by decide), if_pos (show i3 5 = 5 by decide), pt_d, C.cn.2.1]) (fun u1 M1 => ?_)
      unfold f_X8_count_16
      rw [pt_d, if_neg (show ¬ i3 5 = 0 by decide), if_neg (show ¬ i3 5 = 1 by decide), if_neg (show ¬ i3 5 = 2 by decide), if_neg (show ¬ i3 5 = 3 by decide), if_neg (show ¬ i3 5 = 4 by decide), if_pos (show i3 5 = 5 by decide)]
      rw [pt_d, hg u1 M1 21 (by simp [nsc]) (by decide)]
      exact Go.s ⟨rfl, hM2 u1 M1⟩
    · refine fin (i3 (s 0 22)) (by unfold f_X7_count; rw [if_neg hn0, if_pos h9, if_neg (show ¬ i3 6 = 0 by decide), if_neg (show ¬ i3 6 = 1 by decide), if_neg (show ¬ i3 6 = 2 by decide), if_neg (show ¬ i3 6 = 3 by decide), if_neg (show ¬ i3 6 = 4 by decide), if_neg (show ¬ i3 6 = 5 by decide), if_pos (show i3 6 = 6 by decide), pt_d, C.cn.2.2.1]) (fun u1 M1 => ?_)
      unfold f_X8_count_16
      rw [pt_d, if_neg (show ¬ i3 6 = 0 by decide), if_neg (show ¬ i3 6 = 1 by decide), if_neg (show ¬ i3 6 = 2 by decide), if_neg (show ¬ i3 6 = 3 by decide), if_neg (show ¬ i3 6 = 4 by decide), if_neg (show ¬ i3 6 = 5 by decide), if_pos (show i3 6 = 6 by decide)]
      rw [pt_d, hg u1 M1 22 (by simp [nsc]) (by decide)]
      exact Go.s ⟨rfl, hM2 u1 M1⟩
    · refine fin (i3 (s 0 23)) (by unfold f_X7_count; rw [if_neg hn0, if_pos h9, if_neg (show ¬ i3 7 = 0 by decide), if_neg (show ¬ i3 7 = 1 by decide), if_neg (show ¬ i3 7 = 2 by decide), if_neg (show ¬ i3 7 = 3 by decide), if_neg (show ¬ i3 7 = 4 by decide), if_neg (show ¬ i3 7 = 5 by decide), if_neg (show ¬ i3 7 = 6 by decide), if_pos (show i3 7 = 7 by decide), pt_d, C.cn.2.2.2.1]) (fun u1 M1 => ?_)
      unfold f_X8_count_16
      rw [pt_d, if_neg (show ¬ i3 7 = 0 by decide), if_neg (show ¬ i3 7 = 1 by decide), if_neg (show ¬ i3 7 = 2 by decide), if_neg (show ¬ i3 7 = 3 by decide), if_neg (show ¬ i3 7 = 4 by decide), if_neg (show ¬ i3 7 = 5 by decide), if_neg (show ¬ i3 7 = 6 by decide), if_pos (show i3 7 = 7 by decide)]
      rw [pt_d, hg u1 M1 23 (by simp [nsc]) (by decide)]
      exact Go.s ⟨rfl, hM2 u1 M1⟩
    · refine fin (i3 (s 0 24)) (by unfold f_X7_count; rw [if_neg hn0, if_pos h9, if_neg (show ¬ i3 8 = 0 by decide), if_neg (show ¬ i3 8 = 1 by decide), if_neg (show ¬ i3 8 = 2 by decide), if_neg (show ¬ i3 8 = 3 by decide), if_neg (show ¬ i3 8 = 4 by decide), if_neg (show ¬ i3 8 = 5 by decide), if_neg (show ¬ i3 8 = 6 by decide), if_neg (show ¬ i3 8 = 7 by decide), pt_d, C.cn.2.2.2.2]) (fun u1 M1 => ?_)
      unfold f_X8_count_16
      rw [pt_d, if_neg (show ¬ i3 8 = 0 by decide), if_neg (show ¬ i3 8 = 1 by decide), if_neg (show ¬ i3 8 = 2 by decide), if_neg (show ¬ i3 8 = 3 by decide), if_neg (show ¬ i3 8 = 4 by decide), if_neg (show ¬ i3 8 = 5 by decide), if_neg (show ¬ i3 8 = 6 by decide), if_neg (show ¬ i3 8 = 7 by decide), if_pos (show i3 8 = 8 by decide)]
      rw [pt_d, hg u1 M1 24 (by simp [nsc]) (by decide)]
      exact Go.s ⟨rfl, hM2 u1 M1⟩
theorem st_collect (hN : 5000 ≤ N) (J : Jk k u) (hk : k + 1 ≤ 1000) : St1 k (f_X7_collect N u) (f_X8_collect N) := by
  obtain ⟨th, g, s, H, C, M, hd⟩ := J
  have H0 : LI k d0 0 g (nS s 0 0 0) := LI_0 (by decide) H
  have C0 := CRr_0 (kx := 0) C
  refine St1.mk (th := th) (g' := g) (s' := colA (nS s 0 0 0)) (a := i3 (colA (nS s 0 0 0) 0 20) - i3 (nS s 0 0 0 0 20)) M ?_ (fun u1 M1 => ?_) (LI_up (col_inv H0) hk)
  · unfold f_X7_collect
    refine Go.bd (co_run hN H0 C0) (fun a u1 h => ?_)
    have h1 : a = _ := h.1
    rw [h1]
    exact Go.s ⟨rfl, h.2⟩
  · have M2 : Ms u1 (sI u1 0 0 0) (nS s 0 0 0) := Ms_0 M1 rfl
    have e : f_X8_collect N u1 = f_X8_collect N (sI u1 0 0 0) := by
      have es : sI (sI u1 0 0 0) 0 0 0 = sI u1 0 0 0 := by
        unfold sI
        congr 1
        funext a b
        by_cases h : a = 0 ∧ b = 0
        · rw [if_pos h, if_pos h]
        · rw [if_neg h]
      unfold f_X8_collect
      rw [pt_d, pt_d (x := sI (sI u1 0 0 0) 0 0 0), es]
    rw [e]
    exact mo_run hN H0 M2 nS_eq
theorem st_pack (hN : 5000 ≤ N) (J : Jk k u) (hk : k + 1 ≤ 1000) : St1 k (f_X7_pack N u) (f_X8_pack N) := by
  obtain ⟨th, g, s, H, C, M, hd⟩ := J
  have H0 : LI k d0 0 g (nS s 0 0 0) := LI_0 (by decide) H
  have C0 := CRr_0 (kx := 0) C
  have H1 : LI k d0 0 g (nS (nS s 0 0 0) 0 22 (nS s 0 0 0 0 22 + 1)) := LI_0 (by decide) H0
  have hP := pack_inv H1
  refine St1.mk (th := th) (g' := g) (s' := packA (nS (nS s 0 0 0) 0 22 (nS s 0 0 0 0 22 + 1))) (a := i3 (mvd (nS (nS s 0 0 0) 0 22 (nS s 0 0 0 0 22 + 1)) 400)) M ?_ (fun u1 M1 => ?_) (LI_up hP.1 hk)
  · unfold f_X7_pack
    rw [pt_d, C0.cn.2.2.1, i3_addL, pt_d]
    have C1 := C0.n22 (v := nS s 0 0 0 0 22 + 1)
    refine Go.bd (co_move hN H1 C1) (fun a u1 h => ?_)
    have h1 : a = _ := h.1
    rw [h1]
    refine Go.s ⟨rfl, ?_⟩
    have e15 : packA (nS (nS s 0 0 0) 0 22 (nS s 0 0 0 0 22 + 1)) 0 15 = nS s 0 0 0 0 15 := by rw [packA_f (by decide) (by decide), nS_ne (by omega)]
    have e14 : packA (nS (nS s 0 0 0) 0 22 (nS s 0 0 0 0 22 + 1)) 14 = nS s 0 0 0 14 := by rw [packA_f (by decide) (by decide)]; funext x; rw [nS_ne (by omega)]
    have eF : FW (packA (nS (nS s 0 0 0) 0 22 (nS s 0 0 0 0 22 + 1))) = FW (nS s 0 0 0) := by rw [hP.2]; exact FW_c (by funext x; rw [nS_ne (by omega)])
    have eT : TT (packA (nS (nS s 0 0 0) 0 22 (nS s 0 0 0 0 22 + 1))) = TT (nS s 0 0 0) := TT_c (by rw [packA_f (by decide) (by decide)]; funext x; rw [nS_ne (by omega)])
    unfold CRr
    rw [e15, e14, eF, eT]
    exact h.2
  · have M2 : Ms u1 (sI u1 0 0 0) (nS s 0 0 0) := Ms_0 M1 rfl
    have e : f_X8_pack N u1 = f_X8_pack N (sI u1 0 0 0) := by
      have es : sI (sI u1 0 0 0) 0 0 0 = sI u1 0 0 0 := by
        unfold sI
        congr 1
        funext a b
        by_cases h : a = 0 ∧ b = 0
        · rw [if_pos h, if_pos h]
        · rw [if_neg h]
      unfold f_X8_pack
      rw [pt_d, pt_d (x := sI (sI u1 0 0 0) 0 0 0), es]
    rw [e]
    exact mo_pack hN H0 M2 nS_eq
theorem st_hold (hN : 5000 ≤ N) (J : Jk k u) (hk : k + 1 ≤ 1000) (x : Int32) : St1 k (f_X7_hold N x u) (f_X8_hold N x) := by
  obtain ⟨th, g, s, H, C, M, hd⟩ := J
  have C0 := CRr_0 (kx := 0) C
  have hM2 : ∀ u1, Ms u1 u1 s → Ms u1 (sI u1 0 0 0) (nS s 0 0 0) := fun u1 M1 => Ms_0 M1 rfl
  have H0 : LI k d0 0 g (nS s 0 0 0) := LI_0 (by decide) H
  clear C H
  generalize nS s 0 0 0 = z at *
  rcases i3_cs x (b := 80) (by decide) with hx | ⟨o, ho, rfl⟩
  · refine St1.mk (th := th) (g' := g) (s' := z) (a := -1) M ?_ (fun u1 M1 => ?_) (LI_up H0 hk)
    · unfold f_X7_hold
      rw [co_living_no hx, bd_s, nl_n]
      exact Go.s ⟨rfl, C0⟩
    · unfold f_X8_hold f_X8_isWhole
      rw [pt_d, mo_isThere_no (hM2 u1 M1).mr (by exact hx), bd_s, if_pos rfl, bd_s, if_pos rfl]
      exact Go.s ⟨rfl, hM2 u1 M1⟩
  · have hT := (H0.2.1 o ho).1
    have h11 : z 4 o ≠ 0 → z 11 o ≤ 1 := fun h4 => (hT h4).2.2.2.2.1
    have h11' : z 11 o ≤ 1 := by
      by_cases h4 : z 4 o = 0
      · rw [((H0.2.1 o ho).2 h4).2]; omega
      · exact h11 h4
    have h10 : z 4 o ≤ 10 := by
      by_cases h4 : z 4 o = 0
      · omega
      · exact (hT h4).1.2.1
    by_cases hw : z 4 o = 0 ∨ z 11 o ≠ 0
    · refine St1.mk (th := th) (g' := g) (s' := z) (a := -1) M ?_ (fun u1 M1 => ?_) (LI_up H0 hk)
      · unfold f_X7_hold
        rw [co_living C0 ho h11, bd_s, if_pos hw, nl_n]
        exact Go.s ⟨rfl, C0⟩
      · unfold f_X8_hold
        rw [pt_d, mo_isWhole (hM2 u1 M1).mr ho h10 h11', bd_s, if_pos hw, if_pos rfl]
        exact Go.s ⟨rfl, hM2 u1 M1⟩
    · have h4 : z 4 o ≠ 0 := fun y => hw (Or.inl y)
      have h110 : z 11 o = 0 := by
        apply Classical.byContradiction
        intro y
        exact hw (Or.inr y)
      have h6 := (hT h4).2.1
      have hth := ((C0.cs ho).2 h4).2
      cases hc : th o with
      | none => exact absurd hc hth
      | some t =>
      have e5 : nS z 8 o (z 8 o + 1) 5 o = z 5 o := nS_ne (by omega)
      have hL := LI_blk (LI_hand H0 ho h4 h110 hk) ho (by rw [nS_ne (by omega), nS_ne (by omega)]; exact h4)
      have em : moreA o (nS z 8 o (z 8 o + 1)) = blk o (nS (nS z 8 o (z 8 o + 1)) 5 o (z 5 o + 1)) := by unfold moreA; rw [e5]
      rw [← em] at hL
      have e55 : moreA o (nS z 8 o (z 8 o + 1)) 5 o = z 5 o + 1 := by rw [em]; unfold blk; rw [nS_ne (by omega), nS_eq]
      refine St1.mk (th := th) (g' := g) (s' := moreA o (nS z 8 o (z 8 o + 1))) (a := i3 (z 5 o + 1)) M ?_ (fun u1 M1 => ?_) hL
      · unfold f_X7_hold
        rw [co_living C0 ho h11, bd_s, if_neg hw, hc, nl_s, pt_d, C0.a4 hc, i3_addL, pt_d]
        have C1 : CR th (z 0 15) (z 14) 0 g (fun _ => False) (FW z) (TT z) u (sI u t 4 (i3 (z 8 o + 1))) (nS z 8 o (z 8 o + 1)) := C0.t4 (v := z 8 o + 1) hc
        refine Go.bv (co_more C1 hc (by rw [nS_ne (by omega)]; exact h6)) (fun u1 C2 => ?_)
        rw [pt_d, C2.a3 hc, e55]
        refine Go.s ⟨rfl, ?_⟩
        have a15 : moreA o (nS z 8 o (z 8 o + 1)) 0 15 = z 0 15 := by rw [em]; unfold blk; rw [nS_ne (by omega), nS_ne (by omega), nS_ne (by omega)]
        have a14 : moreA o (nS z 8 o (z 8 o + 1)) 14 = z 14 := by rw [em]; unfold blk; funext j; rw [nS_ne (by omega), nS_ne (by omega), nS_ne (by omega)]
        have aF : FW (moreA o (nS z 8 o (z 8 o + 1))) = FW z := FW_c (by rw [em]; unfold blk; funext j; rw [nS_ne (by omega), nS_ne (by omega), nS_ne (by omega)])
        have aT : TT (moreA o (nS z 8 o (z 8 o + 1))) = TT z := TT_c (by rw [em]; unfold blk; funext j; rw [nS_ne (by omega), nS_ne (by omega), nS_ne (by omega)])
        unfold CRr
        rw [a15, a14, aF, aT]
        exact C2
      · unfold f_X8_hold
        rw [pt_d, mo_isWhole (hM2 u1 M1).mr ho h10 h11', bd_s, if_neg hw, if_neg (by decide), i3_bI (by omega), decide_eq_true ho, ck_t, pt_d, i3_ix (by omega), (hM2 u1 M1).mr.g8 ho, i3_addL, ck_t, pt_d]
        have C1 := (hM2 u1 M1).mr.set (c := 8) (k := o) (v := z 8 o + 1) (w := i3 (z 8 o + 1)) (by simp [nsc] <;> omega) rfl
        refine Go.bv (mo_more C1 ho (by rw [nS_ne (by omega)]; exact h6)) (fun u2 C2 => ?_)
        rw [ck_t, pt_d, C2.g5 ho, e55]
        exact Go.s ⟨rfl, (hM2 u1 M1).step C2⟩
theorem st_loose (hN : 5000 ≤ N) (J : Jk k u) (hk : k + 1 ≤ 1000) (x : Int32) : St1 k (f_X7_loose N x u) (f_X8_loose N x) := by
  obtain ⟨th, g, s, H, C, M, hd⟩ := J
  have C0 := CRr_0 (kx := 0) C
  have hM2 : ∀ u1, Ms u1 u1 s → Ms u1 (sI u1 0 0 0) (nS s 0 0 0) := fun u1 M1 => Ms_0 M1 rfl
  have H0 : LI k d0 0 g (nS s 0 0 0) := LI_0 (by decide) H
  clear C H
  generalize nS s 0 0 0 = z at *
  rcases i3_cs x (b := 80) (by decide) with hx | ⟨o, ho, rfl⟩
  · refine St1.mk (th := th) (g' := g) (s' := z) (a := -1) M ?_ (fun u1 M1 => ?_) (LI_up H0 hk)
    · unfold f_X7_loose
      rw [co_living_no hx, bd_s, nl_n]
      exact Go.s ⟨rfl, C0⟩
    · unfold f_X8_loose f_X8_isWhole
      rw [pt_d, mo_isThere_no (hM2 u1 M1).mr (by exact hx), bd_s, if_pos rfl, bd_s, if_pos rfl]
      exact Go.s ⟨rfl, hM2 u1 M1⟩
  · have hT := (H0.2.1 o ho).1
    have h11 : z 4 o ≠ 0 → z 11 o ≤ 1 := fun h4 => (hT h4).2.2.2.2.1
    have h11' : z 11 o ≤ 1 := by
      by_cases h4 : z 4 o = 0
      · rw [((H0.2.1 o ho).2 h4).2]; omega
      · exact h11 h4
    have h10 : z 4 o ≤ 10 := by
      by_cases h4 : z 4 o = 0
      · omega
      · exact (hT h4).1.2.1
    by_cases hw : z 4 o = 0 ∨ z 11 o ≠ 0
    · refine St1.mk (th := th) (g' := g) (s' := z) (a := -1) M ?_ (fun u1 M1 => ?_) (LI_up H0 hk)
      · unfold f_X7_loose
        rw [co_living C0 ho h11, bd_s, if_pos hw, nl_n]
        exact Go.s ⟨rfl, C0⟩
      · unfold f_X8_loose
        rw [pt_d, mo_isWhole (hM2 u1 M1).mr ho h10 h11', bd_s, if_pos hw, if_pos rfl]
        exact Go.s ⟨rfl, hM2 u1 M1⟩
    · have h4 : z 4 o ≠ 0 := fun y => hw (Or.inl y)
      have hth := ((C0.cs ho).2 h4).2
      have hB := H0.2.2.2.2.2.2.2.2.2.1
      have h8b := hB.1 o ho h4
      have hkb := hB.2.2
      have z8 : i3 (z 8 o) = 0 ↔ z 8 o = 0 := i3_eqL (by omega) (by decide)
      cases hc : th o with
      | none => exact absurd hc hth
      | some t =>
      by_cases h8 : z 8 o = 0
      · refine St1.mk (th := th) (g' := g) (s' := z) (a := -1) M ?_ (fun u1 M1 => ?_) (LI_up H0 hk)
        · unfold f_X7_loose
          rw [co_living C0 ho h11, bd_s, if_neg hw, hc, nl_s, pt_d, C0.a4 hc, if_pos (z8.mpr h8)]
          exact Go.s ⟨rfl, C0⟩
        · unfold f_X8_loose
          rw [pt_d, mo_isWhole (hM2 u1 M1).mr ho h10 h11', bd_s, if_neg hw, if_neg (by decide), i3_bI (by omega), decide_eq_true ho, ck_t, pt_d, i3_ix (by omega), (hM2 u1 M1).mr.g8 ho, if_pos (z8.mpr h8)]
          exact Go.s ⟨rfl, hM2 u1 M1⟩
      · have HL := LI_unhand H0 ho h8
        have h4' : nS z 8 o (z 8 o - 1) 4 o ≠ 0 := by rw [nS_ne (by omega)]; exact h4
        obtain ⟨g2, hinv⟩ := lessA_inv HL ho h4'
        have e20 : nS z 8 o (z 8 o - 1) 0 20 = z 0 20 := nS_ne (by omega)
        have e1 : i3 (z 8 o) - 1 = i3 (z 8 o - 1) := i3_subL (show 1 ≤ z 8 o by omega)
        have key : ∃ g', Go (f_X7_loose N (i3 o) u) (fun y => y.1 = i3 (lessA o (nS z 8 o (z 8 o - 1)) 0 20) - i3 (z 0 20) ∧ CRr th 0 g' (fun _ => False) u y.2 (lessA o (nS z 8 o (z 8 o - 1)))) := by
          have C1 : CRr th 0 g (fun _ => False) u (sI u t 4 (i3 (z 8 o - 1))) (nS z 8 o (z 8 o - 1)) := by
            have c1 := C0.t4 (v := z 8 o - 1) hc
            have a15 : nS z 8 o (z 8 o - 1) 0 15 = z 0 15 := nS_ne (by omega)
            have a14 : nS z 8 o (z 8 o - 1) 14 = z 14 := by funext j; rw [nS_ne (by omega)]
            have aF : FW (nS z 8 o (z 8 o - 1)) = FW z := FW_c (by funext j; rw [nS_ne (by omega)])
            have aT : TT (nS z 8 o (z 8 o - 1)) = TT z := TT_c (by funext j; rw [nS_ne (by omega)])
            unfold CRr
            rw [a15, a14, aF, aT]
            exact c1
          have hgo := co_less hN HL C1 hc ho h4'
          obtain ⟨⟨a, u2⟩, h1, h2, g', h3⟩ := hgo
          refine ⟨g', ?_⟩
          unfold f_X7_loose
          rw [co_living C0 ho h11, bd_s, if_neg hw, hc, nl_s, pt_d, C0.a4 hc, if_neg (fun y => h8 (z8.mp y)), pt_d, e1, pt_d, h1, bd_s]
          rw [e20] at h2
          exact Go.s ⟨h2, h3⟩
        obtain ⟨g', key⟩ := key
        refine St1.mk (th := th) (g' := g') (s' := lessA o (nS z 8 o (z 8 o - 1))) M key (fun u1 M1 => ?_) (LI_up hinv hk)
        unfold f_X8_loose
        have M2 := hM2 u1 M1
        rw [pt_d, mo_isWhole M2.mr ho h10 h11', bd_s, if_neg hw, if_neg (by decide), i3_bI (by omega), decide_eq_true ho, ck_t, pt_d, i3_ix (by omega), M2.mr.g8 ho, if_neg (fun y => h8 (z8.mp y)), pt_d, M2.mr.g0 (k := 20) (by simp [nsc]), ck_t, pt_d, ck_t, pt_d, e1]
        have C1 := M2.mr.set (c := 8) (k := o) (v := z 8 o - 1) (w := i3 (z 8 o - 1)) (by simp [nsc] <;> omega) rfl
        refine Go.bv (mo_less hN HL (M2.step C1) ho h4') (fun u2 C2 => ?_)
        rw [pt_d, C2.mr.g0 (k := 20) (by simp [nsc])]
        exact Go.s ⟨rfl, C2⟩
end OP2

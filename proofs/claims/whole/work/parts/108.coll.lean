noncomputable def colA (s : Sm) : Sm :=
  gRun 400 0 (emptA (wRun 400 0 (sRun (s 14) (s 0 15) 0 (mRun (s 14) (s 0 15) 0 (nS (nS s 0 21 (s 0 21 + 1)) 0 15 0)))))
section COL
variable {th : Nat → Option Nat} {n m fw tt : Nat} {l g : Nat → Nat} {q : Nat → Prop} {r u : Mm} {s : Sm} {o t v N k : Nat} {l0 : Nat → Nat}
theorem LI_0 {d : Nat → Nat} {k v : Nat} (hk : k ≠ 15 ∧ k ≠ 17 ∧ k ≠ 20) (H : LI n d m g s) : LI n d m g (nS s 0 k v) := by
  obtain ⟨hK, hT, hG, hF, hR, hL, hW, hO, hX, hB, hC, hS⟩ := H
  have e : ∀ c, c ≠ 0 → nS s 0 k v c = s c := fun c hc => funext fun j => nS_ne (fun q => hc q.1)
  have e0 : ∀ j, j ≠ k → nS s 0 k v 0 j = s 0 j := fun j hj => nS_ne (fun q => hj q.2)
  refine ⟨iK_c (e 1 (by decide)) (e 2 (by decide)) (e 3 (by decide)) hK, ?_, iG_c (e 2 (by decide)) (e 4 (by decide)) (e 7 (by decide)) (e 13 (by decide)) hG, iF_c (e 1 (by decide)) (e 4 (by decide)) (e 12 (by decide)) hF, ?_, ?_, ?_, iO_c (e 4 (by decide)) (e 13 (by decide)) hO, iX_c (e 4 (by decide)) (e 18 (by decide)) hX, iB_c (e 4 (by decide)) (e 8 (by decide)) (e0 20 (by omega)) hB, ?_, ?_⟩
  · unfold iT vo nfo at *
    rw [e 4 (by decide), e 1 (by decide), e 6 (by decide), e 9 (by decide), e 10 (by decide), e 11 (by decide), e 5 (by decide), e 12 (by decide)]
    exact hT
  · unfold iR eT wT at *
    rw [e 4 (by decide), e 5 (by decide), e 8 (by decide), e 12 (by decide), e 16 (by decide), e0 17 (by omega)]
    exact hR
  · unfold iL at *
    rw [e0 15 (by omega), e 9 (by decide), e 14 (by decide)]
    exact hL
  · unfold iW at *
    rw [e0 17 (by omega), e 16 (by decide), e 4 (by decide), e 10 (by decide)]
    exact hW
  · unfold iC at *
    rw [e 4 (by decide), e 6 (by decide)]
    exact hC
  · unfold iS at *
    rw [e 4 (by decide), e 11 (by decide), e 5 (by decide)]
    exact hS
theorem mRun_11 : ∀ (d k : Nat) (s : Sm), (∀ o, s 4 o = 0 → s 11 o = 0 ∨ 80 ≤ o) → ∀ o, mRun l0 d k s 4 o = 0 → mRun l0 d k s 11 o = 0 ∨ 80 ≤ o := by
  intro d
  induction d with
  | zero => intro k s h; exact h
  | succ d ih =>
    intro k s h
    refine ih (k + 1) _ (fun o => ?_)
    unfold mstep
    split
    · unfold freeA
      by_cases z : o = l0 k
      · subst z
        intro _
        left
        rw [if_neg (by omega), if_neg (by omega), if_neg (by omega), if_pos ⟨rfl, rfl⟩]
      · rw [if_neg (by omega), if_neg (by omega), if_neg (fun y => z y.2), if_neg (by omega), if_neg (by omega), if_neg (by omega), if_neg (by omega), if_neg (by omega), if_neg (by omega), if_neg (fun y => z y.2), if_neg (by omega), if_neg (by omega), nS_ne (by omega), nS_ne (by omega)]
        exact h o
    · split
      · rw [nS_ne (by omega), nS_ne (by omega)]
        exact h o
      · unfold appA
        have hs := trav_same (s := s) (root := l0 k) false
        rw [nS_ne (by omega), nS_ne (by omega), nS_ne (by omega), nS_ne (by omega), hs.fn (c := 4) (by decide) (by decide) (by decide), hs.fn (c := 11) (by decide) (by decide) (by decide)]
        exact h o
theorem col_phases (H : LI n d0 0 g s) : ∃ s1 s2 s3 : Sm, s1 = mRun (s 14) (s 0 15) 0 (nS (nS s 0 21 (s 0 21 + 1)) 0 15 0) ∧ s2 = sRun (s 14) (s 0 15) 0 s1 ∧ s3 = wRun 400 0 s2 ∧ colA s = gRun 400 0 (emptA s3) ∧
    MK n (s 0 15) (s 14) 0 (nS (nS s 0 21 (s 0 21 + 1)) 0 15 0) ∧ MK n (s 0 15) (s 14) (s 0 15) s1 ∧ SK n (s 14) 0 s1 s1 ∧ SK n (s 14) (s 0 15) s1 s2 ∧ WK n s2 ∧ WK n s3 ∧ GK n (fun _ => false) 0 (emptA s3) (emptA s3) ∧ (∀ o, s1 9 o ≤ 1 ∨ 80 ≤ o) ∧ s3 9 = s1 9 ∧ s3 14 = s1 14 ∧ s3 0 15 = s1 0 15 ∧ s3 13 = s2 13 ∧ s3 7 = s2 7 := by
  have H0 : LI n d0 0 g (nS s 0 21 (s 0 21 + 1)) := LI_0 (by decide) H
  have hM0 := mark_start H0
  have e15 : nS s 0 21 (s 0 21 + 1) 0 15 = s 0 15 := nS_ne (by omega)
  have e14 : nS s 0 21 (s 0 21 + 1) 14 = s 14 := by funext x; rw [nS_ne (by omega)]
  rw [e15, e14] at hM0
  have hM1 := mRun_inv (s 0 15) 0 _ (Nat.zero_add _) hM0
  have hS0 := scan_start2 hM1
  have hS1 := sRun_inv hM1 (s 0 15) 0 _ (Nat.zero_add _) hS0
  have hng := scan_none hM1 hS1
  have hW2 : WK n (sRun (s 14) (s 0 15) 0 (mRun (s 14) (s 0 15) 0 (nS (nS s 0 21 (s 0 21 + 1)) 0 15 0))) := by
    refine ⟨hS1.1, fun o ho h4 => ⟨hng o ho h4, (hS1.2.1 o ho h4).1, (hS1.2.1 o ho h4).2⟩, fun o ho h4 h5 => ?_, hS1.2.2.2.1⟩
    rcases hS1.2.2.1 o ho h4 h5 with z | z
    · exact absurd z (hng o ho h4)
    · exact z
  have hW3 := wRun_inv 400 0 _ rfl hW2
  have h9 : ∀ o, (mRun (s 14) (s 0 15) 0 (nS (nS s 0 21 (s 0 21 + 1)) 0 15 0)) 9 o ≤ 1 ∨ 80 ≤ o := mRun_9 _ _ _ (fun o => by
    rw [nS_ne (by omega), nS_ne (by omega)]
    by_cases ho : o < 80
    · left
      by_cases h4 : s 4 o = 0
      · have := ((H.2.1 o ho).2 h4).1; omega
      · exact ((H.2.1 o ho).1 h4).2.2.1
    · right; omega)
  have h11 : ∀ o, (mRun (s 14) (s 0 15) 0 (nS (nS s 0 21 (s 0 21 + 1)) 0 15 0)) 4 o = 0 → (mRun (s 14) (s 0 15) 0 (nS (nS s 0 21 (s 0 21 + 1)) 0 15 0)) 11 o = 0 ∨ 80 ≤ o := mRun_11 _ _ _ (fun o h4 => by
    rw [nS_ne (by omega), nS_ne (by omega)] at h4 ⊢
    by_cases ho : o < 80
    · left; exact ((H.2.1 o ho).2 h4).2
    · right; omega)
  generalize hs1 : mRun (s 14) (s 0 15) 0 (nS (nS s 0 21 (s 0 21 + 1)) 0 15 0) = s1 at *
  have hsame := hS1.2.2.2.2.1
  generalize hs2 : sRun (s 14) (s 0 15) 0 s1 = s2 at *
  have f9 : wRun 400 0 s2 9 = s1 9 := (wRun_f (by decide) (by decide) (by decide) (by decide) (by decide) 400 0 s2).trans (hsame.fn (by decide) (by decide) (by decide))
  have f4 : wRun 400 0 s2 4 = s1 4 := (wRun_f (by decide) (by decide) (by decide) (by decide) (by decide) 400 0 s2).trans (hsame.fn (by decide) (by decide) (by decide))
  have f11 : wRun 400 0 s2 11 = s1 11 := (wRun_f (by decide) (by decide) (by decide) (by decide) (by decide) 400 0 s2).trans (hsame.fn (by decide) (by decide) (by decide))
  have f14 : wRun 400 0 s2 14 = s1 14 := (wRun_f (by decide) (by decide) (by decide) (by decide) (by decide) 400 0 s2).trans (hsame.fn (by decide) (by decide) (by decide))
  have f15 : wRun 400 0 s2 0 15 = s1 0 15 := (wRun_z (by decide) 400 0 s2).trans (hsame.z (by decide))
  have hG := empt_start hW3 (fun o ho h4 => by
    rw [f4] at h4
    rw [f11]
    rcases h11 o h4 with z | z
    · exact z
    · omega)
  refine ⟨s1, s2, wRun 400 0 s2, rfl, hs2.symm, rfl, by unfold colA; rw [hs1, hs2], hM0, hM1, hS0, hS1, hW2, hW3, hG, h9, f9, f14, f15, wRun_f (by decide) (by decide) (by decide) (by decide) (by decide) 400 0 s2, wRun_f (by decide) (by decide) (by decide) (by decide) (by decide) 400 0 s2⟩
theorem col_inv (H : LI n d0 0 g s) : LI n d0 0 (fun _ => 0) (colA s) := by
  obtain ⟨s1, s2, s3, h1, h2, h3, hc, _, _, _, _, _, _, hG, _⟩ := col_phases H
  rw [hc]
  exact gath_end (gRun_inv 400 0 _ rfl hG)
theorem co_run (hN : 5000 ≤ N) (H : LI n d0 0 g s) (C : CRr th 0 g (fun _ => False) r u s) :
    Go (f_X0_run N u) (fun z => z.1 = i3 (colA s 0 20) - i3 (s 0 20) ∧ CRr th 0 g (fun _ => False) r z.2 (colA s)) := by
  obtain ⟨s1, s2, s3, h1, h2, h3, hc, hM0, hM1, hS0, hS1, hW2, hW3, hG, h9, f9, f14, f15, f13, f7⟩ := col_phases H
  unfold f_X0_run
  rw [pt_d, C.cn.1, pt_d, C.cn.2.1, i3_addL, pt_d]
  have C0 : CR th (s 0 15) (s 14) 0 g (fun _ => False) (FW s) (TT s) r (sI u 55 4 (i3 (s 0 21 + 1))) (nS (nS s 0 21 (s 0 21 + 1)) 0 15 0) := (C.n21 (v := s 0 21 + 1)).s15
  have eF : FW (nS (nS s 0 21 (s 0 21 + 1)) 0 15 0) = FW s := FW_c (by funext x; rw [nS_ne (by omega), nS_ne (by omega)])
  have eT : TT (nS (nS s 0 21 (s 0 21 + 1)) 0 15 0) = TT s := TT_c (by funext x; rw [nS_ne (by omega), nS_ne (by omega)])
  rw [← eF, ← eT] at C0
  have hn80 := hM0.2.2.2.2.2.1.1
  have hl80 : ∀ j, j < s 0 15 → s 14 j < 80 := fun j hj => (hM0.2.2.2.2.2.1.2 j hj).1
  have hth : ∀ j, j < s 0 15 → th (s 14 j) ≠ none := fun j hj => by
    have h := hM0.2.2.2.2.2.2.1 j (Nat.zero_le _) hj
    exact ((C0.cs (hl80 j hj)).2 h.1).2
  refine Go.bv (co_markLoop hN N 0 _ _ (Nat.zero_le _) (by omega) hM0 C0) (fun u1 C1 => ?_)
  rw [Nat.sub_zero, ← h1] at C1
  refine Go.bv (co_scanLoop hN hM1 h9 N 0 u1 s1 (Nat.zero_le _) (by omega) hS0 C1) (fun u2 C2 => ?_)
  rw [Nat.sub_zero, ← h2] at C2
  refine Go.bv (co_wishLoop hN N 0 u2 s2 (Nat.zero_le _) (by omega) hW2 C2) (fun u3 C3 => ?_)
  rw [Nat.sub_zero, ← h3] at C3
  have hH := hM1.2.2.2.2.2.2.2.2.1
  refine Go.bv (co_empty hN hn80 hth hl80 (fun p hp z => hH p hp (by rw [← f9]; exact z)) C3) (fun u4 C4 => ?_)
  refine Go.bv (co_whiteLoop hN N 0 u4 _ (Nat.zero_le _) (by omega) hG C4) (fun u5 C5 => ?_)
  rw [Nat.sub_zero, ← hc] at C5
  rw [pt_d, C5.cn.1]
  refine Go.s ⟨rfl, ?_⟩
  have hL := col_inv H
  have h15 : colA s 0 15 = 0 := by
    have hgk := gRun_inv 400 0 _ rfl hG
    rw [← hc] at hgk
    exact hgk.2.2.2.2.2.2.2.2.2.1
  unfold CRr
  rw [h15]
  exact C5.lc (fun j hj => by omega)
theorem mo_run (hN : 5000 ≤ N) (H : LI n d0 0 g s) (C : Ms r u s) (h0 : s 0 0 = 0) :
    Go (f_X8_collect N u) (fun z => z.1 = i3 (colA s 0 20) - i3 (s 0 20) ∧ Ms r z.2 (colA s)) := by
  obtain ⟨s1, s2, s3, h1, h2, h3, hc, hM0, hM1, hS0, hS1, hW2, hW3, hG, h9, f9, f14, f15, f13, f7⟩ := col_phases H
  unfold f_X8_collect
  have C0 := C.mr.set (c := 0) (k := 0) (v := 0) (w := 0) (by simp [nsc]) rfl
  rw [nS_id h0] at C0
  rw [pt_d, pt_d, C0.g0 (k := 20) (by simp [nsc]), pt_d, C0.g0 (k := 21) (by simp [nsc]), i3_addL, pt_d]
  have C1 := C0.set (c := 0) (k := 21) (v := s 0 21 + 1) (w := i3 (s 0 21 + 1)) (by simp [nsc]) rfl
  have hn80 := hM0.2.2.2.2.2.1.1
  have hl80 : ∀ j, j < s 0 15 → s 14 j < 80 := fun j hj => (hM0.2.2.2.2.2.1.2 j hj).1
  unfold f_X8_mark
  have e15 : nS s 0 21 (s 0 21 + 1) 0 15 = s 0 15 := nS_ne (by omega)
  rw [pt_d, C1.g0 (k := 15) (by simp [nsc]), e15, pt_d]
  have C2 := C1.set (c := 0) (k := 15) (v := 0) (w := 0) (by simp [nsc]) rfl
  refine Go.bv (mo_markLoop hN N 0 _ _ (Nat.zero_le _) (by omega) hM0 (C.step C2)) (fun u1 D1 => ?_)
  rw [Nat.sub_zero, ← h1] at D1
  have hCI2 := hW2.1
  refine mo_scanLoop hN hM1 (fun u2 D2 => ?_) (s 0 15) 0 N u1 s1 (Nat.zero_add _) (by omega) hS0 rfl D1
  rw [← h2] at D2
  refine Go.bv (mo_find hN hCI2 D2) (fun u3 D3 => ?_)
  refine mo_wishLoop hN (fun u4 D4 B4 => ?_) hCI2 400 0 N u3 s2 rfl (by omega) hW2 rfl rfl rfl D3.1 D3.2
  rw [← h3] at D4
  have hg := hM1.2.2.2.2.2.2.2.1
  have hH := hM1.2.2.2.2.2.2.2.2.1
  have ek : kp (s 14) s3 = kp (s 14) s1 := by unfold kp; rw [f9]
  have ebs : bs s2 = bs (emptA s3) := by
    have a13 : emptA s3 13 = s3 13 := by funext x; unfold emptA; rw [if_neg (by omega), if_neg (by omega)]
    have a7 : emptA s3 7 = s3 7 := by funext x; unfold emptA; rw [if_neg (by omega), if_neg (by omega)]
    funext x
    unfold bs
    rw [a13, a7, f13, f7]
  have e13 : emptA s3 13 = s2 13 := by
    have a13 : emptA s3 13 = s3 13 := by funext x; unfold emptA; rw [if_neg (by omega), if_neg (by omega)]
    rw [a13, f13]
  have hB4 : BAr u4 (emptA s3) := ⟨by rw [← ebs]; exact B4.1, fun w hw hb => by rw [← ebs] at hb ⊢; rw [e13]; exact B4.2 w hw hb⟩
  have hgo : Go (f_X8_gather N u4) (fun u' => Ms r u' (gRun 400 0 (emptA s3))) := by
    unfold f_X8_gather
    refine mo_emptyLoop (s := s3) (l0 := s 14) (n0 := s 0 15) hN hn80 hl80 (by rw [f15, ek]; exact hg.1) (fun j hj hz => by rw [f9] at hz; rw [f14, ek]; exact (hg.2 j hj hz).1) (fun j hj => by
      rw [f9]
      rcases h9 (s 14 j) with z | z
      · exact z
      · have := hl80 j hj; omega) (fun p hp z => hH p hp (by rw [← f9]; exact z)) (w0 := u4) (fun u5 D5 K5 => ?_) (s 0 15) 0 N u4 (Nat.zero_add _) (by omega) (by rw [clr9_0]; exact D4) KB.rf
    have e3O : ∀ x, x < 400 → emptA s3 13 x ≤ 80 := fun x hx => (hG.2.2.2.2.2.2.1 x hx).1
    exact mo_whiteLoop hN (fun x hx => by rw [← ebs]; exact bs_cnt hCI2 hx) e3O 400 0 N u5 _ rfl (by omega) hG rfl D5 (hB4.kb K5)
  refine Go.bv hgo (fun u6 D6 => ?_)
  rw [← hc] at D6
  rw [pt_d, D6.mr.g0 (k := 20) (by simp [nsc])]
  have e20 : s 0 20 = s 0 20 := rfl
  exact Go.s ⟨rfl, D6⟩
end COL

section OP3
variable {th : Nat → Option Nat} {n m fw tt w k : Nat} {l g : Nat → Nat} {q : Nat → Prop} {r u u1 u2 : Mm} {s s' z : Sm} {o t v N : Nat}
theorem LI_weak (H : LI n d0 0 g z) (hv : v ≤ 80 ∧ (v ≠ 0 → z 4 (v - 1) ≠ 0)) : LI n d0 0 g (nS z 18 w v) := by
  obtain ⟨hK, hT, hG, hF, hR, hL, hW, hO, hX, hB, hC, hS⟩ := H
  have e : ∀ c, c ≠ 18 → nS z 18 w v c = z c := fun c a => funext fun k => nS_ne (fun q => a q.1)
  have c4 := e 4 (by decide)
  have c0 := e 0 (by decide)
  refine ⟨iK_c (e 1 (by decide)) (e 2 (by decide)) (e 3 (by decide)) hK, ?_, iG_c (e 2 (by decide)) c4 (e 7 (by decide)) (e 13 (by decide)) hG, iF_c (e 1 (by decide)) c4 (e 12 (by decide)) hF, ?_, ?_, ?_, iO_c c4 (e 13 (by decide)) hO, fun x hx => ?_, iB_c c4 (e 8 (by decide)) (by rw [c0]) hB, ?_, ?_⟩
  · unfold iT vo nfo at *
    rw [c4, e 1 (by decide), e 6 (by decide), e 9 (by decide), e 10 (by decide), e 11 (by decide), e 5 (by decide), e 12 (by decide)]
    exact hT
  · unfold iR eT wT at *
    rw [c4, e 5 (by decide), e 8 (by decide), e 12 (by decide), e 16 (by decide), c0]
    exact hR
  · unfold iL at *; rw [c0, e 9 (by decide), e 14 (by decide)]; exact hL
  · unfold iW at *; rw [c0, e 16 (by decide), c4, e 10 (by decide)]; exact hW
  · rw [c4]
    by_cases q : x = w
    · rw [q, nS_eq]; exact hv
    · rw [nS_ne (fun y => q y.2)]; exact hX x hx
  · unfold iC at *; rw [c4, e 6 (by decide)]; exact hC
  · unfold iS at *; rw [c4, e 11 (by decide), e 5 (by decide)]; exact hS
theorem liv (H : LI n d0 0 g z) (x : Int32) : ((x < 0 ∨ i3 80 ≤ x) ∨ ∃ o, o < 80 ∧ x = i3 o ∧ (z 4 o = 0 ∨ z 11 o ≠ 0)) ∨ ∃ o, o < 80 ∧ x = i3 o ∧ z 4 o ≠ 0 ∧ z 11 o = 0 := by
  rcases i3_cs x (b := 80) (by decide) with hx | ⟨o, ho, rfl⟩
  · exact Or.inl (Or.inl hx)
  · by_cases hw : z 4 o = 0 ∨ z 11 o ≠ 0
    · exact Or.inl (Or.inr ⟨o, ho, rfl, hw⟩)
    · refine Or.inr ⟨o, ho, rfl, fun y => hw (Or.inl y), ?_⟩
      apply Classical.byContradiction
      intro y
      exact hw (Or.inr y)
theorem co_liv_no (H : LI n d0 0 g z) (C : CR th w l m g q fw tt r u z) {x : Int32} (hx : (x < 0 ∨ i3 80 ≤ x) ∨ ∃ o, o < 80 ∧ x = i3 o ∧ (z 4 o = 0 ∨ z 11 o ≠ 0)) : f_X4_living N x u = some (none, u) := by
  rcases hx with hx | ⟨o, ho, rfl, hw⟩
  · exact co_living_no hx
  · rw [co_living C ho (fun h4 => ((H.2.1 o ho).1 h4).2.2.2.2.1), if_pos hw]
theorem co_liv (H : LI n d0 0 g z) (C : CR th w l m g q fw tt r u z) (ho : o < 80) (h4 : z 4 o ≠ 0) (h11 : z 11 o = 0) : ∃ t, th o = some t ∧ f_X4_living N (i3 o) u = some (some t, u) := by
  have hth := ((C.cs ho).2 h4).2
  cases hc : th o with
  | none => exact absurd hc hth
  | some t => exact ⟨t, rfl, by rw [co_living C ho (fun h4 => ((H.2.1 o ho).1 h4).2.2.2.2.1), if_neg (by omega), hc]⟩
theorem mo_liv_no (H : LI n d0 0 g z) (C : Ms r u z) {x : Int32} (hx : (x < 0 ∨ i3 80 ≤ x) ∨ ∃ o, o < 80 ∧ x = i3 o ∧ (z 4 o = 0 ∨ z 11 o ≠ 0)) : f_X8_isWhole N x u = some (0, u) := by
  rcases hx with hx | ⟨o, ho, rfl, hw⟩
  · unfold f_X8_isWhole
    rw [mo_isThere_no C.mr (by exact hx), bd_s, if_pos rfl]
  · have hT := (H.2.1 o ho).1
    have h11' : z 11 o ≤ 1 := by
      by_cases h4 : z 4 o = 0
      · rw [((H.2.1 o ho).2 h4).2]; omega
      · exact (hT h4).2.2.2.2.1
    have h10 : z 4 o ≤ 10 := by
      by_cases h4 : z 4 o = 0
      · omega
      · exact (hT h4).1.2.1
    rw [mo_isWhole C.mr ho h10 h11', if_pos hw]
theorem mo_liv (H : LI n d0 0 g z) (C : Ms r u z) (ho : o < 80) (h4 : z 4 o ≠ 0) (h11 : z 11 o = 0) : f_X8_isWhole N (i3 o) u = some (1, u) := by
  have hT := (H.2.1 o ho).1 h4
  rw [mo_isWhole C.mr ho hT.1.2.1 (by omega), if_neg (by omega)]
theorem st_weak (hN : 5000 ≤ N) (J : Jk k u) (hk : k + 1 ≤ 1000) (x y : Int32) : St2 k (f_X7_weak N x y u) (f_X8_weak N x y) := by
  obtain ⟨th, g, s, H, C, M, hd⟩ := J
  rcases i3_cs x (b := 20) (by decide) with hx | ⟨w, hw, rfl⟩
  · refine St2.ex (kx := 1) (a := 0) (by decide) hk H C M ⟨false, ?_⟩ (fun u1 M1 => ?_)
    · unfold f_X7_weak
      by_cases h0 : x < 0
      · rw [if_pos h0]
      · rw [if_neg h0, if_neg (fun z => by rcases hx with a | a; exact h0 a; exact absurd z (Int32.not_lt.mpr a))]
    · have : f_X8_weak N x y u1 = f_X8_weak_11 N x y u1 := by
        unfold f_X8_weak
        by_cases h0 : x < 0
        · rw [if_pos h0]
        · rw [if_neg h0, if_neg (fun z => by rcases hx with a | a; exact h0 a; exact absurd z (Int32.not_lt.mpr a))]
      rw [this]
      unfold f_X8_weak_11 f_X8_weak_16
      rw [pt_d, pt_d, show (sI u1 0 0 1).1 0 0 = 1 from rfl, if_pos (by decide)]
      exact Go.s ⟨(fun z => by cases z), Ms_0 M1 rfl⟩
  · have hn0 : ¬ i3 w < 0 := by rw [i3_ltL (by omega) (by decide)]; omega
    have h20 : i3 w < 20 := by rw [i3_ltL (by omega) (by decide)]; omega
    have C0 := CRr_0 (kx := 0) C
    have hM2 : ∀ u1, Ms u1 u1 s → Ms u1 (sI u1 0 0 0) (nS s 0 0 0) := fun u1 M1 => Ms_0 M1 rfl
    have H0 : LI k d0 0 g (nS s 0 0 0) := LI_0 (by decide) H
    have h00 : nS s 0 0 0 0 0 = 0 := nS_eq
    have hdz : ∀ o, nS s 0 0 0 4 o = 0 → th o = none := fun o h => hd o (by rw [nS_ne (by omega)] at h; exact h)
    clear C H hd
    generalize nS s 0 0 0 = z at *
    have hown := J_own H0 C0 hdz (c := 18) (x := w) (by omega)
    have hmodel : ∀ u1, Ms u1 u1 s → f_X8_weak N (i3 w) y u1 = f_X8_weak_16 N (i3 w) y 0 u1 := fun u1 _ => by
      unfold f_X8_weak
      rw [if_neg hn0, if_pos h20]
    have hset : ∀ (v : Nat) (yv : Int32), yv = oI v → v ≤ 80 ∧ (v ≠ 0 → z 4 (v - 1) ≠ 0) → f_X7_weak N (i3 w) y u = f_X7_weak_40 N (i3 w) (oT th v) u → (∀ u1, Ms u1 u1 s → f_X8_weak_16 N (i3 w) y 0 u1 = f_X8_weak_41 N (i3 w) yv (sI u1 0 0 0)) → St2 k (f_X7_weak N (i3 w) y u) (f_X8_weak N (i3 w) y) := fun v yv hyv hv h7 h8 => by
      refine St2.mk (th := th) (g' := g) (s' := nS z 18 w v) (kx := 0) (a := oI (z 18 w)) (by decide) M ?_ (fun u1 M1 => ?_) (by rw [nS_ne (by omega)]; exact h00) (LI_weak (LI_up H0 hk) hv)
      · rw [h7]
        unfold f_X7_weak_40
        rw [i3_bI (by omega), decide_eq_true hw, ck_t, pt_d, i3_ix (by omega), C0.x hw, co_num C0 hown.2, bd_s, ck_t, pt_d]
        refine Go.s ⟨rfl, rfl, ?_⟩
        have a15 : nS z 18 w v 0 15 = z 0 15 := nS_ne (by omega)
        have a14 : nS z 18 w v 14 = z 14 := by funext j; rw [nS_ne (by omega)]
        have aF : FW (nS z 18 w v) = FW z := FW_c (by funext j; rw [nS_ne (by omega)])
        have aT : TT (nS z 18 w v) = TT z := TT_c (by funext j; rw [nS_ne (by omega)])
        unfold CRr
        rw [a15, a14, aF, aT]
        exact C0.wk (v := v)
      · rw [hmodel u1 M1, h8 u1 M1]
        unfold f_X8_weak_41
        rw [i3_bI (by omega), decide_eq_true hw, ck_t, pt_d, i3_ix (by omega), (hM2 u1 M1).mr.g18 hw, ck_t, pt_d]
        exact Go.s ⟨fun _ => rfl, (hM2 u1 M1).step ((hM2 u1 M1).mr.set (by simp [nsc] <;> omega) (by rw [hyv]; rfl))⟩
    rcases liv H0 y with hy | ⟨o, ho, rfl, h4, h11⟩
    · by_cases hy1 : y = -1
      · refine hset 0 (-1) rfl ⟨by omega, fun h => absurd rfl h⟩ ?_ (fun u1 M1 => ?_)
        · unfold f_X7_weak
          rw [if_neg hn0, if_pos h20, co_liv_no H0 C0 hy, bd_s, nl_n, if_pos hy1]
          rfl
        · unfold f_X8_weak_16
          rw [pt_d, pt_d, show (sI u1 0 0 0).1 0 0 = 0 from rfl, if_neg (by decide), if_pos hy1, hy1]
      · refine St2.mk (th := th) (g' := g) (s' := z) (kx := 0) (a := -1) (by decide) M ?_ (fun u1 M1 => ?_) h00 (LI_up H0 hk)
        · unfold f_X7_weak
          rw [if_neg hn0, if_pos h20, co_liv_no H0 C0 hy, bd_s, nl_n, if_neg hy1]
          exact Go.s ⟨rfl, rfl, C0⟩
        · rw [hmodel u1 M1]
          unfold f_X8_weak_16
          rw [pt_d, pt_d, show (sI u1 0 0 0).1 0 0 = 0 from rfl, if_neg (by decide), if_neg hy1, mo_liv_no H0 (hM2 u1 M1) hy, bd_s, if_pos rfl]
          exact Go.s ⟨fun _ => rfl, hM2 u1 M1⟩
    · obtain ⟨t, ht, hl⟩ := co_liv (N := N) H0 C0 ho h4 h11
      refine hset (o + 1) (i3 o) rfl ⟨by omega, fun _ => by rw [show o + 1 - 1 = o by omega]; exact h4⟩ ?_ (fun u1 M1 => ?_)
      · unfold f_X7_weak
        rw [if_neg hn0, if_pos h20, hl, bd_s, nl_s]
        have e : oT th (o + 1) = some t := by unfold oT; rw [if_neg (by omega)]; exact ht
        rw [e]
      · unfold f_X8_weak_16
        rw [pt_d, pt_d, show (sI u1 0 0 0).1 0 0 = 0 from rfl, if_neg (by decide), if_neg (i3_ne1 (by omega)), mo_liv H0 (hM2 u1 M1) ho h4 h11, bd_s, if_neg (by decide)]
theorem LI_set {i : Nat} (H : LI n d0 0 g z) (hi : i < 480) (h4 : z 4 (i / 6) ≠ 0) (h11 : z 11 (i / 6) = 0) (hf : i % 6 < nfo z (i / 6)) (hv : v ≤ 80 ∧ (v ≠ 0 → z 4 (v - 1) ≠ 0 ∧ z 11 (v - 1) = 0)) :
    LI n (if z 12 i = 0 then d0 else d1 (z 12 i - 1)) 0 g (if v = 0 then nS z 12 i v else nS (nS z 12 i v) 5 (v - 1) (z 5 (v - 1) + 1)) := by
  obtain ⟨hK, hT, hG, hF, hR, hL, hW, hO, hX, hB, hC, hS⟩ := H
  generalize hs : (if v = 0 then nS z 12 i v else nS (nS z 12 i v) 5 (v - 1) (z 5 (v - 1) + 1)) = s'
  have e : ∀ c, c ≠ 12 → c ≠ 5 → s' c = z c := fun c a b => by
    rw [← hs]
    funext k
    split
    · rw [nS_ne (fun q => a q.1)]
    · rw [nS_ne (fun q => b q.1), nS_ne (fun q => a q.1)]
  have e12 : ∀ j, s' 12 j = if j = i then v else z 12 j := fun j => by
    rw [← hs]
    by_cases q : j = i
    · rw [if_pos q, q]
      split
      · rw [nS_eq]
      · rw [nS_ne (by omega), nS_eq]
    · rw [if_neg q]
      split
      · rw [nS_ne (fun y => q y.2)]
      · rw [nS_ne (by omega), nS_ne (fun y => q y.2)]
  have e5 : ∀ p, s' 5 p = z 5 p + (if v = p + 1 then 1 else 0) := fun p => by
    rw [← hs]
    by_cases q : v = 0
    · rw [if_pos q, nS_ne (by omega), if_neg (by omega)]; rfl
    · rw [if_neg q]
      by_cases y : p = v - 1
      · rw [← y, nS_eq, if_pos (by omega)]
      · rw [nS_ne (fun x => y x.2), nS_ne (by omega), if_neg (by omega)]; rfl
  clear hs
  have c4 := e 4 (by decide) (by decide)
  have c11 := e 11 (by decide) (by decide)
  have c0 := e 0 (by decide) (by decide)
  refine ⟨iK_c (e 1 (by decide) (by decide)) (e 2 (by decide) (by decide)) (e 3 (by decide) (by decide)) hK, fun p hp => ?_, iG_c (e 2 (by decide) (by decide)) c4 (e 7 (by decide) (by decide)) (e 13 (by decide) (by decide)) hG, fun j hj h4j => ?_, fun p hp h4p => ?_, ?_, ?_, iO_c c4 (e 13 (by decide) (by decide)) hO, iX_c c4 (e 18 (by decide) (by decide)) hX, iB_c c4 (e 8 (by decide) (by decide)) (by rw [c0]) hB, ?_, ⟨fun j hj => by omega, fun p hp h4p h11p h5p => ?_⟩⟩
  · have ht := hT p hp
    unfold vo nfo at *
    rw [c4, e 1 (by decide) (by decide), e 6 (by decide) (by decide), e 9 (by decide) (by decide), e 10 (by decide) (by decide), c11]
    refine ⟨fun y => ?_, ht.2⟩
    have t := ht.1 y
    refine ⟨t.1, t.2.1, t.2.2.1, t.2.2.2.1, t.2.2.2.2.1, t.2.2.2.2.2.1, t.2.2.2.2.2.2.1, fun x => ?_, t.2.2.2.2.2.2.2.2⟩
    have t2 := t.2.2.2.2.2.2.2.1 x
    have hvp : v ≠ p + 1 := fun a => by
      have := (hv.2 (by omega)).2
      rw [a, show p + 1 - 1 = p by omega] at this
      omega
    refine ⟨t2.1, by rw [e5, if_neg hvp]; exact t2.2.1, fun f hf6 => ?_⟩
    rw [e12, if_neg (fun a => by
      have : i / 6 = p := by omega
      rw [this] at h11
      omega)]
    exact t2.2.2 f hf6
  · rw [c4] at h4j
    have h1 := hF j hj h4j
    have en : nfo s' (j / 6) = nfo z (j / 6) := by unfold nfo; rw [c4, e 1 (by decide) (by decide)]
    rw [e12, en, c4]
    by_cases q : j = i
    · rw [if_pos q]
      exact ⟨hv.1, fun y => ⟨by rw [q]; exact hf, (hv.2 y).1⟩⟩
    · rw [if_neg q]; exact h1
  · rw [c4] at h4p
    have h1 := hR p hp h4p
    have h2 := eT_set (s := z) (o := p) (v := v) hi h4
    have e2 : eT s' p = eT (nS z 12 i v) p := cnt_congr (fun j _ => by
      rw [c4, e12, nS_ne (by omega)]
      by_cases q : j = i
      · rw [if_pos q, q, nS_eq]
      · rw [if_neg q, nS_ne (fun y => q y.2)])
    have e3 : wT s' p = wT z p := by unfold wT; rw [c0, e 16 (by decide) (by decide)]
    rw [e2, e3, e5, e 8 (by decide) (by decide)]
    have h3 : d0 p = 0 := rfl
    by_cases q : z 12 i = 0
    · rw [if_pos q]
      rw [if_neg (show ¬ z 12 i = p + 1 by omega)] at h2
      omega
    · rw [if_neg q]
      by_cases y : p = z 12 i - 1
      · have h5 : d1 (z 12 i - 1) p = 1 := if_pos y
        rw [if_pos (show z 12 i = p + 1 by omega)] at h2
        rw [h5]
        omega
      · have h5 : d1 (z 12 i - 1) p = 0 := if_neg y
        rw [if_neg (show ¬ z 12 i = p + 1 by omega)] at h2
        rw [h5]
        omega
  · unfold iL at *; rw [c0, e 9 (by decide) (by decide), e 14 (by decide) (by decide)]; exact hL
  · unfold iW at *; rw [c0, e 16 (by decide) (by decide), c4, e 10 (by decide) (by decide)]; exact hW
  · unfold iC at *; rw [c4, e 6 (by decide) (by decide)]; exact hC
  · rw [c4] at h4p
    rw [c11] at h11p
    rw [e5] at h5p
    obtain ⟨j, hj, _⟩ := hS.2 p hp h4p h11p (by omega)
    omega
end OP3

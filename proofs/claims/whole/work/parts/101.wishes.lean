def bs (s : Sm) (w : Nat) : Bool := s 13 w != 0 && s 7 (s 13 w - 1) == w
noncomputable def wstep (o : Nat) (s : Sm) : Sm := travA true o (nS (tellA o s) 5 o (s 5 o + 1))
noncomputable def wAt (w : Nat) (s : Sm) : Sm :=
  if bs s w = true ∧ s 6 (s 13 w - 1) = 2 ∧ s 3 (s 4 (s 13 w - 1) - 1) = 1 ∧ s 10 (s 13 w - 1) = 0 then wstep (s 13 w - 1) s else s
noncomputable def wRun : Nat → Nat → Sm → Sm
  | 0, _, s => s
  | d + 1, w, s => wRun d (w + 1) (wAt w s)
def WK (n : Nat) (s : Sm) : Prop := CI n s ∧ (∀ o, o < 80 → s 4 o ≠ 0 → s 6 o ≠ 1 ∧ s 6 o ≠ 3 ∧ s 11 o = 0) ∧ (∀ o, o < 80 → s 4 o ≠ 0 → s 5 o = 0 → s 6 o = 2) ∧ sWc s
section WSH
variable {s : Sm} {n w o : Nat}
theorem bs_t : bs s w = true ↔ s 13 w ≠ 0 ∧ s 7 (s 13 w - 1) = w := by
  unfold bs
  simp
theorem bs_ok (H : CI n s) (hw : w < 400) (hb : bs s w = true) : s 13 w - 1 < 80 ∧ s 4 (s 13 w - 1) ≠ 0 ∧ s 13 w = (s 13 w - 1) + 1 := by
  have h1 := bs_t.mp hb
  have h2 := H.2.2.2.2.2.2.1 w hw
  exact ⟨by omega, h2.2 h1.1, by omega⟩
theorem tell_CI (H : CI n s) (ho : o < 80) (h4 : s 4 o ≠ 0) (h10 : s 10 o = 0) : CI n (nS (tellA o s) 5 o (s 5 o + 1)) ∧ s 0 17 < 80 := by
  obtain ⟨hK, hT, hG, hF, hR, hW, hO, hX, hB⟩ := H
  have hw17 := iW_lt hW ho h10
  generalize hs : nS (tellA o s) 5 o (s 5 o + 1) = s'
  have f : s' = nS (nS (nS (nS s 10 o 1) 16 (s 0 17) o) 0 17 (s 0 17 + 1)) 5 o (s 5 o + 1) := hs.symm
  have c1 : s' 1 = s 1 := by rw [f]; funext j; simp [nS]
  have c2 : s' 2 = s 2 := by rw [f]; funext j; simp [nS]
  have c3 : s' 3 = s 3 := by rw [f]; funext j; simp [nS]
  have c4 : s' 4 = s 4 := by rw [f]; funext j; simp [nS]
  have c6 : s' 6 = s 6 := by rw [f]; funext j; simp [nS]
  have c7 : s' 7 = s 7 := by rw [f]; funext j; simp [nS]
  have c8 : s' 8 = s 8 := by rw [f]; funext j; simp [nS]
  have c9 : s' 9 = s 9 := by rw [f]; funext j; simp [nS]
  have c11 : s' 11 = s 11 := by rw [f]; funext j; simp [nS]
  have c12 : s' 12 = s 12 := by rw [f]; funext j; simp [nS]
  have c13 : s' 13 = s 13 := by rw [f]; funext j; simp [nS]
  have c18 : s' 18 = s 18 := by rw [f]; funext j; simp [nS]
  have c17 : s' 0 17 = s 0 17 + 1 := by rw [f]; simp [nS]
  have c20 : s' 0 20 = s 0 20 := by rw [f]; simp [nS]
  have c5 : ∀ p, p ≠ o → s' 5 p = s 5 p := fun p hp => by rw [f]; simp [nS, hp]
  have c5o : s' 5 o = s 5 o + 1 := by rw [f]; simp [nS]
  have c10 : ∀ p, p ≠ o → s' 10 p = s 10 p := fun p hp => by rw [f]; simp [nS, hp]
  have c10o : s' 10 o = 1 := by rw [f]; simp [nS]
  have c16 : ∀ j, j ≠ s 0 17 → s' 16 j = s 16 j := fun j hj => by rw [f]; simp [nS, hj]
  have c16o : s' 16 (s 0 17) = o := by rw [f]; simp [nS]
  clear hs f
  have wx : ∀ p, wT s' p = wT s p + (if p = o then 1 else 0) := fun p => by
    unfold wT
    rw [c17]
    show cnt (s 0 17) _ + _ = _
    have e1 : cnt (s 0 17) (fun j => s' 16 j == p) = cnt (s 0 17) (fun j => s 16 j == p) := cnt_congr (fun j hj => by rw [c16 j (by omega)])
    simp only [e1, c16o]
    by_cases q : p = o
    · subst q; simp
    · simp [q, Ne.symm q]
  refine ⟨⟨iK_c c1 c2 c3 hK, fun p hp h4p => ?_, iG_c c2 c4 c7 c13 hG, iF_c c1 c4 c12 hF, fun p hp h4p => ?_, ⟨by rw [c17]; omega, fun j hj => ?_⟩, iO_c c4 c13 hO, iX_c c4 c18 hX, iB_c c4 c8 c20 hB⟩, hw17⟩
  · rw [c4] at h4p
    have h := hT p hp h4p
    unfold vo nfo at *
    rw [c4, c1, c6, c9, c11]
    refine ⟨h.1, h.2.1, h.2.2.1, ?_, h.2.2.2.2⟩
    by_cases q : p = o
    · rw [q, c10o]; omega
    · rw [c10 p q]; exact h.2.2.2.1
  · rw [c4] at h4p
    have h := hR p hp h4p
    have e : eK s' p = eK s p := by unfold eK; rw [c4, c12, c6]
    rw [e, c8, wx]
    by_cases q : p = o
    · rw [q, c5o, if_pos rfl]; rw [q] at h; omega
    · rw [c5 p q, if_neg q]; exact h
  · rw [c17] at hj
    by_cases q : j = s 0 17
    · subst q
      rw [c16o, c4, c10o]
      refine ⟨ho, h4, rfl, fun i hi => ?_⟩
      rw [c16 i (by omega)]
      intro e
      have := (hW.2 i hi).2.2.1
      rw [e] at this
      omega
    · have h5 := hW.2 j (by omega)
      rw [c16 j q, c4]
      refine ⟨h5.1, h5.2.1, ?_, fun i hi => ?_⟩
      · by_cases e : s 16 j = o
        · rw [e, c10o]
        · rw [c10 _ e]; exact h5.2.2.1
      · rw [c16 i (by omega)]; exact h5.2.2.2 i hi
theorem wish_inv (H : WK n s) (ho : o < 80) (h4 : s 4 o ≠ 0) (h6 : s 6 o = 2) (h10 : s 10 o = 0) : WK n (wstep o s) := by
  obtain ⟨hCI, hB, hD, hW⟩ := H
  have h5 := hW o ho h4 h6
  obtain ⟨hC1, h17⟩ := tell_CI hCI ho h4 h10
  unfold wstep
  generalize hs1 : nS (tellA o s) 5 o (s 5 o + 1) = s1 at *
  have c : ∀ c, c ≠ 10 → c ≠ 16 → c ≠ 0 → c ≠ 5 → s1 c = s c := fun c a1 a2 a3 a4 => by
    rw [← hs1]
    funext k
    unfold tellA
    rw [nS_ne (fun q => a4 q.1), nS_ne (fun q => a3 q.1), nS_ne (fun q => a2 q.1), nS_ne (fun q => a1 q.1)]
  have c4 := c 4 (by decide) (by decide) (by decide) (by decide)
  have c6 := c 6 (by decide) (by decide) (by decide) (by decide)
  have c11 := c 11 (by decide) (by decide) (by decide) (by decide)
  have c5 : ∀ p, p ≠ o → s1 5 p = s 5 p := fun p hp => by
    rw [← hs1, nS_ne (fun q => hp q.2)]
    unfold tellA
    rw [nS_ne (by omega), nS_ne (by omega), nS_ne (by omega)]
  have c5o : s1 5 o = 1 := by rw [← hs1, nS_eq, h5]
  have h41 : s1 4 o ≠ 0 := by rw [c4]; exact h4
  have h61 : s1 6 o = 2 := by rw [c6]; exact h6
  have hsame := trav_same (s := s1) (root := o) true
  have hro : ∀ p, Rch true s1 o p → p < 80 ∧ s1 4 p ≠ 0 ∧ s1 6 p ≠ 4 ∧ s1 6 p ≠ 0 := fun p hp => Rch_ok (bl := true) hC1.2.2.2.1 ho h41 (by omega) (by rw [h61]; decide) hp
  have h12 : ∀ p, Rch true s1 o p → s1 6 p = 1 ∨ s1 6 p = 2 := fun p hp => by
    have h := hro p hp
    have h3 := hB p h.1 (by rw [← c4]; exact h.2.1)
    have h6p := (hC1.2.1 p h.1 h.2.1).2.1
    rw [c6] at *
    omega
  have e6 : ∀ p, travA true o s1 6 p = if tb (Rch true s1 o p) = true then 0 else if false = true then 2 else s1 6 p := fun p => by
    rw [trav_6, if_neg (show ¬ false = true by decide)]
    by_cases q : tb (Rch true s1 o p) = true
    · rw [if_pos ⟨(hro p (tb_t.mp q)).1, q⟩, if_pos q]; rfl
    · rw [if_neg (fun z => q z.2), if_neg q]
  have e5 : ∀ p, travA true o s1 5 p = s1 5 p + tE s1 (fun x => tb (Rch true s1 o x)) p := fun p => by rw [trav_5]; rfl
  have hR := RC_up (W := fun _ => false) hC1.2.2.2.2.1 hsame e6 (fun p hp => ⟨(hro p (tb_t.mp hp)).1, (hro p (tb_t.mp hp)).2.1, h12 p (tb_t.mp hp)⟩) (fun p hp => by cases hp) e5
  have e6' : ∀ p, travA true o s1 6 p = if tb (Rch true s1 o p) = true then 0 else s1 6 p := fun p => by rw [e6 p, if_neg (show ¬ false = true by decide)]
  have f4 : travA true o s1 4 = s1 4 := hsame.fn (by decide) (by decide) (by decide)
  have f11 : travA true o s1 11 = s1 11 := hsame.fn (by decide) (by decide) (by decide)
  have hnext : ∀ i p, i < 480 → Rch true s1 o (i / 6) → s1 12 i = p + 1 → s1 6 p ≠ 4 → s1 6 p ≠ 0 → Rch true s1 o p := fun i p hi hr hv h64 h60 X hX hcl => hcl (i / 6) (i % 6) p (hr X hX hcl) (by omega) (by rw [show 6 * (i / 6) + i % 6 = i by omega]; exact hv) h64 h60
  refine ⟨CI_same hC1 hsame hR (fun p hp h4p => ?_), fun p hp h4p => ?_, fun p hp h4p h5p => ?_, fun p hp h4p h6p => ?_⟩
  · rw [e6' p]
    by_cases q : tb (Rch true s1 o p) = true
    · rw [if_pos q]; have := hro p (tb_t.mp q); omega
    · rw [if_neg q]; exact ⟨(hC1.2.1 p hp h4p).2.1, Iff.rfl⟩
  · rw [f4, c4] at h4p
    have h := hB p hp h4p
    rw [f11, c11, e6' p, c6]
    refine ⟨?_, ?_, h.2.2⟩
    · split
      · decide
      · exact h.1
    · split
      · decide
      · exact h.2.1
  · rw [f4, c4] at h4p
    rw [e5] at h5p
    rw [e6' p]
    by_cases q : tb (Rch true s1 o p) = true
    · exfalso
      have h1 := (tb_t.mp q) (fun x => Rch true s1 o x ∧ (s1 5 x ≠ 0 ∨ 0 < tE s1 (fun x => tb (Rch true s1 o x)) x)) ⟨fun X hX _ => hX, Or.inl (by rw [c5o]; decide)⟩ (fun y e h hy he hv h64 h60 => by
        have hy80 := (hro y hy.1).1
        have hr : Rch true s1 o h := fun X hX hcl => hcl y e h (hy.1 X hX hcl) he hv h64 h60
        refine ⟨hr, Or.inr (cnt_pos.mpr ⟨6 * y + e, by omega, ?_⟩)⟩
        have e1 : (6 * y + e) / 6 = y := by omega
        have e2 := tb_t.mpr hy.1
        simp only [e1, e2, hv]
        simp [h64])
      rcases h1.2 with z | z <;> omega
    · rw [if_neg q, c6]
      have hpo : p ≠ o := fun z => by rw [z] at q; exact q (tb_t.mpr (fun X hX _ => hX))
      rw [c5 p hpo] at h5p
      exact hD p hp h4p (by omega)
  · rw [f4, c4] at h4p
    rw [e6' p] at h6p
    rw [e5]
    by_cases q : tb (Rch true s1 o p) = true
    · rw [if_pos q] at h6p; cases h6p
    · rw [if_neg q] at h6p
      have hpo : p ≠ o := fun z => by rw [z] at q; exact q (tb_t.mpr (fun X hX _ => hX))
      have h62 : s 6 p = 2 := by rw [← c6]; exact h6p
      rw [c5 p hpo, hW p hp h4p h62]
      have : tE s1 (fun x => tb (Rch true s1 o x)) p = 0 := cnt_zero.mpr (fun i hi => by
        cases hb : tb (Rch true s1 o (i / 6)) with
        | false => simp only [hb, Bool.false_and]
        | true =>
          by_cases y : s1 12 i = p + 1
          · exact absurd (tb_t.mpr (hnext i p hi (tb_t.mp hb) y (by omega) (by omega))) q
          · have e : (s1 12 i == p + 1) = false := by simpa using y
            simp only [e, Bool.and_false, Bool.false_and])
      omega
theorem wAt_inv (H : WK n s) (hw : w < 400) : WK n (wAt w s) := by
  unfold wAt
  by_cases q : bs s w = true ∧ s 6 (s 13 w - 1) = 2 ∧ s 3 (s 4 (s 13 w - 1) - 1) = 1 ∧ s 10 (s 13 w - 1) = 0
  · rw [if_pos q]
    have h := bs_ok H.1 hw q.1
    exact wish_inv H h.1 h.2.1 q.2.1 q.2.2.2
  · rw [if_neg q]; exact H
theorem wAt_f {c : Nat} (hc : c ≠ 5) (h6 : c ≠ 6) (h0 : c ≠ 0) (h10 : c ≠ 10) (h16 : c ≠ 16) : wAt w s c = s c := by
  unfold wAt
  split
  · unfold wstep
    rw [(trav_same true).fn hc h6 h0]
    funext k
    unfold tellA
    rw [nS_ne (fun q => hc q.1), nS_ne (fun q => h0 q.1), nS_ne (fun q => h16 q.1), nS_ne (fun q => h10 q.1)]
  · rfl
theorem wAt_z {k : Nat} (hk : k ≠ 17 ∧ k ≠ 23 ∧ k ≠ 24) : wAt w s 0 k = s 0 k := by
  unfold wAt
  split
  · unfold wstep
    rw [(trav_same true).z ⟨hk.2.1, hk.2.2⟩]
    unfold tellA
    rw [nS_ne (by omega), nS_ne (by omega), nS_ne (by omega), nS_ne (by omega)]
  · rfl
theorem wRun_inv : ∀ (d w : Nat) (s : Sm), w + d = 400 → WK n s → WK n (wRun d w s) := by
  intro d
  induction d with
  | zero => intro w s _ H; exact H
  | succ d ih => intro w s hw H; exact ih (w + 1) _ (by omega) (wAt_inv H (by omega))
theorem wRun_f {c : Nat} (hc : c ≠ 5) (h6 : c ≠ 6) (h0 : c ≠ 0) (h10 : c ≠ 10) (h16 : c ≠ 16) : ∀ (d w : Nat) (s : Sm), wRun d w s c = s c := by
  intro d
  induction d with
  | zero => intro w s; rfl
  | succ d ih => intro w s; exact (ih (w + 1) _).trans (wAt_f hc h6 h0 h10 h16)
theorem wRun_z {k : Nat} (hk : k ≠ 17 ∧ k ≠ 23 ∧ k ≠ 24) : ∀ (d w : Nat) (s : Sm), wRun d w s 0 k = s 0 k := by
  intro d
  induction d with
  | zero => intro w s; rfl
  | succ d ih => intro w s; exact (ih (w + 1) _).trans (wAt_z hk)
end WSH
section WSC
variable {th : Nat → Option Nat} {n m fw tt : Nat} {l g : Nat → Nat} {q : Nat → Prop} {r u : Mm} {s : Sm} {o t v N w : Nat}
theorem co_owner (C : CR th n l m g q fw tt r u s) (hw : w < 400) : f_X6_owner N (i3 w) u = some (oT th (s 13 w), u) := by
  unfold f_X6_owner
  rw [if_neg (show ¬ i3 w < 0 by rw [i3_ltL (by omega) (by decide)]; omega), if_neg (show ¬ (400 : Int32) ≤ i3 w by rw [i3_Lle (by omega) (by decide)]; omega), i3_bI (by omega), decide_eq_true hw, ck_t, pt_d, i3_ix (by omega), C.w hw]
theorem co_ownerFrom (C : CR th n l m g q fw tt r u s) (hw : w < 400) (hO : s 13 w ≠ 0 → th (s 13 w - 1) ≠ none ∧ s 7 (s 13 w - 1) < 2147483648) : f_X6_ownerFrom N (i3 w) u = some (if bs s w = true then th (s 13 w - 1) else none, u) := by
  unfold f_X6_ownerFrom
  rw [co_owner C hw, bd_s]
  by_cases h0 : s 13 w = 0
  · have e : oT th (s 13 w) = none := by unfold oT; rw [if_pos h0]
    have eb : ¬ bs s w = true := fun z => (bs_t.mp z).1 h0
    rw [e, nl_n, if_neg eb]
  · have e : oT th (s 13 w) = th (s 13 w - 1) := by unfold oT; rw [if_neg h0]
    have h1 := hO h0
    rw [e]
    cases hc : th (s 13 w - 1) with
    | none => exact absurd hc h1.1
    | some t =>
      rw [nl_s, pt_d, C.a6 hc]
      by_cases h7 : s 7 (s 13 w - 1) = w
      · rw [if_pos (bs_t.mpr ⟨h0, h7⟩), if_pos ((i3_eq h1.2 (by omega)).mpr h7)]
      · rw [if_neg (fun z => h7 ((i3_eq h1.2 (by omega)).mp z)), if_neg (fun z => h7 (bs_t.mp z).2)]
theorem CI_own (H : CI n s) (C : CR th m l v g q fw tt r u s) (hw : w < 400) : s 13 w ≠ 0 → th (s 13 w - 1) ≠ none ∧ s 7 (s 13 w - 1) < 2147483648 := fun h0 => by
  have h1 := H.2.2.2.2.2.2.1 w hw
  have h4 := h1.2 h0
  have h80 : s 13 w - 1 < 80 := by omega
  have hg := (H.2.2.1 _ h80 h4).1
  exact ⟨((C.cs h80).2 h4).2, by omega⟩
theorem co_wishLoop (hN : 5000 ≤ N) : ∀ (j w : Nat) (u : Mm) (s : Sm), w ≤ 400 → 400 - w < j → WK n s → CR th m l 0 g (fun _ => False) (FW s) (TT s) r u s →
    Go (f_X0_tellWishes_2 N j (i3 w) u) (fun u' => CR th m l 0 g (fun _ => False) (FW (wRun (400 - w) w s)) (TT (wRun (400 - w) w s)) r u' (wRun (400 - w) w s)) := by
  intro j
  induction j with
  | zero => intro w u s _ hj; omega
  | succ j ih =>
    intro w u s hw hj H C
    show Go (g_X0_tellWishes_2 N (f_X0_tellWishes_2 N j) (i3 w) u) _
    unfold g_X0_tellWishes_2
    by_cases hw4 : 400 ≤ w
    · rw [if_pos ((i3_Lle (by omega) (by decide)).mpr hw4)]
      have e : 400 - w = 0 := by omega
      rw [e]
      exact Go.s C
    · rw [if_neg (fun z => hw4 ((i3_Lle (by omega) (by decide)).mp z)), co_ownerFrom C (by omega) (CI_own H.1 C (by omega)), bd_s]
      unfold f_X0_tellWishes_53
      rw [i3_addL]
      have er : wRun (400 - w) w s = wRun (400 - (w + 1)) (w + 1) (wAt w s) := by
        rw [show 400 - w = (400 - (w + 1)) + 1 by omega]
        rfl
      rw [er]
      have Hn := wAt_inv H (show w < 400 by omega)
      have eF : FW (wAt w s) = FW s := FW_c (wAt_f (by decide) (by decide) (by decide) (by decide) (by decide))
      have eT : TT (wAt w s) = TT s := TT_c (wAt_f (by decide) (by decide) (by decide) (by decide) (by decide))
      have hgo : ∀ u' : Mm, CR th m l 0 g (fun _ => False) (FW s) (TT s) r u' (wAt w s) → Go (f_X0_tellWishes_2 N j (i3 (w + 1)) u') (fun u' => CR th m l 0 g (fun _ => False) (FW (wRun (400 - (w + 1)) (w + 1) (wAt w s))) (TT (wRun (400 - (w + 1)) (w + 1) (wAt w s))) r u' (wRun (400 - (w + 1)) (w + 1) (wAt w s))) := fun u' C' => ih (w + 1) u' _ (by omega) (by omega) Hn (by rw [eF, eT]; exact C')
      have hskip : ¬ (bs s w = true ∧ s 6 (s 13 w - 1) = 2 ∧ s 3 (s 4 (s 13 w - 1) - 1) = 1 ∧ s 10 (s 13 w - 1) = 0) → wAt w s = s := fun z => by unfold wAt; rw [if_neg z]
      by_cases hb : bs s w = true
      · rw [if_pos hb]
        obtain ⟨h80, h4, he⟩ := bs_ok H.1 (by omega) hb
        generalize hoo : s 13 w - 1 = o at *
        have hth := ((C.cs h80).2 h4).2
        cases hc : th o with
        | none => exact absurd hc hth
        | some t =>
          have hT := H.1.2.1 o h80 h4
          have hv1 := hT.1.1
          have hv2 := hT.1.2.1
          have hbb := C.b hc h4
          rw [nl_s, pt_d, C.a5 hc]
          have z6 : i3 (s 6 o) = 2 ↔ s 6 o = 2 := i3_eqL (by omega) (by decide)
          by_cases h6 : s 6 o = 2
          · rw [if_pos (z6.mpr h6), pt_d]
            by_cases hwh : s 3 (s 4 o - 1) = 1 ∧ s 10 o = 0
            · rw [hbb.2.2.1 hwh, if_neg (by decide)]
              obtain ⟨hC1, h17⟩ := tell_CI H.1 h80 h4 hwh.2
              refine Go.bv (co_tell C hc h17) (fun u1 C1 => ?_)
              have e4 : nS (tellA o s) 5 o (s 5 o + 1) 4 o = s 4 o := by unfold tellA; rw [nS_ne (by omega), nS_ne (by omega), nS_ne (by omega), nS_ne (by omega)]
              have e6 : nS (tellA o s) 5 o (s 5 o + 1) 6 o = 2 := by unfold tellA; rw [nS_ne (by omega), nS_ne (by omega), nS_ne (by omega), nS_ne (by omega)]; exact h6
              refine Go.bv (co_blacken hN hC1.2.2.2.1 (CI_6 hC1) (fun z => by cases z) C1 hc (by rw [e4]; exact h4) (by omega) (by rw [e6]; decide)) (fun u2 C2 => ?_)
              refine hgo u2 ?_
              have e : wAt w s = wstep o s := by unfold wAt; rw [hoo, if_pos ⟨hb, h6, hwh⟩]
              rw [e]
              exact C2.1
            · rw [hbb.2.2.2 hwh, if_pos rfl]
              refine hgo u ?_
              rw [hskip (fun z => hwh z.2.2)]
              exact C
          · rw [if_neg (fun z => h6 (z6.mp z))]
            refine hgo u ?_
            rw [hskip (fun z => h6 z.2.1)]
            exact C
      · rw [if_neg hb, nl_n]
        refine hgo u ?_
        rw [hskip (fun z => hb z.1)]
        exact C
end WSC

section GA2
variable {s s2 : Sm} {n w o h p i : Nat} {De : Nat → Bool}
theorem lessG_f {c : Nat} (hg : s 6 h = 4) (hc : c = 1 ∨ c = 2 ∨ c = 3 ∨ c = 6 ∨ c = 7 ∨ c = 8 ∨ c = 9 ∨ c = 12 ∨ c = 14) : lessG h s c = s c := by
  have el : ∀ c, c = 1 ∨ c = 2 ∨ c = 3 ∨ c = 6 ∨ c = 7 ∨ c = 8 ∨ c = 9 ∨ c = 12 ∨ c = 14 → lowA h s c = s c := fun c hc => by
    have hd6 : decA h s 6 h = 4 := by unfold decA; rw [nS_ne (by omega)]; exact hg
    have hdc : decA h s c = s c := by funext k; unfold decA; rw [nS_ne (by omega)]
    unfold lowA
    split
    · split
      · unfold wshA blk
        have e6 : nS (tellA h (decA h s)) 5 h 1 6 h = 4 := by unfold tellA; rw [nS_ne (by omega), nS_ne (by omega), nS_ne (by omega), nS_ne (by omega)]; exact hd6
        rw [e6, if_pos rfl, nS_id e6]
        rw [← hdc]
        funext k
        unfold tellA
        rw [nS_ne (by omega), nS_ne (by omega), nS_ne (by omega), nS_ne (by omega)]
      · exact hdc
    · unfold suspA
      rw [if_pos (Or.inl hd6)]
      exact hdc
  unfold lessG
  split
  · have h6 : lowA h s 6 h = 4 := by rw [el 6 (by omega)]; exact hg
    unfold finA
    have e : blk h (lowA h s) = lowA h s := by
      unfold blk
      rw [h6, if_pos rfl, nS_id h6]
    rw [e]
    split
    · rw [← el c hc]
      funext k
      unfold freeA
      rw [if_neg (by omega), if_neg (by omega), if_neg (by omega), if_neg (by omega), if_neg (by omega), if_neg (by omega)]
    · rw [← el c hc]
      funext k
      rw [nS_ne (by omega)]
  · exact el c hc
theorem lessG_4 {q : Nat} (hq : q ≠ h) : lessG h s 4 q = s 4 q := by
  have el : lowA h s 4 = s 4 := lowA_f (by omega)
  unfold lessG
  split
  · unfold finA
    have e : blk h (lowA h s) 4 q = s 4 q := by unfold blk; rw [nS_ne (by omega), el]
    split
    · unfold freeA
      rw [if_neg (by omega), if_neg (by omega), if_neg (fun z => hq z.2), if_neg (by omega), if_neg (by omega), if_neg (by omega)]
      exact e
    · rw [nS_ne (by omega)]; exact e
  · rw [el]
theorem lessG_4m {q : Nat} (h' : lessG h s 4 q ≠ 0) : s 4 q ≠ 0 := by
  by_cases z : q = h
  · subst z
    have el : lowA q s 4 = s 4 := lowA_f (by omega)
    intro h0
    apply h'
    unfold lessG
    split
    · unfold finA
      split
      · unfold freeA
        rw [if_neg (by omega), if_neg (by omega), if_pos ⟨rfl, rfl⟩]
      · rw [nS_ne (by omega)]
        unfold blk
        rw [nS_ne (by omega), el]
        exact h0
    · rw [el]; exact h0
  · rw [lessG_4 z] at h'; exact h'
def GL (n : Nat) (De : Nat → Bool) (w : Nat) (s2 : Sm) (p f : Nat) (s : Sm) : Prop :=
  GK n De w s2 s ∧ p < 80 ∧ s 4 p ≠ 0 ∧ s 6 p = 2 ∧ (∀ e, e < f → s 12 (6 * p + e) ≠ 0 → s 6 (s 12 (6 * p + e) - 1) = 4 → De (6 * p + e) = true) ∧ (∀ j, De j = true → j / 6 = p) ∧ ∀ e, f ≤ e → e < 6 → De (6 * p + e) = false
theorem gE_inv {f : Nat} (H : GL n De w s2 p f s) (hf : f < 6) : ∃ De', GL n De' w s2 p (f + 1) (gE (6 * p + f) s) ∧ (gE (6 * p + f) s) 6 = s 6 ∧ (gE (6 * p + f) s) 7 = s 7 ∧ (gE (6 * p + f) s) 12 = s 12 ∧ (∀ q, (gE (6 * p + f) s) 4 q ≠ 0 → s 4 q ≠ 0) := by
  obtain ⟨HK, hp, h4, h6, hd, hj, hz⟩ := H
  have hi6 : (6 * p + f) / 6 = p := by omega
  unfold gE
  by_cases c : s 12 (6 * p + f) ≠ 0 ∧ s 6 (s 12 (6 * p + f) - 1) = 4
  · rw [if_pos c]
    generalize hhd : s 12 (6 * p + f) - 1 = h at *
    have hv : s 12 (6 * p + f) = h + 1 := by omega
    have HL := lessG_inv HK (show 6 * p + f < 480 by omega) (by rw [hi6]; exact h4) (by rw [hi6]; exact h6) (hz f (Nat.le_refl _) hf) hv c.2
    have hph : p ≠ h := fun z => by rw [z, c.2] at h6; cases h6
    have e6 := lessG_f (c := 6) c.2 (by omega)
    have e12 := lessG_f (c := 12) c.2 (by omega)
    refine ⟨stD (6 * p + f) De, ⟨HL.1, hp, by rw [lessG_4 hph]; exact h4, by rw [e6]; exact h6, fun e he a b => ?_, fun j hj' => ?_, fun e he1 he2 => ?_⟩, e6, lessG_f (c := 7) c.2 (by omega), e12, fun q => lessG_4m⟩
    · rw [e12] at a b
      rw [e6] at b
      by_cases y : e = f
      · subst y; exact stD_eq
      · rw [stD_ne (by omega)]; exact hd e (by omega) a b
    · by_cases y : j = 6 * p + f
      · rw [y]; exact hi6
      · rw [stD_ne y] at hj'; exact hj j hj'
    · rw [stD_ne (by omega)]; exact hz e (by omega) he2
  · rw [if_neg c]
    refine ⟨De, ⟨HK, hp, h4, h6, fun e he a b => ?_, hj, fun e he1 he2 => hz e (by omega) he2⟩, rfl, rfl, rfl, fun q z => z⟩
    by_cases y : e = f
    · subst y; exact absurd ⟨a, b⟩ c
    · exact hd e (by omega) a b
theorem gF_inv : ∀ (d f : Nat) (De : Nat → Bool) (s : Sm), f + d = 6 → GL n De w s2 p f s → (∃ De', GL n De' w s2 p 6 (gF p d f s)) ∧ (gF p d f s) 6 = s 6 ∧ (gF p d f s) 7 = s 7 ∧ (gF p d f s) 12 = s 12 ∧ (∀ q, (gF p d f s) 4 q ≠ 0 → s 4 q ≠ 0) := by
  intro d
  induction d with
  | zero => intro f De s hf H; rw [Nat.add_zero] at hf; subst hf; exact ⟨⟨De, H⟩, rfl, rfl, rfl, fun q z => z⟩
  | succ d ih =>
    intro f De s hf H
    obtain ⟨De', H', a, b, c, e⟩ := gE_inv H (by omega)
    obtain ⟨x, y1, y2, y3, y4⟩ := ih (f + 1) De' _ (by omega) H'
    exact ⟨x, y1.trans a, y2.trans b, y3.trans c, fun q z => e q (y4 q z)⟩
theorem white_inv (H : GL n De w s2 p 6 s) : GK n (fun _ => false) w s2 (freeA p s) := by
  obtain ⟨⟨hK, hT, hG, hFi, hR, hW, hO, hX, hB, h15, hN, h13, h7, hDw⟩, hp, h4, h6, hd, hj, hz⟩ := H
  have hTp := (hT p hp).2.2 h4
  have h5 : s 5 p = 0 := hTp.2.2.2.2.2.mpr h6
  have hRp := hR p hp h4
  have e0 : eG De s p = 0 := by omega
  have w0 : wT s p = 0 := by omega
  generalize hs : freeA p s = s'
  have f : s' = freeA p s := hs.symm
  have c : ∀ c, c ≠ 13 → c ≠ 18 → c ≠ 4 → c ≠ 11 → c ≠ 19 → c ≠ 0 → s' c = s c := fun c a1 a2 a3 a4 a5 a6 => by
    rw [f]
    funext k
    unfold freeA
    rw [if_neg (fun z => a1 z.1), if_neg (fun z => a2 z.1), if_neg (fun z => a3 z.1), if_neg (fun z => a4 z.1), if_neg (fun z => a5 z.1), if_neg (fun z => a6 z.1)]
  have c1 := c 1 (by decide) (by decide) (by decide) (by decide) (by decide) (by decide)
  have c2 := c 2 (by decide) (by decide) (by decide) (by decide) (by decide) (by decide)
  have c3 := c 3 (by decide) (by decide) (by decide) (by decide) (by decide) (by decide)
  have c5 := c 5 (by decide) (by decide) (by decide) (by decide) (by decide) (by decide)
  have c6 := c 6 (by decide) (by decide) (by decide) (by decide) (by decide) (by decide)
  have c7 := c 7 (by decide) (by decide) (by decide) (by decide) (by decide) (by decide)
  have c8 := c 8 (by decide) (by decide) (by decide) (by decide) (by decide) (by decide)
  have c9 := c 9 (by decide) (by decide) (by decide) (by decide) (by decide) (by decide)
  have c10 := c 10 (by decide) (by decide) (by decide) (by decide) (by decide) (by decide)
  have c12 := c 12 (by decide) (by decide) (by decide) (by decide) (by decide) (by decide)
  have c16 := c 16 (by decide) (by decide) (by decide) (by decide) (by decide) (by decide)
  have z15 : s' 0 15 = s 0 15 := by rw [f]; simp [freeA]
  have z17 : s' 0 17 = s 0 17 := by rw [f]; simp [freeA]
  have z20 : s' 0 20 = s 0 20 + 1 := by rw [f]; simp [freeA]
  have c4 : ∀ q, q ≠ p → s' 4 q = s 4 q := fun q hq => by rw [f]; simp [freeA, hq]
  have k4 : s' 4 p = 0 := by rw [f]; simp [freeA]
  have c11 : ∀ q, q ≠ p → s' 11 q = s 11 q := fun q hq => by rw [f]; simp [freeA, hq]
  have k11 : s' 11 p = 0 := by rw [f]; simp [freeA]
  have c13 : ∀ w, w < 400 → s' 13 w = if s 13 w = p + 1 then 0 else s 13 w := fun w hw => by rw [f]; simp [freeA, hw]
  have c18 : ∀ w, w < 20 → s' 18 w = if s 18 w = p + 1 then 0 else s 18 w := fun w hw => by rw [f]; simp [freeA, hw]
  have ctt : TT s' + 1 = TT s := by rw [f]; exact TT_free hp h4
  clear hs f
  have h4' : ∀ q, s' 4 q ≠ 0 → q ≠ p ∧ s 4 q ≠ 0 := fun q hq => by
    by_cases z : q = p
    · subst z; exact absurd k4 hq
    · rw [c4 q z] at hq; exact ⟨z, hq⟩
  have hwo : ∀ j, j < s 0 17 → s 16 j ≠ p := fun j hj q => by
    have := cnt_zero.mp w0 j hj
    simp [q] at this
  have hno : ∀ j, j < 480 → s 4 (j / 6) ≠ 0 → s 6 (j / 6) ≠ 2 → s 12 j ≠ p + 1 := fun j hj4 h4j h6j q => by
    have h1 := cnt_zero.mp e0 j hj4
    have q4 : decide (s 4 (j / 6) ≠ 0) = true := decide_eq_true h4j
    have qd : De j = false := by
      cases hdj : De j with
      | false => rfl
      | true => exact absurd (hDw j hdj) h6j
    have q2 : (s 6 (j / 6) == 2) = false := by simpa using h6j
    simp only [q4, q, qd, q2] at h1
    simp at h1
  refine ⟨iK_c c1 c2 c3 hK, fun q hq => ?_, ?_, ?_, ?_, ?_, ?_, ?_, ?_, by rw [z15]; exact h15, fun q hq h4q h6q => ?_, fun x hx => ?_, by rw [c7]; exact h7, fun j hj => by cases hj⟩
  · have ht := hT q hq
    by_cases z : q = p
    · subst z
      rw [c9, k4, k11]
      exact ⟨ht.1, fun _ => rfl, fun z => absurd rfl z⟩
    · unfold vo nfo at *
      rw [c9, c4 q z, c11 q z, c1, c6, c10, c5]
      exact ht
  · intro q hq h4q
    obtain ⟨z, h4q⟩ := h4' q h4q
    have h1 := hG q hq h4q
    unfold geo szo at *
    rw [c2, c4 q z, c7]
    refine ⟨h1.1, fun w hw => ?_⟩
    rw [c13 w hw]
    have h2 := h1.2 w hw
    by_cases y : s 13 w = p + 1
    · rw [if_pos y]; rw [y] at h2; omega
    · rw [if_neg y]; exact h2
  · intro j hj4 h4j
    obtain ⟨z, h4j⟩ := h4' _ h4j
    have h1 := hFi j hj4 h4j
    have e : nfo s' (j / 6) = nfo s (j / 6) := by unfold nfo; rw [c4 _ z, c1]
    rw [c12, e, c6]
    refine ⟨h1.1, fun y => ⟨(h1.2 y).1, (h1.2 y).2.1, fun y1 => ?_, fun y1 _ => ?_⟩⟩
    · have := hno j hj4 h4j y1
      rw [c4 _ (by omega)]
      exact (h1.2 y).2.2.1 y1
    · have hne : s 12 j - 1 ≠ p := fun z => by rw [z, h6] at y1; cases y1
      rw [c4 _ hne]
      refine (h1.2 y).2.2.2 y1 ?_
      cases hdj : De j with
      | false => rfl
      | true => exact absurd (hj j hdj) z
  · intro q hq h4q
    obtain ⟨z, h4q⟩ := h4' q h4q
    have h1 := hR q hq h4q
    have e : wT s' q = wT s q := by unfold wT; rw [z17, c16]
    have e3 : eG (fun _ => false) s' q = eG De s q := cnt_congr (fun j hj4 => by
      rw [c12, c6]
      by_cases y : j / 6 = p
      · rw [y, k4, h6]
        have q4 : decide (s 4 p ≠ 0) = true := decide_eq_true h4
        rw [q4]
        by_cases v : s 12 j = q + 1
        · by_cases g : s 6 q = 4
          · have hdj := hd (j % 6) (by omega)
            rw [show 6 * p + j % 6 = j by omega] at hdj
            rw [hdj (by omega) (by rw [v]; simpa using g)]
            simp
          · simp [g]
        · have e : (s 12 j == q + 1) = false := by simpa using v
          rw [e]
          simp
      · have hdj : De j = false := by
          cases hdj : De j with
          | false => rfl
          | true => exact absurd (hj j hdj) y
        rw [c4 _ y, hdj])
    rw [e3, e, c5, c8]
    exact h1
  · refine ⟨by rw [z17]; exact hW.1, fun j hj => ?_⟩
    rw [z17] at hj
    rw [c16, c4 _ (hwo j hj), c10]
    exact hW.2 j hj
  · intro w hw
    rw [c13 w hw]
    have h1 := hO w hw
    by_cases z : s 13 w = p + 1
    · rw [if_pos z]; exact ⟨by omega, fun q => absurd rfl q⟩
    · rw [if_neg z]
      refine ⟨h1.1, fun q => ?_⟩
      rw [c4 _ (by omega)]
      exact h1.2 q
  · intro w hw
    rw [c18 w hw]
    have h1 := hX w hw
    by_cases z : s 18 w = p + 1
    · rw [if_pos z]; exact ⟨by omega, fun q => absurd rfl q⟩
    · rw [if_neg z]
      refine ⟨h1.1, fun q => ?_⟩
      rw [c4 _ (by omega)]
      exact h1.2 q
  · refine ⟨fun q hq h4q => ?_, ?_, hB.2.2⟩
    · obtain ⟨_, h4q⟩ := h4' q h4q
      rw [c8]; exact hB.1 q hq h4q
    · have := hB.2.1
      rw [z20]; omega
  · obtain ⟨_, h4q⟩ := h4' q h4q
    rw [c6] at h6q
    rw [c7]
    exact hN q hq h4q h6q
  · rw [c13 x hx]
    split
    · exact Or.inl rfl
    · exact h13 x hx
theorem gAt_white (H : GK n (fun _ => false) w s2 s) (hw : w < 400) (c : bs s w = true ∧ s 6 (s 13 w - 1) = 2) : GL n (fun _ => false) w s2 (s 13 w - 1) 0 s := by
  have h1 := bs_t.mp c.1
  have hO := H.2.2.2.2.2.2.1 w hw
  exact ⟨H, by omega, hO.2 h1.1, c.2, fun e he => by omega, (fun j hj => by cases hj), fun _ _ _ => rfl⟩
theorem gAt_inv (H : GK n (fun _ => false) w s2 s) (hw : w < 400) : GK n (fun _ => false) (w + 1) s2 (gAt w s) := by
  have hN := H.2.2.2.2.2.2.2.2.2.2.1
  have hK := H.1
  have hT := H.2.1
  have hG := H.2.2.1
  have key : ∀ o, o < 80 → s 4 o ≠ 0 → s 7 o = w → bs s w = true ∧ s 13 w - 1 = o := fun o ho h4 h7 => by
    have hg := hG o ho h4
    have hv := ((hT o ho).2.2 h4).1
    have hk := (hK (s 4 o - 1) (by have := hv.1; have := hv.2.1; omega)).2.2 hv.2.2
    have h1 := (hg.2 w hw).mpr ⟨by omega, by unfold szo; omega⟩
    refine ⟨bs_t.mpr ⟨by omega, by rw [h1, show o + 1 - 1 = o by omega]; exact h7⟩, by omega⟩
  unfold gAt
  by_cases c : bs s w = true ∧ s 6 (s 13 w - 1) = 2
  · rw [if_pos c]
    have HL := gAt_white H hw c
    obtain ⟨⟨De', H'⟩, e6, e7, e12, e4⟩ := gF_inv 6 0 _ s rfl HL
    have HW := white_inv H'
    generalize hp : s 13 w - 1 = p at *
    obtain ⟨a1, a2, a3, a4, a5, a6, a7, a8, a9, a10, a11, a12, a13, a14⟩ := HW
    refine ⟨a1, a2, a3, a4, a5, a6, a7, a8, a9, a10, fun o ho h4 h6 => ?_, a12, a13, a14⟩
    have h7 := a11 o ho h4 h6
    have f7 : freeA p (gF p 6 0 s) 7 = s 7 := by
      rw [← e7]
      funext k
      unfold freeA
      rw [if_neg (by omega), if_neg (by omega), if_neg (by omega), if_neg (by omega), if_neg (by omega), if_neg (by omega)]
    rw [f7] at h7 ⊢
    apply Classical.byContradiction
    intro z
    have h4o : freeA p (gF p 6 0 s) 4 o ≠ 0 := h4
    have hop : o ≠ p := fun y => by
      rw [y] at h4o
      unfold freeA at h4o
      rw [if_neg (by omega), if_neg (by omega), if_pos ⟨rfl, rfl⟩] at h4o
      exact h4o rfl
    have h4s : s 4 o ≠ 0 := by
      apply e4 o
      unfold freeA at h4o
      rw [if_neg (by omega), if_neg (by omega), if_neg (fun y => hop y.2), if_neg (by omega), if_neg (by omega), if_neg (by omega)] at h4o
      exact h4o
    have := (key o ho h4s (by omega)).2
    omega
  · rw [if_neg c]
    obtain ⟨a1, a2, a3, a4, a5, a6, a7, a8, a9, a10, a11, a12, a13, a14⟩ := H
    refine ⟨a1, a2, a3, a4, a5, a6, a7, a8, a9, a10, fun o ho h4 h6 => ?_, a12, a13, a14⟩
    have h7 := a11 o ho h4 h6
    apply Classical.byContradiction
    intro z
    have h1 := key o ho h4 (by omega)
    exact c ⟨h1.1, by rw [h1.2]; exact h6⟩
theorem gRun_inv : ∀ (d w : Nat) (s : Sm), w + d = 400 → GK n (fun _ => false) w s2 s → GK n (fun _ => false) 400 s2 (gRun d w s) := by
  intro d
  induction d with
  | zero => intro w s hw H; rw [Nat.add_zero] at hw; subst hw; exact H
  | succ d ih => intro w s hw H; exact ih (w + 1) _ (by omega) (gAt_inv H (by omega))
theorem gath_end (H : GK n (fun _ => false) 400 s2 s) : LI n d0 0 (fun _ => 0) s := by
  obtain ⟨hK, hT, hG, hFi, hR, hW, hO, hX, hB, h15, hN, h13, h7, hDw⟩ := H
  have hno : ∀ o, o < 80 → s 4 o ≠ 0 → s 6 o ≠ 2 := fun o ho h4 h6 => by
    have h1 := hN o ho h4 h6
    have hg := (hG o ho h4).1
    have hv := ((hT o ho).2.2 h4).1
    have hk := (hK (s 4 o - 1) (by have := hv.1; have := hv.2.1; omega)).2.2 hv.2.2
    unfold szo at hg
    omega
  refine ⟨hK, fun o ho => ⟨fun h4 => ?_, fun h4 => ⟨(hT o ho).1, (hT o ho).2.1 h4⟩⟩, hG, fun i hi h4 => ?_, fun o ho h4 => ?_, ⟨?_, fun j hj => by omega⟩, hW, hO, hX, hB, fun o ho h4 => ?_, fun j hj => by omega, fun o ho h4 h11 h5 => ?_⟩
  · have h := (hT o ho).2.2 h4
    have h9 := (hT o ho).1
    refine ⟨h.1, by have := h.2.1; omega, by omega, h.2.2.1, by have := h.2.2.2.1; omega, h.2.2.2.2.1, fun z => by have := h.2.1; omega, fun z => by have := h.2.2.2.1; omega, fun z => by omega⟩
  · have h1 := hFi i hi h4
    refine ⟨h1.1, fun z => ⟨(h1.2 z).1, (h1.2 z).2.2.1 (hno (i / 6) (by omega) h4)⟩⟩
  · have h1 := hR o ho h4
    have e : eG (fun _ => false) s o = eT s o := cnt_congr (fun i hi => by
      by_cases q : s 4 (i / 6) ≠ 0
      · have h6 := hno (i / 6) (by omega) q
        have q2 : (s 6 (i / 6) == 2) = false := by simpa using h6
        rw [q2]
        simp
      · have : decide (s 4 (i / 6) ≠ 0) = false := decide_eq_false q
        rw [this]; rfl)
    rw [e] at h1
    have h2 : d0 o = 0 := rfl
    omega
  · rw [h15]
    exact (cnt_zero.mpr (fun o ho => by rw [(hT o ho).1]; rfl)).symm
  · have h := (hT o ho).2.2 h4
    have := hno o ho h4
    have := h.2.1
    omega
  · have h := (hT o ho).2.2 h4
    exact absurd (h.2.2.2.2.2.mp h5) (hno o ho h4)
end GA2

def lessG (h : Nat) (s : Sm) : Sm := if s 5 h ≤ 1 ∧ ¬ (s 3 (s 4 h - 1) = 1 ∧ s 10 h = 0) then finA h (lowA h s) else lowA h s
def gE (i : Nat) (s : Sm) : Sm := if s 12 i ≠ 0 ∧ s 6 (s 12 i - 1) = 4 then lessG (s 12 i - 1) s else s
def gF (p : Nat) : Nat → Nat → Sm → Sm
  | 0, _, s => s
  | d + 1, f, s => gF p d (f + 1) (gE (6 * p + f) s)
def gAt (w : Nat) (s : Sm) : Sm := if bs s w = true ∧ s 6 (s 13 w - 1) = 2 then freeA (s 13 w - 1) (gF (s 13 w - 1) 6 0 s) else s
def gRun : Nat → Nat → Sm → Sm
  | 0, _, s => s
  | d + 1, w, s => gRun d (w + 1) (gAt w s)
def eG (De : Nat → Bool) (s : Sm) (o : Nat) : Nat := cnt 480 (fun i => decide (s 4 (i / 6) ≠ 0) && (s 12 i == o + 1) && !(s 6 (i / 6) == 2 && s 6 o != 4) && !De i)
def gT (s : Sm) : Prop := ∀ o, o < 80 → s 9 o = 0 ∧ (s 4 o = 0 → s 11 o = 0) ∧ (s 4 o ≠ 0 → vo s o ∧ (s 6 o = 0 ∨ s 6 o = 2 ∨ s 6 o = 4) ∧ s 10 o ≤ 1 ∧ s 11 o = 0 ∧ (s 6 o = 4 ↔ nfo s o = 0) ∧ (s 5 o = 0 ↔ s 6 o = 2))
def gFi (De : Nat → Bool) (s : Sm) : Prop := ∀ i, i < 480 → s 4 (i / 6) ≠ 0 → s 12 i ≤ 80 ∧ (s 12 i ≠ 0 → i % 6 < nfo s (i / 6) ∧ s 6 (s 12 i - 1) ≤ 4 ∧ (s 6 (i / 6) ≠ 2 → s 4 (s 12 i - 1) ≠ 0) ∧ (s 6 (s 12 i - 1) = 4 → De i = false → s 4 (s 12 i - 1) ≠ 0))
def gR (De : Nat → Bool) (s : Sm) : Prop := ∀ o, o < 80 → s 4 o ≠ 0 → s 5 o = eG De s o + s 8 o + wT s o
def GK (n : Nat) (De : Nat → Bool) (w : Nat) (s2 s : Sm) : Prop := iK s ∧ gT s ∧ iG s ∧ gFi De s ∧ gR De s ∧ iW s ∧ iO s ∧ iX s ∧ iB n s ∧ s 0 15 = 0 ∧ (∀ o, o < 80 → s 4 o ≠ 0 → s 6 o = 2 → w ≤ s 7 o) ∧ (∀ x, x < 400 → s 13 x = 0 ∨ s 13 x = s2 13 x) ∧ s 7 = s2 7 ∧ ∀ j, De j = true → s 6 (j / 6) = 2
section GAT
variable {s s2 : Sm} {n w o h p i : Nat} {De : Nat → Bool}
theorem lessG_inv (H : GK n De w s2 s) (hi : i < 480) (h4p : s 4 (i / 6) ≠ 0) (h6p : s 6 (i / 6) = 2) (hD : De i = false) (hv : s 12 i = h + 1) (hg : s 6 h = 4) :
    GK n (stD i De) w s2 (lessG h s) ∧ h < 80 ∧ s 4 h ≠ 0 ∧ s 5 h ≠ 0 := by
  obtain ⟨hK, hT, hG, hFi, hR, hW, hO, hX, hB, h15, hN, h13, h7, hDw⟩ := H
  have hF0 := hFi i hi h4p
  have hh : h < 80 := by omega
  have hF1 := hF0.2 (by omega)
  rw [hv, show h + 1 - 1 = h by omega] at hF1
  have h4 := hF1.2.2.2 hg hD
  have hTh := (hT h hh).2.2 h4
  have h9 := (hT h hh).1
  have hRh := hR h hh h4
  have hci : 0 < eG De s h := cnt_pos.mpr ⟨i, hi, by
    have q4 : decide (s 4 (i / 6) ≠ 0) = true := decide_eq_true h4p
    rw [q4, hv, hD, hg]
    simp⟩
  have h5 : s 5 h ≠ 0 := by omega
  refine ⟨?_, hh, h4, h5⟩
  have hfz : ∀ f, f < 6 → s 12 (6 * h + f) = 0 := fun f hf => by
    have h1 := hFi (6 * h + f) (by omega) (by rw [show (6 * h + f) / 6 = h by omega]; exact h4)
    apply Classical.byContradiction
    intro z
    have := (h1.2 z).1
    rw [show (6 * h + f) / 6 = h by omega, (hTh.2.2.2.2.1).mp hg] at this
    omega
  have hcnt : ∀ o, eG (stD i De) s o + (if o = h then 1 else 0) = eG De s o := fun o => by
    by_cases q : o = h
    · subst q
      rw [if_pos rfl]
      have := cnt_on (n := 480) (k := i) (p := fun j => decide (s 4 (j / 6) ≠ 0) && (s 12 j == o + 1) && !(s 6 (j / 6) == 2 && s 6 o != 4) && !(stD i De j)) (q := fun j => decide (s 4 (j / 6) ≠ 0) && (s 12 j == o + 1) && !(s 6 (j / 6) == 2 && s 6 o != 4) && !De j) hi (fun j _ hj => by rw [stD_ne hj]) (by rw [stD_eq]; simp) (by
        have q4 : decide (s 4 (i / 6) ≠ 0) = true := decide_eq_true h4p
        rw [q4, hv, hD, hg]
        simp)
      exact this.symm
    · rw [if_neg q]
      refine (Nat.add_zero _).trans (cnt_congr (fun j _ => ?_))
      by_cases z : j = i
      · have e : (s 12 j == o + 1) = false := by rw [z, hv]; simp; omega
        rw [e]
        simp
      · rw [stD_ne z]
  have hDm : ∀ j, stD i De j = false → De j = false := fun j hj => by
    unfold stD at hj
    rw [Bool.or_eq_false_iff] at hj
    exact hj.1
  have hDw' : ∀ j, stD i De j = true → s 6 (j / 6) = 2 := fun j hj => by
    by_cases z : j = i
    · rw [z]; exact h6p
    · rw [stD_ne z] at hj; exact hDw j hj
  have hlow : s 5 h ≤ 1 → s 3 (s 4 h - 1) = 1 ∧ s 10 h = 0 → lowA h s = wshA h (decA h s) := fun a b => by unfold lowA; rw [if_pos a, if_pos b]
  unfold lessG
  by_cases hgo : s 5 h ≤ 1 ∧ ¬ (s 3 (s 4 h - 1) = 1 ∧ s 10 h = 0)
  · rw [if_pos hgo]
    have el : lowA h s = decA h s := by unfold lowA; rw [if_pos hgo.1, if_neg hgo.2]
    have ef : finA h (lowA h s) = freeA h (decA h s) := by
      rw [el]
      unfold finA
      have e9 : decA h s 9 h = 0 := by unfold decA; rw [nS_ne (by omega)]; exact h9
      have e6 : decA h s 6 h = 4 := by unfold decA; rw [nS_ne (by omega)]; exact hg
      rw [if_pos e9]
      unfold blk
      rw [e6, if_pos rfl, nS_id e6]
    rw [ef]
    generalize hs : freeA h (decA h s) = s'
    have f : s' = freeA h (nS s 5 h (s 5 h - 1)) := hs.symm
    have c1 : s' 1 = s 1 := by rw [f]; funext j; simp [freeA, nS]
    have c2 : s' 2 = s 2 := by rw [f]; funext j; simp [freeA, nS]
    have c3 : s' 3 = s 3 := by rw [f]; funext j; simp [freeA, nS]
    have c6 : s' 6 = s 6 := by rw [f]; funext j; simp [freeA, nS]
    have c7 : s' 7 = s 7 := by rw [f]; funext j; simp [freeA, nS]
    have c8 : s' 8 = s 8 := by rw [f]; funext j; simp [freeA, nS]
    have c9 : s' 9 = s 9 := by rw [f]; funext j; simp [freeA, nS]
    have c10 : s' 10 = s 10 := by rw [f]; funext j; simp [freeA, nS]
    have c12 : s' 12 = s 12 := by rw [f]; funext j; simp [freeA, nS]
    have c16 : s' 16 = s 16 := by rw [f]; funext j; simp [freeA, nS]
    have z15 : s' 0 15 = s 0 15 := by rw [f]; simp [freeA, nS]
    have z17 : s' 0 17 = s 0 17 := by rw [f]; simp [freeA, nS]
    have z20 : s' 0 20 = s 0 20 + 1 := by rw [f]; simp [freeA, nS]
    have c5 : ∀ p, p ≠ h → s' 5 p = s 5 p := fun p hp => by rw [f]; simp [freeA, nS, hp]
    have c4 : ∀ p, p ≠ h → s' 4 p = s 4 p := fun p hp => by rw [f]; simp [freeA, nS, hp]
    have k4 : s' 4 h = 0 := by rw [f]; simp [freeA, nS]
    have c11 : ∀ p, p ≠ h → s' 11 p = s 11 p := fun p hp => by rw [f]; simp [freeA, nS, hp]
    have k11 : s' 11 h = 0 := by rw [f]; simp [freeA, nS]
    have c13 : ∀ w, w < 400 → s' 13 w = if s 13 w = h + 1 then 0 else s 13 w := fun w hw => by rw [f]; simp [freeA, nS, hw]
    have c18 : ∀ w, w < 20 → s' 18 w = if s 18 w = h + 1 then 0 else s 18 w := fun w hw => by rw [f]; simp [freeA, nS, hw]
    have ctt : TT s' + 1 = TT s := by
      rw [f, TT_free hh (by rw [nS_ne (by omega)]; exact h4)]
      exact TT_c (by funext j; simp [nS])
    clear hs f
    have h4' : ∀ p, s' 4 p ≠ 0 → p ≠ h ∧ s 4 p ≠ 0 := fun p hp => by
      by_cases q : p = h
      · subst q; exact absurd k4 hp
      · rw [c4 p q] at hp; exact ⟨q, hp⟩
    have hfz2 : ∀ j, j < 480 → j / 6 = h → s 12 j = 0 := fun j hj hjo => by
      have h1 := hfz (j % 6) (by omega)
      rw [show 6 * h + j % 6 = j by omega] at h1
      exact h1
    have e1 : eG De s h = 1 := by omega
    have e0 : eG (stD i De) s h = 0 := by have := hcnt h; rw [if_pos rfl] at this; omega
    have w0 : wT s h = 0 := by omega
    have hno : ∀ j, j < 480 → s 4 (j / 6) ≠ 0 → stD i De j = false → s 12 j ≠ h + 1 := fun j hj h4j hdj q => by
      have := cnt_zero.mp e0 j hj
      have q4 : decide (s 4 (j / 6) ≠ 0) = true := decide_eq_true h4j
      simp only [q4, q, hdj, hg] at this
      simp at this
    have hwo : ∀ j, j < s 0 17 → s 16 j ≠ h := fun j hj q => by
      have := cnt_zero.mp w0 j hj
      simp [q] at this
    refine ⟨iK_c c1 c2 c3 hK, fun p hp => ?_, ?_, ?_, ?_, ?_, ?_, ?_, ?_, by rw [z15]; exact h15, fun p hp h4q h6q => ?_, fun x hx => ?_, by rw [c7]; exact h7, by rw [c6]; exact hDw'⟩
    · have ht := hT p hp
      by_cases q : p = h
      · subst q
        rw [c9, k4, k11]
        exact ⟨ht.1, fun _ => rfl, fun z => absurd rfl z⟩
      · unfold vo nfo at *
        rw [c9, c4 p q, c11 p q, c1, c6, c10, c5 p q]
        exact ht
    · intro p hp h4q
      obtain ⟨q, h4q⟩ := h4' p h4q
      have h1 := hG p hp h4q
      unfold geo szo at *
      rw [c2, c4 p q, c7]
      refine ⟨h1.1, fun w hw => ?_⟩
      rw [c13 w hw]
      have h2 := h1.2 w hw
      by_cases z : s 13 w = h + 1
      · rw [if_pos z]; rw [z] at h2; omega
      · rw [if_neg z]; exact h2
    · intro j hj h4j
      obtain ⟨q, h4j⟩ := h4' _ h4j
      have h1 := hFi j hj h4j
      have e : nfo s' (j / 6) = nfo s (j / 6) := by unfold nfo; rw [c4 _ q, c1]
      rw [c12, e, c6]
      refine ⟨h1.1, fun z => ⟨(h1.2 z).1, (h1.2 z).2.1, fun y => ?_, fun y1 y2 => ?_⟩⟩
      · have h3 := (h1.2 z).2.2.1 y
        have hdj : stD i De j = false := by
          cases hd : stD i De j with
          | false => rfl
          | true =>
            exfalso
            exact y (hDw' j hd)
        have := hno j hj h4j hdj
        rw [c4 _ (by omega)]
        exact h3
      · have := hno j hj h4j y2
        rw [c4 _ (by omega)]
        exact (h1.2 z).2.2.2 y1 (hDm j y2)
    · intro p hp h4q
      obtain ⟨q, h4q⟩ := h4' p h4q
      have h1 := hR p hp h4q
      have e : wT s' p = wT s p := by unfold wT; rw [z17, c16]
      have e2 := hcnt p
      rw [if_neg q] at e2
      have e3 : eG (stD i De) s' p = eG (stD i De) s p := cnt_congr (fun j hj => by
        rw [c12, c6]
        by_cases y : j / 6 = h
        · have := hfz2 j hj y
          simp [this]
        · rw [c4 _ y])
      rw [e3, e, c5 p q, c8]
      omega
    · refine ⟨by rw [z17]; exact hW.1, fun j hj => ?_⟩
      rw [z17] at hj
      rw [c16, c4 _ (hwo j hj), c10]
      exact hW.2 j hj
    · intro w hw
      rw [c13 w hw]
      have h1 := hO w hw
      by_cases z : s 13 w = h + 1
      · rw [if_pos z]; exact ⟨by omega, fun q => absurd rfl q⟩
      · rw [if_neg z]
        refine ⟨h1.1, fun q => ?_⟩
        rw [c4 _ (by omega)]
        exact h1.2 q
    · intro w hw
      rw [c18 w hw]
      have h1 := hX w hw
      by_cases z : s 18 w = h + 1
      · rw [if_pos z]; exact ⟨by omega, fun q => absurd rfl q⟩
      · rw [if_neg z]
        refine ⟨h1.1, fun q => ?_⟩
        rw [c4 _ (by omega)]
        exact h1.2 q
    · refine ⟨fun p hp h4q => ?_, ?_, hB.2.2⟩
      · obtain ⟨q, h4q⟩ := h4' p h4q
        rw [c8]; exact hB.1 p hp h4q
      · have := hB.2.1
        rw [z20]; omega
    · obtain ⟨q, h4q⟩ := h4' p h4q
      rw [c6] at h6q
      rw [c7]
      exact hN p hp h4q h6q
    · rw [c13 x hx]
      split
      · exact Or.inl rfl
      · exact h13 x hx
  · rw [if_neg hgo]
    have hx : ∃ v10 : Nat, v10 ≤ 1 ∧ ∃ n17 : Nat, ∃ s', lowA h s = s' ∧ (∀ c, c ≠ 0 → c ≠ 5 → c ≠ 10 → c ≠ 16 → s' c = s c) ∧ (∀ k, k ≠ 17 → s' 0 k = s 0 k) ∧ (∀ p, p ≠ h → s' 5 p = s 5 p ∧ s' 10 p = s 10 p) ∧ s' 10 h = v10 ∧ s' 5 h ≠ 0 ∧ iW s' ∧ (∀ p, wT s' p + (if p = h then s 5 h else 0) = wT s p + (if p = h then s' 5 h + 1 else 0)) := by
      by_cases hz : s 5 h ≤ 1
      · have hwh : s 3 (s 4 h - 1) = 1 ∧ s 10 h = 0 := by
          apply Classical.byContradiction
          intro z
          exact hgo ⟨hz, z⟩
        have hw17 := iW_lt hW hh hwh.2
        rw [hlow hz hwh]
        have f : wshA h (decA h s) = nS (nS (nS (nS (nS s 5 h (s 5 h - 1)) 10 h 1) 16 (s 0 17) h) 0 17 (s 0 17 + 1)) 5 h 1 := by
          have e1 : wshA h (decA h s) = nS (nS (nS (nS (nS (nS s 5 h (s 5 h - 1)) 10 h 1) 16 (s 0 17) h) 0 17 (s 0 17 + 1)) 5 h 1) 6 h 4 := by
            unfold wshA blk tellA decA; simp [nS, hg]
          rw [e1]
          exact nS_id (by simp [nS, hg])
        refine ⟨1, by omega, 0, _, f, fun c a b d e => by funext k; simp [nS, a, b, d, e], fun k hk => by simp [nS, hk], fun p hp => by simp [nS, hp], by simp [nS], by simp [nS], ?_, fun p => ?_⟩
        · refine ⟨by simp [nS]; omega, fun j hj => ?_⟩
          have hj : j < s 0 17 + 1 := by simpa [nS] using hj
          by_cases q : j = s 0 17
          · subst q
            simp [nS]
            refine ⟨hh, h4, fun i hi => ⟨by omega, fun e => ?_⟩⟩
            have := (hW.2 i hi).2.2.1
            rw [e] at this
            omega
          · have h5' := hW.2 j (by omega)
            simp [nS, q]
            refine ⟨h5'.1, h5'.2.1, fun _ => h5'.2.2.1, fun i hi => ?_⟩
            rw [if_neg (by omega)]
            exact h5'.2.2.2 i hi
        · have e2 : s 5 h = 1 := by omega
          have e3 : wT (nS (nS (nS (nS (nS s 5 h (s 5 h - 1)) 10 h 1) 16 (s 0 17) h) 0 17 (s 0 17 + 1)) 5 h 1) p = wT s p + (if p = h then 1 else 0) := by
            unfold wT
            have a17 : nS (nS (nS (nS (nS s 5 h (s 5 h - 1)) 10 h 1) 16 (s 0 17) h) 0 17 (s 0 17 + 1)) 5 h 1 0 17 = s 0 17 + 1 := by simp [nS]
            rw [a17]
            show cnt (s 0 17) _ + _ = _
            have e1 : cnt (s 0 17) (fun j => nS (nS (nS (nS (nS s 5 h (s 5 h - 1)) 10 h 1) 16 (s 0 17) h) 0 17 (s 0 17 + 1)) 5 h 1 16 j == p) = cnt (s 0 17) (fun j => s 16 j == p) := cnt_congr (fun j hj => by
              have : j ≠ s 0 17 := by omega
              simp [nS, this])
            have e4 : nS (nS (nS (nS (nS s 5 h (s 5 h - 1)) 10 h 1) 16 (s 0 17) h) 0 17 (s 0 17 + 1)) 5 h 1 16 (s 0 17) = h := by simp [nS]
            simp only [e1, e4]
            by_cases q : p = h
            · subst q; simp
            · simp [q, Ne.symm q]
          have e5 : nS (nS (nS (nS (nS s 5 h (s 5 h - 1)) 10 h 1) 16 (s 0 17) h) 0 17 (s 0 17 + 1)) 5 h 1 5 h = 1 := nS_eq
          rw [e3, e5, e2]
          split <;> omega
      · have f : lowA h s = nS s 5 h (s 5 h - 1) := by
          unfold lowA suspA
          have e6 : decA h s 6 h = 4 := by unfold decA; rw [nS_ne (by omega)]; exact hg
          rw [if_neg hz, if_pos (Or.inl e6)]
          rfl
        refine ⟨s 10 h, hTh.2.2.1, 0, _, f, fun c a b d e => by funext k; simp [nS, b], fun k hk => by simp [nS], fun p hp => by simp [nS, hp], by simp [nS], by rw [nS_eq]; omega, ?_, fun p => ?_⟩
        · unfold iW at *
          simpa [nS] using hW
        · have e3 : wT (nS s 5 h (s 5 h - 1)) p = wT s p := by unfold wT; simp [nS]
          rw [e3, nS_eq]
          split <;> omega
    obtain ⟨v10, hv10, _, s', hs, c, z, cp, k10, k5, hW', hwt⟩ := hx
    rw [hs]
    have c1 := c 1 (by decide) (by decide) (by decide) (by decide)
    have c2 := c 2 (by decide) (by decide) (by decide) (by decide)
    have c3 := c 3 (by decide) (by decide) (by decide) (by decide)
    have c4 := c 4 (by decide) (by decide) (by decide) (by decide)
    have c6 := c 6 (by decide) (by decide) (by decide) (by decide)
    have c7 := c 7 (by decide) (by decide) (by decide) (by decide)
    have c8 := c 8 (by decide) (by decide) (by decide) (by decide)
    have c9 := c 9 (by decide) (by decide) (by decide) (by decide)
    have c11 := c 11 (by decide) (by decide) (by decide) (by decide)
    have c12 := c 12 (by decide) (by decide) (by decide) (by decide)
    have c13 := c 13 (by decide) (by decide) (by decide) (by decide)
    have c18 := c 18 (by decide) (by decide) (by decide) (by decide)
    refine ⟨iK_c c1 c2 c3 hK, fun p hp => ?_, iG_c c2 c4 c7 c13 hG, ?_, fun p hp h4q => ?_, hW', iO_c c4 c13 hO, iX_c c4 c18 hX, iB_c c4 c8 (z 20 (by decide)) hB, by rw [z 15 (by decide)]; exact h15, by rw [c4, c6, c7]; exact hN, by rw [c13]; exact h13, by rw [c7]; exact h7, by rw [c6]; exact hDw'⟩
    · have ht := hT p hp
      unfold vo nfo at *
      rw [c9, c4, c11, c1, c6]
      by_cases q : p = h
      · subst q
        rw [k10]
        refine ⟨ht.1, ht.2.1, fun _ => ⟨hTh.1, hTh.2.1, hv10, hTh.2.2.2.1, hTh.2.2.2.2.1, ⟨fun y => absurd y k5, fun y => by omega⟩⟩⟩
      · rw [(cp p q).1, (cp p q).2]
        exact ht
    · intro j hj h4j
      rw [c4] at h4j
      have h1 := hFi j hj h4j
      have e : nfo s' (j / 6) = nfo s (j / 6) := by unfold nfo; rw [c4, c1]
      rw [c12, e, c6, c4]
      exact ⟨h1.1, fun y => ⟨(h1.2 y).1, (h1.2 y).2.1, (h1.2 y).2.2.1, fun y1 y2 => (h1.2 y).2.2.2 y1 (hDm j y2)⟩⟩
    · rw [c4] at h4q
      have h1 := hR p hp h4q
      have h2 := hcnt p
      have h3 := hwt p
      have e3 : eG (stD i De) s' p = eG (stD i De) s p := by unfold eG; rw [c12, c6, c4]
      rw [e3, c8]
      by_cases q : p = h
      · subst q
        rw [if_pos rfl] at h2 h3
        rw [if_pos rfl] at h3
        omega
      · rw [if_neg q] at h2 h3
        rw [if_neg q] at h3
        rw [(cp p q).1]
        omega
end GAT

def appA (o : Nat) (s : Sm) : Sm := nS (nS s 14 (s 0 15) o) 0 15 (s 0 15 + 1)
noncomputable def mstep (o : Nat) (s : Sm) : Sm := if s 11 o ≠ 0 then freeA o (nS s 9 o 0) else if s 6 o = 1 then nS s 9 o 0 else appA o (travA false o s)
noncomputable def markRun (l0 : Nat → Nat) : Nat → Sm → Sm
  | 0, s => s
  | k + 1, s => mstep (l0 k) (markRun l0 k s)
def kp (l0 : Nat → Nat) (s : Sm) : Nat → Bool := fun j => s 9 (l0 j) == 1
def mA (s : Sm) : Prop := ∀ o, o < 80 → s 4 o ≠ 0 → s 6 o ≠ 2
def mC (s : Sm) : Prop := ∀ i, i < 480 → s 4 (i / 6) ≠ 0 → s 6 (i / 6) = 1 → s 12 i ≠ 0 → s 6 (s 12 i - 1) ≠ 4 → s 6 (s 12 i - 1) = 1
def mD (s : Sm) : Prop := ∀ o, o < 80 → s 4 o ≠ 0 → s 11 o = 0 → s 5 o = 0 → s 6 o = 1
def mE (n0 : Nat) (l0 : Nat → Nat) (k : Nat) (s : Sm) : Prop := ∀ o, o < 80 → s 4 o ≠ 0 → s 11 o ≠ 0 → s 5 o = 0 ∧ (∀ f, f < 6 → s 12 (6 * o + f) = 0) ∧ (∀ i, i < 480 → s 4 (i / 6) ≠ 0 → s 12 i ≠ o + 1) ∧ ∃ j, k ≤ j ∧ j < n0 ∧ l0 j = o
def mF (n0 : Nat) (l0 : Nat → Nat) : Prop := n0 ≤ 80 ∧ ∀ j, j < n0 → l0 j < 80 ∧ ∀ i, i < j → l0 i ≠ l0 j
def mL (n0 : Nat) (l0 : Nat → Nat) (k : Nat) (s : Sm) : Prop := ∀ j, k ≤ j → j < n0 → s 4 (l0 j) ≠ 0 ∧ s 9 (l0 j) = 1 ∧ s 6 (l0 j) ≠ 4 ∧ s 14 j = l0 j
def mG (l0 : Nat → Nat) (k : Nat) (s : Sm) : Prop := s 0 15 = cnt k (kp l0 s) ∧ ∀ j, j < k → s 9 (l0 j) = 1 → s 14 (cnt j (kp l0 s)) = l0 j ∧ s 4 (l0 j) ≠ 0 ∧ s 6 (l0 j) = 1 ∧ s 11 (l0 j) = 0
def mH (n0 : Nat) (l0 : Nat → Nat) (s : Sm) : Prop := ∀ o, o < 80 → s 9 o ≠ 0 → ∃ j, j < n0 ∧ l0 j = o
def mI (n0 : Nat) (l0 : Nat → Nat) (k : Nat) (s : Sm) : Prop := ∀ o, o < 80 → s 4 o ≠ 0 → s 6 o = 3 → ∃ j, k ≤ j ∧ j < n0 ∧ l0 j = o
def mJ (l0 : Nat → Nat) (k : Nat) (s : Sm) : Prop := ∀ o, o < 80 → s 4 o ≠ 0 → s 6 o = 1 → ∃ j, j < k ∧ s 9 (l0 j) = 1 ∧ Rg s (l0 j) o
def MK (n n0 : Nat) (l0 : Nat → Nat) (k : Nat) (s : Sm) : Prop := CI n s ∧ mA s ∧ mC s ∧ mD s ∧ mE n0 l0 k s ∧ mF n0 l0 ∧ mL n0 l0 k s ∧ mG l0 k s ∧ mH n0 l0 s ∧ mI n0 l0 k s ∧ mJ l0 k s
section MRK
variable {s : Sm} {n n0 k o : Nat} {l0 : Nat → Nat}
theorem mark_start {g : Nat → Nat} (H : LI n d0 0 g s) : MK n (s 0 15) (s 14) 0 (nS s 0 15 0) := by
  obtain ⟨hK, hT, hG, hF, hR, hL, hW, hO, hX, hB, hC, hS⟩ := H
  have e : ∀ c, c ≠ 0 → nS s 0 15 0 c = s c := fun c hc => funext fun k => nS_ne (fun q => hc q.1)
  have e0 : ∀ k, k ≠ 15 → nS s 0 15 0 0 k = s 0 k := fun k hk => nS_ne (fun q => hk q.2)
  have hn : s 0 15 ≤ 80 := by rw [hL.1]; exact cnt_le
  have hsame : same56 s s := fun _ _ _ _ _ => rfl
  have hEK : ∀ p, eK s p = eT s p := fun p => cnt_congr (fun i hi => by
    by_cases q : s 4 (i / 6) ≠ 0
    · have h6 := hC (i / 6) (by omega) q
      have q1 : (s 6 (i / 6) == 1) = false := by simp; omega
      have q2 : (s 6 (i / 6) == 2) = false := by simp; omega
      rw [q1, q2]
      simp
    · have : decide (s 4 (i / 6) ≠ 0) = false := decide_eq_false q
      rw [this]; rfl)
  have hRc : iRc s := fun p hp h4 => by
    rw [hEK]
    have h1 := hR p hp h4
    have h2 : d0 p = 0 := rfl
    omega
  have hTc : iTc s := fun p hp h4 => by
    have h := (hT p hp).1 h4
    exact ⟨h.1, h.2.1, h.2.2.1, h.2.2.2.1, h.2.2.2.2.1, h.2.2.2.2.2.1⟩
  have hCI : CI n s := ⟨hK, hTc, hG, hF, hRc, hW, hO, hX, hB⟩
  have hCI' : CI n (nS s 0 15 0) := by
    refine ⟨iK_c (e 1 (by decide)) (e 2 (by decide)) (e 3 (by decide)) hK, ?_, iG_c (e 2 (by decide)) (e 4 (by decide)) (e 7 (by decide)) (e 13 (by decide)) hG, iF_c (e 1 (by decide)) (e 4 (by decide)) (e 12 (by decide)) hF, ?_, ?_, iO_c (e 4 (by decide)) (e 13 (by decide)) hO, iX_c (e 4 (by decide)) (e 18 (by decide)) hX, iB_c (e 4 (by decide)) (e 8 (by decide)) (e0 20 (by decide)) hB⟩
    · unfold iTc vo nfo at *
      rw [e 4 (by decide), e 1 (by decide), e 6 (by decide), e 9 (by decide), e 10 (by decide), e 11 (by decide)]
      exact hTc
    · unfold iRc eK wT at *
      rw [e 4 (by decide), e 5 (by decide), e 6 (by decide), e 8 (by decide), e 12 (by decide), e 16 (by decide), e0 17 (by decide)]
      exact hRc
    · unfold iW at *
      rw [e0 17 (by decide), e 16 (by decide), e 4 (by decide), e 10 (by decide)]
      exact hW
  refine ⟨hCI', ?_, ?_, ?_, ?_, ⟨hn, fun j hj => ?_⟩, ?_, ⟨nS_eq, fun j hj => by omega⟩, ?_, ?_, ?_⟩
  · unfold mA
    rw [e 4 (by decide), e 6 (by decide)]
    intro p hp h4
    have := hC p hp h4
    omega
  · unfold mC
    rw [e 4 (by decide), e 6 (by decide)]
    intro i hi h4 h6
    have := hC (i / 6) (by omega) h4
    omega
  · unfold mD
    rw [e 4 (by decide), e 6 (by decide), e 11 (by decide), e 5 (by decide)]
    intro p hp h4 h11 h5
    obtain ⟨j, hj, _⟩ := hS.2 p hp h4 h11 h5
    omega
  · unfold mE
    rw [e 4 (by decide), e 12 (by decide), e 11 (by decide), e 5 (by decide)]
    intro p hp h4 h11
    have h := (hT p hp).1 h4
    have h1 := h.2.2.2.2.2.2.2.1 (by have := h.2.2.2.2.1; omega)
    have hr := hR p hp h4
    refine ⟨h1.2.1, h1.2.2, fun i hi h4i q => ?_, ?_⟩
    · have : eT s p = 0 := by omega
      have := cnt_zero.mp this i hi
      simp [h4i, q] at this
    · have h9 := h1.1
      apply Classical.byContradiction
      intro hno
      have hinj : cnt (s 0 15) (fun _ => true) ≤ cnt 80 (fun q => s 9 q == 1 && q != p) := cnt_inj (fun j => s 14 j) (fun j hj _ => ⟨(hL.2 j hj).1, by
        have : s 14 j ≠ p := fun z => hno ⟨j, by omega, hj, z⟩
        simp [(hL.2 j hj).2.1, this]⟩) (fun i j hi hj _ _ z => by
        rcases Nat.lt_trichotomy i j with q | q | q
        · exact absurd z ((hL.2 j hj).2.2 i q)
        · exact q
        · exact absurd z.symm ((hL.2 i hi).2.2 j q))
      have h3 : ∀ k, cnt k (fun _ => true) = k := fun k => by
        induction k with
        | zero => rfl
        | succ k ih => simp only [cnt, ih, if_true]
      rw [h3] at hinj
      have h5 := cnt_on (n := 80) (k := p) (p := fun q => s 9 q == 1 && q != p) (q := fun q => s 9 q == 1) hp (fun q _ hq => by simp [hq]) (by simp) (by simp [h9])
      have := hL.1
      omega
  · exact ⟨(hL.2 j hj).1, (hL.2 j hj).2.2⟩
  · unfold mL
    rw [e 4 (by decide), e 9 (by decide), e 6 (by decide), e 14 (by decide)]
    intro j _ hj
    have h1 := hL.2 j hj
    have h4 : s 4 (s 14 j) ≠ 0 := fun z => by
      have := ((hT (s 14 j) h1.1).2 z).1
      omega
    exact ⟨h4, h1.2.1, ((hT _ h1.1).1 h4).2.2.2.2.2.2.2.2 h1.2.1, rfl⟩
  · unfold mH
    rw [e 9 (by decide)]
    intro p hp h9
    have h4 : s 4 p ≠ 0 := fun z => h9 ((hT p hp).2 z).1
    have h91 : s 9 p = 1 := by have := ((hT p hp).1 h4).2.2.1; omega
    apply Classical.byContradiction
    intro hno
    have hinj : cnt (s 0 15) (fun _ => true) ≤ cnt 80 (fun q => s 9 q == 1 && q != p) := cnt_inj (fun j => s 14 j) (fun j hj _ => ⟨(hL.2 j hj).1, by
      have : s 14 j ≠ p := fun z => hno ⟨j, hj, z⟩
      simp [(hL.2 j hj).2.1, this]⟩) (fun i j hi hj _ _ z => by
      rcases Nat.lt_trichotomy i j with q | q | q
      · exact absurd z ((hL.2 j hj).2.2 i q)
      · exact q
      · exact absurd z.symm ((hL.2 i hi).2.2 j q))
    have h3 : ∀ k, cnt k (fun _ => true) = k := fun k => by
      induction k with
      | zero => rfl
      | succ k ih => simp only [cnt, ih, if_true]
    rw [h3] at hinj
    have h5 := cnt_on (n := 80) (k := p) (p := fun q => s 9 q == 1 && q != p) (q := fun q => s 9 q == 1) hp (fun q _ hq => by simp [hq]) (by simp) (by simp [h91])
    have := hL.1
    omega
  · unfold mI
    rw [e 4 (by decide), e 6 (by decide)]
    intro p hp h4 h6
    have h91 := ((hT p hp).1 h4).2.2.2.2.2.2.1 h6
    apply Classical.byContradiction
    intro hno
    have hinj : cnt (s 0 15) (fun _ => true) ≤ cnt 80 (fun q => s 9 q == 1 && q != p) := cnt_inj (fun j => s 14 j) (fun j hj _ => ⟨(hL.2 j hj).1, by
      have : s 14 j ≠ p := fun z => hno ⟨j, by omega, hj, z⟩
      simp [(hL.2 j hj).2.1, this]⟩) (fun i j hi hj _ _ z => by
      rcases Nat.lt_trichotomy i j with q | q | q
      · exact absurd z ((hL.2 j hj).2.2 i q)
      · exact q
      · exact absurd z.symm ((hL.2 i hi).2.2 j q))
    have h3 : ∀ k, cnt k (fun _ => true) = k := fun k => by
      induction k with
      | zero => rfl
      | succ k ih => simp only [cnt, ih, if_true]
    rw [h3] at hinj
    have h5 := cnt_on (n := 80) (k := p) (p := fun q => s 9 q == 1 && q != p) (q := fun q => s 9 q == 1) hp (fun q _ hq => by simp [hq]) (by simp) (by simp [h91])
    have := hL.1
    omega
  · unfold mJ
    rw [e 4 (by decide), e 6 (by decide)]
    intro p hp h4 h6
    have := hC p hp h4
    omega
theorem kp_same {s' : Sm} (hk : k < n0) (hF : mF n0 l0) (h9 : ∀ p, p ≠ l0 k → s' 9 p = s 9 p) : (∀ j, j ≤ k → cnt j (kp l0 s') = cnt j (kp l0 s)) := fun j hj => cnt_congr (fun i hi => by
  unfold kp
  rw [h9 _ (fun z => (hF.2 k hk).2 i (by omega) z)])
theorem mark_gray (H : MK n n0 l0 k s) (hk : k < n0) (h11 : s 11 (l0 k) = 0) (h6 : s 6 (l0 k) = 1) : MK n n0 l0 (k + 1) (nS s 9 (l0 k) 0) := by
  obtain ⟨⟨hK, hT, hG, hFi, hR, hW, hO, hX, hB⟩, hA, hC, hD, hE, hF, hL, hg, hH, hI, hJ⟩ := H
  have e : ∀ c, c ≠ 9 → nS s 9 (l0 k) 0 c = s c := fun c hc => funext fun j => nS_ne (fun q => hc q.1)
  have e9 : ∀ p, p ≠ l0 k → nS s 9 (l0 k) 0 9 p = s 9 p := fun p hp => nS_ne (fun q => hp q.2)
  have k9 : nS s 9 (l0 k) 0 9 (l0 k) = 0 := nS_eq
  have hks := kp_same (s := s) (s' := nS s 9 (l0 k) 0) hk hF e9
  have hlk := hL k (Nat.le_refl _) hk
  have hne : ∀ j, j < k → l0 j ≠ l0 k := fun j hj => (hF.2 k hk).2 j hj
  refine ⟨⟨iK_c (e 1 (by decide)) (e 2 (by decide)) (e 3 (by decide)) hK, fun p hp h4 => ?_, iG_c (e 2 (by decide)) (e 4 (by decide)) (e 7 (by decide)) (e 13 (by decide)) hG, iF_c (e 1 (by decide)) (e 4 (by decide)) (e 12 (by decide)) hFi, ?_, ?_, iO_c (e 4 (by decide)) (e 13 (by decide)) hO, iX_c (e 4 (by decide)) (e 18 (by decide)) hX, iB_c (e 4 (by decide)) (e 8 (by decide)) (by rw [e 0 (by decide)]) hB⟩, ?_, ?_, ?_, ?_, hF, ?_, ⟨?_, ?_⟩, ?_, ?_, ?_⟩
  · rw [e 4 (by decide)] at h4
    have h := hT p hp h4
    unfold vo nfo at *
    rw [e 4 (by decide), e 1 (by decide), e 6 (by decide), e 10 (by decide), e 11 (by decide)]
    refine ⟨h.1, h.2.1, ?_, h.2.2.2⟩
    by_cases q : p = l0 k
    · rw [q, k9]; omega
    · rw [e9 p q]; exact h.2.2.1
  · unfold iRc eK wT at *
    rw [e 4 (by decide), e 5 (by decide), e 6 (by decide), e 8 (by decide), e 12 (by decide), e 16 (by decide), e 0 (by decide)]
    exact hR
  · unfold iW at *
    rw [e 0 (by decide), e 16 (by decide), e 4 (by decide), e 10 (by decide)]
    exact hW
  · unfold mA at *; rw [e 4 (by decide), e 6 (by decide)]; exact hA
  · unfold mC at *; rw [e 4 (by decide), e 6 (by decide), e 12 (by decide)]; exact hC
  · unfold mD at *; rw [e 4 (by decide), e 6 (by decide), e 11 (by decide), e 5 (by decide)]; exact hD
  · unfold mE at *
    rw [e 4 (by decide), e 12 (by decide), e 11 (by decide), e 5 (by decide)]
    intro p hp h4 h11p
    obtain ⟨a, b, c, j, j1, j2, je⟩ := hE p hp h4 h11p
    refine ⟨a, b, c, j, ?_, j2, je⟩
    have : j ≠ k := fun z => by rw [z] at je; rw [← je] at h11p; exact h11p h11
    omega
  · intro j j1 j2
    have h := hL j (by omega) j2
    have : l0 j ≠ l0 k := fun z => (hF.2 j j2).2 k (by omega) z.symm
    rw [e 4 (by decide), e9 _ this, e 6 (by decide), e 14 (by decide)]
    exact h
  · rw [e 0 (by decide), hg.1]
    show _ = cnt k _ + _
    have : kp l0 (nS s 9 (l0 k) 0) k = false := by unfold kp; rw [k9]; rfl
    rw [this, hks k (Nat.le_refl _)]
    rfl
  · intro j hj h9
    have hjk : j ≠ k := fun z => by rw [z, k9] at h9; cases h9
    rw [e9 _ (hne j (by omega))] at h9
    rw [hks j (by omega), e 14 (by decide), e 4 (by decide), e 6 (by decide), e 11 (by decide)]
    exact hg.2 j (by omega) h9
  · intro p hp h9
    by_cases q : p = l0 k
    · exact ⟨k, hk, q.symm⟩
    · rw [e9 p q] at h9; exact hH p hp h9
  · unfold mI at *
    rw [e 4 (by decide), e 6 (by decide)]
    intro p hp h4 h63
    obtain ⟨j, j1, j2, je⟩ := hI p hp h4 h63
    refine ⟨j, ?_, j2, je⟩
    have : j ≠ k := fun z => by rw [z] at je; rw [← je] at h63; omega
    omega
  · intro p hp h4 h61
    rw [e 4 (by decide)] at h4
    rw [e 6 (by decide)] at h61
    obtain ⟨j, j1, j2, j3⟩ := hJ p hp h4 h61
    refine ⟨j, by omega, by rw [e9 _ (hne j j1)]; exact j2, ?_⟩
    unfold Rg at *
    rw [e 12 (by decide), e 6 (by decide)]
    exact j3
theorem mark_husk (H : MK n n0 l0 k s) (hk : k < n0) (h11 : s 11 (l0 k) ≠ 0) : MK n n0 l0 (k + 1) (freeA (l0 k) (nS s 9 (l0 k) 0)) := by
  obtain ⟨⟨hK, hT, hG, hFi, hR, hW, hO, hX, hB⟩, hA, hC, hD, hE, hF, hL, hg, hH, hI, hJ⟩ := H
  have hlk := hL k (Nat.le_refl _) hk
  have h80 := (hF.2 k hk).1
  generalize ho : l0 k = o at *
  have hne : ∀ j, j < k → l0 j ≠ o := fun j hj => by rw [← ho]; exact (hF.2 k hk).2 j hj
  obtain ⟨h5, hff, hno, _⟩ := hE o h80 hlk.1 h11
  have hRo := hR o h80 hlk.1
  have w0 : wT s o = 0 := by omega
  generalize hs : freeA o (nS s 9 o 0) = s'
  have f : s' = freeA o (nS s 9 o 0) := hs.symm
  have c1 : s' 1 = s 1 := by rw [f]; funext j; simp [freeA, nS]
  have c2 : s' 2 = s 2 := by rw [f]; funext j; simp [freeA, nS]
  have c3 : s' 3 = s 3 := by rw [f]; funext j; simp [freeA, nS]
  have c5 : s' 5 = s 5 := by rw [f]; funext j; simp [freeA, nS]
  have c6 : s' 6 = s 6 := by rw [f]; funext j; simp [freeA, nS]
  have c7 : s' 7 = s 7 := by rw [f]; funext j; simp [freeA, nS]
  have c8 : s' 8 = s 8 := by rw [f]; funext j; simp [freeA, nS]
  have c10 : s' 10 = s 10 := by rw [f]; funext j; simp [freeA, nS]
  have c12 : s' 12 = s 12 := by rw [f]; funext j; simp [freeA, nS]
  have c14 : s' 14 = s 14 := by rw [f]; funext j; simp [freeA, nS]
  have c16 : s' 16 = s 16 := by rw [f]; funext j; simp [freeA, nS]
  have z15 : s' 0 15 = s 0 15 := by rw [f]; simp [freeA, nS]
  have z17 : s' 0 17 = s 0 17 := by rw [f]; simp [freeA, nS]
  have z20 : s' 0 20 = s 0 20 + 1 := by rw [f]; simp [freeA, nS]
  have c9 : ∀ p, p ≠ o → s' 9 p = s 9 p := fun p hp => by rw [f]; simp [freeA, nS, hp]
  have k9 : s' 9 o = 0 := by rw [f]; simp [freeA, nS]
  have c4 : ∀ p, p ≠ o → s' 4 p = s 4 p := fun p hp => by rw [f]; simp [freeA, nS, hp]
  have k4 : s' 4 o = 0 := by rw [f]; simp [freeA, nS]
  have c11 : ∀ p, p ≠ o → s' 11 p = s 11 p := fun p hp => by rw [f]; simp [freeA, nS, hp]
  have c13 : ∀ w, w < 400 → s' 13 w = if s 13 w = o + 1 then 0 else s 13 w := fun w hw => by rw [f]; simp [freeA, nS, hw]
  have c18 : ∀ w, w < 20 → s' 18 w = if s 18 w = o + 1 then 0 else s 18 w := fun w hw => by rw [f]; simp [freeA, nS, hw]
  have ctt : TT s' + 1 = TT s := by
    rw [f, TT_free h80 (by rw [nS_ne (by omega)]; exact hlk.1)]
    exact TT_c (by funext j; simp [nS])
  clear hs f
  have h4' : ∀ p, s' 4 p ≠ 0 → p ≠ o ∧ s 4 p ≠ 0 := fun p hp => by
    by_cases q : p = o
    · subst q; exact absurd k4 hp
    · rw [c4 p q] at hp; exact ⟨q, hp⟩
  have hfz : ∀ i, i < 480 → i / 6 = o → s 12 i = 0 := fun i hi hio => by
    have h1 := hff (i % 6) (by omega)
    have h2 : 6 * o + i % 6 = i := by omega
    rw [h2] at h1
    exact h1
  have hwo : ∀ j, j < s 0 17 → s 16 j ≠ o := fun j hj q => by
    have := cnt_zero.mp w0 j hj
    simp [q] at this
  have eE : ∀ p, eK s' p = eK s p := fun p => cnt_congr (fun i hi => by
    rw [c12, c6]
    by_cases q : i / 6 = o
    · have := hfz i hi q
      simp [this]
    · rw [c4 _ q])
  have hks := kp_same (s := s) (s' := s') hk hF (fun p hp => c9 p (by rw [ho] at hp; exact hp))
  refine ⟨⟨iK_c c1 c2 c3 hK, fun p hp h4 => ?_, ?_, ?_, ?_, ?_, ?_, ?_, ?_⟩, ?_, ?_, ?_, ?_, hF, ?_, ⟨?_, ?_⟩, ?_, ?_, ?_⟩
  · obtain ⟨q, h4⟩ := h4' p h4
    have := hT p hp h4
    unfold vo nfo at *
    rw [c4 p q, c1, c6, c9 p q, c10, c11 p q]
    exact this
  · intro p hp h4p
    obtain ⟨q, h4p⟩ := h4' p h4p
    have h1 := hG p hp h4p
    unfold geo szo at *
    rw [c2, c4 p q, c7]
    refine ⟨h1.1, fun w hw => ?_⟩
    rw [c13 w hw]
    have h2 := h1.2 w hw
    by_cases z : s 13 w = o + 1
    · rw [if_pos z]; rw [z] at h2; omega
    · rw [if_neg z]; exact h2
  · intro i hi h4i
    obtain ⟨q, h4i⟩ := h4' _ h4i
    have h1 := hFi i hi h4i
    have h2 := hno i hi h4i
    have e : nfo s' (i / 6) = nfo s (i / 6) := by unfold nfo; rw [c4 _ q, c1]
    rw [c12, e]
    refine ⟨h1.1, fun z => ⟨(h1.2 z).1, ?_⟩⟩
    rw [c4 _ (by omega)]
    exact (h1.2 z).2
  · intro p hp h4p
    obtain ⟨q, h4p⟩ := h4' p h4p
    have e : wT s' p = wT s p := by unfold wT; rw [z17, c16]
    rw [eE, e, c5, c8]
    exact hR p hp h4p
  · refine ⟨by rw [z17]; exact hW.1, fun j hj => ?_⟩
    rw [z17] at hj
    rw [c16, c4 _ (hwo j hj), c10]
    exact hW.2 j hj
  · intro w hw
    rw [c13 w hw]
    have h1 := hO w hw
    by_cases z : s 13 w = o + 1
    · rw [if_pos z]; exact ⟨by omega, fun q => absurd rfl q⟩
    · rw [if_neg z]
      refine ⟨h1.1, fun q => ?_⟩
      rw [c4 _ (by omega)]
      exact h1.2 q
  · intro w hw
    rw [c18 w hw]
    have h1 := hX w hw
    by_cases z : s 18 w = o + 1
    · rw [if_pos z]; exact ⟨by omega, fun q => absurd rfl q⟩
    · rw [if_neg z]
      refine ⟨h1.1, fun q => ?_⟩
      rw [c4 _ (by omega)]
      exact h1.2 q
  · refine ⟨fun p hp h4p => ?_, ?_, hB.2.2⟩
    · obtain ⟨q, h4p⟩ := h4' p h4p
      rw [c8]; exact hB.1 p hp h4p
    · have := hB.2.1
      rw [z20]; omega
  · intro p hp h4p
    obtain ⟨q, h4p⟩ := h4' p h4p
    rw [c6]; exact hA p hp h4p
  · intro i hi h4i
    obtain ⟨q, h4i⟩ := h4' _ h4i
    rw [c6, c12]
    exact hC i hi h4i
  · intro p hp h4p
    obtain ⟨q, h4p⟩ := h4' p h4p
    rw [c11 p q, c5, c6]; exact hD p hp h4p
  · intro p hp h4p h11p
    obtain ⟨q, h4p⟩ := h4' p h4p
    rw [c11 p q] at h11p
    obtain ⟨a, b, c, j, j1, j2, je⟩ := hE p hp h4p h11p
    rw [c5, c12]
    refine ⟨a, b, fun i hi h4i => c i hi (h4' _ h4i).2, j, ?_, j2, je⟩
    have : j ≠ k := fun z => by rw [z, ho] at je; exact q je.symm
    omega
  · intro j j1 j2
    have h := hL j (by omega) j2
    have : l0 j ≠ o := fun z => (hF.2 j j2).2 k (by omega) (by rw [ho]; exact z.symm)
    rw [c4 _ this, c9 _ this, c6, c14]
    exact h
  · rw [z15, hg.1]
    show _ = cnt k _ + _
    have : kp l0 s' k = false := by unfold kp; rw [ho, k9]; rfl
    rw [this, hks k (Nat.le_refl _)]
    rfl
  · intro j hj h9
    have hjk : j ≠ k := fun z => by rw [z, ho, k9] at h9; cases h9
    have hn2 := hne j (by omega)
    rw [c9 _ hn2] at h9
    rw [hks j (by omega), c14, c4 _ hn2, c6, c11 _ hn2]
    exact hg.2 j (by omega) h9
  · intro p hp h9
    by_cases q : p = o
    · exact ⟨k, hk, by rw [ho]; exact q.symm⟩
    · rw [c9 p q] at h9; exact hH p hp h9
  · intro p hp h4p h63
    obtain ⟨q, h4p⟩ := h4' p h4p
    rw [c6] at h63
    obtain ⟨j, j1, j2, je⟩ := hI p hp h4p h63
    refine ⟨j, ?_, j2, je⟩
    have : j ≠ k := fun z => by rw [z, ho] at je; exact q je.symm
    omega
  · intro p hp h4p h61
    obtain ⟨q, h4p⟩ := h4' p h4p
    rw [c6] at h61
    obtain ⟨j, j1, j2, j3⟩ := hJ p hp h4p h61
    refine ⟨j, by omega, by rw [c9 _ (hne j j1)]; exact j2, ?_⟩
    unfold Rg at *
    rw [c12, c6]
    exact j3
theorem mark_turn (H : MK n n0 l0 k s) (hk : k < n0) (h11 : s 11 (l0 k) = 0) (h6 : s 6 (l0 k) ≠ 1) : MK n n0 l0 (k + 1) (appA (l0 k) (travA false (l0 k) s)) ∧ tOK false s (l0 k) := by
  obtain ⟨hCI, hA, hC, hD, hE, hF, hL, hg, hH, hI, hJ⟩ := H
  have hlk := hL k (Nat.le_refl _) hk
  have h80 := (hF.2 k hk).1
  generalize ho : l0 k = o at *
  have hne : ∀ j, j < k → l0 j ≠ o := fun j hj => by rw [← ho]; exact (hF.2 k hk).2 j hj
  have hro : ∀ p, Rch false s o p → p < 80 ∧ s 4 p ≠ 0 ∧ s 6 p ≠ 4 ∧ s 6 p ≠ 1 := fun p hp => Rch_ok (bl := false) hCI.2.2.2.1 h80 hlk.1 hlk.2.2.1 h6 hp
  have hoo : Rch false s o o := fun X hX _ => hX
  have hsame := trav_same (s := s) (root := o) false
  have e6 : ∀ p, travA false o s 6 p = if tb (Rch false s o p) = true then 1 else s 6 p := fun p => by
    rw [trav_6]
    by_cases q : tb (Rch false s o p) = true
    · rw [if_pos ⟨(hro p (tb_t.mp q)).1, q⟩, if_pos q]; rfl
    · rw [if_neg (fun z => q z.2), if_neg q]
  have e5 : ∀ p, travA false o s 5 p = s 5 p - tE s (fun x => tb (Rch false s o x)) p := fun p => by rw [trav_5]; rfl
  obtain ⟨hR', hOK⟩ := RC_down hCI.2.2.2.2.1 hsame e6 (fun p hp => by
    have h := hro p (tb_t.mp hp)
    exact ⟨h.1, h.2.1, h.2.2.2, hA p h.1 h.2.1, h.2.2.1⟩) e5
  have hCI1 : CI n (travA false o s) := CI_same hCI hsame hR' (fun p hp h4 => by
    rw [e6 p]
    by_cases q : tb (Rch false s o p) = true
    · rw [if_pos q]
      have := (hro p (tb_t.mp q)).2.2.1
      omega
    · rw [if_neg q]
      exact ⟨(hCI.2.1 p hp h4).2.1, Iff.rfl⟩)
  refine ⟨?_, fun _ p hp h4 _ => hOK p hp h4⟩
  generalize hs1 : travA false o s = s1 at *
  have g : ∀ c, c ≠ 5 → c ≠ 6 → c ≠ 0 → s1 c = s c := fun c a b d => hsame.fn a b d
  have a0 : ∀ c, c ≠ 14 → c ≠ 0 → appA o s1 c = s1 c := fun c a b => by unfold appA; funext j; rw [nS_ne (fun q => b q.1), nS_ne (fun q => a q.1)]
  have a1 : ∀ c, c ≠ 5 → c ≠ 6 → c ≠ 0 → c ≠ 14 → appA o s1 c = s c := fun c a b d e => (a0 c e d).trans (g c a b d)
  have z15 : appA o s1 0 15 = s 0 15 + 1 := by unfold appA; rw [nS_eq, hsame.z (by decide)]
  have zz : ∀ j, j ≠ 15 → appA o s1 0 j = s1 0 j := fun j hj => by unfold appA; rw [nS_ne (fun q => hj q.2), nS_ne (by omega)]
  have b14 : ∀ j, appA o s1 14 j = if j = s 0 15 then o else s 14 j := fun j => by
    unfold appA
    rw [nS_ne (by omega), hsame.z (k := 15) (by decide)]
    by_cases q : j = s 0 15
    · rw [if_pos q, q, nS_eq]
    · rw [if_neg q, nS_ne (fun z => q z.2), g 14 (by decide) (by decide) (by decide)]
  have b6 : ∀ p, appA o s1 6 p = if tb (Rch false s o p) = true then 1 else s 6 p := fun p => by rw [a0 6 (by decide) (by decide)]; exact e6 p
  have b5 : appA o s1 5 = s1 5 := a0 5 (by decide) (by decide)
  have b9 := a1 9 (by decide) (by decide) (by decide) (by decide)
  have b4 := a1 4 (by decide) (by decide) (by decide) (by decide)
  have b12 := a1 12 (by decide) (by decide) (by decide) (by decide)
  have b11 := a1 11 (by decide) (by decide) (by decide) (by decide)
  have hle : s 0 15 ≤ k := by rw [hg.1]; exact cnt_le
  have ekp : kp l0 (appA o s1) = kp l0 s := by unfold kp; rw [b9]
  have hclos : ∀ i, i < 480 → Rch false s o (i / 6) → s 12 i ≠ 0 → s 6 (s 12 i - 1) ≠ 4 → s 6 (s 12 i - 1) = 1 ∨ Rch false s o (s 12 i - 1) := fun i hi hp hz h64 => by
    by_cases q : s 6 (s 12 i - 1) = 1
    · exact Or.inl q
    · right
      intro X hX hcl
      exact hcl (i / 6) (i % 6) (s 12 i - 1) (hp X hX hcl) (by omega) (by rw [show 6 * (i / 6) + i % 6 = i by omega]; omega) h64 q
  have hRgm : ∀ a p, Rg s a p → Rg (appA o s1) a p := fun a p h X hX hcl => h X hX (fun q e h1 hq he hv h61 => hcl q e h1 hq he (by rw [b12]; exact hv) (by rw [b6]; split; rfl; exact h61))
  refine ⟨?_, ?_, ?_, ?_, ?_, hF, ?_, ⟨?_, ?_⟩, ?_, ?_, ?_⟩
  · obtain ⟨hK, hT, hG, hFi, hR, hW, hO, hX, hB⟩ := hCI1
    have e : ∀ c, c ≠ 14 → c ≠ 0 → appA o s1 c = s1 c := a0
    refine ⟨iK_c (e 1 (by decide) (by decide)) (e 2 (by decide) (by decide)) (e 3 (by decide) (by decide)) hK, ?_, iG_c (e 2 (by decide) (by decide)) (e 4 (by decide) (by decide)) (e 7 (by decide) (by decide)) (e 13 (by decide) (by decide)) hG, iF_c (e 1 (by decide) (by decide)) (e 4 (by decide) (by decide)) (e 12 (by decide) (by decide)) hFi, ?_, ?_, iO_c (e 4 (by decide) (by decide)) (e 13 (by decide) (by decide)) hO, iX_c (e 4 (by decide) (by decide)) (e 18 (by decide) (by decide)) hX, iB_c (e 4 (by decide) (by decide)) (e 8 (by decide) (by decide)) (zz 20 (by decide)) hB⟩
    · unfold iTc vo nfo at *
      rw [e 4 (by decide) (by decide), e 1 (by decide) (by decide), e 6 (by decide) (by decide), e 9 (by decide) (by decide), e 10 (by decide) (by decide), e 11 (by decide) (by decide)]
      exact hT
    · unfold iRc eK wT at *
      rw [e 4 (by decide) (by decide), e 5 (by decide) (by decide), e 6 (by decide) (by decide), e 8 (by decide) (by decide), e 12 (by decide) (by decide), e 16 (by decide) (by decide), zz 17 (by decide)]
      exact hR
    · unfold iW at *
      rw [zz 17 (by decide), e 16 (by decide) (by decide), e 4 (by decide) (by decide), e 10 (by decide) (by decide)]
      exact hW
  · intro p hp h4
    rw [b4] at h4
    rw [b6]
    split
    · decide
    · exact hA p hp h4
  · intro i hi h4 h61 hz h64
    rw [b4] at h4
    rw [b12] at hz h64 ⊢
    rw [b6] at h61 h64 ⊢
    by_cases q : tb (Rch false s o (s 12 i - 1)) = true
    · rw [if_pos q]
    · rw [if_neg q] at h64 ⊢
      by_cases y : tb (Rch false s o (i / 6)) = true
      · rcases hclos i hi (tb_t.mp y) hz h64 with z | z
        · exact z
        · exact absurd (tb_t.mpr z) q
      · rw [if_neg y] at h61
        exact hC i hi h4 h61 hz h64
  · intro p hp h4 h11p h5p
    rw [b4] at h4
    rw [b11] at h11p
    rw [b5, e5 p] at h5p
    rw [b6]
    by_cases q : tb (Rch false s o p) = true
    · rw [if_pos q]
    · rw [if_neg q]
      by_cases h0 : s 5 p = 0
      · exact hD p hp h4 h11p h0
      · have htp : 0 < tE s (fun x => tb (Rch false s o x)) p := by omega
        obtain ⟨i, hi, hv⟩ := cnt_pos.mp htp
        simp only [Bool.and_eq_true, beq_iff_eq, bne_iff_ne] at hv
        rcases hclos i hi (tb_t.mp hv.1.1) (by omega) (by rw [hv.1.2]; simpa using hv.2) with z | z
        · rw [hv.1.2] at z; simpa using z
        · rw [hv.1.2] at z
          exact absurd (tb_t.mpr (by simpa using z)) q
  · intro p hp h4 h11p
    rw [b4] at h4
    rw [b11] at h11p
    obtain ⟨a, b, c, j, j1, j2, je⟩ := hE p hp h4 h11p
    rw [b5, e5 p, b12, b4]
    refine ⟨by omega, b, c, j, ?_, j2, je⟩
    have : j ≠ k := fun z => by rw [z, ho] at je; rw [← je] at h11p; exact h11p h11
    omega
  · intro j j1 j2
    have h := hL j (by omega) j2
    rw [b4, b9, b6, b14, if_neg (show ¬ j = s 0 15 by omega)]
    refine ⟨h.1, h.2.1, ?_, h.2.2.2⟩
    split
    · decide
    · exact h.2.2.1
  · rw [z15, ekp, hg.1]
    show _ = cnt k _ + _
    have : kp l0 s k = true := by unfold kp; rw [ho, hlk.2.1]; rfl
    rw [this]
    rfl
  · intro j hj h9
    rw [b9] at h9
    rw [ekp, b14, b4, b6, b11]
    by_cases hjk : j = k
    · subst hjk
      rw [if_pos hg.1.symm, ho, if_pos (tb_t.mpr hoo)]
      exact ⟨rfl, hlk.1, rfl, h11⟩
    · have h := hg.2 j (by omega) h9
      have hlt : cnt j (kp l0 s) < s 0 15 := by
        rw [hg.1]
        have h1 : cnt (j + 1) (kp l0 s) = cnt j (kp l0 s) + 1 := by
          have : kp l0 s j = true := by unfold kp; rw [h9]; rfl
          show cnt j _ + (if kp l0 s j = true then 1 else 0) = _
          rw [this]; rfl
        have h2 : ∀ d, cnt (j + 1) (kp l0 s) ≤ cnt (j + 1 + d) (kp l0 s) := fun d => by
          induction d with
          | zero => exact Nat.le_refl _
          | succ d ih => exact Nat.le_trans ih (Nat.le_add_right _ _)
        have h3 := h2 (k - (j + 1))
        rw [show j + 1 + (k - (j + 1)) = k by omega] at h3
        omega
      rw [if_neg (by omega)]
      refine ⟨h.1, h.2.1, ?_, h.2.2.2⟩
      split
      · rfl
      · exact h.2.2.1
  · intro p hp h9
    rw [b9] at h9
    exact hH p hp h9
  · intro p hp h4 h63
    rw [b4] at h4
    rw [b6] at h63
    by_cases q : tb (Rch false s o p) = true
    · rw [if_pos q] at h63; cases h63
    · rw [if_neg q] at h63
      obtain ⟨j, j1, j2, je⟩ := hI p hp h4 h63
      refine ⟨j, ?_, j2, je⟩
      have : j ≠ k := fun z => by
        rw [z, ho] at je
        rw [← je] at q
        exact q (tb_t.mpr hoo)
      omega
  · intro p hp h4 h61
    rw [b4] at h4
    rw [b6] at h61
    by_cases q : tb (Rch false s o p) = true
    · refine ⟨k, by omega, by rw [b9, ho]; exact hlk.2.1, ?_⟩
      rw [ho]
      have h1 := tb_t.mp q
      have h2 := h1 (fun x => Rch false s o x ∧ Rg (appA o s1) o x) ⟨hoo, fun X hX _ => hX⟩ (fun y e h hy he hv h64 h6t => by
        have hr : Rch false s o h := fun X hX hcl => hcl y e h (hy.1 X hX hcl) he hv h64 h6t
        refine ⟨hr, fun X hX hcl => hcl y e h (hy.2 X hX hcl) he (by rw [b12]; exact hv) ?_⟩
        rw [b6, if_pos (tb_t.mpr hr)])
      exact h2.2
    · rw [if_neg q] at h61
      obtain ⟨j, j1, j2, j3⟩ := hJ p hp h4 h61
      exact ⟨j, by omega, by rw [b9]; exact j2, hRgm _ _ j3⟩
end MRK

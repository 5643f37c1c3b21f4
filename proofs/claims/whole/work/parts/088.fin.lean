theorem cnt_range {n a b : Nat} (hab : a ≤ b) (hb : b ≤ n) : cnt n (fun w => decide (a ≤ w ∧ w < b)) = b - a := by
  have h1 : ∀ k, k ≤ n → cnt k (fun w => decide (a ≤ w ∧ w < b)) = min k b - min k a := by
    intro k
    induction k with
    | zero => intro _; simp [cnt]
    | succ k ih =>
      intro hk
      simp only [cnt]
      rw [ih (by omega)]
      by_cases q : a ≤ k ∧ k < b
      · rw [if_pos (decide_eq_true q)]; omega
      · rw [if_neg (by simp [q])]; omega
  rw [h1 n (Nat.le_refl _)]
  omega
section FIN
variable {s : Sm} {n m o : Nat} {d : Nat → Nat} {g : Nat → Nat}
theorem eT_set {i v : Nat} (hi : i < 480) (h4 : s 4 (i / 6) ≠ 0) : eT (nS s 12 i v) o + (if s 12 i = o + 1 then 1 else 0) = eT s o + (if v = o + 1 then 1 else 0) := by
  have h := cnt_upd (n := 480) (k := i) (p := fun j => decide ((nS s 12 i v) 4 (j / 6) ≠ 0) && ((nS s 12 i v) 12 j == o + 1)) (q := fun j => decide (s 4 (j / 6) ≠ 0) && (s 12 j == o + 1)) hi (fun j _ hj => by simp [nS, hj])
  unfold eT
  simpa [nS, h4] using h
theorem give_inv {i h : Nat} (H : LI n d m g s) (hd : d h = 0) (hi : i < 480) (h4 : s 4 (i / 6) ≠ 0) (hv : s 12 i = h + 1) : LI n (fun p => if p = h then 1 else d p) m g (nS s 12 i 0) := by
  obtain ⟨hK, hT, hG, hF, hR, hL, hW, hO, hX, hB, hC, hS⟩ := H
  have c12 : ∀ c, c ≠ 12 → nS s 12 i 0 c = s c := fun c hc => by funext k; exact nS_ne (fun q => hc q.1)
  refine ⟨iK_c (c12 1 (by decide)) (c12 2 (by decide)) (c12 3 (by decide)) hK, ?_, iG_c (c12 2 (by decide)) (c12 4 (by decide)) (c12 7 (by decide)) (c12 13 (by decide)) hG, ?_, ?_, ?_, ?_, iO_c (c12 4 (by decide)) (c12 13 (by decide)) hO, iX_c (c12 4 (by decide)) (c12 18 (by decide)) hX, iB_c (c12 4 (by decide)) (c12 8 (by decide)) (by rw [c12 0 (by decide)]) hB, ?_, ?_⟩
  · intro o ho
    have := hT o ho
    unfold vo nfo at *
    simp only [c12 4 (by decide), c12 1 (by decide), c12 6 (by decide), c12 9 (by decide), c12 10 (by decide), c12 11 (by decide), c12 5 (by decide)]
    refine ⟨fun h4o => ?_, this.2⟩
    have h5 := this.1 h4o
    refine ⟨h5.1, h5.2.1, h5.2.2.1, h5.2.2.2.1, h5.2.2.2.2.1, h5.2.2.2.2.2.1, h5.2.2.2.2.2.2.1, fun h11 => ⟨(h5.2.2.2.2.2.2.2.1 h11).1, (h5.2.2.2.2.2.2.2.1 h11).2.1, fun f hf => ?_⟩, h5.2.2.2.2.2.2.2.2⟩
    have := (h5.2.2.2.2.2.2.2.1 h11).2.2 f hf
    unfold nS
    split
    · rfl
    · exact this
  · intro j hj h4j
    rw [c12 4 (by decide)] at h4j ⊢
    have := hF j hj h4j
    have e : nfo (nS s 12 i 0) (j / 6) = nfo s (j / 6) := by unfold nfo; rw [c12 4 (by decide), c12 1 (by decide)]
    rw [e]
    unfold nS
    split
    · exact ⟨by omega, fun q => absurd rfl q⟩
    · exact this
  · intro o ho h4o
    rw [c12 4 (by decide)] at h4o
    have h1 := hR o ho h4o
    have h2 := eT_set (o := o) (v := 0) hi h4
    have e : wT (nS s 12 i 0) o = wT s o := by unfold wT; rw [c12 0 (by decide), c12 16 (by decide)]
    rw [e, c12 5 (by decide), c12 8 (by decide)]
    rw [hv] at h2
    by_cases q : o = h
    · subst q
      simp at h2 ⊢
      omega
    · rw [show (fun p => if p = h then 1 else d p) o = d o from if_neg q]
      rw [if_neg (show ¬ h + 1 = o + 1 by omega), if_neg (by omega)] at h2
      omega
  · unfold iL at *; rw [c12 0 (by decide), c12 9 (by decide), c12 14 (by decide)]; exact hL
  · unfold iW at *; rw [c12 0 (by decide), c12 16 (by decide), c12 4 (by decide), c12 10 (by decide)]; exact hW
  · unfold iC at *; rw [c12 4 (by decide), c12 6 (by decide)]; exact hC
  · unfold iS at *; rw [c12 4 (by decide), c12 11 (by decide), c12 5 (by decide)]; exact hS
theorem FW_free (hg : geo s o) : FW (freeA o s) = FW s + szo s o := by
  have h1 : FW (freeA o s) = cnt 400 (fun w => (s 13 w == 0) || decide (s 7 o ≤ w ∧ w < s 7 o + szo s o)) := cnt_congr (fun w hw => by
    have := hg.2 w hw
    unfold freeA
    by_cases q : s 13 w = o + 1
    · simp [q, hw, this.mp q]
    · have h2 : ¬ (s 7 o ≤ w ∧ w < s 7 o + szo s o) := fun z => q (this.mpr z)
      have e18 : ¬ (13 = 18 ∧ w < 20 ∧ s 18 w = o + 1) := by omega
      simp [q, h2])
  rw [h1, cnt_add (fun w hw h0 => by
    have h0' : s 13 w = 0 := by simpa using h0
    have := hg.2 w hw
    have h2 : ¬ (s 7 o ≤ w ∧ w < s 7 o + szo s o) := fun z => by have := this.mpr z; omega
    simp only [decide_eq_false_iff_not]
    exact h2), cnt_range (by omega) hg.1]
  show FW s + _ = _
  omega
theorem TT_free (ho : o < 80) (h4 : s 4 o ≠ 0) : TT (freeA o s) + 1 = TT s := by
  have h := cnt_on (n := 80) (k := o) (p := fun p => decide (freeA o s 4 p ≠ 0)) (q := fun p => decide (s 4 p ≠ 0)) ho (fun p _ hp => by unfold freeA; simp [hp]) (by unfold freeA; simp) (by simp [h4])
  unfold TT
  omega
theorem fin_inv (H : LI n d0 m g s) (hm : 0 < m) (ho : o = g (m - 1)) (hff : ∀ f, f < 6 → s 12 (6 * o + f) = 0) : LI n d0 (m - 1) g (finA o s) := by
  obtain ⟨hK, hT, hG, hF, hR, hL, hW, hO, hX, hB, hC, hS⟩ := H
  have htop := hS.1 (m - 1) (by omega)
  rw [← ho] at htop
  obtain ⟨h80, h4, h11, h5, hdis⟩ := htop
  have hTo := (hT o h80).1 h4
  have hRo := hR o h80 h4
  have e0 : eT s o = 0 := by omega
  have w0 : wT s o = 0 := by omega
  have y0 : s 8 o = 0 := by omega
  have hne : ∀ j, j < m - 1 → g j ≠ o := fun j hj => hdis j hj
  have hfz : ∀ i, i < 480 → i / 6 = o → s 12 i = 0 := fun i hi hio => by
    have h1 := hff (i % 6) (by omega)
    have h2 : 6 * o + i % 6 = i := by omega
    rw [h2] at h1
    exact h1
  have hno : ∀ i, i < 480 → s 4 (i / 6) ≠ 0 → s 12 i ≠ o + 1 := fun i hi h4i q => by
    have := cnt_zero.mp e0 i hi
    simp [h4i, q] at this
  have hwo : ∀ j, j < s 0 17 → s 16 j ≠ o := fun j hj q => by
    have := cnt_zero.mp w0 j hj
    simp [q] at this
  unfold finA
  by_cases h9 : s 9 o = 0
  · rw [if_pos h9]
    generalize hs : freeA o (blk o s) = s'
    have f : s' = freeA o (nS s 6 o (if s 6 o = 4 then 4 else 0)) := hs.symm
    have c1 : s' 1 = s 1 := by rw [f]; funext j; simp [freeA, nS]
    have c2 : s' 2 = s 2 := by rw [f]; funext j; simp [freeA, nS]
    have c3 : s' 3 = s 3 := by rw [f]; funext j; simp [freeA, nS]
    have c5 : s' 5 = s 5 := by rw [f]; funext j; simp [freeA, nS]
    have c7 : s' 7 = s 7 := by rw [f]; funext j; simp [freeA, nS]
    have c8 : s' 8 = s 8 := by rw [f]; funext j; simp [freeA, nS]
    have c9 : s' 9 = s 9 := by rw [f]; funext j; simp [freeA, nS]
    have c10 : s' 10 = s 10 := by rw [f]; funext j; simp [freeA, nS]
    have c12 : s' 12 = s 12 := by rw [f]; funext j; simp [freeA, nS]
    have c14 : s' 14 = s 14 := by rw [f]; funext j; simp [freeA, nS]
    have c16 : s' 16 = s 16 := by rw [f]; funext j; simp [freeA, nS]
    have z15 : s' 0 15 = s 0 15 := by rw [f]; simp [freeA, nS]
    have z17 : s' 0 17 = s 0 17 := by rw [f]; simp [freeA, nS]
    have z20 : s' 0 20 = s 0 20 + 1 := by rw [f]; simp [freeA, nS]
    have c4 : ∀ p, p ≠ o → s' 4 p = s 4 p := fun p hp => by rw [f]; simp [freeA, nS, hp]
    have k4 : s' 4 o = 0 := by rw [f]; simp [freeA, nS]
    have c6 : ∀ p, p ≠ o → s' 6 p = s 6 p := fun p hp => by rw [f]; simp [freeA, nS, hp]
    have c11 : ∀ p, p ≠ o → s' 11 p = s 11 p := fun p hp => by rw [f]; simp [freeA, nS, hp]
    have k11 : s' 11 o = 0 := by rw [f]; simp [freeA, nS]
    have c13 : ∀ w, w < 400 → s' 13 w = if s 13 w = o + 1 then 0 else s 13 w := fun w hw => by rw [f]; simp [freeA, nS, hw]
    have c18 : ∀ w, w < 20 → s' 18 w = if s 18 w = o + 1 then 0 else s 18 w := fun w hw => by rw [f]; simp [freeA, nS, hw]
    have ctt : TT s' + 1 = TT s := by
      rw [f, TT_free h80 (by rw [nS_ne (by omega)]; exact h4)]
      exact TT_c (by funext j; simp [nS])
    clear hs f
    have h4' : ∀ p, s' 4 p ≠ 0 → p ≠ o ∧ s 4 p ≠ 0 := fun p hp => by
      by_cases q : p = o
      · subst q; exact absurd k4 hp
      · rw [c4 p q] at hp; exact ⟨q, hp⟩
    have eE : ∀ p, p ≠ o → eT s' p = eT s p := fun p hp => cnt_congr (fun i hi => by
      rw [c12]
      by_cases q : i / 6 = o
      · have := hfz i hi q
        simp [this]
      · rw [c4 _ q])
    refine ⟨iK_c c1 c2 c3 hK, ?_, ?_, ?_, ?_, ?_, ?_, ?_, ?_, ?_, ?_, ?_⟩
    · intro p hp
      by_cases q : p = o
      · subst q
        rw [k4, c9, k11]
        exact ⟨fun z => absurd rfl z, fun _ => ⟨h9, rfl⟩⟩
      · have := hT p hp
        unfold vo nfo at *
        rw [c4 p q, c1, c6 p q, c9, c10, c11 p q, c5, c12]
        exact this
    · intro p hp h4p
      obtain ⟨q, h4p⟩ := h4' p h4p
      have h1 := hG p hp h4p
      unfold geo szo at *
      rw [c2, c4 p q, c7]
      refine ⟨h1.1, fun w hw => ?_⟩
      rw [c13 w hw]
      have h2 := h1.2 w hw
      by_cases z : s 13 w = o + 1
      · rw [if_pos z]; rw [z] at h2; omega
      · rw [if_neg z]; exact h2
    · intro i hi h4i
      obtain ⟨q, h4i⟩ := h4' _ h4i
      have h1 := hF i hi h4i
      have h2 := hno i hi h4i
      have e : nfo s' (i / 6) = nfo s (i / 6) := by unfold nfo; rw [c4 _ q, c1]
      rw [c12, e]
      refine ⟨h1.1, fun z => ⟨(h1.2 z).1, ?_⟩⟩
      rw [c4 _ (by omega)]
      exact (h1.2 z).2
    · intro p hp h4p
      obtain ⟨q, h4p⟩ := h4' p h4p
      have h1 := hR p hp h4p
      have e : wT s' p = wT s p := by unfold wT; rw [z17, c16]
      rw [eE p q, e, c5, c8]
      exact h1
    · unfold iL at *; rw [z15, c9, c14]; exact hL
    · refine ⟨by rw [z17]; exact hW.1, fun j hj => ?_⟩
      rw [z17] at hj
      have h1 := hW.2 j hj
      rw [c16, c4 _ (hwo j hj), c10]
      exact h1
    · intro w hw
      rw [c13 w hw]
      have h1 := hO w hw
      by_cases z : s 13 w = o + 1
      · rw [if_pos z]; exact ⟨by omega, fun q => absurd rfl q⟩
      · rw [if_neg z]
        refine ⟨h1.1, fun q => ?_⟩
        rw [c4 _ (by omega)]
        exact h1.2 q
    · intro w hw
      rw [c18 w hw]
      have h1 := hX w hw
      by_cases z : s 18 w = o + 1
      · rw [if_pos z]; exact ⟨by omega, fun q => absurd rfl q⟩
      · rw [if_neg z]
        refine ⟨h1.1, fun q => ?_⟩
        rw [c4 _ (by omega)]
        exact h1.2 q
    · refine ⟨fun p hp h4p => ?_, ?_, hB.2.2⟩
      · obtain ⟨q, h4p⟩ := h4' p h4p
        rw [c8]; exact hB.1 p hp h4p
      · have := hB.2.1
        rw [z20]; omega
    · intro p hp h4p
      obtain ⟨q, h4p⟩ := h4' p h4p
      rw [c6 p q]; exact hC p hp h4p
    · refine ⟨fun j hj => ?_, fun p hp h4p h11p h5p => ?_⟩
      · have h1 := hS.1 j (by omega)
        rw [c4 _ (hne j hj), c11 _ (hne j hj), c5]
        exact h1
      · obtain ⟨q, h4p⟩ := h4' p h4p
        rw [c11 p q] at h11p
        rw [c5] at h5p
        obtain ⟨j, hj, e⟩ := hS.2 p hp h4p h11p h5p
        refine ⟨j, ?_, e⟩
        by_cases z : j = m - 1
        · subst z; rw [← ho] at e; exact absurd e.symm q
        · omega
  · rw [if_neg h9]
    have h91 : s 9 o = 1 := by have := hTo.2.2.1; omega
    generalize hs : nS (blk o s) 11 o 1 = s'
    have f : s' = nS (nS s 6 o (if s 6 o = 4 then 4 else 0)) 11 o 1 := hs.symm
    have c1 : s' 1 = s 1 := by rw [f]; funext j; simp [nS]
    have c2 : s' 2 = s 2 := by rw [f]; funext j; simp [nS]
    have c3 : s' 3 = s 3 := by rw [f]; funext j; simp [nS]
    have c4 : s' 4 = s 4 := by rw [f]; funext j; simp [nS]
    have c5 : s' 5 = s 5 := by rw [f]; funext j; simp [nS]
    have c7 : s' 7 = s 7 := by rw [f]; funext j; simp [nS]
    have c8 : s' 8 = s 8 := by rw [f]; funext j; simp [nS]
    have c9 : s' 9 = s 9 := by rw [f]; funext j; simp [nS]
    have c10 : s' 10 = s 10 := by rw [f]; funext j; simp [nS]
    have c12 : s' 12 = s 12 := by rw [f]; funext j; simp [nS]
    have c13 : s' 13 = s 13 := by rw [f]; funext j; simp [nS]
    have c14 : s' 14 = s 14 := by rw [f]; funext j; simp [nS]
    have c16 : s' 16 = s 16 := by rw [f]; funext j; simp [nS]
    have c18 : s' 18 = s 18 := by rw [f]; funext j; simp [nS]
    have z0 : s' 0 = s 0 := by rw [f]; funext j; simp [nS]
    have c6 : ∀ p, p ≠ o → s' 6 p = s 6 p := fun p hp => by rw [f]; simp [nS, hp]
    have k6 : s' 6 o = if s 6 o = 4 then 4 else 0 := by rw [f]; simp [nS]
    have c11 : ∀ p, p ≠ o → s' 11 p = s 11 p := fun p hp => by rw [f]; simp [nS, hp]
    have k11 : s' 11 o = 1 := by rw [f]; simp [nS]
    clear hs f
    refine ⟨iK_c c1 c2 c3 hK, ?_, iG_c c2 c4 c7 c13 hG, iF_c c1 c4 c12 hF, ?_, ?_, ?_, iO_c c4 c13 hO, iX_c c4 c18 hX, iB_c c4 c8 (by rw [z0]) hB, ?_, ?_⟩
    · intro p hp
      have := hT p hp
      unfold vo nfo at *
      by_cases q : p = o
      · subst q
        rw [c4, c1, k6, c9, c10, k11, c5, c12]
        refine ⟨fun _ => ⟨hTo.1, by grind, hTo.2.2.1, hTo.2.2.2.1, by omega, by grind, by grind, fun _ => ⟨h91, h5, hff⟩, by grind⟩, fun z => absurd z h4⟩
      · rw [c4, c1, c6 p q, c9, c10, c11 p q, c5, c12]
        exact this
    · unfold iR at *
      intro p hp h4p
      rw [c4] at h4p
      have h1 := hR p hp h4p
      have e : wT s' p = wT s p := by unfold wT; rw [z0, c16]
      rw [eT_c c4 c12, e, c5, c8]
      exact h1
    · unfold iL at *; rw [z0, c9, c14]; exact hL
    · unfold iW at *; rw [z0, c16, c4, c10]; exact hW
    · intro p hp h4p
      rw [c4] at h4p
      by_cases q : p = o
      · subst q; rw [k6]; have := hC p hp h4; grind
      · rw [c6 p q]; exact hC p hp h4p
    · refine ⟨fun j hj => ?_, fun p hp h4p h11p h5p => ?_⟩
      · have h1 := hS.1 j (by omega)
        rw [c4, c11 _ (hne j hj), c5]
        exact h1
      · rw [c4] at h4p
        by_cases q : p = o
        · subst q; rw [k11] at h11p; cases h11p
        · rw [c11 p q] at h11p
          rw [c5] at h5p
          obtain ⟨j, hj, e⟩ := hS.2 p hp h4p h11p h5p
          refine ⟨j, ?_, e⟩
          by_cases z : j = m - 1
          · subst z; rw [← ho] at e; exact absurd e.symm q
          · omega
end FIN

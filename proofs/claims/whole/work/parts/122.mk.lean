def mkA (o y a : Nat) (z : Sm) : Sm := fun c k =>
  if c = 4 ∧ k = o then y + 1 else if c = 5 ∧ k = o then 1 else if c = 8 ∧ k = o then 1 else if c = 6 ∧ k = o then (if z 1 y = 1 then 4 else 0) else if c = 7 ∧ k = o then a
  else if (c = 9 ∨ c = 10 ∨ c = 11) ∧ k = o then 0 else if c = 12 ∧ k / 6 = o then 0 else if c = 13 ∧ a ≤ k ∧ k < a + z 2 y then o + 1 else z c k
section MKA
variable {n k y a o : Nat} {g : Nat → Nat} {z : Sm}
theorem mkA_ne {c : Nat} (h : c ≠ 4 ∧ c ≠ 5 ∧ c ≠ 8 ∧ c ≠ 6 ∧ c ≠ 7 ∧ c ≠ 9 ∧ c ≠ 10 ∧ c ≠ 11 ∧ c ≠ 12 ∧ c ≠ 13) : mkA o y a z c = z c := by
  funext j
  unfold mkA
  rw [if_neg (by omega), if_neg (by omega), if_neg (by omega), if_neg (by omega), if_neg (by omega), if_neg (by omega), if_neg (by omega), if_neg (by omega)]
theorem mkA_o {c p : Nat} (hp : p ≠ o) (h : c ≠ 12 ∧ c ≠ 13) : mkA o y a z c p = z c p := by
  unfold mkA
  rw [if_neg (by omega), if_neg (by omega), if_neg (by omega), if_neg (by omega), if_neg (by omega), if_neg (by omega), if_neg (by omega), if_neg (by omega)]
theorem mkA_12 {i : Nat} : mkA o y a z 12 i = if i / 6 = o then 0 else z 12 i := by
  unfold mkA
  by_cases h : i / 6 = o
  · simp [h]
  · simp [h]
theorem mkA_13 {i : Nat} : mkA o y a z 13 i = if a ≤ i ∧ i < a + z 2 y then o + 1 else z 13 i := by
  unfold mkA
  by_cases h : a ≤ i ∧ i < a + z 2 y
  · simp [h]
  · simp [h]
theorem LI_mk (H : LI n d0 0 g z) (hn : n + 1 ≤ 1000) (ho : o < 80) (h4 : z 4 o = 0) (hy : y < 10) (h1 : z 1 y ≠ 0) (ha : a + z 2 y ≤ 400) (hg : ∀ x, a ≤ x → x < a + z 2 y → z 13 x = 0) : LI (n + 1) d0 0 g (mkA o y a z) := by
  obtain ⟨hK, hT, hG, hF, hR, hL, hW, hO, hX, hB, hC, hS⟩ := H
  have k4 : mkA o y a z 4 o = y + 1 := by simp [mkA]
  have k5 : mkA o y a z 5 o = 1 := by simp [mkA]
  have k8 : mkA o y a z 8 o = 1 := by simp [mkA]
  have k6 : mkA o y a z 6 o = if z 1 y = 1 then 4 else 0 := by simp [mkA]
  have k7 : mkA o y a z 7 o = a := by simp [mkA]
  have k9 : mkA o y a z 9 o = 0 := by simp [mkA]
  have k10 : mkA o y a z 10 o = 0 := by simp [mkA]
  have k11 : mkA o y a z 11 o = 0 := by simp [mkA]
  have e : ∀ c p, p ≠ o → c ≠ 12 ∧ c ≠ 13 → mkA o y a z c p = z c p := fun c p a b => mkA_o a b
  have f : ∀ c, c ≠ 4 ∧ c ≠ 5 ∧ c ≠ 8 ∧ c ≠ 6 ∧ c ≠ 7 ∧ c ≠ 9 ∧ c ≠ 10 ∧ c ≠ 11 ∧ c ≠ 12 ∧ c ≠ 13 → mkA o y a z c = z c := fun c h => mkA_ne h
  have e12 : ∀ i, mkA o y a z 12 i = if i / 6 = o then 0 else z 12 i := fun i => mkA_12
  have e13 : ∀ i, mkA o y a z 13 i = if a ≤ i ∧ i < a + z 2 y then o + 1 else z 13 i := fun i => mkA_13
  generalize mkA o y a z = s' at *
  have f1 := f 1 (by decide)
  have f2 := f 2 (by decide)
  have f3 := f 3 (by decide)
  have f0 := f 0 (by decide)
  have f14 := f 14 (by decide)
  have f16 := f 16 (by decide)
  have f18 := f 18 (by decide)
  have e4 : ∀ p, z 4 p ≠ 0 → p ≠ o := fun p h q => h (by rw [q]; exact h4)
  have s4 : ∀ p, z 4 p ≠ 0 → s' 4 p ≠ 0 := fun p h => by rw [e 4 p (e4 p h) (by decide)]; exact h
  have hTo := (hT o ho).2 h4
  have e9 : s' 9 = z 9 := by
    funext p
    by_cases q : p = o
    · rw [q, k9, hTo.1]
    · exact e 9 p q (by decide)
  have hKy := hK y hy
  have heT : ∀ p, eT s' p = eT z p := fun p => by
    unfold eT
    refine cnt_congr (fun i hi => ?_)
    rw [e12]
    by_cases q : i / 6 = o
    · rw [if_pos q, q, h4]; simp
    · rw [if_neg q, e 4 _ q (by decide)]
  have heo : eT z o = 0 := cnt_zero.mpr (fun i hi => by
    by_cases q : z 4 (i / 6) = 0
    · simp [q]
    · have := (hF i hi q).2
      by_cases x : z 12 i = o + 1
      · exact absurd h4 (by have := (this (by omega)).2; rw [x] at this; exact this)
      · simp [x])
  have hwT : ∀ p, wT s' p = wT z p := fun p => by unfold wT; rw [f0, f16]
  have hwo : wT z o = 0 := cnt_zero.mpr (fun j hj => by
    have := (hW.2 j hj).2.1
    simp only [beq_eq_false_iff_ne, ne_eq]
    exact e4 _ this)
  have hTT : TT s' = TT z + 1 := cnt_on (k := o) ho (fun p hp hpo => by rw [e 4 p hpo (by decide)]) (by rw [h4]; rfl) (by rw [k4]; simp)
  refine ⟨iK_c f1 f2 f3 hK, fun p hp => ?_, fun p hp h4p => ?_, fun i hi h4i => ?_, fun p hp h4p => ?_, ?_, ?_, fun w hw => ?_, fun w hw => ?_, ⟨fun p hp h4p => ?_, ?_, hn⟩, fun p hp h4p => ?_, ⟨fun j hj => by omega, fun p hp h4p h11 h5 => ?_⟩⟩
  · by_cases q : p = o
    · subst q
      refine ⟨fun _ => ?_, fun x => by omega⟩
      unfold vo nfo
      rw [k4, show y + 1 - 1 = y by omega, f1, k6, k9, k10, k11]
      refine ⟨⟨by omega, by omega, h1⟩, by split <;> omega, by omega, by omega, by omega, ?_, ?_, by omega, by omega⟩
      · by_cases x : z 1 y = 1
        · rw [if_pos x]; omega
        · rw [if_neg x]; omega
      · split <;> omega
    · have h := hT p hp
      have h12 : ∀ f, f < 6 → s' 12 (6 * p + f) = z 12 (6 * p + f) := fun f hf => by rw [e12, if_neg (by omega)]
      unfold vo nfo at *
      rw [e 4 p q (by decide), e 5 p q (by decide), e 6 p q (by decide), e 9 p q (by decide), e 10 p q (by decide), e 11 p q (by decide), f1]
      refine ⟨fun x => ?_, h.2⟩
      have h := h.1 x
      refine ⟨h.1, h.2.1, h.2.2.1, h.2.2.2.1, h.2.2.2.2.1, h.2.2.2.2.2.1, h.2.2.2.2.2.2.1, fun x => ?_, h.2.2.2.2.2.2.2.2⟩
      have h := h.2.2.2.2.2.2.2.1 x
      exact ⟨h.1, h.2.1, fun f hf => by rw [h12 f hf]; exact h.2.2 f hf⟩
  · by_cases q : p = o
    · subst q
      unfold geo szo
      rw [k4, show y + 1 - 1 = y by omega, f2, k7]
      refine ⟨ha, fun w hw => ?_⟩
      rw [e13]
      by_cases x : a ≤ w ∧ w < a + z 2 y
      · rw [if_pos x]; exact ⟨fun _ => x, fun _ => rfl⟩
      · rw [if_neg x]
        refine ⟨fun b => ?_, fun b => absurd b x⟩
        have := (hO w hw).2 (by omega)
        rw [b] at this
        exact absurd h4 this
    · rw [e 4 p q (by decide)] at h4p
      have h := hG p hp h4p
      unfold geo szo at *
      rw [e 4 p q (by decide), e 7 p q (by decide), f2]
      refine ⟨h.1, fun w hw => ?_⟩
      rw [e13]
      have h2 := h.2 w hw
      by_cases x : a ≤ w ∧ w < a + z 2 y
      · rw [if_pos x]
        have h3 := hg w x.1 x.2
        rw [h3] at h2
        refine ⟨fun b => by omega, fun b => ?_⟩
        have := h2.mpr b
        omega
      · rw [if_neg x]; exact h2
  · rw [e12]
    by_cases q : i / 6 = o
    · rw [if_pos q]
      exact ⟨by omega, fun x => absurd rfl x⟩
    · rw [if_neg q]
      rw [e 4 _ q (by decide)] at h4i
      have h := hF i hi h4i
      refine ⟨h.1, fun x => ?_⟩
      have h2 := h.2 x
      unfold nfo at *
      rw [e 4 _ q (by decide), f1]
      exact ⟨h2.1, s4 _ h2.2⟩
  · rw [heT, hwT]
    by_cases q : p = o
    · rw [q, heo, hwo, k5, k8]
      rfl
    · rw [e 4 p q (by decide)] at h4p
      rw [e 5 p q (by decide), e 8 p q (by decide)]
      exact hR p hp h4p
  · unfold iL at *; rw [f0, e9, f14]; exact hL
  · unfold iW at *
    rw [f0, f16]
    refine ⟨hW.1, fun j hj => ?_⟩
    have h := hW.2 j hj
    exact ⟨h.1, s4 _ h.2.1, by rw [e 10 _ (e4 _ h.2.1) (by decide)]; exact h.2.2.1, h.2.2.2⟩
  · rw [e13]
    by_cases q : a ≤ w ∧ w < a + z 2 y
    · rw [if_pos q]
      exact ⟨by omega, fun _ => by rw [show o + 1 - 1 = o by omega, k4]; omega⟩
    · rw [if_neg q]
      have h := hO w hw
      exact ⟨h.1, fun x => s4 _ (h.2 x)⟩
  · rw [f18]
    have h := hX w hw
    exact ⟨h.1, fun x => s4 _ (h.2 x)⟩
  · by_cases q : p = o
    · rw [q, k8]; omega
    · rw [e 4 p q (by decide)] at h4p
      rw [e 8 p q (by decide)]
      have := hB.1 p hp h4p
      omega
  · rw [hTT, f0]; have := hB.2.1; omega
  · by_cases q : p = o
    · rw [q, k6]; split <;> omega
    · rw [e 4 p q (by decide)] at h4p
      rw [e 6 p q (by decide)]
      exact hC p hp h4p
  · by_cases q : p = o
    · rw [q, k5] at h5; omega
    · rw [e 4 p q (by decide)] at h4p
      rw [e 11 p q (by decide)] at h11
      rw [e 5 p q (by decide)] at h5
      exact hS.2 p hp h4p h11 h5
end MKA

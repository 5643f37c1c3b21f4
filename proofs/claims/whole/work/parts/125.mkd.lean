section MKD
variable {th : Nat → Option Nat} {n m fw tt k y a o t kd N fw' tt' : Nat} {l g : Nat → Nat} {q : Nat → Prop} {r u u1 : Mm} {z : Sm}
theorem CR.mk (H : LI k d0 0 g z) (C : CR th n l 0 g q fw tt r u z) (hd : ∀ p, z 4 p = 0 → th p = none) (hl : ∀ j, j < n → z 4 (l j) ≠ 0) (h70 : 70 ≤ t) (ht4 : t % 4 = 0) (hft : ∀ p, th p ≠ some t) (ho : o < 80) (h4 : z 4 o = 0) (hy : y < 10) (h1 : z 1 y ≠ 0) (hkd : u.2 41 y = some kd) : CR (th2 th o t) n l 0 g q fw' tt' r (mkU o a (z 2 y) t kd fw' tt' u) (mkA o y a z) := by
  obtain ⟨hK, hT, hG, hF, hR, hL, hW, hO, hX, hB, hC, hS⟩ := H
  obtain ⟨cF', cV', cA', cH', cB', cK', cS', cW', cX', cE', cN', cI', cL', cG', cC'⟩ := C
  have v : ∀ p t', th2 th o t p = some t' → (p = o ∧ t' = t) ∨ (p ≠ o ∧ th p = some t' ∧ z 4 p ≠ 0 ∧ t' ≠ t ∧ 70 ≤ t' ∧ t' % 4 = 0 ∧ p < 80) := fun p t' e => by
    by_cases x : p = o
    · rw [x, th2_o] at e; exact Or.inl ⟨x, (Option.some.inj e).symm⟩
    · rw [th2_ne x] at e
      have := cV' p t' e
      exact Or.inr ⟨x, e, (fun b => by have e2 := hd p b; rw [e] at e2; cases e2), (fun b => hft p (by rw [e, b])), this.1, this.2.1, this.2.2.1⟩
  obtain ⟨kd', k1, k2, k3, k4, k5, k6, k7⟩ := (cK' y hy).2 h1
  have hkk : kd' = kd := Option.some.inj (k1.symm.trans hkd)
  subst hkk
  have f : ∀ c, c ≠ 4 ∧ c ≠ 5 ∧ c ≠ 8 ∧ c ≠ 6 ∧ c ≠ 7 ∧ c ≠ 9 ∧ c ≠ 10 ∧ c ≠ 11 ∧ c ≠ 12 ∧ c ≠ 13 → mkA o y a z c = z c := fun c h => mkA_ne h
  have hTo := (hT o ho).2 h4
  have hth : ∀ p, z 4 p ≠ 0 → th2 th o t p = th p := fun p x => th2_ne (fun e => x (by rw [e]; exact h4))
  refine ⟨fun c j hc => ?_, fun p t' e => ?_, fun p t' e => ?_, fun p t' fi e hf => ?_, fun p t' e h4p => ?_, fun x hx => ?_, fun p hp => ?_, fun w hw => ?_, fun w hw => ?_, fun i hi => ?_, ?_, ?_, ?_, ?_, ?_⟩
  · rw [mkU_1 (by omega), mkU_2 (by omega)]; exact cF' c j hc
  · rcases v p t' e with ⟨rfl, rfl⟩ | ⟨b1, b2, b3, b4, b5, b6, b7⟩
    · refine ⟨h70, ht4, ho, fun p' e' => ?_⟩
      rcases v p' _ e' with ⟨c1, _⟩ | ⟨_, c2, _⟩
      · exact c1
      · exact absurd c2 (hft p')
    · refine ⟨b5, b6, b7, fun p' e' => ?_⟩
      rcases v p' _ e' with ⟨_, c1⟩ | ⟨_, c2, _⟩
      · exact absurd c1 b4
      · exact (cV' p t' b2).2.2.2 p' c2
  · rcases v p t' e with ⟨rfl, rfl⟩ | ⟨b1, b2, b3, b4, b5, b6, b7⟩
    · rw [mkU_t h70, mkU_t h70, mkU_t h70, mkU_t h70, mkU_t h70, mkU_t h70, show mkA p y a z 5 p = 1 by simp [mkA], show mkA p y a z 8 p = 1 by simp [mkA], show mkA p y a z 6 p = (if z 1 y = 1 then 4 else 0) by simp [mkA], show mkA p y a z 7 p = a by simp [mkA], show mkA p y a z 9 p = 0 by simp [mkA], k5]
      refine ⟨rfl, rfl, rfl, ?_, rfl, rfl⟩
      have hky := (hK y hy).1
      show (if i3 (z 1 y - 1) = (0 : Int32) then (4 : Int32) else 0) = _
      by_cases x : z 1 y = 1
      · rw [if_pos x, if_pos ((i3_eqL (by omega) (by decide)).mpr (by rw [x]))]; rfl
      · rw [if_neg x, if_neg (fun b => by have : z 1 y - 1 = 0 := (i3_eqL (n := 0) (by omega) (by decide)).mp b; omega)]; rfl
    · rw [mkU_1 (by omega), mkA_o b1 (by decide), mkA_o b1 (by decide), mkA_o b1 (by decide), mkA_o b1 (by decide), mkA_o b1 (by decide)]
      exact cA' p t' b2
  · rcases v p t' e with ⟨rfl, rfl⟩ | ⟨b1, b2, b3, b4, b5, b6, b7⟩
    · rw [mkU_tr h70, mkA_12, if_pos (by omega)]
      rfl
    · rw [mkU_2 (by omega), mkA_12, if_neg (by omega), oT2, cH' p t' fi b2 hf]
      intro e2
      have := ((hF (6 * p + fi) (by omega) (by rw [show (6 * p + fi) / 6 = p by omega]; exact b3)).2 (by omega)).2
      rw [e2] at this
      exact this h4
  · rcases v p t' e with ⟨rfl, rfl⟩ | ⟨b1, b2, b3, b4, b5, b6, b7⟩
    · have hky := (hK y hy).2.1
      rw [mkU_t h70, mkU_t h70, mkU_t1 h70, mkU_2 (c := 41) (by omega), show mkA p y a z 4 p = y + 1 by simp [mkA], show mkA p y a z 10 p = 0 by simp [mkA], show mkA p y a z 11 p = 0 by simp [mkA], f 3 (by decide), show y + 1 - 1 = y by omega, hkd]
      show (0 : Int32) = _ ∧ _ ∧ (_ → u.1 kd' 3 = 1) ∧ (_ → u.1 kd' 3 = 0)
      rw [k7]
      refine ⟨rfl, rfl, fun x => by rw [x.1]; rfl, fun x => ?_⟩
      rw [show z 3 y = 0 by omega]
      rfl
    · rw [mkU_1 (by omega), mkU_2 (by omega), mkU_2 (c := 41) (by omega), mkA_o b1 (by decide), mkA_o b1 (by decide), mkA_o b1 (by decide), f 3 (by decide)]
      exact cB' p t' b2 b3
  · rw [mkU_2 (by omega), f 1 (by decide), f 2 (by decide), f 3 (by decide)]
    refine ⟨(cK' x hx).1, fun b => ?_⟩
    obtain ⟨kx, x1, x2, x3, x4⟩ := (cK' x hx).2 b
    refine ⟨kx, x1, x2, x3, ?_⟩
    rw [mkU_1 (by omega)]
    exact x4
  · rw [mkU_43 h70]
    by_cases x : p = o
    · subst x
      rw [if_pos rfl, th2_o, show mkA p y a z 4 p = y + 1 by simp [mkA]]
      exact ⟨fun b => by omega, fun _ => ⟨rfl, fun b => by cases b⟩⟩
    · rw [if_neg x, th2_ne x, mkA_o x (by decide)]
      exact cS' p hp
  · rw [mkU_47 h70, mkA_13]
    by_cases x : a ≤ w ∧ w < a + z 2 y
    · rw [if_pos x, if_pos x]
      unfold oT
      rw [if_neg (by omega), show o + 1 - 1 = o by omega, th2_o]
    · rw [if_neg x, if_neg x, cW' w hw, oT2]
      intro e
      have := (hO w hw).2 (by omega)
      rw [e] at this
      exact this h4
  · rw [mkU_2 (by omega), f 18 (by decide), cX' w hw, oT2]
    intro e
    have := (hX w hw).2 (by omega)
    rw [e] at this
    exact this h4
  · rw [mkU_1 (by omega), f 19 (by decide)]; exact cE' i hi
  · unfold cN at *
    rw [mkU_42 h70 (by decide), mkU_1 (c := 55) (by omega), mkU_1 (c := 40) (by omega), f 0 (by decide)]
    exact cN'
  · unfold cI at *
    rw [mkU_1 (by omega), mkU_2 (by omega), f 0 (by decide), f 16 (by decide)]
    refine ⟨cI'.1, fun j hj => ?_⟩
    rw [hth _ (hW.2 j hj).2.1]
    exact cI'.2 j hj
  · unfold cL at *
    rw [mkU_1 (by omega), mkU_2 (by omega)]
    refine ⟨cL'.1, fun j hj => ?_⟩
    rw [hth _ (hl j hj)]
    exact cL'.2 j hj
  · unfold cG at *
    rw [mkU_1 (c := 49) (by omega)]
    refine ⟨cG'.1, fun j hj => by omega, fun p t' e h4p h11 => ?_⟩
    rcases v p t' e with ⟨rfl, rfl⟩ | ⟨b1, b2, b3, b4, b5, b6, b7⟩
    · exact ⟨0, by rw [mkU_t h70]; rfl, by omega, Or.inl rfl, fun f hf => by omega⟩
    · rw [mkA_o b1 (by decide)] at h11
      obtain ⟨x, x1, x2, x3, x4⟩ := cG'.2.2 p t' b2 b3 h11
      refine ⟨x, by rw [mkU_1 (by omega)]; exact x1, x2, x3, fun fi hf => ?_⟩
      rw [mkA_12, if_neg (by omega)]
      exact x4 fi hf
  · exact ⟨mkU_46 h70, mkU_424 h70⟩
end MKD

section TYP
variable {th : Nat → Option Nat} {n m fw tt w k : Nat} {l g : Nat → Nat} {q : Nat → Prop} {r u u1 u2 : Mm} {s s' z : Sm} {o t v N y a b c : Nat}
def fK2 (u : Mm) (t : Nat) : Prop := 70 ≤ t ∧ t % 4 = 2 ∧ ∀ y, y < 10 → u.2 41 y ≠ some t
def tyA (y a b c : Nat) (z : Sm) : Sm := nS (nS (nS z 1 y (a + 1)) 2 y b) 3 y c
theorem CR.ty (h : CR th n l m g q fw tt r u s) (hf : fK2 u t) (hy : y < 10) (h1 : s 1 y = 0) (hno : ∀ o, o < 80 → s 4 o ≠ 0 → s 4 o ≤ 10 ∧ s 4 o ≠ y + 1) (hb : b < 2147483648) : CR th n l m g q fw tt (sR (nK u t (i3 y) (i3 a) (i3 b) (i3 c)) 41 y (some t)) (sR (nK u t (i3 y) (i3 a) (i3 b) (i3 c)) 41 y (some t)) (tyA y a b c s) := by
  obtain ⟨hF, hV, hA, hH, hB, hK, hS, hW, hX, hE, hN, hI, hL, hG, hC⟩ := h
  obtain ⟨f1, f2, f3⟩ := hf
  generalize hu : sR (nK u t (i3 y) (i3 a) (i3 b) (i3 c)) 41 y (some t) = u'
  generalize hs : tyA y a b c s = s'
  have e1 : ∀ x, x ≠ t → u'.1 x = u.1 x := fun x hx => by rw [← hu]; funext j; show (if x = t then _ else u.1 x j) = _; rw [if_neg hx]
  have e2 : ∀ x, x ≠ t → x ≠ 41 → u'.2 x = u.2 x := fun x hx h41 => by rw [← hu]; funext j; show (if x = 41 ∧ j = y then _ else (if x = t then none else u.2 x j)) = _; rw [if_neg (fun q => h41 q.1), if_neg hx]
  have e3 : ∀ j, j ≠ y → u'.2 41 j = u.2 41 j := fun j hj => by rw [← hu]; show (if 41 = 41 ∧ j = y then _ else (if 41 = t then none else u.2 41 j)) = _; rw [if_neg (fun q => hj q.2), if_neg (by omega)]
  have e4 : u'.2 41 y = some t := by rw [← hu]; show (if 41 = 41 ∧ y = y then _ else _) = _; rw [if_pos ⟨rfl, rfl⟩]
  have e5 : u'.1 t 0 = i3 y ∧ u'.1 t 1 = i3 a ∧ u'.1 t 2 = i3 b ∧ u'.1 t 3 = i3 c := by
    rw [← hu]
    refine ⟨?_, ?_, ?_, ?_⟩ <;> (show (if t = t then _ else _) = _; rw [if_pos rfl]; rfl)
  have s1 : ∀ x, x ≠ 1 → x ≠ 2 → x ≠ 3 → s' x = s x := fun x a b c => by rw [← hs]; funext j; unfold tyA; rw [nS_ne (fun q => c q.1), nS_ne (fun q => b q.1), nS_ne (fun q => a q.1)]
  have s2 : ∀ x j, j ≠ y → s' x j = s x j := fun x j hj => by rw [← hs]; unfold tyA; rw [nS_ne (fun q => hj q.2), nS_ne (fun q => hj q.2), nS_ne (fun q => hj q.2)]
  have s3 : s' 1 y = a + 1 ∧ s' 2 y = b ∧ s' 3 y = c := by
    rw [← hs]; unfold tyA
    refine ⟨?_, ?_, nS_eq⟩
    · rw [nS_ne (by omega), nS_ne (by omega), nS_eq]
    · rw [nS_ne (by omega), nS_eq]
  clear hu hs
  have sz := s1 0 (by decide) (by decide) (by decide)
  have s4 := s1 4 (by decide) (by decide) (by decide)
  have s10 := s1 10 (by decide) (by decide) (by decide)
  have s12 := s1 12 (by decide) (by decide) (by decide)
  refine ⟨fun c j hc => ?_, hV, fun o t' ht => ?_, fun o t' f ht hf => ?_, fun o t' ht h4 => ?_, fun x hx => ?_, fun o ho => ?_, fun w hw => ?_, fun w hw => ?_, fun i hi => ?_, ?_, ?_, ?_, ?_, ?_⟩
  · exact ⟨rfl, rfl⟩
  · have := hV o t' ht
    rw [e1 t' (by omega), s1 5 (by decide) (by decide) (by decide), s1 8 (by decide) (by decide) (by decide), s1 6 (by decide) (by decide) (by decide), s1 7 (by decide) (by decide) (by decide), s1 9 (by decide) (by decide) (by decide)]
    exact hA o t' ht
  · have := hV o t' ht
    rw [e2 (t' + 1) (by omega) (by omega), s12]
    exact hH o t' f ht hf
  · have := hV o t' ht
    rw [s4] at h4
    have hq := hno o this.2.2.1 h4
    rw [e1 t' (by omega), e2 t' (by omega) (by omega), s4, s1 11 (by decide) (by decide) (by decide), s10, e3 (s 4 o - 1) (by omega), s2 3 (s 4 o - 1) (by omega)]
    exact hB o t' ht h4
  · by_cases hxy : x = y
    · subst hxy
      refine ⟨fun z => ?_, fun _ => ⟨t, e4, f1, f2, e5.1, ?_, ?_, ?_⟩⟩
      · rw [s3.1] at z; omega
      · rw [s3.1, e5.2.1]; rfl
      · rw [s3.2.1, e5.2.2.1]
      · rw [s3.2.2, e5.2.2.2]
    · rw [e3 x hxy, s2 1 x hxy, s2 2 x hxy, s2 3 x hxy]
      refine ⟨(hK x hx).1, fun z => ?_⟩
      obtain ⟨kd, k1, k2, k3, k4⟩ := (hK x hx).2 z
      refine ⟨kd, k1, k2, k3, ?_⟩
      have : kd ≠ t := fun e => f3 x hx (by rw [k1, e])
      rw [e1 kd this]
      exact k4
  · rw [e2 43 (by omega) (by omega), s4]; exact hS o ho
  · rw [e2 47 (by omega) (by omega), s1 13 (by decide) (by decide) (by decide)]; exact hW w hw
  · rw [e2 45 (by omega) (by omega), s1 18 (by decide) (by decide) (by decide)]; exact hX w hw
  · rw [e1 44 (by omega), s1 19 (by decide) (by decide) (by decide)]; exact hE i hi
  · unfold cN at *; rw [e1 42 (by omega), e1 55 (by omega), e1 40 (by omega), sz]; exact hN
  · unfold cI at *; rw [e1 53 (by omega), e2 54 (by omega) (by omega), sz, s1 16 (by decide) (by decide) (by decide)]; exact hI
  · unfold cL at *; rw [e1 51 (by omega), e2 52 (by omega) (by omega)]; exact hL
  · unfold cG at *
    rw [e1 49 (by omega), e2 50 (by omega) (by omega), s4, s1 11 (by decide) (by decide) (by decide), s12]
    refine ⟨hG.1, hG.2.1, fun o t' ht a b => ?_⟩
    have := hV o t' ht
    rw [e1 t' (by omega)]
    exact hG.2.2 o t' ht a b
  · unfold cC at *; rw [e1 46 (by omega), e1 42 (by omega)]; exact hC
theorem LI_ty {d : Nat → Nat} (H : LI n d m g z) (hy : y < 10) (h1 : z 1 y = 0) (ha : a ≤ 6) (hb : a + 2 ≤ b ∧ b ≤ 68) (hc : c ≤ 1) : LI n d m g (tyA y a b c z) := by
  obtain ⟨hK, hT, hG, hF, hR, hL, hW, hO, hX, hB, hC, hS⟩ := H
  generalize hs : tyA y a b c z = s'
  have s1 : ∀ x, x ≠ 1 → x ≠ 2 → x ≠ 3 → s' x = z x := fun x a b c => by rw [← hs]; funext j; unfold tyA; rw [nS_ne (fun q => c q.1), nS_ne (fun q => b q.1), nS_ne (fun q => a q.1)]
  have s2 : ∀ x j, j ≠ y → s' x j = z x j := fun x j hj => by rw [← hs]; unfold tyA; rw [nS_ne (fun q => hj q.2), nS_ne (fun q => hj q.2), nS_ne (fun q => hj q.2)]
  have s3 : s' 1 y = a + 1 ∧ s' 2 y = b ∧ s' 3 y = c := by
    rw [← hs]; unfold tyA
    refine ⟨?_, ?_, nS_eq⟩
    · rw [nS_ne (by omega), nS_ne (by omega), nS_eq]
    · rw [nS_ne (by omega), nS_eq]
  clear hs
  have sz := s1 0 (by decide) (by decide) (by decide)
  have c4 := s1 4 (by decide) (by decide) (by decide)
  have c5 := s1 5 (by decide) (by decide) (by decide)
  have c6 := s1 6 (by decide) (by decide) (by decide)
  have c7 := s1 7 (by decide) (by decide) (by decide)
  have c8 := s1 8 (by decide) (by decide) (by decide)
  have c9 := s1 9 (by decide) (by decide) (by decide)
  have c10 := s1 10 (by decide) (by decide) (by decide)
  have c11 := s1 11 (by decide) (by decide) (by decide)
  have c12 := s1 12 (by decide) (by decide) (by decide)
  have c13 := s1 13 (by decide) (by decide) (by decide)
  have hv : ∀ o, o < 80 → z 4 o ≠ 0 → z 4 o - 1 ≠ y := fun o ho h4 e => by
    have := ((hT o ho).1 h4).1
    unfold vo at this
    rw [e] at this
    omega
  have hn : ∀ o, o < 80 → z 4 o ≠ 0 → nfo s' o = nfo z o := fun o ho h4 => by unfold nfo; rw [c4, s2 1 _ (hv o ho h4)]
  refine ⟨fun x hx => ?_, fun o ho => ?_, fun o ho h4 => ?_, fun i hi h4 => ?_, fun o ho h4 => ?_, ?_, ?_, iO_c c4 c13 hO, iX_c c4 (s1 18 (by decide) (by decide) (by decide)) hX, iB_c c4 c8 (by rw [sz]) hB, ?_, ?_⟩
  · by_cases e : x = y
    · subst e; rw [s3.1, s3.2.1, s3.2.2]; omega
    · rw [s2 1 x e, s2 2 x e, s2 3 x e]; exact hK x hx
  · have h := hT o ho
    rw [c4, c5, c6, c9, c10, c11, c12]
    refine ⟨fun h4 => ?_, h.2⟩
    rw [hn o ho h4]
    have h := h.1 h4
    refine ⟨?_, h.2⟩
    have h0 := h.1
    unfold vo at *
    rw [c4, s2 1 _ (hv o ho h4)]
    exact h0
  · rw [c4] at h4
    have h := hG o ho h4
    unfold geo szo at *
    rw [c4, c7, c13, s2 2 _ (hv o ho h4)]
    exact h
  · rw [c4] at h4
    rw [c12, c4, hn _ (by omega) h4]
    exact hF i hi h4
  · rw [c4] at h4
    have h := hR o ho h4
    unfold wT at *
    rw [eT_c c4 c12, c5, c8, sz, s1 16 (by decide) (by decide) (by decide)]
    exact h
  · unfold iL at *; rw [sz, c9, s1 14 (by decide) (by decide) (by decide)]; exact hL
  · unfold iW at *; rw [sz, s1 16 (by decide) (by decide) (by decide), c4, c10]; exact hW
  · unfold iC at *; rw [c4, c6]; exact hC
  · unfold iS at *; rw [c4, c5, c11]; exact hS
end TYP

def oT (th : Nat → Option Nat) (v : Nat) : Option Nat := if v = 0 then none else th (v - 1)
def cF (r u : Mm) : Prop := ∀ c k, c < 40 ∨ c = 41 → u.1 c k = r.1 c k ∧ u.2 c k = r.2 c k
def cV (th : Nat → Option Nat) : Prop := ∀ o t, th o = some t → 70 ≤ t ∧ t % 4 = 0 ∧ o < 80 ∧ ∀ p, th p = some t → p = o
def cA (th : Nat → Option Nat) (u : Mm) (s : Sm) : Prop := ∀ o t, th o = some t → u.1 t 0 = i3 o ∧ u.1 t 3 = i3 (s 5 o) ∧ u.1 t 4 = i3 (s 8 o) ∧ u.1 t 5 = i3 (s 6 o) ∧ u.1 t 6 = i3 (s 7 o) ∧ u.1 t 8 = i3 (s 9 o)
def cH (th : Nat → Option Nat) (u : Mm) (s : Sm) : Prop := ∀ o t f, th o = some t → f < 6 → u.2 (t + 1) f = oT th (s 12 (6 * o + f))
def cB (th : Nat → Option Nat) (u : Mm) (s : Sm) : Prop := ∀ o t, th o = some t → s 4 o ≠ 0 → u.1 t 10 = i3 (s 11 o) ∧ u.2 t 1 = u.2 41 (s 4 o - 1) ∧ (s 3 (s 4 o - 1) = 1 ∧ s 10 o = 0 → u.1 t 9 = 1) ∧ (¬ (s 3 (s 4 o - 1) = 1 ∧ s 10 o = 0) → u.1 t 9 = 0)
def cK (u : Mm) (s : Sm) : Prop := ∀ y, y < 10 → (s 1 y = 0 → u.2 41 y = none) ∧ (s 1 y ≠ 0 → ∃ kd, u.2 41 y = some kd ∧ 70 ≤ kd ∧ kd % 4 = 2 ∧ u.1 kd 0 = i3 y ∧ u.1 kd 1 = i3 (s 1 y - 1) ∧ u.1 kd 2 = i3 (s 2 y) ∧ u.1 kd 3 = i3 (s 3 y))
def cS (th : Nat → Option Nat) (u : Mm) (s : Sm) : Prop := ∀ o, o < 80 → (s 4 o = 0 → u.2 43 o = none) ∧ (s 4 o ≠ 0 → u.2 43 o = th o ∧ th o ≠ none)
def cW (th : Nat → Option Nat) (u : Mm) (s : Sm) : Prop := ∀ w, w < 400 → u.2 47 w = oT th (s 13 w)
def cX (th : Nat → Option Nat) (u : Mm) (s : Sm) : Prop := ∀ w, w < 20 → u.2 45 w = oT th (s 18 w)
def cE (u : Mm) (s : Sm) : Prop := ∀ i, i < 100 → u.1 44 i = i3 (s 19 i)
def cN (u : Mm) (s : Sm) : Prop := u.1 42 5 = i3 (s 0 20) ∧ u.1 55 4 = i3 (s 0 21) ∧ u.1 40 4 = i3 (s 0 22) ∧ u.1 55 5 = i3 (s 0 23) ∧ u.1 55 6 = i3 (s 0 24)
def cI (th : Nat → Option Nat) (u : Mm) (s : Sm) : Prop := u.1 53 1 = i3 (s 0 17) ∧ ∀ j, j < s 0 17 → u.2 54 j = th (s 16 j)
def cL (th : Nat → Option Nat) (u : Mm) (n : Nat) (l : Nat → Nat) : Prop := u.1 51 1 = i3 n ∧ ∀ j, j < n → u.2 52 j = th (l j)
def cG (th : Nat → Option Nat) (u : Mm) (s : Sm) (m : Nat) (g : Nat → Nat) (q : Nat → Prop) : Prop := u.1 49 1 = i3 m ∧ (∀ j, j < m → u.2 50 j = th (g j)) ∧ ∀ o t, th o = some t → s 4 o ≠ 0 → s 11 o = 0 → (∃ x, u.1 t 7 = i3 x ∧ x ≤ 6 ∧ (x = 0 ∨ q o) ∧ ∀ f, f < x → s 12 (6 * o + f) = 0)
def cC (u : Mm) (fw tt : Nat) : Prop := u.1 46 1 = i3 fw ∧ u.1 42 4 = i3 tt
def CR (th : Nat → Option Nat) (n : Nat) (l : Nat → Nat) (m : Nat) (g : Nat → Nat) (q : Nat → Prop) (fw tt : Nat) (r u : Mm) (s : Sm) : Prop :=
  cF r u ∧ cV th ∧ cA th u s ∧ cH th u s ∧ cB th u s ∧ cK u s ∧ cS th u s ∧ cW th u s ∧ cX th u s ∧ cE u s ∧ cN u s ∧ cI th u s ∧ cL th u n l ∧ cG th u s m g q ∧ cC u fw tt
section CRS
variable {th : Nat → Option Nat} {n m fw tt : Nat} {l g : Nat → Nat} {q : Nat → Prop} {r u : Mm} {s : Sm} {o t v : Nat}
theorem CR.t3 (h : CR th n l m g q fw tt r u s) (ht : th o = some t) : CR th n l m g q fw tt r (sI u t 3 (i3 v)) (nS s 5 o v) := by
  obtain ⟨hF, hV, hA, hH, hB, hK, hS, hW, hX, hE, hN, hI, hL, hG, hC⟩ := h
  obtain ⟨h70, h4, h80, hj⟩ := hV o t ht
  refine ⟨?_, hV, ?_, ?_, ?_, ?_, ?_, ?_, ?_, ?_, ?_, ?_, ?_, ?_, ?_⟩
  · unfold cF at hF ⊢; unfold cV at hV; (try unfold sI); (try unfold sR); (try unfold nS); clear hA hH hB hK hS hW hX hE hN hI hL hG hC; grind
  · unfold cA at hA ⊢; unfold cV at hV; (try unfold sI); (try unfold sR); (try unfold nS); clear hF hH hB hK hS hW hX hE hN hI hL hG hC; grind
  · unfold cH at hH ⊢; unfold cV at hV; (try unfold sI); (try unfold sR); (try unfold nS); clear hF hA hB hK hS hW hX hE hN hI hL hG hC; grind
  · unfold cB at hB ⊢; unfold cV at hV; (try unfold sI); (try unfold sR); (try unfold nS); clear hF hA hH hK hS hW hX hE hN hI hL hG hC; grind
  · unfold cK at hK ⊢; unfold cV at hV; (try unfold sI); (try unfold sR); (try unfold nS); clear hF hA hH hB hS hW hX hE hN hI hL hG hC; grind
  · unfold cS at hS ⊢; unfold cV at hV; (try unfold sI); (try unfold sR); (try unfold nS); clear hF hA hH hB hK hW hX hE hN hI hL hG hC; grind
  · unfold cW at hW ⊢; unfold cV at hV; (try unfold sI); (try unfold sR); (try unfold nS); clear hF hA hH hB hK hS hX hE hN hI hL hG hC; grind
  · unfold cX at hX ⊢; unfold cV at hV; (try unfold sI); (try unfold sR); (try unfold nS); clear hF hA hH hB hK hS hW hE hN hI hL hG hC; grind
  · unfold cE at hE ⊢; unfold cV at hV; (try unfold sI); (try unfold sR); (try unfold nS); clear hF hA hH hB hK hS hW hX hN hI hL hG hC; grind
  · unfold cN at hN ⊢; unfold cV at hV; (try unfold sI); (try unfold sR); (try unfold nS); clear hF hA hH hB hK hS hW hX hE hI hL hG hC; grind
  · unfold cI at hI ⊢; unfold cV at hV; (try unfold sI); (try unfold sR); (try unfold nS); clear hF hA hH hB hK hS hW hX hE hN hL hG hC; grind
  · unfold cL at hL ⊢; unfold cV at hV; (try unfold sI); (try unfold sR); (try unfold nS); clear hF hA hH hB hK hS hW hX hE hN hI hG hC; grind
  · unfold cG at hG ⊢; unfold cV at hV; (try unfold sI); (try unfold sR); (try unfold nS); clear hF hA hH hB hK hS hW hX hE hN hI hL hC; grind
  · unfold cC at hC ⊢; unfold cV at hV; (try unfold sI); (try unfold sR); (try unfold nS); clear hF hA hH hB hK hS hW hX hE hN hI hL hG; grind
theorem CR.t4 (h : CR th n l m g q fw tt r u s) (ht : th o = some t) : CR th n l m g q fw tt r (sI u t 4 (i3 v)) (nS s 8 o v) := by
  obtain ⟨hF, hV, hA, hH, hB, hK, hS, hW, hX, hE, hN, hI, hL, hG, hC⟩ := h
  obtain ⟨h70, h4, h80, hj⟩ := hV o t ht
  refine ⟨?_, hV, ?_, ?_, ?_, ?_, ?_, ?_, ?_, ?_, ?_, ?_, ?_, ?_, ?_⟩
  · unfold cF at hF ⊢; unfold cV at hV; (try unfold sI); (try unfold sR); (try unfold nS); clear hA hH hB hK hS hW hX hE hN hI hL hG hC; grind
  · unfold cA at hA ⊢; unfold cV at hV; (try unfold sI); (try unfold sR); (try unfold nS); clear hF hH hB hK hS hW hX hE hN hI hL hG hC; grind
  · unfold cH at hH ⊢; unfold cV at hV; (try unfold sI); (try unfold sR); (try unfold nS); clear hF hA hB hK hS hW hX hE hN hI hL hG hC; grind
  · unfold cB at hB ⊢; unfold cV at hV; (try unfold sI); (try unfold sR); (try unfold nS); clear hF hA hH hK hS hW hX hE hN hI hL hG hC; grind
  · unfold cK at hK ⊢; unfold cV at hV; (try unfold sI); (try unfold sR); (try unfold nS); clear hF hA hH hB hS hW hX hE hN hI hL hG hC; grind
  · unfold cS at hS ⊢; unfold cV at hV; (try unfold sI); (try unfold sR); (try unfold nS); clear hF hA hH hB hK hW hX hE hN hI hL hG hC; grind
  · unfold cW at hW ⊢; unfold cV at hV; (try unfold sI); (try unfold sR); (try unfold nS); clear hF hA hH hB hK hS hX hE hN hI hL hG hC; grind
  · unfold cX at hX ⊢; unfold cV at hV; (try unfold sI); (try unfold sR); (try unfold nS); clear hF hA hH hB hK hS hW hE hN hI hL hG hC; grind
  · unfold cE at hE ⊢; unfold cV at hV; (try unfold sI); (try unfold sR); (try unfold nS); clear hF hA hH hB hK hS hW hX hN hI hL hG hC; grind
  · unfold cN at hN ⊢; unfold cV at hV; (try unfold sI); (try unfold sR); (try unfold nS); clear hF hA hH hB hK hS hW hX hE hI hL hG hC; grind
  · unfold cI at hI ⊢; unfold cV at hV; (try unfold sI); (try unfold sR); (try unfold nS); clear hF hA hH hB hK hS hW hX hE hN hL hG hC; grind
  · unfold cL at hL ⊢; unfold cV at hV; (try unfold sI); (try unfold sR); (try unfold nS); clear hF hA hH hB hK hS hW hX hE hN hI hG hC; grind
  · unfold cG at hG ⊢; unfold cV at hV; (try unfold sI); (try unfold sR); (try unfold nS); clear hF hA hH hB hK hS hW hX hE hN hI hL hC; grind
  · unfold cC at hC ⊢; unfold cV at hV; (try unfold sI); (try unfold sR); (try unfold nS); clear hF hA hH hB hK hS hW hX hE hN hI hL hG; grind
theorem CR.t5 (h : CR th n l m g q fw tt r u s) (ht : th o = some t) : CR th n l m g q fw tt r (sI u t 5 (i3 v)) (nS s 6 o v) := by
  obtain ⟨hF, hV, hA, hH, hB, hK, hS, hW, hX, hE, hN, hI, hL, hG, hC⟩ := h
  obtain ⟨h70, h4, h80, hj⟩ := hV o t ht
  refine ⟨?_, hV, ?_, ?_, ?_, ?_, ?_, ?_, ?_, ?_, ?_, ?_, ?_, ?_, ?_⟩
  · unfold cF at hF ⊢; unfold cV at hV; (try unfold sI); (try unfold sR); (try unfold nS); clear hA hH hB hK hS hW hX hE hN hI hL hG hC; grind
  · unfold cA at hA ⊢; unfold cV at hV; (try unfold sI); (try unfold sR); (try unfold nS); clear hF hH hB hK hS hW hX hE hN hI hL hG hC; grind
  · unfold cH at hH ⊢; unfold cV at hV; (try unfold sI); (try unfold sR); (try unfold nS); clear hF hA hB hK hS hW hX hE hN hI hL hG hC; grind
  · unfold cB at hB ⊢; unfold cV at hV; (try unfold sI); (try unfold sR); (try unfold nS); clear hF hA hH hK hS hW hX hE hN hI hL hG hC; grind
  · unfold cK at hK ⊢; unfold cV at hV; (try unfold sI); (try unfold sR); (try unfold nS); clear hF hA hH hB hS hW hX hE hN hI hL hG hC; grind
  · unfold cS at hS ⊢; unfold cV at hV; (try unfold sI); (try unfold sR); (try unfold nS); clear hF hA hH hB hK hW hX hE hN hI hL hG hC; grind
  · unfold cW at hW ⊢; unfold cV at hV; (try unfold sI); (try unfold sR); (try unfold nS); clear hF hA hH hB hK hS hX hE hN hI hL hG hC; grind
  · unfold cX at hX ⊢; unfold cV at hV; (try unfold sI); (try unfold sR); (try unfold nS); clear hF hA hH hB hK hS hW hE hN hI hL hG hC; grind
  · unfold cE at hE ⊢; unfold cV at hV; (try unfold sI); (try unfold sR); (try unfold nS); clear hF hA hH hB hK hS hW hX hN hI hL hG hC; grind
  · unfold cN at hN ⊢; unfold cV at hV; (try unfold sI); (try unfold sR); (try unfold nS); clear hF hA hH hB hK hS hW hX hE hI hL hG hC; grind
  · unfold cI at hI ⊢; unfold cV at hV; (try unfold sI); (try unfold sR); (try unfold nS); clear hF hA hH hB hK hS hW hX hE hN hL hG hC; grind
  · unfold cL at hL ⊢; unfold cV at hV; (try unfold sI); (try unfold sR); (try unfold nS); clear hF hA hH hB hK hS hW hX hE hN hI hG hC; grind
  · unfold cG at hG ⊢; unfold cV at hV; (try unfold sI); (try unfold sR); (try unfold nS); clear hF hA hH hB hK hS hW hX hE hN hI hL hC; grind
  · unfold cC at hC ⊢; unfold cV at hV; (try unfold sI); (try unfold sR); (try unfold nS); clear hF hA hH hB hK hS hW hX hE hN hI hL hG; grind
theorem CR.t6 (h : CR th n l m g q fw tt r u s) (ht : th o = some t) : CR th n l m g q fw tt r (sI u t 6 (i3 v)) (nS s 7 o v) := by
  obtain ⟨hF, hV, hA, hH, hB, hK, hS, hW, hX, hE, hN, hI, hL, hG, hC⟩ := h
  obtain ⟨h70, h4, h80, hj⟩ := hV o t ht
  refine ⟨?_, hV, ?_, ?_, ?_, ?_, ?_, ?_, ?_, ?_, ?_, ?_, ?_, ?_, ?_⟩
  · unfold cF at hF ⊢; unfold cV at hV; (try unfold sI); (try unfold sR); (try unfold nS); clear hA hH hB hK hS hW hX hE hN hI hL hG hC; grind
  · unfold cA at hA ⊢; unfold cV at hV; (try unfold sI); (try unfold sR); (try unfold nS); clear hF hH hB hK hS hW hX hE hN hI hL hG hC; grind
  · unfold cH at hH ⊢; unfold cV at hV; (try unfold sI); (try unfold sR); (try unfold nS); clear hF hA hB hK hS hW hX hE hN hI hL hG hC; grind
  · unfold cB at hB ⊢; unfold cV at hV; (try unfold sI); (try unfold sR); (try unfold nS); clear hF hA hH hK hS hW hX hE hN hI hL hG hC; grind
  · unfold cK at hK ⊢; unfold cV at hV; (try unfold sI); (try unfold sR); (try unfold nS); clear hF hA hH hB hS hW hX hE hN hI hL hG hC; grind
  · unfold cS at hS ⊢; unfold cV at hV; (try unfold sI); (try unfold sR); (try unfold nS); clear hF hA hH hB hK hW hX hE hN hI hL hG hC; grind
  · unfold cW at hW ⊢; unfold cV at hV; (try unfold sI); (try unfold sR); (try unfold nS); clear hF hA hH hB hK hS hX hE hN hI hL hG hC; grind
  · unfold cX at hX ⊢; unfold cV at hV; (try unfold sI); (try unfold sR); (try unfold nS); clear hF hA hH hB hK hS hW hE hN hI hL hG hC; grind
  · unfold cE at hE ⊢; unfold cV at hV; (try unfold sI); (try unfold sR); (try unfold nS); clear hF hA hH hB hK hS hW hX hN hI hL hG hC; grind
  · unfold cN at hN ⊢; unfold cV at hV; (try unfold sI); (try unfold sR); (try unfold nS); clear hF hA hH hB hK hS hW hX hE hI hL hG hC; grind
  · unfold cI at hI ⊢; unfold cV at hV; (try unfold sI); (try unfold sR); (try unfold nS); clear hF hA hH hB hK hS hW hX hE hN hL hG hC; grind
  · unfold cL at hL ⊢; unfold cV at hV; (try unfold sI); (try unfold sR); (try unfold nS); clear hF hA hH hB hK hS hW hX hE hN hI hG hC; grind
  · unfold cG at hG ⊢; unfold cV at hV; (try unfold sI); (try unfold sR); (try unfold nS); clear hF hA hH hB hK hS hW hX hE hN hI hL hC; grind
  · unfold cC at hC ⊢; unfold cV at hV; (try unfold sI); (try unfold sR); (try unfold nS); clear hF hA hH hB hK hS hW hX hE hN hI hL hG; grind
theorem CR.t8 (h : CR th n l m g q fw tt r u s) (ht : th o = some t) : CR th n l m g q fw tt r (sI u t 8 (i3 v)) (nS s 9 o v) := by
  obtain ⟨hF, hV, hA, hH, hB, hK, hS, hW, hX, hE, hN, hI, hL, hG, hC⟩ := h
  obtain ⟨h70, h4, h80, hj⟩ := hV o t ht
  refine ⟨?_, hV, ?_, ?_, ?_, ?_, ?_, ?_, ?_, ?_, ?_, ?_, ?_, ?_, ?_⟩
  · unfold cF at hF ⊢; unfold cV at hV; (try unfold sI); (try unfold sR); (try unfold nS); clear hA hH hB hK hS hW hX hE hN hI hL hG hC; grind
  · unfold cA at hA ⊢; unfold cV at hV; (try unfold sI); (try unfold sR); (try unfold nS); clear hF hH hB hK hS hW hX hE hN hI hL hG hC; grind
  · unfold cH at hH ⊢; unfold cV at hV; (try unfold sI); (try unfold sR); (try unfold nS); clear hF hA hB hK hS hW hX hE hN hI hL hG hC; grind
  · unfold cB at hB ⊢; unfold cV at hV; (try unfold sI); (try unfold sR); (try unfold nS); clear hF hA hH hK hS hW hX hE hN hI hL hG hC; grind
  · unfold cK at hK ⊢; unfold cV at hV; (try unfold sI); (try unfold sR); (try unfold nS); clear hF hA hH hB hS hW hX hE hN hI hL hG hC; grind
  · unfold cS at hS ⊢; unfold cV at hV; (try unfold sI); (try unfold sR); (try unfold nS); clear hF hA hH hB hK hW hX hE hN hI hL hG hC; grind
  · unfold cW at hW ⊢; unfold cV at hV; (try unfold sI); (try unfold sR); (try unfold nS); clear hF hA hH hB hK hS hX hE hN hI hL hG hC; grind
  · unfold cX at hX ⊢; unfold cV at hV; (try unfold sI); (try unfold sR); (try unfold nS); clear hF hA hH hB hK hS hW hE hN hI hL hG hC; grind
  · unfold cE at hE ⊢; unfold cV at hV; (try unfold sI); (try unfold sR); (try unfold nS); clear hF hA hH hB hK hS hW hX hN hI hL hG hC; grind
  · unfold cN at hN ⊢; unfold cV at hV; (try unfold sI); (try unfold sR); (try unfold nS); clear hF hA hH hB hK hS hW hX hE hI hL hG hC; grind
  · unfold cI at hI ⊢; unfold cV at hV; (try unfold sI); (try unfold sR); (try unfold nS); clear hF hA hH hB hK hS hW hX hE hN hL hG hC; grind
  · unfold cL at hL ⊢; unfold cV at hV; (try unfold sI); (try unfold sR); (try unfold nS); clear hF hA hH hB hK hS hW hX hE hN hI hG hC; grind
  · unfold cG at hG ⊢; unfold cV at hV; (try unfold sI); (try unfold sR); (try unfold nS); clear hF hA hH hB hK hS hW hX hE hN hI hL hC; grind
  · unfold cC at hC ⊢; unfold cV at hV; (try unfold sI); (try unfold sR); (try unfold nS); clear hF hA hH hB hK hS hW hX hE hN hI hL hG; grind
theorem CR.t9 (h : CR th n l m g q fw tt r u s) (ht : th o = some t) : CR th n l m g q fw tt r (sI u t 9 0) (nS s 10 o 1) := by
  obtain ⟨hF, hV, hA, hH, hB, hK, hS, hW, hX, hE, hN, hI, hL, hG, hC⟩ := h
  obtain ⟨h70, h4, h80, hj⟩ := hV o t ht
  refine ⟨?_, hV, ?_, ?_, ?_, ?_, ?_, ?_, ?_, ?_, ?_, ?_, ?_, ?_, ?_⟩
  · unfold cF at hF ⊢; unfold cV at hV; (try unfold sI); (try unfold sR); (try unfold nS); clear hA hH hB hK hS hW hX hE hN hI hL hG hC; grind
  · unfold cA at hA ⊢; unfold cV at hV; (try unfold sI); (try unfold sR); (try unfold nS); clear hF hH hB hK hS hW hX hE hN hI hL hG hC; grind
  · unfold cH at hH ⊢; unfold cV at hV; (try unfold sI); (try unfold sR); (try unfold nS); clear hF hA hB hK hS hW hX hE hN hI hL hG hC; grind
  · unfold cB at hB ⊢; unfold cV at hV; (try unfold sI); (try unfold sR); (try unfold nS); clear hF hA hH hK hS hW hX hE hN hI hL hG hC; grind
  · unfold cK at hK ⊢; unfold cV at hV; (try unfold sI); (try unfold sR); (try unfold nS); clear hF hA hH hB hS hW hX hE hN hI hL hG hC; grind
  · unfold cS at hS ⊢; unfold cV at hV; (try unfold sI); (try unfold sR); (try unfold nS); clear hF hA hH hB hK hW hX hE hN hI hL hG hC; grind
  · unfold cW at hW ⊢; unfold cV at hV; (try unfold sI); (try unfold sR); (try unfold nS); clear hF hA hH hB hK hS hX hE hN hI hL hG hC; grind
  · unfold cX at hX ⊢; unfold cV at hV; (try unfold sI); (try unfold sR); (try unfold nS); clear hF hA hH hB hK hS hW hE hN hI hL hG hC; grind
  · unfold cE at hE ⊢; unfold cV at hV; (try unfold sI); (try unfold sR); (try unfold nS); clear hF hA hH hB hK hS hW hX hN hI hL hG hC; grind
  · unfold cN at hN ⊢; unfold cV at hV; (try unfold sI); (try unfold sR); (try unfold nS); clear hF hA hH hB hK hS hW hX hE hI hL hG hC; grind
  · unfold cI at hI ⊢; unfold cV at hV; (try unfold sI); (try unfold sR); (try unfold nS); clear hF hA hH hB hK hS hW hX hE hN hL hG hC; grind
  · unfold cL at hL ⊢; unfold cV at hV; (try unfold sI); (try unfold sR); (try unfold nS); clear hF hA hH hB hK hS hW hX hE hN hI hG hC; grind
  · unfold cG at hG ⊢; unfold cV at hV; (try unfold sI); (try unfold sR); (try unfold nS); clear hF hA hH hB hK hS hW hX hE hN hI hL hC; grind
  · unfold cC at hC ⊢; unfold cV at hV; (try unfold sI); (try unfold sR); (try unfold nS); clear hF hA hH hB hK hS hW hX hE hN hI hL hG; grind
theorem CR.t10 (h : CR th n l m g q fw tt r u s) (ht : th o = some t) : CR th n l m g q fw tt r (sI u t 10 1) (nS s 11 o 1) := by
  obtain ⟨hF, hV, hA, hH, hB, hK, hS, hW, hX, hE, hN, hI, hL, hG, hC⟩ := h
  obtain ⟨h70, h4, h80, hj⟩ := hV o t ht
  have e1 : i3 1 = 1 := rfl
  refine ⟨?_, hV, ?_, ?_, ?_, ?_, ?_, ?_, ?_, ?_, ?_, ?_, ?_, ?_, ?_⟩
  · unfold cF at hF ⊢; unfold cV at hV; (try unfold sI); (try unfold sR); (try unfold nS); clear hA hH hB hK hS hW hX hE hN hI hL hG hC; grind
  · unfold cA at hA ⊢; unfold cV at hV; (try unfold sI); (try unfold sR); (try unfold nS); clear hF hH hB hK hS hW hX hE hN hI hL hG hC; grind
  · unfold cH at hH ⊢; unfold cV at hV; (try unfold sI); (try unfold sR); (try unfold nS); clear hF hA hB hK hS hW hX hE hN hI hL hG hC; grind
  · unfold cB at hB ⊢; unfold cV at hV; (try unfold sI); (try unfold sR); (try unfold nS); clear hF hA hH hK hS hW hX hE hN hI hL hG hC; grind
  · unfold cK at hK ⊢; unfold cV at hV; (try unfold sI); (try unfold sR); (try unfold nS); clear hF hA hH hB hS hW hX hE hN hI hL hG hC; grind
  · unfold cS at hS ⊢; unfold cV at hV; (try unfold sI); (try unfold sR); (try unfold nS); clear hF hA hH hB hK hW hX hE hN hI hL hG hC; grind
  · unfold cW at hW ⊢; unfold cV at hV; (try unfold sI); (try unfold sR); (try unfold nS); clear hF hA hH hB hK hS hX hE hN hI hL hG hC; grind
  · unfold cX at hX ⊢; unfold cV at hV; (try unfold sI); (try unfold sR); (try unfold nS); clear hF hA hH hB hK hS hW hE hN hI hL hG hC; grind
  · unfold cE at hE ⊢; unfold cV at hV; (try unfold sI); (try unfold sR); (try unfold nS); clear hF hA hH hB hK hS hW hX hN hI hL hG hC; grind
  · unfold cN at hN ⊢; unfold cV at hV; (try unfold sI); (try unfold sR); (try unfold nS); clear hF hA hH hB hK hS hW hX hE hI hL hG hC; grind
  · unfold cI at hI ⊢; unfold cV at hV; (try unfold sI); (try unfold sR); (try unfold nS); clear hF hA hH hB hK hS hW hX hE hN hL hG hC; grind
  · unfold cL at hL ⊢; unfold cV at hV; (try unfold sI); (try unfold sR); (try unfold nS); clear hF hA hH hB hK hS hW hX hE hN hI hG hC; grind
  · unfold cG at hG ⊢; unfold cV at hV; (try unfold sI); (try unfold sR); (try unfold nS); clear hF hA hH hB hK hS hW hX hE hN hI hL hC; grind
  · unfold cC at hC ⊢; unfold cV at hV; (try unfold sI); (try unfold sR); (try unfold nS); clear hF hA hH hB hK hS hW hX hE hN hI hL hG; grind
theorem CR.t7 (h : CR th n l m g q fw tt r u s) (ht : th o = some t) {x : Nat} (hx : x ≤ 6) (hq : x = 0 ∨ q o) (hf : ∀ f, f < x → s 12 (6 * o + f) = 0) : CR th n l m g q fw tt r (sI u t 7 (i3 x)) (s) := by
  obtain ⟨hF, hV, hA, hH, hB, hK, hS, hW, hX, hE, hN, hI, hL, hG, hC⟩ := h
  obtain ⟨h70, h4, h80, hj⟩ := hV o t ht
  refine ⟨?_, hV, ?_, ?_, ?_, ?_, ?_, ?_, ?_, ?_, ?_, ?_, ?_, ?_, ?_⟩
  · unfold cF at hF ⊢; unfold cV at hV; (try unfold sI); (try unfold sR); (try unfold nS); clear hA hH hB hK hS hW hX hE hN hI hL hG hC; grind
  · unfold cA at hA ⊢; unfold cV at hV; (try unfold sI); (try unfold sR); (try unfold nS); clear hF hH hB hK hS hW hX hE hN hI hL hG hC; grind
  · unfold cH at hH ⊢; unfold cV at hV; (try unfold sI); (try unfold sR); (try unfold nS); clear hF hA hB hK hS hW hX hE hN hI hL hG hC; grind
  · unfold cB at hB ⊢; unfold cV at hV; (try unfold sI); (try unfold sR); (try unfold nS); clear hF hA hH hK hS hW hX hE hN hI hL hG hC; grind
  · unfold cK at hK ⊢; unfold cV at hV; (try unfold sI); (try unfold sR); (try unfold nS); clear hF hA hH hB hS hW hX hE hN hI hL hG hC; grind
  · unfold cS at hS ⊢; unfold cV at hV; (try unfold sI); (try unfold sR); (try unfold nS); clear hF hA hH hB hK hW hX hE hN hI hL hG hC; grind
  · unfold cW at hW ⊢; unfold cV at hV; (try unfold sI); (try unfold sR); (try unfold nS); clear hF hA hH hB hK hS hX hE hN hI hL hG hC; grind
  · unfold cX at hX ⊢; unfold cV at hV; (try unfold sI); (try unfold sR); (try unfold nS); clear hF hA hH hB hK hS hW hE hN hI hL hG hC; grind
  · unfold cE at hE ⊢; unfold cV at hV; (try unfold sI); (try unfold sR); (try unfold nS); clear hF hA hH hB hK hS hW hX hN hI hL hG hC; grind
  · unfold cN at hN ⊢; unfold cV at hV; (try unfold sI); (try unfold sR); (try unfold nS); clear hF hA hH hB hK hS hW hX hE hI hL hG hC; grind
  · unfold cI at hI ⊢; unfold cV at hV; (try unfold sI); (try unfold sR); (try unfold nS); clear hF hA hH hB hK hS hW hX hE hN hL hG hC; grind
  · unfold cL at hL ⊢; unfold cV at hV; (try unfold sI); (try unfold sR); (try unfold nS); clear hF hA hH hB hK hS hW hX hE hN hI hG hC; grind
  · unfold cG at hG ⊢; unfold cV at hV; (try unfold sI); (try unfold sR); (try unfold nS); clear hF hA hH hB hK hS hW hX hE hN hI hL hC; grind
  · unfold cC at hC ⊢; unfold cV at hV; (try unfold sI); (try unfold sR); (try unfold nS); clear hF hA hH hB hK hS hW hX hE hN hI hL hG; grind
theorem CR.hd (h : CR th n l m g q fw tt r u s) (ht : th o = some t) {f v : Nat} (hf : f < 6) (hz : v = 0 ∨ u.1 t 7 = 0) : CR th n l m g q fw tt r (sR u (t + 1) f (oT th v)) (nS s 12 (6 * o + f) v) := by
  obtain ⟨hF, hV, hA, hH, hB, hK, hS, hW, hX, hE, hN, hI, hL, hG, hC⟩ := h
  obtain ⟨h70, h4, h80, hj⟩ := hV o t ht
  have e0 : (0 : Int32) = i3 0 := rfl
  refine ⟨?_, hV, ?_, ?_, ?_, ?_, ?_, ?_, ?_, ?_, ?_, ?_, ?_, ?_, ?_⟩
  · unfold cF at hF ⊢; unfold cV at hV; (try unfold sI); (try unfold sR); (try unfold nS); clear hA hH hB hK hS hW hX hE hN hI hL hG hC; grind
  · unfold cA at hA ⊢; unfold cV at hV; (try unfold sI); (try unfold sR); (try unfold nS); clear hF hH hB hK hS hW hX hE hN hI hL hG hC; grind
  · unfold cH at hH ⊢; unfold cV at hV; (try unfold sI); (try unfold sR); (try unfold nS); clear hF hA hB hK hS hW hX hE hN hI hL hG hC; grind
  · unfold cB at hB ⊢; unfold cV at hV; (try unfold sI); (try unfold sR); (try unfold nS); clear hF hA hH hK hS hW hX hE hN hI hL hG hC; grind
  · unfold cK at hK ⊢; unfold cV at hV; (try unfold sI); (try unfold sR); (try unfold nS); clear hF hA hH hB hS hW hX hE hN hI hL hG hC; grind
  · unfold cS at hS ⊢; unfold cV at hV; (try unfold sI); (try unfold sR); (try unfold nS); clear hF hA hH hB hK hW hX hE hN hI hL hG hC; grind
  · unfold cW at hW ⊢; unfold cV at hV; (try unfold sI); (try unfold sR); (try unfold nS); clear hF hA hH hB hK hS hX hE hN hI hL hG hC; grind
  · unfold cX at hX ⊢; unfold cV at hV; (try unfold sI); (try unfold sR); (try unfold nS); clear hF hA hH hB hK hS hW hE hN hI hL hG hC; grind
  · unfold cE at hE ⊢; unfold cV at hV; (try unfold sI); (try unfold sR); (try unfold nS); clear hF hA hH hB hK hS hW hX hN hI hL hG hC; grind
  · unfold cN at hN ⊢; unfold cV at hV; (try unfold sI); (try unfold sR); (try unfold nS); clear hF hA hH hB hK hS hW hX hE hI hL hG hC; grind
  · unfold cI at hI ⊢; unfold cV at hV; (try unfold sI); (try unfold sR); (try unfold nS); clear hF hA hH hB hK hS hW hX hE hN hL hG hC; grind
  · unfold cL at hL ⊢; unfold cV at hV; (try unfold sI); (try unfold sR); (try unfold nS); clear hF hA hH hB hK hS hW hX hE hN hI hG hC; grind
  · unfold cG at hG ⊢; unfold cV at hV; clear hF hA hH hB hK hS hW hX hE hN hI hL hC; refine ⟨hG.1, by unfold sR; grind, fun o1 t1 h1 h2 h3 => ?_⟩; obtain ⟨x, hx1, hx2, hx3, hx4⟩ := hG.2.2 o1 t1 h1 h2 h3; refine ⟨x, hx1, hx2, hx3, fun f1 hf1 => ?_⟩; unfold nS; have h5 := hx4 f1 hf1; by_cases ho : o1 = o; (· subst ho; rcases hz with hz | hz; (· subst hz; grind); (· rw [h1] at ht; cases ht; rw [hx1] at hz; have : x = 0 := (i3_eqL (by omega) (by decide)).mp hz; omega)); (· rw [if_neg (by omega)]; exact h5)
  · unfold cC at hC ⊢; unfold cV at hV; (try unfold sI); (try unfold sR); (try unfold nS); clear hF hA hH hB hK hS hW hX hE hN hI hL hG; grind
theorem CR.r56 (h : CR th n l m g q fw tt r u s) {w : Int32} : CR th n l m g q fw tt r (sI u 56 1 w) (s) := by
  obtain ⟨hF, hV, hA, hH, hB, hK, hS, hW, hX, hE, hN, hI, hL, hG, hC⟩ := h
  refine ⟨?_, hV, ?_, ?_, ?_, ?_, ?_, ?_, ?_, ?_, ?_, ?_, ?_, ?_, ?_⟩
  · unfold cF at hF ⊢; unfold cV at hV; (try unfold sI); (try unfold sR); (try unfold nS); clear hA hH hB hK hS hW hX hE hN hI hL hG hC; grind
  · unfold cA at hA ⊢; intro o1 t1 h1; have h2 := (hV o1 t1 h1).1; have h3 := hA o1 t1 h1; have h4 : t1 ≠ 56 := (by omega); (try unfold sI); (try unfold nS); clear hV hF hA hH hB hK hS hW hX hE hN hI hL hG hC; grind
  · unfold cH at hH ⊢; unfold cV at hV; (try unfold sI); (try unfold sR); (try unfold nS); clear hF hA hB hK hS hW hX hE hN hI hL hG hC; grind
  · unfold cB at hB ⊢; unfold cV at hV; (try unfold sI); (try unfold sR); (try unfold nS); clear hF hA hH hK hS hW hX hE hN hI hL hG hC; grind
  · unfold cK at hK ⊢; unfold cV at hV; (try unfold sI); (try unfold sR); (try unfold nS); clear hF hA hH hB hS hW hX hE hN hI hL hG hC; grind
  · unfold cS at hS ⊢; unfold cV at hV; (try unfold sI); (try unfold sR); (try unfold nS); clear hF hA hH hB hK hW hX hE hN hI hL hG hC; grind
  · unfold cW at hW ⊢; unfold cV at hV; (try unfold sI); (try unfold sR); (try unfold nS); clear hF hA hH hB hK hS hX hE hN hI hL hG hC; grind
  · unfold cX at hX ⊢; unfold cV at hV; (try unfold sI); (try unfold sR); (try unfold nS); clear hF hA hH hB hK hS hW hE hN hI hL hG hC; grind
  · unfold cE at hE ⊢; unfold cV at hV; (try unfold sI); (try unfold sR); (try unfold nS); clear hF hA hH hB hK hS hW hX hN hI hL hG hC; grind
  · unfold cN at hN ⊢; unfold cV at hV; (try unfold sI); (try unfold sR); (try unfold nS); clear hF hA hH hB hK hS hW hX hE hI hL hG hC; grind
  · unfold cI at hI ⊢; unfold cV at hV; (try unfold sI); (try unfold sR); (try unfold nS); clear hF hA hH hB hK hS hW hX hE hN hL hG hC; grind
  · unfold cL at hL ⊢; unfold cV at hV; (try unfold sI); (try unfold sR); (try unfold nS); clear hF hA hH hB hK hS hW hX hE hN hI hG hC; grind
  · unfold cG at hG ⊢; unfold cV at hV; (try unfold sI); (try unfold sR); (try unfold nS); clear hF hA hH hB hK hS hW hX hE hN hI hL hC; grind
  · unfold cC at hC ⊢; unfold cV at hV; (try unfold sI); (try unfold sR); (try unfold nS); clear hF hA hH hB hK hS hW hX hE hN hI hL hG; grind
theorem CR.r57 (h : CR th n l m g q fw tt r u s) {k : Nat} {w : Option Nat} : CR th n l m g q fw tt r (sR u 57 k w) (s) := by
  obtain ⟨hF, hV, hA, hH, hB, hK, hS, hW, hX, hE, hN, hI, hL, hG, hC⟩ := h
  refine ⟨?_, hV, ?_, ?_, ?_, ?_, ?_, ?_, ?_, ?_, ?_, ?_, ?_, ?_, ?_⟩
  · unfold cF at hF ⊢; unfold cV at hV; (try unfold sI); (try unfold sR); (try unfold nS); clear hA hH hB hK hS hW hX hE hN hI hL hG hC; grind
  · unfold cA at hA ⊢; unfold cV at hV; (try unfold sI); (try unfold sR); (try unfold nS); clear hF hH hB hK hS hW hX hE hN hI hL hG hC; grind
  · unfold cH at hH ⊢; unfold cV at hV; (try unfold sI); (try unfold sR); (try unfold nS); clear hF hA hB hK hS hW hX hE hN hI hL hG hC; grind
  · unfold cB at hB ⊢; unfold cV at hV; (try unfold sI); (try unfold sR); (try unfold nS); clear hF hA hH hK hS hW hX hE hN hI hL hG hC; grind
  · unfold cK at hK ⊢; unfold cV at hV; (try unfold sI); (try unfold sR); (try unfold nS); clear hF hA hH hB hS hW hX hE hN hI hL hG hC; grind
  · unfold cS at hS ⊢; unfold cV at hV; (try unfold sI); (try unfold sR); (try unfold nS); clear hF hA hH hB hK hW hX hE hN hI hL hG hC; grind
  · unfold cW at hW ⊢; unfold cV at hV; (try unfold sI); (try unfold sR); (try unfold nS); clear hF hA hH hB hK hS hX hE hN hI hL hG hC; grind
  · unfold cX at hX ⊢; unfold cV at hV; (try unfold sI); (try unfold sR); (try unfold nS); clear hF hA hH hB hK hS hW hE hN hI hL hG hC; grind
  · unfold cE at hE ⊢; unfold cV at hV; (try unfold sI); (try unfold sR); (try unfold nS); clear hF hA hH hB hK hS hW hX hN hI hL hG hC; grind
  · unfold cN at hN ⊢; unfold cV at hV; (try unfold sI); (try unfold sR); (try unfold nS); clear hF hA hH hB hK hS hW hX hE hI hL hG hC; grind
  · unfold cI at hI ⊢; unfold cV at hV; (try unfold sI); (try unfold sR); (try unfold nS); clear hF hA hH hB hK hS hW hX hE hN hL hG hC; grind
  · unfold cL at hL ⊢; unfold cV at hV; (try unfold sI); (try unfold sR); (try unfold nS); clear hF hA hH hB hK hS hW hX hE hN hI hG hC; grind
  · unfold cG at hG ⊢; unfold cV at hV; (try unfold sI); (try unfold sR); (try unfold nS); clear hF hA hH hB hK hS hW hX hE hN hI hL hC; grind
  · unfold cC at hC ⊢; unfold cV at hV; (try unfold sI); (try unfold sR); (try unfold nS); clear hF hA hH hB hK hS hW hX hE hN hI hL hG; grind
theorem CR.r58 (h : CR th n l m g q fw tt r u s) {w : Int32} : CR th n l m g q fw tt r (sI u 58 1 w) (s) := by
  obtain ⟨hF, hV, hA, hH, hB, hK, hS, hW, hX, hE, hN, hI, hL, hG, hC⟩ := h
  refine ⟨?_, hV, ?_, ?_, ?_, ?_, ?_, ?_, ?_, ?_, ?_, ?_, ?_, ?_, ?_⟩
  · unfold cF at hF ⊢; unfold cV at hV; (try unfold sI); (try unfold sR); (try unfold nS); clear hA hH hB hK hS hW hX hE hN hI hL hG hC; grind
  · unfold cA at hA ⊢; intro o1 t1 h1; have h2 := (hV o1 t1 h1).1; have h3 := hA o1 t1 h1; have h4 : t1 ≠ 58 := (by omega); (try unfold sI); (try unfold nS); clear hV hF hA hH hB hK hS hW hX hE hN hI hL hG hC; grind
  · unfold cH at hH ⊢; unfold cV at hV; (try unfold sI); (try unfold sR); (try unfold nS); clear hF hA hB hK hS hW hX hE hN hI hL hG hC; grind
  · unfold cB at hB ⊢; unfold cV at hV; (try unfold sI); (try unfold sR); (try unfold nS); clear hF hA hH hK hS hW hX hE hN hI hL hG hC; grind
  · unfold cK at hK ⊢; unfold cV at hV; (try unfold sI); (try unfold sR); (try unfold nS); clear hF hA hH hB hS hW hX hE hN hI hL hG hC; grind
  · unfold cS at hS ⊢; unfold cV at hV; (try unfold sI); (try unfold sR); (try unfold nS); clear hF hA hH hB hK hW hX hE hN hI hL hG hC; grind
  · unfold cW at hW ⊢; unfold cV at hV; (try unfold sI); (try unfold sR); (try unfold nS); clear hF hA hH hB hK hS hX hE hN hI hL hG hC; grind
  · unfold cX at hX ⊢; unfold cV at hV; (try unfold sI); (try unfold sR); (try unfold nS); clear hF hA hH hB hK hS hW hE hN hI hL hG hC; grind
  · unfold cE at hE ⊢; unfold cV at hV; (try unfold sI); (try unfold sR); (try unfold nS); clear hF hA hH hB hK hS hW hX hN hI hL hG hC; grind
  · unfold cN at hN ⊢; unfold cV at hV; (try unfold sI); (try unfold sR); (try unfold nS); clear hF hA hH hB hK hS hW hX hE hI hL hG hC; grind
  · unfold cI at hI ⊢; unfold cV at hV; (try unfold sI); (try unfold sR); (try unfold nS); clear hF hA hH hB hK hS hW hX hE hN hL hG hC; grind
  · unfold cL at hL ⊢; unfold cV at hV; (try unfold sI); (try unfold sR); (try unfold nS); clear hF hA hH hB hK hS hW hX hE hN hI hG hC; grind
  · unfold cG at hG ⊢; unfold cV at hV; (try unfold sI); (try unfold sR); (try unfold nS); clear hF hA hH hB hK hS hW hX hE hN hI hL hC; grind
  · unfold cC at hC ⊢; unfold cV at hV; (try unfold sI); (try unfold sR); (try unfold nS); clear hF hA hH hB hK hS hW hX hE hN hI hL hG; grind
theorem CR.r59 (h : CR th n l m g q fw tt r u s) {k : Nat} {w : Option Nat} : CR th n l m g q fw tt r (sR u 59 k w) (s) := by
  obtain ⟨hF, hV, hA, hH, hB, hK, hS, hW, hX, hE, hN, hI, hL, hG, hC⟩ := h
  refine ⟨?_, hV, ?_, ?_, ?_, ?_, ?_, ?_, ?_, ?_, ?_, ?_, ?_, ?_, ?_⟩
  · unfold cF at hF ⊢; unfold cV at hV; (try unfold sI); (try unfold sR); (try unfold nS); clear hA hH hB hK hS hW hX hE hN hI hL hG hC; grind
  · unfold cA at hA ⊢; unfold cV at hV; (try unfold sI); (try unfold sR); (try unfold nS); clear hF hH hB hK hS hW hX hE hN hI hL hG hC; grind
  · unfold cH at hH ⊢; unfold cV at hV; (try unfold sI); (try unfold sR); (try unfold nS); clear hF hA hB hK hS hW hX hE hN hI hL hG hC; grind
  · unfold cB at hB ⊢; unfold cV at hV; (try unfold sI); (try unfold sR); (try unfold nS); clear hF hA hH hK hS hW hX hE hN hI hL hG hC; grind
  · unfold cK at hK ⊢; unfold cV at hV; (try unfold sI); (try unfold sR); (try unfold nS); clear hF hA hH hB hS hW hX hE hN hI hL hG hC; grind
  · unfold cS at hS ⊢; unfold cV at hV; (try unfold sI); (try unfold sR); (try unfold nS); clear hF hA hH hB hK hW hX hE hN hI hL hG hC; grind
  · unfold cW at hW ⊢; unfold cV at hV; (try unfold sI); (try unfold sR); (try unfold nS); clear hF hA hH hB hK hS hX hE hN hI hL hG hC; grind
  · unfold cX at hX ⊢; unfold cV at hV; (try unfold sI); (try unfold sR); (try unfold nS); clear hF hA hH hB hK hS hW hE hN hI hL hG hC; grind
  · unfold cE at hE ⊢; unfold cV at hV; (try unfold sI); (try unfold sR); (try unfold nS); clear hF hA hH hB hK hS hW hX hN hI hL hG hC; grind
  · unfold cN at hN ⊢; unfold cV at hV; (try unfold sI); (try unfold sR); (try unfold nS); clear hF hA hH hB hK hS hW hX hE hI hL hG hC; grind
  · unfold cI at hI ⊢; unfold cV at hV; (try unfold sI); (try unfold sR); (try unfold nS); clear hF hA hH hB hK hS hW hX hE hN hL hG hC; grind
  · unfold cL at hL ⊢; unfold cV at hV; (try unfold sI); (try unfold sR); (try unfold nS); clear hF hA hH hB hK hS hW hX hE hN hI hG hC; grind
  · unfold cG at hG ⊢; unfold cV at hV; (try unfold sI); (try unfold sR); (try unfold nS); clear hF hA hH hB hK hS hW hX hE hN hI hL hC; grind
  · unfold cC at hC ⊢; unfold cV at hV; (try unfold sI); (try unfold sR); (try unfold nS); clear hF hA hH hB hK hS hW hX hE hN hI hL hG; grind
theorem CR.push (h : CR th n l m g q fw tt r u s) (ht : th o = some t) (hm : m < 80) : CR th n l (m + 1) (fun j => if j = m then o else g j) q fw tt r (sI (sR u 50 m (some t)) 49 1 (i3 (m + 1))) (s) := by
  obtain ⟨hF, hV, hA, hH, hB, hK, hS, hW, hX, hE, hN, hI, hL, hG, hC⟩ := h
  obtain ⟨h70, h4, h80, hj⟩ := hV o t ht
  refine ⟨?_, hV, ?_, ?_, ?_, ?_, ?_, ?_, ?_, ?_, ?_, ?_, ?_, ?_, ?_⟩
  · unfold cF at hF ⊢; unfold cV at hV; (try unfold sI); (try unfold sR); (try unfold nS); clear hA hH hB hK hS hW hX hE hN hI hL hG hC; grind
  · unfold cA at hA ⊢; unfold cV at hV; (try unfold sI); (try unfold sR); (try unfold nS); clear hF hH hB hK hS hW hX hE hN hI hL hG hC; grind
  · unfold cH at hH ⊢; unfold cV at hV; (try unfold sI); (try unfold sR); (try unfold nS); clear hF hA hB hK hS hW hX hE hN hI hL hG hC; grind
  · unfold cB at hB ⊢; unfold cV at hV; (try unfold sI); (try unfold sR); (try unfold nS); clear hF hA hH hK hS hW hX hE hN hI hL hG hC; grind
  · unfold cK at hK ⊢; unfold cV at hV; (try unfold sI); (try unfold sR); (try unfold nS); clear hF hA hH hB hS hW hX hE hN hI hL hG hC; grind
  · unfold cS at hS ⊢; unfold cV at hV; (try unfold sI); (try unfold sR); (try unfold nS); clear hF hA hH hB hK hW hX hE hN hI hL hG hC; grind
  · unfold cW at hW ⊢; unfold cV at hV; (try unfold sI); (try unfold sR); (try unfold nS); clear hF hA hH hB hK hS hX hE hN hI hL hG hC; grind
  · unfold cX at hX ⊢; unfold cV at hV; (try unfold sI); (try unfold sR); (try unfold nS); clear hF hA hH hB hK hS hW hE hN hI hL hG hC; grind
  · unfold cE at hE ⊢; unfold cV at hV; (try unfold sI); (try unfold sR); (try unfold nS); clear hF hA hH hB hK hS hW hX hN hI hL hG hC; grind
  · unfold cN at hN ⊢; unfold cV at hV; (try unfold sI); (try unfold sR); (try unfold nS); clear hF hA hH hB hK hS hW hX hE hI hL hG hC; grind
  · unfold cI at hI ⊢; unfold cV at hV; (try unfold sI); (try unfold sR); (try unfold nS); clear hF hA hH hB hK hS hW hX hE hN hL hG hC; grind
  · unfold cL at hL ⊢; unfold cV at hV; (try unfold sI); (try unfold sR); (try unfold nS); clear hF hA hH hB hK hS hW hX hE hN hI hG hC; grind
  · unfold cG at hG ⊢; unfold cV at hV; (try unfold sI); (try unfold sR); (try unfold nS); clear hF hA hH hB hK hS hW hX hE hN hI hL hC; grind
  · unfold cC at hC ⊢; unfold cV at hV; (try unfold sI); (try unfold sR); (try unfold nS); clear hF hA hH hB hK hS hW hX hE hN hI hL hG; grind
theorem CR.pop (h : CR th n l m g q fw tt r u s) (hm : 0 < m) : CR th n l (m - 1) g q fw tt r (sI u 49 1 (i3 (m - 1))) (s) := by
  obtain ⟨hF, hV, hA, hH, hB, hK, hS, hW, hX, hE, hN, hI, hL, hG, hC⟩ := h
  refine ⟨?_, hV, ?_, ?_, ?_, ?_, ?_, ?_, ?_, ?_, ?_, ?_, ?_, ?_, ?_⟩
  · unfold cF at hF ⊢; unfold cV at hV; (try unfold sI); (try unfold sR); (try unfold nS); clear hA hH hB hK hS hW hX hE hN hI hL hG hC; grind
  · unfold cA at hA ⊢; unfold cV at hV; (try unfold sI); (try unfold sR); (try unfold nS); clear hF hH hB hK hS hW hX hE hN hI hL hG hC; grind
  · unfold cH at hH ⊢; unfold cV at hV; (try unfold sI); (try unfold sR); (try unfold nS); clear hF hA hB hK hS hW hX hE hN hI hL hG hC; grind
  · unfold cB at hB ⊢; unfold cV at hV; (try unfold sI); (try unfold sR); (try unfold nS); clear hF hA hH hK hS hW hX hE hN hI hL hG hC; grind
  · unfold cK at hK ⊢; unfold cV at hV; (try unfold sI); (try unfold sR); (try unfold nS); clear hF hA hH hB hS hW hX hE hN hI hL hG hC; grind
  · unfold cS at hS ⊢; unfold cV at hV; (try unfold sI); (try unfold sR); (try unfold nS); clear hF hA hH hB hK hW hX hE hN hI hL hG hC; grind
  · unfold cW at hW ⊢; unfold cV at hV; (try unfold sI); (try unfold sR); (try unfold nS); clear hF hA hH hB hK hS hX hE hN hI hL hG hC; grind
  · unfold cX at hX ⊢; unfold cV at hV; (try unfold sI); (try unfold sR); (try unfold nS); clear hF hA hH hB hK hS hW hE hN hI hL hG hC; grind
  · unfold cE at hE ⊢; unfold cV at hV; (try unfold sI); (try unfold sR); (try unfold nS); clear hF hA hH hB hK hS hW hX hN hI hL hG hC; grind
  · unfold cN at hN ⊢; unfold cV at hV; (try unfold sI); (try unfold sR); (try unfold nS); clear hF hA hH hB hK hS hW hX hE hI hL hG hC; grind
  · unfold cI at hI ⊢; unfold cV at hV; (try unfold sI); (try unfold sR); (try unfold nS); clear hF hA hH hB hK hS hW hX hE hN hL hG hC; grind
  · unfold cL at hL ⊢; unfold cV at hV; (try unfold sI); (try unfold sR); (try unfold nS); clear hF hA hH hB hK hS hW hX hE hN hI hG hC; grind
  · unfold cG at hG ⊢; unfold cV at hV; (try unfold sI); (try unfold sR); (try unfold nS); clear hF hA hH hB hK hS hW hX hE hN hI hL hC; grind
  · unfold cC at hC ⊢; unfold cV at hV; (try unfold sI); (try unfold sR); (try unfold nS); clear hF hA hH hB hK hS hW hX hE hN hI hL hG; grind
theorem CR.lpush (h : CR th n l m g q fw tt r u s) (ht : th o = some t) (hm : n < 80) : CR th (n + 1) (fun j => if j = n then o else l j) m g q fw tt r (sI (sR u 52 n (some t)) 51 1 (i3 (n + 1))) (s) := by
  obtain ⟨hF, hV, hA, hH, hB, hK, hS, hW, hX, hE, hN, hI, hL, hG, hC⟩ := h
  obtain ⟨h70, h4, h80, hj⟩ := hV o t ht
  refine ⟨?_, hV, ?_, ?_, ?_, ?_, ?_, ?_, ?_, ?_, ?_, ?_, ?_, ?_, ?_⟩
  · unfold cF at hF ⊢; unfold cV at hV; (try unfold sI); (try unfold sR); (try unfold nS); clear hA hH hB hK hS hW hX hE hN hI hL hG hC; grind
  · unfold cA at hA ⊢; unfold cV at hV; (try unfold sI); (try unfold sR); (try unfold nS); clear hF hH hB hK hS hW hX hE hN hI hL hG hC; grind
  · unfold cH at hH ⊢; unfold cV at hV; (try unfold sI); (try unfold sR); (try unfold nS); clear hF hA hB hK hS hW hX hE hN hI hL hG hC; grind
  · unfold cB at hB ⊢; unfold cV at hV; (try unfold sI); (try unfold sR); (try unfold nS); clear hF hA hH hK hS hW hX hE hN hI hL hG hC; grind
  · unfold cK at hK ⊢; unfold cV at hV; (try unfold sI); (try unfold sR); (try unfold nS); clear hF hA hH hB hS hW hX hE hN hI hL hG hC; grind
  · unfold cS at hS ⊢; unfold cV at hV; (try unfold sI); (try unfold sR); (try unfold nS); clear hF hA hH hB hK hW hX hE hN hI hL hG hC; grind
  · unfold cW at hW ⊢; unfold cV at hV; (try unfold sI); (try unfold sR); (try unfold nS); clear hF hA hH hB hK hS hX hE hN hI hL hG hC; grind
  · unfold cX at hX ⊢; unfold cV at hV; (try unfold sI); (try unfold sR); (try unfold nS); clear hF hA hH hB hK hS hW hE hN hI hL hG hC; grind
  · unfold cE at hE ⊢; unfold cV at hV; (try unfold sI); (try unfold sR); (try unfold nS); clear hF hA hH hB hK hS hW hX hN hI hL hG hC; grind
  · unfold cN at hN ⊢; unfold cV at hV; (try unfold sI); (try unfold sR); (try unfold nS); clear hF hA hH hB hK hS hW hX hE hI hL hG hC; grind
  · unfold cI at hI ⊢; unfold cV at hV; (try unfold sI); (try unfold sR); (try unfold nS); clear hF hA hH hB hK hS hW hX hE hN hL hG hC; grind
  · unfold cL at hL ⊢; unfold cV at hV; (try unfold sI); (try unfold sR); (try unfold nS); clear hF hA hH hB hK hS hW hX hE hN hI hG hC; grind
  · unfold cG at hG ⊢; unfold cV at hV; (try unfold sI); (try unfold sR); (try unfold nS); clear hF hA hH hB hK hS hW hX hE hN hI hL hC; grind
  · unfold cC at hC ⊢; unfold cV at hV; (try unfold sI); (try unfold sR); (try unfold nS); clear hF hA hH hB hK hS hW hX hE hN hI hL hG; grind
theorem CR.lclear (h : CR th n l m g q fw tt r u s)  : CR th 0 l m g q fw tt r (sI u 51 1 0) (s) := by
  obtain ⟨hF, hV, hA, hH, hB, hK, hS, hW, hX, hE, hN, hI, hL, hG, hC⟩ := h
  have e0 : (0 : Int32) = i3 0 := rfl
  refine ⟨?_, hV, ?_, ?_, ?_, ?_, ?_, ?_, ?_, ?_, ?_, ?_, ?_, ?_, ?_⟩
  · unfold cF at hF ⊢; unfold cV at hV; (try unfold sI); (try unfold sR); (try unfold nS); clear hA hH hB hK hS hW hX hE hN hI hL hG hC; grind
  · unfold cA at hA ⊢; unfold cV at hV; (try unfold sI); (try unfold sR); (try unfold nS); clear hF hH hB hK hS hW hX hE hN hI hL hG hC; grind
  · unfold cH at hH ⊢; unfold cV at hV; (try unfold sI); (try unfold sR); (try unfold nS); clear hF hA hB hK hS hW hX hE hN hI hL hG hC; grind
  · unfold cB at hB ⊢; unfold cV at hV; (try unfold sI); (try unfold sR); (try unfold nS); clear hF hA hH hK hS hW hX hE hN hI hL hG hC; grind
  · unfold cK at hK ⊢; unfold cV at hV; (try unfold sI); (try unfold sR); (try unfold nS); clear hF hA hH hB hS hW hX hE hN hI hL hG hC; grind
  · unfold cS at hS ⊢; unfold cV at hV; (try unfold sI); (try unfold sR); (try unfold nS); clear hF hA hH hB hK hW hX hE hN hI hL hG hC; grind
  · unfold cW at hW ⊢; unfold cV at hV; (try unfold sI); (try unfold sR); (try unfold nS); clear hF hA hH hB hK hS hX hE hN hI hL hG hC; grind
  · unfold cX at hX ⊢; unfold cV at hV; (try unfold sI); (try unfold sR); (try unfold nS); clear hF hA hH hB hK hS hW hE hN hI hL hG hC; grind
  · unfold cE at hE ⊢; unfold cV at hV; (try unfold sI); (try unfold sR); (try unfold nS); clear hF hA hH hB hK hS hW hX hN hI hL hG hC; grind
  · unfold cN at hN ⊢; unfold cV at hV; (try unfold sI); (try unfold sR); (try unfold nS); clear hF hA hH hB hK hS hW hX hE hI hL hG hC; grind
  · unfold cI at hI ⊢; unfold cV at hV; (try unfold sI); (try unfold sR); (try unfold nS); clear hF hA hH hB hK hS hW hX hE hN hL hG hC; grind
  · unfold cL at hL ⊢; unfold cV at hV; (try unfold sI); (try unfold sR); (try unfold nS); clear hF hA hH hB hK hS hW hX hE hN hI hG hC; grind
  · unfold cG at hG ⊢; unfold cV at hV; (try unfold sI); (try unfold sR); (try unfold nS); clear hF hA hH hB hK hS hW hX hE hN hI hL hC; grind
  · unfold cC at hC ⊢; unfold cV at hV; (try unfold sI); (try unfold sR); (try unfold nS); clear hF hA hH hB hK hS hW hX hE hN hI hL hG; grind
theorem CR.wpush (h : CR th n l m g q fw tt r u s) (ht : th o = some t) : CR th n l m g q fw tt r (sI (sR u 54 (s 0 17) (some t)) 53 1 (i3 (s 0 17 + 1))) (nS (nS s 16 (s 0 17) o) 0 17 (s 0 17 + 1)) := by
  obtain ⟨hF, hV, hA, hH, hB, hK, hS, hW, hX, hE, hN, hI, hL, hG, hC⟩ := h
  obtain ⟨h70, h4, h80, hj⟩ := hV o t ht
  refine ⟨?_, hV, ?_, ?_, ?_, ?_, ?_, ?_, ?_, ?_, ?_, ?_, ?_, ?_, ?_⟩
  · unfold cF at hF ⊢; unfold cV at hV; (try unfold sI); (try unfold sR); (try unfold nS); clear hA hH hB hK hS hW hX hE hN hI hL hG hC; grind
  · unfold cA at hA ⊢; unfold cV at hV; (try unfold sI); (try unfold sR); (try unfold nS); clear hF hH hB hK hS hW hX hE hN hI hL hG hC; grind
  · unfold cH at hH ⊢; unfold cV at hV; (try unfold sI); (try unfold sR); (try unfold nS); clear hF hA hB hK hS hW hX hE hN hI hL hG hC; grind
  · unfold cB at hB ⊢; unfold cV at hV; (try unfold sI); (try unfold sR); (try unfold nS); clear hF hA hH hK hS hW hX hE hN hI hL hG hC; grind
  · unfold cK at hK ⊢; unfold cV at hV; (try unfold sI); (try unfold sR); (try unfold nS); clear hF hA hH hB hS hW hX hE hN hI hL hG hC; grind
  · unfold cS at hS ⊢; unfold cV at hV; (try unfold sI); (try unfold sR); (try unfold nS); clear hF hA hH hB hK hW hX hE hN hI hL hG hC; grind
  · unfold cW at hW ⊢; unfold cV at hV; (try unfold sI); (try unfold sR); (try unfold nS); clear hF hA hH hB hK hS hX hE hN hI hL hG hC; grind
  · unfold cX at hX ⊢; unfold cV at hV; (try unfold sI); (try unfold sR); (try unfold nS); clear hF hA hH hB hK hS hW hE hN hI hL hG hC; grind
  · unfold cE at hE ⊢; unfold cV at hV; (try unfold sI); (try unfold sR); (try unfold nS); clear hF hA hH hB hK hS hW hX hN hI hL hG hC; grind
  · unfold cN at hN ⊢; unfold cV at hV; (try unfold sI); (try unfold sR); (try unfold nS); clear hF hA hH hB hK hS hW hX hE hI hL hG hC; grind
  · unfold cI at hI ⊢; unfold cV at hV; (try unfold sI); (try unfold sR); (try unfold nS); clear hF hA hH hB hK hS hW hX hE hN hL hG hC; grind
  · unfold cL at hL ⊢; unfold cV at hV; (try unfold sI); (try unfold sR); (try unfold nS); clear hF hA hH hB hK hS hW hX hE hN hI hG hC; grind
  · unfold cG at hG ⊢; unfold cV at hV; (try unfold sI); (try unfold sR); (try unfold nS); clear hF hA hH hB hK hS hW hX hE hN hI hL hC; grind
  · unfold cC at hC ⊢; unfold cV at hV; (try unfold sI); (try unfold sR); (try unfold nS); clear hF hA hH hB hK hS hW hX hE hN hI hL hG; grind
theorem CR.s14 (h : CR th n l m g q fw tt r u s) {k : Nat} : CR th n l m g q fw tt r (u) (nS s 14 k v) := by
  obtain ⟨hF, hV, hA, hH, hB, hK, hS, hW, hX, hE, hN, hI, hL, hG, hC⟩ := h
  refine ⟨?_, hV, ?_, ?_, ?_, ?_, ?_, ?_, ?_, ?_, ?_, ?_, ?_, ?_, ?_⟩
  · unfold cF at hF ⊢; unfold cV at hV; (try unfold sI); (try unfold sR); (try unfold nS); clear hA hH hB hK hS hW hX hE hN hI hL hG hC; grind
  · unfold cA at hA ⊢; unfold cV at hV; (try unfold sI); (try unfold sR); (try unfold nS); clear hF hH hB hK hS hW hX hE hN hI hL hG hC; grind
  · unfold cH at hH ⊢; unfold cV at hV; (try unfold sI); (try unfold sR); (try unfold nS); clear hF hA hB hK hS hW hX hE hN hI hL hG hC; grind
  · unfold cB at hB ⊢; unfold cV at hV; (try unfold sI); (try unfold sR); (try unfold nS); clear hF hA hH hK hS hW hX hE hN hI hL hG hC; grind
  · unfold cK at hK ⊢; unfold cV at hV; (try unfold sI); (try unfold sR); (try unfold nS); clear hF hA hH hB hS hW hX hE hN hI hL hG hC; grind
  · unfold cS at hS ⊢; unfold cV at hV; (try unfold sI); (try unfold sR); (try unfold nS); clear hF hA hH hB hK hW hX hE hN hI hL hG hC; grind
  · unfold cW at hW ⊢; unfold cV at hV; (try unfold sI); (try unfold sR); (try unfold nS); clear hF hA hH hB hK hS hX hE hN hI hL hG hC; grind
  · unfold cX at hX ⊢; unfold cV at hV; (try unfold sI); (try unfold sR); (try unfold nS); clear hF hA hH hB hK hS hW hE hN hI hL hG hC; grind
  · unfold cE at hE ⊢; unfold cV at hV; (try unfold sI); (try unfold sR); (try unfold nS); clear hF hA hH hB hK hS hW hX hN hI hL hG hC; grind
  · unfold cN at hN ⊢; unfold cV at hV; (try unfold sI); (try unfold sR); (try unfold nS); clear hF hA hH hB hK hS hW hX hE hI hL hG hC; grind
  · unfold cI at hI ⊢; unfold cV at hV; (try unfold sI); (try unfold sR); (try unfold nS); clear hF hA hH hB hK hS hW hX hE hN hL hG hC; grind
  · unfold cL at hL ⊢; unfold cV at hV; (try unfold sI); (try unfold sR); (try unfold nS); clear hF hA hH hB hK hS hW hX hE hN hI hG hC; grind
  · unfold cG at hG ⊢; unfold cV at hV; (try unfold sI); (try unfold sR); (try unfold nS); clear hF hA hH hB hK hS hW hX hE hN hI hL hC; grind
  · unfold cC at hC ⊢; unfold cV at hV; (try unfold sI); (try unfold sR); (try unfold nS); clear hF hA hH hB hK hS hW hX hE hN hI hL hG; grind
theorem CR.s15 (h : CR th n l m g q fw tt r u s)  : CR th n l m g q fw tt r (u) (nS s 0 15 v) := by
  obtain ⟨hF, hV, hA, hH, hB, hK, hS, hW, hX, hE, hN, hI, hL, hG, hC⟩ := h
  refine ⟨?_, hV, ?_, ?_, ?_, ?_, ?_, ?_, ?_, ?_, ?_, ?_, ?_, ?_, ?_⟩
  · unfold cF at hF ⊢; unfold cV at hV; (try unfold sI); (try unfold sR); (try unfold nS); clear hA hH hB hK hS hW hX hE hN hI hL hG hC; grind
  · unfold cA at hA ⊢; unfold cV at hV; (try unfold sI); (try unfold sR); (try unfold nS); clear hF hH hB hK hS hW hX hE hN hI hL hG hC; grind
  · unfold cH at hH ⊢; unfold cV at hV; (try unfold sI); (try unfold sR); (try unfold nS); clear hF hA hB hK hS hW hX hE hN hI hL hG hC; grind
  · unfold cB at hB ⊢; unfold cV at hV; (try unfold sI); (try unfold sR); (try unfold nS); clear hF hA hH hK hS hW hX hE hN hI hL hG hC; grind
  · unfold cK at hK ⊢; unfold cV at hV; (try unfold sI); (try unfold sR); (try unfold nS); clear hF hA hH hB hS hW hX hE hN hI hL hG hC; grind
  · unfold cS at hS ⊢; unfold cV at hV; (try unfold sI); (try unfold sR); (try unfold nS); clear hF hA hH hB hK hW hX hE hN hI hL hG hC; grind
  · unfold cW at hW ⊢; unfold cV at hV; (try unfold sI); (try unfold sR); (try unfold nS); clear hF hA hH hB hK hS hX hE hN hI hL hG hC; grind
  · unfold cX at hX ⊢; unfold cV at hV; (try unfold sI); (try unfold sR); (try unfold nS); clear hF hA hH hB hK hS hW hE hN hI hL hG hC; grind
  · unfold cE at hE ⊢; unfold cV at hV; (try unfold sI); (try unfold sR); (try unfold nS); clear hF hA hH hB hK hS hW hX hN hI hL hG hC; grind
  · unfold cN at hN ⊢; unfold cV at hV; (try unfold sI); (try unfold sR); (try unfold nS); clear hF hA hH hB hK hS hW hX hE hI hL hG hC; grind
  · unfold cI at hI ⊢; unfold cV at hV; (try unfold sI); (try unfold sR); (try unfold nS); clear hF hA hH hB hK hS hW hX hE hN hL hG hC; grind
  · unfold cL at hL ⊢; unfold cV at hV; (try unfold sI); (try unfold sR); (try unfold nS); clear hF hA hH hB hK hS hW hX hE hN hI hG hC; grind
  · unfold cG at hG ⊢; unfold cV at hV; (try unfold sI); (try unfold sR); (try unfold nS); clear hF hA hH hB hK hS hW hX hE hN hI hL hC; grind
  · unfold cC at hC ⊢; unfold cV at hV; (try unfold sI); (try unfold sR); (try unfold nS); clear hF hA hH hB hK hS hW hX hE hN hI hL hG; grind
theorem CR.s00 (h : CR th n l m g q fw tt r u s)  : CR th n l m g q fw tt r (u) (nS s 0 0 v) := by
  obtain ⟨hF, hV, hA, hH, hB, hK, hS, hW, hX, hE, hN, hI, hL, hG, hC⟩ := h
  refine ⟨?_, hV, ?_, ?_, ?_, ?_, ?_, ?_, ?_, ?_, ?_, ?_, ?_, ?_, ?_⟩
  · unfold cF at hF ⊢; unfold cV at hV; (try unfold sI); (try unfold sR); (try unfold nS); clear hA hH hB hK hS hW hX hE hN hI hL hG hC; grind
  · unfold cA at hA ⊢; unfold cV at hV; (try unfold sI); (try unfold sR); (try unfold nS); clear hF hH hB hK hS hW hX hE hN hI hL hG hC; grind
  · unfold cH at hH ⊢; unfold cV at hV; (try unfold sI); (try unfold sR); (try unfold nS); clear hF hA hB hK hS hW hX hE hN hI hL hG hC; grind
  · unfold cB at hB ⊢; unfold cV at hV; (try unfold sI); (try unfold sR); (try unfold nS); clear hF hA hH hK hS hW hX hE hN hI hL hG hC; grind
  · unfold cK at hK ⊢; unfold cV at hV; (try unfold sI); (try unfold sR); (try unfold nS); clear hF hA hH hB hS hW hX hE hN hI hL hG hC; grind
  · unfold cS at hS ⊢; unfold cV at hV; (try unfold sI); (try unfold sR); (try unfold nS); clear hF hA hH hB hK hW hX hE hN hI hL hG hC; grind
  · unfold cW at hW ⊢; unfold cV at hV; (try unfold sI); (try unfold sR); (try unfold nS); clear hF hA hH hB hK hS hX hE hN hI hL hG hC; grind
  · unfold cX at hX ⊢; unfold cV at hV; (try unfold sI); (try unfold sR); (try unfold nS); clear hF hA hH hB hK hS hW hE hN hI hL hG hC; grind
  · unfold cE at hE ⊢; unfold cV at hV; (try unfold sI); (try unfold sR); (try unfold nS); clear hF hA hH hB hK hS hW hX hN hI hL hG hC; grind
  · unfold cN at hN ⊢; unfold cV at hV; (try unfold sI); (try unfold sR); (try unfold nS); clear hF hA hH hB hK hS hW hX hE hI hL hG hC; grind
  · unfold cI at hI ⊢; unfold cV at hV; (try unfold sI); (try unfold sR); (try unfold nS); clear hF hA hH hB hK hS hW hX hE hN hL hG hC; grind
  · unfold cL at hL ⊢; unfold cV at hV; (try unfold sI); (try unfold sR); (try unfold nS); clear hF hA hH hB hK hS hW hX hE hN hI hG hC; grind
  · unfold cG at hG ⊢; unfold cV at hV; (try unfold sI); (try unfold sR); (try unfold nS); clear hF hA hH hB hK hS hW hX hE hN hI hL hC; grind
  · unfold cC at hC ⊢; unfold cV at hV; (try unfold sI); (try unfold sR); (try unfold nS); clear hF hA hH hB hK hS hW hX hE hN hI hL hG; grind
theorem CR.n20 (h : CR th n l m g q fw tt r u s)  : CR th n l m g q fw tt r (sI u 42 5 (i3 v)) (nS s 0 20 v) := by
  obtain ⟨hF, hV, hA, hH, hB, hK, hS, hW, hX, hE, hN, hI, hL, hG, hC⟩ := h
  refine ⟨?_, hV, ?_, ?_, ?_, ?_, ?_, ?_, ?_, ?_, ?_, ?_, ?_, ?_, ?_⟩
  · unfold cF at hF ⊢; unfold cV at hV; (try unfold sI); (try unfold sR); (try unfold nS); clear hA hH hB hK hS hW hX hE hN hI hL hG hC; grind
  · unfold cA at hA ⊢; unfold cV at hV; (try unfold sI); (try unfold sR); (try unfold nS); clear hF hH hB hK hS hW hX hE hN hI hL hG hC; grind
  · unfold cH at hH ⊢; unfold cV at hV; (try unfold sI); (try unfold sR); (try unfold nS); clear hF hA hB hK hS hW hX hE hN hI hL hG hC; grind
  · unfold cB at hB ⊢; unfold cV at hV; (try unfold sI); (try unfold sR); (try unfold nS); clear hF hA hH hK hS hW hX hE hN hI hL hG hC; grind
  · unfold cK at hK ⊢; unfold cV at hV; (try unfold sI); (try unfold sR); (try unfold nS); clear hF hA hH hB hS hW hX hE hN hI hL hG hC; grind
  · unfold cS at hS ⊢; unfold cV at hV; (try unfold sI); (try unfold sR); (try unfold nS); clear hF hA hH hB hK hW hX hE hN hI hL hG hC; grind
  · unfold cW at hW ⊢; unfold cV at hV; (try unfold sI); (try unfold sR); (try unfold nS); clear hF hA hH hB hK hS hX hE hN hI hL hG hC; grind
  · unfold cX at hX ⊢; unfold cV at hV; (try unfold sI); (try unfold sR); (try unfold nS); clear hF hA hH hB hK hS hW hE hN hI hL hG hC; grind
  · unfold cE at hE ⊢; unfold cV at hV; (try unfold sI); (try unfold sR); (try unfold nS); clear hF hA hH hB hK hS hW hX hN hI hL hG hC; grind
  · unfold cN at hN ⊢; unfold cV at hV; (try unfold sI); (try unfold sR); (try unfold nS); clear hF hA hH hB hK hS hW hX hE hI hL hG hC; grind
  · unfold cI at hI ⊢; unfold cV at hV; (try unfold sI); (try unfold sR); (try unfold nS); clear hF hA hH hB hK hS hW hX hE hN hL hG hC; grind
  · unfold cL at hL ⊢; unfold cV at hV; (try unfold sI); (try unfold sR); (try unfold nS); clear hF hA hH hB hK hS hW hX hE hN hI hG hC; grind
  · unfold cG at hG ⊢; unfold cV at hV; (try unfold sI); (try unfold sR); (try unfold nS); clear hF hA hH hB hK hS hW hX hE hN hI hL hC; grind
  · unfold cC at hC ⊢; unfold cV at hV; (try unfold sI); (try unfold sR); (try unfold nS); clear hF hA hH hB hK hS hW hX hE hN hI hL hG; grind
theorem CR.n21 (h : CR th n l m g q fw tt r u s)  : CR th n l m g q fw tt r (sI u 55 4 (i3 v)) (nS s 0 21 v) := by
  obtain ⟨hF, hV, hA, hH, hB, hK, hS, hW, hX, hE, hN, hI, hL, hG, hC⟩ := h
  refine ⟨?_, hV, ?_, ?_, ?_, ?_, ?_, ?_, ?_, ?_, ?_, ?_, ?_, ?_, ?_⟩
  · unfold cF at hF ⊢; unfold cV at hV; (try unfold sI); (try unfold sR); (try unfold nS); clear hA hH hB hK hS hW hX hE hN hI hL hG hC; grind
  · unfold cA at hA ⊢; unfold cV at hV; (try unfold sI); (try unfold sR); (try unfold nS); clear hF hH hB hK hS hW hX hE hN hI hL hG hC; grind
  · unfold cH at hH ⊢; unfold cV at hV; (try unfold sI); (try unfold sR); (try unfold nS); clear hF hA hB hK hS hW hX hE hN hI hL hG hC; grind
  · unfold cB at hB ⊢; unfold cV at hV; (try unfold sI); (try unfold sR); (try unfold nS); clear hF hA hH hK hS hW hX hE hN hI hL hG hC; grind
  · unfold cK at hK ⊢; unfold cV at hV; (try unfold sI); (try unfold sR); (try unfold nS); clear hF hA hH hB hS hW hX hE hN hI hL hG hC; grind
  · unfold cS at hS ⊢; unfold cV at hV; (try unfold sI); (try unfold sR); (try unfold nS); clear hF hA hH hB hK hW hX hE hN hI hL hG hC; grind
  · unfold cW at hW ⊢; unfold cV at hV; (try unfold sI); (try unfold sR); (try unfold nS); clear hF hA hH hB hK hS hX hE hN hI hL hG hC; grind
  · unfold cX at hX ⊢; unfold cV at hV; (try unfold sI); (try unfold sR); (try unfold nS); clear hF hA hH hB hK hS hW hE hN hI hL hG hC; grind
  · unfold cE at hE ⊢; unfold cV at hV; (try unfold sI); (try unfold sR); (try unfold nS); clear hF hA hH hB hK hS hW hX hN hI hL hG hC; grind
  · unfold cN at hN ⊢; unfold cV at hV; (try unfold sI); (try unfold sR); (try unfold nS); clear hF hA hH hB hK hS hW hX hE hI hL hG hC; grind
  · unfold cI at hI ⊢; unfold cV at hV; (try unfold sI); (try unfold sR); (try unfold nS); clear hF hA hH hB hK hS hW hX hE hN hL hG hC; grind
  · unfold cL at hL ⊢; unfold cV at hV; (try unfold sI); (try unfold sR); (try unfold nS); clear hF hA hH hB hK hS hW hX hE hN hI hG hC; grind
  · unfold cG at hG ⊢; unfold cV at hV; (try unfold sI); (try unfold sR); (try unfold nS); clear hF hA hH hB hK hS hW hX hE hN hI hL hC; grind
  · unfold cC at hC ⊢; unfold cV at hV; (try unfold sI); (try unfold sR); (try unfold nS); clear hF hA hH hB hK hS hW hX hE hN hI hL hG; grind
theorem CR.n22 (h : CR th n l m g q fw tt r u s)  : CR th n l m g q fw tt r (sI u 40 4 (i3 v)) (nS s 0 22 v) := by
  obtain ⟨hF, hV, hA, hH, hB, hK, hS, hW, hX, hE, hN, hI, hL, hG, hC⟩ := h
  refine ⟨?_, hV, ?_, ?_, ?_, ?_, ?_, ?_, ?_, ?_, ?_, ?_, ?_, ?_, ?_⟩
  · unfold cF at hF ⊢; unfold cV at hV; (try unfold sI); (try unfold sR); (try unfold nS); clear hA hH hB hK hS hW hX hE hN hI hL hG hC; grind
  · unfold cA at hA ⊢; unfold cV at hV; (try unfold sI); (try unfold sR); (try unfold nS); clear hF hH hB hK hS hW hX hE hN hI hL hG hC; grind
  · unfold cH at hH ⊢; unfold cV at hV; (try unfold sI); (try unfold sR); (try unfold nS); clear hF hA hB hK hS hW hX hE hN hI hL hG hC; grind
  · unfold cB at hB ⊢; unfold cV at hV; (try unfold sI); (try unfold sR); (try unfold nS); clear hF hA hH hK hS hW hX hE hN hI hL hG hC; grind
  · unfold cK at hK ⊢; unfold cV at hV; (try unfold sI); (try unfold sR); (try unfold nS); clear hF hA hH hB hS hW hX hE hN hI hL hG hC; grind
  · unfold cS at hS ⊢; unfold cV at hV; (try unfold sI); (try unfold sR); (try unfold nS); clear hF hA hH hB hK hW hX hE hN hI hL hG hC; grind
  · unfold cW at hW ⊢; unfold cV at hV; (try unfold sI); (try unfold sR); (try unfold nS); clear hF hA hH hB hK hS hX hE hN hI hL hG hC; grind
  · unfold cX at hX ⊢; unfold cV at hV; (try unfold sI); (try unfold sR); (try unfold nS); clear hF hA hH hB hK hS hW hE hN hI hL hG hC; grind
  · unfold cE at hE ⊢; unfold cV at hV; (try unfold sI); (try unfold sR); (try unfold nS); clear hF hA hH hB hK hS hW hX hN hI hL hG hC; grind
  · unfold cN at hN ⊢; unfold cV at hV; (try unfold sI); (try unfold sR); (try unfold nS); clear hF hA hH hB hK hS hW hX hE hI hL hG hC; grind
  · unfold cI at hI ⊢; unfold cV at hV; (try unfold sI); (try unfold sR); (try unfold nS); clear hF hA hH hB hK hS hW hX hE hN hL hG hC; grind
  · unfold cL at hL ⊢; unfold cV at hV; (try unfold sI); (try unfold sR); (try unfold nS); clear hF hA hH hB hK hS hW hX hE hN hI hG hC; grind
  · unfold cG at hG ⊢; unfold cV at hV; (try unfold sI); (try unfold sR); (try unfold nS); clear hF hA hH hB hK hS hW hX hE hN hI hL hC; grind
  · unfold cC at hC ⊢; unfold cV at hV; (try unfold sI); (try unfold sR); (try unfold nS); clear hF hA hH hB hK hS hW hX hE hN hI hL hG; grind
theorem CR.n23 (h : CR th n l m g q fw tt r u s)  : CR th n l m g q fw tt r (sI u 55 5 (i3 v)) (nS s 0 23 v) := by
  obtain ⟨hF, hV, hA, hH, hB, hK, hS, hW, hX, hE, hN, hI, hL, hG, hC⟩ := h
  refine ⟨?_, hV, ?_, ?_, ?_, ?_, ?_, ?_, ?_, ?_, ?_, ?_, ?_, ?_, ?_⟩
  · unfold cF at hF ⊢; unfold cV at hV; (try unfold sI); (try unfold sR); (try unfold nS); clear hA hH hB hK hS hW hX hE hN hI hL hG hC; grind
  · unfold cA at hA ⊢; unfold cV at hV; (try unfold sI); (try unfold sR); (try unfold nS); clear hF hH hB hK hS hW hX hE hN hI hL hG hC; grind
  · unfold cH at hH ⊢; unfold cV at hV; (try unfold sI); (try unfold sR); (try unfold nS); clear hF hA hB hK hS hW hX hE hN hI hL hG hC; grind
  · unfold cB at hB ⊢; unfold cV at hV; (try unfold sI); (try unfold sR); (try unfold nS); clear hF hA hH hK hS hW hX hE hN hI hL hG hC; grind
  · unfold cK at hK ⊢; unfold cV at hV; (try unfold sI); (try unfold sR); (try unfold nS); clear hF hA hH hB hS hW hX hE hN hI hL hG hC; grind
  · unfold cS at hS ⊢; unfold cV at hV; (try unfold sI); (try unfold sR); (try unfold nS); clear hF hA hH hB hK hW hX hE hN hI hL hG hC; grind
  · unfold cW at hW ⊢; unfold cV at hV; (try unfold sI); (try unfold sR); (try unfold nS); clear hF hA hH hB hK hS hX hE hN hI hL hG hC; grind
  · unfold cX at hX ⊢; unfold cV at hV; (try unfold sI); (try unfold sR); (try unfold nS); clear hF hA hH hB hK hS hW hE hN hI hL hG hC; grind
  · unfold cE at hE ⊢; unfold cV at hV; (try unfold sI); (try unfold sR); (try unfold nS); clear hF hA hH hB hK hS hW hX hN hI hL hG hC; grind
  · unfold cN at hN ⊢; unfold cV at hV; (try unfold sI); (try unfold sR); (try unfold nS); clear hF hA hH hB hK hS hW hX hE hI hL hG hC; grind
  · unfold cI at hI ⊢; unfold cV at hV; (try unfold sI); (try unfold sR); (try unfold nS); clear hF hA hH hB hK hS hW hX hE hN hL hG hC; grind
  · unfold cL at hL ⊢; unfold cV at hV; (try unfold sI); (try unfold sR); (try unfold nS); clear hF hA hH hB hK hS hW hX hE hN hI hG hC; grind
  · unfold cG at hG ⊢; unfold cV at hV; (try unfold sI); (try unfold sR); (try unfold nS); clear hF hA hH hB hK hS hW hX hE hN hI hL hC; grind
  · unfold cC at hC ⊢; unfold cV at hV; (try unfold sI); (try unfold sR); (try unfold nS); clear hF hA hH hB hK hS hW hX hE hN hI hL hG; grind
theorem CR.n24 (h : CR th n l m g q fw tt r u s)  : CR th n l m g q fw tt r (sI u 55 6 (i3 v)) (nS s 0 24 v) := by
  obtain ⟨hF, hV, hA, hH, hB, hK, hS, hW, hX, hE, hN, hI, hL, hG, hC⟩ := h
  refine ⟨?_, hV, ?_, ?_, ?_, ?_, ?_, ?_, ?_, ?_, ?_, ?_, ?_, ?_, ?_⟩
  · unfold cF at hF ⊢; unfold cV at hV; (try unfold sI); (try unfold sR); (try unfold nS); clear hA hH hB hK hS hW hX hE hN hI hL hG hC; grind
  · unfold cA at hA ⊢; unfold cV at hV; (try unfold sI); (try unfold sR); (try unfold nS); clear hF hH hB hK hS hW hX hE hN hI hL hG hC; grind
  · unfold cH at hH ⊢; unfold cV at hV; (try unfold sI); (try unfold sR); (try unfold nS); clear hF hA hB hK hS hW hX hE hN hI hL hG hC; grind
  · unfold cB at hB ⊢; unfold cV at hV; (try unfold sI); (try unfold sR); (try unfold nS); clear hF hA hH hK hS hW hX hE hN hI hL hG hC; grind
  · unfold cK at hK ⊢; unfold cV at hV; (try unfold sI); (try unfold sR); (try unfold nS); clear hF hA hH hB hS hW hX hE hN hI hL hG hC; grind
  · unfold cS at hS ⊢; unfold cV at hV; (try unfold sI); (try unfold sR); (try unfold nS); clear hF hA hH hB hK hW hX hE hN hI hL hG hC; grind
  · unfold cW at hW ⊢; unfold cV at hV; (try unfold sI); (try unfold sR); (try unfold nS); clear hF hA hH hB hK hS hX hE hN hI hL hG hC; grind
  · unfold cX at hX ⊢; unfold cV at hV; (try unfold sI); (try unfold sR); (try unfold nS); clear hF hA hH hB hK hS hW hE hN hI hL hG hC; grind
  · unfold cE at hE ⊢; unfold cV at hV; (try unfold sI); (try unfold sR); (try unfold nS); clear hF hA hH hB hK hS hW hX hN hI hL hG hC; grind
  · unfold cN at hN ⊢; unfold cV at hV; (try unfold sI); (try unfold sR); (try unfold nS); clear hF hA hH hB hK hS hW hX hE hI hL hG hC; grind
  · unfold cI at hI ⊢; unfold cV at hV; (try unfold sI); (try unfold sR); (try unfold nS); clear hF hA hH hB hK hS hW hX hE hN hL hG hC; grind
  · unfold cL at hL ⊢; unfold cV at hV; (try unfold sI); (try unfold sR); (try unfold nS); clear hF hA hH hB hK hS hW hX hE hN hI hG hC; grind
  · unfold cG at hG ⊢; unfold cV at hV; (try unfold sI); (try unfold sR); (try unfold nS); clear hF hA hH hB hK hS hW hX hE hN hI hL hC; grind
  · unfold cC at hC ⊢; unfold cV at hV; (try unfold sI); (try unfold sR); (try unfold nS); clear hF hA hH hB hK hS hW hX hE hN hI hL hG; grind
theorem CR.fr (h : CR th n l m g q fw tt r u s) {k : Nat} : CR th n l m g q fw tt r (sI u 44 k (i3 v)) (nS s 19 k v) := by
  obtain ⟨hF, hV, hA, hH, hB, hK, hS, hW, hX, hE, hN, hI, hL, hG, hC⟩ := h
  refine ⟨?_, hV, ?_, ?_, ?_, ?_, ?_, ?_, ?_, ?_, ?_, ?_, ?_, ?_, ?_⟩
  · unfold cF at hF ⊢; unfold cV at hV; (try unfold sI); (try unfold sR); (try unfold nS); clear hA hH hB hK hS hW hX hE hN hI hL hG hC; grind
  · unfold cA at hA ⊢; intro o1 t1 h1; have h2 := (hV o1 t1 h1).1; have h3 := hA o1 t1 h1; have h4 : t1 ≠ 44 := (by omega); (try unfold sI); (try unfold nS); clear hV hF hA hH hB hK hS hW hX hE hN hI hL hG hC; grind
  · unfold cH at hH ⊢; unfold cV at hV; (try unfold sI); (try unfold sR); (try unfold nS); clear hF hA hB hK hS hW hX hE hN hI hL hG hC; grind
  · unfold cB at hB ⊢; unfold cV at hV; (try unfold sI); (try unfold sR); (try unfold nS); clear hF hA hH hK hS hW hX hE hN hI hL hG hC; grind
  · unfold cK at hK ⊢; unfold cV at hV; (try unfold sI); (try unfold sR); (try unfold nS); clear hF hA hH hB hS hW hX hE hN hI hL hG hC; grind
  · unfold cS at hS ⊢; unfold cV at hV; (try unfold sI); (try unfold sR); (try unfold nS); clear hF hA hH hB hK hW hX hE hN hI hL hG hC; grind
  · unfold cW at hW ⊢; unfold cV at hV; (try unfold sI); (try unfold sR); (try unfold nS); clear hF hA hH hB hK hS hX hE hN hI hL hG hC; grind
  · unfold cX at hX ⊢; unfold cV at hV; (try unfold sI); (try unfold sR); (try unfold nS); clear hF hA hH hB hK hS hW hE hN hI hL hG hC; grind
  · unfold cE at hE ⊢; unfold cV at hV; (try unfold sI); (try unfold sR); (try unfold nS); clear hF hA hH hB hK hS hW hX hN hI hL hG hC; grind
  · unfold cN at hN ⊢; unfold cV at hV; (try unfold sI); (try unfold sR); (try unfold nS); clear hF hA hH hB hK hS hW hX hE hI hL hG hC; grind
  · unfold cI at hI ⊢; unfold cV at hV; (try unfold sI); (try unfold sR); (try unfold nS); clear hF hA hH hB hK hS hW hX hE hN hL hG hC; grind
  · unfold cL at hL ⊢; unfold cV at hV; (try unfold sI); (try unfold sR); (try unfold nS); clear hF hA hH hB hK hS hW hX hE hN hI hG hC; grind
  · unfold cG at hG ⊢; unfold cV at hV; (try unfold sI); (try unfold sR); (try unfold nS); clear hF hA hH hB hK hS hW hX hE hN hI hL hC; grind
  · unfold cC at hC ⊢; unfold cV at hV; (try unfold sI); (try unfold sR); (try unfold nS); clear hF hA hH hB hK hS hW hX hE hN hI hL hG; grind
theorem CR.wk (h : CR th n l m g q fw tt r u s) {w : Nat} : CR th n l m g q fw tt r (sR u 45 w (oT th v)) (nS s 18 w v) := by
  obtain ⟨hF, hV, hA, hH, hB, hK, hS, hW, hX, hE, hN, hI, hL, hG, hC⟩ := h
  refine ⟨?_, hV, ?_, ?_, ?_, ?_, ?_, ?_, ?_, ?_, ?_, ?_, ?_, ?_, ?_⟩
  · unfold cF at hF ⊢; unfold cV at hV; (try unfold sI); (try unfold sR); (try unfold nS); clear hA hH hB hK hS hW hX hE hN hI hL hG hC; grind
  · unfold cA at hA ⊢; unfold cV at hV; (try unfold sI); (try unfold sR); (try unfold nS); clear hF hH hB hK hS hW hX hE hN hI hL hG hC; grind
  · unfold cH at hH ⊢; unfold cV at hV; (try unfold sI); (try unfold sR); (try unfold nS); clear hF hA hB hK hS hW hX hE hN hI hL hG hC; grind
  · unfold cB at hB ⊢; unfold cV at hV; (try unfold sI); (try unfold sR); (try unfold nS); clear hF hA hH hK hS hW hX hE hN hI hL hG hC; grind
  · unfold cK at hK ⊢; unfold cV at hV; (try unfold sI); (try unfold sR); (try unfold nS); clear hF hA hH hB hS hW hX hE hN hI hL hG hC; grind
  · unfold cS at hS ⊢; unfold cV at hV; (try unfold sI); (try unfold sR); (try unfold nS); clear hF hA hH hB hK hW hX hE hN hI hL hG hC; grind
  · unfold cW at hW ⊢; unfold cV at hV; (try unfold sI); (try unfold sR); (try unfold nS); clear hF hA hH hB hK hS hX hE hN hI hL hG hC; grind
  · unfold cX at hX ⊢; unfold cV at hV; (try unfold sI); (try unfold sR); (try unfold nS); clear hF hA hH hB hK hS hW hE hN hI hL hG hC; grind
  · unfold cE at hE ⊢; unfold cV at hV; (try unfold sI); (try unfold sR); (try unfold nS); clear hF hA hH hB hK hS hW hX hN hI hL hG hC; grind
  · unfold cN at hN ⊢; unfold cV at hV; (try unfold sI); (try unfold sR); (try unfold nS); clear hF hA hH hB hK hS hW hX hE hI hL hG hC; grind
  · unfold cI at hI ⊢; unfold cV at hV; (try unfold sI); (try unfold sR); (try unfold nS); clear hF hA hH hB hK hS hW hX hE hN hL hG hC; grind
  · unfold cL at hL ⊢; unfold cV at hV; (try unfold sI); (try unfold sR); (try unfold nS); clear hF hA hH hB hK hS hW hX hE hN hI hG hC; grind
  · unfold cG at hG ⊢; unfold cV at hV; (try unfold sI); (try unfold sR); (try unfold nS); clear hF hA hH hB hK hS hW hX hE hN hI hL hC; grind
  · unfold cC at hC ⊢; unfold cV at hV; (try unfold sI); (try unfold sR); (try unfold nS); clear hF hA hH hB hK hS hW hX hE hN hI hL hG; grind
theorem CR.ow (h : CR th n l m g q fw tt r u s) {w : Nat} : CR th n l m g q fw tt r (sR u 47 w (oT th v)) (nS s 13 w v) := by
  obtain ⟨hF, hV, hA, hH, hB, hK, hS, hW, hX, hE, hN, hI, hL, hG, hC⟩ := h
  refine ⟨?_, hV, ?_, ?_, ?_, ?_, ?_, ?_, ?_, ?_, ?_, ?_, ?_, ?_, ?_⟩
  · unfold cF at hF ⊢; unfold cV at hV; (try unfold sI); (try unfold sR); (try unfold nS); clear hA hH hB hK hS hW hX hE hN hI hL hG hC; grind
  · unfold cA at hA ⊢; unfold cV at hV; (try unfold sI); (try unfold sR); (try unfold nS); clear hF hH hB hK hS hW hX hE hN hI hL hG hC; grind
  · unfold cH at hH ⊢; unfold cV at hV; (try unfold sI); (try unfold sR); (try unfold nS); clear hF hA hB hK hS hW hX hE hN hI hL hG hC; grind
  · unfold cB at hB ⊢; unfold cV at hV; (try unfold sI); (try unfold sR); (try unfold nS); clear hF hA hH hK hS hW hX hE hN hI hL hG hC; grind
  · unfold cK at hK ⊢; unfold cV at hV; (try unfold sI); (try unfold sR); (try unfold nS); clear hF hA hH hB hS hW hX hE hN hI hL hG hC; grind
  · unfold cS at hS ⊢; unfold cV at hV; (try unfold sI); (try unfold sR); (try unfold nS); clear hF hA hH hB hK hW hX hE hN hI hL hG hC; grind
  · unfold cW at hW ⊢; unfold cV at hV; (try unfold sI); (try unfold sR); (try unfold nS); clear hF hA hH hB hK hS hX hE hN hI hL hG hC; grind
  · unfold cX at hX ⊢; unfold cV at hV; (try unfold sI); (try unfold sR); (try unfold nS); clear hF hA hH hB hK hS hW hE hN hI hL hG hC; grind
  · unfold cE at hE ⊢; unfold cV at hV; (try unfold sI); (try unfold sR); (try unfold nS); clear hF hA hH hB hK hS hW hX hN hI hL hG hC; grind
  · unfold cN at hN ⊢; unfold cV at hV; (try unfold sI); (try unfold sR); (try unfold nS); clear hF hA hH hB hK hS hW hX hE hI hL hG hC; grind
  · unfold cI at hI ⊢; unfold cV at hV; (try unfold sI); (try unfold sR); (try unfold nS); clear hF hA hH hB hK hS hW hX hE hN hL hG hC; grind
  · unfold cL at hL ⊢; unfold cV at hV; (try unfold sI); (try unfold sR); (try unfold nS); clear hF hA hH hB hK hS hW hX hE hN hI hG hC; grind
  · unfold cG at hG ⊢; unfold cV at hV; (try unfold sI); (try unfold sR); (try unfold nS); clear hF hA hH hB hK hS hW hX hE hN hI hL hC; grind
  · unfold cC at hC ⊢; unfold cV at hV; (try unfold sI); (try unfold sR); (try unfold nS); clear hF hA hH hB hK hS hW hX hE hN hI hL hG; grind
theorem CR.gone (h : CR th n l m g q fw tt r u s) (ho : o < 80) : CR th n l m g q fw tt r (sR u 43 o none) (nS s 4 o 0) := by
  obtain ⟨hF, hV, hA, hH, hB, hK, hS, hW, hX, hE, hN, hI, hL, hG, hC⟩ := h
  refine ⟨?_, hV, ?_, ?_, ?_, ?_, ?_, ?_, ?_, ?_, ?_, ?_, ?_, ?_, ?_⟩
  · unfold cF at hF ⊢; unfold cV at hV; (try unfold sI); (try unfold sR); (try unfold nS); clear hA hH hB hK hS hW hX hE hN hI hL hG hC; grind
  · unfold cA at hA ⊢; unfold cV at hV; (try unfold sI); (try unfold sR); (try unfold nS); clear hF hH hB hK hS hW hX hE hN hI hL hG hC; grind
  · unfold cH at hH ⊢; unfold cV at hV; (try unfold sI); (try unfold sR); (try unfold nS); clear hF hA hB hK hS hW hX hE hN hI hL hG hC; grind
  · unfold cB at hB ⊢; unfold cV at hV; (try unfold sI); (try unfold sR); (try unfold nS); clear hF hA hH hK hS hW hX hE hN hI hL hG hC; grind
  · unfold cK at hK ⊢; unfold cV at hV; (try unfold sI); (try unfold sR); (try unfold nS); clear hF hA hH hB hS hW hX hE hN hI hL hG hC; grind
  · unfold cS at hS ⊢; unfold cV at hV; (try unfold sI); (try unfold sR); (try unfold nS); clear hF hA hH hB hK hW hX hE hN hI hL hG hC; grind
  · unfold cW at hW ⊢; unfold cV at hV; (try unfold sI); (try unfold sR); (try unfold nS); clear hF hA hH hB hK hS hX hE hN hI hL hG hC; grind
  · unfold cX at hX ⊢; unfold cV at hV; (try unfold sI); (try unfold sR); (try unfold nS); clear hF hA hH hB hK hS hW hE hN hI hL hG hC; grind
  · unfold cE at hE ⊢; unfold cV at hV; (try unfold sI); (try unfold sR); (try unfold nS); clear hF hA hH hB hK hS hW hX hN hI hL hG hC; grind
  · unfold cN at hN ⊢; unfold cV at hV; (try unfold sI); (try unfold sR); (try unfold nS); clear hF hA hH hB hK hS hW hX hE hI hL hG hC; grind
  · unfold cI at hI ⊢; unfold cV at hV; (try unfold sI); (try unfold sR); (try unfold nS); clear hF hA hH hB hK hS hW hX hE hN hL hG hC; grind
  · unfold cL at hL ⊢; unfold cV at hV; (try unfold sI); (try unfold sR); (try unfold nS); clear hF hA hH hB hK hS hW hX hE hN hI hG hC; grind
  · unfold cG at hG ⊢; unfold cV at hV; (try unfold sI); (try unfold sR); (try unfold nS); clear hF hA hH hB hK hS hW hX hE hN hI hL hC; grind
  · unfold cC at hC ⊢; unfold cV at hV; (try unfold sI); (try unfold sR); (try unfold nS); clear hF hA hH hB hK hS hW hX hE hN hI hL hG; grind
theorem CR.nohusk (h : CR th n l m g q fw tt r u s) (h0 : s 4 o = 0) : CR th n l m g q fw tt r (u) (nS s 11 o 0) := by
  obtain ⟨hF, hV, hA, hH, hB, hK, hS, hW, hX, hE, hN, hI, hL, hG, hC⟩ := h
  refine ⟨?_, hV, ?_, ?_, ?_, ?_, ?_, ?_, ?_, ?_, ?_, ?_, ?_, ?_, ?_⟩
  · unfold cF at hF ⊢; unfold cV at hV; (try unfold sI); (try unfold sR); (try unfold nS); clear hA hH hB hK hS hW hX hE hN hI hL hG hC; grind
  · unfold cA at hA ⊢; unfold cV at hV; (try unfold sI); (try unfold sR); (try unfold nS); clear hF hH hB hK hS hW hX hE hN hI hL hG hC; grind
  · unfold cH at hH ⊢; unfold cV at hV; (try unfold sI); (try unfold sR); (try unfold nS); clear hF hA hB hK hS hW hX hE hN hI hL hG hC; grind
  · unfold cB at hB ⊢; unfold cV at hV; (try unfold sI); (try unfold sR); (try unfold nS); clear hF hA hH hK hS hW hX hE hN hI hL hG hC; grind
  · unfold cK at hK ⊢; unfold cV at hV; (try unfold sI); (try unfold sR); (try unfold nS); clear hF hA hH hB hS hW hX hE hN hI hL hG hC; grind
  · unfold cS at hS ⊢; unfold cV at hV; (try unfold sI); (try unfold sR); (try unfold nS); clear hF hA hH hB hK hW hX hE hN hI hL hG hC; grind
  · unfold cW at hW ⊢; unfold cV at hV; (try unfold sI); (try unfold sR); (try unfold nS); clear hF hA hH hB hK hS hX hE hN hI hL hG hC; grind
  · unfold cX at hX ⊢; unfold cV at hV; (try unfold sI); (try unfold sR); (try unfold nS); clear hF hA hH hB hK hS hW hE hN hI hL hG hC; grind
  · unfold cE at hE ⊢; unfold cV at hV; (try unfold sI); (try unfold sR); (try unfold nS); clear hF hA hH hB hK hS hW hX hN hI hL hG hC; grind
  · unfold cN at hN ⊢; unfold cV at hV; (try unfold sI); (try unfold sR); (try unfold nS); clear hF hA hH hB hK hS hW hX hE hI hL hG hC; grind
  · unfold cI at hI ⊢; unfold cV at hV; (try unfold sI); (try unfold sR); (try unfold nS); clear hF hA hH hB hK hS hW hX hE hN hL hG hC; grind
  · unfold cL at hL ⊢; unfold cV at hV; (try unfold sI); (try unfold sR); (try unfold nS); clear hF hA hH hB hK hS hW hX hE hN hI hG hC; grind
  · unfold cG at hG ⊢; unfold cV at hV; (try unfold sI); (try unfold sR); (try unfold nS); clear hF hA hH hB hK hS hW hX hE hN hI hL hC; grind
  · unfold cC at hC ⊢; unfold cV at hV; (try unfold sI); (try unfold sR); (try unfold nS); clear hF hA hH hB hK hS hW hX hE hN hI hL hG; grind
theorem CR.fwd (h : CR th n l m g q fw tt r u s)  : CR th n l m g q v tt r (sI u 46 1 (i3 v)) (s) := by
  obtain ⟨hF, hV, hA, hH, hB, hK, hS, hW, hX, hE, hN, hI, hL, hG, hC⟩ := h
  refine ⟨?_, hV, ?_, ?_, ?_, ?_, ?_, ?_, ?_, ?_, ?_, ?_, ?_, ?_, ?_⟩
  · unfold cF at hF ⊢; unfold cV at hV; (try unfold sI); (try unfold sR); (try unfold nS); clear hA hH hB hK hS hW hX hE hN hI hL hG hC; grind
  · unfold cA at hA ⊢; unfold cV at hV; (try unfold sI); (try unfold sR); (try unfold nS); clear hF hH hB hK hS hW hX hE hN hI hL hG hC; grind
  · unfold cH at hH ⊢; unfold cV at hV; (try unfold sI); (try unfold sR); (try unfold nS); clear hF hA hB hK hS hW hX hE hN hI hL hG hC; grind
  · unfold cB at hB ⊢; unfold cV at hV; (try unfold sI); (try unfold sR); (try unfold nS); clear hF hA hH hK hS hW hX hE hN hI hL hG hC; grind
  · unfold cK at hK ⊢; unfold cV at hV; (try unfold sI); (try unfold sR); (try unfold nS); clear hF hA hH hB hS hW hX hE hN hI hL hG hC; grind
  · unfold cS at hS ⊢; unfold cV at hV; (try unfold sI); (try unfold sR); (try unfold nS); clear hF hA hH hB hK hW hX hE hN hI hL hG hC; grind
  · unfold cW at hW ⊢; unfold cV at hV; (try unfold sI); (try unfold sR); (try unfold nS); clear hF hA hH hB hK hS hX hE hN hI hL hG hC; grind
  · unfold cX at hX ⊢; unfold cV at hV; (try unfold sI); (try unfold sR); (try unfold nS); clear hF hA hH hB hK hS hW hE hN hI hL hG hC; grind
  · unfold cE at hE ⊢; unfold cV at hV; (try unfold sI); (try unfold sR); (try unfold nS); clear hF hA hH hB hK hS hW hX hN hI hL hG hC; grind
  · unfold cN at hN ⊢; unfold cV at hV; (try unfold sI); (try unfold sR); (try unfold nS); clear hF hA hH hB hK hS hW hX hE hI hL hG hC; grind
  · unfold cI at hI ⊢; unfold cV at hV; (try unfold sI); (try unfold sR); (try unfold nS); clear hF hA hH hB hK hS hW hX hE hN hL hG hC; grind
  · unfold cL at hL ⊢; unfold cV at hV; (try unfold sI); (try unfold sR); (try unfold nS); clear hF hA hH hB hK hS hW hX hE hN hI hG hC; grind
  · unfold cG at hG ⊢; unfold cV at hV; (try unfold sI); (try unfold sR); (try unfold nS); clear hF hA hH hB hK hS hW hX hE hN hI hL hC; grind
  · unfold cC at hC ⊢; unfold cV at hV; (try unfold sI); (try unfold sR); (try unfold nS); clear hF hA hH hB hK hS hW hX hE hN hI hL hG; grind
theorem CR.ttd (h : CR th n l m g q fw tt r u s)  : CR th n l m g q fw v r (sI u 42 4 (i3 v)) (s) := by
  obtain ⟨hF, hV, hA, hH, hB, hK, hS, hW, hX, hE, hN, hI, hL, hG, hC⟩ := h
  refine ⟨?_, hV, ?_, ?_, ?_, ?_, ?_, ?_, ?_, ?_, ?_, ?_, ?_, ?_, ?_⟩
  · unfold cF at hF ⊢; unfold cV at hV; (try unfold sI); (try unfold sR); (try unfold nS); clear hA hH hB hK hS hW hX hE hN hI hL hG hC; grind
  · unfold cA at hA ⊢; unfold cV at hV; (try unfold sI); (try unfold sR); (try unfold nS); clear hF hH hB hK hS hW hX hE hN hI hL hG hC; grind
  · unfold cH at hH ⊢; unfold cV at hV; (try unfold sI); (try unfold sR); (try unfold nS); clear hF hA hB hK hS hW hX hE hN hI hL hG hC; grind
  · unfold cB at hB ⊢; unfold cV at hV; (try unfold sI); (try unfold sR); (try unfold nS); clear hF hA hH hK hS hW hX hE hN hI hL hG hC; grind
  · unfold cK at hK ⊢; unfold cV at hV; (try unfold sI); (try unfold sR); (try unfold nS); clear hF hA hH hB hS hW hX hE hN hI hL hG hC; grind
  · unfold cS at hS ⊢; unfold cV at hV; (try unfold sI); (try unfold sR); (try unfold nS); clear hF hA hH hB hK hW hX hE hN hI hL hG hC; grind
  · unfold cW at hW ⊢; unfold cV at hV; (try unfold sI); (try unfold sR); (try unfold nS); clear hF hA hH hB hK hS hX hE hN hI hL hG hC; grind
  · unfold cX at hX ⊢; unfold cV at hV; (try unfold sI); (try unfold sR); (try unfold nS); clear hF hA hH hB hK hS hW hE hN hI hL hG hC; grind
  · unfold cE at hE ⊢; unfold cV at hV; (try unfold sI); (try unfold sR); (try unfold nS); clear hF hA hH hB hK hS hW hX hN hI hL hG hC; grind
  · unfold cN at hN ⊢; unfold cV at hV; (try unfold sI); (try unfold sR); (try unfold nS); clear hF hA hH hB hK hS hW hX hE hI hL hG hC; grind
  · unfold cI at hI ⊢; unfold cV at hV; (try unfold sI); (try unfold sR); (try unfold nS); clear hF hA hH hB hK hS hW hX hE hN hL hG hC; grind
  · unfold cL at hL ⊢; unfold cV at hV; (try unfold sI); (try unfold sR); (try unfold nS); clear hF hA hH hB hK hS hW hX hE hN hI hG hC; grind
  · unfold cG at hG ⊢; unfold cV at hV; (try unfold sI); (try unfold sR); (try unfold nS); clear hF hA hH hB hK hS hW hX hE hN hI hL hC; grind
  · unfold cC at hC ⊢; unfold cV at hV; (try unfold sI); (try unfold sR); (try unfold nS); clear hF hA hH hB hK hS hW hX hE hN hI hL hG; grind
theorem CR.qm (h : CR th n l m g q fw tt r u s) {q' : Nat → Prop} (hq : ∀ p, s 4 p ≠ 0 → s 11 p = 0 → q p → q' p) : CR th n l m g q' fw tt r u s := by
  obtain ⟨hF, hV, hA, hH, hB, hK, hS, hW, hX, hE, hN, hI, hL, hG, hC⟩ := h
  refine ⟨hF, hV, hA, hH, hB, hK, hS, hW, hX, hE, hN, hI, hL, ?_, hC⟩
  unfold cG at hG ⊢
  grind
theorem CR.lc (h : CR th n l m g q fw tt r u s) {l' : Nat → Nat} (hl : ∀ j, j < n → l' j = l j) : CR th n l' m g q fw tt r u s := by
  obtain ⟨hF, hV, hA, hH, hB, hK, hS, hW, hX, hE, hN, hI, hL, hG, hC⟩ := h
  refine ⟨hF, hV, hA, hH, hB, hK, hS, hW, hX, hE, hN, hI, ?_, hG, hC⟩
  unfold cL at hL ⊢
  grind
theorem CR.gc (h : CR th n l m g q fw tt r u s) {g' : Nat → Nat} (hl : ∀ j, j < m → g' j = g j) : CR th n l m g' q fw tt r u s := by
  obtain ⟨hF, hV, hA, hH, hB, hK, hS, hW, hX, hE, hN, hI, hL, hG, hC⟩ := h
  refine ⟨hF, hV, hA, hH, hB, hK, hS, hW, hX, hE, hN, hI, hL, ?_, hC⟩
  unfold cG at hG ⊢
  grind
end CRS

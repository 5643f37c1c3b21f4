section WSC
variable {th : Nat → Option Nat} {n m fw tt w k : Nat} {l g : Nat → Nat} {q : Nat → Prop} {r u u1 u2 : Mm} {s s' z : Sm} {o t v N : Nat}
theorem CR.wdec (h : CR th n l m g q fw tt r u s) (hv : v ≤ s 0 17) : CR th n l m g q fw tt r (sI u 53 1 (i3 v)) (nS s 0 17 v) := by
  obtain ⟨hF, hV, hA, hH, hB, hK, hS, hW, hX, hE, hN, hI, hL, hG, hC⟩ := h
  refine ⟨?_, hV, ?_, ?_, ?_, ?_, ?_, ?_, ?_, ?_, ?_, ?_, ?_, ?_, ?_⟩
  · unfold cF at hF ⊢; unfold cV at hV; (try unfold sI); (try unfold sR); (try unfold nS); clear hA hH hB hK hS hW hX hE hN hI hL hG hC; grind
  · unfold cA at hA ⊢; unfold cV at hV; (try unfold sI); (try unfold sR); (try unfold nS); clear hF hH hB hK hS hW hX hE hN hI hL hG hC; grind
  · unfold cH at hH ⊢; unfold cV at hV; (try unfold sI); (try unfold sR); (try unfold nS); clear hF hA hB hK hS hW hX hE hN hI hL hG hC; grind
  · unfold cB at hB ⊢; unfold cV at hV; (try unfold sI); (try unfold sR); (try unfold nS); clear hF hA hH hK hS hW hX hE hN hI hL hG hC; grind
  · unfold cK at hK ⊢; unfold cV at hV; (try unfold sI); (try unfold sR); (try unfold nS); clear hF hA hH hB hS hW hX hE hN hI hL hG hC; grind
  · unfold cS at hS ⊢; unfold cV at hV; (try unfold sI); (try unfold sR); (try unfold nS); clear hF hA hH hB hK hW hX hE hN hI hL hG hC; grind
  · unfold cW at hW ⊢; unfold cV at hV; (try unfold sI); (try unfold sR); (try unfold nS); clear hF hA hH hB hK hS hX hE hN hI hL hG hC; grind
  · unfold cX at hX ⊢; unfold cV at hV; (try unfold sI); (try unfold sR); (try unfold nS); clear hF hA hH hB hK hS hW hE hN hI hL hG hC; grind
  · unfold cE at hE ⊢; unfold cV at hV; (try unfold sI); (try unfold sR); (try unfold nS); clear hF hA hH hB hK hS hW hX hN hI hL hG hC; grind
  · unfold cN at hN ⊢; unfold cV at hV; (try unfold sI); (try unfold sR); (try unfold nS); clear hF hA hH hB hK hS hW hX hE hI hL hG hC; grind
  · unfold cI at hI ⊢; unfold cV at hV; (try unfold sI); (try unfold sR); (try unfold nS); clear hF hA hH hB hK hS hW hX hE hN hL hG hC; grind
  · unfold cL at hL ⊢; unfold cV at hV; (try unfold sI); (try unfold sR); (try unfold nS); clear hF hA hH hB hK hS hW hX hE hN hI hG hC; grind
  · unfold cG at hG ⊢; unfold cV at hV; (try unfold sI); (try unfold sR); (try unfold nS); clear hF hA hH hB hK hS hW hX hE hN hI hL hC; grind
  · unfold cC at hC ⊢; unfold cV at hV; (try unfold sI); (try unfold sR); (try unfold nS); clear hF hA hH hB hK hS hW hX hE hN hI hL hG; grind
theorem CR.wset (h : CR th n l m g q fw tt r u s) {j p : Nat} : CR th n l m g q fw tt r (sR u 54 j (th p)) (nS s 16 j p) := by
  obtain ⟨hF, hV, hA, hH, hB, hK, hS, hW, hX, hE, hN, hI, hL, hG, hC⟩ := h
  refine ⟨?_, hV, ?_, ?_, ?_, ?_, ?_, ?_, ?_, ?_, ?_, ?_, ?_, ?_, ?_⟩
  · unfold cF at hF ⊢; unfold cV at hV; (try unfold sI); (try unfold sR); (try unfold nS); clear hA hH hB hK hS hW hX hE hN hI hL hG hC; grind
  · unfold cA at hA ⊢; unfold cV at hV; (try unfold sI); (try unfold sR); (try unfold nS); clear hF hH hB hK hS hW hX hE hN hI hL hG hC; grind
  · unfold cH at hH ⊢; unfold cV at hV; (try unfold sI); (try unfold sR); (try unfold nS); clear hF hA hB hK hS hW hX hE hN hI hL hG hC; grind
  · unfold cB at hB ⊢; unfold cV at hV; (try unfold sI); (try unfold sR); (try unfold nS); clear hF hA hH hK hS hW hX hE hN hI hL hG hC; grind
  · unfold cK at hK ⊢; unfold cV at hV; (try unfold sI); (try unfold sR); (try unfold nS); clear hF hA hH hB hS hW hX hE hN hI hL hG hC; grind
  · unfold cS at hS ⊢; unfold cV at hV; (try unfold sI); (try unfold sR); (try unfold nS); clear hF hA hH hB hK hW hX hE hN hI hL hG hC; grind
  · unfold cW at hW ⊢; unfold cV at hV; (try unfold sI); (try unfold sR); (try unfold nS); clear hF hA hH hB hK hS hX hE hN hI hL hG hC; grind
  · unfold cX at hX ⊢; unfold cV at hV; (try unfold sI); (try unfold sR); (try unfold nS); clear hF hA hH hB hK hS hW hE hN hI hL hG hC; grind
  · unfold cE at hE ⊢; unfold cV at hV; (try unfold sI); (try unfold sR); (try unfold nS); clear hF hA hH hB hK hS hW hX hN hI hL hG hC; grind
  · unfold cN at hN ⊢; unfold cV at hV; (try unfold sI); (try unfold sR); (try unfold nS); clear hF hA hH hB hK hS hW hX hE hI hL hG hC; grind
  · unfold cI at hI ⊢; unfold cV at hV; (try unfold sI); (try unfold sR); (try unfold nS); clear hF hA hH hB hK hS hW hX hE hN hL hG hC; grind
  · unfold cL at hL ⊢; unfold cV at hV; (try unfold sI); (try unfold sR); (try unfold nS); clear hF hA hH hB hK hS hW hX hE hN hI hG hC; grind
  · unfold cG at hG ⊢; unfold cV at hV; (try unfold sI); (try unfold sR); (try unfold nS); clear hF hA hH hB hK hS hW hX hE hN hI hL hC; grind
  · unfold cC at hC ⊢; unfold cV at hV; (try unfold sI); (try unfold sR); (try unfold nS); clear hF hA hH hB hK hS hW hX hE hN hI hL hG; grind
def shR : Nat → Nat → Sm → Sm
  | 0, _, z => z
  | d + 1, i, z => shR d (i + 1) (nS z 16 i (z 16 (i + 1)))
theorem shR_ne : ∀ (d i : Nat) (z : Sm) (c x : Nat), c ≠ 16 → shR d i z c x = z c x
  | 0, _, _, _, _, _ => rfl
  | d + 1, i, z, c, x, h => by
    unfold shR
    rw [shR_ne d (i + 1) _ c x h, nS_ne (fun y => h y.1)]
theorem shR_16 : ∀ (d i : Nat) (z : Sm) (x : Nat), shR d i z 16 x = if i ≤ x ∧ x < i + d then z 16 (x + 1) else z 16 x
  | 0, i, z, x => by
    rw [if_neg (by omega)]
    rfl
  | d + 1, i, z, x => by
    unfold shR
    rw [shR_16 d (i + 1) _ x]
    by_cases h : x = i
    · subst h
      rw [if_neg (by omega), if_pos (by omega), nS_eq]
    · by_cases h2 : i + 1 ≤ x ∧ x < i + 1 + d
      · rw [if_pos h2, if_pos (by omega), nS_ne (by omega)]
      · rw [if_neg h2, if_neg (by omega), nS_ne (by omega)]
theorem mo_wl : ∀ (d i N2 : Nat) (u : Mm) (z : Sm), MR r u z → z 0 17 = i + d → i + d < 80 → o < 80 → d < N2 → Go (f_X8_wish_33 N N2 (i3 o) (i3 i) u) (fun x => x.1 = i3 o ∧ MR r x.2 (nS (shR d i z) 8 o (z 8 o + 1)))
  | d, i, 0, _, _, _, _, _, _, h => by omega
  | 0, i, N2 + 1, u, z, M, h1, h2, ho, hN => by
    unfold f_X8_wish_33 g_X8_wish_33
    rw [pt_d, M.g0 (k := 17) (by simp [nsc]), h1, if_pos ((i3_le (by omega) (by omega)).mpr (by omega)), i3_bI (by omega), decide_eq_true ho, ck_t, pt_d, i3_ix (by omega), M.g8 ho, i3_addL, ck_t, pt_d]
    exact Go.s ⟨rfl, M.set (by simp [nsc] <;> omega) rfl⟩
  | d + 1, i, N2 + 1, u, z, M, h1, h2, ho, hN => by
    have ih := mo_wl d (i + 1) N2 (sI u 16 i (i3 (z 16 (i + 1)))) (nS z 16 i (z 16 (i + 1))) (M.set (by simp [nsc] <;> omega) rfl) (by rw [nS_ne (by omega), h1]; omega) (by omega) ho (by omega)
    rw [nS_ne (by omega)] at ih
    unfold f_X8_wish_33 g_X8_wish_33
    rw [pt_d, M.g0 (k := 17) (by simp [nsc]), h1, if_neg (fun y => by have := (i3_le (by omega) (by omega)).mp y; omega), i3_addL, i3_bI (by omega), decide_eq_true (by omega), ck_t, pt_d, i3_ix (k := i + 1) (by omega), M.g16 (by omega), i3_bI (by omega), decide_eq_true (by omega), ck_t, pt_d, i3_ix (k := i) (by omega)]
    exact ih
theorem co_wl : ∀ (d i N2 : Nat) (u : Mm) (z : Sm), CR th n l m g q fw tt r u z → z 0 17 = i + d → i + d < 80 → (∀ j, i < j → j ≤ i + d → u.2 54 j = th (z 16 j)) → d < N2 → Go (f_X3_takeFirst_22 N 53 N2 t (i3 i) u) (fun x => x.1 = some t ∧ CR th n l m g q fw tt r x.2 (shR d i z))
  | d, i, 0, _, _, _, _, _, _, h => by omega
  | 0, i, N2 + 1, u, z, C, h1, h2, hr, hN => by
    unfold f_X3_takeFirst_22 g_X3_takeFirst_22
    rw [pt_d, C.i.1, h1, if_pos ((i3_le (by omega) (by omega)).mpr (by omega))]
    exact Go.s ⟨rfl, C⟩
  | d + 1, i, N2 + 1, u, z, C, h1, h2, hr, hN => by
    have e1 := hr (i + 1) (by omega) (by omega)
    have ih := co_wl d (i + 1) N2 (sR u 54 i (th (z 16 (i + 1)))) (nS z 16 i (z 16 (i + 1))) C.wset (by rw [nS_ne (by omega), h1]; omega) (by omega) (fun j a b => by
      rw [nS_ne (by omega), ← hr j (by omega) (by omega)]
      unfold sR
      exact if_neg (by omega)) (by omega)
    unfold f_X3_takeFirst_22 g_X3_takeFirst_22
    rw [pt_d, C.i.1, h1, if_neg (fun y => by have := (i3_le (by omega) (by omega)).mp y; omega), i3_addL, if_neg (show ¬ (80 : Int32) ≤ i3 (i + 1) by rw [i3_Lle (by omega) (by decide)]; omega), i3_bI (by omega), decide_eq_true (by omega), ck_t, pt_d, i3_ix (by omega), i3_bI (by omega), decide_eq_true (by omega), ck_t, pt_d, i3_ix (by omega), show u.2 (53 + 1) (i + 1) = th (z 16 (i + 1)) from e1]
    exact ih
theorem cnt_fr : ∀ (d : Nat) (p : Nat → Bool), cnt (d + 1) p = (if p 0 = true then 1 else 0) + cnt d (fun j => p (j + 1))
  | 0, p => by simp [cnt]
  | d + 1, p => by
    show cnt (d + 1) p + (if p (d + 1) = true then 1 else 0) = _ + (cnt d (fun j => p (j + 1)) + (if p (d + 1) = true then 1 else 0))
    rw [cnt_fr d p]
    omega
theorem LI_wish {d : Nat} (H : LI n d0 0 g z) (hn : n + 1 ≤ 1000) (h0 : z 0 17 = d + 1) : LI (n + 1) d0 0 g (nS (shR d 0 (nS z 0 17 d)) 8 (z 16 0) (z 8 (z 16 0) + 1)) := by
  obtain ⟨hK, hT, hG, hF, hR, hL, hW, hO, hX, hB, hC, hS⟩ := LI_up H hn
  have hB0 := H.2.2.2.2.2.2.2.2.2.1
  have hw0 := hW.2 0 (by omega)
  generalize ho : z 16 0 = o at *
  generalize hs : nS (shR d 0 (nS z 0 17 d)) 8 o (z 8 o + 1) = s'
  have e : ∀ c, c ≠ 8 → c ≠ 16 → c ≠ 0 → s' c = z c := fun c a b d0 => by rw [← hs]; funext x; rw [nS_ne (fun q => a q.1), shR_ne _ _ _ _ _ b, nS_ne (fun q => d0 q.1)]
  have ez : ∀ x, x ≠ 17 → s' 0 x = z 0 x := fun x hx => by rw [← hs, nS_ne (by omega), shR_ne _ _ _ _ _ (by decide), nS_ne (by omega)]
  have k17 : s' 0 17 = d := by rw [← hs, nS_ne (by omega), shR_ne _ _ _ _ _ (by decide), nS_eq]
  have e8 : ∀ p, p ≠ o → s' 8 p = z 8 p := fun p hp => by rw [← hs, nS_ne (fun q => hp q.2), shR_ne _ _ _ _ _ (by decide), nS_ne (by omega)]
  have k8 : s' 8 o = z 8 o + 1 := by rw [← hs, nS_eq]
  have e16 : ∀ j, j < d → s' 16 j = z 16 (j + 1) := fun j hj => by rw [← hs, nS_ne (by omega), shR_16, if_pos (by omega), nS_ne (by omega)]
  clear hs
  have c4 := e 4 (by decide) (by decide) (by decide)
  have c12 := e 12 (by decide) (by decide) (by decide)
  have c1 := e 1 (by decide) (by decide) (by decide)
  have c2 := e 2 (by decide) (by decide) (by decide)
  have c3 := e 3 (by decide) (by decide) (by decide)
  have c5 := e 5 (by decide) (by decide) (by decide)
  have c6 := e 6 (by decide) (by decide) (by decide)
  have c7 := e 7 (by decide) (by decide) (by decide)
  have c9 := e 9 (by decide) (by decide) (by decide)
  have c10 := e 10 (by decide) (by decide) (by decide)
  have c11 := e 11 (by decide) (by decide) (by decide)
  have c13 := e 13 (by decide) (by decide) (by decide)
  have c14 := e 14 (by decide) (by decide) (by decide)
  have c18 := e 18 (by decide) (by decide) (by decide)
  have hwt : ∀ p, wT z p = wT s' p + (if p = o then 1 else 0) := fun p => by
    unfold wT
    rw [h0, k17, cnt_fr, ho]
    have e1 : cnt d (fun j => s' 16 j == p) = cnt d (fun j => z 16 (j + 1) == p) := cnt_congr (fun j hj => by rw [e16 j hj])
    rw [e1]
    by_cases y : p = o
    · subst y; simp; omega
    · simp [y, Ne.symm y]
  refine ⟨iK_c c1 c2 c3 hK, fun p hp => ?_, iG_c c2 c4 c7 c13 hG, iF_c c1 c4 c12 hF, fun p hp h4p => ?_, ?_, ⟨by rw [k17]; have := hW.1; omega, fun j hj => ?_⟩, iO_c c4 c13 hO, iX_c c4 c18 hX, ⟨fun p hp h4p => ?_, ?_, hn⟩, ?_, ⟨fun j hj => by omega, fun p hp h4p h11p h5p => ?_⟩⟩
  · have := hT p hp
    unfold vo nfo at *
    rw [c4, c1, c5, c6, c9, c10, c11, c12]
    exact this
  · rw [c4] at h4p
    have := hR p hp h4p
    rw [hwt] at this
    rw [eT_c c4 c12, c5]
    by_cases y : p = o
    · subst y; rw [if_pos rfl] at this; rw [k8]; omega
    · rw [if_neg y] at this; rw [e8 p y]; omega
  · unfold iL at *; rw [ez 15 (by decide), c9, c14]; exact hL
  · rw [k17] at hj
    have h1 := hW.2 (j + 1) (by omega)
    rw [e16 j hj, c4, c10]
    refine ⟨h1.1, h1.2.1, h1.2.2.1, fun i hi => ?_⟩
    rw [e16 i (by omega)]
    exact h1.2.2.2 (i + 1) (by omega)
  · rw [c4] at h4p
    by_cases y : p = o
    · subst y; rw [k8]; have := hB0.1 p hp h4p; omega
    · rw [e8 p y]; exact hB.1 p hp h4p
  · rw [TT_c c4, ez 20 (by decide)]; exact hB.2.1
  · unfold iC at *; rw [c4, c6]; exact hC
  · rw [c4] at h4p
    rw [c11] at h11p
    rw [c5] at h5p
    exact hS.2 p hp h4p h11p h5p
theorem st_wish (hN : 5000 ≤ N) (J : Jk k u) (hk : k + 1 ≤ 1000) : St1 k (f_X7_wish N u) (f_X8_wish N) := by
  obtain ⟨th, g, s, H, C, M, hd⟩ := J
  have C0 := CRr_0 (kx := 0) C
  have hM2 : ∀ u1, Ms u1 u1 s → Ms u1 (sI u1 0 0 0) (nS s 0 0 0) := fun u1 M1 => Ms_0 M1 rfl
  have H0 : LI k d0 0 g (nS s 0 0 0) := LI_0 (by decide) H
  clear C H
  generalize nS s 0 0 0 = z at *
  have hW := H0.2.2.2.2.2.2.1
  by_cases h0 : z 0 17 = 0
  · refine St1.mk (th := th) (g' := g) (s' := z) (a := -1) M ?_ (fun u1 M1 => ?_) (LI_up H0 hk)
    · unfold f_X7_wish f_X3_takeFirst f_X3_item
      rw [if_neg (by decide), pt_d, C0.i.1, h0, if_pos (by decide), bd_s, nl_n, bd_s, nl_n]
      exact Go.s ⟨rfl, C0⟩
    · unfold f_X8_wish
      rw [pt_d, pt_d, (hM2 u1 M1).mr.g0 (k := 17) (by simp [nsc]), h0, if_pos (by decide)]
      exact Go.s ⟨rfl, hM2 u1 M1⟩
  · obtain ⟨d, hd1⟩ : ∃ d, z 0 17 = d + 1 := ⟨z 0 17 - 1, by omega⟩
    have hw0 := hW.2 0 (by omega)
    have hL := LI_wish H0 hk hd1
    have hth := ((C0.cs hw0.1).2 hw0.2.1).2
    have e0 : u.2 54 0 = th (z 16 0) := C0.i.2 0 (by omega)
    have hz1 : ¬ i3 (d + 1) ≤ (0 : Int32) := fun y => by
      have := (i3_le (a := d + 1) (b := 0) (by have := hW.1; omega) (by omega)).mp y
      omega
    have hz2 : ¬ i3 (d + 1) = (0 : Int32) := fun y => by
      have := (i3_eqL (by have := hW.1; omega) (by decide)).mp y
      omega
    have hd80 : d < 80 := by have := hW.1; omega
    cases hc : th (z 16 0) with
    | none => exact absurd hc hth
    | some t =>
    rw [hc] at e0
    refine St1.mk (th := th) (g' := g) (s' := nS (shR d 0 (nS z 0 17 d)) 8 (z 16 0) (z 8 (z 16 0) + 1)) (a := i3 (z 16 0)) M ?_ (fun u1 M1 => ?_) hL
    · unfold f_X7_wish f_X3_takeFirst f_X3_item
      rw [if_neg (by decide), pt_d, C0.i.1, hd1, if_neg hz1, if_neg (by decide), show bI 0 80 = true by decide, ck_t, pt_d, show u.2 (53 + 1) (ix 0) = some t from e0, bd_s, nl_s, pt_d, C0.i.1, hd1, i3_subL (n := 1) (by omega), show d + 1 - OfNat.ofNat 1 = d from rfl, pt_d]
      have C1 := C0.wdec (v := d) (by omega)
      have C2 := co_wl (t := t) (N := N) d 0 N _ _ C1 (by rw [nS_eq]; omega) (by omega) (fun j a b => by
        rw [nS_ne (by omega)]
        exact C0.i.2 j (by omega)) (by omega)
      refine Go.bd C2 (fun x1 u2 hx => ?_)
      obtain ⟨hx1, C3⟩ := hx
      have hx1 : x1 = some t := hx1
      subst hx1
      have C3 : CR th (z 0 15) (z 14) 0 g (fun _ => False) (FW z) (TT z) u u2 (shR d 0 (nS z 0 17 d)) := C3
      have e8 : shR d 0 (nS z 0 17 d) 8 (z 16 0) = z 8 (z 16 0) := by rw [shR_ne _ _ _ _ _ (by decide), nS_ne (by omega)]
      rw [nl_s, pt_d, C3.a4 hc, e8, i3_addL, pt_d]
      have C4 : CR th (z 0 15) (z 14) 0 g (fun _ => False) (FW z) (TT z) u (sI u2 t 4 (i3 (z 8 (z 16 0) + 1))) (nS (shR d 0 (nS z 0 17 d)) 8 (z 16 0) (z 8 (z 16 0) + 1)) := C3.t4 hc
      rw [pt_d, C4.a0 hc]
      refine Go.s ⟨rfl, ?_⟩
      have f : ∀ c, c ≠ 8 → c ≠ 16 → c ≠ 0 → nS (shR d 0 (nS z 0 17 d)) 8 (z 16 0) (z 8 (z 16 0) + 1) c = z c := fun c a b d0 => by funext x; rw [nS_ne (fun q => a q.1), shR_ne _ _ _ _ _ b, nS_ne (fun q => d0 q.1)]
      unfold CRr
      rw [FW_c (f 13 (by decide) (by decide) (by decide)), TT_c (f 4 (by decide) (by decide) (by decide)), f 14 (by decide) (by decide) (by decide), show nS (shR d 0 (nS z 0 17 d)) 8 (z 16 0) (z 8 (z 16 0) + 1) 0 15 = z 0 15 by rw [nS_ne (by omega), shR_ne _ _ _ _ _ (by decide), nS_ne (by omega)]]
      exact C4
    · unfold f_X8_wish
      have M2 := hM2 u1 M1
      rw [pt_d, pt_d, M2.mr.g0 (k := 17) (by simp [nsc]), hd1, if_neg hz2, show bI 0 80 = true by decide, ck_t, pt_d, show ix 0 = 0 from rfl, M2.mr.g16 (by decide), pt_d, i3_subL (n := 1) (by omega), show d + 1 - OfNat.ofNat 1 = d from rfl, pt_d]
      have M3 : MR (sI u1 0 0 0) (sI (sI u1 0 0 0) 0 17 (i3 d)) (nS z 0 17 d) := M2.mr.set (c := 0) (k := 17) (v := d) (w := i3 d) (by simp [nsc]) rfl
      have h := mo_wl (N := N) d 0 N _ _ M3 (by rw [nS_eq]; omega) (by omega) hw0.1 (by omega)
      refine Go.mono h (fun x hx => ?_)
      refine ⟨hx.1, M2.step ?_⟩
      have e8 : nS z 0 17 d 8 (z 16 0) = z 8 (z 16 0) := nS_ne (by omega)
      have := hx.2
      rw [e8] at this
      exact this
end WSC

def clrW (o w : Nat) (s : Sm) : Sm := fun c k => if c = 13 ∧ k < w ∧ s 13 k = o + 1 then 0 else s c k
section MFR
variable {r u : Mm} {s : Sm} {o N : Nat}
theorem clrW_s {w : Nat} : nS (clrW o w s) 13 w (if s 13 w = o + 1 then 0 else s 13 w) = clrW o (w + 1) s := by
  funext c k
  unfold nS clrW
  grind
theorem wkO_s2 {w : Nat} : nS (wkO o w s) 18 w (if s 18 w = o + 1 then 0 else s 18 w) = wkO o (w + 1) s := by
  funext c k
  unfold nS wkO
  grind
theorem lo_m18 (ho : o < 80) (h18 : ∀ w, w < 20 → s 18 w ≤ 80) (hf : s 0 20 < 2000000000) :
    ∀ (j w : Nat) (u : Mm), w ≤ 20 → 20 - w < j → MR r u (wkO o w s) →
    Go (f_X8_free_43 N j (i3 o) (i3 w) u) (fun u' => MR r u' (nS (nS (nS (nS (wkO o 20 s) 4 o 0) 11 o 0) 19 (s 0 20 % 100) o) 0 20 (s 0 20 + 1))) := by
  intro j
  induction j with
  | zero => intro w u _ hj; omega
  | succ j ih =>
    intro w u hw hj h
    show Go (g_X8_free_43 N (f_X8_free_43 N j) (i3 o) (i3 w) u) _
    unfold g_X8_free_43
    by_cases hw2 : 20 ≤ w
    · rw [if_pos ((i3_Lle (by omega) (by decide)).mpr hw2)]
      have : w = 20 := by omega
      subst this
      rw [i3_bI (by omega), decide_eq_true ho, ck_t, pt_d, i3_ix (by omega)]
      have h1 := h.set (c := 4) (k := o) (v := 0) (w := -1) (by simp [nsc] <;> omega) rfl
      have h2 := h1.set (c := 11) (k := o) (v := 0) (w := vp_nar .boolean 0) (by simp [nsc] <;> omega) (by decide)
      have e20 : nS (nS (wkO o 20 s) 4 o 0) 11 o 0 0 20 = s 0 20 := by
        rw [nS_ne (by omega), nS_ne (by omega)]
        unfold wkO
        rw [if_neg (by omega)]
      rw [ck_t, pt_d, pt_d, h2.g0 (k := 20) (by simp [nsc]), e20, i3_mod (by omega), i3_bI (by omega), decide_eq_true (by omega), ck_t, pt_d, i3_ix (by omega)]
      have h3 := h2.set (c := 19) (k := s 0 20 % 100) (v := o) (w := i3 o) (by simp [nsc] <;> omega) rfl
      rw [pt_d, h3.g0 (k := 20) (by simp [nsc]), nS_ne (by omega), e20, i3_addL, pt_d]
      exact Go.s (h3.set (by simp [nsc] <;> omega) rfl)
    · rw [if_neg (fun z => hw2 ((i3_Lle (by omega) (by decide)).mp z))]
      have e18 : wkO o w s 18 w = s 18 w := by unfold wkO; rw [if_neg (by omega)]
      have b18 := h18 w (by omega)
      have z : oI (s 18 w) = i3 o ↔ s 18 w = o + 1 := oI_eqi (by omega) (by omega)
      rw [i3_bI (by omega), decide_eq_true (by omega), ck_t, pt_d, i3_ix (by omega), h.g18 (by omega), e18]
      unfold f_X8_free_74
      rw [i3_bI (by omega), decide_eq_true (by omega)]
      have hs := wkO_s2 (o := o) (w := w) (s := s)
      by_cases hc : s 18 w = o + 1
      · rw [if_pos (z.mpr hc), ck_t, pt_d, i3_ix (by omega), i3_addL]
        rw [if_pos hc] at hs
        refine ih (w + 1) _ (by omega) (by omega) ?_
        rw [← hs]
        exact h.set (by simp [nsc] <;> omega) rfl
      · rw [if_neg (fun q => hc (z.mp q)), ck_t, pt_d, ck_t, pt_d, i3_ix (by omega), i3_addL]
        rw [if_neg hc] at hs
        refine ih (w + 1) _ (by omega) (by omega) ?_
        rw [← hs]
        exact h.set (by simp [nsc] <;> omega) rfl
theorem lo_m13 (hN : 1000 ≤ N) (ho : o < 80) (h13 : ∀ w, w < 400 → s 13 w ≤ 80) (h18 : ∀ w, w < 20 → s 18 w ≤ 80) (hf : s 0 20 < 2000000000) :
    ∀ (j w : Nat) (u : Mm), w ≤ 400 → 400 - w < j → MR r u (clrW o w s) → Go (f_X8_free_2 N j (i3 o) (i3 w) u) (fun u' => MR r u' (freeA o s)) := by
  intro j
  induction j with
  | zero => intro w u _ hj; omega
  | succ j ih =>
    intro w u hw hj h
    show Go (g_X8_free_2 N (f_X8_free_2 N j) (i3 o) (i3 w) u) _
    unfold g_X8_free_2
    by_cases hw2 : 400 ≤ w
    · rw [if_pos ((i3_Lle (by omega) (by decide)).mpr hw2)]
      have : w = 400 := by omega
      subst this
      have e20 : clrW o 400 s 0 20 = s 0 20 := by unfold clrW; rw [if_neg (by omega)]
      refine (lo_m18 (N := N) (s := clrW o 400 s) ho (fun w hw => ?_) (by rw [e20]; exact hf) N 0 u (by omega) (by omega) (by rw [wkO_0]; exact h)).mono (fun u1 h1 => ?_)
      · unfold clrW
        rw [if_neg (by omega)]
        exact h18 w hw
      · have e : nS (nS (nS (nS (wkO o 20 (clrW o 400 s)) 4 o 0) 11 o 0) 19 (clrW o 400 s 0 20 % 100) o) 0 20 (clrW o 400 s 0 20 + 1) = freeA o s := by
          rw [e20]
          funext c k
          unfold nS wkO clrW freeA
          grind
        rw [← e]
        exact h1
    · rw [if_neg (fun z => hw2 ((i3_Lle (by omega) (by decide)).mp z))]
      have e13 : clrW o w s 13 w = s 13 w := by unfold clrW; rw [if_neg (by omega)]
      have b13 := h13 w (by omega)
      have z : oI (s 13 w) = i3 o ↔ s 13 w = o + 1 := oI_eqi (by omega) (by omega)
      rw [i3_bI (by omega), decide_eq_true (by omega), ck_t, pt_d, i3_ix (by omega), h.g13 (by omega), e13]
      unfold f_X8_free_34
      rw [i3_bI (by omega), decide_eq_true (by omega)]
      have hs := clrW_s (o := o) (w := w) (s := s)
      by_cases hc : s 13 w = o + 1
      · rw [if_pos (z.mpr hc), ck_t, pt_d, i3_ix (by omega), i3_addL]
        rw [if_pos hc] at hs
        refine ih (w + 1) _ (by omega) (by omega) ?_
        rw [← hs]
        exact h.set (by simp [nsc] <;> omega) rfl
      · rw [if_neg (fun q => hc (z.mp q)), ck_t, pt_d, ck_t, pt_d, i3_ix (by omega), i3_addL]
        rw [if_neg hc] at hs
        refine ih (w + 1) _ (by omega) (by omega) ?_
        rw [← hs]
        exact h.set (by simp [nsc] <;> omega) rfl
theorem mo_free (hN : 1000 ≤ N) (h : MR r u s) (ho : o < 80) (h13 : ∀ w, w < 400 → s 13 w ≤ 80) (h18 : ∀ w, w < 20 → s 18 w ≤ 80) (hf : s 0 20 < 2000000000) : Go (f_X8_free N (i3 o) u) (fun u' => MR r u' (freeA o s)) := by
  have e : clrW o 0 s = s := by
    funext c k
    unfold clrW
    rw [if_neg (by omega)]
  exact lo_m13 hN ho h13 h18 hf N 0 u (by omega) (by omega) (by rw [e]; exact h)
end MFR
section CFI
variable {th : Nat → Option Nat} {n m fw tt : Nat} {l g : Nat → Nat} {q : Nat → Prop} {r u : Mm} {s : Sm} {o t v N : Nat}
def ff (s : Sm) (o : Nat) : Nat := if s 12 (6 * o + 0) ≠ 0 then 0 else if s 12 (6 * o + 1) ≠ 0 then 1 else if s 12 (6 * o + 2) ≠ 0 then 2 else if s 12 (6 * o + 3) ≠ 0 then 3 else if s 12 (6 * o + 4) ≠ 0 then 4 else if s 12 (6 * o + 5) ≠ 0 then 5 else 6
theorem ff_of {f : Nat} (hf : f < 6) (h0 : ∀ j, j < f → s 12 (6 * o + j) = 0) (h1 : s 12 (6 * o + f) ≠ 0) : ff s o = f := by
  unfold ff
  have g0 := h0 0
  have g1 := h0 1
  have g2 := h0 2
  have g3 := h0 3
  have g4 := h0 4
  rcases (show f = 0 ∨ f = 1 ∨ f = 2 ∨ f = 3 ∨ f = 4 ∨ f = 5 by omega) with rfl | rfl | rfl | rfl | rfl | rfl <;> grind
theorem ff_6 (h0 : ∀ j, j < 6 → s 12 (6 * o + j) = 0) : ff s o = 6 := by
  unfold ff
  have g0 := h0 0
  have g1 := h0 1
  have g2 := h0 2
  have g3 := h0 3
  have g4 := h0 4
  have g5 := h0 5
  grind
theorem ff_le : ff s o ≤ 6 := by
  unfold ff
  grind
theorem ff_ne (h : ff s o < 6) : s 12 (6 * o + ff s o) ≠ 0 := by
  unfold ff at *
  grind
theorem ff_z {j : Nat} (h : j < ff s o) : s 12 (6 * o + j) = 0 := by
  apply Classical.byContradiction
  intro hc
  have h6 : ff s o ≤ 6 := ff_le
  have g0 : ∀ f, f < 6 → (∀ j, j < f → s 12 (6 * o + j) = 0) → s 12 (6 * o + f) ≠ 0 → ff s o = f := fun f a b c => ff_of a b c
  have key : ∀ k, k ≤ j → ∀ i, i < k → s 12 (6 * o + i) = 0 := by
    intro k
    induction k with
    | zero => intro _ i hi; omega
    | succ k ih =>
      intro hk i hi
      by_cases hik : i = k
      · subst hik
        apply Classical.byContradiction
        intro hc2
        have := g0 i (by omega) (ih (by omega)) hc2
        omega
      · exact ih (by omega) i (by omega)
  have := g0 j (by omega) (key j (Nat.le_refl _)) hc
  omega
theorem co_give (hq : q o) (ht : th o = some t) (h4 : s 4 o ≠ 0) (h11 : s 11 o = 0) (hth : ∀ f, f < 6 → s 12 (6 * o + f) ≠ 0 → th (s 12 (6 * o + f) - 1) ≠ none) :
    ∀ (j x : Nat) (u : Mm), x ≤ 6 → 6 - x < j → u.1 t 7 = i3 x → (∀ f, f < x → s 12 (6 * o + f) = 0) → CR th n l m g q fw tt r u s →
    Go (f_X5_giveUpNext_2 N t j none u) (fun z => (ff s o = 6 ∧ z.1 = none ∧ CR th n l m g q fw tt r z.2 s) ∨ (ff s o < 6 ∧ z.1 = th (s 12 (6 * o + ff s o) - 1) ∧ z.1 ≠ none ∧ CR th n l m g q fw tt r z.2 (nS s 12 (6 * o + ff s o) 0))) := by
  intro j
  induction j with
  | zero => intro x u _ hj; omega
  | succ j ih =>
    intro x u hx hj h7 hz h
    show Go (g_X5_giveUpNext_2 N t (f_X5_giveUpNext_2 N t j) none u) _
    unfold g_X5_giveUpNext_2
    rw [nl_n, pt_d, h7, if_neg (show ¬ i3 x < 0 by rw [i3_ltL (by omega) (by decide)]; omega), pt_d]
    by_cases hx6 : 6 ≤ x
    · rw [if_pos ((i3_Lle (by omega) (by decide)).mpr hx6)]
      exact Go.s (Or.inl ⟨ff_6 (fun j hj => hz j (by omega)), rfl, h⟩)
    · rw [if_neg (fun z => hx6 ((i3_Lle (by omega) (by decide)).mp z)), pt_d, i3_bI (by omega), decide_eq_true (by omega), ck_t, pt_d, i3_ix (by omega), h.h ht (by omega), pt_d, i3_bI (by omega), decide_eq_true (by omega), ck_t, pt_d, i3_ix (by omega)]
      have e7 : (sR u (t + 1) x none).1 t 7 = i3 x := h7
      rw [pt_d, e7, i3_addL, pt_d]
      by_cases hv : s 12 (6 * o + x) = 0
      · have h1 : CR th n l m g q fw tt r (sR u (t + 1) x none) (nS s 12 (6 * o + x) 0) := h.hd (v := 0) ht (by omega) (Or.inl rfl)
        rw [nS_id hv] at h1
        have h2 := h1.t7 ht (x := x + 1) (by omega) (Or.inr hq) (fun f hf => by
          by_cases e : f = x
          · rw [e]; exact hv
          · exact hz f (by omega))
        have e0 : oT th (s 12 (6 * o + x)) = none := by unfold oT; rw [if_pos hv]
        rw [e0]
        refine ih (x + 1) _ (by omega) (by omega) ?_ (fun f hf => by
          by_cases e : f = x
          · rw [e]; exact hv
          · exact hz f (by omega)) h2
        show (if t = t ∧ 7 = 7 then i3 (x + 1) else _) = i3 (x + 1)
        rw [if_pos ⟨rfl, rfl⟩]
      · have hff : ff s o = x := ff_of (by omega) hz hv
        have h1 : CR th n l m g q fw tt r (sR u (t + 1) x none) (nS s 12 (6 * o + x) 0) := h.hd (v := 0) ht (by omega) (Or.inl rfl)
        have h2 := h1.t7 ht (x := x + 1) (by omega) (Or.inr hq) (fun f hf => by
          by_cases e : f = x
          · rw [e]; exact nS_eq
          · rw [nS_ne (by omega)]; exact hz f (by omega))
        have e0 : oT th (s 12 (6 * o + x)) = th (s 12 (6 * o + x) - 1) := by unfold oT; rw [if_neg hv]
        rw [e0]
        have hne := hth x (by omega) hv
        cases hr : th (s 12 (6 * o + x) - 1) with
        | none => exact absurd hr hne
        | some a =>
          cases j with
          | zero => omega
          | succ j =>
            show Go (g_X5_giveUpNext_2 N t (f_X5_giveUpNext_2 N t j) (some a) _) _
            unfold g_X5_giveUpNext_2
            rw [nl_s]
            refine Go.s (Or.inr ⟨by omega, ?_, by simp, ?_⟩)
            · rw [hff, hr]
            · rw [hff]; exact h2
theorem co_finish (hN : 1000 ≤ N) (h : CR th n l m g q fw tt r u s) (ht : th o = some t) (hv : vo s o) (hg : geo s o) (h6 : s 6 o ≤ 4) (h9 : s 9 o ≤ 1) (hf : s 0 20 < 2000000000) (htt : 0 < tt) (hm : 0 < m) (hm8 : m ≤ 80) :
    Go (f_X1_finish N t u) (fun u' => CR th n l (m - 1) g (fun p => p ≠ o ∧ q p) (if s 9 o = 0 then fw + szo s o else fw) (if s 9 o = 0 then tt - 1 else tt) r u' (finA o s)) := by
  unfold f_X1_finish f_X3_removeLast
  have hm0 := h.cg.1
  refine Go.bv (P := fun u' => CR th n l (m - 1) g q fw tt r u' s) ?_ (fun u1 h1 => ?_)
  · rw [pt_d, hm0, if_neg (show ¬ i3 m ≤ 0 by rw [i3_leL (by omega) (by decide)]; omega), pt_d, pt_d, show i3 m - 1 = i3 (m - 1) from i3_subL (show 1 ≤ m by omega)]
    exact Go.s (h.pop hm)
  · refine Go.bv (co_blk h1 ht h6) (fun u2 h2 => ?_)
    have e9 : blk o s 9 o = s 9 o := nS_ne (by omega)
    have z9 : i3 (s 9 o) = 0 ↔ s 9 o = 0 := i3_eqL (by omega) (by decide)
    rw [pt_d, h2.a8 ht, e9]
    unfold finA
    by_cases hc : s 9 o = 0
    · rw [if_pos (z9.mpr hc), if_pos hc, if_pos hc, if_pos hc]
      have ev : vo (blk o s) o := by unfold vo blk nS at *; grind
      have eg : geo (blk o s) o := by unfold geo szo blk nS at *; grind
      have es : szo (blk o s) o = szo s o := by unfold szo blk nS; grind
      refine Go.bv (co_free hN h2 ht ev eg (by unfold blk; rw [nS_ne (by omega)]; exact hf) htt) (fun u3 h3 => Go.s ?_)
      rw [es] at h3
      refine h3.qm (fun p hp _ hq => ⟨?_, hq⟩)
      intro hpo
      subst hpo
      apply hp
      unfold freeA
      rw [if_neg (by omega), if_neg (by omega), if_pos ⟨rfl, rfl⟩]
    · rw [if_neg (fun z => hc (z9.mp z)), if_neg hc, if_neg hc, if_neg hc, pt_d]
      refine Go.s ((h2.t10 ht).qm (fun p _ hp hq => ⟨?_, hq⟩))
      intro hpo
      subst hpo
      rw [nS_eq] at hp
      cases hp
end CFI

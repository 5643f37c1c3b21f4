def giveO (a b o : Nat) (s : Sm) : Sm := fun c k => if c = 13 ∧ a ≤ k ∧ k < b then o + 1 else s c k
section PKB
variable {th : Nat → Option Nat} {n m fw tt w k : Nat} {l g : Nat → Nat} {q : Nat → Prop} {r u : Mm} {s : Sm} {o t v N : Nat}
theorem giveO_s {a : Nat} (h : a ≤ w) : nS (giveO a w o s) 13 w (o + 1) = giveO a (w + 1) o s := by
  funext c k
  unfold nS giveO
  by_cases hc : c = 13
  · subst hc
    by_cases hk : k = w
    · subst hk
      rw [if_pos ⟨rfl, rfl⟩, if_pos ⟨rfl, h, by omega⟩]
    · rw [if_neg (fun q => hk q.2)]
      by_cases hz : a ≤ k ∧ k < w
      · rw [if_pos ⟨rfl, hz⟩, if_pos ⟨rfl, hz.1, by omega⟩]
      · rw [if_neg (fun q => hz q.2), if_neg (fun q => hz ⟨q.2.1, by omega⟩)]
  · rw [if_neg (fun q => hc q.1), if_neg (fun q => hc q.1), if_neg (fun q => hc q.1)]
theorem giveO_0 {a : Nat} : giveO a a o s = s := by
  funext c k
  unfold giveO
  rw [if_neg (by omega)]
theorem lo_gv {a e : Nat} (he : e ≤ 400) (ht : th o = some t) {Q : Mm → Prop} (hk : ∀ u', CR th n l m g q fw tt r u' (giveO a e o s) → Go (f_X6_give_46 N t (i3 a) u') Q) :
    ∀ (j w : Nat) (u : Mm), a ≤ w → w ≤ e → e - w < j → CR th n l m g q fw tt r u (giveO a w o s) → Go (f_X6_give_13 N t j (i3 a) (i3 e) (i3 w) u) Q := by
  intro j
  induction j with
  | zero => intro w u _ _ hj; omega
  | succ j ih =>
    intro w u haw hwe hj h
    show Go (g_X6_give_13 N t (f_X6_give_13 N t j) (i3 a) (i3 e) (i3 w) u) Q
    unfold g_X6_give_13
    rw [if_neg (show ¬ i3 w < 0 by rw [i3_ltL (by omega) (by decide)]; omega)]
    by_cases hwe2 : e ≤ w
    · rw [if_pos ((i3_le (by omega) (by omega)).mpr hwe2)]
      have : w = e := by omega
      subst this
      exact hk u h
    · rw [if_neg (fun z => hwe2 ((i3_le (by omega) (by omega)).mp z)), if_neg (show ¬ (400 : Int32) ≤ i3 w by rw [i3_Lle (by omega) (by decide)]; omega)]
      refine Go.ck (by rw [i3_bI (by omega)]; exact decide_eq_true (by omega)) ?_
      rw [pt_d, i3_ix (by omega), i3_addL]
      refine ih (w + 1) _ (by omega) (by omega) (by omega) ?_
      rw [← giveO_s haw]
      have e1 : oT th (o + 1) = some t := by unfold oT; rw [if_neg (by omega)]; exact ht
      rw [← e1]
      exact h.ow (v := o + 1)
theorem co_giveW (hN : 1000 ≤ N) {a : Nat} (h : CR th n l m g q fw tt r u s) (ht : th o = some t) (hv : vo s o) (ha : a + szo s o ≤ 400) (hf : szo s o ≤ fw) :
    Go (f_X6_give N t (i3 a) u) (fun u' => CR th n l m g q (fw - szo s o) tt r u' (nS (giveO a (a + szo s o) o s) 7 o a)) := by
  obtain ⟨kd, k1, k2, k3, k4, k5, k6, k7⟩ := h.kd ht hv
  unfold f_X6_give
  simp only [pt_d, k1, nl_s, k6, i3_add]
  refine lo_gv ha ht (fun u1 h1 => ?_) N a u (Nat.le_refl _) (by omega) (by omega) (by rw [giveO_0]; exact h)
  have hv1 : vo (giveO a (a + szo s o) o s) o := by
    unfold vo giveO at *
    rw [if_neg (by omega), if_neg (by omega)]
    exact hv
  have e1 : szo (giveO a (a + szo s o) o s) o = szo s o := by
    show (giveO a (a + szo s o) o s) 2 ((giveO a (a + szo s o) o s) 4 o - 1) = s 2 (s 4 o - 1)
    unfold giveO
    rw [if_neg (by omega), if_neg (by omega)]
  have h2 := h1.t6 (v := a) ht
  have hv2 : vo (nS (giveO a (a + szo s o) o s) 7 o a) o := by
    unfold vo at *
    rw [nS_ne (by omega), nS_ne (by omega)]
    exact hv1
  obtain ⟨kd', k1, k2, k3, k4, k5, k6, k7⟩ := h2.kd ht hv2
  have e2 : szo (nS (giveO a (a + szo s o) o s) 7 o a) o = szo s o := by
    refine Eq.trans ?_ e1
    show (nS (giveO a (a + szo s o) o s) 7 o a) 2 ((nS (giveO a (a + szo s o) o s) 7 o a) 4 o - 1) = (giveO a (a + szo s o) o s) 2 ((giveO a (a + szo s o) o s) 4 o - 1)
    rw [nS_ne (by omega), nS_ne (by omega)]
  unfold f_X6_give_46
  simp only [pt_d, h2.c.1, k1, nl_s, k6, e2, i3_sub hf]
  exact Go.s (h2.fwd (v := fw - szo s o))
theorem pc_f {c : Nat} (h : c ≠ 13) (h7 : c ≠ 7) : pc w s c = s c := by
  funext k
  unfold pc
  rw [if_neg (fun z => h z.1), if_neg (fun z => h7 z.1)]
theorem pm_f {c : Nat} (h : c ≠ 13) (h7 : c ≠ 7) : pm w s c = s c := by
  funext k
  unfold pm
  rw [if_neg (fun z => h z.1), if_neg (fun z => h7 z.1)]
theorem packA_f {c : Nat} (h : c ≠ 13) (h7 : c ≠ 7) : packA s c = s c := by
  funext k
  unfold packA
  rw [if_neg (fun z => h z.1), if_neg (fun z => h7 z.1)]
theorem pc_own (H : PG s) (C : CR th n l m g q fw tt r u (pc w s)) (hw : w < 400) : pc w s 13 w ≠ 0 → th (pc w s 13 w - 1) ≠ none ∧ pc w s 7 (pc w s 13 w - 1) < 2147483648 := fun h0 => by
  have key : ∃ o, o < 80 ∧ s 4 o ≠ 0 ∧ pc w s 13 w = o + 1 := by
    have e13 : pc w s 13 w = if w < pn s w then FL s w w else if s 13 w ≠ 0 ∧ s 7 (s 13 w - 1) < w then 0 else s 13 w := by
      unfold pc
      rw [if_pos ⟨rfl, hw⟩]
    by_cases a : w < pn s w
    · rw [if_pos a] at e13
      rcases FL_zero H w (by omega) w with z | ⟨o, ho, h4, z⟩
      · rw [e13] at h0; exact absurd z h0
      · exact ⟨o, ho, h4, by rw [e13, z]⟩
    · rw [if_neg a] at e13
      by_cases b : s 13 w ≠ 0 ∧ s 7 (s 13 w - 1) < w
      · rw [if_pos b] at e13; exact absurd e13 h0
      · rw [if_neg b] at e13
        rw [e13] at h0
        have h2 := PG_own H hw h0
        exact ⟨s 13 w - 1, h2.1, h2.2.1, by rw [e13]; omega⟩
  obtain ⟨o, ho, h4, e⟩ := key
  rw [e, show o + 1 - 1 = o by omega]
  have f4 : pc w s 4 = s 4 := pc_f (by decide) (by decide)
  refine ⟨((C.cs ho).2 (by rw [f4]; exact h4)).2, ?_⟩
  have hg := (H.1 o ho h4).1.1
  unfold pc
  rw [if_neg (by omega)]
  split
  · have := pn_400 H (w := s 7 o) (by omega)
    omega
  · omega
theorem co_moveLoop (hN : 5000 ≤ N) (H : PG s) (hvo : ∀ o, o < 80 → s 4 o ≠ 0 → vo s o) : ∀ (j w : Nat) (u : Mm), w ≤ 400 → 400 - w < j → CR th n l m g q fw tt r u (pc w s) →
    Go (f_X6_moveAllDown_6 N j (i3 (mvd s w)) (i3 (pn s w)) (i3 w) u) (fun z => z.1 = i3 (mvd s 400) ∧ CR th n l m g q fw tt r z.2 (packA s)) := by
  intro j
  induction j with
  | zero => intro w u _ hj; omega
  | succ j ih =>
    intro w u hw hj C
    show Go (g_X6_moveAllDown_6 N (f_X6_moveAllDown_6 N j) (i3 (mvd s w)) (i3 (pn s w)) (i3 w) u) _
    unfold g_X6_moveAllDown_6
    by_cases hw4 : 400 ≤ w
    · rw [if_pos ((i3_Lle (by omega) (by decide)).mpr hw4)]
      have : w = 400 := by omega
      subst this
      rw [pc_end H] at C
      exact Go.s ⟨rfl, C⟩
    · have hw3 : w < 400 := by omega
      rw [if_neg (fun z => hw4 ((i3_Lle (by omega) (by decide)).mp z)), co_ownerFrom C hw3 (pc_own H C hw3), bd_s]
      have hbb := pc_bs H hw3
      rw [hbb.1]
      cases hb : bs s w with
      | false =>
        rw [if_neg (by decide), nl_n]
        unfold f_X6_moveAllDown_57
        rw [i3_addL]
        have e1 : mvd s (w + 1) = mvd s w := by
          show mvd s w + _ = _
          rw [if_neg (fun z => by rw [hb] at z; cases z.1)]; rfl
        have e2 : pn s (w + 1) = pn s w := by show pn s w + _ = _; rw [hb]; rfl
        have := ih (w + 1) u (by omega) (by omega) (by rw [pc_stay H hw3 hb]; exact C)
        rw [e1, e2] at this
        exact this
      | true =>
        rw [if_pos rfl]
        have h1 := bs_t.mp hb
        have h2 := PG_own H hw3 h1.1
        have hg := H.1 _ h2.1 h2.2.1
        have hle := pn_le H hw3 hb
        have h400 := pn_400 H (show w + 1 ≤ 400 by omega)
        rw [pn_succ hb] at h400
        have hpc := hbb.2 hb
        rw [hpc.1]
        have hstep := pc_step H hw3 hb
        have e2 := pn_succ hb
        generalize ho : s 13 w - 1 = o at *
        have f4 : pc w s 4 = s 4 := pc_f (by decide) (by decide)
        have f1 : pc w s 1 = s 1 := pc_f (by decide) (by decide)
        have f2 : pc w s 2 = s 2 := pc_f (by decide) (by decide)
        have hth := ((C.cs h2.1).2 (by rw [f4]; exact h2.2.1)).2
        cases hc : th o with
        | none => exact absurd hc hth
        | some t =>
          rw [nl_s]
          have hvs := hvo o h2.1 h2.2.1
          have hv : vo (pc w s) o := by unfold vo at *; rw [f4, f1]; exact hvs
          have esz : szo (pc w s) o = szo s o := by unfold szo; rw [f2, f4]
          have tail : ∀ (u' : Mm) (x : Nat), CR th n l m g q fw tt r u' (pc (w + 1) s) → x = mvd s (w + 1) → Go (f_X6_moveAllDown_46 N (f_X6_moveAllDown_6 N j) (i3 x) (i3 (pn s w)) (i3 w) t u') (fun z => z.1 = i3 (mvd s 400) ∧ CR th n l m g q fw tt r z.2 (packA s)) := fun u' x C' hx => by
            have g4 : pc (w + 1) s 4 = s 4 := pc_f (by decide) (by decide)
            have g1 : pc (w + 1) s 1 = s 1 := pc_f (by decide) (by decide)
            have g2 : pc (w + 1) s 2 = s 2 := pc_f (by decide) (by decide)
            obtain ⟨kd, k1, k2, k3, k4, k5, k6, k7⟩ := C'.kd hc (by unfold vo at *; rw [g4, g1]; exact hvs)
            have esz' : szo (pc (w + 1) s) o = szo s o := by unfold szo; rw [g2, g4]
            unfold f_X6_moveAllDown_46 f_X6_moveAllDown_57
            rw [pt_d, k1, nl_s, pt_d, k6, esz', i3_add, i3_addL, hx]
            have := ih (w + 1) u' (by omega) (by omega) C'
            rw [e2] at this
            exact this
          by_cases hpn : w = pn s w
          · rw [if_pos ((i3_eq (by omega) (by omega)).mpr hpn)]
            refine tail u _ ?_ ?_
            · have e : pc (w + 1) s = pc w s := by
                funext c k
                rw [hstep k c]
                by_cases a : c = 7 ∧ k = o
                · rw [if_pos a, a.1, a.2, hpc.2]; exact hpn.symm
                · rw [if_neg a]
                  by_cases b : c = 13 ∧ pn s w ≤ k ∧ k < pn s w + szo s o
                  · rw [if_pos b, b.1]
                    have h5 := (hg.1.2 k (by omega)).mpr (by rw [h1.2]; omega)
                    unfold pc
                    rw [if_pos ⟨rfl, by omega⟩, if_neg (by omega), if_neg (fun z => by rw [h5, show o + 1 - 1 = o by omega] at z; omega), h5]
                    omega
                  · rw [if_neg b, if_neg (fun z => b (by rw [← hpn]; exact z))]
              rw [e]
              exact C
            · show mvd s w = mvd s w + _
              rw [if_neg (fun z => z.2 hpn)]
              rfl
          · rw [if_neg (fun z => hpn ((i3_eq (by omega) (by omega)).mp z))]
            refine Go.bv (co_takeBack (by omega) C hc hv (by rw [hpc.2, esz]; have := hg.1.1; rw [h1.2] at this; exact this)) (fun u1 C1 => ?_)
            rw [hpc.2, esz] at C1
            have hv1 : vo (clrO w (w + szo s o) (pc w s)) o := by
              unfold vo clrO at *
              rw [if_neg (by omega), if_neg (by omega)]
              exact hv
            have esz1 : szo (clrO w (w + szo s o) (pc w s)) o = szo s o := by
              rw [← esz]
              unfold szo clrO
              rw [if_neg (by omega), if_neg (by omega)]
            refine Go.bv (co_giveW (a := pn s w) (by omega) C1 hc hv1 (by rw [esz1]; omega) (by rw [esz1]; omega)) (fun u2 C2 => ?_)
            rw [esz1, show fw + szo s o - szo s o = fw by omega] at C2
            rw [i3_addL]
            refine tail u2 _ ?_ ?_
            · have e : pc (w + 1) s = nS (giveO (pn s w) (pn s w + szo s o) o (clrO w (w + szo s o) (pc w s))) 7 o (pn s w) := by
                funext c k
                rw [hstep k c]
                unfold nS giveO clrO
                have e3 : s 13 w = o + 1 := by omega
                rw [e3]
              rw [e]
              exact C2
            · show mvd s w + 1 = mvd s w + _
              rw [if_pos ⟨hb, hpn⟩]
theorem co_move (hN : 5000 ≤ N) {d : Nat → Nat} {m0 : Nat} {g0 : Nat → Nat} {n0 : Nat} (H : LI n0 d m0 g0 s) (C : CR th n l m g q fw tt r u s) :
    Go (f_X6_moveAllDown N u) (fun z => z.1 = i3 (mvd s 400) ∧ CR th n l m g q fw tt r z.2 (packA s)) := by
  unfold f_X6_moveAllDown
  exact co_moveLoop hN (LI_PG H) (fun o ho h4 => ((H.2.1 o ho).1 h4).1) N 0 u (by omega) (by omega) (by rw [pc_0]; exact C)
end PKB

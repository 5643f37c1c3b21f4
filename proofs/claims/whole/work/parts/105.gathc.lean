def emptA (s : Sm) : Sm := fun c k => if c = 9 ∧ k < 80 then 0 else if c = 0 ∧ k = 15 then 0 else s c k
section GCS
variable {th : Nat → Option Nat} {n n0 m fw tt w : Nat} {l l0 g : Nat → Nat} {q : Nat → Prop} {r u : Mm} {s s1 s2 : Sm} {o t v N k h p i : Nat} {De : Nat → Bool}
theorem empt_start (H : WK n s) (h11 : ∀ o, o < 80 → s 4 o = 0 → s 11 o = 0) : GK n (fun _ => false) 0 (emptA s) (emptA s) := by
  obtain ⟨⟨hK, hT, hG, hFi, hR, hW, hO, hX, hB⟩, hA, hD, hWc⟩ := H
  have e : ∀ c, c ≠ 9 → c ≠ 0 → emptA s c = s c := fun c a b => by
    funext k
    unfold emptA
    rw [if_neg (fun z => a z.1), if_neg (fun z => b z.1)]
  have e0 : ∀ k, k ≠ 15 → emptA s 0 k = s 0 k := fun k hk => by
    unfold emptA
    rw [if_neg (by omega), if_neg (fun z => hk z.2)]
  have c4 := e 4 (by decide) (by decide)
  have c6 := e 6 (by decide) (by decide)
  have c12 := e 12 (by decide) (by decide)
  have c1 := e 1 (by decide) (by decide)
  refine ⟨iK_c c1 (e 2 (by decide) (by decide)) (e 3 (by decide) (by decide)) hK, fun o ho => ?_, iG_c (e 2 (by decide) (by decide)) c4 (e 7 (by decide) (by decide)) (e 13 (by decide) (by decide)) hG, fun i hi h4 => ?_, fun o ho h4 => ?_, ?_, iO_c c4 (e 13 (by decide) (by decide)) hO, iX_c c4 (e 18 (by decide) (by decide)) hX, iB_c c4 (e 8 (by decide) (by decide)) (e0 20 (by decide)) hB, ?_, fun _ _ _ _ => Nat.zero_le _, fun x _ => Or.inr rfl, rfl, fun j hj => by cases hj⟩
  · have k9 : emptA s 9 o = 0 := by unfold emptA; rw [if_pos ⟨rfl, ho⟩]
    unfold vo nfo
    rw [k9, c4, c1, c6, e 10 (by decide) (by decide), e 11 (by decide) (by decide), e 5 (by decide) (by decide)]
    refine ⟨rfl, h11 o ho, fun h4 => ?_⟩
    have ht := hT o ho h4
    have ha := hA o ho h4
    unfold vo nfo at ht
    refine ⟨ht.1, by have := ht.2.1; omega, ht.2.2.2.1, ha.2.2, ht.2.2.2.2.2, fun z => hD o ho h4 z, fun z => hWc o ho h4 z⟩
  · rw [c4] at h4
    have h1 := hFi i hi h4
    have en : nfo (emptA s) (i / 6) = nfo s (i / 6) := by unfold nfo; rw [c4, c1]
    rw [c12, en, c6, c4]
    refine ⟨h1.1, fun z => ⟨(h1.2 z).1, (hT _ (by omega) (h1.2 z).2).2.1, fun _ => (h1.2 z).2, fun _ _ => (h1.2 z).2⟩⟩
  · rw [c4] at h4
    have h1 := hR o ho h4
    have e3 : eG (fun _ => false) (emptA s) o = eK s o := cnt_congr (fun i hi => by
      rw [c4, c12, c6]
      by_cases y : s 4 (i / 6) ≠ 0
      · have h6 := (hA (i / 6) (by omega) y).1
        have q1 : (s 6 (i / 6) == 1) = false := by simpa using h6
        rw [q1]
        simp
      · have : decide (s 4 (i / 6) ≠ 0) = false := decide_eq_false y
        rw [this]; rfl)
    have e4 : wT (emptA s) o = wT s o := by unfold wT; rw [e0 17 (by decide), e 16 (by decide) (by decide)]
    rw [e3, e4, e 5 (by decide) (by decide), e 8 (by decide) (by decide)]
    exact h1
  · unfold iW at *
    rw [e0 17 (by decide), e 16 (by decide) (by decide), c4, e 10 (by decide) (by decide)]
    exact hW
  · unfold emptA
    rw [if_neg (by omega), if_pos ⟨rfl, rfl⟩]
theorem co_lessG (hN : 5000 ≤ N) (H : GK n De w s2 s) (hi : i < 480) (h4p : s 4 (i / 6) ≠ 0) (h6p : s 6 (i / 6) = 2) (hD : De i = false) (hv : s 12 i = h + 1) (hg : s 6 h = 4) (C : CR th 0 l 0 g (fun _ => False) (FW s) (TT s) r u s) (ht : th h = some t) :
    Go (f_X1_less N t u) (fun z => CR th 0 l 0 g (fun _ => False) (FW (lessG h s)) (TT (lessG h s)) r z.2 (lessG h s)) := by
  obtain ⟨HL, hh, h4, h5⟩ := lessG_inv H hi h4p h6p hD hv hg
  have hTh := (H.2.1 h hh).2.2 h4
  have h9 := (H.2.1 h hh).1
  have hW := H.2.2.2.2.2.1
  have hB := H.2.2.2.2.2.2.2.2.1
  have h15 := H.2.2.2.2.2.2.2.2.2.1
  have hgeo := H.2.2.1 h hh h4
  have hbd : s 5 h < 2000000000 := by
    have h1 := H.2.2.2.2.1 h hh h4
    have h2 : eG De s h ≤ 480 := cnt_le
    have h3 : wT s h ≤ s 0 17 := cnt_le
    have h6 := hB.1 h hh h4
    have h7 := hB.2.2
    have h8 := hW.1
    omega
  have hfz : ∀ f, f < 6 → s 12 (6 * h + f) = 0 := fun f hf => by
    have h1 := H.2.2.2.1 (6 * h + f) (by omega) (by rw [show (6 * h + f) / 6 = h by omega]; exact h4)
    apply Classical.byContradiction
    intro z
    have := (h1.2 z).1
    rw [show (6 * h + f) / 6 = h by omega, (hTh.2.2.2.2.1).mp hg] at this
    omega
  unfold f_X1_less
  rw [pt_d]
  have C' : CRl th 0 g (fun _ => False) (FW s) (TT s) r u s := by
    unfold CRl
    rw [h15]
    exact C.lc (fun j hj => by omega)
  refine Go.bv (co_lower C' ht h4 h5 hbd (by omega) (by omega) (fun _ => by omega) (fun z => by omega) (iW_lt hW hh) (by omega)) (fun u1 h1 => ?_)
  have l15 : lowA h s 0 15 = s 0 15 := by
    unfold lowA
    split
    · split
      · unfold wshA blk tellA decA; simp [nS]
      · unfold decA; rw [nS_ne (by omega)]
    · unfold suspA
      have hd6 : decA h s 6 h = 4 := by unfold decA; rw [nS_ne (by omega)]; exact hg
      rw [if_pos (Or.inl hd6)]
      unfold decA; rw [nS_ne (by omega)]
  have eF : FW (lowA h s) = FW s := FW_c (lowA_f (by omega))
  have eT : TT (lowA h s) = TT s := TT_c (lowA_f (by omega))
  unfold lessG
  by_cases hgo : s 5 h ≤ 1 ∧ ¬ (s 3 (s 4 h - 1) = 1 ∧ s 10 h = 0)
  · have C1 := h1.2 hgo
    unfold CRl at C1
    rw [l15, h15] at C1
    rw [if_pos hgo, co_last C1 (by omega), bd_s]
    have etp : tp th 1 (fun j => if j = 0 then h else g j) = some t := by
      unfold tp
      rw [if_neg (by omega)]
      exact ht
    have etp2 : tp th (0 + 1) (fun j => if j = 0 then h else g j) = some t := etp
    rw [etp2]
    have l4 : lowA h s 4 = s 4 := lowA_f (by omega)
    have l12 : lowA h s 12 = s 12 := lowA_f (by omega)
    have l11 : lowA h s 11 = s 11 := lowA_f (by omega)
    have l1 : lowA h s 1 = s 1 := lowA_f (by omega)
    have l2 : lowA h s 2 = s 2 := lowA_f (by omega)
    have l7 : lowA h s 7 = s 7 := lowA_f (by omega)
    have l13 : lowA h s 13 = s 13 := lowA_f (by omega)
    have el : lowA h s = decA h s := by unfold lowA; rw [if_pos hgo.1, if_neg hgo.2]
    have l6 : lowA h s 6 h = 4 := by rw [el]; unfold decA; rw [nS_ne (by omega)]; exact hg
    have l9 : lowA h s 9 h = 0 := by rw [el]; unfold decA; rw [nS_ne (by omega)]; exact h9
    have l20 : lowA h s 0 20 = s 0 20 := lowA_z (by omega)
    have hff : ff (lowA h s) h = 6 := ff_6 (fun f hf => by rw [l12]; exact hfz f hf)
    have hvl : vo (lowA h s) h := by unfold vo; rw [l4, l1]; exact hTh.1
    have hgl : geo (lowA h s) h := by unfold geo szo; rw [l7, l2, l4, l13]; exact hgeo
    cases N with
    | zero => omega
    | succ N' =>
    show Go (g_X1_less_24 (N' + 1) t (f_X1_less_24 (N' + 1) t N') _ (some t) 0 u1) _
    unfold g_X1_less_24
    rw [if_neg (by decide), nl_s]
    obtain ⟨x, hx7, hx6, hxq, hxz⟩ := C1.cg.2.2 h t ht (by rw [l4]; exact h4) (by rw [l11]; exact hTh.2.2.2.1)
    have C1q := C1.qm (q' := fun p => p = h) (fun p _ _ hp => hp.elim)
    refine Go.bd (co_give (q := fun p => p = h) rfl ht (by rw [l4]; exact h4) (by rw [l11]; exact hTh.2.2.2.1) (fun f hf hz => by rw [l12] at hz; exact absurd (hfz f hf) hz) (N' + 1) x u1 hx6 (by omega) hx7 hxz C1q) (fun a u2 hz => ?_)
    rcases hz with ⟨_, ha, hC2⟩ | ⟨hlt, _⟩
    · have ha : a = none := ha
      subst ha
      rw [nl_n]
      refine Go.bv (co_finish (by omega) hC2 ht hvl hgl (by omega) (by omega) (by rw [l20]; have := hB.2.1; have := hB.2.2; omega) (TT_pos hh h4) (by omega) (by omega)) (fun u3 hC3 => ?_)
      have hC3' : CR th 0 (lowA h s 14) 0 (fun j => if j = 0 then h else g j) (fun p => p ≠ h ∧ p = h) (if lowA h s 9 h = 0 then FW s + szo (lowA h s) h else FW s) (if lowA h s 9 h = 0 then TT s - 1 else TT s) r u3 (finA h (lowA h s)) := hC3
      unfold f_X1_less_61
      rw [co_last hC3' (by omega), bd_s]
      have etp3 : tp th 0 (fun j => if j = 0 then h else g j) = none := rfl
      rw [etp3]
      cases N' with
      | zero => omega
      | succ N'' =>
      show Go (g_X1_less_24 (N'' + 1 + 1) t (f_X1_less_24 (N'' + 1 + 1) t N'') _ none (0 + 1) u3) _
      unfold g_X1_less_24
      rw [if_neg (by decide), nl_n]
      unfold f_X1_less_75
      rw [pt_d]
      refine Go.s ?_
      rw [FW_fin hgl, TT_fin hh (by rw [l4]; exact h4), eF, eT]
      exact (((hC3'.qm (q' := fun _ => False) (fun p _ _ hp => hp.1 hp.2)).lc (fun j hj => by omega)).gc (fun j hj => by omega))
    · omega
  · have C1 := h1.1 hgo
    unfold CRl at C1
    rw [l15, h15] at C1
    rw [co_last C1 (by omega), bd_s]
    have etp : tp th 0 g = none := rfl
    rw [etp]
    cases N with
    | zero => omega
    | succ N' =>
    show Go (g_X1_less_24 (N' + 1) t (f_X1_less_24 (N' + 1) t N') _ none 0 u1) _
    unfold g_X1_less_24
    rw [if_neg (by decide), nl_n]
    unfold f_X1_less_75
    rw [pt_d]
    refine Go.s ?_
    rw [if_neg hgo, eF, eT]
    exact C1.lc (fun j hj => by omega)
end GCS

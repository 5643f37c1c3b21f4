def KB (u u' : Mm) : Prop := u'.1 0 29 = u.1 0 29 ∧ ∀ j, u'.1 28 j = u.1 28 j
section GMS
variable {n n0 w : Nat} {l0 : Nat → Nat} {r u : Mm} {s s1 s2 : Sm} {o N k h p i : Nat} {De : Nat → Bool}
theorem KB.rf : KB u u := ⟨rfl, fun _ => rfl⟩
theorem KB.tr {u1 u2 : Mm} (a : KB u u1) (b : KB u1 u2) : KB u u2 := ⟨b.1.trans a.1, fun j => (b.2 j).trans (a.2 j)⟩
theorem KB.mr {u' : Mm} {s' : Sm} (h' : MR u u' s') : KB u u' := ⟨h'.f (by simp [nsc]), fun j => h'.f (by simp [nsc])⟩
theorem BAr.kb {u' : Mm} (h : BAr u s) (h' : KB u u') : BAr u' s := ⟨h'.1.trans h.1, fun w hw hb => (h'.2 _).trans (h.2 w hw hb)⟩
theorem mo_lessG (hN : 5000 ≤ N) (H : GK n De w s2 s) (hi : i < 480) (h4p : s 4 (i / 6) ≠ 0) (h6p : s 6 (i / 6) = 2) (hD : De i = false) (hv : s 12 i = h + 1) (hg : s 6 h = 4) (C : Ms r u s) :
    Go (f_X8_less N (i3 h) u) (fun u' => Ms r u' (lessG h s) ∧ KB u u') := by
  obtain ⟨HL, hh, h4, h5⟩ := lessG_inv H hi h4p h6p hD hv hg
  have hTh := (H.2.1 h hh).2.2 h4
  have h9 := (H.2.1 h hh).1
  have hW := H.2.2.2.2.2.1
  have hO := H.2.2.2.2.2.2.1
  have hX := H.2.2.2.2.2.2.2.1
  have hB := H.2.2.2.2.2.2.2.2.1
  have h15 := H.2.2.2.2.2.2.2.2.2.1
  have hv1 := hTh.1.1
  have hv2 := hTh.1.2.1
  have hK := H.1 (s 4 h - 1) (by omega)
  have hbd : s 5 h < 2000000000 := by
    have h1 := H.2.2.2.2.1 h hh h4
    have h2 : eG De s h ≤ 480 := cnt_le
    have h3 : wT s h ≤ s 0 17 := cnt_le
    have h6 := hB.1 h hh h4
    have h7 := hB.2.2
    have h8 := hW.1
    omega
  unfold f_X8_less lessG
  refine Go.bd (mo_isLetGo C.mr hh hTh.1 hK.2.1 hTh.2.2.1 h5 hbd (by omega) (by omega) (fun _ => by omega) (iW_lt hW hh)) (fun a u1 hz => ?_)
  have hz1 : a = (if s 5 h ≤ 1 ∧ ¬ (s 3 (s 4 h - 1) = 1 ∧ s 10 h = 0) then 1 else 0) := hz.1
  have C1 : MR u u1 (lowA h s) := hz.2
  by_cases hgo : s 5 h ≤ 1 ∧ ¬ (s 3 (s 4 h - 1) = 1 ∧ s 10 h = 0)
  · rw [if_pos hgo] at hz1
    have l4 : lowA h s 4 = s 4 := lowA_f (by omega)
    have l1 : lowA h s 1 = s 1 := lowA_f (by omega)
    have l13 : lowA h s 13 = s 13 := lowA_f (by omega)
    have l18 : lowA h s 18 = s 18 := lowA_f (by omega)
    have el : lowA h s = decA h s := by unfold lowA; rw [if_pos hgo.1, if_neg hgo.2]
    have l6 : lowA h s 6 h = 4 := by rw [el]; unfold decA; rw [nS_ne (by omega)]; exact hg
    have l9 : lowA h s 9 h = 0 := by rw [el]; unfold decA; rw [nS_ne (by omega)]; exact h9
    have l20 : lowA h s 0 20 = s 0 20 := lowA_z (by omega)
    have hvl : vo (lowA h s) h := by unfold vo; rw [l4, l1]; exact hTh.1
    rw [hz1, if_neg (by decide), pt_d, show bI 0 80 = true by decide, ck_t, pt_d, ck_t, pt_d, show ix 0 = 0 by decide]
    have C4 : Ms r (sI (sI (sI u1 0 27 1) 25 0 (i3 h)) 26 0 0) (lowA h s) := (((C.step C1).scr (by decide) (by simp [nsc])).scr (by decide) (by simp [nsc])).scr (by decide) (by simp [nsc])
    have K4 : KB u (sI (sI (sI u1 0 27 1) 25 0 (i3 h)) 26 0 0) := (KB.mr C1).tr ⟨rfl, fun j => rfl⟩
    generalize hu4 : sI (sI (sI u1 0 27 1) 25 0 (i3 h)) 26 0 0 = u4 at *
    have a27 : u4.1 0 27 = 1 := by rw [← hu4]; rfl
    have a25 : u4.1 25 0 = i3 h := by rw [← hu4]; rfl
    have a26 : u4.1 26 0 = 0 := by rw [← hu4]; rfl
    clear hu4
    cases N with
    | zero => omega
    | succ N1 =>
    show Go (g_X8_less_28 (N1 + 1) (f_X8_less_28 (N1 + 1) N1) u4) _
    unfold g_X8_less_28
    rw [pt_d, a27, if_neg (by decide), pt_d, show (1 : Int32) - 1 = 0 by decide, show bI 0 80 = true by decide, ck_t, pt_d, show ix 0 = 0 by decide, a25, ck_t, pt_d, a26]
    refine Go_bde (mo_fieldsOf C4.mr hh hvl (by rw [l4, l1]; exact hK.1)) ?_
    have en : nfo (lowA h s) h = 0 := by unfold nfo; rw [l4, l1]; exact hTh.2.2.2.2.1.mp hg
    rw [en, if_pos (show i3 0 ≤ 0 by decide), pt_d, a27, show (1 : Int32) - 1 = 0 by decide, pt_d]
    have C5 : Ms r (sI u4 0 27 0) (lowA h s) := C4.scr (by decide) (by simp [nsc])
    have K5 : KB u (sI u4 0 27 0) := K4.tr ⟨rfl, fun j => rfl⟩
    refine Go.bv (mo_turn C5.mr hh (by omega)) (fun u6 C6 => ?_)
    have e9 : blk h (lowA h s) 9 h = 0 := by unfold blk; rw [nS_ne (by omega)]; exact l9
    rw [i3_bI (by omega), decide_eq_true hh, ck_t, pt_d, i3_ix (by omega), C6.g9 hh, e9, if_pos (show i3 0 = 0 from rfl)]
    have eb : ∀ c x, c ≠ 6 → blk h (lowA h s) c x = lowA h s c x := fun c x hc => by unfold blk; rw [nS_ne (fun z => hc z.1)]
    refine Go.bv (mo_free (by omega) (C5.step C6).mr hh (fun x hx => by rw [eb 13 x (by decide), l13]; exact (hO x hx).1) (fun x hx => by rw [eb 18 x (by decide), l18]; exact (hX x hx).1) (by rw [eb 0 20 (by decide), l20]; have := hB.2.1; have := hB.2.2; omega)) (fun u7 C7 => ?_)
    unfold f_X8_less_191
    cases N1 with
    | zero => omega
    | succ N2 =>
    show Go (g_X8_less_28 (N2 + 1 + 1) (f_X8_less_28 (N2 + 1 + 1) N2) u7) _
    unfold g_X8_less_28
    have a27' : u7.1 0 27 = 0 := by rw [C7.f (by simp [nsc]), C6.f (by simp [nsc])]; rfl
    rw [pt_d, a27', if_pos (by decide)]
    refine Go.s ⟨?_, (K5.tr (KB.mr C6)).tr (KB.mr C7)⟩
    have ef : finA h (lowA h s) = freeA h (blk h (lowA h s)) := by unfold finA; rw [if_pos l9]
    rw [if_pos hgo, ef]
    exact (C5.step C6).step C7
  · rw [if_neg hgo] at hz1
    rw [hz1, if_pos rfl]
    refine Go.s ⟨?_, KB.mr C1⟩
    rw [if_neg hgo]
    exact C.step C1
theorem gF_z : ∀ (d f : Nat) (s : Sm), f + d = 6 → (∀ e, f ≤ e → e < 6 → s 12 (6 * p + e) = 0) → gF p d f s = s := by
  intro d
  induction d with
  | zero => intro f s _ _; rfl
  | succ d ih =>
    intro f s hf hz
    show gF p d (f + 1) (gE (6 * p + f) s) = s
    have e : gE (6 * p + f) s = s := by unfold gE; rw [if_neg (fun z => z.1 (hz f (Nat.le_refl _) (by omega)))]
    rw [e]
    exact ih (f + 1) s (by omega) (fun e he1 he2 => hz e (by omega) he2)
theorem mo_whiteIn (hN : 5000 ≤ N) {K35 : Int32 → Mm → Option Mm} {P : Mm → Prop} {v1 : Int32} :
    ∀ (d f j : Nat) (u : Mm) (De : Nat → Bool) (s : Sm), f + d = 6 → d < j → GL n De w s2 p f s → Ms r u s →
    (∀ (u' : Mm) (De' : Nat → Bool), GL n De' w s2 p 6 (gF p d f s) → Ms r u' (gF p d f s) → KB u u' → Go (bv (f_X8_free N (i3 p) u') (fun u => f_X8_gather_125 N K35 v1 u)) P) →
    Go (f_X8_gather_70 N K35 j v1 (i3 p) (i3 f) u) P := by
  intro d
  induction d with
  | zero =>
    intro f j u De s hf hj H C hk
    cases j with
    | zero => omega
    | succ j =>
      show Go (g_X8_gather_70 N K35 (f_X8_gather_70 N K35 j) v1 (i3 p) (i3 f) u) P
      unfold g_X8_gather_70
      have : f = 6 := by omega
      subst this
      obtain ⟨HK, hp, h4, h6, hd, hj', hz⟩ := H
      have hv := ((HK.2.1 p hp).2.2 h4).1
      have hK := HK.1 (s 4 p - 1) (by have := hv.1; have := hv.2.1; omega)
      refine Go_bde (mo_fieldsOf C.mr hp hv hK.1) ?_
      have hn6 : nfo s p ≤ 6 := by unfold nfo; have := hK.1; omega
      rw [if_pos ((i3_le (by omega) (by omega)).mpr hn6)]
      exact hk u De ⟨HK, hp, h4, h6, hd, hj', hz⟩ C KB.rf
  | succ d ih =>
    intro f j u De s hf hj H C hk
    cases j with
    | zero => omega
    | succ j =>
      show Go (g_X8_gather_70 N K35 (f_X8_gather_70 N K35 j) v1 (i3 p) (i3 f) u) P
      unfold g_X8_gather_70
      have H0 := H
      obtain ⟨De1, H1, _, _, _, _⟩ := gE_inv H (show f < 6 by omega)
      obtain ⟨HK, hp, h4, h6, hd, hj', hz⟩ := H
      have hv := ((HK.2.1 p hp).2.2 h4).1
      have hK := HK.1 (s 4 p - 1) (by have := hv.1; have := hv.2.1; omega)
      refine Go_bde (mo_fieldsOf C.mr hp hv hK.1) ?_
      have hn6 : nfo s p ≤ 6 := by unfold nfo; have := hK.1; omega
      by_cases hfn : nfo s p ≤ f
      · have hzz : ∀ e, f ≤ e → e < 6 → s 12 (6 * p + e) = 0 := fun e he1 he2 => by
          have hF1 := HK.2.2.2.1 (6 * p + e) (by omega) (by rw [show (6 * p + e) / 6 = p by omega]; exact h4)
          apply Classical.byContradiction
          intro z
          have := (hF1.2 z).1
          rw [show (6 * p + e) / 6 = p by omega] at this
          omega
        have e1 : gF p (d + 1) f s = s := gF_z (d + 1) f s hf hzz
        rw [if_pos ((i3_le (by omega) (by omega)).mpr hfn)]
        rw [e1] at hk
        refine hk u De ⟨HK, hp, h4, h6, fun e he a b => ?_, hj', fun e he1 he2 => by omega⟩ C KB.rf
        by_cases y : e < f
        · exact hd e y a b
        · exact absurd (hzz e (by omega) he) a
      · have hi6 : (6 * p + f) / 6 = p := by omega
        have hF := HK.2.2.2.1 (6 * p + f) (by omega) (by rw [hi6]; exact h4)
        have e6 : 6 * i3 p + i3 f = i3 (6 * p + f) := by rw [i3_mulL, i3_add]
        rw [if_neg (fun z => hfn ((i3_le (by omega) (by omega)).mp z)), e6, i3_bI (by omega), decide_eq_true (by omega), ck_t, pt_d, i3_ix (by omega), C.mr.g12 (by omega)]
        unfold f_X8_gather_114
        rw [i3_addL]
        have hnext : ∀ u' : Mm, Ms r u' (gE (6 * p + f) s) → KB u u' → Go (f_X8_gather_70 N K35 j v1 (i3 p) (i3 (f + 1)) u') P := fun u' C' KB' => ih (f + 1) j u' De1 _ (by omega) (by omega) H1 C' (fun u'' De' a b c => hk u'' De' a b (KB'.tr c))
        have hskip : ¬ (s 12 (6 * p + f) ≠ 0 ∧ s 6 (s 12 (6 * p + f) - 1) = 4) → gE (6 * p + f) s = s := fun z => by unfold gE; rw [if_neg z]
        have zlt : oI (s 12 (6 * p + f)) < 0 ↔ s 12 (6 * p + f) = 0 := oI_lt0 (by omega)
        by_cases h0 : s 12 (6 * p + f) = 0
        · rw [if_pos (zlt.mpr h0)]
          refine hnext u ?_ KB.rf
          rw [hskip (fun z => z.1 h0)]
          exact C
        · have hF2 := hF.2 h0
          have h80 : s 12 (6 * p + f) - 1 < 80 := by omega
          rw [if_neg (fun z => h0 (zlt.mp z)), oI_p h0, i3_bI (by omega), decide_eq_true h80, ck_t, pt_d, i3_ix (by omega), C.mr.g6 h80]
          have z4 : i3 (s 6 (s 12 (6 * p + f) - 1)) = 4 ↔ s 6 (s 12 (6 * p + f) - 1) = 4 := i3_eqL (by have := hF2.2.1; omega) (by decide)
          by_cases hg : s 6 (s 12 (6 * p + f) - 1) = 4
          · rw [if_pos (z4.mpr hg)]
            have hgE : gE (6 * p + f) s = lessG (s 12 (6 * p + f) - 1) s := by unfold gE; rw [if_pos ⟨h0, hg⟩]
            refine Go.bv (mo_lessG hN HK (show 6 * p + f < 480 by omega) (by rw [hi6]; exact h4) (by rw [hi6]; exact h6) (hz f (Nat.le_refl _) (by omega)) (show s 12 (6 * p + f) = (s 12 (6 * p + f) - 1) + 1 by omega) hg C) (fun u2 h2 => ?_)
            refine hnext u2 ?_ h2.2
            rw [hgE]
            exact h2.1
          · rw [if_neg (fun z => hg (z4.mp z))]
            refine hnext u ?_ KB.rf
            rw [hskip (fun z => hg z.2)]
            exact C
theorem mo_whiteLoop (hN : 5000 ≤ N) (h2c : ∀ x, x ≤ 400 → cnt x (bs s2) ≤ 80) (h2o : ∀ x, x < 400 → s2 13 x ≤ 80) :
    ∀ (d w j : Nat) (u : Mm) (s : Sm), w + d = 400 → d < j → GK n (fun _ => false) w s2 s → gRun 400 0 s2 = gRun d w s → Ms r u s → BAr u s2 →
    Go (f_X8_gather_35 N j (i3 (cnt w (bs s2))) u) (fun u' => Ms r u' (gRun 400 0 s2)) := by
  intro d
  induction d with
  | zero =>
    intro w j u s hwd hj H he C B
    have : w = 400 := by omega
    subst this
    cases j with
    | zero => omega
    | succ j =>
      show Go (g_X8_gather_35 N (f_X8_gather_35 N j) (i3 (cnt 400 (bs s2))) u) _
      unfold g_X8_gather_35
      have hc := h2c 400 (Nat.le_refl _)
      rw [pt_d, B.1, if_pos ((i3_le (by omega) (by omega)).mpr (Nat.le_refl _))]
      have he' : gRun 400 0 s2 = s := he
      rw [he']
      exact Go.s C
  | succ d ih =>
    intro w j u s hwd hj H he C B
    have hw : w < 400 := by omega
    have he2 : gRun (d + 1) w s = gRun d (w + 1) (gAt w s) := rfl
    rw [he2] at he
    have Hn := gAt_inv H hw
    have h13 := H.2.2.2.2.2.2.2.2.2.2.2.1
    have h7 := H.2.2.2.2.2.2.2.2.2.2.2.2.1
    have hO := H.2.2.2.2.2.2.1
    have hskip : ¬ (bs s w = true ∧ s 6 (s 13 w - 1) = 2) → gAt w s = s := fun z => by unfold gAt; rw [if_neg z]
    cases hb : bs s2 w with
    | false =>
      have es : gAt w s = s := hskip (fun z => by
        have h1 := bs_t.mp z.1
        rcases h13 w hw with y | y
        · exact h1.1 y
        · have : bs s2 w = true := bs_t.mpr ⟨by rw [← y]; exact h1.1, by rw [← y, ← h7]; exact h1.2⟩
          rw [hb] at this
          cases this)
      rw [es] at he Hn
      have := ih (w + 1) j u s (by omega) (by omega) Hn he C B
      rw [cnt_stay hb] at this
      exact this
    | true =>
      have hb2 := bs_t.mp hb
      have hc := h2c (w + 1) (by omega)
      rw [cnt_step hb] at hc
      have hc4 : cnt (w + 1) (bs s2) ≤ cnt 400 (bs s2) := cnt_grow (by omega)
      rw [cnt_step hb] at hc4
      have hc80 := h2c 400 (Nat.le_refl _)
      have h28 := B.2 w hw hb
      have ho80 := h2o w hw
      cases j with
      | zero => omega
      | succ j =>
        show Go (g_X8_gather_35 N (f_X8_gather_35 N j) (i3 (cnt w (bs s2))) u) _
        unfold g_X8_gather_35
        rw [pt_d, B.1, if_neg (fun z => by have := (i3_le (by omega) (by omega)).mp z; omega), i3_bI (by omega), decide_eq_true (by omega), ck_t, pt_d, i3_ix (by omega), h28]
        generalize hoo : s2 13 w - 1 = o at *
        have h80 : o < 80 := by omega
        have h10 : s 4 o ≤ 10 := by
          by_cases z : s 4 o = 0
          · omega
          · exact ((H.2.1 o h80).2.2 z).1.2.1
        refine Go_bde (mo_isThere C.mr h80 h10) ?_
        have hgo : ∀ u', Ms r u' (gAt w s) → BAr u' s2 → Go (f_X8_gather_125 N (f_X8_gather_35 N j) (i3 (cnt w (bs s2))) u') (fun u' => Ms r u' (gRun 400 0 s2)) := fun u' C' B' => by
          unfold f_X8_gather_125
          rw [i3_addL]
          have := ih (w + 1) j u' (gAt w s) (by omega) (by omega) Hn he C' B'
          rw [cnt_step hb] at this
          exact this
        by_cases h4 : s 4 o = 0
        · rw [if_pos h4, if_pos rfl]
          refine hgo u ?_ B
          rw [hskip (fun z => ?_)]
          · exact C
          · have h1 := bs_t.mp z.1
            rcases h13 w hw with y | y
            · exact h1.1 y
            · have := (hO w hw).2 h1.1
              rw [y, hoo] at this
              exact this h4
        · rw [if_neg h4, if_neg (by decide)]
          have hg := H.2.2.1 o h80 h4
          have hv := ((H.2.1 o h80).2.2 h4).1
          have hk := (H.1 (s 4 o - 1) (by have := hv.1; have := hv.2.1; omega)).2.2 hv.2.2
          have h7w : s 7 o = w := by rw [h7]; exact hb2.2
          have h13w : s 13 w = o + 1 := (hg.2 w hw).mpr ⟨by omega, by unfold szo; omega⟩
          have hbw : bs s w = true := bs_t.mpr ⟨by omega, by rw [h13w, show o + 1 - 1 = o by omega]; exact h7w⟩
          have hT := (H.2.1 o h80).2.2 h4
          have e13 : s 13 w - 1 = o := by omega
          rw [i3_bI (by omega), decide_eq_true h80, ck_t, pt_d, i3_ix (by omega), C.mr.g6 h80]
          have z6 : i3 (s 6 o) = 2 ↔ s 6 o = 2 := i3_eqL (by have := hT.2.1; omega) (by decide)
          by_cases h6 : s 6 o = 2
          · rw [if_pos (z6.mpr h6)]
            have HW := gAt_white H hw ⟨hbw, by rw [e13]; exact h6⟩
            rw [e13] at HW
            have eg : gAt w s = freeA o (gF o 6 0 s) := by unfold gAt; rw [e13, if_pos ⟨hbw, h6⟩]
            refine mo_whiteIn hN 6 0 N u _ s rfl (by omega) HW C (fun u2 De2 H2 C2 K2 => ?_)
            generalize gF o 6 0 s = s6 at *
            obtain ⟨HK, hp, h46, h66, _⟩ := H2
            have hB := HK.2.2.2.2.2.2.2.2.1
            refine Go.bv (mo_free (by omega) C2.mr h80 (fun x hx => (HK.2.2.2.2.2.2.1 x hx).1) (fun x hx => (HK.2.2.2.2.2.2.2.1 x hx).1) (by have := hB.2.1; have := hB.2.2; omega)) (fun u3 C3 => ?_)
            refine hgo u3 ?_ ((B.kb K2).kb (KB.mr C3))
            rw [eg]
            exact C2.step C3
          · rw [if_neg (fun z => h6 (z6.mp z))]
            refine hgo u ?_ B
            rw [hskip (fun z => h6 (by rw [e13] at z; exact z.2))]
            exact C
theorem mo_emptyLoop (hN : 5000 ≤ N) {P : Mm → Prop} (hn80 : n0 ≤ 80) (hl : ∀ j, j < n0 → l0 j < 80) (h15 : s 0 15 = cnt n0 (kp l0 s)) (h14 : ∀ j, j < n0 → s 9 (l0 j) = 1 → s 14 (cnt j (kp l0 s)) = l0 j) (h91 : ∀ j, j < n0 → s 9 (l0 j) ≤ 1)
    (hH : ∀ p, p < 80 → s 9 p ≠ 0 → ∃ j, j < n0 ∧ l0 j = p) {w0 : Mm}
    (hk : ∀ u', Ms r u' (emptA s) → KB w0 u' → Go (f_X8_gather_35 N N 0 u') P) :
    ∀ (d k j : Nat) (u : Mm), k + d = n0 → d < j → Ms r u (clr9 l0 k s) → KB w0 u → Go (f_X8_gather_2 N j (i3 (cnt k (kp l0 s))) u) P := by
  have e15 : ∀ k, clr9 l0 k s 0 15 = s 0 15 := fun k => by unfold clr9; rw [if_neg (by omega)]
  have hcl : cnt n0 (kp l0 s) ≤ n0 := cnt_le
  intro d
  induction d with
  | zero =>
    intro k j u hkd hj C K
    rw [Nat.add_zero] at hkd
    subst hkd
    cases j with
    | zero => omega
    | succ j =>
      show Go (g_X8_gather_2 N (f_X8_gather_2 N j) (i3 (cnt k (kp l0 s))) u) P
      unfold g_X8_gather_2
      rw [pt_d, C.mr.g0 (k := 15) (by simp [nsc]), e15, h15, if_pos ((i3_le (by omega) (by omega)).mpr (Nat.le_refl _)), pt_d]
      have C1 := C.mr.set (c := 0) (k := 15) (v := 0) (w := 0) (by simp [nsc]) rfl
      refine hk _ ?_ (K.tr (KB.mr C1))
      rw [← clr9_end hl hH]
      exact C.step C1
  | succ d ih =>
    intro k j u hkd hj C K
    by_cases h9 : s 9 (l0 k) = 1
    · have ek : kp l0 s k = true := by unfold kp; rw [h9]; rfl
      have hm : cnt (k + 1) (kp l0 s) ≤ cnt n0 (kp l0 s) := cnt_grow (by omega)
      rw [cnt_step ek] at hm
      have h80 := hl k (by omega)
      cases j with
      | zero => omega
      | succ j =>
        show Go (g_X8_gather_2 N (f_X8_gather_2 N j) (i3 (cnt k (kp l0 s))) u) P
        unfold g_X8_gather_2
        have e14 : clr9 l0 k s 14 (cnt k (kp l0 s)) = l0 k := by unfold clr9; rw [if_neg (by omega)]; exact h14 k (by omega) h9
        rw [pt_d, C.mr.g0 (k := 15) (by simp [nsc]), e15, h15, if_neg (fun z => by have := (i3_le (by omega) (by omega)).mp z; omega), i3_bI (by omega), decide_eq_true (by omega), ck_t, pt_d, i3_ix (by omega), C.mr.g14 (by omega), e14, i3_bI (by omega), decide_eq_true h80, ck_t, pt_d, i3_ix (by omega), i3_addL]
        have C1 := C.mr.set (c := 9) (k := l0 k) (v := 0) (w := vp_nar .boolean 0) (by simp [nsc] <;> omega) (by decide)
        have := ih (k + 1) j _ (by omega) (by omega) (by rw [← clr9_s]; exact C.step C1) (K.tr (KB.mr C1))
        rw [cnt_step ek] at this
        exact this
    · have h90 : s 9 (l0 k) = 0 := by have := h91 k (by omega); omega
      have ek : kp l0 s k = false := by unfold kp; simp [h9]
      have es : clr9 l0 (k + 1) s = clr9 l0 k s := by
        rw [← clr9_s]
        apply nS_id
        unfold clr9
        split
        · rfl
        · exact h90
      have := ih (k + 1) j u (by omega) (by omega) (by rw [es]; exact C) K
      rw [cnt_stay ek] at this
      exact this
end GMS

def clr9 (l0 : Nat → Nat) (k : Nat) (s : Sm) : Sm := fun c p => if c = 9 ∧ 0 < cnt k (fun j => l0 j == p) then 0 else s c p
section GCL
variable {th : Nat → Option Nat} {n n0 m fw tt w : Nat} {l l0 g : Nat → Nat} {q : Nat → Prop} {r u : Mm} {s s1 s2 : Sm} {o t v N k h p i : Nat} {De : Nat → Bool}
theorem clr9_0 : clr9 l0 0 s = s := by
  funext c p
  unfold clr9
  rw [if_neg (fun z => by have : cnt 0 (fun j => l0 j == p) = 0 := rfl; omega)]
theorem clr9_s : nS (clr9 l0 k s) 9 (l0 k) 0 = clr9 l0 (k + 1) s := by
  funext c p
  unfold nS clr9
  have h1 : cnt (k + 1) (fun j => l0 j == p) = cnt k (fun j => l0 j == p) + (if (l0 k == p) = true then 1 else 0) := rfl
  rw [h1]
  by_cases hc : c = 9
  · by_cases hp : p = l0 k
    · have e : (l0 k == p) = true := by simp [hp]
      rw [e, if_pos ⟨hc, hp⟩, if_pos ⟨hc, by simp⟩]
    · have e : (l0 k == p) = false := by simp; omega
      rw [e, if_neg (fun z => hp z.2)]
      rfl
  · rw [if_neg (fun z => hc z.1), if_neg (fun z => hc z.1), if_neg (fun z => hc z.1)]
theorem clr9_end (hl : ∀ j, j < n0 → l0 j < 80) (hH : ∀ p, p < 80 → s 9 p ≠ 0 → ∃ j, j < n0 ∧ l0 j = p) : nS (clr9 l0 n0 s) 0 15 0 = emptA s := by
  funext c p
  unfold nS clr9 emptA
  by_cases c0 : c = 0 ∧ p = 15
  · rw [if_pos c0, if_neg (by omega), if_pos c0]
  · rw [if_neg c0]
    by_cases c9 : c = 9
    · subst c9
      by_cases hin : 0 < cnt n0 (fun j => l0 j == p)
      · obtain ⟨j, hj, e⟩ := cnt_pos.mp hin
        have h80 := hl j hj
        have e : l0 j = p := by simpa using e
        rw [if_pos ⟨rfl, hin⟩, if_pos ⟨rfl, by omega⟩]
      · rw [if_neg (fun z => hin z.2)]
        by_cases hp : p < 80
        · rw [if_pos ⟨rfl, hp⟩]
          apply Classical.byContradiction
          intro z
          obtain ⟨j, hj, e⟩ := hH p hp z
          exact hin (cnt_pos.mpr ⟨j, hj, by simp [e]⟩)
        · rw [if_neg (fun z => hp z.2), if_neg (by omega)]
    · rw [if_neg (fun z => c9 z.1), if_neg (fun z => c9 z.1), if_neg c0]
theorem co_emptyLoop (hn80 : n0 ≤ 80) (hth : ∀ j, j < n0 → th (l0 j) ≠ none) : ∀ (j k : Nat) (u : Mm), k ≤ n0 → n0 - k < j → CR th n0 l0 m g q fw tt r u (clr9 l0 k s) →
    Go (f_X0_emptyList_10 N j (i3 k) u) (fun u' => CR th 0 l0 m g q fw tt r u' (clr9 l0 n0 s)) := by
  intro j
  induction j with
  | zero => intro k u _ hj; omega
  | succ j ih =>
    intro k u hk hj C
    show Go (g_X0_emptyList_10 N (f_X0_emptyList_10 N j) (i3 k) u) _
    unfold g_X0_emptyList_10
    by_cases h8 : 80 ≤ k
    · rw [if_pos ((i3_Lle (by omega) (by decide)).mpr h8)]
      have : k = n0 := by omega
      subst this
      unfold f_X0_emptyList_45 f_X3_clear
      rw [pt_d, bv_s]
      exact Go.s C.lclear
    rw [if_neg (fun z => h8 ((i3_Lle (by omega) (by decide)).mp z))]
    rw [pt_d, C.cl.1]
    by_cases hkn : n0 ≤ k
    · rw [if_pos ((i3_le (by omega) (by omega)).mpr hkn)]
      have : k = n0 := by omega
      subst this
      unfold f_X0_emptyList_45 f_X3_clear
      rw [pt_d, bv_s]
      exact Go.s C.lclear
    · rw [if_neg (fun z => hkn ((i3_le (by omega) (by omega)).mp z)), x3_item (j := k) C.cl.1 hn80 rfl (by omega), bd_s, if_pos (by omega), C.cl.2 k (by omega)]
      cases hc : th (l0 k) with
      | none => exact absurd hc (hth k (by omega))
      | some t =>
        rw [nl_s, pt_d]
        unfold f_X0_emptyList_39
        rw [i3_addL]
        refine ih (k + 1) _ (by omega) (by omega) ?_
        rw [← clr9_s]
        exact C.t8 (v := 0) hc
theorem co_empty (hN : 5000 ≤ N) (hn80 : n0 ≤ 80) (hth : ∀ j, j < n0 → th (l0 j) ≠ none) (hl : ∀ j, j < n0 → l0 j < 80) (hH : ∀ p, p < 80 → s 9 p ≠ 0 → ∃ j, j < n0 ∧ l0 j = p) (C : CR th n0 l0 m g q (FW s) (TT s) r u s) :
    Go (f_X0_emptyList N u) (fun u' => CR th 0 l0 m g q (FW (emptA s)) (TT (emptA s)) r u' (emptA s)) := by
  have e13 : emptA s 13 = s 13 := by funext x; unfold emptA; rw [if_neg (by omega), if_neg (by omega)]
  have e4 : emptA s 4 = s 4 := by funext x; unfold emptA; rw [if_neg (by omega), if_neg (by omega)]
  rw [FW_c e13, TT_c e4]
  refine (co_emptyLoop hn80 hth N 0 u (by omega) (by omega) (by rw [clr9_0]; exact C)).mono (fun u' C' => ?_)
  rw [← clr9_end hl hH]
  exact C'.s15
theorem GK_own (H : GK n De w s2 s) (C : CR th m l v g q fw tt r u s) {x : Nat} (hx : x < 400) : s 13 x ≠ 0 → th (s 13 x - 1) ≠ none ∧ s 7 (s 13 x - 1) < 2147483648 := fun h0 => by
  have h1 := H.2.2.2.2.2.2.1 x hx
  have h4 := h1.2 h0
  have h80 : s 13 x - 1 < 80 := by omega
  have hg := (H.2.2.1 _ h80 h4).1
  exact ⟨((C.cs h80).2 h4).2, by omega⟩
theorem co_whiteIn (hN : 5000 ≤ N) {K2 : Int32 → Mm → Option Mm} {P : Mm → Prop} (ht : th p = some t) :
    ∀ (d f j : Nat) (u : Mm) (De : Nat → Bool) (s : Sm), f + d = 6 → d < j → GL n De w s2 p f s → CR th 0 l 0 g (fun _ => False) (FW s) (TT s) r u s →
    (∀ (u' : Mm) (De' : Nat → Bool), GL n De' w s2 p 6 (gF p d f s) → CR th 0 l 0 g (fun _ => False) (FW (gF p d f s)) (TT (gF p d f s)) r u' (gF p d f s) → Go (bv (f_X4_free N t u') (fun u => f_X0_freeWhite_98 N K2 (i3 w) u)) P) →
    Go (f_X0_freeWhite_48 N K2 j (i3 w) t (t + 1) 6 (i3 f) u) P := by
  intro d
  induction d with
  | zero =>
    intro f j u De s hf hj H C hk
    cases j with
    | zero => omega
    | succ j =>
      show Go (g_X0_freeWhite_48 N K2 (f_X0_freeWhite_48 N K2 j) (i3 w) t (t + 1) 6 (i3 f) u) P
      unfold g_X0_freeWhite_48
      have : f = 6 := by omega
      subst this
      rw [if_pos (show (6 : Int32) ≤ i3 6 by decide)]
      exact hk u De H C
  | succ d ih =>
    intro f j u De s hf hj H C hk
    cases j with
    | zero => omega
    | succ j =>
      show Go (g_X0_freeWhite_48 N K2 (f_X0_freeWhite_48 N K2 j) (i3 w) t (t + 1) 6 (i3 f) u) P
      unfold g_X0_freeWhite_48
      have htv := C.cv ht
      have hln : ln (t + 1) = 6 := by unfold ln; rw [if_neg (by omega)]
      rw [if_neg (show ¬ (6 : Int32) ≤ i3 f by rw [i3_Lle (by omega) (by decide)]; omega), hln, i3_bI (by omega), decide_eq_true (by omega), ck_t, pt_d, i3_ix (by omega), C.h ht (by omega)]
      unfold f_X0_freeWhite_84
      rw [i3_addL]
      obtain ⟨De1, H1, _, _, _, _⟩ := gE_inv H (show f < 6 by omega)
      obtain ⟨HK, hp, h4, h6, hd, hj', hz⟩ := H
      have hi6 : (6 * p + f) / 6 = p := by omega
      have hF := HK.2.2.2.1 (6 * p + f) (by omega) (by rw [hi6]; exact h4)
      have hnext : ∀ u' : Mm, CR th 0 l 0 g (fun _ => False) (FW (gE (6 * p + f) s)) (TT (gE (6 * p + f) s)) r u' (gE (6 * p + f) s) → Go (f_X0_freeWhite_48 N K2 j (i3 w) t (t + 1) 6 (i3 (f + 1)) u') P := fun u' C' => ih (f + 1) j u' De1 _ (by omega) (by omega) H1 C' hk
      have hskip : ¬ (s 12 (6 * p + f) ≠ 0 ∧ s 6 (s 12 (6 * p + f) - 1) = 4) → gE (6 * p + f) s = s := fun z => by unfold gE; rw [if_neg z]
      by_cases h0 : s 12 (6 * p + f) = 0
      · have e : oT th (s 12 (6 * p + f)) = none := by unfold oT; rw [if_pos h0]
        rw [e, nl_n]
        refine hnext u ?_
        rw [hskip (fun z => z.1 h0)]
        exact C
      · have e : oT th (s 12 (6 * p + f)) = th (s 12 (6 * p + f) - 1) := by unfold oT; rw [if_neg h0]
        rw [e]
        have hF2 := hF.2 h0
        cases hc : th (s 12 (6 * p + f) - 1) with
        | none =>
          rw [nl_n]
          refine hnext u ?_
          rw [hskip (fun z => ?_)]
          · exact C
          · have h4t := hF2.2.2.2 z.2 (hz f (Nat.le_refl _) (by omega))
            exact absurd hc ((C.cs (by omega)).2 h4t).2
        | some t2 =>
          rw [nl_s, x5_green (C.a5 hc) hF2.2.1, bd_s]
          by_cases hg : s 6 (s 12 (6 * p + f) - 1) = 4
          · rw [if_pos hg, if_neg (by decide)]
            have hgE : gE (6 * p + f) s = lessG (s 12 (6 * p + f) - 1) s := by unfold gE; rw [if_pos ⟨h0, hg⟩]
            refine Go.bd (co_lessG hN HK (show 6 * p + f < 480 by omega) (by rw [hi6]; exact h4) (by rw [hi6]; exact h6) (hz f (Nat.le_refl _) (by omega)) (show s 12 (6 * p + f) = (s 12 (6 * p + f) - 1) + 1 by omega) hg C hc) (fun a u2 h2 => ?_)
            refine hnext u2 ?_
            rw [hgE]
            exact h2
          · rw [if_neg hg, if_pos rfl]
            refine hnext u ?_
            rw [hskip (fun z => hg z.2)]
            exact C
theorem co_whiteLoop (hN : 5000 ≤ N) : ∀ (j w : Nat) (u : Mm) (s : Sm), w ≤ 400 → 400 - w < j → GK n (fun _ => false) w s2 s → CR th 0 l 0 g (fun _ => False) (FW s) (TT s) r u s →
    Go (f_X0_freeWhite_2 N j (i3 w) u) (fun u' => CR th 0 l 0 g (fun _ => False) (FW (gRun (400 - w) w s)) (TT (gRun (400 - w) w s)) r u' (gRun (400 - w) w s)) := by
  intro j
  induction j with
  | zero => intro w u s _ hj; omega
  | succ j ih =>
    intro w u s hw hj H C
    show Go (g_X0_freeWhite_2 N (f_X0_freeWhite_2 N j) (i3 w) u) _
    unfold g_X0_freeWhite_2
    by_cases hw4 : 400 ≤ w
    · rw [if_pos ((i3_Lle (by omega) (by decide)).mpr hw4)]
      have e : 400 - w = 0 := by omega
      rw [e]
      exact Go.s C
    · rw [if_neg (fun z => hw4 ((i3_Lle (by omega) (by decide)).mp z)), co_ownerFrom C (by omega) (GK_own H C (by omega)), bd_s]
      have er : gRun (400 - w) w s = gRun (400 - (w + 1)) (w + 1) (gAt w s) := by
        rw [show 400 - w = (400 - (w + 1)) + 1 by omega]
        rfl
      rw [er]
      have Hn := gAt_inv H (show w < 400 by omega)
      have hgo : ∀ u' : Mm, CR th 0 l 0 g (fun _ => False) (FW (gAt w s)) (TT (gAt w s)) r u' (gAt w s) → Go (f_X0_freeWhite_98 N (f_X0_freeWhite_2 N j) (i3 w) u') (fun u' => CR th 0 l 0 g (fun _ => False) (FW (gRun (400 - (w + 1)) (w + 1) (gAt w s))) (TT (gRun (400 - (w + 1)) (w + 1) (gAt w s))) r u' (gRun (400 - (w + 1)) (w + 1) (gAt w s))) := fun u' C' => by
        unfold f_X0_freeWhite_98
        rw [i3_addL]
        exact ih (w + 1) u' _ (by omega) (by omega) Hn C'
      have hskip : ¬ (bs s w = true ∧ s 6 (s 13 w - 1) = 2) → gAt w s = s := fun z => by unfold gAt; rw [if_neg z]
      by_cases hb : bs s w = true
      · rw [if_pos hb]
        have h1 := bs_t.mp hb
        have hO := H.2.2.2.2.2.2.1 w (by omega)
        have h80 : s 13 w - 1 < 80 := by omega
        have h4 := hO.2 h1.1
        have hth := ((C.cs h80).2 h4).2
        cases hc : th (s 13 w - 1) with
        | none => exact absurd hc hth
        | some t =>
          have hT := (H.2.1 _ h80).2.2 h4
          rw [nl_s, pt_d, C.a5 hc]
          have z6 : i3 (s 6 (s 13 w - 1)) = 2 ↔ s 6 (s 13 w - 1) = 2 := i3_eqL (by have := hT.2.1; omega) (by decide)
          by_cases h6 : s 6 (s 13 w - 1) = 2
          · rw [if_pos (z6.mpr h6)]
            have eg : gAt w s = freeA (s 13 w - 1) (gF (s 13 w - 1) 6 0 s) := by unfold gAt; rw [if_pos ⟨hb, h6⟩]
            refine co_whiteIn hN hc 6 0 N u _ s rfl (by omega) (gAt_white H (by omega) ⟨hb, h6⟩) C (fun u2 De2 H2 C2 => ?_)
            generalize gF (s 13 w - 1) 6 0 s = s6 at *
            obtain ⟨HK, hp, h46, h66, _⟩ := H2
            have hg6 := HK.2.2.1 _ hp h46
            have hv6 := ((HK.2.1 _ hp).2.2 h46).1
            have hB := HK.2.2.2.2.2.2.2.2.1
            refine Go.bv (co_free (by omega) C2 hc hv6 hg6 (by have := hB.2.1; have := hB.2.2; omega) (TT_pos hp h46)) (fun u3 C3 => ?_)
            refine hgo u3 ?_
            have eT : TT (freeA (s 13 w - 1) s6) = TT s6 - 1 := by have := TT_free hp h46; omega
            rw [eg, FW_free hg6, eT]
            exact C3
          · rw [if_neg (fun z => h6 (z6.mp z))]
            refine hgo u ?_
            rw [hskip (fun z => h6 z.2)]
            exact C
      · rw [if_neg hb, nl_n]
        refine hgo u ?_
        rw [hskip (fun z => hb z.1)]
        exact C
end GCL

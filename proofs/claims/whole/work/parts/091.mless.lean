def Ms (r u : Mm) (s : Sm) : Prop := u.2 = r.2 ∧ (∀ c, 31 ≤ c → u.1 c = r.1 c) ∧ ∀ c k, nsc c k → u.1 c k = eC c (s c k)
theorem nsc_ge {c k : Nat} (h : 31 ≤ c) : ¬ nsc c k := fun q => by have := nsc_lt q; omega
section MLS
variable {r u : Mm} {s : Sm} {n m o v N : Nat} {g x : Nat → Nat}
theorem MR.ms {r0 : Mm} (h : MR r u s) (h2 : r.2 = r0.2) (h1 : ∀ c, 31 ≤ c → r.1 c = r0.1 c) : Ms r0 u s := ⟨h.1.trans h2, fun c hc => by
  rw [← h1 c hc]
  funext k
  exact h.2.1 c k (nsc_ge hc), h.2.2⟩
theorem Ms.mr (h : Ms r u s) : MR u u s := ⟨rfl, fun _ _ _ => rfl, h.2.2⟩
theorem Ms.step {u' : Mm} {s' : Sm} (h : Ms r u s) (h' : MR u u' s') : Ms r u' s' := h'.ms h.1 h.2.1
theorem Ms.scr {c k : Nat} {w : Int32} (h : Ms r u s) (hc : c < 31) (hn : ¬ nsc c k) : Ms r (sI u c k w) s := (h.mr.scr hn).ms h.1 (fun d hd => by
  rw [← h.2.1 d hd]
  funext j
  show (if d = c ∧ j = k then w else u.1 d j) = u.1 d j
  rw [if_neg (by omega)])
theorem Go_bde {α β γ : Type} {f : Option (α × β)} {k : α → β → Option γ} {a : α} {b : β} {P : γ → Prop} (h : f = some (a, b)) (hk : Go (k a b) P) : Go (bd f k) P := by
  subst h
  exact hk
def MW (u : Mm) (m : Nat) (g x : Nat → Nat) : Prop := u.1 0 27 = i3 m ∧ ∀ j, j < m → u.1 25 j = i3 (g j) ∧ u.1 26 j = i3 (x j)
theorem MW.keep {u' : Mm} {s' : Sm} (h : MW u m g x) (h' : MR u u' s') : MW u' m g x := by
  refine ⟨?_, fun j hj => ⟨?_, ?_⟩⟩
  · rw [h'.f (by simp [nsc])]; exact h.1
  · rw [h'.f (by simp [nsc])]; exact (h.2 j hj).1
  · rw [h'.f (by simp [nsc])]; exact (h.2 j hj).2
theorem mo_low {h : Nat} (H : LI n (d1 h) m g s) (C : MR r u s) (hh : h < 80) (h4 : s 4 h ≠ 0) :
    Go (f_X8_isLetGo N (i3 h) u) (fun z => z.1 = (if s 5 h ≤ 1 ∧ ¬ (s 3 (s 4 h - 1) = 1 ∧ s 10 h = 0) then 1 else 0) ∧ MR r z.2 (lowA h s)) := by
  obtain ⟨hK, hT, hG, hF, hR, hL, hW, hO, hX, hB, hC, hS⟩ := H
  have r5 := hR h hh h4
  have hd : d1 h h = 1 := if_pos rfl
  have hTh := (hT h hh).1 h4
  have h5 : s 5 h ≠ 0 := by omega
  have bd := iR_bd hR hB hW (by rw [hd]; omega) hh h4
  have hv := hTh.1
  exact mo_isLetGo C hh hTh.1 ((hK (s 4 h - 1) (by have := hv.1; have := hv.2.1; omega)).2.1) hTh.2.2.2.1 h5 bd hTh.2.1 hTh.2.2.1 (iL_lt hL hh) (iW_lt hW hh)
theorem mo_lessloop (hN : 5000 ≤ N) : ∀ (j k m : Nat) (g x : Nat → Nat) (s : Sm) (u : Mm), Phi s ≤ k → 0 < j → (0 < m → 8 * k + (6 - x (m - 1)) < j) → LI n d0 m g s → Ms r u s → MW u m g x → (∀ i, i < m → x i ≤ 6 ∧ ∀ f, f < x i → s 12 (6 * g i + f) = 0) →
    Go (f_X8_less_28 N j u) (fun u' => Ms r u' (lessRun k m g s)) := by
  intro j
  induction j with
  | zero => intro k m g x s u _ hj; omega
  | succ j ih =>
    intro k m g x s u hk _ hj H C W hx
    show Go (g_X8_less_28 N (f_X8_less_28 N j) u) _
    have hS := H.2.2.2.2.2.2.2.2.2.2.2
    have hm80 := iS_le hS
    unfold g_X8_less_28
    rw [pt_d, W.1]
    rcases Nat.eq_zero_or_pos m with hm | hm
    · subst hm
      rw [if_pos (show i3 0 ≤ 0 by decide)]
      have e : lessRun k 0 g s = s := by
        cases k with
        | zero => rfl
        | succ k => unfold lessRun; rw [if_pos rfl]
      rw [e]
      exact Go.s C
    · have hj := hj hm
      rw [if_neg (show ¬ i3 m ≤ 0 by rw [i3_leL (by omega) (by decide)]; omega), pt_d]
      obtain ⟨h80, h4, h11, h5⟩ := top_facts H hm
      have hT := (H.2.1 (g (m - 1)) h80).1 h4
      have hK := H.1
      have hv := hT.1
      have hO := H.2.2.2.2.2.2.2.1
      have hX := H.2.2.2.2.2.2.2.2.1
      have hB := H.2.2.2.2.2.2.2.2.2.1
      have hfe : s 0 20 < 2000000000 := by have := hB.2.1; have := hB.2.2; omega
      obtain ⟨hx6, hxz⟩ := hx (m - 1) (by omega)
      have hW := W.2 (m - 1) (by omega)
      have hy := hK (s 4 (g (m - 1)) - 1) (by have := hv.1; have := hv.2.1; omega)
      have hph := Phi_top H hm
      have em : i3 m - 1 = i3 (m - 1) := i3_subL (show 1 ≤ m by omega)
      rw [em, i3_bI (by omega), decide_eq_true (by omega), ck_t, pt_d, i3_ix (by omega), hW.1, ck_t, pt_d, hW.2]
      refine Go_bde (mo_fieldsOf C.mr h80 hv hy.1) ?_
      have hn7 : nfo s (g (m - 1)) ≤ 6 := by unfold nfo; have := hy.1; omega
      cases k with
      | zero => omega
      | succ k =>
      unfold lessRun
      rw [if_neg (show ¬ m = 0 by omega)]
      by_cases hc : nfo s (g (m - 1)) ≤ x (m - 1)
      · have hz6 : ∀ f, f < 6 → s 12 (6 * g (m - 1) + f) = 0 := fun f hf => by
          by_cases q : f < x (m - 1)
          · exact hxz f q
          · have hi6 : (6 * g (m - 1) + f) / 6 = g (m - 1) := by omega
            have hF := H.2.2.2.1 (6 * g (m - 1) + f) (by omega) (by rw [hi6]; exact h4)
            apply Classical.byContradiction
            intro hne
            have := (hF.2 hne).1
            rw [hi6] at this
            omega
        have hff : ff s (g (m - 1)) = 6 := ff_6 hz6
        rw [if_neg (show ¬ ff s (g (m - 1)) < 6 by omega)]
        rw [if_pos ((i3_le (by omega) (by omega)).mpr hc), pt_d, W.1, em, pt_d]
        have C1 : Ms r (sI u 0 27 (i3 (m - 1))) s := C.scr (by decide) (by simp [nsc])
        have H2 := fin_inv H hm rfl hz6
        have hpf := Phi_fin h80 h4 h11 hz6
        have W1 : MW (sI u 0 27 (i3 (m - 1))) (m - 1) g x := ⟨rfl, fun i hi => ⟨(W.2 i (by omega)).1, (W.2 i (by omega)).2⟩⟩
        refine Go.bv (mo_turn C1.mr h80 hT.2.1) (fun u2 C2 => ?_)
        have e9 : blk (g (m - 1)) s 9 (g (m - 1)) = s 9 (g (m - 1)) := nS_ne (by omega)
        have z9 : i3 (s 9 (g (m - 1))) = 0 ↔ s 9 (g (m - 1)) = 0 := i3_eqL (by have := hT.2.2.1; omega) (by decide)
        have hxz' : ∀ i, i < m - 1 → x i ≤ 6 ∧ ∀ f, f < x i → finA (g (m - 1)) s 12 (6 * g i + f) = 0 := fun i hi => by
          have e12 : finA (g (m - 1)) s 12 = s 12 := by unfold finA blk; split <;> (funext j; simp [freeA, nS])
          rw [e12]
          exact hx i (by omega)
        rw [i3_bI (by omega), decide_eq_true h80, ck_t, pt_d, i3_ix (by omega), C2.g9 h80, e9]
        unfold f_X8_less_191
        by_cases h9 : s 9 (g (m - 1)) = 0
        · rw [if_pos (z9.mpr h9)]
          have e13 : ∀ w, w < 400 → blk (g (m - 1)) s 13 w ≤ 80 := fun w hw => by unfold blk; rw [nS_ne (by omega)]; exact (hO w hw).1
          have e18 : ∀ w, w < 20 → blk (g (m - 1)) s 18 w ≤ 80 := fun w hw => by unfold blk; rw [nS_ne (by omega)]; exact (hX w hw).1
          refine Go.bv (mo_free (by omega) C2 h80 e13 e18 (by unfold blk; rw [nS_ne (by omega)]; exact hfe)) (fun u3 C3 => ?_)
          have ef : finA (g (m - 1)) s = freeA (g (m - 1)) (blk (g (m - 1)) s) := by unfold finA; rw [if_pos h9]
          rw [← ef] at C3
          exact ih k (m - 1) g x _ u3 (by omega) (by omega) (fun _ => by omega) H2 (C1.step C3) (W1.keep C3) hxz'
        · rw [if_neg (fun z => h9 (z9.mp z)), ck_t, pt_d]
          have C3 := C2.set (c := 11) (k := g (m - 1)) (v := 1) (w := vp_nar .boolean 1) (by simp [nsc] <;> omega) (by decide)
          have ef : finA (g (m - 1)) s = nS (blk (g (m - 1)) s) 11 (g (m - 1)) 1 := by unfold finA; rw [if_neg h9]
          rw [← ef] at C3
          exact ih k (m - 1) g x _ _ (by omega) (by omega) (fun _ => by omega) H2 (C1.step C3) (W1.keep C3) hxz'
      · have hi6 : (6 * g (m - 1) + x (m - 1)) / 6 = g (m - 1) := by omega
        have hF := H.2.2.2.1 (6 * g (m - 1) + x (m - 1)) (by omega) (by rw [hi6]; exact h4)
        rw [if_neg (fun z => hc ((i3_le (by omega) (by omega)).mp z)), ck_t, pt_d, ck_t, pt_d, hW.2, i3_addL, ck_t, pt_d]
        generalize hx' : (fun i => if i = m - 1 then x (m - 1) + 1 else x i) = x'
        have ex : ∀ i, x' i = if i = m - 1 then x (m - 1) + 1 else x i := fun i => by rw [← hx']
        have C1 : Ms r (sI u 26 (m - 1) (i3 (x (m - 1) + 1))) s := C.scr (by decide) (by simp [nsc])
        have W1 : MW (sI u 26 (m - 1) (i3 (x (m - 1) + 1))) m g x' := ⟨W.1, fun i hi => ⟨(W.2 i hi).1, by
          show (if 26 = 26 ∧ i = m - 1 then i3 (x (m - 1) + 1) else u.1 26 i) = _
          rw [ex]
          by_cases q : i = m - 1
          · rw [if_pos ⟨rfl, q⟩, if_pos q]
          · rw [if_neg (fun z => q z.2), if_neg q]; exact (W.2 i hi).2⟩⟩
        have e6 : 6 * i3 (g (m - 1)) + i3 (x (m - 1)) = i3 (6 * g (m - 1) + x (m - 1)) := by rw [i3_mulL, i3_add]
        rw [e6, i3_bI (by omega), decide_eq_true (by omega), ck_t, pt_d, i3_ix (by omega), C1.mr.g12 (by omega), ck_t, pt_d]
        have C2 := C1.mr.set (c := 12) (k := 6 * g (m - 1) + x (m - 1)) (v := 0) (w := -1) (by simp [nsc] <;> omega) rfl
        have W2 := W1.keep C2
        have zlt : oI (s 12 (6 * g (m - 1) + x (m - 1))) < 0 ↔ s 12 (6 * g (m - 1) + x (m - 1)) = 0 := oI_lt0 (by omega)
        unfold f_X8_less_148 f_X8_less_191
        by_cases hv0 : s 12 (6 * g (m - 1) + x (m - 1)) = 0
        · rw [if_pos (zlt.mpr hv0)]
          rw [nS_id hv0] at C2
          have hr := ih (k + 1) m g x' s _ hk (by omega) (fun _ => by rw [ex, if_pos rfl]; omega) H (C1.step C2) W2 (fun i hi => by
            rw [ex]
            by_cases q : i = m - 1
            · rw [if_pos q]
              refine ⟨by omega, fun f hf => ?_⟩
              rw [q]
              by_cases qf : f = x (m - 1)
              · rw [qf]; exact hv0
              · exact hxz f (by omega)
            · rw [if_neg q]; exact hx i hi)
          unfold lessRun at hr
          rw [if_neg (show ¬ m = 0 by omega)] at hr
          exact hr
        · have hff : ff s (g (m - 1)) = x (m - 1) := ff_of (by omega) hxz hv0
          rw [if_neg (fun z => hv0 (zlt.mp z)), if_pos (show ff s (g (m - 1)) < 6 by omega), hff]
          obtain ⟨i, h, hi, h480, h4i, hvi, hh, h4h, H1⟩ := step_give H hm (show ff s (g (m - 1)) < 6 by omega)
          rw [hff] at hi
          rw [← hi] at hv0 C2 W2 ⊢
          rw [hvi, oI_s, show h + 1 - 1 = h by omega]
          have h4h' : nS s 12 i 0 4 h ≠ 0 := by rw [nS_ne (by omega)]; exact h4h
          have H2 := low_inv H1 hh h4h'
          have hph2 := Phi_give (h := h) h480 h4i (by omega)
          have hS2 := H2.2.2.2.2.2.2.2.2.2.2.2
          have hpl := iS_le hS2
          refine Go.bd (mo_low H1 C2 hh h4h') (fun a u3 hz => ?_)
          have hz1 : a = (if nS s 12 i 0 5 h ≤ 1 ∧ ¬ (nS s 12 i 0 3 (nS s 12 i 0 4 h - 1) = 1 ∧ nS s 12 i 0 10 h = 0) then 1 else 0) := hz.1
          have C3 : MR _ u3 _ := hz.2
          have W3 := W1.keep C3
          have C3' := C1.step C3
          have e12 : lowA h (nS s 12 i 0) 12 = nS s 12 i 0 12 := lowA_f (by omega)
          have hxx : ∀ i1, i1 < m → x' i1 ≤ 6 ∧ ∀ f, f < x' i1 → lowA h (nS s 12 i 0) 12 (6 * pshg h m g i1 + f) = 0 := fun i1 hi1 => by
            have epg : pshg h m g i1 = g i1 := if_neg (by omega)
            rw [e12, ex, epg]
            by_cases q : i1 = m - 1
            · rw [if_pos q]
              refine ⟨by omega, fun f hf => ?_⟩
              rw [q]
              by_cases qf : f = x (m - 1)
              · rw [qf, ← hi]; exact nS_eq
              · rw [nS_ne (by omega)]; exact hxz f (by omega)
            · rw [if_neg q]
              refine ⟨(hx i1 hi1).1, fun f hf => ?_⟩
              have := (hx i1 hi1).2 f hf
              unfold nS
              split
              · rfl
              · exact this
          by_cases hgo : nS s 12 i 0 5 h ≤ 1 ∧ ¬ (nS s 12 i 0 3 (nS s 12 i 0 4 h - 1) = 1 ∧ nS s 12 i 0 10 h = 0)
          · rw [if_pos hgo] at hz1
            have ep : psh h (nS s 12 i 0) m = m + 1 := if_pos hgo
            rw [ep] at H2 hpl hS2 ⊢
            rw [hz1, if_neg (by decide), pt_d, W3.1, i3_bI (by omega), decide_eq_true (by omega), ck_t, pt_d, i3_ix (by omega), pt_d]
            have e27 : (sI u3 25 m (i3 h)).1 0 27 = i3 m := W3.1
            rw [e27, i3_bI (by omega), decide_eq_true (by omega), ck_t, pt_d, i3_ix (by omega), pt_d]
            have e27' : (sI (sI u3 25 m (i3 h)) 26 m 0).1 0 27 = i3 m := W3.1
            rw [e27', pt_d, i3_addL]
            have C4 : Ms r (sI (sI (sI u3 25 m (i3 h)) 26 m 0) 0 27 (i3 (m + 1))) (lowA h (nS s 12 i 0)) := ((C3'.scr (by decide) (by simp [nsc])).scr (by decide) (by simp [nsc])).scr (by decide) (by simp [nsc])
            refine ih k (m + 1) (pshg h m g) (fun i1 => if i1 = m then 0 else x' i1) _ _ (by omega) (by omega) (fun _ => ?_) H2 C4 ⟨rfl, fun i1 hi1 => ⟨?_, ?_⟩⟩ (fun i1 hi1 => ?_)
            · show 8 * k + (6 - (if m + 1 - 1 = m then 0 else _)) < j
              rw [if_pos (by omega)]
              omega
            · show (if 25 = 25 ∧ i1 = m then i3 h else u3.1 25 i1) = i3 (pshg h m g i1)
              unfold pshg
              by_cases q : i1 = m
              · rw [if_pos ⟨rfl, q⟩, if_pos q]
              · rw [if_neg (fun z => q z.2), if_neg q]; exact (W3.2 i1 (by omega)).1
            · show (if 26 = 26 ∧ i1 = m then 0 else u3.1 26 i1) = i3 (if i1 = m then 0 else x' i1)
              by_cases q : i1 = m
              · rw [if_pos ⟨rfl, q⟩, if_pos q]; rfl
              · rw [if_neg (fun z => q z.2), if_neg q]; exact (W3.2 i1 (by omega)).2
            · by_cases q : i1 = m
              · rw [if_pos q]; exact ⟨by omega, fun f hf => by omega⟩
              · rw [if_neg q]; exact hxx i1 (by omega)
          · rw [if_neg hgo] at hz1
            have ep : psh h (nS s 12 i 0) m = m := if_neg hgo
            rw [ep] at H2 hpl hS2 ⊢
            rw [hz1, if_pos rfl]
            refine ih k m (pshg h m g) x' _ _ (by omega) (by omega) (fun _ => ?_) H2 C3' ⟨W3.1, fun i1 hi1 => ⟨?_, (W3.2 i1 hi1).2⟩⟩ hxx
            · rw [ex, if_pos rfl]; omega
            · unfold pshg
              rw [if_neg (by omega)]; exact (W3.2 i1 hi1).1
theorem mo_less (hN : 5000 ≤ N) (H : LI n (d1 o) 0 g s) (C : Ms r u s) (ho : o < 80) (h4 : s 4 o ≠ 0) : Go (f_X8_less N (i3 o) u) (fun u' => Ms r u' (lessA o s)) := by
  unfold f_X8_less lessA
  have H0 : LI n (d1 o) 0 (fun _ => 0) s := by
    obtain ⟨hK, hT, hG, hF, hR, hL, hW, hO, hX, hB, hC, hS⟩ := H
    exact ⟨hK, hT, hG, hF, hR, hL, hW, hO, hX, hB, hC, fun j hj => absurd hj (by omega), fun p a b c d => by obtain ⟨j, hj, _⟩ := hS.2 p a b c d; omega⟩
  have H2 := low_inv H0 ho h4
  refine Go.bd (mo_low H0 C.mr ho h4) (fun a u1 hz => ?_)
  have hz1 : a = (if s 5 o ≤ 1 ∧ ¬ (s 3 (s 4 o - 1) = 1 ∧ s 10 o = 0) then 1 else 0) := hz.1
  have C1 : Ms r u1 _ := C.step hz.2
  by_cases hgo : s 5 o ≤ 1 ∧ ¬ (s 3 (s 4 o - 1) = 1 ∧ s 10 o = 0)
  · rw [if_pos hgo] at hz1
    have ep : psh o s 0 = 1 := if_pos hgo
    rw [ep] at H2 ⊢
    rw [hz1, if_neg (by decide), pt_d, show bI 0 80 = true by decide, ck_t, pt_d, ck_t, pt_d, show ix 0 = 0 by decide]
    have C4 : Ms r (sI (sI (sI u1 0 27 1) 25 0 (i3 o)) 26 0 0) (lowA o s) := ((C1.scr (by decide) (by simp [nsc])).scr (by decide) (by simp [nsc])).scr (by decide) (by simp [nsc])
    refine mo_lessloop hN N 560 1 (pshg o 0 (fun _ => 0)) (fun _ => 0) _ _ Phi_le (by omega) (fun _ => by omega) H2 C4 ⟨rfl, fun i hi => ?_⟩ (fun i hi => ⟨by omega, fun f hf => by omega⟩)
    have : i = 0 := by omega
    subst this
    exact ⟨rfl, rfl⟩
  · rw [if_neg hgo] at hz1
    have ep : psh o s 0 = 0 := if_neg hgo
    rw [ep, hz1, if_pos rfl]
    have e : lessRun 560 0 (pshg o 0 (fun _ => 0)) (lowA o s) = lowA o s := by unfold lessRun; rw [if_pos rfl]
    rw [e]
    exact Go.s C1
end MLS

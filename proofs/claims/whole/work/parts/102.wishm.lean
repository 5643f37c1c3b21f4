def BAr (u : Mm) (s : Sm) : Prop := u.1 0 29 = i3 (cnt 400 (bs s)) ∧ ∀ w, w < 400 → bs s w = true → u.1 28 (cnt w (bs s)) = i3 (s 13 w - 1)
section BYA
variable {r u : Mm} {s s2 : Sm} {n w o N : Nat}
theorem cnt_step {p : Nat → Bool} (h : p w = true) : cnt (w + 1) p = cnt w p + 1 := by
  show cnt w p + (if p w = true then 1 else 0) = _
  rw [h]; rfl
theorem cnt_stay {p : Nat → Bool} (h : p w = false) : cnt (w + 1) p = cnt w p := by
  show cnt w p + (if p w = true then 1 else 0) = _
  rw [h]; rfl
theorem cnt_grow {p : Nat → Bool} (h : w ≤ n) : cnt w p ≤ cnt n p := by
  have h1 : ∀ d, cnt w p ≤ cnt (w + d) p := fun d => by
    induction d with
    | zero => exact Nat.le_refl _
    | succ d ih => exact Nat.le_trans ih (Nat.le_add_right _ _)
  have := h1 (n - w)
  rw [show w + (n - w) = n by omega] at this
  exact this
theorem bs_cnt (H : CI n s) (hw : w ≤ 400) : cnt w (bs s) ≤ 80 := by
  have h1 : cnt w (bs s) ≤ cnt 80 (fun _ => true) := cnt_inj (fun w => s 13 w - 1) (fun i hi hb => ⟨(bs_ok H (by omega) hb).1, rfl⟩) (fun i j hi hj hb1 hb2 e => by
    have e : s 13 i - 1 = s 13 j - 1 := e
    have h1 := (bs_t.mp hb1).2
    have h2 := (bs_t.mp hb2).2
    rw [e] at h1
    omega)
  exact Nat.le_trans h1 cnt_le
theorem lo_find (H : CI n s) : ∀ (j w : Nat) (u : Mm), w ≤ 400 → 400 - w < j → Ms r u s → u.1 0 29 = i3 (cnt w (bs s)) → (∀ x, x < w → bs s x = true → u.1 28 (cnt x (bs s)) = i3 (s 13 x - 1)) →
    Go (f_X8_findByAddress_7 N j (i3 w) u) (fun u' => Ms r u' s ∧ BAr u' s) := by
  intro j
  induction j with
  | zero => intro w u _ hj; omega
  | succ j ih =>
    intro w u hw hj C h29 h28
    show Go (g_X8_findByAddress_7 N (f_X8_findByAddress_7 N j) (i3 w) u) _
    unfold g_X8_findByAddress_7
    by_cases hw4 : 400 ≤ w
    · rw [if_pos ((i3_Lle (by omega) (by decide)).mpr hw4)]
      have : w = 400 := by omega
      subst this
      exact Go.s ⟨C, h29, h28⟩
    · have hw3 : w < 400 := by omega
      have hO := H.2.2.2.2.2.2.1 w hw3
      rw [if_neg (fun z => hw4 ((i3_Lle (by omega) (by decide)).mp z)), i3_bI (by omega), decide_eq_true hw3, ck_t, pt_d, i3_ix (by omega), C.mr.g13 hw3]
      unfold f_X8_findByAddress_55
      rw [i3_addL]
      have zlt : oI (s 13 w) < 0 ↔ s 13 w = 0 := oI_lt0 (by omega)
      have hno : bs s w = false → Go (f_X8_findByAddress_7 N j (i3 (w + 1)) u) (fun u' => Ms r u' s ∧ BAr u' s) := fun hb => by
        refine ih (w + 1) u (by omega) (by omega) C (by rw [cnt_stay hb]; exact h29) (fun x hx hbx => ?_)
        have : x ≠ w := fun z => by rw [z, hb] at hbx; cases hbx
        exact h28 x (by omega) hbx
      by_cases h0 : s 13 w = 0
      · rw [if_pos (zlt.mpr h0)]
        refine hno ?_
        cases hb : bs s w with
        | false => rfl
        | true => exact absurd h0 (bs_t.mp hb).1
      · have h4 := hO.2 h0
        have h80 : s 13 w - 1 < 80 := by omega
        have hg := (H.2.2.1 _ h80 h4).1
        rw [if_neg (fun z => h0 (zlt.mp z)), oI_p h0, i3_bI (by omega), decide_eq_true h80, ck_t, pt_d, i3_ix (by omega), C.mr.g7 h80]
        by_cases h7 : s 7 (s 13 w - 1) = w
        · have hb : bs s w = true := bs_t.mpr ⟨h0, h7⟩
          have hc := bs_cnt H (show w + 1 ≤ 400 by omega)
          rw [cnt_step hb] at hc
          rw [if_pos ((i3_eq (by omega) (by omega)).mpr h7), pt_d, h29, i3_bI (by omega), decide_eq_true (by omega), ck_t, pt_d, i3_ix (by omega), pt_d]
          have e29 : (sI u 28 (cnt w (bs s)) (i3 (s 13 w - 1))).1 0 29 = i3 (cnt w (bs s)) := h29
          rw [e29, i3_addL, pt_d]
          refine ih (w + 1) _ (by omega) (by omega) ((C.scr (by decide) (by simp [nsc])).scr (by decide) (by simp [nsc])) (by rw [cnt_step hb]; rfl) (fun x hx hbx => ?_)
          rw [sI_x (by omega)]
          show (if 28 = 28 ∧ cnt x (bs s) = cnt w (bs s) then i3 (s 13 w - 1) else u.1 28 (cnt x (bs s))) = _
          by_cases q : x = w
          · rw [q, if_pos ⟨rfl, rfl⟩]
          · have h3 : cnt (x + 1) (bs s) ≤ cnt w (bs s) := cnt_grow (by omega)
            rw [cnt_step hbx] at h3
            rw [if_neg (by omega)]
            exact h28 x (by omega) hbx
        · rw [if_neg (fun z => h7 ((i3_eq (by omega) (by omega)).mp z))]
          refine hno ?_
          cases hb : bs s w with
          | false => rfl
          | true => exact absurd (bs_t.mp hb).2 h7
theorem mo_find (hN : 5000 ≤ N) (H : CI n s) (C : Ms r u s) : Go (f_X8_findByAddress N u) (fun u' => Ms r u' s ∧ BAr u' s) := by
  unfold f_X8_findByAddress
  rw [pt_d]
  exact lo_find H N 0 _ (by omega) (by omega) (C.scr (by decide) (by simp [nsc])) rfl (fun x hx => by omega)
theorem BAr.keep {u' : Mm} {s' : Sm} (h : BAr u s) (h' : MR u u' s') : BAr u' s := by
  refine ⟨?_, fun w hw hb => ?_⟩
  · rw [h'.f (by simp [nsc])]; exact h.1
  · rw [h'.f (by simp [nsc])]; exact h.2 w hw hb
theorem BAr.kp {u' : Mm} (h : BAr u s) (h' : KP u u') : BAr u' s := by
  refine ⟨?_, fun w hw hb => ?_⟩
  · rw [h' 0 29 (by simp [nsc]) (by decide) (by decide)]; exact h.1
  · rw [h' 28 _ (by simp [nsc]) (by decide) (by decide)]; exact h.2 w hw hb
theorem mo_wishLoop (hN : 5000 ≤ N) {v1 : Int32} {P : Int32 × Mm → Prop}
    (hk : ∀ u', Ms r u' (wRun 400 0 s2) → BAr u' s2 → Go (bv (f_X8_gather N u') (fun u => pt (u.1 0 20) (fun x5 => some (x5 - v1, u)))) P) (H2 : CI n s2) :
    ∀ (d w j : Nat) (u : Mm) (s : Sm), w + d = 400 → d < j → WK n s → s 13 = s2 13 → s 7 = s2 7 → wRun 400 0 s2 = wRun d w s → Ms r u s → BAr u s2 →
    Go (f_X8_collect_56 N j v1 (i3 (cnt w (bs s2))) u) P := by
  intro d
  induction d with
  | zero =>
    intro w j u s hwd hj H e13 e7 he C B
    have : w = 400 := by omega
    subst this
    cases j with
    | zero => omega
    | succ j =>
      show Go (g_X8_collect_56 N (f_X8_collect_56 N j) v1 (i3 (cnt 400 (bs s2))) u) P
      unfold g_X8_collect_56
      have hc := bs_cnt H2 (Nat.le_refl 400)
      rw [pt_d, B.1, if_pos ((i3_le (by omega) (by omega)).mpr (Nat.le_refl _))]
      have he' : wRun 400 0 s2 = s := he
      rw [← he'] at C
      exact hk u C B
  | succ d ih =>
    intro w j u s hwd hj H e13 e7 he C B
    have hw : w < 400 := by omega
    have he2 : wRun (d + 1) w s = wRun d (w + 1) (wAt w s) := rfl
    rw [he2] at he
    have ebs : bs s = bs s2 := by funext x; unfold bs; rw [e13, e7]
    have Hn := wAt_inv H hw
    have e13' : wAt w s 13 = s2 13 := (wAt_f (by decide) (by decide) (by decide) (by decide) (by decide)).trans e13
    have e7' : wAt w s 7 = s2 7 := (wAt_f (by decide) (by decide) (by decide) (by decide) (by decide)).trans e7
    have hskip : ¬ (bs s w = true ∧ s 6 (s 13 w - 1) = 2 ∧ s 3 (s 4 (s 13 w - 1) - 1) = 1 ∧ s 10 (s 13 w - 1) = 0) → wAt w s = s := fun z => by unfold wAt; rw [if_neg z]
    cases hb : bs s2 w with
    | false =>
      have es : wAt w s = s := hskip (fun z => by rw [ebs, hb] at z; cases z.1)
      rw [es] at he
      have := ih (w + 1) j u s (by omega) (by omega) H e13 e7 he C B
      rw [cnt_stay hb] at this
      exact this
    | true =>
      have hb1 : bs s w = true := by rw [ebs]; exact hb
      obtain ⟨h80, h4, heq⟩ := bs_ok H.1 hw hb1
      have hc := bs_cnt H2 (show w + 1 ≤ 400 by omega)
      rw [cnt_step hb] at hc
      have hc4 : cnt (w + 1) (bs s2) ≤ cnt 400 (bs s2) := cnt_grow (by omega)
      rw [cnt_step hb] at hc4
      have hc80 := bs_cnt H2 (Nat.le_refl 400)
      have h28 := B.2 w hw hb
      rw [← e13] at h28
      cases j with
      | zero => omega
      | succ j =>
        show Go (g_X8_collect_56 N (f_X8_collect_56 N j) v1 (i3 (cnt w (bs s2))) u) P
        unfold g_X8_collect_56
        rw [pt_d, B.1, if_neg (fun z => by have := (i3_le (by omega) (by omega)).mp z; omega), i3_bI (by omega), decide_eq_true (by omega), ck_t, pt_d, i3_ix (by omega), h28]
        generalize hoo : s 13 w - 1 = o at *
        have hT := H.1.2.1 o h80 h4
        have hv1 := hT.1.1
        have hv2 := hT.1.2.1
        have hK := H.1.1 (s 4 o - 1) (by omega)
        rw [i3_bI (by omega), decide_eq_true h80, ck_t, pt_d, i3_ix (by omega), C.mr.g6 h80]
        unfold f_X8_collect_109
        rw [i3_addL]
        have hgo : ∀ u', Ms r u' (wAt w s) → BAr u' s2 → Go (f_X8_collect_56 N j v1 (i3 (cnt w (bs s2) + 1)) u') P := fun u' C' B' => by
          have := ih (w + 1) j u' (wAt w s) (by omega) (by omega) Hn e13' e7' he C' B'
          rw [cnt_step hb] at this
          exact this
        have z6 : i3 (s 6 o) = 2 ↔ s 6 o = 2 := i3_eqL (by omega) (by decide)
        by_cases h6 : s 6 o = 2
        · rw [if_pos (z6.mpr h6)]
          refine Go_bde (mo_hasWish C.mr h80 hT.1 hK.2.1 hT.2.2.2.1) ?_
          by_cases hwh : s 3 (s 4 o - 1) = 1 ∧ s 10 o = 0
          · rw [if_pos hwh, if_neg (by decide)]
            obtain ⟨hC1, h17⟩ := tell_CI H.1 h80 h4 hwh.2
            refine Go.bv (mo_tell C.mr h80 h17) (fun u1 C1 => ?_)
            have e5 : tellA o s 5 o = s 5 o := by unfold tellA; rw [nS_ne (by omega), nS_ne (by omega), nS_ne (by omega)]
            rw [ck_t, pt_d, C1.g5 h80, e5, i3_addL, ck_t, pt_d]
            have C2 := C1.set (c := 5) (k := o) (v := s 5 o + 1) (w := i3 (s 5 o + 1)) (by simp [nsc] <;> omega) rfl
            have e4 : nS (tellA o s) 5 o (s 5 o + 1) 4 o = s 4 o := by unfold tellA; rw [nS_ne (by omega), nS_ne (by omega), nS_ne (by omega), nS_ne (by omega)]
            have e6 : nS (tellA o s) 5 o (s 5 o + 1) 6 o = 2 := by unfold tellA; rw [nS_ne (by omega), nS_ne (by omega), nS_ne (by omega), nS_ne (by omega)]; exact h6
            refine Go.bv (mo_black hN hC1.2.2.2.1 hC1.1 (CI_V hC1) (C.step C2) h80 (by rw [e4]; exact h4) (by omega) (by rw [e6]; decide)) (fun u2 h2 => ?_)
            refine hgo u2 ?_ ((B.keep C2).kp h2.2)
            have e : wAt w s = wstep o s := by unfold wAt; rw [hoo, if_pos ⟨hb1, h6, hwh⟩]
            rw [e]
            exact h2.1
          · rw [if_neg hwh, if_pos rfl]
            refine hgo u ?_ B
            rw [hskip (fun z => hwh z.2.2)]
            exact C
        · rw [if_neg (fun z => h6 (z6.mp z))]
          refine hgo u ?_ B
          rw [hskip (fun z => h6 z.2.1)]
          exact C
end BYA

noncomputable def mRun (l0 : Nat → Nat) : Nat → Nat → Sm → Sm
  | 0, _, s => s
  | d + 1, k, s => mRun l0 d (k + 1) (mstep (l0 k) s)
section MKB
variable {th : Nat → Option Nat} {n n0 k m fw tt : Nat} {l l0 g : Nat → Nat} {q : Nat → Prop} {r u : Mm} {s : Sm} {o t v N : Nat}
theorem mstep_inv (H : MK n n0 l0 k s) (hk : k < n0) : MK n n0 l0 (k + 1) (mstep (l0 k) s) := by
  unfold mstep
  by_cases h11 : s 11 (l0 k) = 0
  · rw [if_neg (fun z => z h11)]
    by_cases h6 : s 6 (l0 k) = 1
    · rw [if_pos h6]; exact mark_gray H hk h11 h6
    · rw [if_neg h6]; exact (mark_turn H hk h11 h6).1
  · rw [if_pos h11]; exact mark_husk H hk h11
theorem mRun_inv : ∀ (d k : Nat) (s : Sm), k + d = n0 → MK n n0 l0 k s → MK n n0 l0 n0 (mRun l0 d k s) := by
  intro d
  induction d with
  | zero => intro k s hk H; rw [Nat.add_zero] at hk; subst hk; exact H
  | succ d ih => intro k s hk H; exact ih (k + 1) _ (by omega) (mstep_inv H (by omega))
theorem MK_at (H : MK n n0 l0 k s) (hk : k < n0) : l0 k < 80 ∧ s 4 (l0 k) ≠ 0 ∧ s 9 (l0 k) = 1 ∧ s 6 (l0 k) ≠ 4 ∧ s 14 k = l0 k ∧ vo s (l0 k) ∧ s 6 (l0 k) ≤ 4 ∧ s 11 (l0 k) ≤ 1 ∧ geo s (l0 k) ∧ s 0 20 < 2000000000 ∧ n0 ≤ 80 ∧ s 0 15 ≤ k := by
  have h1 := H.2.2.2.2.2.1
  have h2 := H.2.2.2.2.2.2.1 k (Nat.le_refl _) hk
  have h80 := (h1.2 k hk).1
  have hT := H.1.2.1 _ h80 h2.1
  have hB := H.1.2.2.2.2.2.2.2.2
  have hg := H.2.2.2.2.2.2.2.1.1
  refine ⟨h80, h2.1, h2.2.1, h2.2.2.1, h2.2.2.2, hT.1, hT.2.1, hT.2.2.2.2.1, H.1.2.2.1 _ h80 h2.1, ?_, h1.1, by rw [hg]; exact cnt_le⟩
  have := hB.2.1
  have := hB.2.2
  omega
theorem co_markLoop (hN : 5000 ≤ N) : ∀ (j k : Nat) (u : Mm) (s : Sm), k ≤ n0 → n0 - k < j → MK n n0 l0 k s → CR th n0 l0 0 g (fun _ => False) (FW s) (TT s) r u s →
    Go (f_X0_markListed_10 N j (i3 k) u) (fun u' => CR th n0 l0 0 g (fun _ => False) (FW (mRun l0 (n0 - k) k s)) (TT (mRun l0 (n0 - k) k s)) r u' (mRun l0 (n0 - k) k s)) := by
  intro j
  induction j with
  | zero => intro k u s _ hj; omega
  | succ j ih =>
    intro k u s hkn hj H C
    show Go (g_X0_markListed_10 N (f_X0_markListed_10 N j) (i3 k) u) _
    unfold g_X0_markListed_10
    have hn80 := H.2.2.2.2.2.1.1
    by_cases h8 : 80 ≤ k
    · rw [if_pos ((i3_Lle (by omega) (by decide)).mpr h8)]
      have e : n0 - k = 0 := by omega
      rw [e]
      exact Go.s C
    rw [if_neg (fun z => h8 ((i3_Lle (by omega) (by decide)).mp z))]
    rw [pt_d, C.cl.1]
    by_cases hk : n0 ≤ k
    · rw [if_pos ((i3_le (by omega) (by omega)).mpr hk)]
      have e : n0 - k = 0 := by omega
      rw [e]
      exact Go.s C
    · have hkl : k < n0 := by omega
      obtain ⟨h80, h4, h9, h64, h14, hv, h6, h11, hg, h20, _, _⟩ := MK_at H hkl
      rw [if_neg (fun z => hk ((i3_le (by omega) (by omega)).mp z)), x3_item (j := k) C.cl.1 hn80 rfl (by omega), bd_s, if_pos hkl, C.cl.2 k hkl]
      have hth := ((C.cs h80).2 h4).2
      cases hc : th (l0 k) with
      | none => exact absurd hc hth
      | some t =>
        rw [nl_s, pt_d, (C.b hc h4).1]
        unfold f_X0_markListed_81
        rw [i3_addL]
        have z11 : i3 (s 11 (l0 k)) = 0 ↔ s 11 (l0 k) = 0 := i3_eqL (by omega) (by decide)
        have z6 : i3 (s 6 (l0 k)) = 1 ↔ s 6 (l0 k) = 1 := i3_eqL (by omega) (by decide)
        have er : mRun l0 (n0 - k) k s = mRun l0 (n0 - (k + 1)) (k + 1) (mstep (l0 k) s) := by
          rw [show n0 - k = (n0 - (k + 1)) + 1 by omega]
          rfl
        rw [er]
        have Hn := mstep_inv H hkl
        by_cases h110 : s 11 (l0 k) = 0
        · rw [if_pos (z11.mpr h110), pt_d, C.a5 hc]
          by_cases h61 : s 6 (l0 k) = 1
          · have em : mstep (l0 k) s = nS s 9 (l0 k) 0 := by unfold mstep; rw [if_neg (fun z => z h110), if_pos h61]
            rw [if_pos (z6.mpr h61), pt_d]
            refine ih (k + 1) _ _ (by omega) (by omega) Hn ?_
            rw [em, FW_c (s := s) (by funext j; simp [nS]), TT_c (s := s) (by funext j; simp [nS])]
            exact C.t8 (v := 0) hc
          · have em : mstep (l0 k) s = appA (l0 k) (travA false (l0 k) s) := by unfold mstep; rw [if_neg (fun z => z h110), if_neg h61]
            rw [if_neg (fun z => h61 (z6.mp z))]
            have HT := mark_turn H hkl h110 h61
            refine Go.bv (co_mark hN H.1.2.2.2.1 (CI_6 H.1) HT.2 C hc h4 h64 h61) (fun u1 h1 => ?_)
            refine ih (k + 1) _ _ (by omega) (by omega) Hn ?_
            have hsame := trav_same (s := s) (root := l0 k) false
            have eF : FW (mstep (l0 k) s) = FW s := by
              rw [em, FW_c (s := travA false (l0 k) s) (by unfold appA; funext j; simp [nS])]
              exact FW_c (hsame.fn (by decide) (by decide) (by decide))
            have eT : TT (mstep (l0 k) s) = TT s := by
              rw [em, TT_c (s := travA false (l0 k) s) (by unfold appA; funext j; simp [nS])]
              exact TT_c (hsame.fn (by decide) (by decide) (by decide))
            rw [eF, eT, em]
            exact (h1.1.s14).s15
        · have em : mstep (l0 k) s = freeA (l0 k) (nS s 9 (l0 k) 0) := by unfold mstep; rw [if_pos h110]
          rw [if_neg (fun z => h110 (z11.mp z)), pt_d]
          have C1 : CR th n0 l0 0 g (fun _ => False) (FW s) (TT s) r (sI u t 8 0) (nS s 9 (l0 k) 0) := C.t8 (v := 0) hc
          have hv' : vo (nS s 9 (l0 k) 0) (l0 k) := by unfold vo nS at *; grind
          have hg' : geo (nS s 9 (l0 k) 0) (l0 k) := by unfold geo szo nS at *; grind
          refine Go.bv (co_free (by omega) C1 hc hv' hg' (by rw [nS_ne (by omega)]; exact h20) (TT_pos h80 h4)) (fun u1 h1 => ?_)
          refine ih (k + 1) _ _ (by omega) (by omega) Hn ?_
          have eF : FW (mstep (l0 k) s) = FW s + szo (nS s 9 (l0 k) 0) (l0 k) := by
            rw [em, FW_free hg', FW_c (s := s) (by funext j; simp [nS])]
          have eT : TT (mstep (l0 k) s) = TT s - 1 := by
            have h := TT_free (s := nS s 9 (l0 k) 0) h80 (by rw [nS_ne (by omega)]; exact h4)
            rw [TT_c (s := s) (s' := nS s 9 (l0 k) 0) (by funext j; simp [nS])] at h
            rw [em]
            omega
          rw [eF, eT, em]
          exact h1
theorem mo_markLoop (hN : 5000 ≤ N) : ∀ (j k : Nat) (u : Mm) (s : Sm), k ≤ n0 → n0 - k < j → MK n n0 l0 k s → Ms r u s →
    Go (f_X8_mark_12 N j (i3 n0) (i3 k) u) (fun u' => Ms r u' (mRun l0 (n0 - k) k s)) := by
  intro j
  induction j with
  | zero => intro k u s _ hj; omega
  | succ j ih =>
    intro k u s hkn hj H C
    show Go (g_X8_mark_12 N (f_X8_mark_12 N j) (i3 n0) (i3 k) u) _
    unfold g_X8_mark_12
    have hn80 := H.2.2.2.2.2.1.1
    by_cases hk : n0 ≤ k
    · rw [if_pos ((i3_le (by omega) (by omega)).mpr hk)]
      have e : n0 - k = 0 := by omega
      rw [e]
      exact Go.s C
    · have hkl : k < n0 := by omega
      obtain ⟨h80, h4, h9, h64, h14, hv, h6, h11, hg, h20, _, h15⟩ := MK_at H hkl
      rw [if_neg (fun z => hk ((i3_le (by omega) (by omega)).mp z)), i3_bI (by omega), decide_eq_true (by omega), ck_t, pt_d, i3_ix (by omega), C.mr.g14 (by omega), h14, i3_bI (by omega), decide_eq_true h80, ck_t, pt_d, i3_ix (by omega), C.mr.g11 h80]
      unfold f_X8_mark_93
      rw [i3_addL]
      have z11 : i3 (s 11 (l0 k)) = 0 ↔ s 11 (l0 k) = 0 := i3_eqL (by omega) (by decide)
      have z6 : i3 (s 6 (l0 k)) = 1 ↔ s 6 (l0 k) = 1 := i3_eqL (by omega) (by decide)
      have er : mRun l0 (n0 - k) k s = mRun l0 (n0 - (k + 1)) (k + 1) (mstep (l0 k) s) := by
        rw [show n0 - k = (n0 - (k + 1)) + 1 by omega]
        rfl
      rw [er]
      have Hn := mstep_inv H hkl
      have C9 := C.mr.set (c := 9) (k := l0 k) (v := 0) (w := vp_nar .boolean 0) (by simp [nsc] <;> omega) (by decide)
      by_cases h110 : s 11 (l0 k) = 0
      · rw [if_pos (z11.mpr h110), ck_t, pt_d, C.mr.g6 h80]
        by_cases h61 : s 6 (l0 k) = 1
        · have em : mstep (l0 k) s = nS s 9 (l0 k) 0 := by unfold mstep; rw [if_neg (fun z => z h110), if_pos h61]
          rw [if_pos (z6.mpr h61), ck_t, pt_d]
          refine ih (k + 1) _ _ (by omega) (by omega) Hn ?_
          rw [em]
          exact C.step C9
        · have em : mstep (l0 k) s = appA (l0 k) (travA false (l0 k) s) := by unfold mstep; rw [if_neg (fun z => z h110), if_neg h61]
          rw [if_neg (fun z => h61 (z6.mp z))]
          have HT := mark_turn H hkl h110 h61
          have hsame := trav_same (s := s) (root := l0 k) false
          refine Go.bv (mo_gray hN H.1.2.2.2.1 H.1.1 (CI_V H.1) HT.2 C h80 h4 h64 h61) (fun u1 h1 => ?_)
          have e15 : travA false (l0 k) s 0 15 = s 0 15 := hsame.z (by decide)
          rw [pt_d, h1.mr.g0 (k := 15) (by simp [nsc]), e15, i3_bI (by omega), decide_eq_true (by omega), ck_t, pt_d, i3_ix (by omega), pt_d]
          have D1 := h1.mr.set (c := 14) (k := s 0 15) (v := l0 k) (w := i3 (l0 k)) (by simp [nsc] <;> omega) rfl
          rw [D1.g0 (k := 15) (by simp [nsc]), nS_ne (by omega), e15, i3_addL, pt_d]
          have D2 := D1.set (c := 0) (k := 15) (v := s 0 15 + 1) (w := i3 (s 0 15 + 1)) (by simp [nsc]) rfl
          refine ih (k + 1) _ _ (by omega) (by omega) Hn ?_
          rw [em]
          unfold appA
          rw [e15]
          exact h1.step D2
      · have em : mstep (l0 k) s = freeA (l0 k) (nS s 9 (l0 k) 0) := by unfold mstep; rw [if_pos h110]
        rw [if_neg (fun z => h110 (z11.mp z)), ck_t, pt_d]
        have hO := H.1.2.2.2.2.2.2.1
        have hX := H.1.2.2.2.2.2.2.2.1
        refine Go.bv (mo_free (by omega) (C.step C9).mr h80 (fun w hw => by rw [nS_ne (by omega)]; exact (hO w hw).1) (fun w hw => by rw [nS_ne (by omega)]; exact (hX w hw).1) (by rw [nS_ne (by omega)]; exact h20)) (fun u1 h1 => ?_)
        refine ih (k + 1) _ _ (by omega) (by omega) Hn ?_
        rw [em]
        exact (C.step C9).step h1
end MKB

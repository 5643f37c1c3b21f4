section MLE
variable {r u : Mm} {s : Sm} {o N : Nat}
theorem mo_isThere (h : MR r u s) (ho : o < 80) (h4 : s 4 o ≤ 10) : f_X8_isThere N (i3 o) u = some (if s 4 o = 0 then 0 else 1, u) := by
  unfold f_X8_isThere
  have z : oI (s 4 o) < 0 ↔ s 4 o = 0 := oI_lt0 (by omega)
  rw [if_neg (show ¬ i3 o < 0 by rw [i3_ltL (by omega) (by decide)]; omega), if_neg (show ¬ (80 : Int32) ≤ i3 o by rw [i3_Lle (by omega) (by decide)]; omega), i3_bI (by omega), decide_eq_true ho, ck_t, pt_d, i3_ix (by omega), h.g4 ho]
  by_cases hc : s 4 o = 0
  · rw [if_pos (z.mpr hc), if_pos hc]
  · rw [if_neg (fun q => hc (z.mp q)), if_neg hc]
theorem mo_isThere_no (h : MR r u s) {x : Int32} (hx : x < 0 ∨ (80 : Int32) ≤ x) : f_X8_isThere N x u = some (0, u) := by
  unfold f_X8_isThere
  by_cases h0 : x < 0
  · rw [if_pos h0]
  · rcases hx with hx | hx
    · exact absurd hx h0
    · rw [if_neg h0, if_pos hx]
theorem mo_isWhole (h : MR r u s) (ho : o < 80) (h4 : s 4 o ≤ 10) (h11 : s 11 o ≤ 1) : f_X8_isWhole N (i3 o) u = some (if s 4 o = 0 ∨ s 11 o ≠ 0 then 0 else 1, u) := by
  unfold f_X8_isWhole
  rw [mo_isThere h ho h4, bd_s]
  have z : i3 (s 11 o) = 0 ↔ s 11 o = 0 := i3_eqL (by omega) (by decide)
  by_cases hc : s 4 o = 0
  · rw [if_pos hc, if_pos rfl, if_pos (Or.inl hc)]
  · rw [if_neg hc, if_neg (by decide), i3_bI (by omega), decide_eq_true ho, ck_t, pt_d, i3_ix (by omega), h.g11 ho]
    by_cases h1 : s 11 o = 0
    · rw [if_pos (z.mpr h1), if_neg (by omega)]
    · rw [if_neg (fun q => h1 (z.mp q)), if_pos (Or.inr h1)]
theorem mo_fieldsOf (h : MR r u s) (ho : o < 80) (hv : vo s o) (h1 : s 1 (s 4 o - 1) ≤ 7) : f_X8_fieldsOf N (i3 o) u = some (i3 (nfo s o), u) := by
  unfold f_X8_fieldsOf
  have hv1 := hv.1
  have hv2 := hv.2.1
  rw [i3_bI (by omega), decide_eq_true ho, ck_t, pt_d, i3_ix (by omega), h.g4 ho, oI_p hv1, i3_bI (by omega), decide_eq_true (by omega), ck_t, pt_d, i3_ix (by omega), h.g1 (by omega), oI_p hv.2.2]
  rfl
theorem mo_hasWish (h : MR r u s) (ho : o < 80) (hv : vo s o) (h3 : s 3 (s 4 o - 1) ≤ 1) (h10 : s 10 o ≤ 1) : f_X8_hasWish N (i3 o) u = some (if s 3 (s 4 o - 1) = 1 ∧ s 10 o = 0 then 1 else 0, u) := by
  unfold f_X8_hasWish
  have hv1 := hv.1
  have hv2 := hv.2.1
  have z3 : i3 (s 3 (s 4 o - 1)) = 0 ↔ s 3 (s 4 o - 1) = 0 := i3_eqL (by omega) (by decide)
  have z10 : i3 (s 10 o) = 0 ↔ s 10 o = 0 := i3_eqL (by omega) (by decide)
  rw [i3_bI (by omega), decide_eq_true ho, ck_t, pt_d, i3_ix (by omega), h.g4 ho, oI_p hv1, i3_bI (by omega), decide_eq_true (by omega), ck_t, pt_d, i3_ix (by omega), h.g3 (by omega)]
  by_cases hc : s 3 (s 4 o - 1) = 0
  · rw [if_pos (z3.mpr hc), if_neg (by omega)]
  · rw [if_neg (fun q => hc (z3.mp q)), ck_t, pt_d, h.g10 ho]
    by_cases hd : s 10 o = 0
    · rw [if_pos (z10.mpr hd), if_pos (by omega)]
    · rw [if_neg (fun q => hd (z10.mp q)), if_neg (by omega)]
theorem mo_tell (h : MR r u s) (ho : o < 80) (h17 : s 0 17 < 80) : Go (f_X8_comesToWishes N (i3 o) u) (fun u' => MR r u' (tellA o s)) := by
  unfold f_X8_comesToWishes
  have e1 : (vp_nar .boolean 1) = i3 1 := by decide
  have h1 := h.set (c := 10) (k := o) (v := 1) (w := vp_nar .boolean 1) (by simp [nsc] <;> omega) e1
  rw [i3_bI (by omega), decide_eq_true ho, ck_t, pt_d, i3_ix (by omega), pt_d, h1.g0 (k := 17) (by simp [nsc]), nS_ne (by omega), i3_bI (by omega), decide_eq_true h17, ck_t, pt_d, i3_ix (by omega)]
  have h2 := h1.set (c := 16) (k := s 0 17) (v := o) (w := i3 o) (by simp [nsc] <;> omega) rfl
  rw [pt_d, h2.g0 (k := 17) (by simp [nsc]), nS_ne (by omega), nS_ne (by omega), pt_d, i3_addL]
  exact Go.s (h2.set (by simp [nsc] <;> omega) rfl)
theorem mo_isLetGo (h : MR r u s) (ho : o < 80) (hv : vo s o) (h3 : s 3 (s 4 o - 1) ≤ 1) (h10 : s 10 o ≤ 1) (h5 : s 5 o ≠ 0) (b5 : s 5 o < 2000000000) (h6 : s 6 o ≤ 4) (h9 : s 9 o ≤ 1) (hn : s 9 o = 0 → s 0 15 < 80) (hw : s 10 o = 0 → s 0 17 < 80) :
    Go (f_X8_isLetGo N (i3 o) u) (fun x => x.1 = (if s 5 o ≤ 1 ∧ ¬ (s 3 (s 4 o - 1) = 1 ∧ s 10 o = 0) then 1 else 0) ∧ MR r x.2 (lowA o s)) := by
  unfold f_X8_isLetGo lowA
  have e1 : i3 (s 5 o) - 1 = i3 (s 5 o - 1) := i3_subL (show 1 ≤ s 5 o by omega)
  have h1 : MR r (sI u 5 o (i3 (s 5 o - 1))) (decA o s) := h.set (c := 5) (k := o) (v := s 5 o - 1) (by simp [nsc] <;> omega) rfl
  have d5 : decA o s 5 o = s 5 o - 1 := nS_eq
  have z5 : i3 (s 5 o - 1) ≤ 0 ↔ s 5 o - 1 ≤ 0 := i3_leL (by omega) (by decide)
  have ev : vo (decA o s) o := by unfold vo decA nS at *; grind
  have e3 : decA o s 3 (decA o s 4 o - 1) = s 3 (s 4 o - 1) := by unfold decA nS; grind
  have e10 : decA o s 10 o = s 10 o := nS_ne (by omega)
  have e6 : decA o s 6 o = s 6 o := nS_ne (by omega)
  have e9 : decA o s 9 o = s 9 o := nS_ne (by omega)
  have e15 : decA o s 0 15 = s 0 15 := nS_ne (by omega)
  have e17 : decA o s 0 17 = s 0 17 := nS_ne (by omega)
  rw [i3_bI (by omega), decide_eq_true ho, ck_t, pt_d, i3_ix (by omega), h.g5 ho, ck_t, pt_d, e1, ck_t, pt_d, h1.g5 ho, d5]
  by_cases hz : s 5 o ≤ 1
  · rw [if_pos (z5.mpr (by omega)), mo_hasWish h1 ho ev (by rw [e3]; exact h3) (by rw [e10]; exact h10), bd_s, e3, e10, if_pos hz]
    by_cases hwh : s 3 (s 4 o - 1) = 1 ∧ s 10 o = 0
    · rw [if_pos hwh, if_neg (by decide), if_pos hwh]
      refine Go.bv (mo_tell h1 ho (by rw [e17]; exact hw hwh.2)) (fun u2 h2 => ?_)
      rw [ck_t, pt_d]
      have h3 := h2.set (c := 5) (k := o) (v := 1) (w := 1) (by simp [nsc] <;> omega) rfl
      refine Go.bv (mo_turn h3 ho (by rw [nS_ne (by omega)]; unfold tellA; rw [nS_ne (by omega), nS_ne (by omega), nS_ne (by omega), e6]; exact h6)) (fun u3 h4 => Go.s ⟨?_, ?_⟩)
      · rw [if_neg (fun q => q.2 hwh)]
      · exact h4
    · rw [if_neg hwh, if_pos rfl, if_neg hwh]
      exact Go.s ⟨by rw [if_pos ⟨hz, hwh⟩], h1⟩
  · rw [if_neg (fun q => hz (by have := z5.mp q; omega)), if_neg hz, ck_t, pt_d, h1.g6 ho, e6]
    have z64 : i3 (s 6 o) = 4 ↔ s 6 o = 4 := i3_eqL (by omega) (by decide)
    have z63 : i3 (s 6 o) = 3 ↔ s 6 o = 3 := i3_eqL (by omega) (by decide)
    have z9 : i3 (s 9 o) = 0 ↔ s 9 o = 0 := i3_eqL (by omega) (by decide)
    have en : ¬ (s 5 o ≤ 1 ∧ ¬ (s 3 (s 4 o - 1) = 1 ∧ s 10 o = 0)) := fun q => hz q.1
    unfold suspA
    rw [e6, e9, e15]
    by_cases h64 : s 6 o = 4
    · rw [if_pos (z64.mpr h64), if_pos (Or.inl h64)]
      exact Go.s ⟨by rw [if_neg en], h1⟩
    · rw [if_neg (fun q => h64 (z64.mp q)), ck_t, pt_d]
      by_cases h63 : s 6 o = 3
      · rw [if_pos (z63.mpr h63), if_pos (Or.inr h63)]
        exact Go.s ⟨by rw [if_neg en], h1⟩
      · rw [if_neg (fun q => h63 (z63.mp q)), if_neg (show ¬ (s 6 o = 4 ∨ s 6 o = 3) by omega), ck_t, pt_d, ck_t, pt_d]
        have h2 := h1.set (c := 6) (k := o) (v := 3) (w := 3) (by simp [nsc] <;> omega) rfl
        rw [h2.g9 ho, nS_ne (by omega), e9]
        by_cases h90 : s 9 o = 0
        · rw [if_pos (z9.mpr h90), if_pos h90, ck_t, pt_d]
          have h3 := h2.set (c := 9) (k := o) (v := 1) (w := vp_nar .boolean 1) (by simp [nsc] <;> omega) (by decide)
          rw [pt_d, h3.g0 (k := 15) (by simp [nsc]), nS_ne (by omega), nS_ne (by omega), e15, i3_bI (by have := hn h90; omega), decide_eq_true (hn h90), ck_t, pt_d, i3_ix (by have := hn h90; omega)]
          have h4 := h3.set (c := 14) (k := s 0 15) (v := o) (w := i3 o) (by simp [nsc] <;> omega) rfl
          rw [pt_d, h4.g0 (k := 15) (by simp [nsc]), nS_ne (by omega), nS_ne (by omega), nS_ne (by omega), e15, i3_addL, pt_d]
          exact Go.s ⟨by rw [if_neg en], h4.set (by simp [nsc] <;> omega) rfl⟩
        · rw [if_neg (fun q => h90 (z9.mp q)), if_neg h90]
          exact Go.s ⟨by rw [if_neg en], h2⟩
end MLE

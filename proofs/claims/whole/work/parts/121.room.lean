def nmF : Nat → Nat → Sm → Nat
  | 0, _, _ => 0
  | d + 1, o, z => if z 4 o = 0 then o + 1 else nmF d (o + 1) z
def gpF (sz : Nat) : Nat → Nat → Nat → Sm → Nat
  | 0, _, _, _ => 0
  | d + 1, rn, w, z => if z 13 w = 0 then (if rn + 1 = sz then w + 1 - sz + 1 else gpF sz d (rn + 1) (w + 1) z) else gpF sz d 0 (w + 1) z
section ROO
variable {th : Nat → Option Nat} {n m fw tt w k : Nat} {l g : Nat → Nat} {q : Nat → Prop} {r u u1 u2 : Mm} {s s' z : Sm} {o t v N : Nat}
theorem nmF_ok : ∀ (d o : Nat), nmF d o z ≠ 0 → o ≤ nmF d o z - 1 ∧ nmF d o z ≤ o + d ∧ z 4 (nmF d o z - 1) = 0
  | 0, o, h => absurd rfl h
  | d + 1, o, h => by
    unfold nmF at *
    by_cases e : z 4 o = 0
    · rw [if_pos e]
      exact ⟨by omega, by omega, e⟩
    · rw [if_neg e] at h ⊢
      have := nmF_ok d (o + 1) h
      exact ⟨by omega, by omega, this.2.2⟩
theorem nmF_le : ∀ (d o : Nat), nmF d o z ≤ o + d
  | 0, o => Nat.zero_le _
  | d + 1, o => by
    unfold nmF
    by_cases e : z 4 o = 0
    · rw [if_pos e]; omega
    · rw [if_neg e]
      have := nmF_le d (o + 1)
      omega
theorem gpF_le {sz : Nat} : ∀ (d rn w : Nat), gpF sz d rn w z ≤ w + d + 1
  | 0, rn, w => Nat.zero_le _
  | d + 1, rn, w => by
    unfold gpF
    have h1 := gpF_le (sz := sz) d (rn + 1) (w + 1)
    have h2 := gpF_le (sz := sz) d 0 (w + 1)
    split
    · split
      · omega
      · omega
    · omega
theorem gpF_ok {sz : Nat} (hz : 1 ≤ sz) : ∀ (d rn w : Nat), rn ≤ w → (∀ x, w - rn ≤ x → x < w → z 13 x = 0) → gpF sz d rn w z ≠ 0 → gpF sz d rn w z - 1 + sz ≤ w + d ∧ ∀ x, gpF sz d rn w z - 1 ≤ x → x < gpF sz d rn w z - 1 + sz → z 13 x = 0
  | 0, rn, w, _, _, h => absurd rfl h
  | d + 1, rn, w, hr, hi, h => by
    unfold gpF at *
    by_cases e : z 13 w = 0
    · rw [if_pos e] at h ⊢
      by_cases e2 : rn + 1 = sz
      · rw [if_pos e2]
        refine ⟨by omega, fun x a b => ?_⟩
        by_cases hx : x = w
        · rw [hx]; exact e
        · exact hi x (by omega) (by omega)
      · rw [if_neg e2] at h ⊢
        have := gpF_ok hz d (rn + 1) (w + 1) (by omega) (fun x a b => by
          by_cases hx : x = w
          · rw [hx]; exact e
          · exact hi x (by omega) (by omega)) h
        exact ⟨by omega, this.2⟩
    · rw [if_neg e] at h ⊢
      have := gpF_ok hz d 0 (w + 1) (by omega) (fun x a b => by omega) h
      exact ⟨by omega, this.2⟩
theorem co_nmF (C : CR th n l m g q fw tt r u z) : ∀ (d o N2 : Nat), o + d = 80 → d < N2 → f_X4_leastFreeNumber_2 N N2 (i3 o) u = some (oI (nmF d o z), u)
  | d, o, 0, _, h => by omega
  | 0, o, N2 + 1, h, _ => by
    unfold f_X4_leastFreeNumber_2 g_X4_leastFreeNumber_2
    rw [if_pos (show (80 : Int32) ≤ i3 o by rw [i3_Lle (by omega) (by decide)]; omega)]
    rfl
  | d + 1, o, N2 + 1, h, hN => by
    have ih := co_nmF C d (o + 1) N2 (by omega) (by omega)
    unfold f_X4_leastFreeNumber_2 g_X4_leastFreeNumber_2 nmF
    rw [if_neg (show ¬ (80 : Int32) ≤ i3 o by rw [i3_Lle (by omega) (by decide)]; omega), i3_bI (by omega), decide_eq_true (by omega), ck_t, pt_d, i3_ix (by omega)]
    have hc := C.cs (o := o) (by omega)
    by_cases e : z 4 o = 0
    · rw [hc.1 e, nl_n, if_pos e]
      rfl
    · rw [(hc.2 e).1, if_neg e]
      cases ht : th o with
      | none => exact absurd ht (hc.2 e).2
      | some t => rw [nl_s, i3_addL]; exact ih
theorem co_least (C : CR th n l m g q fw tt r u z) (hN : 5000 ≤ N) : f_X4_leastFreeNumber N u = some (oI (nmF 80 0 z), u) := co_nmF C 80 0 N rfl (by omega)
theorem mo_nmF (M : MR r u z) (h4 : ∀ o, o < 80 → z 4 o ≤ 10) : ∀ (d o N2 : Nat), o + d = 80 → d < N2 → f_X8_number_2 N N2 (i3 o) u = some (oI (nmF d o z), u)
  | d, o, 0, _, h => by omega
  | 0, o, N2 + 1, h, _ => by
    unfold f_X8_number_2 g_X8_number_2 f_X8_number_23
    rw [if_pos (show (80 : Int32) ≤ i3 o by rw [i3_Lle (by omega) (by decide)]; omega), if_pos (show (80 : Int32) ≤ i3 o by rw [i3_Lle (by omega) (by decide)]; omega)]
    rfl
  | d + 1, o, N2 + 1, h, hN => by
    have ih := mo_nmF M h4 d (o + 1) N2 (by omega) (by omega)
    have h4o := h4 o (by omega)
    unfold f_X8_number_2 g_X8_number_2 f_X8_number_23 nmF
    rw [if_neg (show ¬ (80 : Int32) ≤ i3 o by rw [i3_Lle (by omega) (by decide)]; omega), i3_bI (by omega), decide_eq_true (by omega), ck_t, pt_d, i3_ix (by omega), M.g4 (by omega)]
    by_cases e : z 4 o = 0
    · rw [if_pos ((oI_lt0 (by omega)).mpr e), if_neg (show ¬ (80 : Int32) ≤ i3 o by rw [i3_Lle (by omega) (by decide)]; omega), if_pos e]
      rfl
    · rw [if_neg (fun x => e ((oI_lt0 (by omega)).mp x)), if_neg e, i3_addL]
      exact ih
theorem mo_least (M : MR r u z) (h4 : ∀ o, o < 80 → z 4 o ≤ 10) (hN : 5000 ≤ N) : f_X8_number N u = some (oI (nmF 80 0 z), u) := mo_nmF M h4 80 0 N rfl (by omega)
theorem co_gpF {sz : Nat} (C : CR th n l m g q fw tt r u z) (hO : ∀ x, x < 400 → z 13 x ≠ 0 → th (z 13 x - 1) ≠ none) (h1 : 1 ≤ sz ∧ sz ≤ 68) : ∀ (d rn w N2 : Nat), w + d = 400 → rn < sz → rn ≤ w → d < N2 → f_X6_gapFor_4 N N2 (i3 sz) (i3 rn) (i3 w) u = some (oI (gpF sz d rn w z), u)
  | d, rn, w, 0, _, _, _, h => by omega
  | 0, rn, w, N2 + 1, h, _, _, _ => by
    unfold f_X6_gapFor_4 g_X6_gapFor_4
    rw [if_pos (show (400 : Int32) ≤ i3 w by rw [i3_Lle (by omega) (by decide)]; omega)]
    rfl
  | d + 1, rn, w, N2 + 1, h, hr, hw, hN => by
    unfold f_X6_gapFor_4 g_X6_gapFor_4 gpF f_X6_gapFor_27
    rw [if_neg (show ¬ (400 : Int32) ≤ i3 w by rw [i3_Lle (by omega) (by decide)]; omega), i3_bI (by omega), decide_eq_true (by omega), ck_t, pt_d, i3_ix (by omega), C.w (by omega)]
    by_cases e : z 13 w = 0
    · rw [show oT th (z 13 w) = none by unfold oT; rw [if_pos e], nl_n, if_pos e, i3_addL, i3_addL]
      by_cases e2 : rn + 1 = sz
      · rw [if_neg (fun x => by have := (i3_lt (by omega) (by omega)).mp x; omega), if_pos e2, i3_sub (by omega)]
        rfl
      · rw [if_pos ((i3_lt (by omega) (by omega)).mpr (by omega)), if_neg e2]
        exact co_gpF C hO h1 d (rn + 1) (w + 1) N2 (by omega) (by omega) (by omega) (by omega)
    · have ho := hO w (by omega) e
      rw [show oT th (z 13 w) = th (z 13 w - 1) by unfold oT; rw [if_neg e], if_neg e]
      cases ht : th (z 13 w - 1) with
      | none => exact absurd ht ho
      | some t =>
        rw [nl_s, if_pos (show (0 : Int32) < i3 sz by rw [i3_Llt (by omega) (by decide)]; omega), i3_addL]
        exact co_gpF C hO h1 d 0 (w + 1) N2 (by omega) (by omega) (by omega) (by omega)
theorem mo_gpF {sz : Nat} (M : MR r u z) (hO : ∀ x, x < 400 → z 13 x ≤ 80) (h1 : 1 ≤ sz ∧ sz ≤ 68) : ∀ (d rn w N2 : Nat), w + d = 400 → rn < sz → rn ≤ w → d < N2 → f_X8_place_4 N N2 (i3 sz) (i3 rn) (i3 w) u = some (oI (gpF sz d rn w z), u)
  | d, rn, w, 0, _, _, _, h => by omega
  | 0, rn, w, N2 + 1, h, _, _, _ => by
    unfold f_X8_place_4 g_X8_place_4
    rw [if_pos (show (400 : Int32) ≤ i3 w by rw [i3_Lle (by omega) (by decide)]; omega)]
    rfl
  | d + 1, rn, w, N2 + 1, h, hr, hw, hN => by
    have hOw := hO w (by omega)
    unfold f_X8_place_4 g_X8_place_4 gpF f_X8_place_27
    rw [if_neg (show ¬ (400 : Int32) ≤ i3 w by rw [i3_Lle (by omega) (by decide)]; omega), i3_bI (by omega), decide_eq_true (by omega), ck_t, pt_d, i3_ix (by omega), M.g13 (by omega)]
    by_cases e : z 13 w = 0
    · rw [if_neg (fun x => (oI_ge0 (by omega)).mp x e), if_pos e, i3_addL, i3_addL]
      by_cases e2 : rn + 1 = sz
      · rw [if_pos (by rw [e2]), if_pos e2, i3_sub (by omega)]
        rfl
      · rw [if_neg (fun x => e2 ((i3_eq (by omega) (by omega)).mp x)), if_neg e2]
        exact mo_gpF M hO h1 d (rn + 1) (w + 1) N2 (by omega) (by omega) (by omega) (by omega)
    · rw [if_pos ((oI_ge0 (by omega)).mpr e), if_neg e, if_neg (fun x => by have := (i3_eq (a := 0) (b := sz) (by omega) (by omega)).mp x; omega), i3_addL]
      exact mo_gpF M hO h1 d 0 (w + 1) N2 (by omega) (by omega) (by omega) (by omega)
end ROO

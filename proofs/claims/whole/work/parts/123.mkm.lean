def clF (o f : Nat) (z : Sm) : Sm := fun c k => if c = 12 ∧ 6 * o ≤ k ∧ k < 6 * o + f then 0 else z c k
def owF (a j v : Nat) (z : Sm) : Sm := fun c k => if c = 13 ∧ a ≤ k ∧ k < a + j then v else z c k
def gvM (a b t : Nat) (u : Mm) : Mm := (u.1, fun c k => if c = 47 ∧ a ≤ k ∧ k < b then some t else u.2 c k)
section MKM
variable {n k y a b o t sz N : Nat} {r u u1 : Mm} {z : Sm}
theorem mo_218 (ho : o < 80) (ha : a + sz ≤ 400) : ∀ (d j N2 : Nat) (u : Mm), MR r u (owF a j (o + 1) z) → j + d = sz → d < N2 → Go (f_X8_make_218 N N2 (i3 sz) (i3 o) (i3 a) (i3 j) u) (fun x => x.1 = i3 o ∧ MR r x.2 (owF a sz (o + 1) z))
  | d, j, 0, u, _, _, h => by omega
  | 0, j, N2 + 1, u, M, h, _ => by
    unfold f_X8_make_218 g_X8_make_218
    rw [if_pos ((i3_le (by omega) (by omega)).mpr (by omega))]
    have : j = sz := by omega
    subst this
    exact Go.s ⟨rfl, M⟩
  | d + 1, j, N2 + 1, u, M, h, hN => by
    have e : nS (owF a j (o + 1) z) 13 (a + j) (o + 1) = owF a (j + 1) (o + 1) z := by
      funext c x
      unfold nS owF
      grind
    have M2 := M.set (c := 13) (k := a + j) (v := o + 1) (w := i3 o) (by show a + j < 400; omega) rfl
    rw [e] at M2
    have ih := mo_218 ho ha d (j + 1) N2 _ M2 (by omega) (by omega)
    unfold f_X8_make_218 g_X8_make_218
    rw [if_neg (fun x => by have := (i3_le (by omega) (by omega)).mp x; omega), i3_add, i3_bI (by omega), decide_eq_true (by omega), ck_t, pt_d, i3_ix (by omega), i3_addL]
    exact ih
theorem mo_189 (ho : o < 80) : ∀ (d f N2 : Nat) (u : Mm), MR r u (clF o f z) → f + d = 6 → d < N2 → ∃ u', MR r u' (clF o 6 z) ∧ f_X8_make_189 N N2 (i3 sz) (i3 o) (i3 a) (i3 f) u = f_X8_make_218 N N (i3 sz) (i3 o) (i3 a) 0 u'
  | d, f, 0, u, _, _, h => by omega
  | 0, f, N2 + 1, u, M, h, _ => by
    have : f = 6 := by omega
    subst this
    refine ⟨u, M, ?_⟩
    unfold f_X8_make_189 g_X8_make_189
    rw [if_pos (by decide)]
  | d + 1, f, N2 + 1, u, M, h, hN => by
    have e : nS (clF o f z) 12 (6 * o + f) 0 = clF o (f + 1) z := by
      funext c x
      unfold nS clF
      grind
    have M2 := M.set (c := 12) (k := 6 * o + f) (v := 0) (w := -1) (by show 6 * o + f < 480; omega) rfl
    rw [e] at M2
    obtain ⟨u', h1, h2⟩ := mo_189 ho d (f + 1) N2 _ M2 (by omega) (by omega)
    refine ⟨u', h1, ?_⟩
    rw [← h2]
    show g_X8_make_189 N _ _ _ _ _ _ = _
    unfold g_X8_make_189
    rw [if_neg (show ¬ (6 : Int32) ≤ i3 f by rw [i3_Lle (by omega) (by decide)]; omega), i3_mulL, i3_add, i3_bI (by omega), decide_eq_true (by omega), ck_t, pt_d, i3_ix (by omega), i3_addL]
theorem gvM_s {w : Nat} (hw : a ≤ w) : sR (gvM a w t u) 47 w (some t) = gvM a (w + 1) t u := by
  unfold sR gvM
  congr 1
  funext c x
  grind
theorem gvM_0 : gvM a a t u = u := by
  unfold gvM
  have : (fun c k => if c = 47 ∧ a ≤ k ∧ k < a then some t else u.2 c k) = u.2 := by
    funext c x
    rw [if_neg (by omega)]
  rw [this]
theorem co_gvM : ∀ (d w N2 : Nat), w + d = b → a ≤ w → b ≤ 400 → d < N2 → f_X6_give_13 N t N2 (i3 a) (i3 b) (i3 w) (gvM a w t u) = f_X6_give_46 N t (i3 a) (gvM a b t u)
  | d, w, 0, _, _, _, h => by omega
  | 0, w, N2 + 1, h, h2, h3, _ => by
    have : w = b := by omega
    subst this
    unfold f_X6_give_13 g_X6_give_13
    rw [if_neg (show ¬ i3 w < 0 by rw [i3_ltL (by omega) (by decide)]; omega), if_pos ((i3_le (by omega) (by omega)).mpr (by omega))]
  | d + 1, w, N2 + 1, h, h2, h3, hN => by
    have ih := co_gvM d (w + 1) N2 (by omega) (by omega) h3 (by omega)
    unfold f_X6_give_13 g_X6_give_13
    rw [if_neg (show ¬ i3 w < 0 by rw [i3_ltL (by omega) (by decide)]; omega), if_neg (fun x => by have := (i3_le (by omega) (by omega)).mp x; omega), if_neg (show ¬ (400 : Int32) ≤ i3 w by rw [i3_Lle (by omega) (by decide)]; omega), i3_bI (by omega), decide_eq_true (by omega), ck_t, pt_d, i3_ix (by omega), gvM_s h2, i3_addL]
    exact ih
end MKM

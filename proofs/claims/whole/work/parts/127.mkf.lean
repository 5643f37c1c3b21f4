section MKF
variable {th : Nat → Option Nat} {n m fw tt k y a o t kd N : Nat} {l g : Nat → Nat} {q : Nat → Prop} {r u : Mm} {z : Sm}
theorem co_place (hN : 5000 ≤ N) (H : LI k d0 0 g z) (C : CR th n l 0 g q fw tt r u z) (hd : ∀ p, z 4 p = 0 → th p = none) (h70 : 70 ≤ t) (ht4 : t % 4 = 0) (hy : y < 10) (h1 : z 1 y ≠ 0) (hkd : u.2 41 y = some kd) (hfw : z 2 y ≤ fw) (hm : nmF 80 0 z ≠ 0) (hg : gpF (z 2 y) 400 0 0 z ≠ 0) :
    f_X4_place N t kd u = some (i3 (nmF 80 0 z - 1), true, mkU (nmF 80 0 z - 1) (gpF (z 2 y) 400 0 0 z - 1) (z 2 y) t kd (fw - z 2 y) (tt + 1) u) := by
  obtain ⟨kd', k1, k2, k3, k4, k5, k6, k7⟩ := (C.k hy).2 h1
  have hkk : kd' = kd := Option.some.inj (k1.symm.trans hkd)
  subst hkk
  have hky := H.1 y hy
  have hz : 1 ≤ z 2 y ∧ z 2 y ≤ 68 := by have := hky.2.2 h1; omega
  have hO : ∀ x, x < 400 → z 13 x ≠ 0 → th (z 13 x - 1) ≠ none := fun x hx e => by
    have h := H.2.2.2.2.2.2.2.1 x hx
    exact ((C.cs (o := z 13 x - 1) (by omega)).2 (h.2 e)).2
  have hgap : f_X6_gapFor N (i3 (z 2 y)) u = some (oI (gpF (z 2 y) 400 0 0 z), u) := co_gpF C hO hz 400 0 0 N rfl (by omega) (by omega) (by omega)
  have hn := nmF_ok (z := z) 80 0 hm
  have hgo := gpF_ok (z := z) hz.1 400 0 0 (by omega) (fun x a b => by omega) hg
  have e1 : oI (nmF 80 0 z) = i3 (nmF 80 0 z - 1) := oI_p hm
  have e2 : oI (gpF (z 2 y) 400 0 0 z) = i3 (gpF (z 2 y) 400 0 0 z - 1) := oI_p hg
  unfold f_X4_place
  rw [co_least C hN, bd_s, pt_d, k6, hgap, bd_s, e1, e2]
  have ho80 : nmF 80 0 z - 1 < 80 := by omega
  generalize nmF 80 0 z - 1 = o at *
  generalize gpF (z 2 y) 400 0 0 z - 1 = a at *
  have hzB : zB (u.1 kd' 3) = true := by
    rw [k7]
    have : z 3 y = 0 ∨ z 3 y = 1 := by omega
    rcases this with e | e <;> (rw [e]; decide)
  rw [if_neg (fun e => absurd ((i3_ltL (a := o) (n := 0) (by omega) (by decide)).mp e) (Nat.not_lt_zero _)), if_neg (fun e => by have : 80 ≤ o := (i3_Lle (a := o) (n := 80) (by omega) (by decide)).mp e; omega), if_pos ((i3_Lle (a := a) (n := 0) (by omega) (by decide)).mpr (Nat.zero_le _)), hzB, ck_t, pt_d]
  have m0 : f_X6_give N t (i3 a) (nT u t (i3 o) kd') = f_X6_give_46 N t (i3 a) (gvM a (a + z 2 y) t (nT u t (i3 o) kd')) := by
    unfold f_X6_give
    have g1 : (nT u t (i3 o) kd').2 t 1 = some kd' := by
      show (if t = t then (if 1 = 1 then some kd' else _) else _) = _
      rw [if_pos rfl, if_pos rfl]
    have g2 : (nT u t (i3 o) kd').1 kd' 2 = i3 (z 2 y) := by
      show (if kd' = t then _ else if kd' = t + 1 then _ else u.1 kd' 2) = _
      rw [if_neg (by omega), if_neg (by omega), k6]
    rw [g1, pt_d, nl_s, g2, pt_d, i3_add]
    have := co_gvM (N := N) (t := t) (u := nT u t (i3 o) kd') (a := a) (b := a + z 2 y) (z 2 y) a N rfl (by omega) (by omega) (by omega)
    rw [gvM_0] at this
    exact this
  have c1 : (gvM a (a + z 2 y) t (nT u t (i3 o) kd')).1 46 1 = i3 fw := by
    show (if 46 = t then _ else if 46 = t + 1 then _ else u.1 46 1) = _
    rw [if_neg (by omega), if_neg (by omega), C.2.2.2.2.2.2.2.2.2.2.2.2.2.2.1]
  have c2 : (gvM a (a + z 2 y) t (nT u t (i3 o) kd')).2 t 1 = some kd' := by
    unfold gvM nT
    grind
  have c3 : (gvM a (a + z 2 y) t (nT u t (i3 o) kd')).1 kd' 2 = i3 (z 2 y) := by
    show (if kd' = t then _ else if kd' = t + 1 then _ else u.1 kd' 2) = _
    rw [if_neg (by omega), if_neg (by omega), k6]
  have c4 : (gvM a (a + z 2 y) t (nT u t (i3 o) kd')).1 42 4 = i3 tt := by
    show (if 42 = t then _ else if 42 = t + 1 then _ else u.1 42 4) = _
    rw [if_neg (by omega), if_neg (by omega), C.2.2.2.2.2.2.2.2.2.2.2.2.2.2.2]
  rw [m0]
  unfold f_X6_give_46 mkU
  generalize gvM a (a + z 2 y) t (nT u t (i3 o) kd') = w at *
  have d1 : (sI w t 6 (i3 a)).1 46 1 = i3 fw := by rw [← c1]; exact if_neg (by omega)
  have d3 : (sI w t 6 (i3 a)).1 kd' 2 = i3 (z 2 y) := by rw [← c3]; exact if_neg (by omega)
  have d2 : (sI w t 6 (i3 a)).2 t 1 = some kd' := c2
  rw [pt_d, pt_d, d1, d2, pt_d, nl_s, pt_d, d3, i3_sub hfw, pt_d, bv_s, i3_bI (by omega), decide_eq_true ho80, ck_t, pt_d, i3_ix (by omega), pt_d]
  have d4 : (sR (sI (sI w t 6 (i3 a)) 46 1 (i3 (fw - z 2 y))) 43 o (some t)).1 42 4 = i3 tt := by
    unfold sR sI
    grind
  rw [d4, i3_addL, pt_d]
end MKF

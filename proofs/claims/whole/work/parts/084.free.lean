def vo (s : Sm) (o : Nat) : Prop := s 4 o ≠ 0 ∧ s 4 o ≤ 10 ∧ s 1 (s 4 o - 1) ≠ 0
def geo (s : Sm) (o : Nat) : Prop := s 7 o + szo s o ≤ 400 ∧ ∀ w, w < 400 → (s 13 w = o + 1 ↔ s 7 o ≤ w ∧ w < s 7 o + szo s o)
def clrO (a b : Nat) (s : Sm) : Sm := fun c k => if c = 13 ∧ a ≤ k ∧ k < b then 0 else s c k
def wkO (o w : Nat) (s : Sm) : Sm := fun c k => if c = 18 ∧ k < w ∧ s 18 k = o + 1 then 0 else s c k
section FRE
variable {th : Nat → Option Nat} {n m fw tt : Nat} {l g : Nat → Nat} {q : Nat → Prop} {r u : Mm} {s : Sm} {o t v N : Nat}
theorem CR.kd (h : CR th n l m g q fw tt r u s) (ht : th o = some t) (hv : vo s o) : ∃ kd, u.2 t 1 = some kd ∧ 70 ≤ kd ∧ kd % 4 = 2 ∧ u.1 kd 0 = i3 (s 4 o - 1) ∧ u.1 kd 1 = i3 (nfo s o) ∧ u.1 kd 2 = i3 (szo s o) ∧ u.1 kd 3 = i3 (s 3 (s 4 o - 1)) := by
  obtain ⟨kd, h1, h2, h3, h4, h5, h6, h7⟩ := (h.k (y := s 4 o - 1) (by have := hv.1; have := hv.2.1; omega)).2 hv.2.2
  exact ⟨kd, (h.b ht hv.1).2.1.trans h1, h2, h3, h4, h5, h6, h7⟩
theorem clrO_s {a w : Nat} (haw : a ≤ w) : nS (clrO a w s) 13 w 0 = clrO a (w + 1) s := by
  funext c k
  unfold nS clrO
  by_cases hc : c = 13
  · subst hc
    by_cases hk : k = w
    · subst hk
      rw [if_pos ⟨rfl, rfl⟩, if_pos ⟨rfl, haw, by omega⟩]
    · rw [if_neg (fun q => hk q.2)]
      by_cases hz : a ≤ k ∧ k < w
      · rw [if_pos ⟨rfl, hz⟩, if_pos ⟨rfl, hz.1, by omega⟩]
      · rw [if_neg (fun q => hz q.2), if_neg (fun q => hz ⟨q.2.1, by omega⟩)]
  · rw [if_neg (fun q => hc q.1), if_neg (fun q => hc q.1), if_neg (fun q => hc q.1)]
theorem clrO_0 {a : Nat} : clrO a a s = s := by
  funext c k
  unfold clrO
  rw [if_neg (by omega)]
theorem lo_tb {a e : Nat} (he : e ≤ 400) {Q : Mm → Prop} (hk : ∀ u', CR th n l m g q fw tt r u' (clrO a e s) → Go (f_X6_takeBack_47 N t u') Q) :
    ∀ (j w : Nat) (u : Mm), a ≤ w → w ≤ e → e - w < j → CR th n l m g q fw tt r u (clrO a w s) → Go (f_X6_takeBack_18 N t j (i3 e) (i3 w) u) Q := by
  intro j
  induction j with
  | zero => intro w u _ _ hj; omega
  | succ j ih =>
    intro w u haw hwe hj h
    show Go (g_X6_takeBack_18 N t (f_X6_takeBack_18 N t j) (i3 e) (i3 w) u) Q
    unfold g_X6_takeBack_18
    rw [if_neg (show ¬ i3 w < 0 by rw [i3_ltL (by omega) (by decide)]; omega)]
    by_cases hwe2 : e ≤ w
    · rw [if_pos ((i3_le (by omega) (by omega)).mpr hwe2)]
      have : w = e := by omega
      subst this
      exact hk u h
    · rw [if_neg (fun z => hwe2 ((i3_le (by omega) (by omega)).mp z)), if_neg (show ¬ (400 : Int32) ≤ i3 w by rw [i3_Lle (by omega) (by decide)]; omega)]
      refine Go.ck (by rw [i3_bI (by omega)]; exact decide_eq_true (by omega)) ?_
      rw [pt_d, i3_ix (by omega), i3_addL]
      refine ih (w + 1) _ (by omega) (by omega) (by omega) ?_
      rw [← clrO_s haw]
      exact h.ow (v := 0)
theorem co_takeBack (hN : 1000 ≤ N) (h : CR th n l m g q fw tt r u s) (ht : th o = some t) (hv : vo s o) (hg : s 7 o + szo s o ≤ 400) :
    Go (f_X6_takeBack N t u) (fun u' => CR th n l m g q (fw + szo s o) tt r u' (clrO (s 7 o) (s 7 o + szo s o) s)) := by
  obtain ⟨kd, k1, k2, k3, k4, k5, k6, k7⟩ := h.kd ht hv
  unfold f_X6_takeBack
  simp only [pt_d, k1, nl_s, k6, h.a6 ht, i3_add]
  refine lo_tb (a := s 7 o) (e := s 7 o + szo s o) (s := s) hg (fun u1 h1 => ?_) N (s 7 o) u (Nat.le_refl _) (by omega) (by omega) (by rw [clrO_0]; exact h)
  have hv1 : vo (clrO (s 7 o) (s 7 o + szo s o) s) o := by unfold vo clrO at *; grind
  obtain ⟨kd', k1, k2, k3, k4, k5, k6, k7⟩ := h1.kd ht hv1
  have e1 : szo (clrO (s 7 o) (s 7 o + szo s o) s) o = szo s o := by
    show (clrO (s 7 o) (s 7 o + szo s o) s) 2 ((clrO (s 7 o) (s 7 o + szo s o) s) 4 o - 1) = s 2 (s 4 o - 1)
    unfold clrO
    rw [if_neg (by omega), if_neg (by omega)]
  unfold f_X6_takeBack_47
  simp only [pt_d, k1, nl_s, k6, h1.c.1, i3_add, e1]
  exact Go.s (h1.fwd (v := fw + szo s o))
theorem wkO_s {w : Nat} : wkO o (w + 1) s = if s 18 w = o + 1 then nS (wkO o w s) 18 w 0 else wkO o w s := by
  funext c k
  split <;> ((try unfold nS); unfold wkO; grind)
theorem wkO_0 : wkO o 0 s = s := by
  funext c k
  unfold wkO
  rw [if_neg (by omega)]
theorem oT_eq (h : CR th n l m g q fw tt r u s) (ht : th o = some t) {v : Nat} : oT th v = some t ↔ v = o + 1 := by
  unfold oT
  constructor
  · intro hh
    by_cases hv : v = 0
    · rw [if_pos hv] at hh; cases hh
    · rw [if_neg hv] at hh
      have := (h.2.1 o t ht).2.2.2 _ hh
      omega
  · intro hh
    subst hh
    rw [if_neg (by omega)]
    exact ht
theorem xor_nn {a b : Int32} (ha : 0 ≤ a.toInt) (hb : 0 ≤ b.toInt) : 0 ≤ (a ^^^ b).toInt := by
  have e : ∀ z : Int32, z.toBitVec.msb = decide (z.toInt < 0) := fun z => BitVec.msb_eq_toInt
  have h1 := e a
  have h2 := e b
  have h3 := e (a ^^^ b)
  have h4 : (a ^^^ b).toBitVec = a.toBitVec ^^^ b.toBitVec := rfl
  rw [h4, BitVec.msb_xor, h1, h2, decide_eq_false (show ¬ a.toInt < 0 by omega), decide_eq_false (show ¬ b.toInt < 0 by omega)] at h3
  have h5 : ¬ (a ^^^ b).toInt < 0 := of_decide_eq_false h3.symm
  omega
theorem fm_ok {k : Nat} (h : k < 2147483648) : f_J9_floorMod_7cf53 N (i3 k) 100 u = some (i3 (k % 100), u) := by
  unfold f_J9_floorMod_7cf53
  have h0 : (0 : Int32) ≤ i3 k ^^^ 100 := by
    rw [Int32.le_iff_toInt_le]
    have h1 := xor_nn (a := i3 k) (b := 100) (by rw [i3_int h]; omega) (by decide)
    have h2 : (0 : Int32).toInt = 0 := by decide
    rw [h2]
    exact h1
  rw [show decide (¬ (100 : Int32) = 0) = true by decide, ck_t, if_pos h0, i3_mod h]
theorem lo_wk {Q : Mm → Prop} {v2 : Int32} (ht : th o = some t) (h18 : ∀ u', CR th n l m g q fw tt r u' (wkO o 20 s) → Go (pt (u'.1 42 5) (fun x6 => bd (f_J9_floorMod_7cf53 N x6 100 u') (fun x7 u => ck (bI x7 100) (pt (sI u 44 (ix x7) v2) (fun u => pt (u.1 42 5) (fun x8 => pt (sI u 42 5 (x8 + 1)) (fun u => some u))))))) Q) :
    ∀ (j w : Nat) (u : Mm), w ≤ 20 → 20 - w < j → CR th n l m g q fw tt r u (wkO o w s) → Go (f_X4_free_43 N t j v2 (i3 w) u) Q := by
  intro j
  induction j with
  | zero => intro w u _ hj; omega
  | succ j ih =>
    intro w u hw hj h
    show Go (g_X4_free_43 N t (f_X4_free_43 N t j) v2 (i3 w) u) Q
    unfold g_X4_free_43
    by_cases hw2 : 20 ≤ w
    · rw [if_pos ((i3_Lle (by omega) (by decide)).mpr hw2)]
      have : w = 20 := by omega
      subst this
      exact h18 u h
    · rw [if_neg (fun z => hw2 ((i3_Lle (by omega) (by decide)).mp z))]
      refine Go.ck (by rw [i3_bI (by omega)]; exact decide_eq_true (by omega)) ?_
      have hx := h.x (w := w) (by omega)
      have e18 : wkO o w s 18 w = s 18 w := by unfold wkO; rw [if_neg (by omega)]
      rw [e18] at hx
      rw [pt_d, i3_ix (by omega), hx]
      have hs := wkO_s (o := o) (w := w) (s := s)
      by_cases hc : s 18 w = o + 1
      · rw [if_pos ((oT_eq h ht).mpr hc)]
        refine Go.ck (by rw [i3_bI (by omega)]; exact decide_eq_true (by omega)) ?_
        unfold f_X4_free_66
        rw [pt_d, i3_addL]
        refine ih (w + 1) _ (by omega) (by omega) ?_
        rw [hs, if_pos hc]
        exact h.wk (v := 0)
      · rw [if_neg (fun z => hc ((oT_eq h ht).mp z))]
        unfold f_X4_free_66
        rw [i3_addL]
        refine ih (w + 1) _ (by omega) (by omega) ?_
        rw [hs, if_neg hc]
        exact h
theorem freeA_eq (hv : vo s o) (hg : geo s o) : nS (nS (nS (wkO o 20 (nS (clrO (s 7 o) (s 7 o + szo s o) s) 4 o 0)) 19 (s 0 20 % 100) o) 0 20 (s 0 20 + 1)) 11 o 0 = freeA o s := by
  funext c k
  have h1 : ∀ j, (c = 13 ∧ s 7 o ≤ j ∧ j < s 7 o + szo s o) ↔ (c = 13 ∧ j < 400 ∧ s 13 j = o + 1) := fun j => by
    have h2 := hg.2 j
    have h3 := hg.1
    by_cases hj : j < 400
    · have := h2 hj
      omega
    · omega
  unfold freeA nS wkO clrO
  simp only [h1]
  grind
theorem co_free (hN : 1000 ≤ N) (h : CR th n l m g q fw tt r u s) (ht : th o = some t) (hv : vo s o) (hg : geo s o) (hf : s 0 20 < 2000000000) (htt : 0 < tt) :
    Go (f_X4_free N t u) (fun u' => CR th n l m g q (fw + szo s o) (tt - 1) r u' (freeA o s)) := by
  unfold f_X4_free
  have ho := (h.cv ht).2.2
  rw [pt_d, h.a0 ht, if_neg (fun z => absurd ((i3_ltL (a := o) (n := 0) (by omega) (by decide)).mp z) (Nat.not_lt_zero _)), if_pos ((i3_ltL (a := o) (n := 80) (by omega) (by decide)).mpr ho)]
  refine Go.bv (co_takeBack hN h ht hv hg.1) (fun u1 h1 => ?_)
  simp only [pt_d, i3_ix (show o < 2147483648 by omega)]
  refine Go.ck (by rw [i3_bI (by omega)]; exact decide_eq_true ho) ?_
  have h2 := h1.gone ho
  have e4 : (sR u1 43 o none).1 42 4 = i3 tt := h2.c.2
  rw [e4, show i3 tt - 1 = i3 (tt - 1) from i3_subL (show 1 ≤ tt by omega)]
  have h3 := h2.ttd (v := tt - 1)
  refine lo_wk (o := o) (s := nS (clrO (s 7 o) (s 7 o + szo s o) s) 4 o 0) ht (fun u4 h4 => ?_) N 0 _ (by omega) (by omega) (by rw [wkO_0]; exact h3)
  have e20 : wkO o 20 (nS (clrO (s 7 o) (s 7 o + szo s o) s) 4 o 0) 0 20 = s 0 20 := by unfold wkO nS clrO; grind
  have hn := h4.cn.1
  rw [e20] at hn
  simp only [pt_d, hn, fm_ok (show s 0 20 < 2147483648 by omega), bd_s, i3_ix (show s 0 20 % 100 < 2147483648 by omega)]
  refine Go.ck (by rw [i3_bI (by omega)]; exact decide_eq_true (by omega)) ?_
  have h5 := h4.fr (k := s 0 20 % 100) (v := o)
  have hn5 := h5.cn.1
  have e20' : nS (wkO o 20 (nS (clrO (s 7 o) (s 7 o + szo s o) s) 4 o 0)) 19 (s 0 20 % 100) o 0 20 = s 0 20 := by rw [nS_ne (by omega)]; exact e20
  rw [e20'] at hn5
  rw [hn5, i3_addL]
  refine Go.s ?_
  rw [← freeA_eq hv hg]
  exact (h5.n20 (v := s 0 20 + 1)).nohusk (by unfold wkO nS clrO; grind)
end FRE

section TYQ
variable {th : Nat → Option Nat} {n m fw tt w k : Nat} {l g : Nat → Nat} {q : Nat → Prop} {r u u1 u2 : Mm} {s s' z : Sm} {o t v N y a b c : Nat}
theorem St2.mk2 {x : Option (Nat × Int32 × Bool × Mm)} {y : Mm → Option (Int32 × Mm)} {kx : Nat} {a : Int32} {g' : Nat → Nat} (hk : kx ≤ 2) (M : Ms u u s) (hc : Go x (fun z => z.1 = kx ∧ z.2.1 = a ∧ (∀ c j, c < 40 → z.2.2.2.1 c j = u.1 c j) ∧ ∃ r, CRr th 0 g' (fun _ => False) r z.2.2.2 s')) (hm : ∀ u1, Ms u1 u1 s → Go (y u1) (fun z => (kx = 0 → z.1 = a) ∧ Ms u1 z.2 s')) (h0 : s' 0 0 = kx) (H : LI (k + 1) d0 0 g s') : St2 k x y := by
  obtain ⟨⟨kx1, a1, b1, u1⟩, h1, h2, h3, h4, r, hr⟩ := hc
  have M1 : Ms u1 u1 s := ⟨rfl, fun _ _ => rfl, fun c j h => by rw [h4 c j (by have := nsc_lt h; omega)]; exact M.2.2 c j h⟩
  obtain ⟨⟨a2, u2⟩, h5, h6, h7⟩ := hm u1 M1
  have h2 : kx1 = kx := h2
  have h3 : a1 = a := h3
  subst h2 h3
  refine ⟨kx1, a1, b1, u1, a2, u2, h1, h5, ?_, fun z => (h6 z).symm, hk, Jr.nx H hr h7⟩
  have := h7.mr.g0 (k := 0) (by simp [nsc])
  rw [h0] at this
  exact this
theorem st_type (hN : 5000 ≤ N) (J : Jk k u) (hk : k + 1 ≤ 1000) (hf : fK2 u t) (x p1 p2 p3 : Int32) (h3 : p3 = 0 ∨ p3 = 1) : St2 k (f_X7_type N t x p1 p2 p3 u) (f_X8_type N x p1 p2 p3) := by
  obtain ⟨th, g, s, H, C, M, hd⟩ := J
  have h40a : ∀ u1, Ms u1 u1 s → Go (f_X8_type_11 N x p1 p2 p3 u1) (fun z => (1 = 0 → z.1 = (0 : Int32)) ∧ Ms u1 z.2 (nS s 0 0 1)) := fun u1 M1 => by
    unfold f_X8_type_11 f_X8_type_40
    rw [pt_d, pt_d, show (sI u1 0 0 1).1 0 0 = 1 from rfl, if_pos (by decide)]
    exact Go.s ⟨(fun z => by cases z), Ms_0 M1 rfl⟩
  have h40b : ∀ u1, Ms u1 u1 s → Go (f_X8_type_35 N x p1 p2 p3 u1) (fun z => (2 = 0 → z.1 = (0 : Int32)) ∧ Ms u1 z.2 (nS s 0 0 2)) := fun u1 M1 => by
    unfold f_X8_type_35 f_X8_type_40
    rw [pt_d, pt_d, show (sI u1 0 0 2).1 0 0 = 2 from rfl, if_pos (by decide)]
    exact Go.s ⟨(fun z => by cases z), Ms_0 M1 rfl⟩
  by_cases hx0 : x < 0
  · refine St2.ex (kx := 1) (a := 0) (by decide) hk H C M ⟨false, ?_⟩ (fun u1 M1 => ?_)
    · unfold f_X7_type; rw [if_pos hx0]
    · unfold f_X8_type; rw [if_pos hx0]; exact h40a u1 M1
  by_cases hx1 : ¬ x < 10
  · refine St2.ex (kx := 1) (a := 0) (by decide) hk H C M ⟨false, ?_⟩ (fun u1 M1 => ?_)
    · unfold f_X7_type; rw [if_neg hx0, if_neg hx1]
    · unfold f_X8_type; rw [if_neg hx0, if_neg hx1]; exact h40a u1 M1
  replace hx1 : x < 10 := Decidable.not_not.mp hx1
  by_cases hp0 : p1 < 0
  · refine St2.ex (kx := 2) (a := 0) (by decide) hk H C M ⟨false, ?_⟩ (fun u1 M1 => ?_)
    · unfold f_X7_type; rw [if_neg hx0, if_pos hx1, if_pos hp0]
    · unfold f_X8_type; rw [if_neg hx0, if_pos hx1, if_pos hp0]; exact h40b u1 M1
  by_cases hp1 : 6 < p1
  · refine St2.ex (kx := 2) (a := 0) (by decide) hk H C M ⟨false, ?_⟩ (fun u1 M1 => ?_)
    · unfold f_X7_type; rw [if_neg hx0, if_pos hx1, if_neg hp0, if_pos hp1]
    · unfold f_X8_type; rw [if_neg hx0, if_pos hx1, if_neg hp0, if_pos hp1]; exact h40b u1 M1
  by_cases hq0 : p2 < 0
  · refine St2.ex (kx := 2) (a := 0) (by decide) hk H C M ⟨false, ?_⟩ (fun u1 M1 => ?_)
    · unfold f_X7_type; rw [if_neg hx0, if_pos hx1, if_neg hp0, if_neg hp1, if_pos hq0]
    · unfold f_X8_type; rw [if_neg hx0, if_pos hx1, if_neg hp0, if_neg hp1, if_pos hq0]; exact h40b u1 M1
  by_cases hq1 : ¬ p2 ≤ 60
  · refine St2.ex (kx := 2) (a := 0) (by decide) hk H C M ⟨false, ?_⟩ (fun u1 M1 => ?_)
    · unfold f_X7_type; rw [if_neg hx0, if_pos hx1, if_neg hp0, if_neg hp1, if_neg hq0, if_neg hq1]
    · unfold f_X8_type; rw [if_neg hx0, if_pos hx1, if_neg hp0, if_neg hp1, if_neg hq0, if_neg hq1]; exact h40b u1 M1
  replace hq1 : p2 ≤ 60 := Decidable.not_not.mp hq1
  have C0 := CRr_0 (kx := 0) C
  have hM2 : ∀ u1, Ms u1 u1 s → Ms u1 (sI u1 0 0 0) (nS s 0 0 0) := fun u1 M1 => Ms_0 M1 rfl
  have H0 : LI k d0 0 g (nS s 0 0 0) := LI_0 (by decide) H
  have h00 : nS s 0 0 0 0 0 = 0 := nS_eq
  generalize nS s 0 0 0 = z at *
  clear C H h40a h40b
  obtain ⟨y, hy, rfl⟩ := i3_of hx0
  have hy10 : y < 10 := (i3_ltL hy (by decide)).mp hx1
  obtain ⟨a, ha, rfl⟩ := i3_of hp0
  have ha6 : ¬ 6 < a := fun e => hp1 ((i3_Llt ha (by decide)).mpr e)
  obtain ⟨b, hb, rfl⟩ := i3_of hq0
  have hb60 : b ≤ 60 := (i3_leL hb (by decide)).mp hq1
  have hs2 : (2 : Int32) + i3 a + i3 b = i3 (2 + a + b) := by
    rw [i3_Ladd, i3_add]
  obtain ⟨c, hc, rfl⟩ : ∃ c, c ≤ 1 ∧ p3 = i3 c := by
    rcases h3 with rfl | rfl
    · exact ⟨0, by omega, rfl⟩
    · exact ⟨1, by omega, rfl⟩
  have hzB : zB (i3 c) = true := by
    rcases h3 with e | e <;> (rw [e]; decide)
  have hvp : vp_nar .boolean (i3 c) = i3 c := by
    rcases h3 with e | e <;> (rw [e]; decide)
  have hbI : bI (i3 y) 10 = true := by rw [i3_bI hy, decide_eq_true hy10]
  have hK := C0.2.2.2.2.2.1 y hy10
  have hy7 := H0.1 y hy10
  by_cases h1 : z 1 y = 0
  · have hno : ∀ o, o < 80 → z 4 o ≠ 0 → z 4 o ≤ 10 ∧ z 4 o ≠ y + 1 := fun o ho h4 => by
      have h := ((H0.2.1 o ho).1 h4).1
      unfold vo at h
      refine ⟨by omega, fun e => ?_⟩
      rw [e] at h
      simp at h
      omega
    have f : ∀ x, x ≠ 1 → x ≠ 2 → x ≠ 3 → tyA y a (2 + a + b) c z x = z x := fun x a b c => by funext j; unfold tyA; rw [nS_ne (fun q => c q.1), nS_ne (fun q => b q.1), nS_ne (fun q => a q.1)]
    refine St2.mk2 (th := th) (g' := g) (s' := tyA y a (2 + a + b) c z) (kx := 0) (a := 1) (by decide) M ?_ (fun u1 M1 => ?_) (by rw [f 0 (by decide) (by decide) (by decide)]; exact h00) (LI_up (LI_ty H0 hy10 h1 (by omega) (by omega) hc) hk)
    · unfold f_X7_type
      rw [if_neg hx0, if_pos hx1, if_neg hp0, if_neg hp1, if_neg hq0, if_pos hq1, hbI, ck_t, pt_d, i3_ix hy, hK.1 h1, nl_n, hzB, ck_t, pt_d, hs2, ck_t, pt_d]
      refine Go.s ⟨rfl, rfl, fun x j hx => ?_, (sR (nK u t (i3 y) (i3 a) (i3 (2 + a + b)) (i3 c)) 41 y (some t)), ?_⟩
      · show (if x = t then _ else u.1 x j) = u.1 x j
        have := hf.1
        rw [if_neg (by omega)]
      have := CR.ty (a := a) (b := 2 + a + b) (c := c) C0 hf hy10 h1 hno (by omega)
      unfold CRr
      rw [FW_c (f 13 (by decide) (by decide) (by decide)), TT_c (f 4 (by decide) (by decide) (by decide)), f 14 (by decide) (by decide) (by decide), f 0 (by decide) (by decide) (by decide)]
      exact this
    · have M2 := hM2 u1 M1
      have g1 := M2.mr.2.2 1 y hy10
      unfold f_X8_type f_X8_type_40
      rw [if_neg hx0, if_pos hx1, if_neg hp0, if_neg hp1, if_neg hq0, if_pos hq1, pt_d, pt_d, show (sI u1 0 0 0).1 0 0 = 0 from rfl, if_neg (by decide), hbI, ck_t, pt_d, i3_ix hy, g1, show eC 1 (z 1 y) = -1 by rw [h1]; rfl, if_pos (by decide), ck_t, pt_d, hs2, ck_t, pt_d, hvp, ck_t, pt_d]
      refine Go.s ⟨fun _ => rfl, M2.step ?_⟩
      exact ((M2.mr.set (c := 1) (k := y) (v := a + 1) (w := i3 a) hy10 rfl).set (c := 2) (k := y) (v := 2 + a + b) (w := i3 (2 + a + b)) hy10 rfl).set (c := 3) (k := y) (v := c) (w := i3 c) hy10 rfl
  · obtain ⟨kd, k1, _⟩ := hK.2 h1
    refine St2.mk (th := th) (g' := g) (s' := z) (kx := 0) (a := 0) (by decide) M ?_ (fun u1 M1 => ?_) h00 (LI_up H0 hk)
    · unfold f_X7_type
      rw [if_neg hx0, if_pos hx1, if_neg hp0, if_neg hp1, if_neg hq0, if_pos hq1, hbI, ck_t, pt_d, i3_ix hy, k1, nl_s]
      exact Go.s ⟨rfl, rfl, C0⟩
    · have M2 := hM2 u1 M1
      have g1 := M2.mr.2.2 1 y hy10
      unfold f_X8_type f_X8_type_40
      rw [if_neg hx0, if_pos hx1, if_neg hp0, if_neg hp1, if_neg hq0, if_pos hq1, pt_d, pt_d, show (sI u1 0 0 0).1 0 0 = 0 from rfl, if_neg (by decide), hbI, ck_t, pt_d, i3_ix hy, g1, show eC 1 (z 1 y) = oI (z 1 y) from rfl, if_neg (fun e => h1 ((oI_lt0 (by omega)).mp e))]
      exact Go.s ⟨fun _ => rfl, M2⟩
theorem ty_01 {x p1 p2 p3 : Int32} {o : Nat × Int32 × Bool × Mm} (h : f_X7_type N t x p1 p2 p3 u = some o) : o.2.1 = 0 ∨ o.2.1 = 1 := by
  unfold f_X7_type at h
  by_cases a1 : x < 0
  · rw [if_pos a1] at h; cases h; exact Or.inl rfl
  rw [if_neg a1] at h
  by_cases a2 : x < 10
  · rw [if_pos a2] at h
    by_cases a3 : p1 < 0
    · rw [if_pos a3] at h; cases h; exact Or.inl rfl
    rw [if_neg a3] at h
    by_cases a4 : 6 < p1
    · rw [if_pos a4] at h; cases h; exact Or.inl rfl
    rw [if_neg a4] at h
    by_cases a5 : p2 < 0
    · rw [if_pos a5] at h; cases h; exact Or.inl rfl
    rw [if_neg a5] at h
    by_cases a6 : p2 ≤ 60
    · rw [if_pos a6] at h
      cases hb : bI x 10 with
      | false => rw [hb] at h; cases h
      | true =>
        rw [hb, ck_t, pt_d] at h
        cases hc : u.2 41 (ix x) with
        | none =>
          rw [hc, nl_n] at h
          cases hz : zB p3 with
          | false => rw [hz] at h; cases h
          | true => rw [hz, ck_t, pt_d, ck_t, pt_d] at h; cases h; exact Or.inr rfl
        | some kd => rw [hc, nl_s] at h; cases h; exact Or.inl rfl
    · rw [if_neg a6] at h; cases h; exact Or.inl rfl
  · rw [if_neg a2] at h; cases h; exact Or.inl rfl
end TYQ

section MKI
variable {th : Nat → Option Nat} {n m fw tt k y a o t kd N : Nat} {l g g' : Nat → Nat} {q : Nat → Prop} {r u u1 : Mm} {z s : Sm}
theorem co_gap (hN : 5000 ≤ N) (H : LI k d0 0 g z) (C : CR th n l m g' q fw tt r u z) (hy : y < 10) (h1 : z 1 y ≠ 0) : f_X6_gapFor N (i3 (z 2 y)) u = some (oI (gpF (z 2 y) 400 0 0 z), u) :=
  co_gpF C (fun x hx e => by
    have h := H.2.2.2.2.2.2.2.1 x hx
    exact ((C.cs (o := z 13 x - 1) (by omega)).2 (h.2 e)).2) (LI_sz H hy h1) 400 0 0 N rfl (by have := (LI_sz H hy h1).1; omega) (by omega) (by omega)
theorem nm_no (h : ¬ nmF 80 0 z = 0) : ¬ oI (nmF 80 0 z) = -1 := by
  have := nm_lt (z := z)
  rw [oI_p h]
  exact i3_ne1 (by omega)
theorem gp_no (H : LI k d0 0 g z) (h : ¬ gpF (z 2 y) 400 0 0 z = 0) : ¬ oI (gpF (z 2 y) 400 0 0 z) = -1 := by
  have := gp_lt (y := y) H
  rw [oI_p h]
  exact i3_ne1 (by omega)
theorem co_kd (C : CR th n l m g' q fw tt r u z) (hy : y < 10) (h1 : z 1 y ≠ 0) (hkd : u.2 41 y = some kd) : 70 ≤ kd ∧ kd % 4 = 2 ∧ u.1 kd 2 = i3 (z 2 y) := by
  obtain ⟨kd', k1, k2, k3, k4, k5, k6, k7⟩ := (C.k hy).2 h1
  have hkk : kd' = kd := Option.some.inj (k1.symm.trans hkd)
  subst hkk
  exact ⟨k2, k3, k6⟩
theorem co_room (hN : 5000 ≤ N) (H : LI k d0 0 g z) (C : CR th n l m g' q fw tt r u z) (hy : y < 10) (h1 : z 1 y ≠ 0) (hkd : u.2 41 y = some kd) :
    (okA y z → f_X4_hasRoomFor N kd u = some (1, u)) ∧ (¬ okA y z → f_X4_hasRoomFor N kd u = some (0, u)) := by
  have k6 := (co_kd C hy h1 hkd).2.2
  unfold f_X4_hasRoomFor okA
  rw [co_least C hN, bd_s]
  by_cases hm : nmF 80 0 z = 0
  · rw [if_pos (show oI (nmF 80 0 z) = -1 by rw [hm]; rfl)]
    exact ⟨fun e => absurd hm e.1, fun _ => rfl⟩
  · rw [if_neg (nm_no hm), pt_d, k6, co_gap hN H C hy h1, bd_s]
    by_cases hg : gpF (z 2 y) 400 0 0 z = 0
    · rw [if_pos (show oI (gpF (z 2 y) 400 0 0 z) = -1 by rw [hg]; rfl)]
      exact ⟨fun e => absurd hg e.2, fun _ => rfl⟩
    · rw [if_neg (gp_no H hg)]
      exact ⟨fun _ => rfl, fun e => absurd ⟨hm, hg⟩ e⟩
theorem LI_pl (H : LI k d0 0 g z) (hk : k + 1 ≤ 1000) (hy : y < 10) (h1 : z 1 y ≠ 0) : LI (k + 1) d0 0 g (plA y z) := by
  unfold plA
  by_cases hok : nmF 80 0 z ≠ 0 ∧ gpF (z 2 y) 400 0 0 z ≠ 0
  · rw [if_pos hok]
    have hz := LI_sz H hy h1
    have hn := nmF_ok (z := z) 80 0 hok.1
    have hgo := gpF_ok (z := z) hz.1 400 0 0 (by omega) (fun x a b => by omega) hok.2
    exact LI_mk H hk (by omega) hn.2.2 hy h1 (by omega) hgo.2
  · rw [if_neg hok]
    exact LI_up H hk
theorem pl_0 : plA y z 0 0 = z 0 0 := by
  unfold plA
  split
  · rw [mkA_ne (by decide)]
  · rfl
theorem pl_no (h : ¬ okA y z) : plA y z = z := if_neg h
theorem ans_no (h : ¬ okA y z) : ansA y z = -2 := if_neg h
theorem co_tail (hN : 5000 ≤ N) (H : LI k d0 0 g z) (C : CRr th 0 g' (fun _ => False) r u z) (h70 : 70 ≤ t) (ht4 : t % 4 = 0) (hft : ∀ p, th p ≠ some t) (hy : y < 10) (h1 : z 1 y ≠ 0) (hkd : u.2 41 y = some kd) :
    ∃ b u1 th1, f_X7_make_77 N t (some kd) u = some (0, ansA y z, b, u1) ∧ CRr th1 0 g (fun _ => False) r u1 (plA y z) := by
  have C2 := CR_sh H C
  have hd : ∀ p, z 4 p = 0 → shr th z p = none := fun p e => by unfold shr; rw [if_pos e]
  have hft2 : ∀ p, shr th z p ≠ some t := fun p => by
    unfold shr
    split
    · intro e; cases e
    · exact hft p
  have hl : ∀ j, j < z 0 15 → z 4 (z 14 j) ≠ 0 := fun j hj e => by
    have h := H.2.2.2.2.2.1.2 j hj
    have := ((H.2.1 _ h.1).2 e).1
    omega
  unfold f_X7_make_77
  rw [nl_s]
  by_cases hok : nmF 80 0 z ≠ 0 ∧ gpF (z 2 y) 400 0 0 z ≠ 0
  · have hz := LI_sz H hy h1
    have hn := nmF_ok (z := z) 80 0 hok.1
    have hgo := gpF_ok (z := z) hz.1 400 0 0 (by omega) (fun x a b => by omega) hok.2
    have hFW := mkA_FW (z := z) (y := y) (o := nmF 80 0 z - 1) (a := gpF (z 2 y) 400 0 0 z - 1) (by omega) hgo.2
    have hTT := mkA_TT (z := z) (y := y) (a := gpF (z 2 y) 400 0 0 z - 1) (o := nmF 80 0 z - 1) (by omega) hn.2.2
    have hpl := co_place hN H C2 hd h70 ht4 hy h1 hkd (by omega) hok.1 hok.2
    have hmk := CR.mk (fw' := FW z - z 2 y) (tt' := TT z + 1) (a := gpF (z 2 y) 400 0 0 z - 1) (o := nmF 80 0 z - 1) H C2 hd hl h70 ht4 hft2 (by omega) hn.2.2 hy h1 hkd
    refine ⟨true, mkU (nmF 80 0 z - 1) (gpF (z 2 y) 400 0 0 z - 1) (z 2 y) t kd (FW z - z 2 y) (TT z + 1) u, th2 (shr th z) (nmF 80 0 z - 1) t, ?_, ?_⟩
    · rw [hpl, bd_s]
      unfold ansA
      rw [if_pos hok]
    · unfold CRr plA
      rw [if_pos hok, mkA_ne (c := 0) (by decide), mkA_ne (c := 14) (by decide), hTT, show FW (mkA (nmF 80 0 z - 1) y (gpF (z 2 y) 400 0 0 z - 1) z) = FW z - z 2 y by omega]
      exact hmk
  · refine ⟨false, u, shr th z, ?_, ?_⟩
    · have k6 := (co_kd C2 hy h1 hkd).2.2
      unfold f_X4_place
      rw [ans_no hok, co_least C2 hN, bd_s, pt_d, k6, co_gap hN H C2 hy h1, bd_s]
      by_cases hm : nmF 80 0 z = 0
      · rw [if_pos (show oI (nmF 80 0 z) < 0 by rw [hm]; decide), bd_s]
      · have hg : gpF (z 2 y) 400 0 0 z = 0 := by
          apply Classical.byContradiction
          intro e
          exact hok ⟨hm, e⟩
        have hle := nmF_le (z := z) 80 0
        rw [if_neg (fun e => hm ((oI_lt0 (by omega)).mp e)), if_neg (fun e => by rw [oI_p hm] at e; have : 80 ≤ nmF 80 0 z - 1 := (i3_Lle (a := nmF 80 0 z - 1) (n := 80) (by omega) (by decide)).mp e; omega), if_neg (show ¬ 0 ≤ oI (gpF (z 2 y) 400 0 0 z) by rw [hg]; decide), bd_s]
    · rw [pl_no hok]
      exact C2
def fT2 (u : Mm) (t : Nat) : Prop := 70 ≤ t ∧ t % 4 = 0 ∧ ∀ o, o < 80 → u.2 43 o ≠ some t
theorem st_make (hN : 5000 ≤ N) (J : Jk k u) (hk : k + 1 ≤ 1000) (hf : fT2 u t) (x : Int32) : St2 k (f_X7_make N t x u) (f_X8_make N x) := by
  obtain ⟨th, g, s, H, C, M, hd⟩ := J
  have hft : ∀ p, th p ≠ some t := fun p e => by
    have h80 := (C.2.1 p t e).2.2.1
    by_cases h4 : s 4 p = 0
    · rw [hd p h4] at e; cases e
    · exact hf.2.2 p h80 (((C.cs h80).2 h4).1.trans e)
  have h1a : ∀ u1, Ms u1 u1 s → Go (f_X8_make_20 N x u1) (fun z => (1 = 0 → z.1 = (0 : Int32)) ∧ Ms u1 z.2 (nS s 0 0 1)) := fun u1 M1 => by
    unfold f_X8_make_20 f_X8_make_25
    rw [pt_d, pt_d, show (sI u1 0 0 1).1 0 0 = 1 from rfl, if_neg (by decide)]
    exact Go.s ⟨(fun z => by cases z), Ms_0 M1 rfl⟩
  by_cases hx0 : x < 0
  · refine St2.ex (kx := 1) (a := 0) (by decide) hk H C M ⟨false, ?_⟩ (fun u1 M1 => ?_)
    · unfold f_X7_make; rw [if_pos hx0]
    · unfold f_X8_make; rw [if_pos hx0]; exact h1a u1 M1
  by_cases hx1 : 10 ≤ x
  · refine St2.ex (kx := 1) (a := 0) (by decide) hk H C M ⟨false, ?_⟩ (fun u1 M1 => ?_)
    · unfold f_X7_make; rw [if_neg hx0, if_pos hx1]
    · unfold f_X8_make; rw [if_neg hx0, if_pos hx1]; exact h1a u1 M1
  obtain ⟨y, hy, rfl⟩ := i3_of hx0
  have hy10 : y < 10 := by
    apply Classical.byContradiction
    intro e
    exact hx1 ((i3_Lle hy (by decide)).mpr (by omega))
  have hbI : bI (i3 y) 10 = true := by rw [i3_bI hy, decide_eq_true hy10]
  have hy7 := (H.1 y hy10).1
  have hK := C.k hy10
  by_cases hs1 : s 1 y = 0
  · refine St2.ex (kx := 1) (a := 0) (by decide) hk H C M ⟨false, ?_⟩ (fun u1 M1 => ?_)
    · unfold f_X7_make; rw [if_neg hx0, if_neg hx1, hbI, ck_t, pt_d, i3_ix hy, hK.1 hs1, nl_n]
    · have g1 := M1.mr.g1 hy10
      unfold f_X8_make; rw [if_neg hx0, if_neg hx1, hbI, ck_t, pt_d, i3_ix hy, g1, if_neg (fun e => (oI_ge0 (by omega)).mp e hs1)]; exact h1a u1 M1
  obtain ⟨kd, hkd, _⟩ := hK.2 hs1
  have C0 := CRr_0 (kx := 0) C
  have hM2 : ∀ u1, Ms u1 u1 s → Ms u1 (sI u1 0 0 0) (nS s 0 0 0) := fun u1 M1 => Ms_0 M1 rfl
  have hg1 : ∀ u1, Ms u1 u1 s → u1.1 1 y = oI (s 1 y) := fun u1 M1 => M1.mr.g1 hy10
  have H0 : LI k d0 0 g (nS s 0 0 0) := LI_0 (by decide) H
  have h00 : nS s 0 0 0 0 0 = 0 := nS_eq
  have h1 : nS s 0 0 0 1 y ≠ 0 := by rw [nS_ne (by omega)]; exact hs1
  clear C H hK h1a hd
  generalize nS s 0 0 0 = z at *
  have e7 : f_X7_make N t (i3 y) u = bd (f_X4_hasRoomFor N kd u) (fun x10 u => if x10 = 0 then (bd (f_X0_run N u) (fun x16 u => bd (f_X4_hasRoomFor N kd u) (fun x18 u => if x18 = 0 then (bd (f_X7_makeRoomByMoving N kd u) (fun x19 u => if x19 = 0 then (some (0, (-2), false, u)) else (f_X7_make_77 N t (some kd) u))) else (f_X7_make_77 N t (some kd) u)))) else (f_X7_make_77 N t (some kd) u)) := by
    unfold f_X7_make
    rw [if_neg hx0, if_neg hx1, hbI, ck_t, pt_d, i3_ix hy, hkd, nl_s, ck_t, pt_d, nl_s]
  have e8 : ∀ u1, Ms u1 u1 s → (okA y z → f_X8_make N (i3 y) u1 = f_X8_make_92 N (i3 y) (i3 (z 2 y)) (sI u1 0 0 0)) ∧ (¬ okA y z → f_X8_make N (i3 y) u1 = f_X8_make_59 N (i3 y) (i3 (z 2 y)) (sI u1 0 0 0)) := fun u1 M1 => by
    have M2 := hM2 u1 M1
    have hl1 := gp_lt (y := y) H0
    have hl2 := nm_lt (z := z)
    unfold f_X8_make f_X8_make_25
    rw [if_neg hx0, if_neg hx1, hbI, ck_t, pt_d, i3_ix hy, hg1 u1 M1, if_pos ((oI_ge0 (by omega)).mpr hs1), pt_d, pt_d, show (sI u1 0 0 0).1 0 0 = 0 from rfl, if_pos (by decide), ck_t, pt_d, M2.mr.g2 hy10, mo_gap hN H0 M2 hy10 h1, bd_s, mo_least M2.mr (LI_4 H0) hN]
    unfold okA
    by_cases hg : gpF (z 2 y) 400 0 0 z = 0
    · rw [if_pos ((oI_lt0 hl1).mpr hg)]
      exact ⟨fun e => absurd hg e.2, fun _ => rfl⟩
    · rw [if_neg (fun e => hg ((oI_lt0 hl1).mp e)), bd_s]
      by_cases hm : nmF 80 0 z = 0
      · rw [if_neg (fun e => (oI_ge0 hl2).mp e hm)]
        exact ⟨fun e => absurd hm e.1, fun _ => rfl⟩
      · rw [if_pos ((oI_ge0 hl2).mpr hm)]
        exact ⟨fun _ => rfl, fun e => absurd ⟨hm, hg⟩ e⟩
  have hr0 := co_room hN H0 C0 hy10 h1 hkd
  by_cases ok0 : okA y z
  · obtain ⟨b, w1, th1, f1, C1⟩ := co_tail hN H0 C0 hf.1 hf.2.1 hft hy10 h1 hkd
    refine St2.mk (th := th1) (g' := g) (s' := plA y z) (kx := 0) (a := ansA y z) (by decide) M ?_ (fun u1 M1 => ?_) (pl_0.trans h00) (LI_pl H0 hk hy10 h1)
    · rw [e7, hr0.1 ok0, bd_s, if_neg (by decide), f1]
      exact Go.s ⟨rfl, rfl, C1⟩
    · rw [(e8 u1 M1).1 ok0]
      exact Go.mono (mo_mk hN H0 (hM2 u1 M1) hy10 h1) (fun x hx => ⟨fun _ => hx.1, hx.2⟩)
  obtain ⟨⟨a1, w1⟩, f1, _, C1⟩ := co_run hN H0 C0
  have H1 := col_inv H0
  have x1 : colA z 1 y = z 1 y := fx_col 1 y (by omega)
  have x2 : colA z 2 y = z 2 y := fx_col 2 y (by omega)
  have x0 : colA z 0 0 = 0 := (fx_col 0 0 (by omega)).trans h00
  have hm1 : ∀ u1, Ms u1 u1 s → Go (f_X8_collect N (sI u1 0 0 0)) (fun x => Ms u1 x.2 (colA z)) := fun u1 M1 => Go.mono (mo_run hN H0 (hM2 u1 M1) h00) (fun x hx => hx.2)
  have hk1 : w1.2 41 y = some kd := ((C1.1 41 y (Or.inr rfl)).2).trans hkd
  have h1' : colA z 1 y ≠ 0 := by rw [x1]; exact h1
  have e7' : f_X7_make N t (i3 y) u = bd (f_X4_hasRoomFor N kd w1) (fun x18 u => if x18 = 0 then (bd (f_X7_makeRoomByMoving N kd u) (fun x19 u => if x19 = 0 then (some (0, (-2), false, u)) else (f_X7_make_77 N t (some kd) u))) else (f_X7_make_77 N t (some kd) u)) := by
    rw [e7, hr0.2 ok0, bd_s, if_pos rfl, f1, bd_s]
  have e8' : ∀ u1, Ms u1 u1 s → ∀ P : Int32 × Mm → Prop, (∀ u2, Ms u1 u2 (colA z) → Go (bd (f_X8_number N u2) (fun x6 u => if x6 < 0 then (f_X8_make_92 N (i3 y) (i3 (colA z 2 y)) u) else (bd (f_X8_place N (i3 (colA z 2 y)) u) (fun x21 u => if 0 ≤ x21 then (f_X8_make_92 N (i3 y) (i3 (colA z 2 y)) u) else (bd (f_X8_freeWords N u) (fun x22 u => if x22 < (i3 (colA z 2 y)) then (f_X8_make_92 N (i3 y) (i3 (colA z 2 y)) u) else (bd (f_X8_pack N u) (fun x23 u => f_X8_make_92 N (i3 y) (i3 (colA z 2 y)) u)))))))) P) → Go (f_X8_make N (i3 y) u1) P := fun u1 M1 P hP => by
    rw [(e8 u1 M1).2 ok0]
    unfold f_X8_make_59
    refine Go.bd (hm1 u1 M1) (fun a u2 h2 => ?_)
    have := hP u2 h2
    rw [x2] at this
    exact this
  clear e7 e8 hm1 x1 x2 hM2 hg1 hr0 hkd f1 C0 H0 h00 h1 ok0
  generalize colA z = v at *
  have hr1 := co_room hN H1 C1 hy10 h1' hk1
  have hl1 := gp_lt (y := y) H1
  have hl2 := nm_lt (z := v)
  by_cases ok1 : okA y v
  · obtain ⟨b, w2, th1, f2, C2⟩ := co_tail hN H1 C1 hf.1 hf.2.1 hft hy10 h1' hk1
    refine St2.mk (th := th1) (g' := fun _ => 0) (s' := plA y v) (kx := 0) (a := ansA y v) (by decide) M ?_ (fun u1 M1 => ?_) (pl_0.trans x0) (LI_pl H1 hk hy10 h1')
    · rw [e7', hr1.1 ok1, bd_s, if_neg (by decide), f2]
      exact Go.s ⟨rfl, rfl, C2⟩
    · refine e8' u1 M1 _ (fun u2 M2 => ?_)
      rw [mo_least M2.mr (LI_4 H1) hN, bd_s, if_neg (fun e => ok1.1 ((oI_lt0 hl2).mp e)), mo_gap hN H1 M2 hy10 h1', bd_s, if_pos ((oI_ge0 hl1).mpr ok1.2)]
      exact Go.mono (mo_mk hN H1 M2 hy10 h1') (fun x hx => ⟨fun _ => hx.1, hx.2⟩)
  by_cases hm : nmF 80 0 v = 0
  · refine St2.mk (th := th) (g' := g) (s' := plA y v) (kx := 0) (a := ansA y v) (by decide) M ?_ (fun u1 M1 => ?_) (pl_0.trans x0) (LI_pl H1 hk hy10 h1')
    · rw [e7', hr1.2 ok1, bd_s, if_pos rfl]
      unfold f_X7_makeRoomByMoving
      rw [co_least C1 hN, bd_s, if_pos (show oI (nmF 80 0 v) = -1 by rw [hm]; rfl), bd_s, if_pos rfl, ans_no ok1, pl_no ok1]
      exact Go.s ⟨rfl, rfl, C1⟩
    · refine e8' u1 M1 _ (fun u2 M2 => ?_)
      rw [mo_least M2.mr (LI_4 H1) hN, bd_s, if_pos ((oI_lt0 hl2).mpr hm)]
      exact Go.mono (mo_mk hN H1 M2 hy10 h1') (fun x hx => ⟨fun _ => hx.1, hx.2⟩)
  have hg : gpF (v 2 y) 400 0 0 v = 0 := by
    apply Classical.byContradiction
    intro e
    exact ok1 ⟨hm, e⟩
  have hFb : FW v ≤ 400 := cnt_le
  have hsz := LI_sz H1 hy10 h1'
  have k6 := (co_kd C1 hy10 h1' hk1).2.2
  have hfw : w1.1 46 1 = i3 (FW v) := C1.2.2.2.2.2.2.2.2.2.2.2.2.2.2.1
  have hO : iO v := H1.2.2.2.2.2.2.2.1
  by_cases hF : FW v < v 2 y
  · refine St2.mk (th := th) (g' := g) (s' := plA y v) (kx := 0) (a := ansA y v) (by decide) M ?_ (fun u1 M1 => ?_) (pl_0.trans x0) (LI_pl H1 hk hy10 h1')
    · rw [e7', hr1.2 ok1, bd_s, if_pos rfl]
      unfold f_X7_makeRoomByMoving
      rw [co_least C1 hN, bd_s, if_neg (nm_no hm), pt_d, hfw, pt_d, k6, if_neg (fun e => by have := (i3_le (by omega) (by omega)).mp e; omega), bd_s, if_pos rfl, ans_no ok1, pl_no ok1]
      exact Go.s ⟨rfl, rfl, C1⟩
    · refine e8' u1 M1 _ (fun u2 M2 => ?_)
      rw [mo_least M2.mr (LI_4 H1) hN, bd_s, if_neg (fun e => hm ((oI_lt0 hl2).mp e)), mo_gap hN H1 M2 hy10 h1', bd_s, if_neg (fun e => (oI_ge0 hl1).mp e hg), mo_fw hN hO M2, bd_s, if_pos ((i3_lt (by omega) (by omega)).mpr hF)]
      exact Go.mono (mo_mk hN H1 M2 hy10 h1') (fun x hx => ⟨fun _ => hx.1, hx.2⟩)
  have H2 : LI k d0 0 (fun _ => 0) (nS v 0 22 (v 0 22 + 1)) := LI_0 (by decide) H1
  have hP := pack_inv H2
  have C1n := C1.n22 (v := v 0 22 + 1)
  obtain ⟨⟨a2, w2⟩, f2, _, C2⟩ := co_move hN H2 C1n
  have C3 : CRr th 0 g (fun _ => False) u w2 (packA (nS v 0 22 (v 0 22 + 1))) := by
    have e15 : packA (nS v 0 22 (v 0 22 + 1)) 0 15 = v 0 15 := by rw [packA_f (by decide) (by decide), nS_ne (by omega)]
    have e14 : packA (nS v 0 22 (v 0 22 + 1)) 14 = v 14 := by rw [packA_f (by decide) (by decide)]; funext x; rw [nS_ne (by omega)]
    have eF : FW (packA (nS v 0 22 (v 0 22 + 1))) = FW v := by rw [hP.2]; exact FW_c (by funext x; rw [nS_ne (by omega)])
    have eT : TT (packA (nS v 0 22 (v 0 22 + 1))) = TT v := TT_c (by rw [packA_f (by decide) (by decide)]; funext x; rw [nS_ne (by omega)])
    unfold CRr
    rw [e15, e14, eF, eT]
    exact C2
  have m1 : packA (nS v 0 22 (v 0 22 + 1)) 1 y = v 1 y := fx_pack 1 y (by omega)
  have m2 : packA (nS v 0 22 (v 0 22 + 1)) 2 y = v 2 y := fx_pack 2 y (by omega)
  have m0 : packA (nS v 0 22 (v 0 22 + 1)) 0 0 = 0 := (fx_pack 0 0 (by omega)).trans x0
  have hk2 : w2.2 41 y = some kd := by
    have a1 := (C2.1 41 y (Or.inr rfl)).2
    have a2 := (C1.1 41 y (Or.inr rfl)).2
    rw [a1, ← a2]
    exact hk1
  have h1'' : packA (nS v 0 22 (v 0 22 + 1)) 1 y ≠ 0 := by rw [m1]; exact h1'
  have hmp : ∀ u1 u2, Ms u1 u2 v → Go (f_X8_pack N u2) (fun x => Ms u1 x.2 (packA (nS v 0 22 (v 0 22 + 1)))) := fun u1 u2 M2 => Go.mono (mo_pack hN H1 M2 x0) (fun x hx => hx.2)
  obtain ⟨b, w3, th1, f3, C4⟩ := co_tail hN hP.1 C3 hf.1 hf.2.1 hft hy10 h1'' hk2
  refine St2.mk (th := th1) (g' := fun _ => 0) (s' := plA y (packA (nS v 0 22 (v 0 22 + 1)))) (kx := 0) (a := ansA y (packA (nS v 0 22 (v 0 22 + 1)))) (by decide) M ?_ (fun u1 M1 => ?_) (pl_0.trans m0) (LI_pl hP.1 hk hy10 h1'')
  · rw [e7', hr1.2 ok1, bd_s, if_pos rfl]
    unfold f_X7_makeRoomByMoving
    rw [co_least C1 hN, bd_s, if_neg (nm_no hm), pt_d, hfw, pt_d, k6, if_pos ((i3_le (by omega) (by omega)).mpr (by omega)), pt_d, C1.cn.2.2.1, i3_addL, pt_d, f2, bd_s, bd_s, if_neg (by decide), f3]
    exact Go.s ⟨rfl, rfl, C4⟩
  · refine e8' u1 M1 _ (fun u2 M2 => ?_)
    rw [mo_least M2.mr (LI_4 H1) hN, bd_s, if_neg (fun e => hm ((oI_lt0 hl2).mp e)), mo_gap hN H1 M2 hy10 h1', bd_s, if_neg (fun e => (oI_ge0 hl1).mp e hg), mo_fw hN hO M2, bd_s, if_neg (fun e => by have := (i3_lt (by omega) (by omega)).mp e; omega)]
    refine Go.bd (hmp u1 u2 M2) (fun a u3 M3 => ?_)
    have := mo_mk hN hP.1 M3 hy10 h1''
    rw [m2] at this
    exact Go.mono this (fun x hx => ⟨fun _ => hx.1, hx.2⟩)
end MKI

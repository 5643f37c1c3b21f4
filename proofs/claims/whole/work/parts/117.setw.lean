section SWT
variable {th : Nat → Option Nat} {n m fw tt w k : Nat} {l g : Nat → Nat} {q : Nat → Prop} {r u u1 u2 : Mm} {s s' z : Sm} {o t v N : Nat}
theorem lessRun_z : ∀ (j m : Nat) (g : Nat → Nat) (s : Sm), lessRun j m g s 0 0 = s 0 0
  | 0, _, _, _ => rfl
  | j + 1, m, g, s => by
    unfold lessRun
    split
    · rfl
    · split
      · rw [lessRun_z j, lowA_z (by decide), nS_ne (by omega)]
      · rw [lessRun_z j, finA_0 (by decide)]
theorem lessA_z (o : Nat) (s : Sm) : lessA o s 0 0 = s 0 0 := by
  unfold lessA
  rw [lessRun_z, lowA_z (by decide)]
def setA (i v : Nat) (z : Sm) : Sm := if v = 0 then nS z 12 i v else moreA (v - 1) (nS z 12 i v)
theorem setA_inv {i : Nat} (H : LI n d0 0 g z) (hi : i < 480) (h4 : z 4 (i / 6) ≠ 0) (h11 : z 11 (i / 6) = 0) (hf : i % 6 < nfo z (i / 6)) (hv : v ≤ 80 ∧ (v ≠ 0 → z 4 (v - 1) ≠ 0 ∧ z 11 (v - 1) = 0)) :
    LI n (if z 12 i = 0 then d0 else d1 (z 12 i - 1)) 0 g (setA i v z) := by
  have h := LI_set H hi h4 h11 hf hv
  unfold setA
  by_cases q : v = 0
  · rw [if_pos q] at h ⊢
    exact h
  · rw [if_neg q] at h ⊢
    unfold moreA
    rw [nS_ne (s := z) (c := 12) (k := i) (a := 5) (b := v - 1) (by omega)]
    exact LI_blk h (by omega) (by rw [nS_ne (by omega), nS_ne (by omega)]; exact (hv.2 q).1)
theorem setA_f {i c : Nat} (h12 : c ≠ 12) (h5 : c ≠ 5) (h6 : c ≠ 6) : setA i v z c = z c := by
  funext x
  unfold setA moreA blk
  split
  · rw [nS_ne (fun y => h12 y.1)]
  · rw [nS_ne (fun y => h6 y.1), nS_ne (fun y => h5 y.1), nS_ne (fun y => h12 y.1)]
theorem setA_m {i : Nat} (q : v ≠ 0) : nS (moreA (v - 1) z) 12 i v = setA i v z := by
  unfold setA
  rw [if_neg q]
  unfold moreA blk
  funext a b
  unfold nS
  grind
theorem st_set (hN : 5000 ≤ N) (J : Jk k u) (hk : k + 1 ≤ 1000) (x y w : Int32) : St2 k (f_X7_set N x y w u) (f_X8_set N x y w) := by
  obtain ⟨th, g, s, H, C, M, hd⟩ := J
  have C00 := CRr_0 (kx := 0) C
  have hM2 : ∀ u1, Ms u1 u1 s → Ms u1 (sI u1 0 0 0) (nS s 0 0 0) := fun u1 M1 => Ms_0 M1 rfl
  have H0 : LI k d0 0 g (nS s 0 0 0) := LI_0 (by decide) H
  have h00 : nS s 0 0 0 0 0 = 0 := nS_eq
  have hdz : ∀ o, nS s 0 0 0 4 o = 0 → th o = none := fun o h => hd o (by rw [nS_ne (by omega)] at h; exact h)
  have hz1 : nS (nS s 0 0 0) 0 0 1 = nS s 0 0 1 := by funext a b; unfold nS; grind
  generalize hzz : nS s 0 0 0 = z at *
  rcases liv H0 x with hx | ⟨o, ho, rfl, h4, h11⟩
  · refine St2.mk (th := th) (g' := g) (s' := z) (kx := 0) (a := -1) (by decide) M ?_ (fun u1 M1 => ?_) h00 (LI_up H0 hk)
    · unfold f_X7_set
      rw [co_liv_no H0 C00 hx, bd_s, nl_n]
      exact Go.s ⟨rfl, rfl, C00⟩
    · unfold f_X8_set
      rw [pt_d, mo_liv_no H0 (hM2 u1 M1) hx, bd_s, if_pos rfl]
      exact Go.s ⟨fun _ => rfl, hM2 u1 M1⟩
  · obtain ⟨t, ht, hl⟩ := co_liv (N := N) H0 C00 ho h4 h11
    obtain ⟨h6, h17, _, hvo⟩ := LI_nfo H0 ho h4
    have h29 : ∀ u1, Ms u1 u1 s → Go (f_X8_set_29 N (i3 o) y w (sI u1 0 0 0)) (fun r => (1 = 0 → r.1 = (0 : Int32)) ∧ Ms u1 r.2 (nS s 0 0 1)) := fun u1 M1 => by
      unfold f_X8_set_29 f_X8_set_34
      rw [pt_d, pt_d, show (sI (sI u1 0 0 0) 0 0 1).1 0 0 = 1 from rfl, if_neg (by decide)]
      rw [← hz1]
      exact Go.s ⟨(fun z => by cases z), Ms_0 (hM2 u1 M1) rfl⟩
    by_cases hf : ¬ y < 0 ∧ y < i3 (nfo z o)
    · obtain ⟨f, hfi, rfl⟩ := i3_of hf.1
      have hfn := (i3_lt hfi (by omega)).mp hf.2
      have hi6 : (6 * o + f) / 6 = o := by omega
      have hown := J_own H0 C00 hdz (c := 12) (x := 6 * o + f) (by right; right; exact ⟨rfl, by omega, by rw [hi6]; exact h4⟩)
      have hFo := H0.2.2.2.1 (6 * o + f) (by omega) (by rw [hi6]; exact h4)
      have e6 : 6 * i3 o + i3 f = i3 (6 * o + f) := by rw [i3_mulL, i3_add]
      have hx7 : ∀ r5 : Option Nat, (f_X4_living N w u = some (r5, u)) → (r5 = none → w = -1) → f_X7_set N (i3 o) (i3 f) w u = f_X7_set_58 N (i3 f) t r5 u := fun r5 h1 h2 => by
        unfold f_X7_set
        rw [hl, bd_s, nl_s, co_hasField H0 C00 ho h4 ht, bd_s, if_pos hf, if_neg (by decide), h1, bd_s]
        cases r5 with
        | none => rw [nl_n, if_pos (h2 rfl)]
        | some a => rw [nl_s]
      have hx8 : ∀ u1, Ms u1 u1 s → f_X8_set N (i3 o) (i3 f) w u1 = f_X8_set_34 N (i3 o) (i3 f) w 0 (sI u1 0 0 0) := fun u1 M1 => by
        unfold f_X8_set
        rw [pt_d, mo_liv H0 (hM2 u1 M1) ho h4 h11, bd_s, if_neg (by decide), if_neg hf.1, mo_fieldsOf (hM2 u1 M1).mr ho hvo h17, bd_s, if_pos hf.2]
      have esI : ∀ u1 : Mm, sI (sI u1 0 0 0) 0 0 0 = sI u1 0 0 0 := fun u1 => by
        unfold sI
        congr 1
        funext a b
        by_cases h : a = 0 ∧ b = 0
        · rw [if_pos h, if_pos h]
        · rw [if_neg h]
      have hset : ∀ (v : Nat), w = oI v → v ≤ 80 ∧ (v ≠ 0 → z 4 (v - 1) ≠ 0 ∧ z 11 (v - 1) = 0) → f_X7_set N (i3 o) (i3 f) w u = f_X7_set_58 N (i3 f) t (oT th v) u → (∀ u1, Ms u1 u1 s → f_X8_set N (i3 o) (i3 f) w u1 = f_X8_set_61 N (i3 o) (i3 f) w (sI u1 0 0 0)) → St2 k (f_X7_set N (i3 o) (i3 f) w u) (f_X8_set N (i3 o) (i3 f) w) := fun v hyv hv h7 h8 => by
        have HL := setA_inv (i := 6 * o + f) H0 (by omega) (by rw [hi6]; exact h4) (by rw [hi6]; exact h11) (by rw [show (6 * o + f) % 6 = f by omega, hi6]; exact hfn) hv
        obtain ⟨x0, hx7', _, hxq, _⟩ := C00.cg.2.2 o t ht h4 h11
        have hx0 : x0 = 0 := by
          rcases hxq with q | q
          · exact q
          · exact q.elim
        have ht7 : u.1 t 7 = 0 := by rw [hx7', hx0]; rfl
        have f15 : setA (6 * o + f) v z 0 15 = z 0 15 := by rw [setA_f (by decide) (by decide) (by decide)]
        have f14 : setA (6 * o + f) v z 14 = z 14 := setA_f (by decide) (by decide) (by decide)
        have f20 : setA (6 * o + f) v z 0 20 = z 0 20 := by rw [setA_f (by decide) (by decide) (by decide)]
        have f00 : setA (6 * o + f) v z 0 0 = 0 := by rw [setA_f (by decide) (by decide) (by decide)]; exact h00
        have f4 : setA (6 * o + f) v z 4 = z 4 := setA_f (by decide) (by decide) (by decide)
        have fF : FW (setA (6 * o + f) v z) = FW z := FW_c (setA_f (by decide) (by decide) (by decide))
        have fT : TT (setA (6 * o + f) v z) = TT z := TT_c f4
        have hc1 : ∃ u3, CRr th 0 g (fun _ => False) u u3 (setA (6 * o + f) v z) ∧ f_X7_set N (i3 o) (i3 f) w u = f_X7_set_90 N (oT th (z 12 (6 * o + f))) u3 := by
          rw [h7]
          unfold f_X7_set_58
          rw [i3_bI hfi, decide_eq_true (by omega), ck_t, pt_d, i3_ix hfi, C00.h ht (by omega), ck_t, pt_d]
          have D1 : CR th (z 0 15) (z 14) 0 g (fun _ => False) (FW z) (TT z) u (sR u (t + 1) f (oT th v)) (nS z 12 (6 * o + f) v) := C00.hd ht (by omega) (Or.inr ht7)
          by_cases hv0 : v = 0
          · have e : oT th v = none := by unfold oT; rw [if_pos hv0]
            rw [e] at D1 ⊢
            rw [nl_n]
            refine ⟨_, ?_, rfl⟩
            unfold CRr
            rw [f15, f14, fF, fT]
            have es : setA (6 * o + f) v z = nS z 12 (6 * o + f) v := by unfold setA; rw [if_pos hv0]
            rw [es]
            exact D1
          · have h4v := (hv.2 hv0).1
            have e : oT th v = th (v - 1) := by unfold oT; rw [if_neg hv0]
            have hthv := ((C00.cs (o := v - 1) (by omega)).2 h4v).2
            cases hcv : th (v - 1) with
            | none => exact absurd hcv hthv
            | some t3 =>
              rw [e, hcv] at D1 ⊢
              rw [nl_s]
              have h6v := ((H0.2.1 (v - 1) (by omega)).1 h4v).2.1
              obtain ⟨u3, g1, g2⟩ := co_more (N := N) D1 hcv (by rw [nS_ne (by omega)]; exact h6v)
              refine ⟨u3, ?_, by rw [g1, bv_s]⟩
              unfold CRr
              rw [f15, f14, fF, fT]
              have es : setA (6 * o + f) v z = moreA (v - 1) (nS z 12 (6 * o + f) v) := by unfold setA; rw [if_neg hv0]
              rw [es]
              exact g2
        obtain ⟨u3, D3, h7'⟩ := hc1
        have hm1 : ∀ u1, Ms u1 u1 s → ∃ u4, Ms u1 u4 (setA (6 * o + f) v z) ∧ f_X8_set N (i3 o) (i3 f) w u1 = (if oI (z 12 (6 * o + f)) < 0 then (f_X8_set_113 N (i3 (z 0 20)) u4) else (bv (f_X8_less N (oI (z 12 (6 * o + f))) u4) (fun u => f_X8_set_113 N (i3 (z 0 20)) u))) := fun u1 M1 => by
          rw [h8 u1 M1]
          have M2 := hM2 u1 M1
          have h77 : ∀ (u5 : Mm) (z5 : Sm), Ms u1 u5 z5 → z5 12 = z 12 → nS z5 12 (6 * o + f) v = setA (6 * o + f) v z → ∃ u4, Ms u1 u4 (setA (6 * o + f) v z) ∧ f_X8_set_77 N (i3 o) (i3 f) w (i3 (z 0 20)) u5 = (if oI (z 12 (6 * o + f)) < 0 then (f_X8_set_113 N (i3 (z 0 20)) u4) else (bv (f_X8_less N (oI (z 12 (6 * o + f))) u4) (fun u => f_X8_set_113 N (i3 (z 0 20)) u))) := fun u5 z5 M5 e12 e5 => by
            refine ⟨sI u5 12 (6 * o + f) w, ?_, ?_⟩
            · rw [← e5]
              exact M5.step (M5.mr.set (by simp [nsc] <;> omega) (by rw [hyv]; rfl))
            · unfold f_X8_set_77
              rw [e6, i3_bI (by omega), decide_eq_true (by omega), ck_t, pt_d, i3_ix (by omega), M5.mr.g12 (by omega), e12, ck_t, pt_d]
          unfold f_X8_set_61
          rw [pt_d, M2.mr.g0 (k := 20) (by simp [nsc])]
          by_cases hv0 : v = 0
          · rw [if_pos (show w = -1 by rw [hyv, hv0]; rfl)]
            refine h77 _ z M2 rfl ?_
            unfold setA
            rw [if_pos hv0]
          · have h4v := (hv.2 hv0).1
            have h6v := ((H0.2.1 (v - 1) (by omega)).1 h4v).2.1
            have hw2 : w = i3 (v - 1) := by rw [hyv, oI_p hv0]
            rw [if_neg (show ¬ w = -1 by rw [hw2]; exact i3_ne1 (by omega))]
            obtain ⟨u5, g1, g2⟩ := mo_more (N := N) M2.mr (show v - 1 < 80 by omega) h6v
            have g1' : f_X8_more N w (sI u1 0 0 0) = some u5 := by rw [hw2]; exact g1
            rw [g1', bv_s]
            refine h77 u5 (moreA (v - 1) z) (M2.step g2) ?_ (setA_m hv0)
            unfold moreA blk
            funext j
            rw [nS_ne (by omega), nS_ne (by omega)]
        by_cases hold : z 12 (6 * o + f) = 0
        · rw [if_pos hold] at HL
          refine St2.mk (th := th) (g' := g) (s' := setA (6 * o + f) v z) (kx := 0) (a := 0) (by decide) M ?_ (fun u1 M1 => ?_) f00 (LI_up HL hk)
          · have e : oT th (z 12 (6 * o + f)) = none := by unfold oT; rw [if_pos hold]
            rw [h7', e]
            unfold f_X7_set_90
            rw [nl_n]
            exact Go.s ⟨rfl, rfl, D3⟩
          · obtain ⟨u4, M4, h8'⟩ := hm1 u1 M1
            rw [h8', if_pos ((oI_lt0 (by omega)).mpr hold)]
            unfold f_X8_set_113
            rw [pt_d, M4.mr.g0 (k := 20) (by simp [nsc]), f20, Int32.sub_self]
            exact Go.s ⟨fun _ => rfl, M4⟩
        · rw [if_neg hold] at HL
          have h4o : setA (6 * o + f) v z 4 (z 12 (6 * o + f) - 1) ≠ 0 := by rw [f4]; exact (hFo.2 hold).2
          have h80o : z 12 (6 * o + f) - 1 < 80 := by omega
          obtain ⟨g2, hinv⟩ := lessA_inv HL h80o h4o
          have hthv := hown.2 hold
          have e : oT th (z 12 (6 * o + f)) = th (z 12 (6 * o + f) - 1) := by unfold oT; rw [if_neg hold]
          cases hcv : th (z 12 (6 * o + f) - 1) with
          | none => exact absurd hcv hthv
          | some t3 =>
            obtain ⟨⟨a, u6⟩, l1, l2, g', l3⟩ := co_less hN HL D3 hcv h80o h4o
            rw [f20] at l2
            have hl00 : lessA (z 12 (6 * o + f) - 1) (setA (6 * o + f) v z) 0 0 = 0 := by
              rw [lessA_z, f00]
            refine St2.mk (th := th) (g' := g') (s' := lessA (z 12 (6 * o + f) - 1) (setA (6 * o + f) v z)) (kx := 0) (a := i3 (lessA (z 12 (6 * o + f) - 1) (setA (6 * o + f) v z) 0 20) - i3 (z 0 20)) (by decide) M ?_ (fun u1 M1 => ?_) hl00 (LI_up hinv hk)
            · rw [h7', e, hcv]
              unfold f_X7_set_90
              rw [nl_s, l1, bd_s]
              exact Go.s ⟨rfl, l2, l3⟩
            · obtain ⟨u4, M4, h8'⟩ := hm1 u1 M1
              rw [h8', if_neg (fun y => hold ((oI_lt0 (by omega)).mp y)), oI_p hold]
              refine Go.bv (mo_less hN HL M4 h80o h4o) (fun u7 M7 => ?_)
              unfold f_X8_set_113
              rw [pt_d, M7.mr.g0 (k := 20) (by simp [nsc])]
              exact Go.s ⟨fun _ => rfl, M7⟩
      rcases liv H0 w with hy | ⟨h, hh, rfl, h4h, h11h⟩
      · by_cases hw1 : w = -1
        · refine hset 0 hw1 ⟨by omega, fun h => absurd rfl h⟩ (by rw [hx7 none (co_liv_no H0 C00 hy) (fun _ => hw1)]; rfl) (fun u1 M1 => ?_)
          rw [hx8 u1 M1]
          unfold f_X8_set_34
          rw [pt_d, esI, pt_d, show (sI u1 0 0 0).1 0 0 = 0 from rfl, if_pos (by decide), if_pos hw1]
        · refine St2.mk (th := th) (g' := g) (s' := z) (kx := 0) (a := -1) (by decide) M ?_ (fun u1 M1 => ?_) h00 (LI_up H0 hk)
          · unfold f_X7_set
            rw [hl, bd_s, nl_s, co_hasField H0 C00 ho h4 ht, bd_s, if_pos hf, if_neg (by decide), co_liv_no H0 C00 hy, bd_s, nl_n, if_neg hw1]
            exact Go.s ⟨rfl, rfl, C00⟩
          · rw [hx8 u1 M1]
            unfold f_X8_set_34
            rw [pt_d, esI, pt_d, show (sI u1 0 0 0).1 0 0 = 0 from rfl, if_pos (by decide), if_neg hw1, mo_liv_no H0 (hM2 u1 M1) hy, bd_s, if_pos rfl]
            exact Go.s ⟨fun _ => rfl, hM2 u1 M1⟩
      · obtain ⟨t3, ht3, hl3⟩ := co_liv (N := N) H0 C00 hh h4h h11h
        refine hset (h + 1) rfl ⟨by omega, fun _ => by rw [show h + 1 - 1 = h by omega]; exact ⟨h4h, h11h⟩⟩ ?_ (fun u1 M1 => ?_)
        · rw [hx7 (some t3) hl3 (fun q => by cases q)]
          have e : oT th (h + 1) = some t3 := by unfold oT; rw [if_neg (by omega)]; exact ht3
          rw [e]
        · rw [hx8 u1 M1]
          unfold f_X8_set_34
          rw [pt_d, esI, pt_d, show (sI u1 0 0 0).1 0 0 = 0 from rfl, if_pos (by decide), if_neg (i3_ne1 (by omega)), mo_liv H0 (hM2 u1 M1) hh h4h h11h, bd_s, if_neg (by decide)]
    · refine St2.ex (kx := 1) (a := 0) (by decide) hk H C M ⟨false, ?_⟩ (fun u1 M1 => ?_)
      · unfold f_X7_set
        rw [hl, bd_s, nl_s, co_hasField H0 C00 ho h4 ht, bd_s, if_neg hf, if_pos rfl]
      · unfold f_X8_set
        rw [pt_d, mo_liv H0 (hM2 u1 M1) ho h4 h11, bd_s, if_neg (by decide)]
        by_cases h0 : y < 0
        · rw [if_pos h0]; exact h29 u1 M1
        · rw [if_neg h0, mo_fieldsOf (hM2 u1 M1).mr ho hvo h17, bd_s, if_neg (fun b => hf ⟨h0, b⟩)]
          exact h29 u1 M1
end SWT

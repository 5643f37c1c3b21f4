def fxd (s s' : Sm) : Prop := ∀ c k, c = 1 ∨ c = 2 ∨ c = 3 ∨ (c = 0 ∧ k = 0) → s' c k = s c k
section FXD
variable {s s' : Sm} {c k v o root : Nat} {l0 : Nat → Nat}
theorem fxd.rf : fxd s s := fun _ _ _ => rfl
theorem fxd.t {a b d : Sm} (h1 : fxd a b) (h2 : fxd b d) : fxd a d := fun c k h => (h2 c k h).trans (h1 c k h)
theorem fx_nS (h : ¬ (c = 1 ∨ c = 2 ∨ c = 3 ∨ (c = 0 ∧ k = 0))) : fxd s (nS s c k v) := fun a b q => nS_ne (fun z => h (by rw [← z.1, ← z.2]; exact q))
theorem fx_56 (h : same56 s s') : fxd s s' := fun c k q => h c k (by omega) (by omega) (by omega)
theorem fx_free : fxd s (freeA o s) := fun c k q => by
  unfold freeA
  rw [if_neg (by omega), if_neg (by omega), if_neg (by omega), if_neg (by omega), if_neg (by omega), if_neg (by omega)]
theorem fx_blk : fxd s (blk o s) := fx_nS (by omega)
theorem fx_fin : fxd s (finA o s) := by
  unfold finA
  split
  · exact fx_blk.t fx_free
  · exact fx_blk.t (fx_nS (by omega))
theorem fx_tell : fxd s (tellA o s) := ((fx_nS (by omega)).t (fx_nS (by omega))).t (fx_nS (by omega))
theorem fx_dec : fxd s (decA o s) := fx_nS (by omega)
theorem fx_wsh : fxd s (wshA o s) := (fx_tell.t (fx_nS (by omega))).t fx_blk
theorem fx_susp : fxd s (suspA o s) := by
  unfold suspA
  split
  · exact fxd.rf
  · split
    · exact (((fx_nS (by omega)).t (fx_nS (by omega))).t (fx_nS (by omega))).t (fx_nS (by omega))
    · exact fx_nS (by omega)
theorem fx_low : fxd s (lowA o s) := by
  unfold lowA
  split
  · split
    · exact fx_dec.t fx_wsh
    · exact fx_dec
  · exact fx_dec.t fx_susp
theorem fx_lessG : fxd s (lessG o s) := by
  unfold lessG
  split
  · exact fx_low.t fx_fin
  · exact fx_low
theorem fx_gE {i : Nat} : fxd s (gE i s) := by
  unfold gE
  split
  · exact fx_lessG
  · exact fxd.rf
theorem fx_gF {p : Nat} : ∀ (d f : Nat) (s : Sm), fxd s (gF p d f s)
  | 0, _, _ => fxd.rf
  | d + 1, f, s => fx_gE.t (fx_gF d (f + 1) _)
theorem fx_gAt {w : Nat} : fxd s (gAt w s) := by
  unfold gAt
  split
  · exact (fx_gF 6 0 s).t fx_free
  · exact fxd.rf
theorem fx_gRun : ∀ (d w : Nat) (s : Sm), fxd s (gRun d w s)
  | 0, _, _ => fxd.rf
  | d + 1, w, s => fx_gAt.t (fx_gRun d (w + 1) _)
theorem fx_empt : fxd s (emptA s) := fun c k q => by
  unfold emptA
  rw [if_neg (by omega), if_neg (by omega)]
theorem fx_wAt {w : Nat} : fxd s (wAt w s) := by
  unfold wAt
  split
  · exact (fx_tell.t (fx_nS (by omega))).t (fx_56 (trav_same true))
  · exact fxd.rf
theorem fx_wRun : ∀ (d w : Nat) (s : Sm), fxd s (wRun d w s)
  | 0, _, _ => fxd.rf
  | d + 1, w, s => fx_wAt.t (fx_wRun d (w + 1) _)
theorem fx_sRun : ∀ (d k : Nat) (s : Sm), fxd s (sRun l0 d k s)
  | 0, _, _ => fxd.rf
  | d + 1, k, s => by
    refine fxd.t ?_ (fx_sRun d (k + 1) _)
    split
    · exact fx_56 scan_same
    · exact fxd.rf
theorem fx_mstep : fxd s (mstep o s) := by
  unfold mstep
  split
  · exact (fx_nS (by omega)).t fx_free
  · split
    · exact fx_nS (by omega)
    · exact ((fx_56 (trav_same false)).t (fx_nS (by omega))).t (fx_nS (by omega))
theorem fx_mRun : ∀ (d k : Nat) (s : Sm), fxd s (mRun l0 d k s)
  | 0, _, _ => fxd.rf
  | d + 1, k, s => fx_mstep.t (fx_mRun d (k + 1) _)
theorem fx_col : fxd s (colA s) := by
  unfold colA
  exact (((((fx_nS (by omega)).t (fx_nS (by omega))).t (fx_mRun _ _ _)).t (fx_sRun _ _ _)).t (fx_wRun _ _ _)).t (fx_empt.t (fx_gRun _ _ _))
theorem fx_pack : fxd s (packA (nS s 0 22 (s 0 22 + 1))) := fun c k q => by
  rw [packA_f (by omega) (by omega), nS_ne (by omega)]
end FXD
def okA (y : Nat) (z : Sm) : Prop := nmF 80 0 z ≠ 0 ∧ gpF (z 2 y) 400 0 0 z ≠ 0
noncomputable def plA (y : Nat) (z : Sm) : Sm := if nmF 80 0 z ≠ 0 ∧ gpF (z 2 y) 400 0 0 z ≠ 0 then mkA (nmF 80 0 z - 1) y (gpF (z 2 y) 400 0 0 z - 1) z else z
noncomputable def ansA (y : Nat) (z : Sm) : Int32 := if nmF 80 0 z ≠ 0 ∧ gpF (z 2 y) 400 0 0 z ≠ 0 then i3 (nmF 80 0 z - 1) else -2
section MKH
variable {n k y a b c o t sz N : Nat} {g : Nat → Nat} {r u u1 : Mm} {z w : Sm}
theorem clF_0 : clF o 0 z = z := by
  funext c k
  unfold clF
  rw [if_neg (by omega)]
theorem owF_0 {v : Nat} : owF a 0 v z = z := by
  funext c k
  unfold owF
  rw [if_neg (by omega)]
theorem mkA_of : owF a (z 2 y) (o + 1) (clF o 6 (nS (nS (nS (nS (nS (nS (nS (nS z 4 o (y + 1)) 5 o 1) 8 o 1) 6 o (if z 1 y = 1 then 4 else 0)) 7 o a) 9 o 0) 10 o 0) 11 o 0)) = mkA o y a z := by
  funext c k
  have e : (6 * o ≤ k ∧ k < 6 * o + 6) ↔ k / 6 = o := by omega
  unfold owF clF nS mkA
  simp only [e]
  grind (splits := 40)
theorem mo_156 (hN : 5000 ≤ N) (M : MR r u w) (ho : o < 80) (ha : a + sz ≤ 400) : Go (f_X8_make_156 N (i3 sz) (i3 o) (i3 a) (i3 c) (i3 o) u) (fun x => x.1 = i3 o ∧ MR r x.2 (owF a sz (o + 1) (clF o 6 (nS (nS (nS (nS (nS w 6 o c) 7 o a) 9 o 0) 10 o 0) 11 o 0)))) := by
  have hb : bI (i3 o) 80 = true := by rw [i3_bI (by omega), decide_eq_true ho]
  have hv : vp_nar .boolean 0 = 0 := by decide
  have M5 := ((((M.set (c := 6) (k := o) (v := c) (w := i3 c) ho rfl).set (c := 7) (k := o) (v := a) (w := i3 a) ho rfl).set (c := 9) (k := o) (v := 0) (w := 0) ho rfl).set (c := 10) (k := o) (v := 0) (w := 0) ho rfl).set (c := 11) (k := o) (v := 0) (w := 0) ho rfl
  unfold f_X8_make_156
  rw [hb, ck_t, i3_ix (by omega), pt_d, ck_t, pt_d, ck_t, hv, pt_d, ck_t, pt_d, ck_t, pt_d]
  obtain ⟨u', h1, h2⟩ := mo_189 (sz := sz) (a := a) (N := N) ho 6 0 N _ (by rw [clF_0]; exact M5) rfl (by omega)
  have h2 : f_X8_make_189 N N (i3 sz) (i3 o) (i3 a) 0 _ = _ := h2
  rw [h2]
  exact mo_218 (N := N) ho ha sz 0 N u' (by rw [owF_0]; exact h1) (by omega) (by omega)
theorem LI_4 (H : LI n d0 0 g z) : ∀ o, o < 80 → z 4 o ≤ 10 := fun o ho => by
  by_cases e : z 4 o = 0
  · omega
  · exact ((H.2.1 o ho).1 e).1.2.1
theorem LI_13 (H : LI n d0 0 g z) : ∀ x, x < 400 → z 13 x ≤ 80 := fun x hx => (H.2.2.2.2.2.2.2.1 x hx).1
theorem LI_sz (H : LI n d0 0 g z) (hy : y < 10) (h1 : z 1 y ≠ 0) : 1 ≤ z 2 y ∧ z 2 y ≤ 68 := by
  have := (H.1 y hy).2.2 h1
  omega
theorem mo_gap (hN : 5000 ≤ N) (H : LI n d0 0 g z) (M : Ms r u z) (hy : y < 10) (h1 : z 1 y ≠ 0) : f_X8_place N (i3 (z 2 y)) u = some (oI (gpF (z 2 y) 400 0 0 z), u) :=
  mo_gpF M.mr (LI_13 H) (LI_sz H hy h1) 400 0 0 N rfl (by have := (LI_sz H hy h1).1; omega) (by omega) (by omega)
theorem gp_lt (H : LI n d0 0 g z) : gpF (z 2 y) 400 0 0 z < 2147483648 := by
  have := gpF_le (z := z) (sz := z 2 y) 400 0 0
  omega
theorem nm_lt : nmF 80 0 z < 2147483648 := by
  have := nmF_le (z := z) 80 0
  omega
theorem mo_mk (hN : 5000 ≤ N) (H : LI n d0 0 g z) (M : Ms r u z) (hy : y < 10) (h1 : z 1 y ≠ 0) : Go (f_X8_make_92 N (i3 y) (i3 (z 2 y)) u) (fun x => x.1 = ansA y z ∧ Ms r x.2 (plA y z)) := by
  have hz := LI_sz H hy h1
  have hl1 := gp_lt (y := y) H
  have hl2 := nm_lt (z := z)
  have hy7 := (H.1 y hy).1
  unfold f_X8_make_92
  rw [mo_least M.mr (LI_4 H) hN, bd_s, mo_gap hN H M hy h1, bd_s]
  unfold ansA plA
  by_cases hm : nmF 80 0 z = 0
  · rw [if_pos ((oI_lt0 hl2).mpr hm), if_neg (fun q => q.1 hm), if_neg (fun q => q.1 hm)]
    exact Go.s ⟨rfl, M⟩
  · rw [if_neg (fun q => hm ((oI_lt0 hl2).mp q))]
    by_cases hg : gpF (z 2 y) 400 0 0 z = 0
    · rw [if_neg (fun q => (oI_ge0 hl1).mp q hg), if_neg (fun q => q.2 hg), if_neg (fun q => q.2 hg)]
      exact Go.s ⟨rfl, M⟩
    · rw [if_pos ((oI_ge0 hl1).mpr hg), if_pos ⟨hm, hg⟩, if_pos ⟨hm, hg⟩, oI_p hm, oI_p hg]
      have hn := nmF_ok (z := z) 80 0 hm
      have hgo := gpF_ok (z := z) hz.1 400 0 0 (by omega) (fun x a b => by omega) hg
      have ho : nmF 80 0 z - 1 < 80 := by omega
      generalize nmF 80 0 z - 1 = o at *
      generalize gpF (z 2 y) 400 0 0 z - 1 = a at *
      have hb : bI (i3 o) 80 = true := by rw [i3_bI (by omega), decide_eq_true ho]
      have M3 := ((M.mr.set (c := 4) (k := o) (v := y + 1) (w := i3 y) ho rfl).set (c := 5) (k := o) (v := 1) (w := 1) ho rfl).set (c := 8) (k := o) (v := 1) (w := 1) ho rfl
      have g1 := M3.g1 hy
      rw [nS_ne (by omega), nS_ne (by omega), nS_ne (by omega)] at g1
      rw [hb, ck_t, i3_ix (by omega), pt_d, ck_t, pt_d, ck_t, pt_d, i3_bI (by omega), decide_eq_true hy, ck_t, i3_ix (by omega), g1, pt_d]
      have hq : oI (z 1 y) = 0 ↔ z 1 y = 1 := oI_eqi (b := 0) (by omega) (by omega)
      have fin : Go (f_X8_make_156 N (i3 (z 2 y)) (i3 o) (i3 a) (i3 (if z 1 y = 1 then 4 else 0)) (i3 o) (sI (sI (sI u 4 o (i3 y)) 5 o 1) 8 o 1)) (fun x => x.1 = i3 o ∧ Ms r x.2 (mkA o y a z)) := by
        refine Go.mono (mo_156 hN M3 ho (by omega)) (fun x hx => ⟨hx.1, ?_⟩)
        have := hx.2
        rw [mkA_of] at this
        exact M.step this
      by_cases hc : z 1 y = 1
      · rw [if_pos hc] at fin
        rw [if_pos (hq.mpr hc)]
        exact fin
      · rw [if_neg hc] at fin
        rw [if_neg (fun q => hc (hq.mp q))]
        exact fin
end MKH

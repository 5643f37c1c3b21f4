def iK (s : Sm) : Prop := ∀ y, y < 10 → s 1 y ≤ 7 ∧ s 3 y ≤ 1 ∧ (s 1 y ≠ 0 → s 1 y + 1 ≤ s 2 y ∧ s 2 y ≤ 68)
def iT (s : Sm) : Prop := ∀ o, o < 80 → (s 4 o ≠ 0 → vo s o ∧ s 6 o ≤ 4 ∧ s 9 o ≤ 1 ∧ s 10 o ≤ 1 ∧ s 11 o ≤ 1 ∧ (s 6 o = 4 ↔ nfo s o = 0) ∧ (s 6 o = 3 → s 9 o = 1) ∧ (s 11 o = 1 → s 9 o = 1 ∧ s 5 o = 0 ∧ ∀ f, f < 6 → s 12 (6 * o + f) = 0) ∧ (s 9 o = 1 → s 6 o ≠ 4)) ∧ (s 4 o = 0 → s 9 o = 0 ∧ s 11 o = 0)
def iG (s : Sm) : Prop := ∀ o, o < 80 → s 4 o ≠ 0 → geo s o
def iF (s : Sm) : Prop := ∀ i, i < 480 → s 4 (i / 6) ≠ 0 → s 12 i ≤ 80 ∧ (s 12 i ≠ 0 → i % 6 < nfo s (i / 6) ∧ s 4 (s 12 i - 1) ≠ 0)
def eT (s : Sm) (o : Nat) : Nat := cnt 480 (fun i => decide (s 4 (i / 6) ≠ 0) && (s 12 i == o + 1))
def wT (s : Sm) (o : Nat) : Nat := cnt (s 0 17) (fun j => s 16 j == o)
def iR (d : Nat → Nat) (s : Sm) : Prop := ∀ o, o < 80 → s 4 o ≠ 0 → s 5 o = eT s o + s 8 o + wT s o + d o
def iL (s : Sm) : Prop := s 0 15 = cnt 80 (fun o => s 9 o == 1) ∧ ∀ j, j < s 0 15 → s 14 j < 80 ∧ s 9 (s 14 j) = 1 ∧ ∀ i, i < j → s 14 i ≠ s 14 j
def iW (s : Sm) : Prop := s 0 17 ≤ 80 ∧ ∀ j, j < s 0 17 → s 16 j < 80 ∧ s 4 (s 16 j) ≠ 0 ∧ s 10 (s 16 j) = 1 ∧ ∀ i, i < j → s 16 i ≠ s 16 j
def iO (s : Sm) : Prop := ∀ w, w < 400 → s 13 w ≤ 80 ∧ (s 13 w ≠ 0 → s 4 (s 13 w - 1) ≠ 0)
def iX (s : Sm) : Prop := ∀ w, w < 20 → s 18 w ≤ 80 ∧ (s 18 w ≠ 0 → s 4 (s 18 w - 1) ≠ 0)
def TT (s : Sm) : Nat := cnt 80 (fun o => decide (s 4 o ≠ 0))
def FW (s : Sm) : Nat := cnt 400 (fun w => s 13 w == 0)
def iB (n : Nat) (s : Sm) : Prop := (∀ o, o < 80 → s 4 o ≠ 0 → s 8 o ≤ n) ∧ s 0 20 + TT s ≤ n ∧ n ≤ 1000
def iC (s : Sm) : Prop := ∀ o, o < 80 → s 4 o ≠ 0 → s 6 o = 0 ∨ s 6 o = 3 ∨ s 6 o = 4
def iS (s : Sm) (m : Nat) (g : Nat → Nat) : Prop := (∀ j, j < m → g j < 80 ∧ s 4 (g j) ≠ 0 ∧ s 11 (g j) = 0 ∧ s 5 (g j) = 0 ∧ ∀ i, i < j → g i ≠ g j) ∧ ∀ o, o < 80 → s 4 o ≠ 0 → s 11 o = 0 → s 5 o = 0 → ∃ j, j < m ∧ g j = o
def LI (n : Nat) (d : Nat → Nat) (m : Nat) (g : Nat → Nat) (s : Sm) : Prop := iK s ∧ iT s ∧ iG s ∧ iF s ∧ iR d s ∧ iL s ∧ iW s ∧ iO s ∧ iX s ∧ iB n s ∧ iC s ∧ iS s m g
abbrev d0 : Nat → Nat := fun _ => 0
def d1 (h : Nat) : Nat → Nat := fun o => if o = h then 1 else 0
section INV
variable {s s' : Sm} {n m h o : Nat} {d : Nat → Nat} {g : Nat → Nat}
theorem iK_c (h1 : s' 1 = s 1) (h2 : s' 2 = s 2) (h3 : s' 3 = s 3) (H : iK s) : iK s' := by unfold iK at *; rw [h1, h2, h3]; exact H
theorem iG_c (h2 : s' 2 = s 2) (h4 : s' 4 = s 4) (h7 : s' 7 = s 7) (h13 : s' 13 = s 13) (H : iG s) : iG s' := by unfold iG geo szo at *; rw [h2, h4, h7, h13]; exact H
theorem iF_c (h1 : s' 1 = s 1) (h4 : s' 4 = s 4) (h12 : s' 12 = s 12) (H : iF s) : iF s' := by unfold iF nfo at *; rw [h1, h4, h12]; exact H
theorem eT_c (h4 : s' 4 = s 4) (h12 : s' 12 = s 12) : eT s' o = eT s o := by unfold eT; rw [h4, h12]
theorem iO_c (h4 : s' 4 = s 4) (h13 : s' 13 = s 13) (H : iO s) : iO s' := by unfold iO at *; rw [h4, h13]; exact H
theorem iX_c (h4 : s' 4 = s 4) (h18 : s' 18 = s 18) (H : iX s) : iX s' := by unfold iX at *; rw [h4, h18]; exact H
theorem TT_c (h4 : s' 4 = s 4) : TT s' = TT s := by unfold TT; rw [h4]
theorem FW_c (h13 : s' 13 = s 13) : FW s' = FW s := by unfold FW; rw [h13]
theorem iB_c (h4 : s' 4 = s 4) (h8 : s' 8 = s 8) (h20 : s' 0 20 = s 0 20) (H : iB n s) : iB n s' := by unfold iB at *; rw [TT_c h4, h4, h8, h20]; exact H
theorem iL_lt (H : iL s) (ho : o < 80) (h9 : s 9 o = 0) : s 0 15 < 80 := by
  rw [H.1]
  exact cnt_lt ho (by rw [h9]; rfl)
theorem iW_lt (H : iW s) (ho : o < 80) (h10 : s 10 o = 0) : s 0 17 < 80 := by
  have h1 : cnt (s 0 17) (fun _ => true) ≤ cnt 80 (fun p => s 10 p == 1) := cnt_inj (fun j => s 16 j) (fun j hj _ => ⟨(H.2 j hj).1, by simp [(H.2 j hj).2.2.1]⟩) (fun i j hi hj _ _ e => by
    rcases Nat.lt_trichotomy i j with q | q | q
    · exact absurd e ((H.2 j hj).2.2.2 i q)
    · exact q
    · exact absurd e.symm ((H.2 i hi).2.2.2 j q))
  have h2 : cnt 80 (fun p => s 10 p == 1) < 80 := cnt_lt ho (by rw [h10]; rfl)
  have h3 : ∀ k, cnt k (fun _ => true) = k := fun k => by
    induction k with
    | zero => rfl
    | succ k ih => simp only [cnt, ih, if_true]
  rw [h3] at h1
  omega
theorem cnt_bd {p : Nat → Bool} : cnt 480 p ≤ 480 := cnt_le
theorem iR_bd (H : iR d s) (HB : iB n s) (HW : iW s) (hd : d o ≤ 1) (ho : o < 80) (h4 : s 4 o ≠ 0) : s 5 o < 2000000000 := by
  have h1 := H o ho h4
  have h2 : eT s o ≤ 480 := cnt_le
  have h3 : wT s o ≤ s 0 17 := cnt_le
  have h5 := HB.1 o ho h4
  have h6 := HB.2.2
  have h7 := HW.1
  omega
end INV
section LOW
variable {s : Sm} {n m h : Nat} {g : Nat → Nat}
def psh (h : Nat) (s : Sm) (m : Nat) : Nat := if s 5 h ≤ 1 ∧ ¬ (s 3 (s 4 h - 1) = 1 ∧ s 10 h = 0) then m + 1 else m
def pshg (h m : Nat) (g : Nat → Nat) : Nat → Nat := fun j => if j = m then h else g j
theorem low_inv (H : LI n (d1 h) m g s) (hh : h < 80) (h4 : s 4 h ≠ 0) : LI n d0 (psh h s m) (pshg h m g) (lowA h s) := by
  obtain ⟨hK, hT, hG, hF, hR, hL, hW, hO, hX, hB, hC, hS⟩ := H
  have r5 := hR h hh h4
  have hd : d1 h h = 1 := if_pos rfl
  rw [hd] at r5
  have hd2 : ∀ o, o ≠ h → d1 h o = 0 := fun o ho => if_neg ho
  have hTh := (hT h hh).1 h4
  have hlt := iL_lt hL hh
  have hwt := iW_lt hW hh
  unfold lowA psh
  by_cases hz : s 5 h ≤ 1
  · rw [if_pos hz]
    have e0 : eT s h = 0 := by omega
    have w0 : wT s h = 0 := by omega
    by_cases hwh : s 3 (s 4 h - 1) = 1 ∧ s 10 h = 0
    · rw [if_pos hwh, if_neg (fun q => q.2 hwh)]
      generalize hs : wshA h (decA h s) = s'
      have f : s' = nS (nS (nS (nS (nS (nS s 5 h (s 5 h - 1)) 10 h 1) 16 (s 0 17) h) 0 17 (s 0 17 + 1)) 5 h 1) 6 h (if s 6 h = 4 then 4 else 0) := by
        rw [← hs]; unfold wshA blk tellA decA; simp [nS]
      have c1 : s' 1 = s 1 := by rw [f]; funext j; simp [nS]
      have c2 : s' 2 = s 2 := by rw [f]; funext j; simp [nS]
      have c3 : s' 3 = s 3 := by rw [f]; funext j; simp [nS]
      have c4 : s' 4 = s 4 := by rw [f]; funext j; simp [nS]
      have c7 : s' 7 = s 7 := by rw [f]; funext j; simp [nS]
      have c8 : s' 8 = s 8 := by rw [f]; funext j; simp [nS]
      have c9 : s' 9 = s 9 := by rw [f]; funext j; simp [nS]
      have c11 : s' 11 = s 11 := by rw [f]; funext j; simp [nS]
      have c12 : s' 12 = s 12 := by rw [f]; funext j; simp [nS]
      have c13 : s' 13 = s 13 := by rw [f]; funext j; simp [nS]
      have c14 : s' 14 = s 14 := by rw [f]; funext j; simp [nS]
      have c18 : s' 18 = s 18 := by rw [f]; funext j; simp [nS]
      have c15 : s' 0 15 = s 0 15 := by rw [f]; simp [nS]
      have c17 : s' 0 17 = s 0 17 + 1 := by rw [f]; simp [nS]
      have c20 : s' 0 20 = s 0 20 := by rw [f]; simp [nS]
      have c5 : ∀ o, o ≠ h → s' 5 o = s 5 o := fun o ho => by rw [f]; simp [nS, ho]
      have c5h : s' 5 h = 1 := by rw [f]; simp [nS]
      have c6 : ∀ o, o ≠ h → s' 6 o = s 6 o := fun o ho => by rw [f]; simp [nS, ho]
      have c6h : s' 6 h = if s 6 h = 4 then 4 else 0 := by rw [f]; simp [nS]
      have c10 : ∀ o, o ≠ h → s' 10 o = s 10 o := fun o ho => by rw [f]; simp [nS, ho]
      have c10h : s' 10 h = 1 := by rw [f]; simp [nS]
      have c16 : ∀ j, j ≠ s 0 17 → s' 16 j = s 16 j := fun j hj => by rw [f]; simp [nS, hj]
      have c16h : s' 16 (s 0 17) = h := by rw [f]; simp [nS]
      clear hs f
      have wx : ∀ o, wT s' o = wT s o + (if o = h then 1 else 0) := fun o => by
        unfold wT
        rw [c17]
        show cnt (s 0 17) _ + _ = _
        have e1 : cnt (s 0 17) (fun j => s' 16 j == o) = cnt (s 0 17) (fun j => s 16 j == o) := cnt_congr (fun j hj => by rw [c16 j (by omega)])
        simp only [e1, c16h]
        by_cases q : o = h
        · subst q; simp
        · simp [q, Ne.symm q]
      refine ⟨iK_c c1 c2 c3 hK, ?_, iG_c c2 c4 c7 c13 hG, iF_c c1 c4 c12 hF, ?_, ?_, ?_, iO_c c4 c13 hO, iX_c c4 c18 hX, iB_c c4 c8 c20 hB, ?_, ?_⟩
      · intro o ho
        have := hT o ho
        unfold vo nfo at *
        by_cases q : o = h
        · subst q
          rw [c4, c1, c6h, c9, c10h, c11, c5h, c12]
          grind
        · rw [c4, c1, c6 o q, c9, c10 o q, c11, c5 o q, c12]
          exact this
      · intro o ho h4o
        rw [c4] at h4o
        rw [eT_c c4 c12, wx, c8]
        have := hR o ho h4o
        by_cases q : o = h
        · subst q; rw [c5h, if_pos rfl]; simp only [d0]; omega
        · rw [c5 o q, if_neg q]; rw [hd2 o q] at this; exact this
      · unfold iL at *; rw [c15, c9, c14]; exact hL
      · have hw80 := hwt hwh.2
        refine ⟨by rw [c17]; omega, fun j hj => ?_⟩
        rw [c17] at hj
        by_cases q : j = s 0 17
        · subst q
          rw [c16h, c4, c10h]
          refine ⟨hh, h4, rfl, fun i hi => ?_⟩
          rw [c16 i (by omega)]
          intro e
          have := (hW.2 i hi).2.2.1
          rw [e] at this
          omega
        · have hj2 : j < s 0 17 := by omega
          have h5 := hW.2 j hj2
          rw [c16 j q, c4]
          refine ⟨h5.1, h5.2.1, ?_, fun i hi => ?_⟩
          · by_cases e : s 16 j = h
            · rw [e, c10h]
            · rw [c10 _ e]; exact h5.2.2.1
          · rw [c16 i (by omega)]; exact h5.2.2.2 i hi
      · intro o ho h4o
        rw [c4] at h4o
        by_cases q : o = h
        · subst q; rw [c6h]; grind
        · rw [c6 o q]; exact hC o ho h4o
      · refine ⟨fun j hj => ?_, fun o ho h4o h11 h5o => ?_⟩
        · have h5 := hS.1 j hj
          have hne : g j ≠ h := fun e => by rw [e] at h5; omega
          unfold pshg
          rw [if_neg (by omega), c4, c11, c5 _ hne]
          refine ⟨h5.1, h5.2.1, h5.2.2.1, h5.2.2.2.1, fun i hi => ?_⟩
          rw [if_neg (by omega)]
          exact h5.2.2.2.2 i hi
        · rw [c4] at h4o
          rw [c11] at h11
          by_cases q : o = h
          · subst q; rw [c5h] at h5o; cases h5o
          · rw [c5 o q] at h5o
            obtain ⟨j, hj, e⟩ := hS.2 o ho h4o h11 h5o
            exact ⟨j, hj, by unfold pshg; rw [if_neg (by omega)]; exact e⟩
    · skip
      rw [if_neg hwh, if_pos ⟨hz, hwh⟩]
      generalize hs : decA h s = s'
      have f : s' = nS s 5 h (s 5 h - 1) := hs.symm
      have c1 : s' 1 = s 1 := by rw [f]; funext j; simp [nS]
      have c2 : s' 2 = s 2 := by rw [f]; funext j; simp [nS]
      have c3 : s' 3 = s 3 := by rw [f]; funext j; simp [nS]
      have c4 : s' 4 = s 4 := by rw [f]; funext j; simp [nS]
      have c6 : s' 6 = s 6 := by rw [f]; funext j; simp [nS]
      have c7 : s' 7 = s 7 := by rw [f]; funext j; simp [nS]
      have c8 : s' 8 = s 8 := by rw [f]; funext j; simp [nS]
      have c9 : s' 9 = s 9 := by rw [f]; funext j; simp [nS]
      have c10 : s' 10 = s 10 := by rw [f]; funext j; simp [nS]
      have c11 : s' 11 = s 11 := by rw [f]; funext j; simp [nS]
      have c12 : s' 12 = s 12 := by rw [f]; funext j; simp [nS]
      have c13 : s' 13 = s 13 := by rw [f]; funext j; simp [nS]
      have c14 : s' 14 = s 14 := by rw [f]; funext j; simp [nS]
      have c16 : s' 16 = s 16 := by rw [f]; funext j; simp [nS]
      have c18 : s' 18 = s 18 := by rw [f]; funext j; simp [nS]
      have z15 : s' 0 15 = s 0 15 := by rw [f]; simp [nS]
      have z17 : s' 0 17 = s 0 17 := by rw [f]; simp [nS]
      have z20 : s' 0 20 = s 0 20 := by rw [f]; simp [nS]
      have c5 : ∀ o, o ≠ h → s' 5 o = s 5 o := fun o ho => by rw [f]; simp [nS, ho]
      have c5h : s' 5 h = 0 := by rw [f]; simp [nS]; omega
      clear f
      have wx : ∀ o, wT s' o = wT s o := fun o => by unfold wT; rw [z17, c16]
      refine ⟨iK_c c1 c2 c3 hK, ?_, iG_c c2 c4 c7 c13 hG, iF_c c1 c4 c12 hF, ?_, ?_, ?_, iO_c c4 c13 hO, iX_c c4 c18 hX, iB_c c4 c8 z20 hB, ?_, ?_⟩
      · intro o ho
        have := hT o ho
        unfold vo nfo at *
        by_cases q : o = h
        · subst q
          rw [c4, c1, c6, c9, c10, c11, c5h, c12]
          grind
        · rw [c4, c1, c6, c9, c10, c11, c5 o q, c12]
          exact this
      · intro o ho h4o
        rw [c4] at h4o
        rw [eT_c c4 c12, wx, c8]
        have := hR o ho h4o
        by_cases q : o = h
        · subst q; rw [c5h]; simp only [d0]; omega
        · rw [c5 o q]; rw [hd2 o q] at this; exact this
      · unfold iL at *; rw [z15, c9, c14]; exact hL
      · unfold iW at *; rw [z17, c16, c4, c10]; exact hW
      · unfold iC at *; rw [c4, c6]; exact hC
      · refine ⟨fun j hj => ?_, fun o ho h4o h11 h5o => ?_⟩
        · unfold pshg
          rw [c4, c11]
          by_cases q : j = m
          · subst q
            rw [if_pos rfl, c5h]
            refine ⟨hh, h4, ?_, rfl, fun i hi => ?_⟩
            · apply Classical.byContradiction
              intro hc
              have h11 : s 11 h = 1 := by have := hTh.2.2.2.2.1; omega
              have := (hTh.2.2.2.2.2.2.2.1 h11).2.1
              omega
            · rw [if_neg (by omega)]
              intro e
              have := (hS.1 i hi).2.2.2.1
              rw [e] at this
              omega
          · have h5 := hS.1 j (by omega)
            have hne : g j ≠ h := fun e => by rw [e] at h5; omega
            rw [if_neg q, c5 _ hne]
            refine ⟨h5.1, h5.2.1, h5.2.2.1, h5.2.2.2.1, fun i hi => ?_⟩
            rw [if_neg (by omega)]
            exact h5.2.2.2.2 i hi
        · rw [c4] at h4o
          rw [c11] at h11
          by_cases q : o = h
          · exact ⟨m, by omega, by unfold pshg; rw [if_pos rfl, q]⟩
          · rw [c5 o q] at h5o
            obtain ⟨j, hj, e⟩ := hS.2 o ho h4o h11 h5o
            exact ⟨j, by omega, by unfold pshg; rw [if_neg (by omega)]; exact e⟩
  · rw [if_neg hz, if_neg (fun q => hz q.1)]
    generalize hs : suspA h (decA h s) = s'
    have f : s' = (if s 6 h = 4 ∨ s 6 h = 3 then nS s 5 h (s 5 h - 1) else if s 9 h = 0 then nS (nS (nS (nS (nS s 5 h (s 5 h - 1)) 6 h 3) 9 h 1) 14 (s 0 15) h) 0 15 (s 0 15 + 1) else nS (nS s 5 h (s 5 h - 1)) 6 h 3) := by
      rw [← hs]; unfold suspA decA; simp [nS]
    have c1 : s' 1 = s 1 := by rw [f]; funext j; (repeat' split) <;> simp [nS]
    have c2 : s' 2 = s 2 := by rw [f]; funext j; (repeat' split) <;> simp [nS]
    have c3 : s' 3 = s 3 := by rw [f]; funext j; (repeat' split) <;> simp [nS]
    have c4 : s' 4 = s 4 := by rw [f]; funext j; (repeat' split) <;> simp [nS]
    have c7 : s' 7 = s 7 := by rw [f]; funext j; (repeat' split) <;> simp [nS]
    have c8 : s' 8 = s 8 := by rw [f]; funext j; (repeat' split) <;> simp [nS]
    have c10 : s' 10 = s 10 := by rw [f]; funext j; (repeat' split) <;> simp [nS]
    have c11 : s' 11 = s 11 := by rw [f]; funext j; (repeat' split) <;> simp [nS]
    have c12 : s' 12 = s 12 := by rw [f]; funext j; (repeat' split) <;> simp [nS]
    have c13 : s' 13 = s 13 := by rw [f]; funext j; (repeat' split) <;> simp [nS]
    have c16 : s' 16 = s 16 := by rw [f]; funext j; (repeat' split) <;> simp [nS]
    have c18 : s' 18 = s 18 := by rw [f]; funext j; (repeat' split) <;> simp [nS]
    have z17 : s' 0 17 = s 0 17 := by rw [f]; (repeat' split) <;> simp [nS]
    have z20 : s' 0 20 = s 0 20 := by rw [f]; (repeat' split) <;> simp [nS]
    have c5 : ∀ o, o ≠ h → s' 5 o = s 5 o := fun o ho => by rw [f]; (repeat' split) <;> simp [nS, ho]
    have c5h : s' 5 h = s 5 h - 1 := by rw [f]; (repeat' split) <;> simp [nS]
    have c6 : ∀ o, o ≠ h → s' 6 o = s 6 o := fun o ho => by rw [f]; (repeat' split) <;> simp [nS, ho]
    have c9 : ∀ o, o ≠ h → s' 9 o = s 9 o := fun o ho => by rw [f]; (repeat' split) <;> simp [nS, ho]
    have k6 : s' 6 h = (if s 6 h = 4 ∨ s 6 h = 3 then s 6 h else 3) := by rw [f]; (repeat' split) <;> simp [nS]
    have k9 : s' 9 h = (if s 6 h = 4 ∨ s 6 h = 3 then s 9 h else 1) := by rw [f]; have := hTh.2.2.1; (repeat' split) <;> (simp [nS]; try omega)
    have wx : ∀ o, wT s' o = wT s o := fun o => by unfold wT; rw [z17, c16]
    have hl : iL s' := by
      by_cases q1 : s 6 h = 4 ∨ s 6 h = 3
      · rw [if_pos q1] at f
        rw [f]
        unfold iL nS at *
        simpa using hL
      · rw [if_neg q1] at f
        by_cases q2 : s 9 h = 0
        · rw [if_pos q2] at f
          rw [f]
          have hlt2 := hlt q2
          refine ⟨?_, fun j hj => ?_⟩
          · have e1 := cnt_on (n := 80) (k := h) (p := fun o => s 9 o == 1) (q := fun o => nS s 9 h 1 9 o == 1) hh (fun i _ hi => by simp [nS, hi]) (by simp [q2]) (by simp [nS])
            have e2 : cnt 80 (fun o => nS (nS (nS (nS (nS s 5 h (s 5 h - 1)) 6 h 3) 9 h 1) 14 (s 0 15) h) 0 15 (s 0 15 + 1) 9 o == 1) = cnt 80 (fun o => nS s 9 h 1 9 o == 1) := cnt_congr (fun i _ => by simp [nS])
            rw [e2, e1, ← hL.1, nS_eq]
          · rw [nS_eq] at hj
            have hx : ∀ i, i < s 0 15 → s 14 i ≠ h := fun i hi e => by
              have := (hL.2 i hi).2.1
              rw [e] at this
              omega
            simp only [nS]
            by_cases qj : j = s 0 15
            · subst qj
              simp
              exact ⟨hh, fun i hi => ⟨by omega, hx i hi⟩⟩
            · have h5 := hL.2 j (by omega)
              simp [qj]
              refine ⟨h5.1, fun _ => h5.2.1, fun i hi => ?_⟩
              rw [if_neg (by omega)]
              exact h5.2.2 i hi
        · rw [if_neg q2] at f
          rw [f]
          unfold iL nS at *
          simpa using hL
    clear f hs
    refine ⟨iK_c c1 c2 c3 hK, ?_, iG_c c2 c4 c7 c13 hG, iF_c c1 c4 c12 hF, ?_, hl, ?_, iO_c c4 c13 hO, iX_c c4 c18 hX, iB_c c4 c8 z20 hB, ?_, ?_⟩
    · intro o ho
      have := hT o ho
      unfold vo nfo at *
      by_cases q : o = h
      · subst q
        rw [c4, c1, k6, k9, c10, c11, c5h, c12]
        grind
      · rw [c4, c1, c6 o q, c9 o q, c10, c11, c5 o q, c12]
        exact this
    · intro o ho h4o
      rw [c4] at h4o
      rw [eT_c c4 c12, wx, c8]
      have := hR o ho h4o
      by_cases q : o = h
      · subst q; rw [c5h]; simp only [d0]; omega
      · rw [c5 o q]; rw [hd2 o q] at this; exact this
    · unfold iW at *; rw [z17, c16, c4, c10]; exact hW
    · intro o ho h4o
      rw [c4] at h4o
      by_cases q : o = h
      · subst q; rw [k6]; have := hC o ho h4; grind
      · rw [c6 o q]; exact hC o ho h4o
    · refine ⟨fun j hj => ?_, fun o ho h4o h11 h5o => ?_⟩
      · have h5 := hS.1 j hj
        have hne : g j ≠ h := fun e => by rw [e] at h5; omega
        unfold pshg
        rw [if_neg (by omega), c4, c11, c5 _ hne]
        refine ⟨h5.1, h5.2.1, h5.2.2.1, h5.2.2.2.1, fun i hi => ?_⟩
        rw [if_neg (by omega)]
        exact h5.2.2.2.2 i hi
      · rw [c4] at h4o
        rw [c11] at h11
        by_cases q : o = h
        · subst q; rw [c5h] at h5o; omega
        · rw [c5 o q] at h5o
          obtain ⟨j, hj, e⟩ := hS.2 o ho h4o h11 h5o
          exact ⟨j, hj, by unfold pshg; rw [if_neg (by omega)]; exact e⟩
end LOW

def lessRun : Nat → Nat → (Nat → Nat) → Sm → Sm
  | 0, _, _, s => s
  | k + 1, m, g, s => if m = 0 then s else if ff s (g (m - 1)) < 6 then
      lessRun k (psh (s 12 (6 * g (m - 1) + ff s (g (m - 1))) - 1) (nS s 12 (6 * g (m - 1) + ff s (g (m - 1))) 0) m) (pshg (s 12 (6 * g (m - 1) + ff s (g (m - 1))) - 1) m g) (lowA (s 12 (6 * g (m - 1) + ff s (g (m - 1))) - 1) (nS s 12 (6 * g (m - 1) + ff s (g (m - 1))) 0))
    else lessRun k (m - 1) g (finA (g (m - 1)) s)
def Phi (s : Sm) : Nat := cnt 480 (fun i => decide (s 4 (i / 6) ≠ 0) && (s 12 i != 0)) + cnt 80 (fun o => decide (s 4 o ≠ 0) && (s 11 o == 0))
section LES
variable {s : Sm} {n m o h : Nat} {d g : Nat → Nat}
theorem Phi_c {s' : Sm} (h4 : s' 4 = s 4) (h11 : s' 11 = s 11) (h12 : s' 12 = s 12) : Phi s' = Phi s := by unfold Phi; rw [h4, h11, h12]
theorem Phi_le : Phi s ≤ 560 := by
  have h1 : cnt 480 (fun i => decide (s 4 (i / 6) ≠ 0) && (s 12 i != 0)) ≤ 480 := cnt_le
  have h2 : cnt 80 (fun o => decide (s 4 o ≠ 0) && (s 11 o == 0)) ≤ 80 := cnt_le
  unfold Phi
  omega
theorem lowA_f {c : Nat} (hc : c = 1 ∨ c = 2 ∨ c = 3 ∨ c = 4 ∨ c = 7 ∨ c = 8 ∨ c = 11 ∨ c = 12 ∨ c = 13 ∨ c = 18 ∨ c = 19) : lowA h s c = s c := by
  funext j
  unfold lowA wshA suspA blk tellA decA
  rcases hc with rfl | rfl | rfl | rfl | rfl | rfl | rfl | rfl | rfl | rfl | rfl <;> (repeat' split) <;> simp [nS]
theorem lowA_z {k : Nat} (hk : k ≠ 15 ∧ k ≠ 17) : lowA h s 0 k = s 0 k := by
  unfold lowA wshA suspA blk tellA decA
  (repeat' split) <;> simp [nS, hk]
theorem Phi_give {i : Nat} (hi : i < 480) (h4 : s 4 (i / 6) ≠ 0) (hv : s 12 i ≠ 0) : Phi (lowA h (nS s 12 i 0)) + 1 = Phi s := by
  rw [Phi_c (s := nS s 12 i 0) (lowA_f (by omega)) (lowA_f (by omega)) (lowA_f (by omega))]
  have h1 := cnt_on (n := 480) (k := i) (p := fun j => decide ((nS s 12 i 0) 4 (j / 6) ≠ 0) && ((nS s 12 i 0) 12 j != 0)) (q := fun j => decide (s 4 (j / 6) ≠ 0) && (s 12 j != 0)) hi (fun j _ hj => by simp [nS, hj]) (by simp [nS]) (by simp [h4, hv])
  have h2 : cnt 80 (fun o => decide ((nS s 12 i 0) 4 o ≠ 0) && ((nS s 12 i 0) 11 o == 0)) = cnt 80 (fun o => decide (s 4 o ≠ 0) && (s 11 o == 0)) := cnt_congr (fun o _ => by simp [nS])
  unfold Phi
  omega
theorem Phi_fin (ho : o < 80) (h4 : s 4 o ≠ 0) (h11 : s 11 o = 0) (hf : ∀ f, f < 6 → s 12 (6 * o + f) = 0) : Phi (finA o s) + 1 ≤ Phi s := by
  have hfz : ∀ i, i < 480 → i / 6 = o → s 12 i = 0 := fun i hi hio => by
    have h1 := hf (i % 6) (by omega)
    have h2 : 6 * o + i % 6 = i := by omega
    rw [h2] at h1
    exact h1
  have e12 : finA o s 12 = s 12 := by unfold finA blk; split <;> (funext j; simp [freeA, nS])
  have e4 : ∀ p, p ≠ o → finA o s 4 p = s 4 p := fun p hp => by unfold finA blk; split <;> simp [freeA, nS, hp]
  have e11 : ∀ p, p ≠ o → finA o s 11 p = s 11 p := fun p hp => by unfold finA blk; split <;> simp [freeA, nS, hp]
  have k : (decide (finA o s 4 o ≠ 0) && (finA o s 11 o == 0)) = false := by unfold finA blk; split <;> simp [freeA, nS]
  have h1 : cnt 480 (fun i => decide (finA o s 4 (i / 6) ≠ 0) && (finA o s 12 i != 0)) = cnt 480 (fun i => decide (s 4 (i / 6) ≠ 0) && (s 12 i != 0)) := cnt_congr (fun i hi => by
    rw [e12]
    by_cases q : i / 6 = o
    · simp [hfz i hi q]
    · rw [e4 _ q])
  have h2 := cnt_on (n := 80) (k := o) (p := fun p => decide (finA o s 4 p ≠ 0) && (finA o s 11 p == 0)) (q := fun p => decide (s 4 p ≠ 0) && (s 11 p == 0)) ho (fun p _ hp => by rw [e4 p hp, e11 p hp]) k (by simp [h4, h11])
  unfold Phi
  omega
theorem iS_le (H : iS s m g) : m ≤ 80 := by
  have h1 : cnt m (fun _ => true) ≤ cnt 80 (fun _ => true) := cnt_inj g (fun j hj _ => ⟨(H.1 j hj).1, rfl⟩) (fun i j hi hj _ _ e => by
    rcases Nat.lt_trichotomy i j with q | q | q
    · exact absurd e ((H.1 j hj).2.2.2.2 i q)
    · exact q
    · exact absurd e.symm ((H.1 i hi).2.2.2.2 j q))
  have h3 : ∀ k, cnt k (fun _ => true) = k := fun k => by
    induction k with
    | zero => rfl
    | succ k ih => simp only [cnt, ih, if_true]
  rw [h3, h3] at h1
  exact h1
theorem iS_lt (H : iS s m g) (hh : h < 80) (h5 : s 5 h ≠ 0) : m < 80 := by
  have h1 : cnt m (fun _ => true) ≤ cnt 80 (fun p => p != h) := cnt_inj g (fun j hj _ => ⟨(H.1 j hj).1, by
    have := (H.1 j hj).2.2.2.1
    have : g j ≠ h := fun e => by rw [e] at this; exact h5 this
    simp [this]⟩) (fun i j hi hj _ _ e => by
    rcases Nat.lt_trichotomy i j with q | q | q
    · exact absurd e ((H.1 j hj).2.2.2.2 i q)
    · exact q
    · exact absurd e.symm ((H.1 i hi).2.2.2.2 j q))
  have h2 : cnt 80 (fun p => p != h) < 80 := cnt_lt hh (by simp)
  have h3 : ∀ k, cnt k (fun _ => true) = k := fun k => by
    induction k with
    | zero => rfl
    | succ k ih => simp only [cnt, ih, if_true]
  rw [h3] at h1
  omega
theorem top_facts (H : LI n d m g s) (hm : 0 < m) : g (m - 1) < 80 ∧ s 4 (g (m - 1)) ≠ 0 ∧ s 11 (g (m - 1)) = 0 ∧ s 5 (g (m - 1)) = 0 := by
  have h := H.2.2.2.2.2.2.2.2.2.2.2.1 (m - 1) (by omega)
  exact ⟨h.1, h.2.1, h.2.2.1, h.2.2.2.1⟩
theorem step_give (H : LI n d0 m g s) (hm : 0 < m) (hf : ff s (g (m - 1)) < 6) :
    ∃ i h, i = 6 * g (m - 1) + ff s (g (m - 1)) ∧ i < 480 ∧ s 4 (i / 6) ≠ 0 ∧ s 12 i = h + 1 ∧ h < 80 ∧ s 4 h ≠ 0 ∧ LI n (d1 h) m g (nS s 12 i 0) := by
  have ht := top_facts H hm
  have hne := ff_ne hf
  have hi6 : (6 * g (m - 1) + ff s (g (m - 1))) / 6 = g (m - 1) := by omega
  have hF := H.2.2.2.1 (6 * g (m - 1) + ff s (g (m - 1))) (by omega) (by rw [hi6]; exact ht.2.1)
  refine ⟨6 * g (m - 1) + ff s (g (m - 1)), s 12 (6 * g (m - 1) + ff s (g (m - 1))) - 1, rfl, by omega, by rw [hi6]; exact ht.2.1, by omega, by omega, (hF.2 hne).2, ?_⟩
  have h1 := give_inv (h := s 12 (6 * g (m - 1) + ff s (g (m - 1))) - 1) H rfl (show 6 * g (m - 1) + ff s (g (m - 1)) < 480 by omega) (by rw [hi6]; exact ht.2.1) (by omega)
  exact h1
theorem Phi_top (H : LI n d0 m g s) (hm : 0 < m) : 0 < Phi s := by
  have ht := top_facts H hm
  have : 0 < cnt 80 (fun o => decide (s 4 o ≠ 0) && (s 11 o == 0)) := cnt_pos.mpr ⟨g (m - 1), ht.1, by simp [ht.2.1, ht.2.2.1]⟩
  unfold Phi
  omega
theorem lessRun_inv : ∀ (k m : Nat) (g : Nat → Nat) (s : Sm), Phi s ≤ k → LI n d0 m g s → ∃ g', LI n d0 0 g' (lessRun k m g s) := by
  intro k
  induction k with
  | zero =>
    intro m g s hk H
    rcases Nat.eq_zero_or_pos m with h | h
    · subst h; exact ⟨g, H⟩
    · have := Phi_top H h; omega
  | succ k ih =>
    intro m g s hk H
    unfold lessRun
    by_cases hm : m = 0
    · rw [if_pos hm]; subst hm; exact ⟨g, H⟩
    · rw [if_neg hm]
      have ht := top_facts H (by omega)
      by_cases hf : ff s (g (m - 1)) < 6
      · rw [if_pos hf]
        obtain ⟨i, h, hi, h480, h4, hv, hh, h4h, H1⟩ := step_give H (by omega) hf
        rw [← hi, hv, show h + 1 - 1 = h by omega]
        refine ih _ _ _ ?_ (low_inv H1 hh (by rw [nS_ne (by omega)]; exact h4h))
        have := Phi_give (h := h) h480 h4 (by omega)
        omega
      · rw [if_neg hf]
        have hz : ∀ f, f < 6 → s 12 (6 * g (m - 1) + f) = 0 := fun f hf6 => ff_z (by omega)
        refine ih _ _ _ ?_ (fin_inv H (by omega) rfl hz)
        have := Phi_fin ht.1 ht.2.1 ht.2.2.1 hz
        omega
end LES
section LSC
variable {th : Nat → Option Nat} {n m : Nat} {g : Nat → Nat} {q : Nat → Prop} {r u : Mm} {s : Sm} {o t v N : Nat}
abbrev CRr (th : Nat → Option Nat) (m : Nat) (g : Nat → Nat) (q : Nat → Prop) (r u : Mm) (s : Sm) : Prop := CR th (s 0 15) (s 14) m g q (FW s) (TT s) r u s
def onS (m : Nat) (g : Nat → Nat) : Nat → Prop := fun p => ∃ j, j < m ∧ g j = p
theorem co_low {h : Nat} (H : LI n (d1 h) m g s) (C : CRr th m g q r u s) (ht : th h = some t) (hh : h < 80) (h4 : s 4 h ≠ 0) :
    Go (f_X1_lower N t u) (fun u' => CRr th (psh h s m) (pshg h m g) q r u' (lowA h s)) := by
  have H' := H
  obtain ⟨hK, hT, hG, hF, hR, hL, hW, hO, hX, hB, hC, hS⟩ := H
  have r5 := hR h hh h4
  have hd : d1 h h = 1 := if_pos rfl
  have hTh := (hT h hh).1 h4
  have h5 : s 5 h ≠ 0 := by omega
  have bd := iR_bd hR hB hW (by rw [hd]; omega) hh h4
  have hm := iS_lt hS hh h5
  refine (co_lower C ht h4 h5 bd hTh.2.1 hTh.2.2.1 (iL_lt hL hh) (fun e => by have := hTh.2.2.2.2.2.2.1 e; omega) (iW_lt hW hh) hm).mono (fun u1 h1 => ?_)
  have eF : FW (lowA h s) = FW s := FW_c (lowA_f (by omega))
  have eT : TT (lowA h s) = TT s := TT_c (lowA_f (by omega))
  unfold CRr
  rw [eF, eT]
  by_cases hg : s 5 h ≤ 1 ∧ ¬ (s 3 (s 4 h - 1) = 1 ∧ s 10 h = 0)
  · have e : psh h s m = m + 1 := if_pos hg
    rw [e]
    exact h1.2 hg
  · have e : psh h s m = m := if_neg hg
    rw [e]
    exact (h1.1 hg).gc (fun j hj => by unfold pshg; rw [if_neg (by omega)])
end LSC

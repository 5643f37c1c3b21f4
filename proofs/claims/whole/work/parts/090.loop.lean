section LOC
variable {th : Nat → Option Nat} {n m fw tt : Nat} {l g : Nat → Nat} {q : Nat → Prop} {r u : Mm} {s : Sm} {o t v N : Nat}
def tp (th : Nat → Option Nat) (m : Nat) (g : Nat → Nat) : Option Nat := if m = 0 then none else th (g (m - 1))
theorem x3_item {a k : Nat} {x : Int32} (hk : u.1 a 1 = i3 k) (hk8 : k ≤ 80) {j : Nat} (hj : x = i3 j) (hj3 : j < 2147483648) : f_X3_item N a x u = some (if j < k then u.2 (a + 1) j else none, u) := by
  unfold f_X3_item
  subst hj
  rw [if_neg (show ¬ i3 j < 0 by rw [i3_ltL hj3 (by decide)]; omega), pt_d, hk]
  by_cases hjk : j < k
  · rw [if_neg (show ¬ i3 k ≤ i3 j by rw [i3_le (by omega) hj3]; omega), if_neg (show ¬ (80 : Int32) ≤ i3 j by rw [i3_Lle hj3 (by decide)]; omega), i3_bI hj3, decide_eq_true (by omega), ck_t, pt_d, i3_ix hj3, if_pos hjk]
  · rw [if_pos (show i3 k ≤ i3 j by rw [i3_le (by omega) hj3]; omega), if_neg hjk]
theorem x3_last {a k : Nat} (hk : u.1 a 1 = i3 k) (hk8 : k ≤ 80) : f_X3_last N a u = some (if k = 0 then none else u.2 (a + 1) (k - 1), u) := by
  unfold f_X3_last
  rw [pt_d, hk]
  by_cases h0 : k = 0
  · subst h0
    unfold f_X3_item
    rw [if_pos (show i3 0 - 1 < 0 by decide)]
    rfl
  · rw [x3_item (k := k) (j := k - 1) hk hk8 (i3_subL (show 1 ≤ k by omega)) (by omega), bd_s, if_pos (by omega), if_neg h0]
theorem co_last (C : CR th n l m g q fw tt r u s) (hm : m ≤ 80) : f_X3_last N 49 u = some (tp th m g, u) := by
  rw [x3_last C.cg.1 hm]
  unfold tp
  by_cases h0 : m = 0
  · rw [if_pos h0, if_pos h0]
  · rw [if_neg h0, if_neg h0, C.cg.2.1 (m - 1) (by omega)]
theorem finA_0 {k : Nat} (hk : k ≠ 20) : finA o s 0 k = s 0 k := by
  unfold finA blk
  split <;> simp [freeA, nS, hk]
theorem finA_14 : finA o s 14 = s 14 := by
  unfold finA blk
  split <;> (funext j; simp [freeA, nS])
theorem FW_fin (hg : geo s o) : FW (finA o s) = if s 9 o = 0 then FW s + szo s o else FW s := by
  unfold finA
  have e1 : FW (blk o s) = FW s := FW_c (by unfold blk; funext j; simp [nS])
  have e2 : szo (blk o s) o = szo s o := by unfold szo blk nS; grind
  have eg : geo (blk o s) o := by unfold geo szo blk nS at *; grind
  split
  · rw [FW_free eg, e1, e2]
  · rw [FW_c (s := blk o s) (by funext j; simp [nS]), e1]
theorem TT_fin (ho : o < 80) (h4 : s 4 o ≠ 0) : TT (finA o s) = if s 9 o = 0 then TT s - 1 else TT s := by
  unfold finA
  have e1 : TT (blk o s) = TT s := TT_c (by unfold blk; funext j; simp [nS])
  split
  · have := TT_free (s := blk o s) ho (by unfold blk; rw [nS_ne (by omega)]; exact h4)
    omega
  · rw [TT_c (s := blk o s) (by funext j; simp [nS]), e1]
theorem TT_pos (ho : o < 80) (h4 : s 4 o ≠ 0) : 0 < TT s := cnt_pos.mpr ⟨o, ho, by simp [h4]⟩
theorem co_lessloop (hN : 5000 ≤ N) : ∀ (k m : Nat) (g : Nat → Nat) (s : Sm) (u : Mm) (step j : Nat) (p0 : Nat) (v2 : Int32), Phi s ≤ k → k + step ≤ 560 → k < j → LI n d0 m g s → CRr th m g (onS m g) r u s →
    Go (f_X1_less_24 N p0 j v2 (tp th m g) (i3 step) u) (fun z => z.1 = i3 (lessRun k m g s 0 20) - v2 ∧ ∃ g', CRr th 0 g' (fun _ => False) r z.2 (lessRun k m g s)) := by
  intro k
  induction k with
  | zero =>
    intro m g s u step j p0 v2 hk hst hj H C
    rcases Nat.eq_zero_or_pos m with h | h
    · subst h
      cases j with
      | zero => omega
      | succ j =>
        show Go (g_X1_less_24 N p0 (f_X1_less_24 N p0 j) v2 none (i3 step) u) _
        unfold g_X1_less_24 f_X1_less_75
        rw [nl_n, pt_d, C.cn.1]
        split <;> exact Go.s ⟨rfl, g, C.qm (fun p _ _ hp => by obtain ⟨j, hj, _⟩ := hp; omega)⟩
    · have := Phi_top H h; omega
  | succ k ih =>
    intro m g s u step j p0 v2 hk hst hj H C
    cases j with
    | zero => omega
    | succ j =>
    show Go (g_X1_less_24 N p0 (f_X1_less_24 N p0 j) v2 (tp th m g) (i3 step) u) _
    rcases Nat.eq_zero_or_pos m with hm | hm
    · subst hm
      have e : tp th 0 g = none := rfl
      have el : lessRun (k + 1) 0 g s = s := by unfold lessRun; rw [if_pos rfl]
      unfold g_X1_less_24 f_X1_less_75
      rw [e, nl_n, pt_d, C.cn.1, el]
      split <;> exact Go.s ⟨rfl, g, C.qm (fun p _ _ hp => by obtain ⟨j, hj, _⟩ := hp; omega)⟩
    · obtain ⟨h80, h4, h11, h5⟩ := top_facts H hm
      have hT := (H.2.1 (g (m - 1)) h80).1 h4
      have hg := H.2.2.1 (g (m - 1)) h80 h4
      have hB := H.2.2.2.2.2.2.2.2.2.1
      have hS := H.2.2.2.2.2.2.2.2.2.2.2
      have hfe : s 0 20 < 2000000000 := by have := hB.2.1; have := hB.2.2; omega
      have hne := ((C.cs h80).2 h4).2
      have etp : tp th m g = th (g (m - 1)) := by unfold tp; rw [if_neg (by omega)]
      rw [etp]
      cases htop : th (g (m - 1)) with
      | none => exact absurd htop hne
      | some t =>
      unfold g_X1_less_24
      rw [if_neg (show ¬ (560 : Int32) ≤ i3 step by rw [i3_Lle (by omega) (by decide)]; omega), nl_s]
      obtain ⟨x, hx7, hx6, hxq, hxz⟩ := C.cg.2.2 (g (m - 1)) t htop h4 h11
      have hgive := co_give (N := N) (l := s 14) (n := s 0 15) (fw := FW s) (tt := TT s) (r := r) (m := m) (g := g) (s := s) (q := onS m g) (o := g (m - 1)) (t := t) ⟨m - 1, by omega, rfl⟩ htop h4 h11 (fun f hf hv => by
        have hi6 : (6 * g (m - 1) + f) / 6 = g (m - 1) := by omega
        have hF := H.2.2.2.1 (6 * g (m - 1) + f) (by omega) (by rw [hi6]; exact h4)
        exact ((C.cs (o := s 12 (6 * g (m - 1) + f) - 1) (by omega)).2 (hF.2 hv).2).2) N x u hx6 (by omega) hx7 hxz C
      refine Go.bd hgive (fun a u1 hz => ?_)
      unfold lessRun
      rw [if_neg (show ¬ m = 0 by omega)]
      rcases hz with ⟨hff, ha, hC1⟩ | ⟨hff, ha, han, hC1⟩
      · have ha : a = none := ha
        subst ha
        have hz6 : ∀ f, f < 6 → s 12 (6 * g (m - 1) + f) = 0 := fun f hf6 => ff_z (by omega)
        rw [nl_n, if_neg (by omega)]
        refine Go.bv (co_finish (by omega) hC1 htop hT.1 hg hT.2.1 hT.2.2.1 hfe (TT_pos h80 h4) hm (iS_le hS)) (fun u2 hC2 => ?_)
        have H2 := fin_inv H hm rfl hz6
        rw [← FW_fin hg, ← TT_fin h80 h4] at hC2
        have hC2' : CRr th (m - 1) g (onS (m - 1) g) r u2 (finA (g (m - 1)) s) := by
          unfold CRr
          rw [finA_0 (by decide), finA_14]
          refine hC2.qm (fun p _ _ hp => ?_)
          obtain ⟨hpo, j, hj, e⟩ := hp
          refine ⟨j, ?_, e⟩
          have : j ≠ m - 1 := fun e2 => by rw [e2] at e; exact hpo e.symm
          omega
        unfold f_X1_less_61
        rw [co_last hC2' (by have := iS_le hS; omega), bd_s, i3_addL]
        have hph := Phi_fin h80 h4 h11 hz6
        exact ih (m - 1) g _ u2 (step + 1) j p0 v2 (by omega) (by omega) (by omega) H2 hC2'
      · have ha : a = th (s 12 (6 * g (m - 1) + ff s (g (m - 1))) - 1) := ha
        obtain ⟨i, h, hi, h480, h4i, hv, hh, h4h, H1⟩ := step_give H hm hff
        rw [if_pos hff]
        rw [← hi] at ha hC1 ⊢
        rw [hv] at ha ⊢
        rw [show h + 1 - 1 = h by omega] at ha ⊢
        have hnh : th h ≠ none := ((C.cs hh).2 h4h).2
        cases hth : th h with
        | none => exact absurd hth hnh
        | some t2 =>
        rw [hth] at ha
        subst ha
        rw [nl_s]
        have h4h' : nS s 12 i 0 4 h ≠ 0 := by rw [nS_ne (by omega)]; exact h4h
        have hC1' : CRr th m g (onS m g) r u1 (nS s 12 i 0) := by
          unfold CRr
          rw [FW_c (s := s) (s' := nS s 12 i 0) (by funext j; simp [nS]), TT_c (s := s) (s' := nS s 12 i 0) (by funext j; simp [nS])]
          have e15 : nS s 12 i 0 0 15 = s 0 15 := nS_ne (by omega)
          have e14 : nS s 12 i 0 14 = s 14 := by funext j; simp [nS]
          rw [e15, e14]
          exact hC1
        refine Go.bv (co_low H1 hC1' hth hh h4h') (fun u2 hC2 => ?_)
        have H2 := low_inv H1 hh h4h'
        have hS2 := H2.2.2.2.2.2.2.2.2.2.2.2
        have hC2' : CRr th (psh h (nS s 12 i 0) m) (pshg h m g) (onS (psh h (nS s 12 i 0) m) (pshg h m g)) r u2 (lowA h (nS s 12 i 0)) := by
          refine hC2.qm (fun p _ _ hp => ?_)
          obtain ⟨j, hj, e⟩ := hp
          refine ⟨j, ?_, by unfold pshg; rw [if_neg (by omega)]; exact e⟩
          unfold psh
          split <;> omega
        unfold f_X1_less_61
        rw [co_last hC2' (iS_le hS2), bd_s, i3_addL]
        have hph := Phi_give (h := h) h480 h4i (by omega)
        exact ih _ _ _ u2 (step + 1) j p0 v2 (by omega) (by omega) (by omega) H2 hC2'
def lessA (o : Nat) (s : Sm) : Sm := lessRun 560 (psh o s 0) (pshg o 0 (fun _ => 0)) (lowA o s)
theorem co_less (hN : 5000 ≤ N) {g : Nat → Nat} (H : LI n (d1 o) 0 g s) (C : CRr th 0 g (fun _ => False) r u s) (ht : th o = some t) (ho : o < 80) (h4 : s 4 o ≠ 0) :
    Go (f_X1_less N t u) (fun z => z.1 = i3 (lessA o s 0 20) - i3 (s 0 20) ∧ ∃ g', CRr th 0 g' (fun _ => False) r z.2 (lessA o s)) := by
  unfold f_X1_less
  rw [pt_d, C.cn.1]
  have H0 : LI n (d1 o) 0 (fun _ => 0) s := by
    obtain ⟨hK, hT, hG, hF, hR, hL, hW, hO, hX, hB, hC, hS⟩ := H
    exact ⟨hK, hT, hG, hF, hR, hL, hW, hO, hX, hB, hC, fun j hj => absurd hj (by omega), fun p a b c d => by obtain ⟨j, hj, _⟩ := hS.2 p a b c d; omega⟩
  have C0 : CRr th 0 (fun _ => 0) (fun _ => False) r u s := C.gc (fun j hj => by omega)
  refine Go.bv (co_low H0 C0 ht ho h4) (fun u1 C1 => ?_)
  have H1 := low_inv H0 ho h4
  have hS1 := H1.2.2.2.2.2.2.2.2.2.2.2
  rw [co_last C1 (iS_le hS1), bd_s]
  exact co_lessloop hN 560 _ _ _ u1 0 N t _ Phi_le (by omega) (by omega) H1 (C1.qm (fun p _ _ hp => hp.elim))
theorem lessA_inv {g : Nat → Nat} (H : LI n (d1 o) 0 g s) (ho : o < 80) (h4 : s 4 o ≠ 0) : ∃ g', LI n d0 0 g' (lessA o s) := by
  have H0 : LI n (d1 o) 0 (fun _ => 0) s := by
    obtain ⟨hK, hT, hG, hF, hR, hL, hW, hO, hX, hB, hC, hS⟩ := H
    exact ⟨hK, hT, hG, hF, hR, hL, hW, hO, hX, hB, hC, fun j hj => absurd hj (by omega), fun p a b c d => by obtain ⟨j, hj, _⟩ := hS.2 p a b c d; omega⟩
  exact lessRun_inv _ _ _ _ Phi_le (low_inv H0 ho h4)
end LOC

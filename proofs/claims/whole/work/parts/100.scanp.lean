noncomputable def sRun (l0 : Nat → Nat) : Nat → Nat → Sm → Sm
  | 0, _, s => s
  | d + 1, k, s => sRun l0 d (k + 1) (if s 9 (l0 k) = 1 then scanA (l0 k) s else s)
def sBc (s : Sm) : Prop := ∀ o, o < 80 → s 4 o ≠ 0 → s 6 o ≠ 3 ∧ s 11 o = 0
def sDc (s : Sm) : Prop := ∀ o, o < 80 → s 4 o ≠ 0 → s 5 o = 0 → s 6 o = 1 ∨ s 6 o = 2
def sWc (s : Sm) : Prop := ∀ o, o < 80 → s 4 o ≠ 0 → s 6 o = 2 → s 5 o = 0
def sNg (s1 s : Sm) : Prop := (∀ o, s1 6 o ≠ 1 → s 6 o ≠ 1) ∧ ∀ p e h, p < 80 → s1 4 p ≠ 0 → s1 6 p = 1 → s 6 p ≠ 1 → e < 6 → s1 12 (6 * p + e) = h + 1 → s1 6 h = 1 → s 6 h ≠ 1
def SK (n : Nat) (l0 : Nat → Nat) (k : Nat) (s1 s : Sm) : Prop := CI n s ∧ sBc s ∧ sDc s ∧ sWc s ∧ same56 s1 s ∧ sNg s1 s ∧ ∀ j, j < k → s1 9 (l0 j) = 1 → s 6 (l0 j) ≠ 1
section SCP
variable {s s1 : Sm} {n n0 k o root : Nat} {l0 : Nat → Nat}
theorem scan_same : same56 s (scanA root s) := fun c k h5 h6 h0 => by
  unfold scanA
  rw [if_neg (fun q => h6 q.1), if_neg (fun q => h6 q.1), if_neg h5, if_neg (fun q => h0 ⟨q.1, Or.inr q.2⟩)]
theorem scan_5 (k : Nat) : scanA root s 5 k = s 5 k + tE s (fun p => tb (scB s root p)) k := by
  unfold scanA
  rw [if_neg (fun z => absurd z.1 (by decide)), if_neg (fun z => absurd z.1 (by decide)), if_pos rfl]
theorem scR_ok (hF : iF s) (h80 : root < 80) (h4 : s 4 root ≠ 0) (h : scR s root o) : o < 80 ∧ s 4 o ≠ 0 ∧ s 6 o = 1 :=
  h.2 (fun k => k < 80 ∧ s 4 k ≠ 0 ∧ s 6 k = 1) ⟨h80, h4, h.1⟩ (fun p e h hp he hv a => by
    have hp80 := hp.1
    have hFi := hF (6 * p + e) (by omega) (by rw [show (6 * p + e) / 6 = p by omega]; exact hp.2.1)
    have h4h := (hFi.2 (by omega)).2
    rw [hv, show h + 1 - 1 = h by omega] at h4h
    exact ⟨by omega, h4h, a⟩)
theorem scB_ok (hF : iF s) (h80 : root < 80) (h4 : s 4 root ≠ 0) (h : scB s root o) : o < 80 ∧ s 4 o ≠ 0 ∧ s 6 o ≠ 4 ∧ s 6 o ≠ 0 := by
  obtain ⟨x, hx, h5, hr⟩ := h
  have h1 := scR_ok hF h80 h4 hx
  exact Rch_ok (bl := true) hF h1.1 h1.2.1 (by omega) (by rw [h1.2.2]; decide) hr
theorem scan_6 (hF : iF s) (h80 : root < 80) (h4 : s 4 root ≠ 0) (k : Nat) : scanA root s 6 k = if tb (scB s root k) = true then 0 else if tb (scR s root k) = true then 2 else s 6 k := by
  unfold scanA
  by_cases q : tb (scB s root k) = true
  · rw [if_pos ⟨rfl, (scB_ok hF h80 h4 (tb_t.mp q)).1, q⟩, if_pos q]
  · rw [if_neg (fun z => q z.2.2), if_neg q]
    by_cases y : tb (scR s root k) = true
    · rw [if_pos ⟨rfl, (scR_ok hF h80 h4 (tb_t.mp y)).1, y⟩, if_pos y]
    · rw [if_neg (fun z => y z.2.2), if_neg y, if_neg (by decide), if_neg (fun z => absurd z.1 (by decide))]
theorem scB_next {p e h : Nat} (hp : scB s root p) (he : e < 6) (hv : s 12 (6 * p + e) = h + 1) (h4 : s 6 h ≠ 4) (h0 : s 6 h ≠ 0) : scB s root h := by
  obtain ⟨x, hx, h5, hr⟩ := hp
  exact ⟨x, hx, h5, fun C hC hcl => hcl p e h (hr C hC hcl) he hv h4 h0⟩
theorem scB_cnt (hF : iF s) (h80 : root < 80) (hr4 : s 4 root ≠ 0) (h : scB s root o) : scanA root s 5 o ≠ 0 := by
  rw [scan_5]
  obtain ⟨x, hx, h5, hr⟩ := h
  have hbx : scB s root x := ⟨x, hx, h5, fun C hC _ => hC⟩
  have h1 := hr (fun y => scB s root y ∧ (s 5 y ≠ 0 ∨ 0 < tE s (fun p => tb (scB s root p)) y)) ⟨hbx, Or.inl h5⟩ (fun p e h hp he hv h64 h60 => by
    have hb := scB_next hp.1 he hv h64 h60
    have hp80 := (scB_ok hF h80 hr4 hp.1).1
    refine ⟨hb, Or.inr (cnt_pos.mpr ⟨6 * p + e, by omega, ?_⟩)⟩
    have e1 : (6 * p + e) / 6 = p := by omega
    have e2 := tb_t.mpr hp.1
    simp only [e1, e2, hv]
    simp [h64])
  rcases h1.2 with q | q <;> omega
theorem scan_start2 (H : MK n n0 l0 n0 s1) : SK n l0 0 s1 s1 := by
  obtain ⟨hCI, hA, hC, hD, hE, hF, hL, hg, hH, hI, hJ⟩ := H
  refine ⟨hCI, fun o ho h4 => ⟨fun q => ?_, ?_⟩, fun o ho h4 h5 => Or.inl (hD o ho h4 ?_ h5), fun o ho h4 h6 => absurd h6 (hA o ho h4), fun _ _ _ _ _ => rfl, ⟨fun _ h => h, fun p e h _ _ a b => absurd a b⟩, fun j hj => by omega⟩
  · obtain ⟨j, j1, j2, _⟩ := hI o ho h4 q
    omega
  · apply Classical.byContradiction
    intro q
    obtain ⟨_, _, _, j, j1, j2, _⟩ := hE o ho h4 q
    omega
  · apply Classical.byContradiction
    intro q
    obtain ⟨_, _, _, j, j1, j2, _⟩ := hE o ho h4 q
    omega
theorem scan_step (H1 : MK n n0 l0 n0 s1) (H : SK n l0 k s1 s) (hk : k < n0) (h9 : s1 9 (l0 k) = 1) : SK n l0 (k + 1) s1 (scanA (l0 k) s) := by
  obtain ⟨hCI, hBc, hDc, hWc, hs, hN, hrt⟩ := H
  have hg := H1.2.2.2.2.2.2.2.1.2 k hk h9
  have h80 := (H1.2.2.2.2.2.1.2 k hk).1
  generalize ho : l0 k = o at *
  have e4 : s 4 = s1 4 := hs.fn (by decide) (by decide) (by decide)
  have e12 : s 12 = s1 12 := hs.fn (by decide) (by decide) (by decide)
  have h4 : s 4 o ≠ 0 := by rw [e4]; exact hg.2.1
  have hF := hCI.2.2.2.1
  have e6 := fun k => scan_6 (s := s) (root := o) hF h80 h4 k
  have hsame := scan_same (s := s) (root := o)
  have hB1 : ∀ p, tb (scB s o p) = true → p < 80 ∧ s 4 p ≠ 0 ∧ (s 6 p = 1 ∨ s 6 p = 2) := fun p hp => by
    have h := scB_ok hF h80 h4 (tb_t.mp hp)
    have h3 := (hBc p h.1 h.2.1).1
    have h5 := (hCI.2.1 p h.1 h.2.1).2.1
    exact ⟨h.1, h.2.1, by omega⟩
  have hR1 : ∀ p, tb (scR s o p) = true → s 6 p = 1 := fun p hp => (scR_ok hF h80 h4 (tb_t.mp hp)).2.2
  have hRc := RC_up hCI.2.2.2.2.1 hsame e6 hB1 (fun p hp => Or.inl (hR1 p hp)) (fun k => scan_5 k)
  have hCI' : CI n (scanA o s) := CI_same hCI hsame hRc (fun p hp h4p => by
    rw [e6 p]
    have h6p := (hCI.2.1 p hp h4p).2.1
    by_cases q : tb (scB s o p) = true
    · rw [if_pos q]; have := (hB1 p q).2.2; omega
    · rw [if_neg q]
      by_cases y : tb (scR s o p) = true
      · rw [if_pos y]; have := hR1 p y; omega
      · rw [if_neg y]; exact ⟨h6p, Iff.rfl⟩)
  have f4 : scanA o s 4 = s 4 := hsame.fn (by decide) (by decide) (by decide)
  have f11 : scanA o s 11 = s 11 := hsame.fn (by decide) (by decide) (by decide)
  have hnoE : ∀ p, s 6 p ≠ 4 → s 6 p ≠ 0 → tb (scB s o p) ≠ true → tE s (fun x => tb (scB s o x)) p = 0 := fun p h64 h60 hnb => cnt_zero.mpr (fun i hi => by
    cases hb : tb (scB s o (i / 6)) with
    | false => simp only [hb, Bool.false_and]
    | true =>
      by_cases q : s 12 i = p + 1
      · exfalso
        apply hnb
        exact tb_t.mpr (scB_next (p := i / 6) (e := i % 6) (tb_t.mp hb) (by omega) (by rw [show 6 * (i / 6) + i % 6 = i by omega]; exact q) h64 h60)
      · have e : (s 12 i == p + 1) = false := by simpa using q
        simp only [e, Bool.and_false, Bool.false_and])
  refine ⟨hCI', fun p hp h4p => ?_, fun p hp h4p h5p => ?_, fun p hp h4p h6p => ?_, fun c j a b d => (hsame c j a b d).trans (hs c j a b d), ⟨fun p hp => ?_, fun p e h hp h4p h6p h6p' he hv h6h => ?_⟩, fun j hj h9j => ?_⟩
  · rw [f4] at h4p
    rw [f11, e6 p]
    refine ⟨?_, (hBc p hp h4p).2⟩
    split
    · decide
    · split
      · decide
      · exact (hBc p hp h4p).1
  · rw [f4] at h4p
    rw [e6 p]
    by_cases q : tb (scB s o p) = true
    · exact absurd h5p (scB_cnt hF h80 h4 (tb_t.mp q))
    · rw [if_neg q]
      by_cases y : tb (scR s o p) = true
      · rw [if_pos y]; exact Or.inr rfl
      · rw [if_neg y]
        rw [scan_5] at h5p
        exact hDc p hp h4p (by omega)
  · rw [f4] at h4p
    rw [e6 p] at h6p
    rw [scan_5]
    by_cases q : tb (scB s o p) = true
    · rw [if_pos q] at h6p; cases h6p
    · rw [if_neg q] at h6p
      by_cases y : tb (scR s o p) = true
      · have h61 := hR1 p y
        have h50 : s 5 p = 0 := by
          apply Classical.byContradiction
          intro z
          exact q (tb_t.mpr ⟨p, tb_t.mp y, z, fun C hC _ => hC⟩)
        rw [h50, hnoE p (by omega) (by omega) q]
      · rw [if_neg y] at h6p
        rw [hWc p hp h4p h6p, hnoE p (by omega) (by omega) q]
  · have h1 := hN.1 p hp
    rw [e6 p]
    split
    · decide
    · split
      · decide
      · exact h1
  · rw [e6 p] at h6p'
    rw [e6 h]
    by_cases qp : s 6 p = 1
    · by_cases qh : s 6 h = 1
      · by_cases y : tb (scB s o h) = true
        · rw [if_pos y]; decide
        · rw [if_neg y]
          have hy : tb (scB s o p) ≠ true := fun z => y (tb_t.mpr (scB_next (tb_t.mp z) he (by rw [e12]; exact hv) (by omega) (by omega)))
          rw [if_neg hy] at h6p'
          by_cases w : tb (scR s o p) = true
          · have h2 := tb_t.mp w
            rw [if_pos (tb_t.mpr ⟨h2.1, fun C hC hcl => hcl p e h (h2.2 C hC hcl) he (by rw [e12]; exact hv) qh⟩)]
            decide
          · rw [if_neg w] at h6p'
            exact absurd qp h6p'
      · split
        · decide
        · split
          · decide
          · exact qh
    · have qh := hN.2 p e h hp h4p h6p qp he hv h6h
      split
      · decide
      · split
        · decide
        · exact qh
  · rw [e6]
    by_cases q : j = k
    · rw [q, ho]
      split
      · decide
      · split
        · decide
        · rename_i y
          exact fun z => y (tb_t.mpr ⟨z, fun C hC _ => hC⟩)
    · have h1 := hrt j (by omega) h9j
      split
      · decide
      · split
        · decide
        · exact h1
theorem scan_none (H1 : MK n n0 l0 n0 s1) (H : SK n l0 n0 s1 s) : ∀ o, o < 80 → s 4 o ≠ 0 → s 6 o ≠ 1 := by
  intro o ho h4 h6
  have e4 : s 4 = s1 4 := H.2.2.2.2.1.fn (by decide) (by decide) (by decide)
  have hN := H.2.2.2.2.2.1
  have h61 : s1 6 o = 1 := by
    apply Classical.byContradiction
    intro z
    exact hN.1 o z h6
  obtain ⟨j, j1, j2, j3⟩ := H1.2.2.2.2.2.2.2.2.2.2 o ho (by rw [← e4]; exact h4) h61
  have hg := H1.2.2.2.2.2.2.2.1.2 j j1 j2
  have h80 := (H1.2.2.2.2.2.1.2 j j1).1
  have h1 := j3 (fun x => x < 80 ∧ s1 4 x ≠ 0 ∧ s1 6 x = 1 ∧ s 6 x ≠ 1) ⟨h80, hg.2.1, hg.2.2.1, H.2.2.2.2.2.2 j j1 j2⟩ (fun p e h hp he hv a => by
    have hp80 := hp.1
    have hFi := H1.1.2.2.2.1 (6 * p + e) (by omega) (by rw [show (6 * p + e) / 6 = p by omega]; exact hp.2.1)
    have h4h := (hFi.2 (by omega)).2
    rw [hv, show h + 1 - 1 = h by omega] at h4h
    exact ⟨by omega, h4h, a, hN.2 p e h hp80 hp.2.1 hp.2.2.1 hp.2.2.2 he hv a⟩)
  exact h1.2.2.2 h6
theorem sRun_inv (H1 : MK n n0 l0 n0 s1) : ∀ (d k : Nat) (s : Sm), k + d = n0 → SK n l0 k s1 s → SK n l0 n0 s1 (sRun l0 d k s) := by
  intro d
  induction d with
  | zero => intro k s hk H; rw [Nat.add_zero] at hk; subst hk; exact H
  | succ d ih =>
    intro k s hk H
    have e9 : s 9 = s1 9 := H.2.2.2.2.1.fn (by decide) (by decide) (by decide)
    refine ih (k + 1) _ (by omega) ?_
    rw [e9]
    by_cases h9 : s1 9 (l0 k) = 1
    · rw [if_pos h9]
      exact scan_step H1 H (by omega) h9
    · rw [if_neg h9]
      obtain ⟨a, b, c, d, e, f, g⟩ := H
      refine ⟨a, b, c, d, e, f, fun j hj h9j => ?_⟩
      by_cases q : j = k
      · subst q; exact absurd h9j h9
      · exact g j (by omega) h9j
theorem mRun_9 : ∀ (d k : Nat) (s : Sm), (∀ o, s 9 o ≤ 1 ∨ 80 ≤ o) → ∀ o, mRun l0 d k s 9 o ≤ 1 ∨ 80 ≤ o := by
  intro d
  induction d with
  | zero => intro k s h; exact h
  | succ d ih =>
    intro k s h
    refine ih (k + 1) _ (fun o => ?_)
    have h1 := h o
    have h2 : mstep (l0 k) s 9 o = 0 ∨ mstep (l0 k) s 9 o = s 9 o := by
      unfold mstep
      split
      · unfold freeA nS
        by_cases q : o = l0 k
        · left; simp [q]
        · right; simp [q]
      · split
        · unfold nS
          by_cases q : o = l0 k
          · left; simp [q]
          · right; simp [q]
        · right
          unfold appA
          rw [nS_ne (by omega), nS_ne (by omega)]
          exact trav_same (s := s) (root := l0 k) false 9 o (by decide) (by decide) (by omega)
    omega
end SCP
section SCL
variable {th : Nat → Option Nat} {n n0 k m fw tt : Nat} {l l0 g : Nat → Nat} {q : Nat → Prop} {r u : Mm} {s s1 : Sm} {o t v N : Nat}
theorem co_scanLoop (hN : 5000 ≤ N) (H1 : MK n n0 l0 n0 s1) (h91 : ∀ o, s1 9 o ≤ 1 ∨ 80 ≤ o) : ∀ (j k : Nat) (u : Mm) (s : Sm), k ≤ n0 → n0 - k < j → SK n l0 k s1 s → CR th n0 l0 0 g (fun _ => False) (FW s) (TT s) r u s →
    Go (f_X0_scanListed_10 N j (i3 k) u) (fun u' => CR th n0 l0 0 g (fun _ => False) (FW (sRun l0 (n0 - k) k s)) (TT (sRun l0 (n0 - k) k s)) r u' (sRun l0 (n0 - k) k s)) := by
  intro j
  induction j with
  | zero => intro k u s _ hj; omega
  | succ j ih =>
    intro k u s hkn hj H C
    show Go (g_X0_scanListed_10 N (f_X0_scanListed_10 N j) (i3 k) u) _
    unfold g_X0_scanListed_10
    have hn80 := H1.2.2.2.2.2.1.1
    by_cases h8 : 80 ≤ k
    · rw [if_pos ((i3_Lle (by omega) (by decide)).mpr h8)]
      have e : n0 - k = 0 := by omega
      rw [e]
      exact Go.s C
    rw [if_neg (fun z => h8 ((i3_Lle (by omega) (by decide)).mp z))]
    rw [pt_d, C.cl.1]
    by_cases hk : n0 ≤ k
    · rw [if_pos ((i3_le (by omega) (by omega)).mpr hk)]
      have e : n0 - k = 0 := by omega
      rw [e]
      exact Go.s C
    · have hkl : k < n0 := by omega
      have h80 := (H1.2.2.2.2.2.1.2 k hkl).1
      have e9 : s 9 = s1 9 := H.2.2.2.2.1.fn (by decide) (by decide) (by decide)
      have e4 : s 4 = s1 4 := H.2.2.2.2.1.fn (by decide) (by decide) (by decide)
      rw [if_neg (fun z => hk ((i3_le (by omega) (by omega)).mp z)), x3_item (j := k) C.cl.1 hn80 rfl (by omega), bd_s, if_pos hkl, C.cl.2 k hkl]
      unfold f_X0_scanListed_46
      rw [i3_addL]
      have er : sRun l0 (n0 - k) k s = sRun l0 (n0 - (k + 1)) (k + 1) (if s 9 (l0 k) = 1 then scanA (l0 k) s else s) := by
        rw [show n0 - k = (n0 - (k + 1)) + 1 by omega]
        rfl
      rw [er]
      have hskip : s1 9 (l0 k) ≠ 1 → SK n l0 (k + 1) s1 s := fun h9 => by
        obtain ⟨a, b, c, d, e, f, g⟩ := H
        refine ⟨a, b, c, d, e, f, fun j hj h9j => ?_⟩
        by_cases q : j = k
        · subst q; exact absurd h9j h9
        · exact g j (by omega) h9j
      cases hc : th (l0 k) with
      | none =>
        rw [nl_n]
        have h9 : s1 9 (l0 k) ≠ 1 := fun z => by
          have hg := H1.2.2.2.2.2.2.2.1.2 k hkl z
          exact absurd hc ((C.cs h80).2 (by rw [e4]; exact hg.2.1)).2
        rw [e9, if_neg h9]
        exact ih (k + 1) u s (by omega) (by omega) (hskip h9) C
      | some t =>
        have hb9 := h91 (l0 k)
        rw [nl_s, pt_d, C.a8 hc, e9]
        have z9 : i3 (s1 9 (l0 k)) = 0 ↔ s1 9 (l0 k) = 0 := i3_eqL (by omega) (by decide)
        by_cases h9 : s1 9 (l0 k) = 1
        · rw [if_neg (fun z => by have := z9.mp z; omega), if_pos h9]
          have hg := H1.2.2.2.2.2.2.2.1.2 k hkl h9
          have hsame := scan_same (s := s) (root := l0 k)
          refine Go.bv (co_scan hN (CI_sOK H.1) C hc (by rw [e4]; exact hg.2.1)) (fun u2 C2 => ?_)
          refine ih (k + 1) u2 _ (by omega) (by omega) (scan_step H1 H hkl h9) ?_
          rw [FW_c (s := s) (hsame.fn (by decide) (by decide) (by decide)), TT_c (s := s) (hsame.fn (by decide) (by decide) (by decide))]
          exact C2
        · rw [if_pos (z9.mpr (by omega)), if_neg h9]
          exact ih (k + 1) u s (by omega) (by omega) (hskip h9) C
theorem mo_scanLoop (hN : 5000 ≤ N) (H1 : MK n n0 l0 n0 s1) {v1 : Int32} {P : Int32 × Mm → Prop}
    (hk : ∀ u', Ms r u' (sRun l0 n0 0 s1) → Go (bv (f_X8_findByAddress N u') (fun u => f_X8_collect_56 N N v1 0 u)) P) :
    ∀ (d k j : Nat) (u : Mm) (s : Sm), k + d = n0 → d < j → SK n l0 k s1 s → sRun l0 n0 0 s1 = sRun l0 d k s → Ms r u s →
    Go (f_X8_collect_26 N j v1 (i3 (cnt k (kp l0 s1))) u) P := by
  intro d
  induction d with
  | zero =>
    intro k j u s hkd hj H he C
    rw [Nat.add_zero] at hkd
    subst hkd
    cases j with
    | zero => omega
    | succ j =>
      show Go (g_X8_collect_26 N (f_X8_collect_26 N j) v1 (i3 (cnt k (kp l0 s1))) u) P
      unfold g_X8_collect_26
      have e15 : s 0 15 = cnt k (kp l0 s1) := (H.2.2.2.2.1.z (k := 15) (by decide)).trans H1.2.2.2.2.2.2.2.1.1
      have hle : cnt k (kp l0 s1) ≤ k := cnt_le
      have hn80 := H1.2.2.2.2.2.1.1
      rw [pt_d, C.mr.g0 (k := 15) (by simp [nsc]), e15, if_pos ((i3_le (by omega) (by omega)).mpr (Nat.le_refl _))]
      have he' : sRun l0 k 0 s1 = s := he
      rw [← he'] at C
      exact hk u C
  | succ d ih =>
    intro k j u s hkd hj H he C
    have e9 : s 9 = s1 9 := H.2.2.2.2.1.fn (by decide) (by decide) (by decide)
    have e4 : s 4 = s1 4 := H.2.2.2.2.1.fn (by decide) (by decide) (by decide)
    have e14 : s 14 = s1 14 := H.2.2.2.2.1.fn (by decide) (by decide) (by decide)
    have he2 : sRun l0 (d + 1) k s = sRun l0 d (k + 1) (if s 9 (l0 k) = 1 then scanA (l0 k) s else s) := rfl
    rw [he2, e9] at he
    by_cases h9 : s1 9 (l0 k) = 1
    · rw [if_pos h9] at he
      have hg := H1.2.2.2.2.2.2.2.1
      have hgk := hg.2 k (by omega) h9
      have h80 := (H1.2.2.2.2.2.1.2 k (by omega)).1
      have hn80 := H1.2.2.2.2.2.1.1
      have ek : kp l0 s1 k = true := by unfold kp; rw [h9]; rfl
      have hc1 : cnt (k + 1) (kp l0 s1) = cnt k (kp l0 s1) + 1 := by
        show cnt k _ + (if kp l0 s1 k = true then 1 else 0) = _
        rw [ek]; rfl
      have hmono : ∀ x, cnt (k + 1) (kp l0 s1) ≤ cnt (k + 1 + x) (kp l0 s1) := fun x => by
        induction x with
        | zero => exact Nat.le_refl _
        | succ x ih => exact Nat.le_trans ih (Nat.le_add_right _ _)
      have hm := hmono (n0 - (k + 1))
      rw [show k + 1 + (n0 - (k + 1)) = n0 by omega] at hm
      have hcl : cnt n0 (kp l0 s1) ≤ n0 := cnt_le
      have e15 : s 0 15 = cnt n0 (kp l0 s1) := (H.2.2.2.2.1.z (k := 15) (by decide)).trans hg.1
      cases j with
      | zero => omega
      | succ j =>
        show Go (g_X8_collect_26 N (f_X8_collect_26 N j) v1 (i3 (cnt k (kp l0 s1))) u) P
        unfold g_X8_collect_26
        rw [pt_d, C.mr.g0 (k := 15) (by simp [nsc]), e15, if_neg (fun z => by have := (i3_le (by omega) (by omega)).mp z; omega), i3_bI (by omega), decide_eq_true (by omega), ck_t, pt_d, i3_ix (by omega), C.mr.g14 (by omega), e14, hgk.1]
        refine Go.bv (mo_scan hN (CI_sOK H.1) C h80 (by rw [e4]; exact hgk.2.1)) (fun u2 C2 => ?_)
        rw [i3_addL]
        have := ih (k + 1) j u2 _ (by omega) (by omega) (scan_step H1 H (by omega) h9) he C2
        rw [hc1] at this
        exact this
    · rw [if_neg h9] at he
      have ek : kp l0 s1 k = false := by unfold kp; simp [h9]
      have hc1 : cnt (k + 1) (kp l0 s1) = cnt k (kp l0 s1) := by
        show cnt k _ + (if kp l0 s1 k = true then 1 else 0) = _
        rw [ek]; rfl
      have hskip : SK n l0 (k + 1) s1 s := by
        obtain ⟨a, b, c, d, e, f, g⟩ := H
        refine ⟨a, b, c, d, e, f, fun j hj h9j => ?_⟩
        by_cases q : j = k
        · subst q; exact absurd h9j h9
        · exact g j (by omega) h9j
      have := ih (k + 1) j u s (by omega) (by omega) hskip he C
      rw [hc1] at this
      exact this
end SCL

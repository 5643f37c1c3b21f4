def tc (bl : Bool) : Nat := if bl then 0 else 1
def tx (bl : Bool) : Nat := if bl then 24 else 23
noncomputable def tb (P : Prop) : Bool := @decide P (Classical.propDecidable P)
theorem tb_t {P : Prop} : tb P = true ↔ P := @decide_eq_true_iff P (Classical.propDecidable P)
theorem tb_f {P : Prop} : tb P = false ↔ ¬ P := @decide_eq_false_iff_not P (Classical.propDecidable P)
def Rch (bl : Bool) (s : Sm) (root o : Nat) : Prop := ∀ C : Nat → Prop, C root → (∀ p e h, C p → e < 6 → s 12 (6 * p + e) = h + 1 → s 6 h ≠ 4 → s 6 h ≠ tc bl → C h) → C o
def tE (s : Sm) (S : Nat → Bool) (k : Nat) : Nat := cnt 480 (fun i => S (i / 6) && (s 12 i == k + 1) && (s 6 k != 4))
noncomputable def travA (bl : Bool) (root : Nat) (s : Sm) : Sm := fun c k =>
  if c = 6 ∧ k < 80 ∧ tb (Rch bl s root k) = true then tc bl
  else if c = 5 then (if bl then s 5 k + tE s (fun p => tb (Rch bl s root p)) k else s 5 k - tE s (fun p => tb (Rch bl s root p)) k)
  else if c = 0 ∧ k = tx bl then s 0 k + cnt 80 (fun p => tb (Rch bl s root p)) else s c k
def trnA (bl : Bool) (o : Nat) (s : Sm) : Sm := if s 6 o = tc bl then s else nS (nS s 6 o (tc bl)) 0 (tx bl) (s 0 (tx bl) + 1)
def cngA (bl : Bool) (o : Nat) (s : Sm) : Sm := nS s 5 o (if bl then s 5 o + 1 else s 5 o - 1)
def tQ (s : Sm) (i : Nat) : Prop := s 12 i ≠ 0 ∧ s 6 (s 12 i - 1) ≠ 4
def GI (bl : Bool) (s0 : Sm) (root : Nat) (S De : Nat → Bool) (s : Sm) : Prop :=
  (∀ c k, c ≠ 5 → c ≠ 6 → ¬ (c = 0 ∧ k = tx bl) → s c k = s0 c k) ∧
  (∀ k, s 6 k = if S k then tc bl else s0 6 k) ∧
  (∀ k, s 5 k = if bl then s0 5 k + cnt 480 (fun i => De i && (s0 12 i == k + 1)) else s0 5 k - cnt 480 (fun i => De i && (s0 12 i == k + 1))) ∧
  s 0 (tx bl) = s0 0 (tx bl) + cnt 80 S ∧
  (∀ k, S k = true → k < 80 ∧ s0 4 k ≠ 0 ∧ s0 6 k ≠ tc bl ∧ s0 6 k ≠ 4 ∧ Rch bl s0 root k) ∧
  (∀ i, De i = true → i < 480 ∧ S (i / 6) = true ∧ tQ s0 i ∧ (S (s0 12 i - 1) = true ∨ s0 6 (s0 12 i - 1) = tc bl)) ∧ S root = true
def GP (s0 : Sm) (S De : Nat → Bool) (lo hi : Nat) (g : Nat → Nat) (p f : Nat) : Prop :=
  (∀ j, lo ≤ j → j < hi → S (g j) = true ∧ g j ≠ p ∧ (∀ e, e < 6 → De (6 * g j + e) = false) ∧ ∀ i, lo ≤ i → i < j → g i ≠ g j) ∧
  (∀ k, S k = true → k = p ∨ (∃ j, lo ≤ j ∧ j < hi ∧ g j = k) ∨ ∀ e, e < 6 → tQ s0 (6 * k + e) → De (6 * k + e) = true) ∧
  (p < 80 → S p = true ∧ ∀ e, e < 6 → (e < f → tQ s0 (6 * p + e) → De (6 * p + e) = true) ∧ (f ≤ e → De (6 * p + e) = false)) ∧
  lo ≤ hi ∧ hi ≤ cnt 80 S
section TRV
variable {bl : Bool} {s0 s : Sm} {root : Nat} {S De : Nat → Bool} {lo hi p f : Nat} {g : Nat → Nat}
theorem tc_4 : tc bl ≠ 4 := by cases bl <;> decide
theorem tc_le : tc bl ≤ 1 := by cases bl <;> decide
theorem trav_start (h80 : root < 80) (h4 : s0 4 root ≠ 0) (h6 : s0 6 root ≠ tc bl) (h64 : s0 6 root ≠ 4) :
    GI bl s0 root (fun k => k == root) (fun _ => false) (trnA bl root s0) ∧ GP s0 (fun k => k == root) (fun _ => false) 0 1 (fun _ => root) 80 0 := by
  have e1 : cnt 80 (fun k => k == root) = 1 := by
    have := cnt_on (n := 80) (k := root) (p := fun _ => false) (q := fun k => k == root) h80 (fun i _ hi => by simp [hi]) rfl (by simp)
    rw [this, cnt_zero.mpr (fun _ _ => rfl)]
  have e0 : ∀ k, cnt 480 (fun i => false && (s0 12 i == k + 1)) = 0 := fun k => cnt_zero.mpr (fun _ _ => rfl)
  refine ⟨⟨fun c k hc5 hc6 hc0 => ?_, fun k => ?_, fun k => ?_, ?_, fun k hk => ?_, (fun i hi => by cases hi), by simp⟩, fun j h1 h2 => ?_, fun k hk => ?_, (fun hp => by omega), by omega, by rw [e1]; omega⟩
  · unfold trnA
    rw [if_neg h6, nS_ne hc0, nS_ne (fun q => hc6 q.1)]
  · unfold trnA
    rw [if_neg h6, nS_ne (by omega)]
    by_cases q : k = root
    · subst q; rw [nS_eq]; simp
    · rw [nS_ne (fun z => q z.2)]; simp [q]
  · unfold trnA
    rw [if_neg h6, nS_ne (by omega), nS_ne (by omega), e0]
    cases bl <;> rfl
  · unfold trnA
    rw [if_neg h6, nS_eq, e1]
  · have : k = root := by simpa using hk
    subst this
    exact ⟨h80, h4, h6, h64, fun C h _ => h⟩
  · refine ⟨by simp, by simp; omega, fun e _ => rfl, fun i hi1 hi2 => by omega⟩
  · right; left
    exact ⟨0, by omega, by omega, (show k = root by simpa using hk).symm⟩
theorem GP_lo (hS : ∀ k, S k = true → k < 80) (H : GP s0 S De lo hi g 80 0) (hl : lo < hi) : GP s0 S De (lo + 1) hi g (g lo) 0 := by
  obtain ⟨h1, h2, h3, h4⟩ := H
  have ht := h1 lo (Nat.le_refl _) hl
  refine ⟨fun j hj1 hj2 => ?_, fun k hk => ?_, fun _ => ⟨ht.1, fun e he => ⟨fun q => by omega, fun _ => ht.2.2.1 e he⟩⟩, by omega, h4.2⟩
  · have h5 := h1 j (by omega) hj2
    exact ⟨h5.1, fun e => h5.2.2.2 lo (Nat.le_refl _) (by omega) e.symm, h5.2.2.1, fun i hi1 hi2 => h5.2.2.2 i (by omega) hi2⟩
  · rcases h2 k hk with q | ⟨j, hj1, hj2, e⟩ | q
    · have := hS k hk
      omega
    · by_cases z : j = lo
      · left; rw [← e, z]
      · right; left; exact ⟨j, by omega, hj2, e⟩
    · right; right; exact q
theorem GP_hi (hS : ∀ k, S k = true → k < 80) (H : GP s0 S De lo hi g 80 0) (hl : lo < hi) : GP s0 S De lo (hi - 1) g (g (hi - 1)) 0 := by
  obtain ⟨h1, h2, h3, h4⟩ := H
  have ht := h1 (hi - 1) (by omega) (by omega)
  refine ⟨fun j hj1 hj2 => ?_, fun k hk => ?_, fun _ => ⟨ht.1, fun e he => ⟨fun q => by omega, fun _ => ht.2.2.1 e he⟩⟩, by omega⟩
  · have h5 := h1 j hj1 (by omega)
    exact ⟨h5.1, ht.2.2.2 j hj1 hj2, h5.2.2.1, h5.2.2.2⟩
  · rcases h2 k hk with q | ⟨j, hj1, hj2, e⟩ | q
    · have := hS k hk
      omega
    · by_cases z : j = hi - 1
      · left; rw [← e, z]
      · right; left; exact ⟨j, hj1, by omega, e⟩
    · right; right; exact q
theorem GP_skip (hp : p < 80) (H : GP s0 S De lo hi g p f) (hf : f < 6) (hq : ¬ tQ s0 (6 * p + f)) : GP s0 S De lo hi g p (f + 1) := by
  obtain ⟨h1, h2, h3, h4⟩ := H
  refine ⟨h1, h2, fun _ => ⟨(h3 hp).1, fun e he => ⟨fun q z => ?_, fun q => ((h3 hp).2 e he).2 (by omega)⟩⟩, h4⟩
  by_cases y : e = f
  · subst y; exact absurd z hq
  · exact ((h3 hp).2 e he).1 (by omega) z
theorem GP_done (hS : ∀ k, S k = true → k < 80) (hp : p < 80) (H : GP s0 S De lo hi g p 6) : GP s0 S De lo hi g 80 0 := by
  obtain ⟨h1, h2, h3, h4⟩ := H
  refine ⟨fun j hj1 hj2 => ⟨(h1 j hj1 hj2).1, fun e => ?_, (h1 j hj1 hj2).2.2⟩, fun k hk => ?_, fun z => by omega, h4⟩
  · have := hS _ (h1 j hj1 hj2).1
    omega
  · rcases h2 k hk with q | q | q
    · right; right
      intro e he z
      subst q
      exact ((h3 hp).2 e he).1 he z
    · right; left; exact q
    · right; right; exact q
def stS (bl : Bool) (s : Sm) (h : Nat) (S : Nat → Bool) : Nat → Bool := fun k => S k || (k == h && (s 6 h != tc bl))
def stD (i : Nat) (De : Nat → Bool) : Nat → Bool := fun j => De j || j == i
def stH (bl : Bool) (s : Sm) (h hi : Nat) : Nat := if s 6 h = tc bl then hi else hi + 1
theorem stD_ne {i j : Nat} (h : j ≠ i) : stD i De j = De j := by
  unfold stD
  have : (j == i) = false := by simpa using h
  rw [this, Bool.or_false]
theorem stD_eq {i : Nat} : stD i De i = true := by
  unfold stD
  simp
theorem trav_edge {h : Nat} (hF : iF s0) (HI : GI bl s0 root S De s) (HP : GP s0 S De lo hi g p f) (hp : p < 80) (hf : f < 6) (hv : s0 12 (6 * p + f) = h + 1) (h64 : s0 6 h ≠ 4) :
    GI bl s0 root (stS bl s h S) (stD (6 * p + f) De) (trnA bl h (cngA bl h s)) ∧ GP s0 (stS bl s h S) (stD (6 * p + f) De) lo (stH bl s h hi) (pshg h hi g) p (f + 1) := by
  obtain ⟨i1, i2, i3', i4, i5, i6, i7⟩ := HI
  obtain ⟨p1, p2, p3, p4⟩ := HP
  have hSp := (p3 hp).1
  have hi6 : (6 * p + f) / 6 = p := by omega
  have hFh := hF (6 * p + f) (by omega) (by rw [hi6]; exact (i5 p hSp).2.1)
  rw [hv] at hFh
  have hh80 : h < 80 := by omega
  have hh4 : s0 4 h ≠ 0 := by have := (hFh.2 (by omega)).2; simpa using this
  have hnd : De (6 * p + f) = false := ((p3 hp).2 f hf).2 (Nat.le_refl _)
  have hS1 : ∀ k, stS bl s h S k = true ↔ S k = true ∨ (k = h ∧ s 6 h ≠ tc bl) := fun k => by simp [stS]
  have hD1 : ∀ i, stD (6 * p + f) De i = true ↔ De i = true ∨ i = 6 * p + f := fun i => by simp [stD]
  have s6h : s 6 h ≠ tc bl ↔ S h = false ∧ s0 6 h ≠ tc bl := by
    rw [i2 h]
    cases hs : S h <;> simp
  have ecnt : ∀ k, cnt 480 (fun i => stD (6 * p + f) De i && (s0 12 i == k + 1)) = cnt 480 (fun i => De i && (s0 12 i == k + 1)) + (if k = h then 1 else 0) := fun k => by
    by_cases q : k = h
    · subst q
      rw [if_pos rfl]
      exact cnt_on (k := 6 * p + f) (by omega) (fun j _ hj => by rw [stD_ne hj]) (by rw [hnd]; rfl) (by rw [stD_eq, hv]; simp)
    · rw [if_neg q]
      refine Eq.trans (cnt_congr (fun j _ => ?_)) (Nat.add_zero _).symm
      · by_cases z : j = 6 * p + f
        · have e : (s0 12 j == k + 1) = false := by rw [z, hv]; simp; omega
          rw [e, Bool.and_false, Bool.and_false]
        · rw [stD_ne z]
  have e5 : ∀ k, trnA bl h (cngA bl h s) 5 k = cngA bl h s 5 k := fun k => by
    unfold trnA
    split
    · rfl
    · rw [nS_ne (by omega), nS_ne (by omega)]
  have e6 : cngA bl h s 6 h = s 6 h := nS_ne (by omega)
  have etx : cngA bl h s 0 (tx bl) = s 0 (tx bl) := nS_ne (by omega)
  refine ⟨⟨fun c k hc5 hc6 hc0 => ?_, fun k => ?_, fun k => ?_, ?_, fun k hk => ?_, fun i hi => ?_, (hS1 root).mpr (Or.inl i7)⟩, fun j hj1 hj2 => ?_, fun k hk => ?_, fun _ => ⟨(hS1 p).mpr (Or.inl hSp), fun e he => ⟨fun q z => ?_, fun q => ?_⟩⟩, ?_⟩
  · rw [← i1 c k hc5 hc6 hc0]
    unfold trnA
    split
    · exact nS_ne (fun q => hc5 q.1)
    · rw [nS_ne hc0, nS_ne (fun q => hc6 q.1)]
      exact nS_ne (fun q => hc5 q.1)
  · have e : cngA bl h s 6 k = s 6 k := nS_ne (by omega)
    unfold trnA
    rw [e6]
    by_cases z : s 6 h = tc bl
    · rw [if_pos z, e, i2 k]
      have : stS bl s h S k = S k := by simp [stS, z]
      rw [this]
    · rw [if_neg z, nS_ne (by omega)]
      by_cases q : k = h
      · subst q; rw [nS_eq, if_pos ((hS1 k).mpr (Or.inr ⟨rfl, z⟩))]
      · rw [nS_ne (fun y => q y.2), e, i2 k]
        have : stS bl s h S k = S k := by simp [stS, q]
        rw [this]
  · rw [e5, ecnt]
    unfold cngA
    by_cases q : k = h
    · subst q
      rw [nS_eq, i3' k, if_pos rfl]
      cases bl <;> simp <;> omega
    · rw [nS_ne (fun y => q y.2), i3' k, if_neg q]
      simp only [Nat.add_zero]
  · unfold trnA
    rw [e6]
    by_cases z : s 6 h = tc bl
    · rw [if_pos z, etx, i4]
      congr 1
      exact cnt_congr (fun k _ => by simp [stS, z])
    · rw [if_neg z, nS_eq, etx, i4, cnt_on (n := 80) (k := h) (p := S) (q := stS bl s h S) hh80 (fun k _ hk => by simp [stS, hk]) (s6h.mp z).1 ((hS1 h).mpr (Or.inr ⟨rfl, z⟩))]
      omega
  · rcases (hS1 k).mp hk with q | ⟨q, z⟩
    · exact i5 k q
    · subst q
      have z2 := (s6h.mp z).2
      refine ⟨hh80, hh4, z2, h64, fun C hC hcl => ?_⟩
      exact hcl p f k ((i5 p hSp).2.2.2.2 C hC hcl) hf hv h64 z2
  · rcases (hD1 i).mp hi with q | q
    · obtain ⟨a, b, c, d⟩ := i6 i q
      refine ⟨a, (hS1 _).mpr (Or.inl b), c, ?_⟩
      rcases d with d | d
      · exact Or.inl ((hS1 _).mpr (Or.inl d))
      · exact Or.inr d
    · subst q
      refine ⟨by omega, by rw [hi6]; exact (hS1 p).mpr (Or.inl hSp), ⟨by omega, by rw [hv]; exact h64⟩, ?_⟩
      rw [hv, show h + 1 - 1 = h by omega]
      by_cases z : s 6 h = tc bl
      · rw [i2 h] at z
        cases hs : S h with
        | true => left; exact (hS1 h).mpr (Or.inl hs)
        | false => right; rw [hs] at z; simpa using z
      · left; exact (hS1 h).mpr (Or.inr ⟨rfl, z⟩)
  · unfold stH at hj2
    unfold pshg
    by_cases z : s 6 h = tc bl
    · rw [if_pos z] at hj2
      obtain ⟨a, b, c, d⟩ := p1 j hj1 hj2
      rw [if_neg (by omega)]
      refine ⟨(hS1 _).mpr (Or.inl a), b, fun e he => ?_, fun i a1 a2 => by rw [if_neg (by omega)]; exact d i a1 a2⟩
      simp only [stD, c e he, Bool.false_or, beq_eq_false_iff_ne]
      omega
    · rw [if_neg z] at hj2
      by_cases q : j = hi
      · subst q
        rw [if_pos rfl]
        have hnS := (s6h.mp z).1
        refine ⟨(hS1 _).mpr (Or.inr ⟨rfl, z⟩), (fun e => by rw [e, hSp] at hnS; cases hnS), fun e he => ?_, fun i a1 a2 => ?_⟩
        · have hne : h ≠ p := fun e => by rw [e, hSp] at hnS; cases hnS
          simp only [stD, Bool.or_eq_false_iff, beq_eq_false_iff_ne]
          refine ⟨?_, by omega⟩
          cases hd : De (6 * h + e) with
          | false => rfl
          | true =>
            have := (i6 _ hd).2.1
            rw [show (6 * h + e) / 6 = h by omega, hnS] at this
            cases this
        · rw [if_neg (by omega)]
          intro e
          have := (p1 i a1 (by omega)).1
          rw [e, hnS] at this
          cases this
      · obtain ⟨a, b, c, d⟩ := p1 j hj1 (by omega)
        rw [if_neg q]
        refine ⟨(hS1 _).mpr (Or.inl a), b, fun e he => ?_, fun i a1 a2 => by rw [if_neg (by omega)]; exact d i a1 a2⟩
        simp only [stD, c e he, Bool.false_or, beq_eq_false_iff_ne]
        omega
  · rcases (hS1 k).mp hk with q | ⟨q, z⟩
    · rcases p2 k q with y | ⟨j, j1, j2, e⟩ | y
      · exact Or.inl y
      · right; left
        refine ⟨j, j1, ?_, ?_⟩
        · unfold stH; split <;> omega
        · unfold pshg; rw [if_neg (by omega)]; exact e
      · right; right
        exact fun e he w => (hD1 _).mpr (Or.inl (y e he w))
    · right; left
      refine ⟨hi, ?_, ?_, ?_⟩
      · exact p4.1
      · unfold stH; rw [if_neg z]; omega
      · unfold pshg; rw [if_pos rfl]; exact q.symm
  · by_cases y : e = f
    · subst y; exact (hD1 _).mpr (Or.inr rfl)
    · exact (hD1 _).mpr (Or.inl (((p3 hp).2 e he).1 (by omega) z))
  · simp only [stD, Bool.or_eq_false_iff, beq_eq_false_iff_ne]
    exact ⟨((p3 hp).2 e he).2 (by omega), by omega⟩
  · have p41 := p4.1
    have p42 := p4.2
    refine ⟨by unfold stH; split <;> omega, ?_⟩
    unfold stH
    by_cases z : s 6 h = tc bl
    · rw [if_pos z]
      refine Nat.le_trans p42 (cnt_mono (fun k _ hk => (hS1 k).mpr (Or.inl hk)))
    · rw [if_neg z, cnt_on (n := 80) (k := h) (p := S) (q := stS bl s h S) hh80 (fun k _ hk => by simp [stS, hk]) (s6h.mp z).1 ((hS1 h).mpr (Or.inr ⟨rfl, z⟩))]
      omega
theorem trav_end (HI : GI bl s0 root S De s) (HP : GP s0 S De lo lo g 80 0) : s = travA bl root s0 := by
  obtain ⟨i1, i2, i3', i4, i5, i6, i7⟩ := HI
  obtain ⟨p1, p2, p3, p4⟩ := HP
  have hdone : ∀ k, S k = true → ∀ e, e < 6 → tQ s0 (6 * k + e) → De (6 * k + e) = true := fun k hk => by
    rcases p2 k hk with q | ⟨j, j1, j2, _⟩ | q
    · have := (i5 k hk).1; omega
    · omega
    · exact q
  have hr : ∀ k, tb (Rch bl s0 root k) = S k := fun k => by
    cases hs : S k with
    | true => exact tb_t.mpr (i5 k hs).2.2.2.2
    | false =>
      rw [tb_f]
      intro hR
      have := hR (fun k => S k = true) i7 (fun p e h hp he hv h4 h6 => by
        have hd := hdone p hp e he ⟨by omega, by rw [hv]; exact h4⟩
        rcases (i6 _ hd).2.2.2 with q | q
        · rw [hv] at q; exact q
        · rw [hv] at q; exact absurd q h6)
      rw [hs] at this
      cases this
  have hfun : (fun p => tb (Rch bl s0 root p)) = S := funext hr
  have hE : ∀ k, cnt 480 (fun i => De i && (s0 12 i == k + 1)) = tE s0 S k := fun k => cnt_congr (fun i hi => by
    by_cases q : s0 12 i = k + 1
    · simp only [q, beq_self_eq_true, Bool.and_true]
      cases hd : De i with
      | true =>
        have h1 := i6 i hd
        have h2 := h1.2.2.1.2
        rw [q] at h2
        rw [h1.2.1]
        simp at h2 ⊢
        exact h2
      | false =>
        cases hs : S (i / 6) with
        | false => rfl
        | true =>
          simp only [Bool.true_and]
          by_cases z : s0 6 k = 4
          · simp [z]
          · have h1 := hdone (i / 6) hs (i % 6) (by omega)
            rw [show 6 * (i / 6) + i % 6 = i by omega] at h1
            rw [h1 ⟨by omega, by rw [q]; simpa using z⟩] at hd
            cases hd
    · have e : (s0 12 i == k + 1) = false := by simpa using q
      rw [e]
      simp)
  funext c k
  unfold travA
  rw [hfun]
  by_cases c6 : c = 6
  · subst c6
    rw [i2 k, hr k]
    by_cases hs : S k = true
    · rw [if_pos hs, if_pos ⟨rfl, (i5 k hs).1, hs⟩]
    · rw [if_neg hs, if_neg (fun q => hs q.2.2), if_neg (by omega), if_neg (by omega)]
  · rw [if_neg (fun q => c6 q.1)]
    by_cases c5 : c = 5
    · subst c5
      rw [if_pos rfl, i3' k, hE k]
    · rw [if_neg c5]
      by_cases c0 : c = 0 ∧ k = tx bl
      · rw [if_pos c0, c0.1, c0.2, i4]
      · rw [if_neg c0]
        exact i1 c k c5 c6 c0
end TRV

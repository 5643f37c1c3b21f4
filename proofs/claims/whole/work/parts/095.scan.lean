def Rg (s : Sm) (root o : Nat) : Prop := ∀ C : Nat → Prop, C root → (∀ p e h, C p → e < 6 → s 12 (6 * p + e) = h + 1 → s 6 h = 1 → C h) → C o
def scR (s : Sm) (root o : Nat) : Prop := s 6 root = 1 ∧ Rg s root o
def scB (s : Sm) (root o : Nat) : Prop := ∃ x, scR s root x ∧ s 5 x ≠ 0 ∧ Rch true s x o
noncomputable def scanA (root : Nat) (s : Sm) : Sm := fun c k =>
  if c = 6 ∧ k < 80 ∧ tb (scB s root k) = true then 0 else if c = 6 ∧ k < 80 ∧ tb (scR s root k) = true then 2
  else if c = 5 then s 5 k + tE s (fun p => tb (scB s root p)) k
  else if c = 0 ∧ k = 24 then s 0 24 + cnt 80 (fun p => tb (scB s root p)) else s c k
def SI (s0 : Sm) (root : Nat) (B W : Nat → Bool) (s : Sm) : Prop :=
  (∀ c k, c ≠ 5 → c ≠ 6 → ¬ (c = 0 ∧ k = 24) → s c k = s0 c k) ∧
  (∀ k, s 6 k = if B k then 0 else if W k then 2 else s0 6 k) ∧
  (∀ k, s 5 k = s0 5 k + tE s0 B k) ∧
  s 0 24 = s0 0 24 + cnt 80 B ∧
  (∀ k, B k = true → k < 80 ∧ s0 4 k ≠ 0 ∧ s0 6 k ≠ 0 ∧ s0 6 k ≠ 4 ∧ scB s0 root k) ∧
  (∀ p e h, B p = true → e < 6 → s0 12 (6 * p + e) = h + 1 → s0 6 h ≠ 4 → s0 6 h ≠ 0 → B h = true) ∧
  (∀ k, W k = true → k < 80 ∧ s0 4 k ≠ 0 ∧ s0 6 k = 1 ∧ s0 5 k = 0 ∧ scR s0 root k)
def jd (s0 : Sm) (B W : Nat → Bool) (i : Nat) : Prop := ∀ h, s0 12 i = h + 1 → s0 6 h = 1 → W h = true ∨ B h = true
def SP (s0 : Sm) (B W : Nat → Bool) (lo hi : Nat) (g : Nat → Nat) (p f : Nat) : Prop :=
  (∀ j, lo ≤ j → j < hi → W (g j) = true ∧ g j ≠ p ∧ ∀ i, lo ≤ i → i < j → g i ≠ g j) ∧
  (∀ k, W k = true → k = p ∨ (∃ j, lo ≤ j ∧ j < hi ∧ g j = k) ∨ ∀ e, e < 6 → jd s0 B W (6 * k + e)) ∧
  (p < 80 → W p = true ∧ ∀ e, e < f → jd s0 B W (6 * p + e)) ∧
  lo ≤ hi ∧ hi ≤ cnt 80 W
section SCN
variable {s0 s : Sm} {root : Nat} {B W : Nat → Bool} {lo hi p f o : Nat} {g : Nat → Nat}
theorem jd_mono {B' W' : Nat → Bool} {i : Nat} (hb : ∀ k, B k = true → B' k = true) (hw : ∀ k, W k = true → W' k = true) (h : jd s0 B W i) : jd s0 B' W' i := fun h' a b => by
  rcases h h' a b with q | q
  · exact Or.inl (hw _ q)
  · exact Or.inr (hb _ q)
theorem SP_lo (hS : ∀ k, W k = true → k < 80) (H : SP s0 B W lo hi g 80 0) (hl : lo < hi) : SP s0 B W (lo + 1) hi g (g lo) 0 := by
  obtain ⟨h1, h2, h3, h4⟩ := H
  have ht := h1 lo (Nat.le_refl _) hl
  refine ⟨fun j hj1 hj2 => ?_, fun k hk => ?_, fun _ => ⟨ht.1, fun e he => by omega⟩, by omega, h4.2⟩
  · have h5 := h1 j (by omega) hj2
    exact ⟨h5.1, fun e => h5.2.2 lo (Nat.le_refl _) (by omega) e.symm, fun i hi1 hi2 => h5.2.2 i (by omega) hi2⟩
  · rcases h2 k hk with q | ⟨j, hj1, hj2, e⟩ | q
    · have := hS k hk
      omega
    · by_cases z : j = lo
      · left; rw [← e, z]
      · right; left; exact ⟨j, by omega, hj2, e⟩
    · right; right; exact q
theorem SP_hi (hS : ∀ k, W k = true → k < 80) (H : SP s0 B W lo hi g 80 0) (hl : lo < hi) : SP s0 B W lo (hi - 1) g (g (hi - 1)) 0 := by
  obtain ⟨h1, h2, h3, h4⟩ := H
  have ht := h1 (hi - 1) (by omega) (by omega)
  refine ⟨fun j hj1 hj2 => ?_, fun k hk => ?_, fun _ => ⟨ht.1, fun e he => by omega⟩, by omega, by omega⟩
  · have h5 := h1 j hj1 (by omega)
    exact ⟨h5.1, ht.2.2 j hj1 hj2, h5.2.2⟩
  · rcases h2 k hk with q | ⟨j, hj1, hj2, e⟩ | q
    · have := hS k hk
      omega
    · by_cases z : j = hi - 1
      · left; rw [← e, z]
      · right; left; exact ⟨j, hj1, by omega, e⟩
    · right; right; exact q
theorem SP_skip (hp : p < 80) (H : SP s0 B W lo hi g p f) (hq : jd s0 B W (6 * p + f)) : SP s0 B W lo hi g p (f + 1) := by
  obtain ⟨h1, h2, h3, h4⟩ := H
  refine ⟨h1, h2, fun _ => ⟨(h3 hp).1, fun e he => ?_⟩, h4⟩
  by_cases y : e = f
  · subst y; exact hq
  · exact (h3 hp).2 e (by omega)
theorem SP_done (hS : ∀ k, W k = true → k < 80) (hp : p < 80) (H : SP s0 B W lo hi g p 6) : SP s0 B W lo hi g 80 0 := by
  obtain ⟨h1, h2, h3, h4⟩ := H
  refine ⟨fun j hj1 hj2 => ⟨(h1 j hj1 hj2).1, fun e => ?_, (h1 j hj1 hj2).2.2⟩, fun k hk => ?_, fun z => by omega, h4⟩
  · have := hS _ (h1 j hj1 hj2).1
    omega
  · rcases h2 k hk with q | q | q
    · right; right
      intro e he
      subst q
      exact (h3 hp).2 e he
    · right; left; exact q
    · right; right; exact q
theorem scan_s6 (HI : SI s0 root B W s) (h : s 6 o = 1) : B o = false ∧ W o = false ∧ s0 6 o = 1 := by
  rw [HI.2.1 o] at h
  cases hb : B o with
  | true => rw [hb] at h; simp at h
  | false =>
    cases hw : W o with
    | true => rw [hb, hw] at h; simp at h
    | false => rw [hb, hw] at h; exact ⟨rfl, rfl, by simpa using h⟩
theorem scan_white (HI : SI s0 root B W s) (HP : SP s0 B W lo hi g p f) (ho : o < 80) (h4 : s0 4 o ≠ 0) (h6 : s 6 o = 1) (h5 : s 5 o = 0) (hR : scR s0 root o) :
    SI s0 root B (fun k => W k || k == o) (nS s 6 o 2) ∧ SP s0 B (fun k => W k || k == o) lo (hi + 1) (pshg o hi g) p f := by
  obtain ⟨b0, w0, g0⟩ := scan_s6 HI h6
  obtain ⟨i1, i2, i3', i4, i5, i6, i7⟩ := HI
  obtain ⟨p1, p2, p3, p4⟩ := HP
  have hW : ∀ k, (W k || k == o) = true ↔ W k = true ∨ k = o := fun k => by simp
  refine ⟨⟨fun c k a b d => ?_, fun k => ?_, fun k => ?_, ?_, i5, i6, fun k hk => ?_⟩, fun j j1 j2 => ?_, fun k hk => ?_, fun hp => ⟨(hW p).mpr (Or.inl (p3 hp).1), fun e he => jd_mono (fun _ z => z) (fun k z => (hW k).mpr (Or.inl z)) ((p3 hp).2 e he)⟩, by omega, ?_⟩
  · rw [nS_ne (fun z => b z.1)]; exact i1 c k a b d
  · by_cases q : k = o
    · subst q; rw [nS_eq, b0]; simp
    · rw [nS_ne (fun z => q z.2), i2 k]; simp [q]
  · rw [nS_ne (by omega)]; exact i3' k
  · rw [nS_ne (by omega)]; exact i4
  · rcases (hW k).mp hk with q | q
    · exact i7 k q
    · subst q
      have := i3' k
      exact ⟨ho, h4, g0, by omega, hR⟩
  · unfold pshg
    by_cases q : j = hi
    · subst q
      rw [if_pos rfl]
      refine ⟨(hW _).mpr (Or.inr rfl), fun e => ?_, fun i a b => ?_⟩
      · by_cases hp : p < 80
        · have := (p3 hp).1; rw [← e, w0] at this; cases this
        · omega
      · rw [if_neg (by omega)]
        intro e
        have := (p1 i a b).1
        rw [e, w0] at this
        cases this
    · have h := p1 j j1 (by omega)
      rw [if_neg q]
      exact ⟨(hW _).mpr (Or.inl h.1), h.2.1, fun i a b => by rw [if_neg (by omega)]; exact h.2.2 i a b⟩
  · rcases (hW k).mp hk with q | q
    · rcases p2 k q with z | ⟨j, a, b, e⟩ | z
      · exact Or.inl z
      · right; left
        exact ⟨j, a, by omega, by unfold pshg; rw [if_neg (by omega)]; exact e⟩
      · right; right
        exact fun e he => jd_mono (fun _ z => z) (fun k z => (hW k).mpr (Or.inl z)) (z e he)
    · right; left
      exact ⟨hi, p4.1, by omega, by unfold pshg; rw [if_pos rfl]; exact q.symm⟩
  · have := cnt_on (n := 80) (k := o) (p := W) (q := fun k => W k || k == o) ho (fun k _ hk => by simp [hk]) w0 (by simp)
    omega
theorem scan_black (hF : iF s0) (HI : SI s0 root B W s) (HP : SP s0 B W lo hi g p f) (ho : o < 80) (h4 : s0 4 o ≠ 0) (h6 : s 6 o = 1) (h5 : s 5 o ≠ 0) (hR : scR s0 root o) :
    SI s0 root (fun k => B k || tb (Rch true s o k)) W (travA true o s) ∧ SP s0 (fun k => B k || tb (Rch true s o k)) W lo hi g p f ∧ tb (Rch true s o o) = true := by
  obtain ⟨b0, w0, g0⟩ := scan_s6 HI h6
  have HI0 := HI
  obtain ⟨i1, i2, i3', i4, i5, i6, i7⟩ := HI
  obtain ⟨p1, p2, p3, p4⟩ := HP
  have e12 : ∀ i, s 12 i = s0 12 i := fun i => i1 12 i (by decide) (by decide) (by omega)
  have h64 : ∀ k, s 6 k ≠ 4 ↔ s0 6 k ≠ 4 := fun k => by
    rw [i2 k]
    cases hb : B k with
    | true => have := (i5 k hb).2.2.2.1; simp; omega
    | false =>
      cases hw : W k with
      | true => have := (i7 k hw).2.2.1; simp; omega
      | false => simp
  have h60 : ∀ k, s 6 k ≠ 0 → B k = false ∧ s0 6 k ≠ 0 := fun k hk => by
    rw [i2 k] at hk
    cases hb : B k with
    | true => rw [hb] at hk; simp at hk
    | false =>
      cases hw : W k with
      | true => have := (i7 k hw).2.2.1; exact ⟨rfl, by omega⟩
      | false => rw [hb, hw] at hk; exact ⟨rfl, by simpa using hk⟩
  have h60' : ∀ k, B k = false → s0 6 k ≠ 0 → s 6 k ≠ 0 := fun k hb hk => by
    rw [i2 k, hb]
    cases hw : W k with
    | true => simp
    | false => simpa using hk
  have tc0 : tc true = 0 := rfl
  have tx0 : tx true = 24 := rfl
  have hK : ∀ k, Rch true s o k → k < 80 ∧ s0 4 k ≠ 0 ∧ s0 6 k ≠ 0 ∧ s0 6 k ≠ 4 ∧ B k = false := fun k hk => hk (fun k => k < 80 ∧ s0 4 k ≠ 0 ∧ s0 6 k ≠ 0 ∧ s0 6 k ≠ 4 ∧ B k = false) ⟨ho, h4, by omega, by omega, b0⟩ (fun q e h hq he hv a b => by
    rw [e12] at hv
    have hq80 := hq.1
    have hFi := hF (6 * q + e) (by omega) (by rw [show (6 * q + e) / 6 = q by omega]; exact hq.2.1)
    have h4h := (hFi.2 (by omega)).2
    rw [hv, show h + 1 - 1 = h by omega] at h4h
    rw [tc0] at b
    exact ⟨by omega, h4h, (h60 h b).2, (h64 h).mp a, (h60 h b).1⟩)
  have hK0 : ∀ k, Rch true s o k → Rch true s0 o k := fun k hk C hC hcl => by
    have := hk (fun k => C k ∧ B k = false) ⟨hC, b0⟩ (fun q e h hq he hv a b => by
      rw [e12] at hv
      rw [tc0] at b
      exact ⟨hcl q e h hq.1 he hv ((h64 h).mp a) (by rw [tc0]; exact (h60 h b).2), (h60 h b).1⟩)
    exact this.1
  have hz : tE s0 B o = 0 := cnt_zero.mpr (fun i hi => by
    cases hbi : B (i / 6) with
    | false => rfl
    | true =>
      by_cases q : s0 12 i = o + 1
      · have := i6 (i / 6) (i % 6) o hbi (by omega) (by rw [show 6 * (i / 6) + i % 6 = i by omega]; exact q) (by omega) (by omega)
        rw [b0] at this; cases this
      · have e : (s0 12 i == o + 1) = false := by simpa using q
        rw [e]; rfl)
  have h50 : s0 5 o ≠ 0 := by have := i3' o; omega
  have hE : ∀ (S : Nat → Bool) k, tE s S k = tE s0 S k := fun S k => cnt_congr (fun i _ => by
    rw [e12]
    have : (s 6 k != 4) = (s0 6 k != 4) := by
      have := h64 k
      by_cases q : s0 6 k = 4
      · have h1 : s 6 k = 4 := by omega
        rw [q, h1]
      · have h1 : s 6 k ≠ 4 := by omega
        have e1 : (s 6 k != 4) = true := by simpa using h1
        have e2 : (s0 6 k != 4) = true := by simpa using q
        rw [e1, e2]
    rw [this])
  have hB1 : ∀ k, (B k || tb (Rch true s o k)) = true ↔ B k = true ∨ Rch true s o k := fun k => by rw [Bool.or_eq_true, tb_t]
  refine ⟨⟨fun c k a b d => ?_, fun k => ?_, fun k => ?_, ?_, fun k hk => ?_, fun q e h hq he hv a b => ?_, i7⟩, ⟨p1, fun k hk => ?_, fun hp => ⟨(p3 hp).1, fun e he => jd_mono (fun k z => (hB1 k).mpr (Or.inl z)) (fun _ z => z) ((p3 hp).2 e he)⟩, p4⟩, tb_t.mpr (fun C h _ => h)⟩
  · unfold travA
    rw [if_neg (fun z => b z.1), if_neg a, tx0, if_neg d]
    exact i1 c k a b d
  · unfold travA
    by_cases q : Rch true s o k
    · rw [if_pos ⟨rfl, (hK k q).1, tb_t.mpr q⟩]
      have ek : (B k || tb (Rch true s o k)) = true := (hB1 k).mpr (Or.inr q)
      exact (if_pos ek).symm
    · rw [if_neg (fun z => q (tb_t.mp z.2.2)), if_neg (by omega), if_neg (by omega), i2 k]
      have ek : (B k || tb (Rch true s o k)) = B k := by rw [tb_f.mpr q, Bool.or_false]
      show _ = if (B k || tb (Rch true s o k)) = true then 0 else if W k = true then 2 else s0 6 k
      rw [ek]
  · unfold travA
    rw [if_neg (by omega), if_pos rfl, if_pos rfl, i3' k, hE]
    have : tE s0 (fun k => B k || tb (Rch true s o k)) k = tE s0 B k + tE s0 (fun p => tb (Rch true s o p)) k := by
      unfold tE
      rw [← cnt_add (fun i hi h1 => ?_)]
      · refine cnt_congr (fun i _ => ?_)
        show ((B (i / 6) || tb (Rch true s o (i / 6))) && (s0 12 i == k + 1) && (s0 6 k != 4)) = ((B (i / 6) && (s0 12 i == k + 1) && (s0 6 k != 4)) || (tb (Rch true s o (i / 6)) && (s0 12 i == k + 1) && (s0 6 k != 4)))
        generalize B (i / 6) = a1
        generalize tb (Rch true s o (i / 6)) = a2
        generalize (s0 12 i == k + 1) = a3
        generalize (s0 6 k != 4) = a4
        cases a1 <;> cases a2 <;> cases a3 <;> cases a4 <;> rfl
      · simp only [Bool.and_eq_true] at h1
        have : tb (Rch true s o (i / 6)) = false := tb_f.mpr (fun z => by have := (hK _ z).2.2.2.2; rw [this] at h1; exact absurd h1.1.1 (by decide))
        show (tb (Rch true s o (i / 6)) && (s0 12 i == k + 1) && (s0 6 k != 4)) = false
        rw [this]; rfl
    rw [this]
    omega
  · unfold travA
    rw [if_neg (by omega), if_neg (by omega), tx0, if_pos ⟨rfl, rfl⟩, i4]
    have : cnt 80 (fun k => B k || tb (Rch true s o k)) = cnt 80 B + cnt 80 (fun p => tb (Rch true s o p)) := cnt_add (fun k _ hb => tb_f.mpr (fun z => by have := (hK _ z).2.2.2.2; rw [this] at hb; cases hb))
    rw [this]
    omega
  · rcases (hB1 k).mp hk with q | q
    · exact i5 k q
    · obtain ⟨a, b, c, d, _⟩ := hK k q
      exact ⟨a, b, c, d, o, hR, h50, hK0 k q⟩
  · rcases (hB1 q).mp hq with z | z
    · exact (hB1 h).mpr (Or.inl (i6 q e h z he hv a b))
    · cases hb : B h with
      | true => exact (hB1 h).mpr (Or.inl hb)
      | false =>
        apply (hB1 h).mpr
        right
        intro C hC hcl
        exact hcl q e h (z C hC hcl) he (by rw [e12]; exact hv) ((h64 h).mpr a) (by rw [tc0]; exact h60' h hb b)
  · rcases p2 k hk with q | q | q
    · exact Or.inl q
    · exact Or.inr (Or.inl q)
    · right; right
      exact fun e he => jd_mono (fun k z => (hB1 k).mpr (Or.inl z)) (fun _ z => z) (q e he)
theorem scan_end (HI : SI s0 root B W s) (HP : SP s0 B W lo lo g 80 0) (hr : s0 6 root = 1 → W root = true ∨ B root = true) : s = scanA root s0 := by
  obtain ⟨i1, i2, i3', i4, i5, i6, i7⟩ := HI
  obtain ⟨p1, p2, p3, p4⟩ := HP
  have hdone : ∀ k, W k = true → ∀ e, e < 6 → jd s0 B W (6 * k + e) := fun k hk => by
    rcases p2 k hk with q | ⟨j, j1, j2, _⟩ | q
    · have := (i7 k hk).1; omega
    · omega
    · exact q
  have hRk : ∀ k, scR s0 root k → W k = true ∨ B k = true := fun k hk => hk.2 (fun k => W k = true ∨ B k = true) (hr hk.1) (fun p e h hp he hv h6 => by
    rcases hp with q | q
    · exact hdone p q e he h hv h6
    · exact Or.inr (i6 p e h q he hv (by omega) (by omega)))
  have hBk : ∀ k, tb (scB s0 root k) = B k := fun k => by
    cases hb : B k with
    | true => exact tb_t.mpr (i5 k hb).2.2.2.2
    | false =>
      rw [tb_f]
      intro ⟨x, hx, h5, hch⟩
      have hbx : B x = true := by
        rcases hRk x hx with q | q
        · have := (i7 x q).2.2.2.1; exact absurd this h5
        · exact q
      have := hch (fun k => B k = true) hbx (fun p e h hp he hv a b => i6 p e h hp he hv a b)
      rw [hb] at this
      cases this
  have hfun : (fun p => tb (scB s0 root p)) = B := funext hBk
  funext c k
  unfold scanA
  rw [hfun, hBk]
  by_cases c6 : c = 6
  · subst c6
    rw [i2 k]
    cases hb : B k with
    | true => rw [if_pos rfl, if_pos ⟨rfl, (i5 k hb).1, rfl⟩]
    | false =>
      rw [if_neg (by decide), if_neg (show ¬ (6 = 6 ∧ k < 80 ∧ false = true) from fun z => by cases z.2.2)]
      cases hw : W k with
      | true => rw [if_pos rfl, if_pos ⟨rfl, (i7 k hw).1, tb_t.mpr (i7 k hw).2.2.2.2⟩]
      | false =>
        have hz : ¬ (6 = 6 ∧ k < 80 ∧ tb (scR s0 root k) = true) := fun z => by
          rcases hRk k (tb_t.mp z.2.2) with q | q
          · rw [hw] at q; cases q
          · rw [hb] at q; cases q
        rw [if_neg (by decide), if_neg hz, if_neg (by omega), if_neg (by omega)]
  · rw [if_neg (fun z => c6 z.1), if_neg (fun z => c6 z.1)]
    by_cases c5 : c = 5
    · subst c5
      rw [if_pos rfl, i3' k]
    · rw [if_neg c5]
      by_cases c0 : c = 0 ∧ k = 24
      · rw [if_pos c0, c0.1, c0.2, i4]
      · rw [if_neg c0]
        exact i1 c k c5 c6 c0
end SCN

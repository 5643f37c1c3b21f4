def eK (s : Sm) (o : Nat) : Nat := cnt 480 (fun i => decide (s 4 (i / 6) ≠ 0) && (s 12 i == o + 1) && !((s 6 (i / 6) == 1 || s 6 (i / 6) == 2) && s 6 o != 4))
def iRc (s : Sm) : Prop := ∀ o, o < 80 → s 4 o ≠ 0 → s 5 o = eK s o + s 8 o + wT s o
def iTc (s : Sm) : Prop := ∀ o, o < 80 → s 4 o ≠ 0 → vo s o ∧ s 6 o ≤ 4 ∧ s 9 o ≤ 1 ∧ s 10 o ≤ 1 ∧ s 11 o ≤ 1 ∧ (s 6 o = 4 ↔ nfo s o = 0)
def CI (n : Nat) (s : Sm) : Prop := iK s ∧ iTc s ∧ iG s ∧ iF s ∧ iRc s ∧ iW s ∧ iO s ∧ iX s ∧ iB n s
section RCS
variable {s s' : Sm} {n o root : Nat} {S W : Nat → Bool}
theorem eK_le : eK s o ≤ 480 := cnt_le
theorem CI_bd (H : CI n s) (ho : o < 80) (h4 : s 4 o ≠ 0) : s 5 o < 1000000000 := by
  obtain ⟨hK, hT, hG, hF, hR, hW, hO, hX, hB⟩ := H
  have h1 := hR o ho h4
  have h2 : eK s o ≤ 480 := cnt_le
  have h3 : wT s o ≤ s 0 17 := cnt_le
  have h5 := hB.1 o ho h4
  have h6 := hB.2.2
  have h7 := hW.1
  omega
theorem CI_sOK (H : CI n s) : sOK s := ⟨H.2.2.2.1, H.1, fun k hk h4 => ⟨(H.2.1 k hk h4).1, (H.2.1 k hk h4).2.1⟩, fun k hk h4 => CI_bd H hk h4⟩
theorem CI_V (H : CI n s) : ∀ k, k < 80 → s 4 k ≠ 0 → vo s k ∧ s 6 k ≤ 4 := fun k hk h4 => ⟨(H.2.1 k hk h4).1, (H.2.1 k hk h4).2.1⟩
theorem CI_6 (H : CI n s) : ∀ k, k < 80 → s 4 k ≠ 0 → s 6 k ≤ 4 := fun k hk h4 => (H.2.1 k hk h4).2.1
def same56 (s s' : Sm) : Prop := ∀ c k, c ≠ 5 → c ≠ 6 → ¬ (c = 0 ∧ (k = 23 ∨ k = 24)) → s' c k = s c k
theorem same56.fn (h : same56 s s') {c : Nat} (h5 : c ≠ 5) (h6 : c ≠ 6) (h0 : c ≠ 0) : s' c = s c := funext fun k => h c k h5 h6 (fun q => h0 q.1)
theorem same56.z (h : same56 s s') {k : Nat} (hk : k ≠ 23 ∧ k ≠ 24) : s' 0 k = s 0 k := h 0 k (by decide) (by decide) (by omega)
theorem wT_same (h : same56 s s') : wT s' o = wT s o := by
  unfold wT
  rw [h.z (by decide), h.fn (by decide) (by decide) (by decide)]
theorem CI_same (H : CI n s) (h : same56 s s') (hR : iRc s') (h6 : ∀ k, k < 80 → s 4 k ≠ 0 → s' 6 k ≤ 4 ∧ (s' 6 k = 4 ↔ s 6 k = 4)) : CI n s' := by
  obtain ⟨hK, hT, hG, hF, _, hW, hO, hX, hB⟩ := H
  have e1 := h.fn (c := 1) (by decide) (by decide) (by decide)
  have e2 := h.fn (c := 2) (by decide) (by decide) (by decide)
  have e3 := h.fn (c := 3) (by decide) (by decide) (by decide)
  have e4 := h.fn (c := 4) (by decide) (by decide) (by decide)
  have e7 := h.fn (c := 7) (by decide) (by decide) (by decide)
  have e8 := h.fn (c := 8) (by decide) (by decide) (by decide)
  have e9 := h.fn (c := 9) (by decide) (by decide) (by decide)
  have e10 := h.fn (c := 10) (by decide) (by decide) (by decide)
  have e11 := h.fn (c := 11) (by decide) (by decide) (by decide)
  have e12 := h.fn (c := 12) (by decide) (by decide) (by decide)
  have e13 := h.fn (c := 13) (by decide) (by decide) (by decide)
  have e16 := h.fn (c := 16) (by decide) (by decide) (by decide)
  have e18 := h.fn (c := 18) (by decide) (by decide) (by decide)
  refine ⟨iK_c e1 e2 e3 hK, fun o ho h4 => ?_, iG_c e2 e4 e7 e13 hG, iF_c e1 e4 e12 hF, hR, ?_, iO_c e4 e13 hO, iX_c e4 e18 hX, iB_c e4 e8 (h.z (by decide)) hB⟩
  · rw [e4] at h4
    have h1 := hT o ho h4
    have h2 := h6 o ho h4
    unfold vo nfo at *
    rw [e4, e1, e9, e10, e11]
    exact ⟨h1.1, h2.1, h1.2.2.1, h1.2.2.2.1, h1.2.2.2.2.1, h2.2.trans h1.2.2.2.2.2⟩
  · unfold iW at *
    rw [h.z (by decide), e16, e4, e10]
    exact hW
theorem RC_down (H : iRc s) (h : same56 s s') (h6 : ∀ k, s' 6 k = if S k then 1 else s 6 k) (hS : ∀ k, S k = true → k < 80 ∧ s 4 k ≠ 0 ∧ s 6 k ≠ 1 ∧ s 6 k ≠ 2 ∧ s 6 k ≠ 4) (h5 : ∀ k, s' 5 k = s 5 k - tE s S k) : iRc s' ∧ ∀ k, k < 80 → s 4 k ≠ 0 → tE s S k ≤ s 5 k := by
  have e4 := h.fn (c := 4) (by decide) (by decide) (by decide)
  have e8 := h.fn (c := 8) (by decide) (by decide) (by decide)
  have e12 := h.fn (c := 12) (by decide) (by decide) (by decide)
  have key : ∀ k, eK s k = eK s' k + tE s S k := fun k => by
    have h64 : (s' 6 k != 4) = (s 6 k != 4) := by
      rw [h6 k]
      cases hs : S k with
      | true => have := (hS k hs).2.2.2.2; simp [this]
      | false => simp
    unfold eK tE
    rw [← cnt_add (fun i hi h1 => ?_)]
    · refine cnt_congr (fun i hi => ?_)
      rw [e4, e12, h64, h6 (i / 6)]
      cases hs : S (i / 6) with
      | true =>
        have := hS _ hs
        have q4 : decide (s 4 (i / 6) ≠ 0) = true := decide_eq_true this.2.1
        have q1 : (s 6 (i / 6) == 1) = false := by simp [this.2.2.1]
        have q2 : (s 6 (i / 6) == 2) = false := by simp [this.2.2.2.1]
        rw [q4, q1, q2]
        generalize (s 12 i == k + 1) = a
        generalize (s 6 k != 4) = b
        cases a <;> cases b <;> rfl
      | false =>
        simp
    · rw [e4, e12, h64, h6 (i / 6)] at h1
      cases hs : S (i / 6) with
      | true =>
        rw [hs] at h1
        revert h1
        generalize (s 12 i == k + 1) = a
        generalize (s 6 k != 4) = b
        generalize decide (s 4 (i / 6) ≠ 0) = c
        cases a <;> cases b <;> cases c <;> simp
      | false => rfl
  have key2 : ∀ k, k < 80 → s 4 k ≠ 0 → tE s S k ≤ s 5 k := fun k hk h4 => by
    have := H k hk h4
    have := key k
    omega
  refine ⟨fun k hk h4 => ?_, key2⟩
  rw [e4] at h4
  have := H k hk h4
  have := key k
  rw [h5 k, e8, wT_same h]
  omega
theorem RC_up (H : iRc s) (h : same56 s s') (h6 : ∀ k, s' 6 k = if S k then 0 else if W k then 2 else s 6 k) (hS : ∀ k, S k = true → k < 80 ∧ s 4 k ≠ 0 ∧ (s 6 k = 1 ∨ s 6 k = 2)) (hW : ∀ k, W k = true → s 6 k = 1 ∨ s 6 k = 2) (h5 : ∀ k, s' 5 k = s 5 k + tE s S k) : iRc s' := by
  have e4 := h.fn (c := 4) (by decide) (by decide) (by decide)
  have e8 := h.fn (c := 8) (by decide) (by decide) (by decide)
  have e12 := h.fn (c := 12) (by decide) (by decide) (by decide)
  have key : ∀ k, eK s' k = eK s k + tE s S k := fun k => by
    have h64 : (s' 6 k != 4) = (s 6 k != 4) := by
      rw [h6 k]
      cases hs : S k with
      | true => rcases (hS k hs).2.2 with q | q <;> simp [q]
      | false =>
        cases hw : W k with
        | true => rcases hW k hw with q | q <;> simp [q]
        | false => simp
    unfold eK tE
    rw [← cnt_add (fun i hi h1 => ?_)]
    · refine cnt_congr (fun i hi => ?_)
      rw [e4, e12, h64, h6 (i / 6)]
      cases hs : S (i / 6) with
      | true =>
        have := hS _ hs
        have q4 : decide (s 4 (i / 6) ≠ 0) = true := decide_eq_true this.2.1
        have q1 : (s 6 (i / 6) == 1 || s 6 (i / 6) == 2) = true := by rcases this.2.2 with q | q <;> simp [q]
        rw [q4, q1]
        generalize (s 12 i == k + 1) = a
        generalize (s 6 k != 4) = b
        cases a <;> cases b <;> rfl
      | false =>
        cases hw : W (i / 6) with
        | true =>
          have q1 : (s 6 (i / 6) == 1 || s 6 (i / 6) == 2) = true := by rcases hW _ hw with q | q <;> simp [q]
          rw [q1]
          simp
        | false => simp
    · cases hs : S (i / 6) with
      | true =>
        have q1 : (s 6 (i / 6) == 1 || s 6 (i / 6) == 2) = true := by rcases (hS _ hs).2.2 with q | q <;> simp [q]
        rw [q1] at h1
        revert h1
        generalize (s 12 i == k + 1) = a
        generalize (s 6 k != 4) = b
        generalize decide (s 4 (i / 6) ≠ 0) = c
        cases a <;> cases b <;> cases c <;> simp
      | false => rfl
  intro k hk h4
  rw [e4] at h4
  have := H k hk h4
  have := key k
  rw [h5 k, e8, wT_same h]
  omega
theorem trav_same (bl : Bool) : same56 s (travA bl root s) := fun c k h5 h6 h0 => by
  unfold travA
  rw [if_neg (fun q => h6 q.1), if_neg h5, if_neg (fun q => h0 ⟨q.1, by cases bl <;> simp [tx] at q <;> omega⟩)]
theorem trav_6 (bl : Bool) (k : Nat) : travA bl root s 6 k = if k < 80 ∧ tb (Rch bl s root k) = true then tc bl else s 6 k := by
  unfold travA
  by_cases q : k < 80 ∧ tb (Rch bl s root k) = true
  · rw [if_pos ⟨rfl, q⟩, if_pos q]
  · rw [if_neg (fun z => q z.2), if_neg q, if_neg (by decide), if_neg (fun z => absurd z.1 (by decide))]
theorem trav_5 (bl : Bool) (k : Nat) : travA bl root s 5 k = if bl then s 5 k + tE s (fun p => tb (Rch bl s root p)) k else s 5 k - tE s (fun p => tb (Rch bl s root p)) k := by
  unfold travA
  rw [if_neg (fun z => absurd z.1 (by decide)), if_pos rfl]
theorem Rch_ok {bl : Bool} (hF : iF s) (h80 : root < 80) (h4 : s 4 root ≠ 0) (h6 : s 6 root ≠ 4) (ht : s 6 root ≠ tc bl) {k : Nat} (h : Rch bl s root k) : k < 80 ∧ s 4 k ≠ 0 ∧ s 6 k ≠ 4 ∧ s 6 k ≠ tc bl :=
  h (fun k => k < 80 ∧ s 4 k ≠ 0 ∧ s 6 k ≠ 4 ∧ s 6 k ≠ tc bl) ⟨h80, h4, h6, ht⟩ (fun p e h hp he hv a b => by
    have hp80 := hp.1
    have hFi := hF (6 * p + e) (by omega) (by rw [show (6 * p + e) / 6 = p by omega]; exact hp.2.1)
    have h4h := (hFi.2 (by omega)).2
    rw [hv, show h + 1 - 1 = h by omega] at h4h
    exact ⟨by omega, h4h, a, b⟩)
end RCS

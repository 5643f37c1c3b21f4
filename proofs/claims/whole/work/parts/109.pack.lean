def pn (s : Sm) : Nat → Nat
  | 0 => 0
  | w + 1 => pn s w + (if bs s w = true then szo s (s 13 w - 1) else 0)
def mvd (s : Sm) : Nat → Nat
  | 0 => 0
  | w + 1 => mvd s w + (if bs s w = true ∧ w ≠ pn s w then 1 else 0)
def FL (s : Sm) : Nat → Nat → Nat
  | 0, _ => 0
  | w + 1, k => if bs s w = true ∧ pn s w ≤ k ∧ k < pn s w + szo s (s 13 w - 1) then s 13 w else FL s w k
def packA (s : Sm) : Sm := fun c k => if c = 13 ∧ k < 400 then FL s 400 k else if c = 7 ∧ k < 80 ∧ s 4 k ≠ 0 then pn s (s 7 k) else s c k
def pm (w : Nat) (s : Sm) : Sm := fun c k => if c = 13 ∧ k < 400 then FL s w k else if c = 7 ∧ k < 80 ∧ s 4 k ≠ 0 ∧ s 7 k < w then pn s (s 7 k) else s c k
def pc (w : Nat) (s : Sm) : Sm := fun c k => if c = 13 ∧ k < 400 then (if k < pn s w then FL s w k else if s 13 k ≠ 0 ∧ s 7 (s 13 k - 1) < w then 0 else s 13 k) else if c = 7 ∧ k < 80 ∧ s 4 k ≠ 0 ∧ s 7 k < w then pn s (s 7 k) else s c k
def PG (s : Sm) : Prop := (∀ o, o < 80 → s 4 o ≠ 0 → geo s o ∧ 0 < szo s o ∧ szo s o < 400) ∧ iO s
section PCK
variable {s : Sm} {n w o k : Nat}
theorem LI_PG {d : Nat → Nat} {m : Nat} {g : Nat → Nat} (H : LI n d m g s) : PG s := by
  refine ⟨fun o ho h4 => ?_, H.2.2.2.2.2.2.2.1⟩
  have hg := H.2.2.1 o ho h4
  have hv := ((H.2.1 o ho).1 h4).1
  have hk := (H.1 (s 4 o - 1) (by have := hv.1; have := hv.2.1; omega)).2.2 hv.2.2
  refine ⟨hg, by unfold szo; omega, by unfold szo; omega⟩
theorem PG_own (H : PG s) (hw : w < 400) (h0 : s 13 w ≠ 0) : s 13 w - 1 < 80 ∧ s 4 (s 13 w - 1) ≠ 0 ∧ s 7 (s 13 w - 1) ≤ w ∧ w < s 7 (s 13 w - 1) + szo s (s 13 w - 1) ∧ s 7 (s 13 w - 1) + szo s (s 13 w - 1) ≤ 400 ∧ bs s (s 7 (s 13 w - 1)) = true ∧ s 13 (s 7 (s 13 w - 1)) = s 13 w := by
  have hO := H.2 w hw
  have h80 : s 13 w - 1 < 80 := by omega
  have h4 := hO.2 h0
  have hg := H.1 _ h80 h4
  have h1 := (hg.1.2 w hw).mp (by omega)
  have h2 := (hg.1.2 (s 7 (s 13 w - 1)) (by have := hg.1.1; omega)).mpr ⟨Nat.le_refl _, by omega⟩
  have h3 : s 13 (s 7 (s 13 w - 1)) = s 13 w := by omega
  exact ⟨h80, h4, h1.1, h1.2, hg.1.1, bs_t.mpr ⟨by omega, by rw [h3]⟩, h3⟩
def below (s : Sm) (w x : Nat) : Bool := s 13 x != 0 && decide (s 7 (s 13 x - 1) < w)
theorem below_t {x : Nat} : below s w x = true ↔ s 13 x ≠ 0 ∧ s 7 (s 13 x - 1) < w := by
  unfold below
  simp
theorem pn_cnt (H : PG s) : ∀ w, w ≤ 400 → pn s w = cnt 400 (below s w) := by
  intro w
  induction w with
  | zero =>
    intro _
    exact (cnt_zero.mpr (fun x _ => by unfold below; simp)).symm
  | succ w ih =>
    intro hw
    show pn s w + _ = _
    rw [ih (by omega)]
    by_cases hb : bs s w = true
    · rw [if_pos hb]
      have h1 := bs_t.mp hb
      have h2 := PG_own H (show w < 400 by omega) h1.1
      have hg := H.1 _ h2.1 h2.2.1
      have e : cnt 400 (below s (w + 1)) = cnt 400 (fun x => below s w x || decide (s 7 (s 13 w - 1) ≤ x ∧ x < s 7 (s 13 w - 1) + szo s (s 13 w - 1))) := cnt_congr (fun x hx => by
        have hgx := hg.1.2 x hx
        by_cases hx0 : s 13 x = 0
        · have e1 : below s (w + 1) x = false := by unfold below; simp [hx0]
          have e2 : below s w x = false := by unfold below; simp [hx0]
          have e3 : ¬ (s 7 (s 13 w - 1) ≤ x ∧ x < s 7 (s 13 w - 1) + szo s (s 13 w - 1)) := fun z => by have := hgx.mpr z; omega
          rw [e1, e2, decide_eq_false e3]; rfl
        · by_cases hxo : s 13 x = s 13 w
          · have e1 : below s (w + 1) x = true := below_t.mpr ⟨hx0, by rw [hxo, h1.2]; omega⟩
            have e3 : s 7 (s 13 w - 1) ≤ x ∧ x < s 7 (s 13 w - 1) + szo s (s 13 w - 1) := hgx.mp (by omega)
            rw [e1, decide_eq_true e3, Bool.or_true]
          · have e3 : ¬ (s 7 (s 13 w - 1) ≤ x ∧ x < s 7 (s 13 w - 1) + szo s (s 13 w - 1)) := fun z => by have := hgx.mpr z; omega
            have e4 : s 7 (s 13 x - 1) ≠ w := fun z => by
              have h5 := PG_own H hx hx0
              rw [z] at h5
              omega
            rw [decide_eq_false e3, Bool.or_false]
            unfold below
            congr 1
            exact decide_eq_decide.mpr (by omega))
      rw [e, cnt_add (fun x hx hbx => by
        have hgx := hg.1.2 x hx
        apply decide_eq_false
        intro z
        have h5 := hgx.mpr z
        have h6 := (below_t.mp hbx).2
        rw [h5, show s 13 w - 1 + 1 - 1 = s 13 w - 1 by omega, h1.2] at h6
        omega), cnt_range (by omega) (by have := hg.1.1; omega)]
      omega
    · rw [if_neg hb, Nat.add_zero]
      refine cnt_congr (fun x hx => ?_)
      unfold below
      by_cases hx0 : s 13 x = 0
      · simp [hx0]
      · have e4 : s 7 (s 13 x - 1) ≠ w := fun z => by
          have h5 := PG_own H hx hx0
          rw [z] at h5
          exact hb h5.2.2.2.2.2.1
        congr 1
        exact decide_eq_decide.mpr (by omega)
theorem pn_mono {a b : Nat} (h : a ≤ b) : pn s a ≤ pn s b := by
  have h1 : ∀ d, pn s a ≤ pn s (a + d) := fun d => by
    induction d with
    | zero => exact Nat.le_refl _
    | succ d ih => exact Nat.le_trans ih (Nat.le_add_right _ _)
  have := h1 (b - a)
  rw [show a + (b - a) = b by omega] at this
  exact this
theorem pn_400 (H : PG s) (hw : w ≤ 400) : pn s w ≤ 400 := by
  rw [pn_cnt H w hw]
  exact cnt_le
theorem pn_succ (hb : bs s w = true) : pn s (w + 1) = pn s w + szo s (s 13 w - 1) := by
  show pn s w + _ = _
  rw [if_pos hb]
theorem pn_le (H : PG s) (hw : w < 400) (hb : bs s w = true) : pn s w ≤ w := by
  rw [pn_cnt H w (by omega)]
  have h1 := bs_t.mp hb
  have e : cnt 400 (below s w) = cnt w (below s w) := cnt_ext (by omega) (fun x hx1 hx2 => by
    cases hbx : below s w x with
    | false => rfl
    | true =>
      exfalso
      have h2 := below_t.mp hbx
      have h3 := PG_own H hx2 h2.1
      have hg := H.1 _ h3.1 h3.2.1
      have h4 := (hg.1.2 w hw).mpr ⟨by omega, by omega⟩
      have h5 : s 13 w - 1 = s 13 x - 1 := by omega
      rw [← h5, h1.2] at h2
      omega)
  rw [e]
  exact cnt_le
theorem FL_hi (h : pn s w ≤ k) : FL s w k = 0 := by
  induction w with
  | zero => rfl
  | succ w ih =>
    have h1 : pn s w ≤ pn s (w + 1) := pn_mono (by omega)
    show (if _ then _ else _) = 0
    rw [if_neg (fun z => by
      have := pn_succ z.1
      omega)]
    exact ih (by omega)
theorem FL_iff (H : PG s) (ho : o < 80) (h4 : s 4 o ≠ 0) : ∀ w, w ≤ 400 → ∀ k, (FL s w k = o + 1 ↔ s 7 o < w ∧ pn s (s 7 o) ≤ k ∧ k < pn s (s 7 o) + szo s o) := by
  have hg := H.1 o ho h4
  have hbo : bs s (s 7 o) = true ∧ s 13 (s 7 o) = o + 1 := by
    have h1 := (hg.1.2 (s 7 o) (by have := hg.1.1; omega)).mpr ⟨Nat.le_refl _, by omega⟩
    exact ⟨bs_t.mpr ⟨by omega, by rw [h1, show o + 1 - 1 = o by omega]⟩, h1⟩
  intro w
  induction w with
  | zero => intro _ k; show 0 = o + 1 ↔ _; omega
  | succ w ih =>
    intro hw k
    have hih := ih (by omega) k
    show (if bs s w = true ∧ pn s w ≤ k ∧ k < pn s w + szo s (s 13 w - 1) then s 13 w else FL s w k) = o + 1 ↔ _
    by_cases c : bs s w = true ∧ pn s w ≤ k ∧ k < pn s w + szo s (s 13 w - 1)
    · rw [if_pos c]
      have h1 := bs_t.mp c.1
      constructor
      · intro e
        have e2 : s 13 w - 1 = o := by omega
        rw [e2] at h1 c
        rw [h1.2]
        exact ⟨by omega, c.2⟩
      · intro ⟨a, b, d⟩
        by_cases q : s 7 o = w
        · rw [← q]; exact hbo.2
        · exfalso
          have h5 : pn s (s 7 o + 1) ≤ pn s w := pn_mono (by omega)
          rw [pn_succ hbo.1, hbo.2, show o + 1 - 1 = o by omega] at h5
          omega
    · rw [if_neg c, hih]
      constructor
      · intro z; exact ⟨by omega, z.2⟩
      · intro ⟨a, b, d⟩
        refine ⟨?_, b, d⟩
        by_cases q : s 7 o = w
        · exfalso
          apply c
          rw [← q]
          exact ⟨hbo.1, b, by rw [hbo.2, show o + 1 - 1 = o by omega]; exact d⟩
        · omega
theorem FL_zero (H : PG s) : ∀ w, w ≤ 400 → ∀ k, FL s w k = 0 ∨ ∃ o, o < 80 ∧ s 4 o ≠ 0 ∧ FL s w k = o + 1 := by
  intro w
  induction w with
  | zero => intro _ k; exact Or.inl rfl
  | succ w ih =>
    intro hw k
    have e : FL s (w + 1) k = if bs s w = true ∧ pn s w ≤ k ∧ k < pn s w + szo s (s 13 w - 1) then s 13 w else FL s w k := rfl
    rw [e]
    by_cases c : bs s w = true ∧ pn s w ≤ k ∧ k < pn s w + szo s (s 13 w - 1)
    · rw [if_pos c]
      right
      have h1 := bs_t.mp c.1
      have h2 := PG_own H (show w < 400 by omega) h1.1
      exact ⟨s 13 w - 1, h2.1, h2.2.1, by omega⟩
    · rw [if_neg c]
      exact ih (by omega) k
theorem pm_end (H : PG s) : pm 400 s = packA s := by
  funext c k
  unfold pm packA
  by_cases c7 : c = 7 ∧ k < 80 ∧ s 4 k ≠ 0
  · have hg := H.1 k c7.2.1 c7.2.2
    have h1 : c = 7 ∧ k < 80 ∧ s 4 k ≠ 0 ∧ s 7 k < 400 := ⟨c7.1, c7.2.1, c7.2.2, by have := hg.1.1; omega⟩
    rw [if_pos h1, if_pos c7]
  · rw [if_neg (show ¬ (c = 7 ∧ k < 80 ∧ s 4 k ≠ 0 ∧ s 7 k < 400) from fun z => c7 ⟨z.1, z.2.1, z.2.2.1⟩), if_neg c7]
theorem pc_end (H : PG s) : pc 400 s = packA s := by
  rw [← pm_end H]
  funext c k
  unfold pc pm
  by_cases c13 : c = 13 ∧ k < 400
  · rw [if_pos c13, if_pos c13]
    by_cases h1 : k < pn s 400
    · rw [if_pos h1]
    · rw [if_neg h1, FL_hi (by omega)]
      by_cases h0 : s 13 k = 0
      · rw [if_neg (fun z => z.1 h0), h0]
      · have h2 := PG_own H c13.2 h0
        rw [if_pos ⟨h0, by omega⟩]
  · rw [if_neg c13, if_neg c13]
theorem pc_0 : pc 0 s = s := by
  funext c k
  unfold pc
  have e : pn s 0 = 0 := rfl
  split
  · rename_i h
    rw [if_neg (by omega), if_neg (by omega), h.1]
  · rw [if_neg (by omega)]
theorem pc_bs (H : PG s) (hw : w < 400) : bs (pc w s) w = bs s w ∧ (bs s w = true → pc w s 13 w = s 13 w ∧ pc w s 7 (s 13 w - 1) = w) := by
  cases hb : bs s w with
  | true =>
    have h1 := bs_t.mp hb
    have h2 := pn_le H hw hb
    have a1 : pc w s 13 w = s 13 w := by
      unfold pc
      rw [if_pos ⟨rfl, hw⟩, if_neg (by omega), if_neg (fun z => by omega)]
    have a2 : pc w s 7 (s 13 w - 1) = w := by
      unfold pc
      rw [if_neg (by omega), if_neg (fun z => by omega)]
      exact h1.2
    exact ⟨bs_t.mpr ⟨by rw [a1]; exact h1.1, by rw [a1]; exact a2⟩, fun _ => ⟨a1, a2⟩⟩
  | false =>
    refine ⟨?_, fun z => by cases z⟩
    cases hc : bs (pc w s) w with
    | false => rfl
    | true =>
      exfalso
      have h1 := bs_t.mp hc
      have e13 : pc w s 13 w = if w < pn s w then FL s w w else if s 13 w ≠ 0 ∧ s 7 (s 13 w - 1) < w then 0 else s 13 w := by
        unfold pc
        rw [if_pos ⟨rfl, hw⟩]
      by_cases hlt : w < pn s w
      · rw [if_pos hlt] at e13
        rw [e13] at h1
        rcases FL_zero H w (by omega) w with z | ⟨o, ho, h4, z⟩
        · exact h1.1 z
        · have h5 := (FL_iff H ho h4 w (by omega) w).mp z
          rw [z, show o + 1 - 1 = o by omega] at h1
          have e7 : pc w s 7 o = pn s (s 7 o) := by
            unfold pc
            rw [if_neg (by omega), if_pos ⟨rfl, ho, h4, h5.1⟩]
          rw [e7] at h1
          have hg := H.1 o ho h4
          have hbo : bs s (s 7 o) = true := by
            have h6 := (hg.1.2 (s 7 o) (by have := hg.1.1; omega)).mpr ⟨Nat.le_refl _, by omega⟩
            exact bs_t.mpr ⟨by omega, by rw [h6, show o + 1 - 1 = o by omega]⟩
          have := pn_le H (by have := hg.1.1; omega) hbo
          omega
      · rw [if_neg hlt] at e13
        by_cases c : s 13 w ≠ 0 ∧ s 7 (s 13 w - 1) < w
        · rw [if_pos c] at e13
          exact h1.1 e13
        · rw [if_neg c] at e13
          rw [e13] at h1
          have h2 := PG_own H hw h1.1
          have h7 : s 7 (s 13 w - 1) = w := by omega
          have : bs s w = true := bs_t.mpr ⟨h1.1, h7⟩
          rw [hb] at this
          cases this
theorem pc_step (H : PG s) (hw : w < 400) (hb : bs s w = true) (k : Nat) (c : Nat) : pc (w + 1) s c k = if c = 7 ∧ k = s 13 w - 1 then pn s w else if c = 13 ∧ pn s w ≤ k ∧ k < pn s w + szo s (s 13 w - 1) then s 13 w else if c = 13 ∧ w ≤ k ∧ k < w + szo s (s 13 w - 1) then 0 else pc w s c k := by
  have h1 := bs_t.mp hb
  have h2 := PG_own H hw h1.1
  have hg := H.1 _ h2.1 h2.2.1
  have h3 := pn_le H hw hb
  have h4 := pn_400 H (show w + 1 ≤ 400 by omega)
  rw [pn_succ hb] at h4
  have hgk := fun hk : k < 400 => hg.1.2 k hk
  rw [h1.2] at hgk
  generalize ho : s 13 w - 1 = o at *
  have h13w : s 13 w = o + 1 := by omega
  unfold pc
  rw [pn_succ hb, ho]
  by_cases c13 : c = 13
  · subst c13
    rw [if_neg (show ¬ (13 = 7 ∧ k = o) by omega)]
    by_cases hk : k < 400
    · rw [if_pos (show 13 = 13 ∧ k < 400 from ⟨rfl, hk⟩), if_pos (show 13 = 13 ∧ k < 400 from ⟨rfl, hk⟩)]
      have eFL : FL s (w + 1) k = if bs s w = true ∧ pn s w ≤ k ∧ k < pn s w + szo s (s 13 w - 1) then s 13 w else FL s w k := rfl
      rw [ho] at eFL
      by_cases a : pn s w ≤ k ∧ k < pn s w + szo s o
      · rw [if_pos (show k < pn s w + szo s o by omega), eFL, if_pos ⟨hb, a⟩, if_pos ⟨rfl, a⟩]
      · rw [if_neg (show ¬ (13 = 13 ∧ pn s w ≤ k ∧ k < pn s w + szo s o) from fun z => a z.2)]
        by_cases b : k < pn s w
        · rw [if_pos (show k < pn s w + szo s o by omega), eFL, if_neg (fun z => a z.2), if_neg (show ¬ (13 = 13 ∧ w ≤ k ∧ k < w + szo s o) by omega), if_pos b]
        · rw [if_neg (show ¬ k < pn s w + szo s o by omega), if_neg b]
          by_cases d : w ≤ k ∧ k < w + szo s o
          · rw [if_pos (show 13 = 13 ∧ w ≤ k ∧ k < w + szo s o from ⟨rfl, d⟩)]
            have h5 := (hgk hk).mpr d
            rw [if_pos ⟨by omega, by rw [h5, show o + 1 - 1 = o by omega]; omega⟩]
          · rw [if_neg (show ¬ (13 = 13 ∧ w ≤ k ∧ k < w + szo s o) from fun z => d z.2)]
            have h5 : s 13 k ≠ o + 1 := fun z => d ((hgk hk).mp z)
            by_cases e0 : s 13 k = 0
            · rw [if_neg (show ¬ (s 13 k ≠ 0 ∧ s 7 (s 13 k - 1) < w + 1) from fun z => z.1 e0), if_neg (show ¬ (s 13 k ≠ 0 ∧ s 7 (s 13 k - 1) < w) from fun z => z.1 e0)]
            · have h6 := PG_own H hk e0
              have h7 : s 7 (s 13 k - 1) ≠ w := fun z => by
                rw [z] at h6
                omega
              by_cases f : s 7 (s 13 k - 1) < w
              · rw [if_pos (show s 13 k ≠ 0 ∧ s 7 (s 13 k - 1) < w + 1 from ⟨e0, by omega⟩), if_pos (show s 13 k ≠ 0 ∧ s 7 (s 13 k - 1) < w from ⟨e0, f⟩)]
              · rw [if_neg (show ¬ (s 13 k ≠ 0 ∧ s 7 (s 13 k - 1) < w + 1) by omega), if_neg (show ¬ (s 13 k ≠ 0 ∧ s 7 (s 13 k - 1) < w) from fun z => f z.2)]
    · rw [if_neg (fun z => hk z.2), if_neg (by omega), if_neg (by have := hg.1.1; rw [h1.2] at this; omega), if_neg (by omega), if_neg (fun z => hk z.2), if_neg (by omega)]
  · rw [if_neg (fun z => c13 z.1), if_neg (show ¬ (c = 13 ∧ pn s w ≤ k ∧ k < pn s w + szo s o) from fun z => c13 z.1), if_neg (show ¬ (c = 13 ∧ w ≤ k ∧ k < w + szo s o) from fun z => c13 z.1), if_neg (show ¬ (c = 13 ∧ k < 400) from fun z => c13 z.1)]
    by_cases c7 : c = 7
    · subst c7
      by_cases q : k = o
      · subst q
        rw [if_pos ⟨rfl, h2.1, h2.2.1, by omega⟩, if_pos ⟨rfl, rfl⟩, h1.2]
      · rw [if_neg (show ¬ (7 = 7 ∧ k = o) from fun z => q z.2)]
        by_cases a : k < 80 ∧ s 4 k ≠ 0
        · have hgk2 := H.1 k a.1 a.2
          have h7 : s 7 k ≠ w := fun z => by
            have h8 := (hgk2.1.2 w hw).mpr ⟨by omega, by omega⟩
            omega
          by_cases f : s 7 k < w
          · rw [if_pos ⟨rfl, a.1, a.2, by omega⟩, if_pos ⟨rfl, a.1, a.2, f⟩]
          · rw [if_neg (fun z => by omega), if_neg (fun z => f z.2.2.2)]
        · rw [if_neg (fun z => a ⟨z.2.1, z.2.2.1⟩), if_neg (fun z => a ⟨z.2.1, z.2.2.1⟩)]
    · rw [if_neg (fun z => c7 z.1), if_neg (fun z => c7 z.1), if_neg (fun z => c7 z.1)]
theorem pc_stay (H : PG s) (hw : w < 400) (hb : bs s w = false) : pc (w + 1) s = pc w s := by
  have e1 : pn s (w + 1) = pn s w := by show pn s w + _ = _; rw [hb]; rfl
  funext c k
  unfold pc
  rw [e1]
  have hno : ∀ x, x < 400 → s 13 x ≠ 0 → s 7 (s 13 x - 1) ≠ w := fun x hx h0 z => by
    have h6 := PG_own H hx h0
    rw [z, hb] at h6
    exact absurd h6.2.2.2.2.2.1 (by decide)
  have eFL : FL s (w + 1) k = FL s w k := by
    show (if _ then _ else _) = _
    rw [if_neg (fun z => by rw [hb] at z; cases z.1)]
  rw [eFL]
  by_cases c13 : c = 13 ∧ k < 400
  · rw [if_pos c13, if_pos c13]
    by_cases e0 : s 13 k = 0
    · rw [if_neg (show ¬ (s 13 k ≠ 0 ∧ s 7 (s 13 k - 1) < w + 1) from fun z => z.1 e0), if_neg (show ¬ (s 13 k ≠ 0 ∧ s 7 (s 13 k - 1) < w) from fun z => z.1 e0)]
    · have h7 := hno k c13.2 e0
      by_cases f : s 7 (s 13 k - 1) < w
      · rw [if_pos (show s 13 k ≠ 0 ∧ s 7 (s 13 k - 1) < w + 1 from ⟨e0, by omega⟩), if_pos (show s 13 k ≠ 0 ∧ s 7 (s 13 k - 1) < w from ⟨e0, f⟩)]
      · rw [if_neg (show ¬ (s 13 k ≠ 0 ∧ s 7 (s 13 k - 1) < w + 1) by omega), if_neg (show ¬ (s 13 k ≠ 0 ∧ s 7 (s 13 k - 1) < w) from fun z => f z.2)]
  · rw [if_neg c13, if_neg c13]
    by_cases a : c = 7 ∧ k < 80 ∧ s 4 k ≠ 0
    · have hg := H.1 k a.2.1 a.2.2
      have h7 : s 7 k ≠ w := fun z => by
        have h8 := (hg.1.2 w hw).mpr ⟨by omega, by omega⟩
        have : bs s w = true := bs_t.mpr ⟨by omega, by rw [h8, show k + 1 - 1 = k by omega]; exact z⟩
        rw [hb] at this
        cases this
      by_cases f : s 7 k < w
      · rw [if_pos ⟨a.1, a.2.1, a.2.2, by omega⟩, if_pos ⟨a.1, a.2.1, a.2.2, f⟩]
      · rw [if_neg (fun z => by omega), if_neg (fun z => f z.2.2.2)]
    · rw [if_neg (fun z => a ⟨z.1, z.2.1, z.2.2.1⟩), if_neg (fun z => a ⟨z.1, z.2.1, z.2.2.1⟩)]
end PCK

section TRM0
variable {bl : Bool} {s0 s : Sm} {root : Nat} {S De : Nat → Bool} {lo hi p f : Nat} {g : Nat → Nat}
theorem stS_cnt {h : Nat} (HI : GI bl s0 root S De s) (hh : h < 80) : cnt 80 (stS bl s h S) + hi = cnt 80 S + stH bl s h hi := by
  unfold stH
  by_cases z : s 6 h = tc bl
  · rw [if_pos z]
    congr 1
    exact cnt_congr (fun k _ => by simp [stS, z])
  · have hnS : S h = false := by
      cases hs : S h with
      | false => rfl
      | true => rw [HI.2.1 h, hs] at z; simp at z
    rw [if_neg z, cnt_on (n := 80) (k := h) (p := S) (q := stS bl s h S) hh (fun k _ hk => by simp [stS, hk]) hnS (by simp [stS, z])]
    omega
theorem GP_to6 (hp : p < 80) (H : GP s0 S De lo hi g p f) (hf : f ≤ 6) (hq : ∀ e, f ≤ e → e < 6 → ¬ tQ s0 (6 * p + e)) : GP s0 S De lo hi g p 6 := by
  have key : ∀ d, f + d ≤ 6 → GP s0 S De lo hi g p (f + d) := by
    intro d
    induction d with
    | zero => intro _; exact H
    | succ d ih =>
      intro hd
      exact GP_skip (f := f + d) hp (ih (by omega)) (by omega) (hq (f + d) (by omega) (by omega))
  have := key (6 - f) (by omega)
  rw [show f + (6 - f) = 6 by omega] at this
  exact this
end TRM0
section TRM
variable {r u : Mm} {s s0 : Sm} {o N root : Nat}
def WR (u : Mm) (hi : Nat) (g : Nat → Nat) : Prop := u.1 0 27 = i3 hi ∧ ∀ j, j < hi → u.1 25 j = i3 (g j)
def KP (w0 u : Mm) : Prop := ∀ c k, ¬ nsc c k → c ≠ 30 → c < 31 → u.1 c k = w0.1 c k
def WB (u : Mm) (hi : Nat) (g : Nat → Nat) : Prop := ∀ j, j < hi → u.1 30 j = i3 (g j)
theorem WR.keep {u' : Mm} {s' : Sm} {hi : Nat} {g : Nat → Nat} (h : WR u hi g) (h' : MR u u' s') : WR u' hi g := by
  refine ⟨?_, fun j hj => ?_⟩
  · rw [h'.f (by simp [nsc])]; exact h.1
  · rw [h'.f (by simp [nsc])]; exact h.2 j hj
theorem WB.keep {u' : Mm} {s' : Sm} {hi : Nat} {g : Nat → Nat} (h : WB u hi g) (h' : MR u u' s') : WB u' hi g := fun j hj => by
  rw [h'.f (by simp [nsc])]; exact h j hj
theorem mo_grayOne {hi : Nat} {g : Nat → Nat} (C : Ms r u s) (W : WR u hi g) (ho : o < 80) (h6 : s 6 o ≤ 4) (h64 : s 6 o ≠ 4) (hhi : s 6 o ≠ tc false → hi < 80) :
    Go (f_X8_grayOne N (i3 o) u) (fun u' => Ms r u' (trnA false o s) ∧ WR u' (stH false s o hi) (pshg o hi g)) := by
  unfold f_X8_grayOne
  have z1 : i3 (s 6 o) = 1 ↔ s 6 o = 1 := i3_eqL (by omega) (by decide)
  have z4 : i3 (s 6 o) = 4 ↔ s 6 o = 4 := i3_eqL (by omega) (by decide)
  rw [i3_bI (by omega), decide_eq_true ho, ck_t, pt_d, i3_ix (by omega), C.mr.g6 ho]
  unfold trnA stH
  have etc : tc false = 1 := rfl
  have etx : tx false = 23 := rfl
  rw [etc, etx]
  rw [etc] at hhi
  by_cases hc : s 6 o = 1
  · rw [if_pos (z1.mpr hc)]
    refine Go.s ⟨by rw [if_pos hc]; exact C, by rw [if_pos hc]; exact ⟨W.1, fun j hj => by unfold pshg; rw [if_neg (by omega)]; exact W.2 j hj⟩⟩
  · have hb := hhi hc
    rw [if_neg (fun z => hc (z1.mp z)), ck_t, pt_d, if_neg (fun z => h64 (z4.mp z)), ck_t, pt_d]
    have C1 := C.mr.set (c := 6) (k := o) (v := 1) (w := 1) (by simp [nsc] <;> omega) rfl
    rw [pt_d, C1.g0 (k := 23) (by simp [nsc]), nS_ne (by omega), i3_addL, pt_d]
    have C2 := C1.set (c := 0) (k := 23) (v := s 0 23 + 1) (w := i3 (s 0 23 + 1)) (by simp [nsc]) rfl
    have W2 := W.keep C2
    rw [pt_d, W2.1, i3_bI (by omega), decide_eq_true hb, ck_t, pt_d, i3_ix (by omega), pt_d]
    have e27 : (sI (sI (sI u 6 o 1) 0 23 (i3 (s 0 23 + 1))) 25 hi (i3 o)).1 0 27 = i3 hi := W2.1
    rw [e27, i3_addL, pt_d]
    refine Go.s ⟨?_, ?_⟩
    · rw [if_neg hc]
      exact ((C.step C2).scr (by decide) (by simp [nsc])).scr (by decide) (by simp [nsc])
    · rw [if_neg hc]
      refine ⟨rfl, fun j hj => ?_⟩
      rw [sI_x (by omega)]
      show (if 25 = 25 ∧ j = hi then i3 o else (sI (sI u 6 o 1) 0 23 (i3 (s 0 23 + 1))).1 25 j) = i3 (pshg o hi g j)
      unfold pshg
      by_cases z : j = hi
      · rw [if_pos ⟨rfl, z⟩, if_pos z]
      · rw [if_neg (fun y => z y.2), if_neg z]
        exact W2.2 j (by omega)
theorem mo_grayIn (hF : iF s0) (hK : iK s0) (hV : ∀ k, k < 80 → s0 4 k ≠ 0 → vo s0 k ∧ s0 6 k ≤ 4) (hOK : tOK false s0 root) {p x : Nat} (hp : p < 80) {K10 : Mm → Option Mm} {P : Mm → Prop}
    (hk : ∀ (u : Mm) (s : Sm) (S De : Nat → Bool) (hi : Nat) (g : Nat → Nat), Ms r u s → WR u hi g → GI false s0 root S De s → GP s0 S De 0 hi g 80 0 → hi + x = cnt 80 S → Go (K10 u) P) :
    ∀ (j f : Nat) (u : Mm) (s : Sm) (S De : Nat → Bool) (hi : Nat) (g : Nat → Nat), f ≤ 6 → 6 - f < j → Ms r u s → WR u hi g → GI false s0 root S De s → GP s0 S De 0 hi g p f → hi + x = cnt 80 S →
    Go (f_X8_gray_39 N K10 j (i3 p) (i3 f) u) P := by
  intro j
  induction j with
  | zero => intro f u s S De hi g _ hj; omega
  | succ j ih =>
    intro f u s S De hi g hf hj C W HI HP hx
    show Go (g_X8_gray_39 N K10 (f_X8_gray_39 N K10 j) (i3 p) (i3 f) u) P
    unfold g_X8_gray_39
    have hS80 : ∀ k, S k = true → k < 80 := fun k hk => (HI.2.2.2.2.1 k hk).1
    have hSp := (HP.2.2.1 hp).1
    have h4p := (HI.2.2.2.2.1 p hSp).2.1
    have hi6 : (6 * p + f) / 6 = p ∨ f = 6 := by omega
    have c4 : ∀ k, s 4 k = s0 4 k := fun k => HI.1 4 _ (by decide) (by decide) (by omega)
    have c1 : ∀ k, s 1 k = s0 1 k := fun k => HI.1 1 _ (by decide) (by decide) (by omega)
    have hvp := (hV p hp h4p).1
    have hvp' : vo s p := by unfold vo at *; rw [c4, c1]; exact hvp
    have hy := (hK (s0 4 p - 1) (by have := hvp.1; have := hvp.2.1; omega)).1
    have enf : nfo s p = nfo s0 p := by unfold nfo; rw [c4, c1]
    have hn6 : nfo s0 p ≤ 6 := by unfold nfo; omega
    refine Go_bde (mo_fieldsOf C.mr hp hvp' (by rw [c4, c1]; exact hy)) ?_
    rw [enf]
    by_cases hfn : nfo s0 p ≤ f
    · rw [if_pos ((i3_le (by omega) (by omega)).mpr hfn)]
      refine hk u s S De hi g C W HI (GP_done hS80 hp (GP_to6 hp HP hf (fun e he he6 z => ?_))) hx
      have hF1 := hF (6 * p + e) (by omega) (by rw [show (6 * p + e) / 6 = p by omega]; exact h4p)
      have := (hF1.2 z.1).1
      rw [show (6 * p + e) / 6 = p by omega] at this
      omega
    · have e6 : 6 * i3 p + i3 f = i3 (6 * p + f) := by rw [i3_mulL, i3_add]
      have hFh := hF (6 * p + f) (by omega) (by rw [show (6 * p + f) / 6 = p by omega]; exact h4p)
      have e12 : s 12 (6 * p + f) = s0 12 (6 * p + f) := HI.1 12 _ (by decide) (by decide) (by omega)
      rw [if_neg (fun z => hfn ((i3_le (by omega) (by omega)).mp z)), e6, i3_bI (by omega), decide_eq_true (by omega), ck_t, pt_d, i3_ix (by omega), C.mr.g12 (by omega), e12]
      unfold f_X8_gray_94
      rw [i3_addL]
      have zlt : oI (s0 12 (6 * p + f)) < 0 ↔ s0 12 (6 * p + f) = 0 := oI_lt0 (by omega)
      by_cases hz : s0 12 (6 * p + f) = 0
      · rw [if_pos (zlt.mpr hz)]
        exact ih (f + 1) u s S De hi g (by omega) (by omega) C W HI (GP_skip hp HP (by omega) (fun y => y.1 hz)) hx
      · have h4h := (hFh.2 hz).2
        generalize hhd : s0 12 (6 * p + f) - 1 = h at h4h
        have hv : s0 12 (6 * p + f) = h + 1 := by omega
        have hh80 : h < 80 := by omega
        rw [if_neg (fun z => hz (zlt.mp z)), hv, oI_s, i3_bI (by omega), decide_eq_true hh80, ck_t, pt_d, i3_ix (by omega), C.mr.g6 hh80]
        have h604 := (hV h hh80 h4h).2
        have htl := tc_le (bl := false)
        have h6le : s 6 h ≤ 4 := by rw [HI.2.1 h]; split <;> omega
        have h6iff : s 6 h = 4 ↔ s0 6 h = 4 := by
          rw [HI.2.1 h]
          cases hs : S h with
          | true => have := (HI.2.2.2.2.1 h hs).2.2.2.1; simp; omega
          | false => simp
        have z4 : i3 (s 6 h) = 4 ↔ s 6 h = 4 := i3_eqL (by omega) (by decide)
        by_cases hg : s0 6 h = 4
        · rw [if_pos (z4.mpr (h6iff.mpr hg))]
          exact ih (f + 1) u s S De hi g (by omega) (by omega) C W HI (GP_skip hp HP (by omega) (fun y => y.2 (by rw [hhd]; exact hg))) hx
        · have hg' : s 6 h ≠ 4 := fun z => hg (h6iff.mp z)
          have hcnt := trav_count HI HP hp (by omega) hv hg hh80 h4h hOK rfl
          have HE := trav_edge hF HI HP hp (by omega) hv hg
          rw [if_neg (fun z => hg' (z4.mp z)), ck_t, pt_d, ck_t, pt_d, C.mr.g5 hh80, show i3 (s 5 h) - 1 = i3 (s 5 h - 1) from i3_subL hcnt]
          have C1 := C.mr.set (c := 5) (k := h) (v := s 5 h - 1) (w := i3 (s 5 h - 1)) (by simp [nsc] <;> omega) rfl
          have hS2 : s 6 h ≠ tc false → hi < 80 := fun z => by
            have hnS : S h = false := by
              cases hs : S h with
              | false => rfl
              | true => rw [HI.2.1 h, hs] at z; simp at z
            have := cnt_lt (n := 80) (p := S) hh80 hnS
            have := HP.2.2.2.2
            omega
          have ec6 : cngA false h s 6 h = s 6 h := nS_ne (by omega)
          refine Go.bv (mo_grayOne (s := cngA false h s) (C.step C1) (W.keep C1) hh80 (by rw [ec6]; exact h6le) (by rw [ec6]; exact hg') (by rw [ec6]; exact hS2)) (fun u2 h2 => ?_)
          have est : stH false (cngA false h s) h hi = stH false s h hi := by unfold stH; rw [ec6]
          rw [est] at h2
          have hc := stS_cnt (hi := hi) HI hh80
          exact ih (f + 1) u2 _ _ _ _ _ (by omega) (by omega) h2.1 h2.2 HE.1 HE.2 (by omega)
theorem mo_grayOut (hN : 5000 ≤ N) (hF : iF s0) (hK : iK s0) (hV : ∀ k, k < 80 → s0 4 k ≠ 0 → vo s0 k ∧ s0 6 k ≤ 4) (hOK : tOK false s0 root) :
    ∀ (j x : Nat) (u : Mm) (s : Sm) (S De : Nat → Bool) (hi : Nat) (g : Nat → Nat), 80 - x < j → Ms r u s → WR u hi g → GI false s0 root S De s → GP s0 S De 0 hi g 80 0 → hi + x = cnt 80 S →
    Go (f_X8_gray_10 N j u) (fun u' => Ms r u' (travA false root s0)) := by
  intro j
  induction j with
  | zero => intro x u s S De hi g hj; omega
  | succ j ih =>
    intro x u s S De hi g hj C W HI HP hx
    show Go (g_X8_gray_10 N (f_X8_gray_10 N j) u) _
    unfold g_X8_gray_10
    have hS80 : ∀ k, S k = true → k < 80 := fun k hk => (HI.2.2.2.2.1 k hk).1
    have hle : cnt 80 S ≤ 80 := cnt_le
    rw [pt_d, W.1]
    by_cases h0 : hi = 0
    · subst h0
      rw [if_pos (show i3 0 ≤ 0 by decide)]
      rw [← trav_end HI HP]
      exact Go.s C
    · rw [if_neg (show ¬ i3 hi ≤ 0 by rw [i3_leL (by omega) (by decide)]; omega), pt_d, pt_d, show i3 hi - 1 = i3 (hi - 1) from i3_subL (show 1 ≤ hi by omega)]
      have C1 : Ms r (sI u 0 27 (i3 (hi - 1))) s := C.scr (by decide) (by simp [nsc])
      have W1 : WR (sI u 0 27 (i3 (hi - 1))) (hi - 1) g := ⟨rfl, fun j hj => W.2 j (by omega)⟩
      rw [pt_d, W1.1, i3_bI (by omega), decide_eq_true (by omega), ck_t, pt_d, i3_ix (by omega), show (sI u 0 27 (i3 (hi - 1))).1 25 (hi - 1) = i3 (g (hi - 1)) from W.2 (hi - 1) (by omega)]
      have HP2 := GP_hi hS80 HP (show 0 < hi by omega)
      have hSg := (HP.1 (hi - 1) (by omega) (by omega)).1
      exact mo_grayIn hF hK hV hOK (hS80 _ hSg) (x := x + 1) (fun u1 s1 S1 De1 hi1 g1 C1 W1 HI1 HP1 hx1 => ih (x + 1) u1 s1 S1 De1 hi1 g1 (by have : cnt 80 S1 ≤ 80 := cnt_le; omega) C1 W1 HI1 HP1 hx1) N 0 _ s S De (hi - 1) g (by omega) (by omega) C1 W1 HI HP2 (by omega)
theorem mo_gray (hN : 5000 ≤ N) (hF : iF s) (hK : iK s) (hV : ∀ k, k < 80 → s 4 k ≠ 0 → vo s k ∧ s 6 k ≤ 4) (hOK : tOK false s o) (C : Ms r u s) (ho : o < 80) (h4 : s 4 o ≠ 0) (h64 : s 6 o ≠ 4) (h6 : s 6 o ≠ tc false) :
    Go (f_X8_gray N (i3 o) u) (fun u' => Ms r u' (travA false o s)) := by
  unfold f_X8_gray
  rw [pt_d]
  have C1 : Ms r (sI u 0 27 0) s := C.scr (by decide) (by simp [nsc])
  have W1 : WR (sI u 0 27 0) 0 (fun _ => o) := ⟨rfl, fun j hj => by omega⟩
  refine Go.bv (mo_grayOne C1 W1 ho (hV o ho h4).2 h64 (fun _ => by omega)) (fun u2 h2 => ?_)
  have HS := trav_start ho h4 h6 h64
  have e1 : stH false s o 0 = 1 := by unfold stH; rw [if_neg h6]
  rw [e1] at h2
  have ec : cnt 80 (fun k => k == o) = 1 := by
    have := cnt_on (n := 80) (k := o) (p := fun _ => false) (q := fun k => k == o) ho (fun i _ hi => by simp [hi]) rfl (by simp)
    rw [this, cnt_zero.mpr (fun _ _ => rfl)]
  refine mo_grayOut hN hF hK hV hOK N 0 u2 _ _ _ 1 (fun _ => o) (by omega) h2.1 ⟨h2.2.1, fun j hj => ?_⟩ HS.1 HS.2 (by rw [ec])
  have := h2.2.2 j hj
  unfold pshg at this
  rw [if_pos (by omega)] at this
  exact this
theorem mo_blackIn (hF : iF s0) (hK : iK s0) (hV : ∀ k, k < 80 → s0 4 k ≠ 0 → vo s0 k ∧ s0 6 k ≤ 4) {p x : Nat} (hp : p < 80) {K25 : Int32 → Mm → Option Mm} {P : Mm → Prop} {w0 : Mm}
    (hk : ∀ (u : Mm) (s : Sm) (S De : Nat → Bool) (hi : Nat) (g : Nat → Nat), Ms r u s → WB u hi g → KP w0 u → GI true s0 root S De s → GP s0 S De 0 hi g 80 0 → hi + x = cnt 80 S → Go (K25 (i3 hi) u) P) :
    ∀ (j f : Nat) (u : Mm) (s : Sm) (S De : Nat → Bool) (hi : Nat) (g : Nat → Nat), f ≤ 6 → 6 - f < j → Ms r u s → WB u hi g → KP w0 u → GI true s0 root S De s → GP s0 S De 0 hi g p f → hi + x = cnt 80 S →
    Go (f_X8_blacken_42 N K25 j (i3 hi) (i3 p) (i3 f) u) P := by
  intro j
  induction j with
  | zero => intro f u s S De hi g _ hj; omega
  | succ j ih =>
    intro f u s S De hi g hf hj C W W9 HI HP hx
    show Go (g_X8_blacken_42 N K25 (f_X8_blacken_42 N K25 j) (i3 hi) (i3 p) (i3 f) u) P
    unfold g_X8_blacken_42
    have hS80 : ∀ k, S k = true → k < 80 := fun k hk => (HI.2.2.2.2.1 k hk).1
    have hSp := (HP.2.2.1 hp).1
    have h4p := (HI.2.2.2.2.1 p hSp).2.1
    have c4 : ∀ k, s 4 k = s0 4 k := fun k => HI.1 4 _ (by decide) (by decide) (by omega)
    have c1 : ∀ k, s 1 k = s0 1 k := fun k => HI.1 1 _ (by decide) (by decide) (by omega)
    have hvp := (hV p hp h4p).1
    have hvp' : vo s p := by unfold vo at *; rw [c4, c1]; exact hvp
    have hy := (hK (s0 4 p - 1) (by have := hvp.1; have := hvp.2.1; omega)).1
    have enf : nfo s p = nfo s0 p := by unfold nfo; rw [c4, c1]
    have hn6 : nfo s0 p ≤ 6 := by unfold nfo; omega
    refine Go_bde (mo_fieldsOf C.mr hp hvp' (by rw [c4, c1]; exact hy)) ?_
    rw [enf]
    by_cases hfn : nfo s0 p ≤ f
    · rw [if_pos ((i3_le (by omega) (by omega)).mpr hfn)]
      refine hk u s S De hi g C W W9 HI (GP_done hS80 hp (GP_to6 hp HP hf (fun e he he6 z => ?_))) hx
      have hF1 := hF (6 * p + e) (by omega) (by rw [show (6 * p + e) / 6 = p by omega]; exact h4p)
      have := (hF1.2 z.1).1
      rw [show (6 * p + e) / 6 = p by omega] at this
      omega
    · have e6 : 6 * i3 p + i3 f = i3 (6 * p + f) := by rw [i3_mulL, i3_add]
      have hFh := hF (6 * p + f) (by omega) (by rw [show (6 * p + f) / 6 = p by omega]; exact h4p)
      have e12 : s 12 (6 * p + f) = s0 12 (6 * p + f) := HI.1 12 _ (by decide) (by decide) (by omega)
      rw [if_neg (fun z => hfn ((i3_le (by omega) (by omega)).mp z)), e6, i3_bI (by omega), decide_eq_true (by omega), ck_t, pt_d, i3_ix (by omega), C.mr.g12 (by omega), e12]
      unfold f_X8_blacken_132
      rw [i3_addL]
      have zlt : oI (s0 12 (6 * p + f)) < 0 ↔ s0 12 (6 * p + f) = 0 := oI_lt0 (by omega)
      by_cases hz : s0 12 (6 * p + f) = 0
      · rw [if_pos (zlt.mpr hz)]
        exact ih (f + 1) u s S De hi g (by omega) (by omega) C W W9 HI (GP_skip hp HP (by omega) (fun y => y.1 hz)) hx
      · have h4h := (hFh.2 hz).2
        generalize hhd : s0 12 (6 * p + f) - 1 = h at h4h
        have hv : s0 12 (6 * p + f) = h + 1 := by omega
        have hh80 : h < 80 := by omega
        rw [if_neg (fun z => hz (zlt.mp z)), hv, oI_s, i3_bI (by omega), decide_eq_true hh80, ck_t, pt_d, i3_ix (by omega), C.mr.g6 hh80]
        have h604 := (hV h hh80 h4h).2
        have htl := tc_le (bl := true)
        have h6le : s 6 h ≤ 4 := by rw [HI.2.1 h]; split <;> omega
        have h6iff : s 6 h = 4 ↔ s0 6 h = 4 := by
          rw [HI.2.1 h]
          cases hs : S h with
          | true => have := (HI.2.2.2.2.1 h hs).2.2.2.1; simp; omega
          | false => simp
        have z4 : i3 (s 6 h) = 4 ↔ s 6 h = 4 := i3_eqL (by omega) (by decide)
        have z0 : i3 (s 6 h) = 0 ↔ s 6 h = 0 := i3_eqL (by omega) (by decide)
        by_cases hg : s0 6 h = 4
        · rw [if_pos (z4.mpr (h6iff.mpr hg))]
          exact ih (f + 1) u s S De hi g (by omega) (by omega) C W W9 HI (GP_skip hp HP (by omega) (fun y => y.2 (by rw [hhd]; exact hg))) hx
        · have hg' : s 6 h ≠ 4 := fun z => hg (h6iff.mp z)
          have HE := trav_edge hF HI HP hp (by omega) hv hg
          rw [if_neg (fun z => hg' (z4.mp z)), ck_t, pt_d, ck_t, pt_d, C.mr.g5 hh80, i3_addL]
          have C1 : MR u (sI u 5 h (i3 (s 5 h + 1))) (cngA true h s) := C.mr.set (c := 5) (k := h) (v := s 5 h + 1) (w := i3 (s 5 h + 1)) (by simp [nsc] <;> omega) rfl
          have ec6 : cngA true h s 6 h = s 6 h := nS_ne (by omega)
          rw [ck_t, pt_d, C1.g6 hh80, ec6]
          have hc := stS_cnt (hi := hi) HI hh80
          have etc : tc true = 0 := rfl
          have etx : tx true = 24 := rfl
          by_cases h60 : s 6 h = 0
          · rw [if_pos (z0.mpr h60)]
            have es : stH true s h hi = hi := by unfold stH; rw [if_pos (by rw [etc]; exact h60)]
            have et : trnA true h (cngA true h s) = cngA true h s := by unfold trnA; rw [ec6, if_pos (by rw [etc]; exact h60)]
            rw [es, et] at HE
            rw [es] at hc
            have hl := HE.2.2.2.2
            refine ih (f + 1) _ _ _ _ hi (pshg h hi g) (by omega) (by omega) (C.step C1) (fun j hj => ?_) (fun c k a b d => ?_) HE.1 HE.2 (by omega)
            · unfold pshg; rw [if_neg (by omega)]; exact W.keep C1 j hj
            · exact (C1.f a).trans (W9 c k a b d)
          · have hb : hi < 80 := by
              have hnS : S h = false := by
                cases hs : S h with
                | false => rfl
                | true => rw [HI.2.1 h, hs, etc] at h60; simp at h60
              have := cnt_lt (n := 80) (p := S) hh80 hnS
              have := HP.2.2.2.2
              omega
            have es : stH true s h hi = hi + 1 := by unfold stH; rw [if_neg (by rw [etc]; exact h60)]
            have et : trnA true h (cngA true h s) = nS (nS (cngA true h s) 6 h 0) 0 24 (s 0 24 + 1) := by
              unfold trnA
              rw [ec6, if_neg (by rw [etc]; exact h60), etc, etx]
              rfl
            rw [es, et] at HE
            rw [es] at hc
            rw [if_neg (fun z => h60 (z0.mp z)), ck_t, pt_d]
            have C2 := C1.set (c := 6) (k := h) (v := 0) (w := 0) (by simp [nsc] <;> omega) rfl
            have e24 : nS (cngA true h s) 6 h 0 0 24 = s 0 24 := by rw [nS_ne (by omega)]; exact nS_ne (by omega)
            rw [pt_d, C2.g0 (k := 24) (by simp [nsc]), e24, i3_addL, pt_d]
            have C3 := C2.set (c := 0) (k := 24) (v := s 0 24 + 1) (w := i3 (s 0 24 + 1)) (by simp [nsc]) rfl
            have W3 := W.keep C3
            rw [i3_bI (by omega), decide_eq_true hb, ck_t, pt_d, i3_ix (by omega), i3_addL]
            refine ih (f + 1) _ _ _ _ (hi + 1) (pshg h hi g) (by omega) (by omega) ((C.step C3).scr (by decide) (by simp [nsc])) (fun j hj => ?_) (fun c k a b d => ?_) HE.1 HE.2 (by omega)
            · show (if 30 = 30 ∧ j = hi then i3 h else (sI (sI (sI u 5 h (i3 (s 5 h + 1))) 6 h 0) 0 24 (i3 (s 0 24 + 1))).1 30 j) = i3 (pshg h hi g j)
              unfold pshg
              by_cases z : j = hi
              · rw [if_pos ⟨rfl, z⟩, if_pos z]
              · rw [if_neg (fun y => z y.2), if_neg z]
                exact W3 j (by omega)
            · rw [sI_x (fun z => b z.1)]
              exact (C3.f a).trans (W9 c k a b d)
theorem mo_blackOut (hN : 5000 ≤ N) (hF : iF s0) (hK : iK s0) (hV : ∀ k, k < 80 → s0 4 k ≠ 0 → vo s0 k ∧ s0 6 k ≤ 4) {w0 : Mm} :
    ∀ (j x : Nat) (u : Mm) (s : Sm) (S De : Nat → Bool) (hi : Nat) (g : Nat → Nat), 80 - x < j → Ms r u s → WB u hi g → KP w0 u → GI true s0 root S De s → GP s0 S De 0 hi g 80 0 → hi + x = cnt 80 S →
    Go (f_X8_blacken_25 N j (i3 hi) u) (fun u' => Ms r u' (travA true root s0) ∧ KP w0 u') := by
  intro j
  induction j with
  | zero => intro x u s S De hi g hj; omega
  | succ j ih =>
    intro x u s S De hi g hj C W W9 HI HP hx
    show Go (g_X8_blacken_25 N (f_X8_blacken_25 N j) (i3 hi) u) _
    unfold g_X8_blacken_25
    have hS80 : ∀ k, S k = true → k < 80 := fun k hk => (HI.2.2.2.2.1 k hk).1
    have hle : cnt 80 S ≤ 80 := cnt_le
    by_cases h0 : hi = 0
    · subst h0
      rw [if_pos (show i3 0 ≤ 0 by decide)]
      rw [← trav_end HI HP]
      exact Go.s ⟨C, W9⟩
    · have em : i3 hi + -1 = i3 (hi - 1) := by
        rw [show i3 hi + -1 = i3 hi - 1 from (Int32.sub_eq_add_neg _ _).symm]
        exact i3_subL (show 1 ≤ hi by omega)
      rw [if_neg (show ¬ i3 hi ≤ 0 by rw [i3_leL (by omega) (by decide)]; omega), em, i3_bI (by omega), decide_eq_true (by omega), ck_t, pt_d, i3_ix (by omega), W (hi - 1) (by omega)]
      have HP2 := GP_hi hS80 HP (show 0 < hi by omega)
      have hSg := (HP.1 (hi - 1) (by omega) (by omega)).1
      exact mo_blackIn hF hK hV (hS80 _ hSg) (x := x + 1) (w0 := w0) (fun u1 s1 S1 De1 hi1 g1 C1 W1 W91 HI1 HP1 hx1 => ih (x + 1) u1 s1 S1 De1 hi1 g1 (by have : cnt 80 S1 ≤ 80 := cnt_le; omega) C1 W1 W91 HI1 HP1 hx1) N 0 u s S De (hi - 1) g (by omega) (by omega) C (fun j hj => W j (by omega)) W9 HI HP2 (by omega)
theorem mo_black (hN : 5000 ≤ N) (hF : iF s) (hK : iK s) (hV : ∀ k, k < 80 → s 4 k ≠ 0 → vo s k ∧ s 6 k ≤ 4) (C : Ms r u s) (ho : o < 80) (h4 : s 4 o ≠ 0) (h64 : s 6 o ≠ 4) (h6 : s 6 o ≠ tc true) :
    Go (f_X8_blacken N (i3 o) u) (fun u' => Ms r u' (travA true o s) ∧ KP u u') := by
  unfold f_X8_blacken
  rw [show bI 0 80 = true by decide, ck_t, pt_d, show ix 0 = 0 by decide]
  have C1 : Ms r (sI u 30 0 (i3 o)) s := C.scr (by decide) (by simp [nsc])
  refine Go.bv (mo_turn C1.mr ho (hV o ho h4).2) (fun u2 C2 => ?_)
  have etc : tc true = 0 := rfl
  have etx : tx true = 24 := rfl
  have e24 : blk o s 0 24 = s 0 24 := nS_ne (by omega)
  rw [pt_d, C2.g0 (k := 24) (by simp [nsc]), e24, i3_addL, pt_d]
  have C3 := C2.set (c := 0) (k := 24) (v := s 0 24 + 1) (w := i3 (s 0 24 + 1)) (by simp [nsc]) rfl
  have HS := trav_start ho h4 h6 h64
  have et : trnA true o s = nS (blk o s) 0 24 (s 0 24 + 1) := by
    unfold trnA blk
    rw [if_neg h6, if_neg h64, etc, etx]
  rw [et] at HS
  have ec : cnt 80 (fun k => k == o) = 1 := by
    have := cnt_on (n := 80) (k := o) (p := fun _ => false) (q := fun k => k == o) ho (fun i _ hi => by simp [hi]) rfl (by simp)
    rw [this, cnt_zero.mpr (fun _ _ => rfl)]
  refine mo_blackOut hN hF hK hV N 0 _ _ _ _ 1 (fun _ => o) (by omega) (C1.step C3) (fun j hj => ?_) (fun c k a b d => ?_) HS.1 HS.2 (by rw [ec])
  · have : j = 0 := by omega
    subst this
    rw [C3.f (by simp [nsc])]
    rfl
  · rw [C3.f a, sI_x (fun z => b z.1)]
end TRM

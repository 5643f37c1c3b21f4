theorem sI_x {u : Mm} {c k a b : Nat} {w : Int32} (h : ¬ (a = c ∧ b = k)) : (sI u c k w).1 a b = u.1 a b := if_neg h
def RW (th : Nat → Option Nat) (c : Nat) (u : Mm) (hi : Nat) (g : Nat → Nat) : Prop := u.1 c 1 = i3 hi ∧ ∀ j, j < hi → u.2 (c + 1) j = th (g j)
def RX (c : Nat) (u0 u : Mm) : Prop := u.1 c 1 = u0.1 c 1 ∧ ∀ j, u.2 (c + 1) j = u0.2 (c + 1) j
def tOK (bl : Bool) (s0 : Sm) (root : Nat) : Prop := bl = false → ∀ k, k < 80 → s0 4 k ≠ 0 → s0 6 k ≠ 4 → tE s0 (fun p => tb (Rch bl s0 root p)) k ≤ s0 5 k
section TRA
variable {bl : Bool} {s0 s : Sm} {root : Nat} {S De : Nat → Bool} {lo hi p f : Nat} {g : Nat → Nat}
theorem trav_count {h : Nat} (HI : GI bl s0 root S De s) (HP : GP s0 S De lo hi g p f) (hp : p < 80) (hf : f < 6) (hv : s0 12 (6 * p + f) = h + 1) (h64 : s0 6 h ≠ 4) (hh : h < 80) (h4 : s0 4 h ≠ 0) (hOK : tOK bl s0 root) : bl = false → 1 ≤ s 5 h := by
  intro hb
  subst hb
  obtain ⟨i1, i2, i3', i4, i5, i6, i7⟩ := HI
  have hSp := (HP.2.2.1 hp).1
  have hnd : De (6 * p + f) = false := ((HP.2.2.1 hp).2 f hf).2 (Nat.le_refl _)
  have h1 := i3' h
  simp only [Bool.false_eq_true, if_false] at h1
  have h2 := hOK rfl h hh h4 h64
  have e1 : cnt 480 (fun i => stD (6 * p + f) De i && (s0 12 i == h + 1)) = cnt 480 (fun i => De i && (s0 12 i == h + 1)) + 1 := cnt_on (k := 6 * p + f) (by omega) (fun j _ hj => by rw [stD_ne hj]) (by rw [hnd]; rfl) (by rw [stD_eq, hv]; simp)
  have e2 : cnt 480 (fun i => stD (6 * p + f) De i && (s0 12 i == h + 1)) ≤ tE s0 (fun p => tb (Rch false s0 root p)) h := cnt_mono (fun i hi hd => by
    simp only [Bool.and_eq_true, beq_iff_eq] at hd ⊢
    obtain ⟨d1, d2⟩ := hd
    refine ⟨⟨?_, d2⟩, by simpa using h64⟩
    apply tb_t.mpr
    by_cases z : i = 6 * p + f
    · rw [z, show (6 * p + f) / 6 = p by omega]
      exact (i5 p hSp).2.2.2.2
    · rw [stD_ne z] at d1
      exact (i5 _ (i6 i d1).2.1).2.2.2.2)
  omega
end TRA
section TRC
variable {th : Nat → Option Nat} {n m fw tt : Nat} {l g : Nat → Nat} {q : Nat → Prop} {r u : Mm} {s s0 : Sm} {o t v N root : Nat}
theorem co_turnGray {hi : Nat} {gq : Nat → Nat} (h : CR th n l m g q fw tt r u s) (W : RW th 56 u hi gq) (ht : th o = some t) (h6 : s 6 o ≤ 4) (h64 : s 6 o ≠ 4) (hhi : s 6 o ≠ tc false → hi < 80) :
    Go (f_X0_turnGray N t u) (fun u' => CR th n l m g q fw tt r u' (trnA false o s) ∧ RW th 56 u' (stH false s o hi) (pshg o hi gq) ∧ RX 58 u u') := by
  have hv := (h.cv ht).1
  unfold f_X0_turnGray
  have z1 : i3 (s 6 o) = 1 ↔ s 6 o = 1 := i3_eqL (by omega) (by decide)
  rw [pt_d, h.a5 ht]
  unfold trnA stH
  have etc : tc false = 1 := rfl
  have etx : tx false = 23 := rfl
  rw [etc, etx]
  rw [etc] at hhi
  by_cases hc : s 6 o = 1
  · rw [if_pos (z1.mpr hc)]
    refine Go.s ⟨by rw [if_pos hc]; exact h, by rw [if_pos hc]; exact ⟨W.1, fun j hj => by unfold pshg; rw [if_neg (by omega)]; exact W.2 j hj⟩, rfl, fun _ => rfl⟩
  · rw [if_neg (fun z => hc (z1.mp z)), x5_green (h.a5 ht) h6, bd_s, if_neg h64, if_pos rfl, pt_d, pt_d]
    have h1 : CR th n l m g q fw tt r (sI u t 5 1) (nS s 6 o 1) := h.t5 (v := 1) ht
    have hn := h1.cn.2.2.2.1
    have en : nS s 6 o 1 0 23 = s 0 23 := nS_ne (by omega)
    rw [en] at hn
    rw [hn, pt_d, i3_addL]
    have h2 := h1.n23 (v := s 0 23 + 1)
    have hw : (sI (sI u t 5 1) 55 5 (i3 (s 0 23 + 1))).1 56 1 = i3 hi := by
      rw [sI_x (by omega), sI_x (by omega)]
      exact W.1
    rw [x3_append hw (hhi hc), bv_s]
    refine Go.s ⟨?_, ?_, by rw [sI_x (by omega)]; show (sI (sI u t 5 1) 55 5 (i3 (s 0 23 + 1))).1 58 1 = _; rw [sI_x (by omega), sI_x (by omega)], fun j => by show (if 58 + 1 = 56 + 1 ∧ j = hi then some t else u.2 (58 + 1) j) = _; rw [if_neg (by omega)]⟩
    · rw [if_neg hc]
      exact (h2.r57).r56
    · rw [if_neg hc]
      refine ⟨rfl, fun j hj => ?_⟩
      show (if 57 = 57 ∧ j = hi then some t else u.2 57 j) = th (pshg o hi gq j)
      unfold pshg
      by_cases z : j = hi
      · rw [if_pos ⟨rfl, z⟩, if_pos z, ht]
      · rw [if_neg (fun y => z y.2), if_neg z]
        exact W.2 j (by omega)
theorem co_markIn (hF : iF s0) (hT6 : ∀ k, k < 80 → s0 4 k ≠ 0 → s0 6 k ≤ 4) (hOK : tOK false s0 root) {p lo : Nat} (hp : p < 80) {p0 : Nat} {K14 : Int32 → Mm → Option Mm} {i : Nat} {P : Mm → Prop} {tp : Nat} {w0 : Mm} (htp : th p = some tp)
    (hk : ∀ (u : Mm) (s : Sm) (S De : Nat → Bool) (hi : Nat) (gq : Nat → Nat), CR th n l m g q fw tt r u s → RW th 56 u hi gq → RX 58 w0 u → GI false s0 root S De s → GP s0 S De lo hi gq 80 0 → Go (K14 (i3 (i + 1)) u) P) :
    ∀ (j f : Nat) (u : Mm) (s : Sm) (S De : Nat → Bool) (hi : Nat) (gq : Nat → Nat), f ≤ 6 → 6 - f < j → CR th n l m g q fw tt r u s → RW th 56 u hi gq → RX 58 w0 u → GI false s0 root S De s → GP s0 S De lo hi gq p f →
    Go (f_X0_markFrom_61 N p0 K14 j (i3 i) (tp + 1) 6 (i3 f) u) P := by
  intro j
  induction j with
  | zero => intro f u s S De hi gq _ hj; omega
  | succ j ih =>
    intro f u s S De hi gq hf hj C W WX HI HP
    show Go (g_X0_markFrom_61 N p0 K14 (f_X0_markFrom_61 N p0 K14 j) (i3 i) (tp + 1) 6 (i3 f) u) P
    unfold g_X0_markFrom_61
    have hS80 : ∀ k, S k = true → k < 80 := fun k hk => (HI.2.2.2.2.1 k hk).1
    by_cases hf6 : 6 ≤ f
    · have : f = 6 := by omega
      subst this
      rw [if_pos (show (6 : Int32) ≤ i3 6 by decide)]
      unfold f_X0_markFrom_111
      rw [i3_addL]
      exact hk u s S De hi gq C W WX HI (GP_done hS80 hp HP)
    · have htv := C.cv htp
      rw [if_neg (show ¬ (6 : Int32) ≤ i3 f by rw [i3_Lle (by omega) (by decide)]; omega)]
      have hln : ln (tp + 1) = 6 := by unfold ln; rw [if_neg (by omega)]
      rw [hln, i3_bI (by omega), decide_eq_true (by omega), ck_t, pt_d, i3_ix (by omega), C.h htp (by omega)]
      have e12 : s 12 (6 * p + f) = s0 12 (6 * p + f) := HI.1 12 _ (by decide) (by decide) (by omega)
      rw [e12]
      unfold f_X0_markFrom_105
      rw [i3_addL]
      by_cases hz : s0 12 (6 * p + f) = 0
      · have e0 : oT th (s0 12 (6 * p + f)) = none := by unfold oT; rw [if_pos hz]
        rw [e0, nl_n]
        exact ih (f + 1) u s S De hi gq (by omega) (by omega) C W WX HI (GP_skip hp HP (by omega) (fun y => y.1 hz))
      · have hSp := (HP.2.2.1 hp).1
        have hi6 : (6 * p + f) / 6 = p := by omega
        have hFh := hF (6 * p + f) (by omega) (by rw [hi6]; exact (HI.2.2.2.2.1 p hSp).2.1)
        have h4h := (hFh.2 hz).2
        generalize hhd : s0 12 (6 * p + f) - 1 = h at h4h
        have hv : s0 12 (6 * p + f) = h + 1 := by omega
        have hh80 : h < 80 := by omega
        have e4 : s 4 h = s0 4 h := HI.1 4 _ (by decide) (by decide) (by omega)
        have hth := ((C.cs hh80).2 (by rw [e4]; exact h4h)).2
        have eo : oT th (s0 12 (6 * p + f)) = th h := by unfold oT; rw [if_neg hz, hhd]
        rw [eo]
        cases hc : th h with
        | none => exact absurd hc hth
        | some t2 =>
          rw [nl_s]
          have h604 := hT6 h hh80 h4h
          have htl := tc_le (bl := false)
          have h6le : s 6 h ≤ 4 := by rw [HI.2.1 h]; split <;> omega
          have h6iff : s 6 h = 4 ↔ s0 6 h = 4 := by
            rw [HI.2.1 h]
            cases hs : S h with
            | true => have := (HI.2.2.2.2.1 h hs).2.2.2.1; simp; omega
            | false => simp
          rw [x5_green (C.a5 hc) h6le, bd_s]
          by_cases hg : s0 6 h = 4
          · rw [if_pos (h6iff.mpr hg), if_neg (by decide)]
            exact ih (f + 1) u s S De hi gq (by omega) (by omega) C W WX HI (GP_skip hp HP (by omega) (fun y => y.2 (by rw [hhd]; exact hg)))
          · have hg' : s 6 h ≠ 4 := fun z => hg (h6iff.mp z)
            rw [if_neg hg', if_pos rfl, pt_d, C.a3 hc]
            have hcnt := trav_count HI HP hp (by omega) hv hg hh80 h4h hOK
            have HE := trav_edge hF HI HP hp (by omega) hv hg
            have hS2 : s 6 h ≠ tc false → hi < 80 := fun z => by
              have hnS : S h = false := by
                cases hs : S h with
                | false => rfl
                | true => rw [HI.2.1 h, hs] at z; simp at z
              have := cnt_lt (n := 80) (p := S) hh80 hnS
              have := HP.2.2.2.2
              omega
            have hC1 : CR th n l m g q fw tt r (sI u t2 3 (i3 (s 5 h - 1))) (cngA false h s) := by
              have := C.t3 (v := s 5 h - 1) hc
              unfold cngA
              exact this
            have hW1 : RW th 56 (sI u t2 3 (i3 (s 5 h - 1))) hi gq := by
              have hv2 := (C.cv hc).1
              refine ⟨?_, W.2⟩
              show (if 56 = t2 ∧ 1 = 3 then _ else u.1 56 1) = i3 hi
              rw [if_neg (by omega)]
              exact W.1
            rw [show i3 (s 5 h) - 1 = i3 (s 5 h - 1) from i3_subL (hcnt rfl), pt_d]
            have ec6 : cngA false h s 6 h = s 6 h := nS_ne (by omega)
            refine Go.bv (co_turnGray hC1 hW1 hc (by rw [ec6]; exact h6le) (by rw [ec6]; exact hg') (by rw [ec6]; exact hS2)) (fun u2 h2 => ?_)
            have est : stH false (cngA false h s) h hi = stH false s h hi := by unfold stH; rw [ec6]
            rw [est] at h2
            exact ih (f + 1) u2 _ _ _ _ _ (by omega) (by omega) h2.1 h2.2.1 ⟨h2.2.2.1.trans (by rw [sI_x (by have := (C.cv hc).1; omega)]; exact WX.1), fun j => (h2.2.2.2 j).trans (WX.2 j)⟩ HE.1 HE.2
theorem co_markOut (hN : 5000 ≤ N) (hF : iF s0) (hT6 : ∀ k, k < 80 → s0 4 k ≠ 0 → s0 6 k ≤ 4) (hOK : tOK false s0 root) {p0 : Nat} {w0 : Mm} :
    ∀ (j i : Nat) (u : Mm) (s : Sm) (S De : Nat → Bool) (hi : Nat) (gq : Nat → Nat), i ≤ hi → 80 - i < j → CR th n l m g q fw tt r u s → RW th 56 u hi gq → RX 58 w0 u → GI false s0 root S De s → GP s0 S De i hi gq 80 0 →
    Go (f_X0_markFrom_14 N p0 j (i3 i) u) (fun u' => CR th n l m g q fw tt r u' (travA false root s0) ∧ RX 58 w0 u') := by
  intro j
  induction j with
  | zero => intro i u s S De hi gq _ hj; omega
  | succ j ih =>
    intro i u s S De hi gq hii hj C W WX HI HP
    show Go (g_X0_markFrom_14 N p0 (f_X0_markFrom_14 N p0 j) (i3 i) u) _
    unfold g_X0_markFrom_14
    have hS80 : ∀ k, S k = true → k < 80 := fun k hk => (HI.2.2.2.2.1 k hk).1
    have hle : cnt 80 S ≤ 80 := cnt_le
    have hhi := HP.2.2.2.2
    have hend : hi ≤ i → CR th n l m g q fw tt r u (travA false root s0) := fun z => by
      have : i = hi := by omega
      subst this
      rw [← trav_end HI HP]
      exact C
    by_cases h80 : 80 ≤ i
    · rw [if_pos ((i3_Lle (by omega) (by decide)).mpr h80)]
      exact Go.s ⟨hend (by omega), WX⟩
    · rw [if_neg (fun z => h80 ((i3_Lle (by omega) (by decide)).mp z)), pt_d, W.1]
      by_cases hih : hi ≤ i
      · rw [if_pos ((i3_le (by omega) (by omega)).mpr hih)]
        exact Go.s ⟨hend hih, WX⟩
      · rw [if_neg (fun z => hih ((i3_le (by omega) (by omega)).mp z)), x3_item (j := i) W.1 (by omega) rfl (by omega), bd_s, if_pos (by omega), W.2 i (by omega)]
        have HP2 := GP_lo hS80 HP (show i < hi by omega)
        have hSg := (HP.1 i (Nat.le_refl _) (by omega)).1
        have hg80 := hS80 _ hSg
        have e4 : s 4 (gq i) = s0 4 (gq i) := HI.1 4 _ (by decide) (by decide) (by omega)
        have hth := ((C.cs hg80).2 (by rw [e4]; exact (HI.2.2.2.2.1 _ hSg).2.1)).2
        cases hc : th (gq i) with
        | none => exact absurd hc hth
        | some tp =>
          rw [nl_s]
          exact co_markIn hF hT6 hOK hg80 hc (lo := i + 1) (i := i) (w0 := w0) (fun u1 s1 S1 De1 hi1 g1 C1 W1 WX1 HI1 HP1 => ih (i + 1) u1 s1 S1 De1 hi1 g1 HP1.2.2.2.1 (by omega) C1 W1 WX1 HI1 HP1) N 0 u s S De hi gq (by omega) (by omega) C W WX HI HP2
theorem co_mark (hN : 5000 ≤ N) (hF : iF s) (hT6 : ∀ k, k < 80 → s 4 k ≠ 0 → s 6 k ≤ 4) (hOK : tOK false s o) (h : CR th n l m g q fw tt r u s) (ht : th o = some t) (h4 : s 4 o ≠ 0) (h64 : s 6 o ≠ 4) (h6 : s 6 o ≠ tc false) :
    Go (f_X0_markFrom N t u) (fun u' => CR th n l m g q fw tt r u' (travA false o s) ∧ RX 58 u u') := by
  have ho := (h.cv ht).2.2
  unfold f_X0_markFrom f_X3_clear
  rw [pt_d, bv_s]
  have h1 : CR th n l m g q fw tt r (sI u 56 1 0) s := h.r56
  have W1 : RW th 56 (sI u 56 1 0) 0 (fun _ => o) := ⟨rfl, fun j hj => by omega⟩
  refine Go.bv (co_turnGray h1 W1 ht (hT6 o ho h4) h64 (fun _ => by omega)) (fun u2 h2 => ?_)
  have HS := trav_start ho h4 h6 h64
  have e1 : stH false s o 0 = 1 := by unfold stH; rw [if_neg h6]
  rw [e1] at h2
  have hx2 : RX 58 u u2 := ⟨h2.2.2.1.trans (sI_x (by omega)), h2.2.2.2⟩
  refine co_markOut hN hF hT6 hOK N 0 u2 _ _ _ 1 (fun _ => o) (by omega) (by omega) h2.1 ⟨h2.2.1.1, fun j hj => ?_⟩ hx2 HS.1 HS.2
  have := h2.2.1.2 j hj
  unfold pshg at this
  rw [if_pos (by omega)] at this
  exact this
theorem co_turnBlack {hi : Nat} {gq : Nat → Nat} (h : CR th n l m g q fw tt r u s) (W : RW th 58 u hi gq) (ht : th o = some t) (h6 : s 6 o ≤ 4) (h64 : s 6 o ≠ 4) (hhi : s 6 o ≠ tc true → hi < 80) :
    Go (f_X0_turnBlack N t u) (fun u' => CR th n l m g q fw tt r u' (trnA true o s) ∧ RW th 58 u' (stH true s o hi) (pshg o hi gq) ∧ RX 56 u u') := by
  have hv := (h.cv ht).1
  unfold f_X0_turnBlack
  have z1 : i3 (s 6 o) = 0 ↔ s 6 o = 0 := i3_eqL (by omega) (by decide)
  rw [pt_d, h.a5 ht]
  unfold trnA stH
  have etc : tc true = 0 := rfl
  have etx : tx true = 24 := rfl
  rw [etc, etx]
  rw [etc] at hhi
  by_cases hc : s 6 o = 0
  · rw [if_pos (z1.mpr hc)]
    refine Go.s ⟨by rw [if_pos hc]; exact h, by rw [if_pos hc]; exact ⟨W.1, fun j hj => by unfold pshg; rw [if_neg (by omega)]; exact W.2 j hj⟩, rfl, fun _ => rfl⟩
  · rw [if_neg (fun z => hc (z1.mp z)), pt_d, pt_d]
    have h1 : CR th n l m g q fw tt r (sI u t 5 0) (nS s 6 o 0) := h.t5 (v := 0) ht
    have hn := h1.cn.2.2.2.2
    have en : nS s 6 o 0 0 24 = s 0 24 := nS_ne (by omega)
    rw [en] at hn
    rw [hn, pt_d, i3_addL]
    have h2 := h1.n24 (v := s 0 24 + 1)
    have hw : (sI (sI u t 5 0) 55 6 (i3 (s 0 24 + 1))).1 58 1 = i3 hi := by
      rw [sI_x (by omega), sI_x (by omega)]
      exact W.1
    rw [x3_append hw (hhi hc), bv_s]
    refine Go.s ⟨?_, ?_, by rw [sI_x (by omega)]; show (sI (sI u t 5 0) 55 6 (i3 (s 0 24 + 1))).1 56 1 = _; rw [sI_x (by omega), sI_x (by omega)], fun j => by show (if 56 + 1 = 58 + 1 ∧ j = hi then some t else u.2 (56 + 1) j) = _; rw [if_neg (by omega)]⟩
    · rw [if_neg hc]
      exact (h2.r59).r58
    · rw [if_neg hc]
      refine ⟨rfl, fun j hj => ?_⟩
      show (if 59 = 59 ∧ j = hi then some t else u.2 59 j) = th (pshg o hi gq j)
      unfold pshg
      by_cases z : j = hi
      · rw [if_pos ⟨rfl, z⟩, if_pos z, ht]
      · rw [if_neg (fun y => z y.2), if_neg z]
        exact W.2 j (by omega)
theorem co_blackenIn (hF : iF s0) (hT6 : ∀ k, k < 80 → s0 4 k ≠ 0 → s0 6 k ≤ 4) (hOK : tOK true s0 root) {p lo : Nat} (hp : p < 80) {p0 : Nat} {K14 : Int32 → Mm → Option Mm} {i : Nat} {P : Mm → Prop} {tp : Nat} {w0 : Mm} (htp : th p = some tp)
    (hk : ∀ (u : Mm) (s : Sm) (S De : Nat → Bool) (hi : Nat) (gq : Nat → Nat), CR th n l m g q fw tt r u s → RW th 58 u hi gq → RX 56 w0 u → GI true s0 root S De s → GP s0 S De lo hi gq 80 0 → Go (K14 (i3 (i + 1)) u) P) :
    ∀ (j f : Nat) (u : Mm) (s : Sm) (S De : Nat → Bool) (hi : Nat) (gq : Nat → Nat), f ≤ 6 → 6 - f < j → CR th n l m g q fw tt r u s → RW th 58 u hi gq → RX 56 w0 u → GI true s0 root S De s → GP s0 S De lo hi gq p f →
    Go (f_X0_blackenFrom_61 N p0 K14 j (i3 i) (tp + 1) 6 (i3 f) u) P := by
  intro j
  induction j with
  | zero => intro f u s S De hi gq _ hj; omega
  | succ j ih =>
    intro f u s S De hi gq hf hj C W WX HI HP
    show Go (g_X0_blackenFrom_61 N p0 K14 (f_X0_blackenFrom_61 N p0 K14 j) (i3 i) (tp + 1) 6 (i3 f) u) P
    unfold g_X0_blackenFrom_61
    have hS80 : ∀ k, S k = true → k < 80 := fun k hk => (HI.2.2.2.2.1 k hk).1
    by_cases hf6 : 6 ≤ f
    · have : f = 6 := by omega
      subst this
      rw [if_pos (show (6 : Int32) ≤ i3 6 by decide)]
      unfold f_X0_blackenFrom_111
      rw [i3_addL]
      exact hk u s S De hi gq C W WX HI (GP_done hS80 hp HP)
    · have htv := C.cv htp
      rw [if_neg (show ¬ (6 : Int32) ≤ i3 f by rw [i3_Lle (by omega) (by decide)]; omega)]
      have hln : ln (tp + 1) = 6 := by unfold ln; rw [if_neg (by omega)]
      rw [hln, i3_bI (by omega), decide_eq_true (by omega), ck_t, pt_d, i3_ix (by omega), C.h htp (by omega)]
      have e12 : s 12 (6 * p + f) = s0 12 (6 * p + f) := HI.1 12 _ (by decide) (by decide) (by omega)
      rw [e12]
      unfold f_X0_blackenFrom_105
      rw [i3_addL]
      by_cases hz : s0 12 (6 * p + f) = 0
      · have e0 : oT th (s0 12 (6 * p + f)) = none := by unfold oT; rw [if_pos hz]
        rw [e0, nl_n]
        exact ih (f + 1) u s S De hi gq (by omega) (by omega) C W WX HI (GP_skip hp HP (by omega) (fun y => y.1 hz))
      · have hSp := (HP.2.2.1 hp).1
        have hi6 : (6 * p + f) / 6 = p := by omega
        have hFh := hF (6 * p + f) (by omega) (by rw [hi6]; exact (HI.2.2.2.2.1 p hSp).2.1)
        have h4h := (hFh.2 hz).2
        generalize hhd : s0 12 (6 * p + f) - 1 = h at h4h
        have hv : s0 12 (6 * p + f) = h + 1 := by omega
        have hh80 : h < 80 := by omega
        have e4 : s 4 h = s0 4 h := HI.1 4 _ (by decide) (by decide) (by omega)
        have hth := ((C.cs hh80).2 (by rw [e4]; exact h4h)).2
        have eo : oT th (s0 12 (6 * p + f)) = th h := by unfold oT; rw [if_neg hz, hhd]
        rw [eo]
        cases hc : th h with
        | none => exact absurd hc hth
        | some t2 =>
          rw [nl_s]
          have h604 := hT6 h hh80 h4h
          have htl := tc_le (bl := true)
          have h6le : s 6 h ≤ 4 := by rw [HI.2.1 h]; split <;> omega
          have h6iff : s 6 h = 4 ↔ s0 6 h = 4 := by
            rw [HI.2.1 h]
            cases hs : S h with
            | true => have := (HI.2.2.2.2.1 h hs).2.2.2.1; simp; omega
            | false => simp
          rw [x5_green (C.a5 hc) h6le, bd_s]
          by_cases hg : s0 6 h = 4
          · rw [if_pos (h6iff.mpr hg), if_neg (by decide)]
            exact ih (f + 1) u s S De hi gq (by omega) (by omega) C W WX HI (GP_skip hp HP (by omega) (fun y => y.2 (by rw [hhd]; exact hg)))
          · have hg' : s 6 h ≠ 4 := fun z => hg (h6iff.mp z)
            rw [if_neg hg', if_pos rfl, pt_d, C.a3 hc]
            have hcnt := trav_count HI HP hp (by omega) hv hg hh80 h4h hOK
            have HE := trav_edge hF HI HP hp (by omega) hv hg
            have hS2 : s 6 h ≠ tc true → hi < 80 := fun z => by
              have hnS : S h = false := by
                cases hs : S h with
                | false => rfl
                | true => rw [HI.2.1 h, hs] at z; simp at z
              have := cnt_lt (n := 80) (p := S) hh80 hnS
              have := HP.2.2.2.2
              omega
            have hC1 : CR th n l m g q fw tt r (sI u t2 3 (i3 (s 5 h + 1))) (cngA true h s) := by
              have := C.t3 (v := s 5 h + 1) hc
              unfold cngA
              exact this
            have hW1 : RW th 58 (sI u t2 3 (i3 (s 5 h + 1))) hi gq := by
              have hv2 := (C.cv hc).1
              refine ⟨?_, W.2⟩
              show (if 58 = t2 ∧ 1 = 3 then _ else u.1 58 1) = i3 hi
              rw [if_neg (by omega)]
              exact W.1
            rw [show i3 (s 5 h) + 1 = i3 (s 5 h + 1) from i3_addL, pt_d]
            have ec6 : cngA true h s 6 h = s 6 h := nS_ne (by omega)
            refine Go.bv (co_turnBlack hC1 hW1 hc (by rw [ec6]; exact h6le) (by rw [ec6]; exact hg') (by rw [ec6]; exact hS2)) (fun u2 h2 => ?_)
            have est : stH true (cngA true h s) h hi = stH true s h hi := by unfold stH; rw [ec6]
            rw [est] at h2
            exact ih (f + 1) u2 _ _ _ _ _ (by omega) (by omega) h2.1 h2.2.1 ⟨h2.2.2.1.trans (by rw [sI_x (by have := (C.cv hc).1; omega)]; exact WX.1), fun j => (h2.2.2.2 j).trans (WX.2 j)⟩ HE.1 HE.2
theorem co_blackenOut (hN : 5000 ≤ N) (hF : iF s0) (hT6 : ∀ k, k < 80 → s0 4 k ≠ 0 → s0 6 k ≤ 4) (hOK : tOK true s0 root) {p0 : Nat} {w0 : Mm} :
    ∀ (j i : Nat) (u : Mm) (s : Sm) (S De : Nat → Bool) (hi : Nat) (gq : Nat → Nat), i ≤ hi → 80 - i < j → CR th n l m g q fw tt r u s → RW th 58 u hi gq → RX 56 w0 u → GI true s0 root S De s → GP s0 S De i hi gq 80 0 →
    Go (f_X0_blackenFrom_14 N p0 j (i3 i) u) (fun u' => CR th n l m g q fw tt r u' (travA true root s0) ∧ RX 56 w0 u') := by
  intro j
  induction j with
  | zero => intro i u s S De hi gq _ hj; omega
  | succ j ih =>
    intro i u s S De hi gq hii hj C W WX HI HP
    show Go (g_X0_blackenFrom_14 N p0 (f_X0_blackenFrom_14 N p0 j) (i3 i) u) _
    unfold g_X0_blackenFrom_14
    have hS80 : ∀ k, S k = true → k < 80 := fun k hk => (HI.2.2.2.2.1 k hk).1
    have hle : cnt 80 S ≤ 80 := cnt_le
    have hhi := HP.2.2.2.2
    have hend : hi ≤ i → CR th n l m g q fw tt r u (travA true root s0) := fun z => by
      have : i = hi := by omega
      subst this
      rw [← trav_end HI HP]
      exact C
    by_cases h80 : 80 ≤ i
    · rw [if_pos ((i3_Lle (by omega) (by decide)).mpr h80)]
      exact Go.s ⟨hend (by omega), WX⟩
    · rw [if_neg (fun z => h80 ((i3_Lle (by omega) (by decide)).mp z)), pt_d, W.1]
      by_cases hih : hi ≤ i
      · rw [if_pos ((i3_le (by omega) (by omega)).mpr hih)]
        exact Go.s ⟨hend hih, WX⟩
      · rw [if_neg (fun z => hih ((i3_le (by omega) (by omega)).mp z)), x3_item (j := i) W.1 (by omega) rfl (by omega), bd_s, if_pos (by omega), W.2 i (by omega)]
        have HP2 := GP_lo hS80 HP (show i < hi by omega)
        have hSg := (HP.1 i (Nat.le_refl _) (by omega)).1
        have hg80 := hS80 _ hSg
        have e4 : s 4 (gq i) = s0 4 (gq i) := HI.1 4 _ (by decide) (by decide) (by omega)
        have hth := ((C.cs hg80).2 (by rw [e4]; exact (HI.2.2.2.2.1 _ hSg).2.1)).2
        cases hc : th (gq i) with
        | none => exact absurd hc hth
        | some tp =>
          rw [nl_s]
          exact co_blackenIn hF hT6 hOK hg80 hc (lo := i + 1) (i := i) (w0 := w0) (fun u1 s1 S1 De1 hi1 g1 C1 W1 WX1 HI1 HP1 => ih (i + 1) u1 s1 S1 De1 hi1 g1 HP1.2.2.2.1 (by omega) C1 W1 WX1 HI1 HP1) N 0 u s S De hi gq (by omega) (by omega) C W WX HI HP2
theorem co_blacken (hN : 5000 ≤ N) (hF : iF s) (hT6 : ∀ k, k < 80 → s 4 k ≠ 0 → s 6 k ≤ 4) (hOK : tOK true s o) (h : CR th n l m g q fw tt r u s) (ht : th o = some t) (h4 : s 4 o ≠ 0) (h64 : s 6 o ≠ 4) (h6 : s 6 o ≠ tc true) :
    Go (f_X0_blackenFrom N t u) (fun u' => CR th n l m g q fw tt r u' (travA true o s) ∧ RX 56 u u') := by
  have ho := (h.cv ht).2.2
  unfold f_X0_blackenFrom f_X3_clear
  rw [pt_d, bv_s]
  have h1 : CR th n l m g q fw tt r (sI u 58 1 0) s := h.r58
  have W1 : RW th 58 (sI u 58 1 0) 0 (fun _ => o) := ⟨rfl, fun j hj => by omega⟩
  refine Go.bv (co_turnBlack h1 W1 ht (hT6 o ho h4) h64 (fun _ => by omega)) (fun u2 h2 => ?_)
  have HS := trav_start ho h4 h6 h64
  have e1 : stH true s o 0 = 1 := by unfold stH; rw [if_neg h6]
  rw [e1] at h2
  have hx2 : RX 56 u u2 := ⟨h2.2.2.1.trans (sI_x (by omega)), h2.2.2.2⟩
  refine co_blackenOut hN hF hT6 hOK N 0 u2 _ _ _ 1 (fun _ => o) (by omega) (by omega) h2.1 ⟨h2.2.1.1, fun j hj => ?_⟩ hx2 HS.1 HS.2
  have := h2.2.1.2 j hj
  unfold pshg at this
  rw [if_pos (by omega)] at this
  exact this
end TRC

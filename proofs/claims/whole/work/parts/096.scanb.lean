section SCB
variable {th : Nat → Option Nat} {n m fw tt : Nat} {l g : Nat → Nat} {q : Nat → Prop} {r u : Mm} {s s0 : Sm} {o t v N root : Nat}
def sOK (s0 : Sm) : Prop := iF s0 ∧ iK s0 ∧ (∀ k, k < 80 → s0 4 k ≠ 0 → vo s0 k ∧ s0 6 k ≤ 4) ∧ ∀ k, k < 80 → s0 4 k ≠ 0 → s0 5 k < 1000000000
theorem scan_fr {B W : Nat → Bool} (hO : sOK s0) (HI : SI s0 root B W s) : iF s ∧ iK s ∧ (∀ k, k < 80 → s 4 k ≠ 0 → vo s k ∧ s 6 k ≤ 4) ∧ ∀ k, k < 80 → s 4 k ≠ 0 → s 5 k < 2000000000 := by
  have e : ∀ c, c ≠ 5 → c ≠ 6 → c ≠ 0 → s c = s0 c := fun c a b d => funext fun k => HI.1 c k a b (fun z => d z.1)
  have e4 := e 4 (by decide) (by decide) (by decide)
  have e1 := e 1 (by decide) (by decide) (by decide)
  refine ⟨iF_c e1 e4 (e 12 (by decide) (by decide) (by decide)) hO.1, iK_c e1 (e 2 (by decide) (by decide) (by decide)) (e 3 (by decide) (by decide) (by decide)) hO.2.1, fun k hk h4 => ?_, fun k hk h4 => ?_⟩
  · rw [e4] at h4
    have := hO.2.2.1 k hk h4
    refine ⟨by unfold vo at *; rw [e4, e1]; exact this.1, ?_⟩
    rw [HI.2.1 k]
    split
    · omega
    · split
      · omega
      · exact this.2
  · rw [e4] at h4
    have h1 := hO.2.2.2 k hk h4
    have h2 : tE s0 B k ≤ 480 := cnt_le
    have h3 := HI.2.2.1 k
    omega
theorem co_judge (hN : 5000 ≤ N) (hO : sOK s0) {B W : Nat → Bool} {lo hi p f : Nat} {gq : Nat → Nat} (HI : SI s0 root B W s) (HP : SP s0 B W lo hi gq p f) (C : CR th n l m g q fw tt r u s) (R : RW th 56 u hi gq) (ht : th o = some t) (ho : o < 80) (h4 : s0 4 o ≠ 0) (hR : s0 6 o = 1 → scR s0 root o) :
    Go (f_X0_judge N t u) (fun u' => ∃ s' B' W' hi' g', CR th n l m g q fw tt r u' s' ∧ RW th 56 u' hi' g' ∧ SI s0 root B' W' s' ∧ SP s0 B' W' lo hi' g' p f ∧ (s0 6 o = 1 → W' o = true ∨ B' o = true) ∧ ∀ k, (W k = true ∨ B k = true → W' k = true ∨ B' k = true)) := by
  obtain ⟨f1, f2, f3, f4⟩ := scan_fr hO HI
  have e4 : s 4 o = s0 4 o := HI.1 4 o (by decide) (by decide) (by omega)
  have h4s : s 4 o ≠ 0 := by rw [e4]; exact h4
  have h6 := (f3 o ho h4s).2
  have h5 := f4 o ho h4s
  have hv := (C.cv ht).1
  unfold f_X0_judge
  rw [pt_d, C.a5 ht]
  have z1 : i3 (s 6 o) = 1 ↔ s 6 o = 1 := i3_eqL (by omega) (by decide)
  have z5 : i3 (s 5 o) ≤ 0 ↔ s 5 o ≤ 0 := i3_leL (by omega) (by decide)
  by_cases hc : s 6 o = 1
  · rw [if_pos (z1.mpr hc), pt_d, C.a3 ht]
    have hs6 := scan_s6 HI hc
    by_cases h50 : s 5 o = 0
    · rw [if_pos (z5.mpr (by omega)), pt_d]
      have HW := scan_white HI HP ho h4 hc h50 (hR hs6.2.2)
      have hb : hi < 80 := by
        have := cnt_lt (n := 80) (p := W) ho hs6.2.1
        have := HP.2.2.2.2
        omega
      have hw : (sI u t 5 2).1 56 1 = i3 hi := by
        rw [sI_x (by omega)]
        exact R.1
      rw [x3_append hw hb, bv_s]
      have h1 : CR th n l m g q fw tt r (sI u t 5 2) (nS s 6 o 2) := C.t5 (v := 2) ht
      refine Go.s ⟨_, _, _, _, _, (h1.r57).r56, ⟨rfl, fun j hj => ?_⟩, HW.1, HW.2, fun _ => Or.inl (by simp), fun k z => z.elim (fun z => Or.inl (by simp [z])) Or.inr⟩
      show (if 57 = 57 ∧ j = hi then some t else u.2 57 j) = th (pshg o hi gq j)
      unfold pshg
      by_cases z : j = hi
      · rw [if_pos ⟨rfl, z⟩, if_pos z, ht]
      · rw [if_neg (fun y => z y.2), if_neg z]
        exact R.2 j (by omega)
    · rw [if_neg (fun z => h50 (by have := z5.mp z; omega))]
      have HB := scan_black hO.1 HI HP ho h4 hc h50 (hR hs6.2.2)
      refine Go.bv (co_blacken hN f1 (fun k a b => (f3 k a b).2) (fun z => by cases z) C ht h4s (by omega) (by rw [hc]; decide)) (fun u1 h1 => Go.s ?_)
      refine ⟨_, _, _, _, _, h1.1, ⟨h1.2.1.trans R.1, fun j hj => (h1.2.2 j).trans (R.2 j hj)⟩, HB.1, HB.2.1, fun _ => Or.inr ?_, fun k z => z.elim Or.inl (fun z => Or.inr (by show (B k || _) = true; rw [z, Bool.true_or]))⟩
      show (B o || tb (Rch true s o o)) = true
      rw [HB.2.2, Bool.or_true]
  · rw [if_neg (fun z => hc (z1.mp z))]
    refine Go.s ⟨s, B, W, hi, gq, C, R, HI, HP, fun z => ?_, fun k z => z⟩
    rw [HI.2.1 o] at hc
    cases hb : B o with
    | true => exact Or.inr rfl
    | false =>
      cases hw : W o with
      | true => exact Or.inl rfl
      | false => rw [hb, hw] at hc; exact absurd z (by simpa using hc)
theorem co_scanIn (hN : 5000 ≤ N) (hO : sOK s0) {p lo : Nat} (hp : p < 80) {p0 : Nat} {K14 : Int32 → Mm → Option Mm} {i : Nat} {P : Mm → Prop} {tp : Nat} (htp : th p = some tp)
    (hk : ∀ (u : Mm) (s : Sm) (B W : Nat → Bool) (hi : Nat) (gq : Nat → Nat), CR th n l m g q fw tt r u s → RW th 56 u hi gq → SI s0 root B W s → SP s0 B W lo hi gq 80 0 → (s0 6 root = 1 → W root = true ∨ B root = true) → Go (K14 (i3 (i + 1)) u) P) :
    ∀ (j f : Nat) (u : Mm) (s : Sm) (B W : Nat → Bool) (hi : Nat) (gq : Nat → Nat), f ≤ 6 → 6 - f < j → CR th n l m g q fw tt r u s → RW th 56 u hi gq → SI s0 root B W s → SP s0 B W lo hi gq p f → (W root = true ∨ B root = true) →
    Go (f_X0_scanFrom_61 N p0 K14 j (i3 i) (tp + 1) 6 (i3 f) u) P := by
  intro j
  induction j with
  | zero => intro f u s B W hi gq _ hj; omega
  | succ j ih =>
    intro f u s B W hi gq hf hj C R HI HP hr
    show Go (g_X0_scanFrom_61 N p0 K14 (f_X0_scanFrom_61 N p0 K14 j) (i3 i) (tp + 1) 6 (i3 f) u) P
    unfold g_X0_scanFrom_61
    have hS80 : ∀ k, W k = true → k < 80 := fun k hk => (HI.2.2.2.2.2.2 k hk).1
    by_cases hf6 : 6 ≤ f
    · have : f = 6 := by omega
      subst this
      rw [if_pos (show (6 : Int32) ≤ i3 6 by decide)]
      unfold f_X0_scanFrom_92
      rw [i3_addL]
      exact hk u s B W hi gq C R HI (SP_done hS80 hp HP) (fun _ => hr)
    · have htv := C.cv htp
      rw [if_neg (show ¬ (6 : Int32) ≤ i3 f by rw [i3_Lle (by omega) (by decide)]; omega)]
      have hln : ln (tp + 1) = 6 := by unfold ln; rw [if_neg (by omega)]
      rw [hln, i3_bI (by omega), decide_eq_true (by omega), ck_t, pt_d, i3_ix (by omega), C.h htp (by omega)]
      have e12 : s 12 (6 * p + f) = s0 12 (6 * p + f) := HI.1 12 _ (by decide) (by decide) (by omega)
      rw [e12]
      unfold f_X0_scanFrom_86
      rw [i3_addL]
      have hWp := (HP.2.2.1 hp).1
      have h7 := HI.2.2.2.2.2.2 p hWp
      by_cases hz : s0 12 (6 * p + f) = 0
      · have e0 : oT th (s0 12 (6 * p + f)) = none := by unfold oT; rw [if_pos hz]
        rw [e0, nl_n]
        exact ih (f + 1) u s B W hi gq (by omega) (by omega) C R HI (SP_skip hp HP (fun h a _ => by omega)) hr
      · have hi6 : (6 * p + f) / 6 = p := by omega
        have hFh := hO.1 (6 * p + f) (by omega) (by rw [hi6]; exact h7.2.1)
        have h4h := (hFh.2 hz).2
        generalize hhd : s0 12 (6 * p + f) - 1 = h at h4h
        have hv : s0 12 (6 * p + f) = h + 1 := by omega
        have hh80 : h < 80 := by omega
        have e4 : s 4 h = s0 4 h := HI.1 4 _ (by decide) (by decide) (by omega)
        have hth := ((C.cs hh80).2 (by rw [e4]; exact h4h)).2
        have eo : oT th (s0 12 (6 * p + f)) = th h := by unfold oT; rw [if_neg hz, hhd]
        rw [eo]
        cases hc : th h with
        | none => exact absurd hc hth
        | some t2 =>
          rw [nl_s]
          have hRh : s0 6 h = 1 → scR s0 root h := fun z => ⟨h7.2.2.2.2.1, fun X hX hcl => hcl p f h (h7.2.2.2.2.2 X hX hcl) (by omega) hv z⟩
          refine Go.bv (co_judge hN hO HI HP C R hc hh80 h4h hRh) (fun u2 h2 => ?_)
          obtain ⟨s', B', W', hi', g', C', R', HI', HP', hj', hm⟩ := h2
          refine ih (f + 1) u2 s' B' W' hi' g' (by omega) (by omega) C' R' HI' (SP_skip hp HP' (fun h1 a b => ?_)) (hm root hr)
          have : h1 = h := by omega
          subst this
          exact hj' b
theorem co_scanOut (hN : 5000 ≤ N) (hO : sOK s0) {p0 : Nat} :
    ∀ (j i : Nat) (u : Mm) (s : Sm) (B W : Nat → Bool) (hi : Nat) (gq : Nat → Nat), i ≤ hi → 80 - i < j → CR th n l m g q fw tt r u s → RW th 56 u hi gq → SI s0 root B W s → SP s0 B W i hi gq 80 0 → (s0 6 root = 1 → W root = true ∨ B root = true) →
    Go (f_X0_scanFrom_14 N p0 j (i3 i) u) (fun u' => CR th n l m g q fw tt r u' (scanA root s0)) := by
  intro j
  induction j with
  | zero => intro i u s B W hi gq _ hj; omega
  | succ j ih =>
    intro i u s B W hi gq hii hj C R HI HP hr
    show Go (g_X0_scanFrom_14 N p0 (f_X0_scanFrom_14 N p0 j) (i3 i) u) _
    unfold g_X0_scanFrom_14
    have hS80 : ∀ k, W k = true → k < 80 := fun k hk => (HI.2.2.2.2.2.2 k hk).1
    have hle : cnt 80 W ≤ 80 := cnt_le
    have hhi := HP.2.2.2.2
    have hend : hi ≤ i → CR th n l m g q fw tt r u (scanA root s0) := fun z => by
      have : i = hi := by omega
      subst this
      rw [← scan_end HI HP hr]
      exact C
    by_cases h80 : 80 ≤ i
    · rw [if_pos ((i3_Lle (by omega) (by decide)).mpr h80)]
      exact Go.s (hend (by omega))
    · rw [if_neg (fun z => h80 ((i3_Lle (by omega) (by decide)).mp z)), pt_d, R.1]
      by_cases hih : hi ≤ i
      · rw [if_pos ((i3_le (by omega) (by omega)).mpr hih)]
        exact Go.s (hend hih)
      · rw [if_neg (fun z => hih ((i3_le (by omega) (by omega)).mp z)), x3_item (j := i) R.1 (by omega) rfl (by omega), bd_s, if_pos (by omega), R.2 i (by omega)]
        have HP2 := SP_lo hS80 HP (show i < hi by omega)
        have hSg := (HP.1 i (Nat.le_refl _) (by omega)).1
        have h7 := HI.2.2.2.2.2.2 _ hSg
        have hg80 := h7.1
        have e4 : s 4 (gq i) = s0 4 (gq i) := HI.1 4 _ (by decide) (by decide) (by omega)
        have hth := ((C.cs hg80).2 (by rw [e4]; exact h7.2.1)).2
        cases hc : th (gq i) with
        | none => exact absurd hc hth
        | some tp =>
          rw [nl_s]
          exact co_scanIn hN hO hg80 hc (lo := i + 1) (i := i) (fun u1 s1 B1 W1 hi1 g1 C1 R1 HI1 HP1 hr1 => ih (i + 1) u1 s1 B1 W1 hi1 g1 HP1.2.2.2.1 (by omega) C1 R1 HI1 HP1 hr1) N 0 u s B W hi gq (by omega) (by omega) C R HI HP2 (hr h7.2.2.2.2.1)
theorem scan_start : SI s0 root (fun _ => false) (fun _ => false) s0 ∧ SP s0 (fun _ => false) (fun _ => false) 0 0 (fun _ => 0) 80 0 := by
  have e0 : ∀ k, tE s0 (fun _ => false) k = 0 := fun k => cnt_zero.mpr (fun _ _ => rfl)
  have e1 : cnt 80 (fun _ => false) = 0 := cnt_zero.mpr (fun _ _ => rfl)
  exact ⟨⟨fun _ _ _ _ _ => rfl, fun k => by simp, fun k => by (rw [e0]; rfl), by (rw [e1]; rfl), fun k hk => by (cases hk), fun p e h hp => by (cases hp), fun k hk => by (cases hk)⟩, fun j _ hj => by omega, fun k hk => by (cases hk), fun hp => by omega, by omega, by omega⟩
theorem co_scan (hN : 5000 ≤ N) (hO : sOK s) (C : CR th n l m g q fw tt r u s) (ht : th o = some t) (h4 : s 4 o ≠ 0) :
    Go (f_X0_scanFrom N t u) (fun u' => CR th n l m g q fw tt r u' (scanA o s)) := by
  have ho := (C.cv ht).2.2
  unfold f_X0_scanFrom f_X3_clear
  rw [pt_d, bv_s]
  have h1 : CR th n l m g q fw tt r (sI u 56 1 0) s := C.r56
  have R1 : RW th 56 (sI u 56 1 0) 0 (fun _ => 0) := ⟨rfl, fun j hj => by omega⟩
  have HS := scan_start (s0 := s) (root := o)
  refine Go.bv (co_judge hN hO HS.1 HS.2 h1 R1 ht ho h4 (fun z => ⟨z, fun X hX _ => hX⟩)) (fun u2 h2 => ?_)
  obtain ⟨s', B', W', hi', g', C', R', HI', HP', hj', _⟩ := h2
  exact co_scanOut hN hO N 0 u2 s' B' W' hi' g' (by omega) (by omega) C' R' HI' HP' hj'
end SCB
section SCM
variable {r u : Mm} {s s0 : Sm} {o N root : Nat}
theorem mo_scanOne (hN : 5000 ≤ N) (hO : sOK s0) {B W : Nat → Bool} {lo hi p f : Nat} {gq : Nat → Nat} (HI : SI s0 root B W s) (HP : SP s0 B W lo hi gq p f) (C : Ms r u s) (R : WR u hi gq) (ho : o < 80) (h4 : s0 4 o ≠ 0) (hR : s0 6 o = 1 → scR s0 root o) :
    Go (f_X8_scanOne N (i3 o) u) (fun u' => ∃ s' B' W' hi' g', Ms r u' s' ∧ WR u' hi' g' ∧ SI s0 root B' W' s' ∧ SP s0 B' W' lo hi' g' p f ∧ (s0 6 o = 1 → W' o = true ∨ B' o = true) ∧ (∀ k, (W k = true ∨ B k = true → W' k = true ∨ B' k = true)) ∧ cnt 80 W' + hi = cnt 80 W + hi') := by
  obtain ⟨f1, f2, f3, f4⟩ := scan_fr hO HI
  have e4 : s 4 o = s0 4 o := HI.1 4 o (by decide) (by decide) (by omega)
  have h4s : s 4 o ≠ 0 := by rw [e4]; exact h4
  have h6 := (f3 o ho h4s).2
  have h5 := f4 o ho h4s
  unfold f_X8_scanOne
  rw [i3_bI (by omega), decide_eq_true ho, ck_t, pt_d, i3_ix (by omega), C.mr.g6 ho]
  have z1 : i3 (s 6 o) = 1 ↔ s 6 o = 1 := i3_eqL (by omega) (by decide)
  have z5 : i3 (s 5 o) ≤ 0 ↔ s 5 o ≤ 0 := i3_leL (by omega) (by decide)
  by_cases hc : s 6 o = 1
  · rw [if_pos (z1.mpr hc), ck_t, pt_d, C.mr.g5 ho]
    have hs6 := scan_s6 HI hc
    by_cases h50 : s 5 o = 0
    · rw [if_pos (z5.mpr (by omega)), ck_t, pt_d]
      have HW := scan_white HI HP ho h4 hc h50 (hR hs6.2.2)
      have hb : hi < 80 := by
        have := cnt_lt (n := 80) (p := W) ho hs6.2.1
        have := HP.2.2.2.2
        omega
      have C1 : MR u (sI u 6 o 2) (nS s 6 o 2) := C.mr.set (c := 6) (k := o) (v := 2) (w := 2) (by simp [nsc] <;> omega) rfl
      have R1 := R.keep C1
      rw [pt_d, R1.1, i3_bI (by omega), decide_eq_true hb, ck_t, pt_d, i3_ix (by omega), pt_d]
      have e27 : (sI (sI u 6 o 2) 25 hi (i3 o)).1 0 27 = i3 hi := R1.1
      rw [e27, i3_addL, pt_d]
      refine Go.s ⟨_, _, _, _, _, ((C.step C1).scr (by decide) (by simp [nsc])).scr (by decide) (by simp [nsc]), ⟨rfl, fun j hj => ?_⟩, HW.1, HW.2, fun _ => Or.inl (by simp), fun k z => z.elim (fun z => Or.inl (by simp [z])) Or.inr, ?_⟩
      · rw [sI_x (by omega)]
        show (if 25 = 25 ∧ j = hi then i3 o else (sI u 6 o 2).1 25 j) = i3 (pshg o hi gq j)
        unfold pshg
        by_cases z : j = hi
        · rw [if_pos ⟨rfl, z⟩, if_pos z]
        · rw [if_neg (fun y => z y.2), if_neg z]
          exact R1.2 j (by omega)
      · have := cnt_on (n := 80) (k := o) (p := W) (q := fun k => W k || k == o) ho (fun k _ hk => by simp [hk]) hs6.2.1 (by simp)
        omega
    · rw [if_neg (fun z => h50 (by have := z5.mp z; omega))]
      have HB := scan_black hO.1 HI HP ho h4 hc h50 (hR hs6.2.2)
      refine Go.bv (mo_black hN f1 f2 f3 C ho h4s (by omega) (by rw [hc]; decide)) (fun u1 h1 => Go.s ?_)
      refine ⟨_, _, _, _, _, h1.1, ⟨(h1.2 0 27 (by simp [nsc]) (by decide) (by decide)).trans R.1, fun j hj => (h1.2 25 j (by simp [nsc]) (by decide) (by decide)).trans (R.2 j hj)⟩, HB.1, HB.2.1, fun _ => Or.inr ?_, fun k z => z.elim Or.inl (fun z => Or.inr (by show (B k || _) = true; rw [z, Bool.true_or])), rfl⟩
      show (B o || tb (Rch true s o o)) = true
      rw [HB.2.2, Bool.or_true]
  · rw [if_neg (fun z => hc (z1.mp z))]
    refine Go.s ⟨s, B, W, hi, gq, C, R, HI, HP, fun z => ?_, fun k z => z, rfl⟩
    rw [HI.2.1 o] at hc
    cases hb : B o with
    | true => exact Or.inr rfl
    | false =>
      cases hw : W o with
      | true => exact Or.inl rfl
      | false => rw [hb, hw] at hc; exact absurd z (by simpa using hc)
theorem SP_to6 {B W : Nat → Bool} {lo hi p f : Nat} {gq : Nat → Nat} (hp : p < 80) (H : SP s0 B W lo hi gq p f) (hf : f ≤ 6) (hq : ∀ e, f ≤ e → e < 6 → jd s0 B W (6 * p + e)) : SP s0 B W lo hi gq p 6 := by
  have key : ∀ d, f + d ≤ 6 → SP s0 B W lo hi gq p (f + d) := by
    intro d
    induction d with
    | zero => intro _; exact H
    | succ d ih =>
      intro hd
      exact SP_skip (f := f + d) hp (ih (by omega)) (hq (f + d) (by omega) (by omega))
  have := key (6 - f) (by omega)
  rw [show f + (6 - f) = 6 by omega] at this
  exact this
theorem mo_scanIn (hN : 5000 ≤ N) (hO : sOK s0) {p x : Nat} (hp : p < 80) {K10 : Mm → Option Mm} {P : Mm → Prop}
    (hk : ∀ (u : Mm) (s : Sm) (B W : Nat → Bool) (hi : Nat) (gq : Nat → Nat), Ms r u s → WR u hi gq → SI s0 root B W s → SP s0 B W 0 hi gq 80 0 → (s0 6 root = 1 → W root = true ∨ B root = true) → hi + x = cnt 80 W → Go (K10 u) P) :
    ∀ (j f : Nat) (u : Mm) (s : Sm) (B W : Nat → Bool) (hi : Nat) (gq : Nat → Nat), f ≤ 6 → 6 - f < j → Ms r u s → WR u hi gq → SI s0 root B W s → SP s0 B W 0 hi gq p f → (W root = true ∨ B root = true) → hi + x = cnt 80 W →
    Go (f_X8_scan_39 N K10 j (i3 p) (i3 f) u) P := by
  intro j
  induction j with
  | zero => intro f u s B W hi gq _ hj; omega
  | succ j ih =>
    intro f u s B W hi gq hf hj C R HI HP hr hx
    show Go (g_X8_scan_39 N K10 (f_X8_scan_39 N K10 j) (i3 p) (i3 f) u) P
    unfold g_X8_scan_39
    have hS80 : ∀ k, W k = true → k < 80 := fun k hk => (HI.2.2.2.2.2.2 k hk).1
    have hWp := (HP.2.2.1 hp).1
    have h7 := HI.2.2.2.2.2.2 p hWp
    have c4 : ∀ k, s 4 k = s0 4 k := fun k => HI.1 4 _ (by decide) (by decide) (by omega)
    have c1 : ∀ k, s 1 k = s0 1 k := fun k => HI.1 1 _ (by decide) (by decide) (by omega)
    have hvp := (hO.2.2.1 p hp h7.2.1).1
    have hvp' : vo s p := by unfold vo at *; rw [c4, c1]; exact hvp
    have hy := (hO.2.1 (s0 4 p - 1) (by have := hvp.1; have := hvp.2.1; omega)).1
    have enf : nfo s p = nfo s0 p := by unfold nfo; rw [c4, c1]
    have hn6 : nfo s0 p ≤ 6 := by unfold nfo; omega
    refine Go_bde (mo_fieldsOf C.mr hp hvp' (by rw [c4, c1]; exact hy)) ?_
    rw [enf]
    by_cases hfn : nfo s0 p ≤ f
    · rw [if_pos ((i3_le (by omega) (by omega)).mpr hfn)]
      refine hk u s B W hi gq C R HI (SP_done hS80 hp (SP_to6 hp HP hf (fun e he he6 h a b => ?_))) (fun _ => hr) hx
      have hF1 := hO.1 (6 * p + e) (by omega) (by rw [show (6 * p + e) / 6 = p by omega]; exact h7.2.1)
      have := (hF1.2 (by omega)).1
      rw [show (6 * p + e) / 6 = p by omega] at this
      omega
    · have e6 : 6 * i3 p + i3 f = i3 (6 * p + f) := by rw [i3_mulL, i3_add]
      have hFh := hO.1 (6 * p + f) (by omega) (by rw [show (6 * p + f) / 6 = p by omega]; exact h7.2.1)
      have e12 : s 12 (6 * p + f) = s0 12 (6 * p + f) := HI.1 12 _ (by decide) (by decide) (by omega)
      rw [if_neg (fun z => hfn ((i3_le (by omega) (by omega)).mp z)), e6, i3_bI (by omega), decide_eq_true (by omega), ck_t, pt_d, i3_ix (by omega), C.mr.g12 (by omega), e12]
      unfold f_X8_scan_72
      rw [i3_addL]
      have zlt : oI (s0 12 (6 * p + f)) < 0 ↔ s0 12 (6 * p + f) = 0 := oI_lt0 (by omega)
      by_cases hz : s0 12 (6 * p + f) = 0
      · rw [if_pos (zlt.mpr hz)]
        exact ih (f + 1) u s B W hi gq (by omega) (by omega) C R HI (SP_skip hp HP (fun h a _ => by omega)) hr hx
      · have h4h := (hFh.2 hz).2
        generalize hhd : s0 12 (6 * p + f) - 1 = h at h4h
        have hv : s0 12 (6 * p + f) = h + 1 := by omega
        have hh80 : h < 80 := by omega
        rw [if_neg (fun z => hz (zlt.mp z)), hv, oI_s]
        have hRh : s0 6 h = 1 → scR s0 root h := fun z => ⟨h7.2.2.2.2.1, fun X hX hcl => hcl p f h (h7.2.2.2.2.2 X hX hcl) (by omega) hv z⟩
        refine Go.bv (mo_scanOne hN hO HI HP C R hh80 h4h hRh) (fun u2 h2 => ?_)
        obtain ⟨s', B', W', hi', g', C', R', HI', HP', hj', hm, hcn⟩ := h2
        refine ih (f + 1) u2 s' B' W' hi' g' (by omega) (by omega) C' R' HI' (SP_skip hp HP' (fun h1 a b => ?_)) (hm root hr) (by omega)
        have : h1 = h := by omega
        subst this
        exact hj' b
theorem mo_scanOut (hN : 5000 ≤ N) (hO : sOK s0) :
    ∀ (j x : Nat) (u : Mm) (s : Sm) (B W : Nat → Bool) (hi : Nat) (gq : Nat → Nat), 80 - x < j → Ms r u s → WR u hi gq → SI s0 root B W s → SP s0 B W 0 hi gq 80 0 → (s0 6 root = 1 → W root = true ∨ B root = true) → hi + x = cnt 80 W →
    Go (f_X8_scan_10 N j u) (fun u' => Ms r u' (scanA root s0)) := by
  intro j
  induction j with
  | zero => intro x u s B W hi gq hj; omega
  | succ j ih =>
    intro x u s B W hi gq hj C R HI HP hr hx
    show Go (g_X8_scan_10 N (f_X8_scan_10 N j) u) _
    unfold g_X8_scan_10
    have hS80 : ∀ k, W k = true → k < 80 := fun k hk => (HI.2.2.2.2.2.2 k hk).1
    have hle : cnt 80 W ≤ 80 := cnt_le
    rw [pt_d, R.1]
    by_cases h0 : hi = 0
    · subst h0
      rw [if_pos (show i3 0 ≤ 0 by decide)]
      rw [← scan_end HI HP hr]
      exact Go.s C
    · rw [if_neg (show ¬ i3 hi ≤ 0 by rw [i3_leL (by omega) (by decide)]; omega), pt_d, pt_d, show i3 hi - 1 = i3 (hi - 1) from i3_subL (show 1 ≤ hi by omega)]
      have C1 : Ms r (sI u 0 27 (i3 (hi - 1))) s := C.scr (by decide) (by simp [nsc])
      have W1 : WR (sI u 0 27 (i3 (hi - 1))) (hi - 1) gq := ⟨rfl, fun j hj => R.2 j (by omega)⟩
      rw [pt_d, W1.1, i3_bI (by omega), decide_eq_true (by omega), ck_t, pt_d, i3_ix (by omega), show (sI u 0 27 (i3 (hi - 1))).1 25 (hi - 1) = i3 (gq (hi - 1)) from R.2 (hi - 1) (by omega)]
      have HP2 := SP_hi hS80 HP (show 0 < hi by omega)
      have hSg := (HP.1 (hi - 1) (by omega) (by omega)).1
      have h7 := HI.2.2.2.2.2.2 _ hSg
      exact mo_scanIn hN hO h7.1 (x := x + 1) (fun u1 s1 B1 W1 hi1 g1 C1 R1 HI1 HP1 hr1 hx1 => ih (x + 1) u1 s1 B1 W1 hi1 g1 (by have : cnt 80 W1 ≤ 80 := cnt_le; omega) C1 R1 HI1 HP1 hr1 hx1) N 0 _ s B W (hi - 1) gq (by omega) (by omega) C1 W1 HI HP2 (hr h7.2.2.2.2.1) (by omega)
theorem mo_scan (hN : 5000 ≤ N) (hO : sOK s) (C : Ms r u s) (ho : o < 80) (h4 : s 4 o ≠ 0) :
    Go (f_X8_scan N (i3 o) u) (fun u' => Ms r u' (scanA o s)) := by
  unfold f_X8_scan
  rw [pt_d]
  have C1 : Ms r (sI u 0 27 0) s := C.scr (by decide) (by simp [nsc])
  have R1 : WR (sI u 0 27 0) 0 (fun _ => 0) := ⟨rfl, fun j hj => by omega⟩
  have HS := scan_start (s0 := s) (root := o)
  refine Go.bv (mo_scanOne hN hO HS.1 HS.2 C1 R1 ho h4 (fun z => ⟨z, fun X hX _ => hX⟩)) (fun u2 h2 => ?_)
  obtain ⟨s', B', W', hi', g', C', R', HI', HP', hj', _, hc⟩ := h2
  have e1 : cnt 80 (fun _ => false) = 0 := cnt_zero.mpr (fun _ _ => rfl)
  exact mo_scanOut hN hO N 0 u2 s' B' W' hi' g' (by omega) C' R' HI' HP' hj' (by rw [e1] at hc; omega)
end SCM

section PKM
variable {r u : Mm} {s : Sm} {n w o N k : Nat}
theorem pm_stay (H : PG s) (hw : w < 400) (hb : bs s w = false) : pm (w + 1) s = pm w s := by
  funext c k
  unfold pm
  have eFL : FL s (w + 1) k = FL s w k := by
    show (if _ then _ else _) = _
    rw [if_neg (fun z => by rw [hb] at z; cases z.1)]
  rw [eFL]
  by_cases c13 : c = 13 ∧ k < 400
  · rw [if_pos c13, if_pos c13]
  · rw [if_neg c13, if_neg c13]
    by_cases a : c = 7 ∧ k < 80 ∧ s 4 k ≠ 0
    · have hg := H.1 k a.2.1 a.2.2
      have h7 : s 7 k ≠ w := fun z => by
        have h8 := (hg.1.2 w hw).mpr ⟨by omega, by omega⟩
        have : bs s w = true := bs_t.mpr ⟨by omega, by rw [h8, show k + 1 - 1 = k by omega]; exact z⟩
        rw [hb] at this
        cases this
      by_cases f : s 7 k < w
      · rw [if_pos ⟨a.1, a.2.1, a.2.2, by omega⟩, if_pos ⟨a.1, a.2.1, a.2.2, f⟩]
      · rw [if_neg (fun z => by omega), if_neg (fun z => f z.2.2.2)]
    · rw [if_neg (fun z => a ⟨z.1, z.2.1, z.2.2.1⟩), if_neg (fun z => a ⟨z.1, z.2.1, z.2.2.1⟩)]
theorem pm_step (H : PG s) (hw : w < 400) (hb : bs s w = true) (k c : Nat) : pm (w + 1) s c k = if c = 7 ∧ k = s 13 w - 1 then pn s w else if c = 13 ∧ pn s w ≤ k ∧ k < pn s w + szo s (s 13 w - 1) then s 13 w else pm w s c k := by
  have h1 := bs_t.mp hb
  have h2 := PG_own H hw h1.1
  have h4 := pn_400 H (show w + 1 ≤ 400 by omega)
  rw [pn_succ hb] at h4
  have eFL : FL s (w + 1) k = if bs s w = true ∧ pn s w ≤ k ∧ k < pn s w + szo s (s 13 w - 1) then s 13 w else FL s w k := rfl
  generalize ho : s 13 w - 1 = o at *
  have h13w : s 13 w = o + 1 := by omega
  unfold pm
  rw [eFL]
  by_cases c13 : c = 13
  · subst c13
    rw [if_neg (show ¬ (13 = 7 ∧ k = o) by omega)]
    by_cases hk : k < 400
    · rw [if_pos (show 13 = 13 ∧ k < 400 from ⟨rfl, hk⟩), if_pos (show 13 = 13 ∧ k < 400 from ⟨rfl, hk⟩)]
      by_cases a : pn s w ≤ k ∧ k < pn s w + szo s o
      · rw [if_pos ⟨hb, a⟩, if_pos ⟨rfl, a⟩]
      · rw [if_neg (fun z => a z.2), if_neg (fun z => a z.2)]
    · rw [if_neg (show ¬ (13 = 13 ∧ k < 400) from fun z => hk z.2), if_neg (show ¬ (13 = 7 ∧ k < 80 ∧ s 4 k ≠ 0 ∧ s 7 k < w + 1) by omega), if_neg (show ¬ (13 = 13 ∧ pn s w ≤ k ∧ k < pn s w + szo s o) by omega), if_neg (show ¬ (13 = 13 ∧ k < 400) from fun z => hk z.2), if_neg (show ¬ (13 = 7 ∧ k < 80 ∧ s 4 k ≠ 0 ∧ s 7 k < w) by omega)]
  · rw [if_neg (show ¬ (c = 13 ∧ k < 400) from fun z => c13 z.1), if_neg (show ¬ (c = 13 ∧ pn s w ≤ k ∧ k < pn s w + szo s o) from fun z => c13 z.1), if_neg (show ¬ (c = 13 ∧ k < 400) from fun z => c13 z.1)]
    by_cases c7 : c = 7
    · subst c7
      by_cases q : k = o
      · subst q
        rw [if_pos ⟨rfl, h2.1, h2.2.1, by omega⟩, if_pos ⟨rfl, rfl⟩, h1.2]
      · rw [if_neg (show ¬ (7 = 7 ∧ k = o) from fun z => q z.2)]
        by_cases a : k < 80 ∧ s 4 k ≠ 0
        · have hgk2 := H.1 k a.1 a.2
          have h7 : s 7 k ≠ w := fun z => by
            have h8 := (hgk2.1.2 w hw).mpr ⟨by omega, by omega⟩
            omega
          by_cases f : s 7 k < w
          · rw [if_pos ⟨rfl, a.1, a.2, by omega⟩, if_pos ⟨rfl, a.1, a.2, f⟩]
          · rw [if_neg (fun z => by omega), if_neg (fun z => f z.2.2.2)]
        · rw [if_neg (fun z => a ⟨z.2.1, z.2.2.1⟩), if_neg (fun z => a ⟨z.2.1, z.2.2.1⟩)]
    · rw [if_neg (fun z => c7 z.1), if_neg (fun z => c7 z.1), if_neg (fun z => c7 z.1)]
theorem lo_fill {a e : Nat} (ho : o < 80) (hv : vo s o) (he : a + szo s o ≤ 400) {K47 : Int32 → Int32 → Int32 → Mm → Option (Int32 × Mm)} {v2 v3 : Int32} {P : Int32 × Mm → Prop} {w0 : Mm}
    (hk : ∀ u', Ms r u' (giveO a (a + szo s o) o s) → KB w0 u' → Go (K47 (i3 (a + szo s o)) v2 (v3 + 1) u') P) :
    ∀ (j d x : Nat) (u : Mm), x + d = szo s o → d < j → Ms r u (giveO a (a + x) o s) → KB w0 u → Go (f_X8_pack_93 N K47 j (i3 (a + x)) v2 v3 (i3 o) (i3 x) u) P := by
  intro j
  induction j with
  | zero => intro d x u _ hj; omega
  | succ j ih =>
    intro d x u hx hj C K
    show Go (g_X8_pack_93 N K47 (f_X8_pack_93 N K47 j) (i3 (a + x)) v2 v3 (i3 o) (i3 x) u) P
    unfold g_X8_pack_93
    have hv1 := hv.1
    have hv2 := hv.2.1
    have e4 : giveO a (a + x) o s 4 o = s 4 o := by unfold giveO; rw [if_neg (by omega)]
    have e2 : giveO a (a + x) o s 2 (s 4 o - 1) = szo s o := by unfold giveO; rw [if_neg (by omega)]; rfl
    rw [i3_bI (by omega), decide_eq_true ho, ck_t, pt_d, i3_ix (by omega), C.mr.g4 ho, e4, oI_p hv1, i3_bI (by omega), decide_eq_true (by omega), ck_t, pt_d, i3_ix (by omega), C.mr.g2 (by omega), e2]
    by_cases hd : szo s o ≤ x
    · have : x = szo s o := by omega
      subst this
      rw [if_pos ((i3_le (by omega) (by omega)).mpr hd)]
      exact hk u C K
    · rw [if_neg (fun z => hd ((i3_le (by omega) (by omega)).mp z)), i3_bI (by omega), decide_eq_true (by omega), ck_t, pt_d, i3_ix (by omega), i3_addL, i3_addL]
      have C1 := C.mr.set (c := 13) (k := a + x) (v := o + 1) (w := i3 o) (by simp [nsc] <;> omega) rfl
      refine ih (d - 1) (x + 1) _ (by omega) (by omega) ?_ (K.tr (KB.mr C1))
      rw [show a + (x + 1) = a + x + 1 by omega, ← giveO_s (show a ≤ a + x by omega)]
      exact C.step C1
theorem mo_packLoop (hN : 5000 ≤ N) (H : CI n s) (HP : PG s) (hvo : ∀ o, o < 80 → s 4 o ≠ 0 → vo s o) :
    ∀ (d w j : Nat) (u : Mm), w + d = 400 → d < j → Ms r u (pm w s) → BAr u s →
    Go (f_X8_pack_47 N j (i3 (pn s w)) (i3 (mvd s w)) (i3 (cnt w (bs s))) u) (fun z => z.1 = i3 (mvd s 400) ∧ Ms r z.2 (packA s)) := by
  intro d
  induction d with
  | zero =>
    intro w j u hwd hj C B
    have : w = 400 := by omega
    subst this
    cases j with
    | zero => omega
    | succ j =>
      show Go (g_X8_pack_47 N (f_X8_pack_47 N j) (i3 (pn s 400)) (i3 (mvd s 400)) (i3 (cnt 400 (bs s))) u) _
      unfold g_X8_pack_47
      have hc := bs_cnt H (Nat.le_refl 400)
      rw [pt_d, B.1, if_pos ((i3_le (by omega) (by omega)).mpr (Nat.le_refl _))]
      rw [pm_end HP] at C
      exact Go.s ⟨rfl, C⟩
  | succ d ih =>
    intro w j u hwd hj C B
    have hw : w < 400 := by omega
    cases hb : bs s w with
    | false =>
      have e1 : mvd s (w + 1) = mvd s w := by
        show mvd s w + _ = _
        rw [if_neg (fun z => by rw [hb] at z; cases z.1)]; rfl
      have e2 : pn s (w + 1) = pn s w := by show pn s w + _ = _; rw [hb]; rfl
      have := ih (w + 1) j u (by omega) (by omega) (by rw [pm_stay HP hw hb]; exact C) B
      rw [e1, e2, cnt_stay hb] at this
      exact this
    | true =>
      have h1 := bs_t.mp hb
      have h2 := PG_own HP hw h1.1
      have hle := pn_le HP hw hb
      have h400 := pn_400 HP (show w + 1 ≤ 400 by omega)
      rw [pn_succ hb] at h400
      have hc := bs_cnt H (show w + 1 ≤ 400 by omega)
      rw [cnt_step hb] at hc
      have hc4 : cnt (w + 1) (bs s) ≤ cnt 400 (bs s) := cnt_grow (by omega)
      rw [cnt_step hb] at hc4
      have hc80 := bs_cnt H (Nat.le_refl 400)
      have h28 := B.2 w hw hb
      have hstep := pm_step HP hw hb
      have epn := pn_succ hb
      cases j with
      | zero => omega
      | succ j =>
        show Go (g_X8_pack_47 N (f_X8_pack_47 N j) (i3 (pn s w)) (i3 (mvd s w)) (i3 (cnt w (bs s))) u) _
        unfold g_X8_pack_47
        rw [pt_d, B.1, if_neg (fun z => by have := (i3_le (by omega) (by omega)).mp z; omega), i3_bI (by omega), decide_eq_true (by omega), ck_t, pt_d, i3_ix (by omega), h28]
        generalize ho : s 13 w - 1 = o at *
        have e7 : pm w s 7 o = w := by
          unfold pm
          rw [if_neg (by omega), if_neg (fun z => by omega)]
          exact h1.2
        have hvs := hvo o h2.1 h2.2.1
        rw [i3_bI (by omega), decide_eq_true h2.1, ck_t, pt_d, i3_ix (by omega), C.mr.g7 h2.1, e7]
        have tail : ∀ x y : Nat, x + y = mvd s (w + 1) → Go (f_X8_pack_80 N (f_X8_pack_47 N j) (i3 (pn s w)) (i3 (cnt w (bs s))) (i3 o) (i3 x) (i3 y) u) (fun z => z.1 = i3 (mvd s 400) ∧ Ms r z.2 (packA s)) := fun x y hxy => by
          unfold f_X8_pack_80
          rw [i3_bI (by omega), decide_eq_true h2.1, ck_t, pt_d, i3_ix (by omega), i3_add]
          have C1 := C.mr.set (c := 7) (k := o) (v := pn s w) (w := i3 (pn s w)) (by simp [nsc] <;> omega) rfl
          have g4 : pm w s 4 = s 4 := pm_f (by decide) (by decide)
          have g1 : pm w s 1 = s 1 := pm_f (by decide) (by decide)
          have g2 : pm w s 2 = s 2 := pm_f (by decide) (by decide)
          have hv1 : vo (nS (pm w s) 7 o (pn s w)) o := by
            unfold vo at *
            rw [nS_ne (by omega), nS_ne (by omega), g4, g1]
            exact hvs
          have esz : szo (nS (pm w s) 7 o (pn s w)) o = szo s o := by
            unfold szo
            rw [nS_ne (by omega), nS_ne (by omega), g4, g2]
          refine lo_fill (e := 0) (s := nS (pm w s) 7 o (pn s w)) (a := pn s w) h2.1 hv1 (by rw [esz]; omega) (w0 := u) (fun u' C' K' => ?_) N (szo s o) 0 _ (by rw [esz, Nat.zero_add]) (by omega) (by rw [Nat.add_zero, giveO_0]; exact C.step C1) (KB.mr C1)
          rw [esz] at C' ⊢
          rw [i3_addL]
          have := ih (w + 1) j u' (by omega) (by omega) (by
            have e : pm (w + 1) s = giveO (pn s w) (pn s w + szo s o) o (nS (pm w s) 7 o (pn s w)) := by
              funext c k
              rw [hstep k c]
              unfold giveO nS
              have e3 : s 13 w = o + 1 := by omega
              rw [e3]
              by_cases a : c = 7 ∧ k = o
              · rw [if_pos a, if_neg (by omega), if_pos a]
              · rw [if_neg a, if_neg a]
            rw [e]
            exact C') (B.kb K')
          rw [epn, cnt_step hb, ← hxy, Nat.add_comm x y] at this
          rw [Nat.add_comm y x]
          rw [Nat.add_comm y x] at this
          exact this
        by_cases hpn : w = pn s w
        · rw [if_pos ((i3_eq (by omega) (by omega)).mpr hpn)]
          refine tail 0 (mvd s w) ?_
          show _ = mvd s w + _
          rw [if_neg (fun z => z.2 hpn)]
          omega
        · rw [if_neg (fun z => hpn ((i3_eq (by omega) (by omega)).mp z))]
          refine tail 1 (mvd s w) ?_
          show _ = mvd s w + _
          rw [if_pos ⟨hb, hpn⟩]
          omega
theorem lo_clear : ∀ (j w : Nat) (u : Mm), w ≤ 400 → 400 - w < j → Ms r u (fun c k => if c = 13 ∧ k < w then 0 else s c k) → BAr u s →
    (∀ u', Ms r u' (pm 0 s) → BAr u' s → Go (f_X8_pack_47 N N 0 0 0 u') (fun z => z.1 = i3 (mvd s 400) ∧ Ms r z.2 (packA s))) →
    Go (f_X8_pack_21 N j (i3 w) u) (fun z => z.1 = i3 (mvd s 400) ∧ Ms r z.2 (packA s)) := by
  intro j
  induction j with
  | zero => intro w u _ hj; omega
  | succ j ih =>
    intro w u hw hj C B hk
    show Go (g_X8_pack_21 N (f_X8_pack_21 N j) (i3 w) u) _
    unfold g_X8_pack_21
    by_cases hw4 : 400 ≤ w
    · rw [if_pos ((i3_Lle (by omega) (by decide)).mpr hw4)]
      have : w = 400 := by omega
      subst this
      refine hk u ?_ B
      have e : pm 0 s = fun c k => if c = 13 ∧ k < 400 then 0 else s c k := by
        funext c k
        unfold pm
        by_cases a : c = 13 ∧ k < 400
        · rw [if_pos a, if_pos a]; rfl
        · rw [if_neg a, if_neg a, if_neg (by omega)]
      rw [e]
      exact C
    · rw [if_neg (fun z => hw4 ((i3_Lle (by omega) (by decide)).mp z)), i3_bI (by omega), decide_eq_true (by omega), ck_t, pt_d, i3_ix (by omega), i3_addL]
      have C1 := C.mr.set (c := 13) (k := w) (v := 0) (w := -1) (by simp [nsc] <;> omega) rfl
      refine ih (w + 1) _ (by omega) (by omega) ?_ (B.kb (KB.mr C1)) hk
      have e : (fun c k => if c = 13 ∧ k < w + 1 then 0 else s c k) = nS (fun c k => if c = 13 ∧ k < w then 0 else s c k) 13 w 0 := by
        funext c k
        unfold nS
        grind
      rw [e]
      exact C.step C1
theorem pack_inv {d : Nat → Nat} {m : Nat} {g : Nat → Nat} (H : LI n d m g s) : LI n d m g (packA s) ∧ FW (packA s) = FW s := by
  have HP := LI_PG H
  obtain ⟨hK, hT, hG, hF, hR, hL, hW, hO, hX, hB, hC, hS⟩ := H
  have e : ∀ c, c ≠ 13 → c ≠ 7 → packA s c = s c := fun c a b => packA_f a b
  have k13 : ∀ k, k < 400 → packA s 13 k = FL s 400 k := fun k hk => by unfold packA; rw [if_pos ⟨rfl, hk⟩]
  have k7 : ∀ o, o < 80 → s 4 o ≠ 0 → packA s 7 o = pn s (s 7 o) := fun o ho h4 => by unfold packA; rw [if_neg (by omega), if_pos ⟨rfl, ho, h4⟩]
  have e4 := e 4 (by decide) (by decide)
  have e2 := e 2 (by decide) (by decide)
  refine ⟨⟨iK_c (e 1 (by decide) (by decide)) e2 (e 3 (by decide) (by decide)) hK, ?_, fun o ho h4 => ?_, iF_c (e 1 (by decide) (by decide)) e4 (e 12 (by decide) (by decide)) hF, ?_, ?_, ?_, fun w hw => ?_, iX_c e4 (e 18 (by decide) (by decide)) hX, iB_c e4 (e 8 (by decide) (by decide)) (by rw [e 0 (by decide) (by decide)]) hB, ?_, ?_⟩, ?_⟩
  · unfold iT vo nfo at *
    rw [e4, e 1 (by decide) (by decide), e 6 (by decide) (by decide), e 9 (by decide) (by decide), e 10 (by decide) (by decide), e 11 (by decide) (by decide), e 5 (by decide) (by decide), e 12 (by decide) (by decide)]
    exact hT
  · rw [e4] at h4
    have hg := HP.1 o ho h4
    have hbo : bs s (s 7 o) = true ∧ s 13 (s 7 o) = o + 1 := by
      have h1 := (hg.1.2 (s 7 o) (by have := hg.1.1; omega)).mpr ⟨Nat.le_refl _, by omega⟩
      exact ⟨bs_t.mpr ⟨by omega, by rw [h1, show o + 1 - 1 = o by omega]⟩, h1⟩
    have h5 := pn_400 HP (w := s 7 o + 1) (by have := hg.1.1; omega)
    rw [pn_succ hbo.1, hbo.2, show o + 1 - 1 = o by omega] at h5
    have esz : szo (packA s) o = szo s o := by unfold szo; rw [e2, e4]
    unfold geo
    rw [esz, k7 o ho h4]
    refine ⟨h5, fun w hw => ?_⟩
    rw [k13 w hw, FL_iff HP ho h4 400 (Nat.le_refl _) w]
    have := hg.1.1
    constructor
    · intro z; exact z.2
    · intro z; exact ⟨by omega, z⟩
  · unfold iR eT wT at *
    rw [e4, e 5 (by decide) (by decide), e 8 (by decide) (by decide), e 12 (by decide) (by decide), e 16 (by decide) (by decide), e 0 (by decide) (by decide)]
    exact hR
  · unfold iL at *
    rw [e 0 (by decide) (by decide), e 9 (by decide) (by decide), e 14 (by decide) (by decide)]
    exact hL
  · unfold iW at *
    rw [e 0 (by decide) (by decide), e 16 (by decide) (by decide), e4, e 10 (by decide) (by decide)]
    exact hW
  · rw [k13 w hw, e4]
    rcases FL_zero HP 400 (Nat.le_refl _) w with z | ⟨o, ho, h4, z⟩
    · rw [z]; exact ⟨by omega, fun y => absurd rfl y⟩
    · rw [z]; exact ⟨by omega, fun _ => by rw [show o + 1 - 1 = o by omega]; exact h4⟩
  · unfold iC at *
    rw [e4, e 6 (by decide) (by decide)]
    exact hC
  · unfold iS at *
    rw [e4, e 11 (by decide) (by decide), e 5 (by decide) (by decide)]
    exact hS
  · have h1 : ∀ k, k < 400 → (packA s 13 k = 0 ↔ pn s 400 ≤ k) := fun k hk => by
      rw [k13 k hk]
      constructor
      · intro z
        apply Classical.byContradiction
        intro y
        have key : ∀ w, w ≤ 400 → k < pn s w → FL s w k ≠ 0 := by
          intro w
          induction w with
          | zero => intro _ h; exact absurd h (by show ¬ k < 0; omega)
          | succ w ih =>
            intro hw hlt
            show (if bs s w = true ∧ pn s w ≤ k ∧ k < pn s w + szo s (s 13 w - 1) then s 13 w else FL s w k) ≠ 0
            by_cases c : bs s w = true ∧ pn s w ≤ k ∧ k < pn s w + szo s (s 13 w - 1)
            · rw [if_pos c]
              exact (bs_t.mp c.1).1
            · rw [if_neg c]
              refine ih (by omega) ?_
              cases hb : bs s w with
              | true =>
                rw [pn_succ hb] at hlt
                apply Classical.byContradiction
                intro q
                exact c ⟨hb, by omega, hlt⟩
              | false =>
                have e2 : pn s (w + 1) = pn s w := by show pn s w + _ = _; rw [hb]; rfl
                rw [e2] at hlt
                exact hlt
        exact key 400 (Nat.le_refl _) (by omega) z
      · intro z
        exact FL_hi z
    have h2 : FW (packA s) = cnt 400 (fun k => decide (pn s 400 ≤ k ∧ k < 400)) := cnt_congr (fun k hk => by
      have := h1 k hk
      by_cases q : packA s 13 k = 0
      · rw [q, decide_eq_true ⟨this.mp q, hk⟩]; rfl
      · rw [decide_eq_false (fun z => q (this.mpr z.1))]
        simpa using q)
    rw [h2, cnt_range (pn_400 HP (Nat.le_refl _)) (Nat.le_refl _), pn_cnt HP 400 (Nat.le_refl _)]
    have h3 : cnt 400 (below s 400) + FW s = 400 := by
      unfold FW
      rw [← cnt_add (fun x _ hb => by have := (below_t.mp hb).1; simpa using this)]
      have : ∀ n, cnt n (fun _ => true) = n := fun n => by
        induction n with
        | zero => rfl
        | succ n ih => simp only [cnt, ih, if_true]
      refine Eq.trans (cnt_congr (q := fun _ => true) (fun x hx => ?_)) (this 400)
      by_cases h0 : s 13 x = 0
      · simp [h0]
      · have h5 := PG_own HP hx h0
        have hb : below s 400 x = true := below_t.mpr ⟨h0, by omega⟩
        rw [hb, Bool.true_or]
    omega
theorem mo_pack (hN : 5000 ≤ N) {g : Nat → Nat} (H : LI n d0 0 g s) (C : Ms r u s) (h0 : s 0 0 = 0) :
    Go (f_X8_pack N u) (fun z => z.1 = i3 (mvd (nS s 0 22 (s 0 22 + 1)) 400) ∧ Ms r z.2 (packA (nS s 0 22 (s 0 22 + 1)))) := by
  unfold f_X8_pack
  have C0 := C.mr.set (c := 0) (k := 0) (v := 0) (w := 0) (by simp [nsc]) rfl
  rw [nS_id h0] at C0
  rw [pt_d, pt_d, C0.g0 (k := 22) (by simp [nsc]), i3_addL, pt_d]
  have C1 := C0.set (c := 0) (k := 22) (v := s 0 22 + 1) (w := i3 (s 0 22 + 1)) (by simp [nsc]) rfl
  have H1 : LI n d0 0 g (nS s 0 22 (s 0 22 + 1)) := LI_0 (by decide) H
  generalize nS s 0 22 (s 0 22 + 1) = s' at *
  have HP := LI_PG H1
  have hM := (mark_start H1).1
  have hCI : CI n s' := by
    obtain ⟨hK, hT, hG, hF, hR, hL, hW, hO, hX, hB, hC, hS⟩ := H1
    refine ⟨hK, fun p hp h4 => ?_, hG, hF, fun p hp h4 => ?_, hW, hO, hX, hB⟩
    · have h := (hT p hp).1 h4
      exact ⟨h.1, h.2.1, h.2.2.1, h.2.2.2.1, h.2.2.2.2.1, h.2.2.2.2.2.1⟩
    · have h := hM.2.2.2.2.1 p hp (by rw [nS_ne (by omega)]; exact h4)
      rw [nS_ne (by omega), nS_ne (by omega)] at h
      have e1 : eK (nS s' 0 15 0) p = eK s' p := cnt_congr (fun i _ => by rw [nS_ne (by omega), nS_ne (by omega), nS_ne (by omega), nS_ne (by omega)])
      have e2 : wT (nS s' 0 15 0) p = wT s' p := by
        unfold wT
        rw [nS_ne (by omega)]
        exact cnt_congr (fun i _ => by rw [nS_ne (by omega)])
      rw [e1, e2] at h
      exact h
  refine Go.bv (mo_find hN hCI (C.step C1)) (fun u1 h1 => ?_)
  refine lo_clear N 0 u1 (by omega) (by omega) (by
    have e : (fun c k => if c = 13 ∧ k < 0 then 0 else s' c k) = s' := by
      funext c k
      rw [if_neg (by omega)]
    rw [e]
    exact h1.1) h1.2 (fun u2 C2 B2 => ?_)
  exact mo_packLoop hN hCI HP (fun o ho h4 => ((H1.2.1 o ho).1 h4).1) 400 0 N u2 rfl (by omega) C2 B2
end PKM

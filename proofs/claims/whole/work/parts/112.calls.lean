def Jr (k : Nat) (th : Nat → Option Nat) (g : Nat → Nat) (s : Sm) (u : Mm) : Prop :=
  LI k d0 0 g s ∧ CRr th 0 g (fun _ => False) u u s ∧ Ms u u s ∧ ∀ o, s 4 o = 0 → th o = none
def Jk (k : Nat) (u : Mm) : Prop := ∃ th g s, Jr k th g s u
def St1 (k : Nat) (x : Option (Int32 × Mm)) (y : Mm → Option (Int32 × Mm)) : Prop := ∃ a u1 u2, x = some (a, u1) ∧ y u1 = some (a, u2) ∧ Jk (k + 1) u2
def St2 (k : Nat) (x : Option (Nat × Int32 × Bool × Mm)) (y : Mm → Option (Int32 × Mm)) : Prop := ∃ kx a b u1 c u2, x = some (kx, a, b, u1) ∧ y u1 = some (c, u2) ∧ u2.1 0 0 = i3 kx ∧ (kx = 0 → a = c) ∧ kx ≤ 2 ∧ Jk (k + 1) u2
section CAL
variable {th : Nat → Option Nat} {n m fw tt w k : Nat} {l g : Nat → Nat} {q : Nat → Prop} {r u u1 u2 : Mm} {s s' : Sm} {o t v N : Nat}
theorem CR.mv (C : CR th n l m g q fw tt r u1 s) (h1 : ∀ c, 31 ≤ c → u2.1 c = u1.1 c) (h2 : u2.2 = u1.2) : CR th n l m g q fw tt u2 u2 s := by
  obtain ⟨hF, hV, hA, hH, hB, hK, hS, hW, hX, hE, hN, hI, hL, hG, hC⟩ := C
  have e : ∀ c, 31 ≤ c → u2.1 c = u1.1 c := h1
  refine ⟨fun c j _ => ⟨rfl, rfl⟩, hV, fun o t ht => ?_, fun o t f ht hf => ?_, fun o t ht h4 => ?_, fun y hy => ?_, fun o ho => ?_, fun w hw => ?_, fun w hw => ?_, fun i hi => ?_, ?_, ?_, ?_, ?_, ?_⟩
  · have := (hV o t ht).1
    rw [e t (by omega)]
    exact hA o t ht
  · rw [h2]; exact hH o t f ht hf
  · have := (hV o t ht).1
    rw [e t (by omega), h2]
    exact hB o t ht h4
  · rw [h2]
    refine ⟨(hK y hy).1, fun z => ?_⟩
    obtain ⟨kd, a, b, c, d⟩ := (hK y hy).2 z
    refine ⟨kd, a, b, c, ?_⟩
    rw [e kd (by omega)]
    exact d
  · rw [h2]; exact hS o ho
  · rw [h2]; exact hW w hw
  · rw [h2]; exact hX w hw
  · rw [e 44 (by omega)]; exact hE i hi
  · unfold cN at *; rw [e 42 (by omega), e 55 (by omega), e 40 (by omega)]; exact hN
  · unfold cI at *; rw [e 53 (by omega), h2]; exact hI
  · unfold cL at *; rw [e 51 (by omega), h2]; exact hL
  · unfold cG at *
    rw [e 49 (by omega), h2]
    refine ⟨hG.1, hG.2.1, fun o t ht a b => ?_⟩
    have := (hV o t ht).1
    rw [e t (by omega)]
    exact hG.2.2 o t ht a b
  · unfold cC at *; rw [e 46 (by omega), e 42 (by omega)]; exact hC
theorem Ms.of (M : Ms u u s) (F : cF u u1) : Ms u1 u1 s := ⟨rfl, fun _ _ => rfl, fun c j h => by rw [(F c j (by have := nsc_lt h; omega)).1]; exact M.2.2 c j h⟩
theorem LI_up {d : Nat → Nat} (H : LI n d m g s) (hn : n + 1 ≤ 1000) : LI (n + 1) d m g s := by
  obtain ⟨hK, hT, hG, hF, hR, hL, hW, hO, hX, hB, hC, hS⟩ := H
  exact ⟨hK, hT, hG, hF, hR, hL, hW, hO, hX, ⟨fun o ho h4 => Nat.le_trans (hB.1 o ho h4) (by omega), by have := hB.2.1; omega, hn⟩, hC, hS⟩
def shr (th : Nat → Option Nat) (s : Sm) : Nat → Option Nat := fun o => if s 4 o = 0 then none else th o
theorem CR_sh {g' : Nat → Nat} (H : LI n d0 0 g s) (C : CRr th 0 g' (fun _ => False) r u s) : CRr (shr th s) 0 g (fun _ => False) r u s := by
  obtain ⟨hF, hV, hA, hH, hB, hK, hS, hW, hX, hE, hN, hI, hL, hG, hC⟩ := C
  have hs : ∀ o t, shr th s o = some t → s 4 o ≠ 0 ∧ th o = some t := fun o t h => by
    unfold shr at h
    by_cases z : s 4 o = 0
    · rw [if_pos z] at h; cases h
    · rw [if_neg z] at h; exact ⟨z, h⟩
  have hs2 : ∀ o, s 4 o ≠ 0 → shr th s o = th o := fun o z => by unfold shr; rw [if_neg z]
  have hoT : ∀ v, (v ≠ 0 → s 4 (v - 1) ≠ 0) → oT (shr th s) v = oT th v := fun v hv => by
    unfold oT
    by_cases z : v = 0
    · rw [if_pos z, if_pos z]
    · rw [if_neg z, if_neg z, hs2 _ (hv z)]
  refine ⟨hF, fun o t ht => ?_, fun o t ht => hA o t (hs o t ht).2, fun o t f ht hf => ?_, fun o t ht h4 => hB o t (hs o t ht).2 h4, hK, fun o ho => ⟨(hS o ho).1, fun z => ?_⟩, fun w hw => ?_, fun w hw => ?_, hE, hN, ⟨hI.1, fun j hj => ?_⟩, ⟨hL.1, fun j hj => ?_⟩, ⟨hG.1, fun j hj => by omega, fun o t ht a b => hG.2.2 o t (hs o t ht).2 a b⟩, hC⟩
  · obtain ⟨a, b, c, d⟩ := hV o t (hs o t ht).2
    exact ⟨a, b, c, fun p hp => d p (hs p t hp).2⟩
  · obtain ⟨h4, ht⟩ := hs o t ht
    have h80 := (hV o t ht).2.2.1
    rw [hH o t f ht hf, hoT]
    intro z
    exact ((H.2.2.2.1 (6 * o + f) (by omega) (by rw [show (6 * o + f) / 6 = o by omega]; exact h4)).2 z).2
  · rw [hs2 o z]; exact (hS o ho).2 z
  · rw [hW w hw, hoT]
    exact (H.2.2.2.2.2.2.2.1 w hw).2
  · rw [hX w hw, hoT]
    exact (H.2.2.2.2.2.2.2.2.1 w hw).2
  · rw [hI.2 j hj, hs2]
    exact (H.2.2.2.2.2.2.1.2 j hj).2.1
  · rw [hL.2 j hj, hs2]
    have h1 := H.2.2.2.2.2.1.2 j hj
    intro z
    have := ((H.2.1 _ h1.1).2 z).1
    omega
theorem Jr.nx {g' : Nat → Nat} (H : LI (k + 1) d0 0 g s) (C : CRr th 0 g' (fun _ => False) r u1 s) (M : Ms u1 u2 s) : Jk (k + 1) u2 :=
  ⟨shr th s, g, s, H, CR_sh H (CR.mv C M.2.1 M.1), ⟨rfl, fun _ _ => rfl, M.2.2⟩, fun o z => by unfold shr; rw [if_pos z]⟩
theorem i3_cs (x : Int32) {b : Nat} (hb : b < 2147483648) : (x < 0 ∨ i3 b ≤ x) ∨ ∃ o, o < b ∧ x = i3 o := by
  by_cases h0 : x < 0
  · exact Or.inl (Or.inl h0)
  · obtain ⟨k, hk, rfl⟩ := i3_of h0
    by_cases hkb : k < b
    · exact Or.inr ⟨k, hkb, rfl⟩
    · exact Or.inl (Or.inr ((i3_le hb hk).mpr (by omega)))
theorem co_thing_no {x : Int32} (hx : x < 0 ∨ i3 80 ≤ x) : f_X4_thing N x u = some (none, u) := by
  unfold f_X4_thing
  by_cases h0 : x < 0
  · rw [if_pos h0]
  · rcases hx with hx | hx
    · exact absurd hx h0
    · rw [if_neg h0, if_pos (show (80 : Int32) ≤ x from hx)]
theorem co_thing (C : CR th n l m g q fw tt r u s) (ho : o < 80) : f_X4_thing N (i3 o) u = some (if s 4 o = 0 then none else th o, u) := by
  unfold f_X4_thing
  rw [if_neg (show ¬ i3 o < 0 by rw [i3_ltL (by omega) (by decide)]; omega), if_neg (show ¬ (80 : Int32) ≤ i3 o by rw [i3_Lle (by omega) (by decide)]; omega), i3_bI (by omega), decide_eq_true ho, ck_t, pt_d, i3_ix (by omega)]
  by_cases h4 : s 4 o = 0
  · rw [if_pos h4, (C.cs ho).1 h4]
  · rw [if_neg h4, ((C.cs ho).2 h4).1]
theorem co_living_no {x : Int32} (hx : x < 0 ∨ i3 80 ≤ x) : f_X4_living N x u = some (none, u) := by
  unfold f_X4_living
  rw [co_thing_no hx, bd_s, nl_n]
theorem co_living (C : CR th n l m g q fw tt r u s) (ho : o < 80) (h11 : s 4 o ≠ 0 → s 11 o ≤ 1) : f_X4_living N (i3 o) u = some (if s 4 o = 0 ∨ s 11 o ≠ 0 then none else th o, u) := by
  unfold f_X4_living
  rw [co_thing C ho, bd_s]
  by_cases h4 : s 4 o = 0
  · rw [if_pos h4, nl_n, if_pos (Or.inl h4)]
  · rw [if_neg h4]
    have hth := ((C.cs ho).2 h4).2
    cases hc : th o with
    | none => exact absurd hc hth
    | some t =>
      have hb := (C.b hc h4).1
      have hz := h11 h4
      have z : i3 (s 11 o) = 0 ↔ s 11 o = 0 := i3_eqL (by omega) (by decide)
      rw [nl_s, pt_d, hb]
      by_cases h : s 11 o = 0
      · rw [if_pos (z.mpr h), if_neg (by omega)]
      · rw [if_neg (fun y => h (z.mp y)), if_pos (Or.inr h)]
theorem co_num (C : CR th n l m g q fw tt r u s) {v : Nat} (hv : v ≠ 0 → th (v - 1) ≠ none) : f_X7_numberOf N (oT th v) u = some (oI v, u) := by
  unfold f_X7_numberOf
  by_cases h0 : v = 0
  · have e : oT th v = none := by unfold oT; rw [if_pos h0]
    rw [e, nl_n, h0]
    rfl
  · have e : oT th v = th (v - 1) := by unfold oT; rw [if_neg h0]
    rw [e]
    cases hc : th (v - 1) with
    | none => exact absurd hc (hv h0)
    | some t => rw [nl_s, pt_d, C.a0 hc, oI_p h0]
theorem LI_blk {d : Nat → Nat} (H : LI n d m g s) (ho : o < 80) (h4 : s 4 o ≠ 0) : LI n d m g (blk o s) := by
  obtain ⟨hK, hT, hG, hF, hR, hL, hW, hO, hX, hB, hC, hS⟩ := H
  have e : ∀ c, c ≠ 6 → blk o s c = s c := fun c hc => funext fun k => nS_ne (fun q => hc q.1)
  have e6 : ∀ p, p ≠ o → blk o s 6 p = s 6 p := fun p hp => nS_ne (fun q => hp q.2)
  have k6 : blk o s 6 o = if s 6 o = 4 then 4 else 0 := nS_eq
  refine ⟨iK_c (e 1 (by decide)) (e 2 (by decide)) (e 3 (by decide)) hK, fun p hp => ?_, iG_c (e 2 (by decide)) (e 4 (by decide)) (e 7 (by decide)) (e 13 (by decide)) hG, iF_c (e 1 (by decide)) (e 4 (by decide)) (e 12 (by decide)) hF, ?_, ?_, ?_, iO_c (e 4 (by decide)) (e 13 (by decide)) hO, iX_c (e 4 (by decide)) (e 18 (by decide)) hX, iB_c (e 4 (by decide)) (e 8 (by decide)) (by rw [e 0 (by decide)]) hB, fun p hp h4p => ?_, ?_⟩
  · have := hT p hp
    unfold vo nfo at *
    rw [e 4 (by decide), e 1 (by decide), e 9 (by decide), e 10 (by decide), e 11 (by decide), e 5 (by decide), e 12 (by decide)]
    by_cases z : p = o
    · subst z
      rw [k6]
      grind
    · rw [e6 p z]; exact this
  · unfold iR eT wT at *
    rw [e 4 (by decide), e 5 (by decide), e 8 (by decide), e 12 (by decide), e 16 (by decide), e 0 (by decide)]
    exact hR
  · unfold iL at *
    rw [e 0 (by decide), e 9 (by decide), e 14 (by decide)]
    exact hL
  · unfold iW at *
    rw [e 0 (by decide), e 16 (by decide), e 4 (by decide), e 10 (by decide)]
    exact hW
  · rw [e 4 (by decide)] at h4p
    by_cases z : p = o
    · subst z; rw [k6]; have := hC p hp h4p; grind
    · rw [e6 p z]; exact hC p hp h4p
  · unfold iS at *
    rw [e 4 (by decide), e 11 (by decide), e 5 (by decide)]
    exact hS
theorem LI_hand (H : LI n d0 0 g s) (ho : o < 80) (h4 : s 4 o ≠ 0) (h11 : s 11 o = 0) (hn : n + 1 ≤ 1000) : LI (n + 1) d0 0 g (nS (nS s 8 o (s 8 o + 1)) 5 o (s 5 o + 1)) := by
  obtain ⟨hK, hT, hG, hF, hR, hL, hW, hO, hX, hB, hC, hS⟩ := LI_up H hn
  have hB0 := H.2.2.2.2.2.2.2.2.2.1
  generalize hs : nS (nS s 8 o (s 8 o + 1)) 5 o (s 5 o + 1) = s'
  have e : ∀ c, c ≠ 8 → c ≠ 5 → s' c = s c := fun c a b => by rw [← hs]; funext k; rw [nS_ne (fun q => b q.1), nS_ne (fun q => a q.1)]
  have e5 : ∀ p, p ≠ o → s' 5 p = s 5 p := fun p hp => by rw [← hs, nS_ne (fun q => hp q.2), nS_ne (by omega)]
  have k5 : s' 5 o = s 5 o + 1 := by rw [← hs, nS_eq]
  have e8 : ∀ p, p ≠ o → s' 8 p = s 8 p := fun p hp => by rw [← hs, nS_ne (by omega), nS_ne (fun q => hp q.2)]
  have k8 : s' 8 o = s 8 o + 1 := by rw [← hs, nS_ne (by omega), nS_eq]
  clear hs
  have c4 := e 4 (by decide) (by decide)
  have c12 := e 12 (by decide) (by decide)
  have hwt : ∀ p, wT s' p = wT s p := fun p => by unfold wT; rw [e 16 (by decide) (by decide), e 0 (by decide) (by decide)]
  refine ⟨iK_c (e 1 (by decide) (by decide)) (e 2 (by decide) (by decide)) (e 3 (by decide) (by decide)) hK, fun p hp => ?_, iG_c (e 2 (by decide) (by decide)) c4 (e 7 (by decide) (by decide)) (e 13 (by decide) (by decide)) hG, iF_c (e 1 (by decide) (by decide)) c4 c12 hF, fun p hp h4p => ?_, ?_, ?_, iO_c c4 (e 13 (by decide) (by decide)) hO, iX_c c4 (e 18 (by decide) (by decide)) hX, ⟨fun p hp h4p => ?_, ?_, hn⟩, ?_, ⟨fun j hj => by omega, fun p hp h4p h11p h5p => ?_⟩⟩
  · have := hT p hp
    unfold vo nfo at *
    rw [c4, e 1 (by decide) (by decide), e 6 (by decide) (by decide), e 9 (by decide) (by decide), e 10 (by decide) (by decide), e 11 (by decide) (by decide), c12]
    by_cases z : p = o
    · subst z
      refine ⟨fun y => ?_, this.2⟩
      have t := this.1 y
      exact ⟨t.1, t.2.1, t.2.2.1, t.2.2.2.1, t.2.2.2.2.1, t.2.2.2.2.2.1, t.2.2.2.2.2.2.1, fun x => by omega, t.2.2.2.2.2.2.2.2⟩
    · rw [e5 p z]; exact this
  · rw [c4] at h4p
    have := hR p hp h4p
    rw [eT_c c4 c12, hwt]
    by_cases z : p = o
    · subst z; rw [k5, k8]; omega
    · rw [e5 p z, e8 p z]; exact this
  · unfold iL at *; rw [e 0 (by decide) (by decide), e 9 (by decide) (by decide), e 14 (by decide) (by decide)]; exact hL
  · unfold iW at *; rw [e 0 (by decide) (by decide), e 16 (by decide) (by decide), c4, e 10 (by decide) (by decide)]; exact hW
  · rw [c4] at h4p
    by_cases z : p = o
    · subst z; rw [k8]; have := hB0.1 p hp h4p; omega
    · rw [e8 p z]; exact hB.1 p hp h4p
  · rw [TT_c c4, e 0 (by decide) (by decide)]; exact hB.2.1
  · unfold iC at *; rw [c4, e 6 (by decide) (by decide)]; exact hC
  · rw [c4] at h4p
    rw [e 11 (by decide) (by decide)] at h11p
    by_cases z : p = o
    · subst z; rw [k5] at h5p; omega
    · rw [e5 p z] at h5p
      obtain ⟨j, hj, _⟩ := hS.2 p hp h4p h11p h5p
      omega
theorem LI_unhand (H : LI n d0 0 g s) (ho : o < 80) (h8 : s 8 o ≠ 0) : LI n (d1 o) 0 g (nS s 8 o (s 8 o - 1)) := by
  obtain ⟨hK, hT, hG, hF, hR, hL, hW, hO, hX, hB, hC, hS⟩ := H
  have e : ∀ c, c ≠ 8 → nS s 8 o (s 8 o - 1) c = s c := fun c a => funext fun k => nS_ne (fun q => a q.1)
  have e8 : ∀ p, p ≠ o → nS s 8 o (s 8 o - 1) 8 p = s 8 p := fun p hp => nS_ne (fun q => hp q.2)
  have k8 : nS s 8 o (s 8 o - 1) 8 o = s 8 o - 1 := nS_eq
  have c4 := e 4 (by decide)
  have c12 := e 12 (by decide)
  refine ⟨iK_c (e 1 (by decide)) (e 2 (by decide)) (e 3 (by decide)) hK, ?_, iG_c (e 2 (by decide)) c4 (e 7 (by decide)) (e 13 (by decide)) hG, iF_c (e 1 (by decide)) c4 c12 hF, fun p hp h4p => ?_, ?_, ?_, iO_c c4 (e 13 (by decide)) hO, iX_c c4 (e 18 (by decide)) hX, ⟨fun p hp h4p => ?_, ?_, hB.2.2⟩, ?_, ?_⟩
  · unfold iT vo nfo at *
    rw [c4, e 1 (by decide), e 6 (by decide), e 9 (by decide), e 10 (by decide), e 11 (by decide), e 5 (by decide), c12]
    exact hT
  · rw [c4] at h4p
    have h1 := hR p hp h4p
    have hwt : wT (nS s 8 o (s 8 o - 1)) p = wT s p := by unfold wT; rw [e 16 (by decide), e 0 (by decide)]
    rw [eT_c c4 c12, hwt, e 5 (by decide)]
    have h2 : d0 p = 0 := rfl
    by_cases z : p = o
    · subst z
      have h3 : d1 p p = 1 := if_pos rfl
      rw [k8, h3]
      omega
    · have h3 : d1 o p = 0 := if_neg z
      rw [e8 p z, h3]
      omega
  · unfold iL at *; rw [e 0 (by decide), e 9 (by decide), e 14 (by decide)]; exact hL
  · unfold iW at *; rw [e 0 (by decide), e 16 (by decide), c4, e 10 (by decide)]; exact hW
  · rw [c4] at h4p
    by_cases z : p = o
    · subst z; rw [k8]; have := hB.1 p hp h4p; omega
    · rw [e8 p z]; exact hB.1 p hp h4p
  · rw [TT_c c4, e 0 (by decide)]; exact hB.2.1
  · unfold iC at *; rw [c4, e 6 (by decide)]; exact hC
  · unfold iS at *; rw [c4, e 11 (by decide), e 5 (by decide)]; exact hS
end CAL

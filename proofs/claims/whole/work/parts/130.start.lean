def L7 : List Nat := [40, 41, 42, 43, 44, 45, 46, 47, 48, 49, 50, 51, 52, 53, 54, 55, 56, 57, 58, 59]
def zS (c k : Nat) (s : Sm) : Sm := fun a b => if a = c ∧ b < k then 0 else s a b
def sX0 : Sm := fun c _ => if c = 1 ∨ c = 4 ∨ c = 12 ∨ c = 13 ∨ c = 18 then 1 else 0
def s00 : Sm := fun c _ => if c = 12 then 1 else 0
def u7 : Mm := (fun c k => if c = 46 ∧ k = 1 then 400 else 0, cst)
def u00 (u8 : Mm) : Mm := (fun c k => if c < 40 then u8.1 c k else u7.1 c k, fun c k => if c < 40 then u8.2 c k else u7.2 c k)
section BEG
variable {r u u8 : Mm} {s : Sm} {c k N : Nat}
theorem zS_0 : zS c 0 s = s := by
  funext a b
  unfold zS
  rw [if_neg (by omega)]
theorem zS_s : nS (zS c k s) c k 0 = zS c (k + 1) s := by
  funext a b
  unfold nS zS
  grind
theorem mi_240 : ∀ (d k N2 : Nat) (u : Mm), MR r u (zS 18 k s) → k + d = 20 → d < N2 → ∃ u', f_X8_init_240 N N2 (i3 k) u = some u' ∧ MR r u' (zS 18 20 s)
  | d, k, 0, u, _, _, h => by omega
  | 0, k, N2 + 1, u, M, h, _ => by
    have : k = 20 := by omega
    subst this
    refine ⟨u, ?_, M⟩
    unfold f_X8_init_240 g_X8_init_240
    rw [if_pos (by decide)]
  | d + 1, k, N2 + 1, u, M, h, hN => by
    have M2 := M.set (c := 18) (k := k) (v := 0) (w := -1) (by show k < 20; omega) rfl
    rw [zS_s] at M2
    obtain ⟨u', h1, h2⟩ := mi_240 d (k + 1) N2 _ M2 (by omega) (by omega)
    refine ⟨u', ?_, h2⟩
    rw [← h1]
    show g_X8_init_240 N _ _ _ = _
    unfold g_X8_init_240
    rw [if_neg (show ¬ (20 : Int32) ≤ i3 k by rw [i3_Lle (by omega) (by decide)]; omega), i3_bI (by omega), decide_eq_true (by omega), ck_t, pt_d, i3_ix (by omega), i3_addL]
theorem mi_218 : ∀ (d k N2 : Nat) (u : Mm), MR r u (zS 13 k s) → k + d = 400 → d < N2 → ∃ u', f_X8_init_218 N N2 (i3 k) u = f_X8_init_240 N N 0 u' ∧ MR r u' (zS 13 400 s)
  | d, k, 0, u, _, _, h => by omega
  | 0, k, N2 + 1, u, M, h, _ => by
    have : k = 400 := by omega
    subst this
    refine ⟨u, ?_, M⟩
    unfold f_X8_init_218 g_X8_init_218
    rw [if_pos (by decide)]
  | d + 1, k, N2 + 1, u, M, h, hN => by
    have M2 := M.set (c := 13) (k := k) (v := 0) (w := -1) (by show k < 400; omega) rfl
    rw [zS_s] at M2
    obtain ⟨u', h1, h2⟩ := mi_218 d (k + 1) N2 _ M2 (by omega) (by omega)
    refine ⟨u', ?_, h2⟩
    rw [← h1]
    show g_X8_init_218 N _ _ _ = _
    unfold g_X8_init_218
    rw [if_neg (show ¬ (400 : Int32) ≤ i3 k by rw [i3_Lle (by omega) (by decide)]; omega), i3_bI (by omega), decide_eq_true (by omega), ck_t, pt_d, i3_ix (by omega), i3_addL]
theorem mi_197 : ∀ (d k N2 : Nat) (u : Mm), MR r u (zS 4 k s) → k + d = 80 → d < N2 → ∃ u', f_X8_init_197 N N2 (i3 k) u = f_X8_init_218 N N 0 u' ∧ MR r u' (zS 4 80 s)
  | d, k, 0, u, _, _, h => by omega
  | 0, k, N2 + 1, u, M, h, _ => by
    have : k = 80 := by omega
    subst this
    refine ⟨u, ?_, M⟩
    unfold f_X8_init_197 g_X8_init_197
    rw [if_pos (by decide)]
  | d + 1, k, N2 + 1, u, M, h, hN => by
    have M2 := M.set (c := 4) (k := k) (v := 0) (w := -1) (by show k < 80; omega) rfl
    rw [zS_s] at M2
    obtain ⟨u', h1, h2⟩ := mi_197 d (k + 1) N2 _ M2 (by omega) (by omega)
    refine ⟨u', ?_, h2⟩
    rw [← h1]
    show g_X8_init_197 N _ _ _ = _
    unfold g_X8_init_197
    rw [if_neg (show ¬ (80 : Int32) ≤ i3 k by rw [i3_Lle (by omega) (by decide)]; omega), i3_bI (by omega), decide_eq_true (by omega), ck_t, pt_d, i3_ix (by omega), i3_addL]
theorem mi_176 : ∀ (d k N2 : Nat) (u : Mm), MR r u (zS 1 k s) → k + d = 10 → d < N2 → ∃ u', f_X8_init_176 N N2 (i3 k) u = f_X8_init_197 N N 0 u' ∧ MR r u' (zS 1 10 s)
  | d, k, 0, u, _, _, h => by omega
  | 0, k, N2 + 1, u, M, h, _ => by
    have : k = 10 := by omega
    subst this
    refine ⟨u, ?_, M⟩
    unfold f_X8_init_176 g_X8_init_176
    rw [if_pos (by decide)]
  | d + 1, k, N2 + 1, u, M, h, hN => by
    have M2 := M.set (c := 1) (k := k) (v := 0) (w := -1) (by show k < 10; omega) rfl
    rw [zS_s] at M2
    obtain ⟨u', h1, h2⟩ := mi_176 d (k + 1) N2 _ M2 (by omega) (by omega)
    refine ⟨u', ?_, h2⟩
    rw [← h1]
    show g_X8_init_176 N _ _ _ = _
    unfold g_X8_init_176
    rw [if_neg (show ¬ (10 : Int32) ≤ i3 k by rw [i3_Lle (by omega) (by decide)]; omega), i3_bI (by omega), decide_eq_true (by omega), ck_t, pt_d, i3_ix (by omega), i3_addL]
theorem MR.cg {s' : Sm} (h : MR r u s) (e : ∀ c k, nsc c k → s' c k = s c k) : MR r u s' := ⟨h.1, h.2.1, fun c k q => by rw [e c k q]; exact h.2.2 c k q⟩
theorem MR_X0 : MR uM0 uM0 sX0 := ⟨rfl, fun _ _ _ => rfl, fun c k _ => by
  show (0 : Int32) = (if c = 1 ∨ c = 4 ∨ c = 12 ∨ c = 13 ∨ c = 18 then oI (if c = 1 ∨ c = 4 ∨ c = 12 ∨ c = 13 ∨ c = 18 then 1 else 0) else i3 (if c = 1 ∨ c = 4 ∨ c = 12 ∨ c = 13 ∨ c = 18 then 1 else 0))
  by_cases h : c = 1 ∨ c = 4 ∨ c = 12 ∨ c = 13 ∨ c = 18
  · rw [if_pos h, if_pos h]; rfl
  · rw [if_neg h, if_neg h]; rfl⟩
theorem mi_all (hN : 5000 ≤ N) : ∃ u8, f_X8_init_174 N uM0 = some u8 ∧ MR uM0 u8 s00 := by
  obtain ⟨v1, e1, M1⟩ := mi_176 (N := N) (s := sX0) 10 0 N uM0 (by rw [zS_0]; exact MR_X0) rfl (by omega)
  obtain ⟨v2, e2, M2⟩ := mi_197 (N := N) (s := zS 1 10 sX0) 80 0 N v1 (by rw [zS_0]; exact M1) rfl (by omega)
  obtain ⟨v3, e3, M3⟩ := mi_218 (N := N) (s := zS 4 80 (zS 1 10 sX0)) 400 0 N v2 (by rw [zS_0]; exact M2) rfl (by omega)
  obtain ⟨v4, e4, M4⟩ := mi_240 (N := N) (s := zS 13 400 (zS 4 80 (zS 1 10 sX0))) 20 0 N v3 (by rw [zS_0]; exact M3) rfl (by omega)
  refine ⟨v4, (e1.trans (e2.trans (e3.trans e4)) : f_X8_init_176 N N 0 uM0 = some v4), M4.cg (fun c k q => ?_)⟩
  have h1 : c = 1 → k < 10 := fun h => by subst h; exact q
  have h4 : c = 4 → k < 80 := fun h => by subst h; exact q
  have h13 : c = 13 → k < 400 := fun h => by subst h; exact q
  have h18 : c = 18 → k < 20 := fun h => by subst h; exact q
  clear M1 M2 M3 M4 e1 e2 e3 e4 q
  unfold zS sX0 s00
  grind
theorem cst_hi (h : 4 ≤ k) (h8 : tg c ≠ 8) : cst c k = none := by
  unfold cst
  generalize tg c = t at *
  match t, h8 with
  | 0, _ => exact List.getElem?_eq_none h
  | 1, _ => exact List.getElem?_eq_none h
  | 2, _ => rfl
  | 3, _ => exact if_neg (by omega)
  | 4, _ => exact List.getElem?_eq_none h
  | 5, _ => exact if_neg (by omega)
  | 6, _ => exact if_neg (by omega)
  | 7, _ => exact List.getElem?_eq_none h
  | 8, h8 => exact absurd rfl h8
  | n + 9, _ => rfl
theorem L7_tg : ∀ c ∈ L7, tg c ≠ 8 ∧ 40 ≤ c ∧ c < 60 := by decide +kernel
theorem LM_lt : ∀ c ∈ LM, c < 40 := by decide +kernel
theorem L7_cst : ∀ c ∈ L7, ∀ k, k < 4 → (cst c k = none ∨ ∃ d ∈ L7, cst c k = some d ∧ tg d + 1 = rs (tg c) k) := by decide +kernel
theorem L7_in {d : Nat} (hc : c ∈ L7) (h : cst c k = some d) : d ∈ L7 ∧ tg d + 1 = rs (tg c) k := by
  by_cases hk : k < 4
  · rcases L7_cst c hc k hk with e | ⟨d', h1, h2, h3⟩
    · rw [h] at e; cases e
    · rw [h] at h2
      cases h2
      exact ⟨h1, h3⟩
  · rw [cst_hi (by omega) (L7_tg c hc).1] at h
    cases h
theorem ok_u7 : Ok L7 u7 := fun c hc k => ⟨fun _ h => h, fun _ _ h => L7_in hc h⟩
theorem u00_m (h : c < 40) : (u00 u8).1 c = u8.1 c ∧ (u00 u8).2 c = u8.2 c := ⟨funext fun k => if_pos h, funext fun k => if_pos h⟩
theorem u00_c (h : 40 ≤ c) : (u00 u8).1 c = u7.1 c ∧ (u00 u8).2 c = u7.2 c := ⟨funext fun k => if_neg (by omega), funext fun k => if_neg (by omega)⟩
theorem ok_u00 (M : MR uM0 u8 s00) : Ok (L7 ++ LM) (u00 u8) := by
  intro c hc k
  rcases List.mem_append.mp hc with h | h
  · have e := (u00_c (u8 := u8) (L7_tg c h).2.1).2
    rw [e]
    obtain ⟨h1, h2⟩ := ok_u7 c h k
    exact ⟨h1, fun hr d hd => ⟨List.mem_append_left _ (h2 hr d hd).1, (h2 hr d hd).2⟩⟩
  · have e := (u00_m (u8 := u8) (LM_lt c h)).2
    rw [e, M.1]
    obtain ⟨h1, h2⟩ := ok_uM0 c h k
    exact ⟨h1, fun hr d hd => ⟨List.mem_append_right _ (h2 hr d hd).1, (h2 hr d hd).2⟩⟩
theorem LI_00 : LI 0 d0 0 (fun _ => 0) s00 := by
  have e : ∀ c k, c ≠ 12 → s00 c k = 0 := fun c k h => if_neg h
  have tt : TT s00 = 0 := cnt_zero.mpr (fun i _ => by rw [e 4 i (by decide)]; rfl)
  refine ⟨fun y _ => ?_, fun o _ => ⟨fun h => absurd (e 4 o (by decide)) h, fun _ => ⟨e 9 o (by decide), e 11 o (by decide)⟩⟩, fun o _ h => absurd (e 4 o (by decide)) h, fun i _ h => absurd (e 4 _ (by decide)) h, fun o _ h => absurd (e 4 o (by decide)) h, ⟨?_, fun j hj => ?_⟩, ⟨?_, fun j hj => ?_⟩, fun w _ => ?_, fun w _ => ?_, ⟨fun o _ h => absurd (e 4 o (by decide)) h, ?_, by decide⟩, fun o _ h => absurd (e 4 o (by decide)) h, ⟨fun j hj => by omega, fun o _ h => absurd (e 4 o (by decide)) h⟩⟩
  · rw [e 1 y (by decide), e 3 y (by decide)]
    exact ⟨by decide, by decide, fun h => absurd rfl h⟩
  · rw [e 0 15 (by decide)]
    exact (cnt_zero.mpr (fun i _ => by rw [e 9 i (by decide)]; rfl)).symm
  · rw [e 0 15 (by decide)] at hj; omega
  · rw [e 0 17 (by decide)]; decide
  · rw [e 0 17 (by decide)] at hj; omega
  · rw [e 13 w (by decide)]; exact ⟨by decide, fun h => absurd rfl h⟩
  · rw [e 18 w (by decide)]; exact ⟨by decide, fun h => absurd rfl h⟩
  · rw [e 0 20 (by decide), tt]; decide
theorem CR_00 : CRr (fun _ => none) 0 (fun _ => 0) (fun _ => False) (u00 u8) (u00 u8) s00 := by
  have e : ∀ c k, c ≠ 12 → s00 c k = 0 := fun c k h => if_neg h
  have tt : TT s00 = 0 := cnt_zero.mpr (fun i _ => by rw [e 4 i (by decide)]; rfl)
  have cn1 : ∀ n, cnt n (fun _ => true) = n := fun n => by
    induction n with
    | zero => rfl
    | succ n ih => simp only [cnt, ih, if_true]
  have fw : FW s00 = 400 := (cnt_congr (fun i _ => by rw [e 13 i (by decide)]; rfl)).trans (cn1 400)
  have o0 : ∀ v, oT (fun _ => none) v = none := fun v => by unfold oT; split <;> rfl
  have i7 : ∀ c k, 40 ≤ c → ¬ (c = 46 ∧ k = 1) → (u00 u8).1 c k = 0 := fun c k h h2 => by rw [(u00_c h).1]; exact if_neg h2
  have r7 : ∀ c k, 40 ≤ c → (u00 u8).2 c k = cst c k := fun c k h => by rw [(u00_c h).2]; rfl
  unfold CRr
  rw [tt, fw, e 0 15 (by decide)]
  refine ⟨fun _ _ _ => ⟨rfl, rfl⟩, (fun o t h => by cases h), (fun o t h => by cases h), (fun o t f h => by cases h), (fun o t h => by cases h), fun y _ => ⟨fun _ => r7 41 y (by decide), fun h => absurd (e 1 y (by decide)) h⟩, fun o _ => ⟨fun _ => r7 43 o (by decide), fun h => absurd (e 4 o (by decide)) h⟩, fun w _ => ?_, fun w _ => ?_, fun i _ => ?_, ?_, ⟨?_, fun j hj => ?_⟩, ⟨i7 51 1 (by decide) (by decide), fun j hj => by omega⟩, ⟨i7 49 1 (by decide) (by decide), fun j hj => by omega, (fun o t h => by cases h)⟩, ⟨?_, i7 42 4 (by decide) (by decide)⟩⟩
  · rw [o0]; exact r7 47 w (by decide)
  · rw [o0]; exact r7 45 w (by decide)
  · rw [e 19 i (by decide)]; exact i7 44 i (by decide) (by omega)
  · unfold cN
    rw [e 0 20 (by decide), e 0 21 (by decide), e 0 22 (by decide), e 0 23 (by decide), e 0 24 (by decide)]
    exact ⟨i7 42 5 (by decide) (by decide), i7 55 4 (by decide) (by decide), i7 40 4 (by decide) (by decide), i7 55 5 (by decide) (by decide), i7 55 6 (by decide) (by decide)⟩
  · rw [e 0 17 (by decide)]; exact i7 53 1 (by decide) (by decide)
  · rw [e 0 17 (by decide)] at hj; omega
  · rw [(u00_c (show 40 ≤ 46 by decide)).1]
    show (if 46 = 46 ∧ 1 = 1 then (400 : Int32) else 0) = i3 400
    rw [if_pos ⟨rfl, rfl⟩]
    rfl
theorem Jk_00 (M : MR uM0 u8 s00) : Jk 0 (u00 u8) :=
  ⟨fun _ => none, fun _ => 0, s00, LI_00, CR_00, ⟨rfl, fun _ _ => rfl, fun c k h => by
    rw [(u00_m (by have := nsc_lt h; omega)).1]
    exact M.2.2 c k h⟩, fun _ _ => rfl⟩
end BEG
def No2 (x : Option (Nat × Int32 × Bool × Mm)) : Prop := ∀ o, x = some o → o.1 ≠ 2
section NO2
variable {u : Mm} {N : Nat}
theorem No2.s {k : Nat} {q : Int32 × Bool × Mm} (h : k ≠ 2) : No2 (some (k, q)) := fun o e => by cases e; exact h
theorem No2.n : No2 none := fun o e => by cases e
theorem No2.i {P : Prop} [Decidable P] {x y : Option (Nat × Int32 × Bool × Mm)} (h1 : P → No2 x) (h2 : ¬ P → No2 y) : No2 (if P then x else y) := by
  by_cases h : P
  · rw [if_pos h]; exact h1 h
  · rw [if_neg h]; exact h2 h
theorem No2.c {b : Bool} {x : Option (Nat × Int32 × Bool × Mm)} (h : No2 x) : No2 (ck b x) := by
  cases b
  · exact No2.n
  · exact h
theorem No2.p {α : Type} {x : α} {F : α → Option (Nat × Int32 × Bool × Mm)} (h : ∀ z, No2 (F z)) : No2 (pt x F) := h x
theorem No2.l {r : Option Nat} {x : Option (Nat × Int32 × Bool × Mm)} {y : Nat → Option (Nat × Int32 × Bool × Mm)} (h1 : No2 x) (h2 : ∀ t, No2 (y t)) : No2 (nl r x y) := by
  cases r
  · exact h1
  · exact h2 _
theorem No2.d {α β : Type} {r : Option (α × β)} {F : α → β → Option (Nat × Int32 × Bool × Mm)} (h : ∀ a b, No2 (F a b)) : No2 (bd r F) := fun o e => by
  obtain ⟨a, b, _, h2⟩ := bd_e e
  exact h a b o h2
theorem No2.v {β : Type} {r : Option β} {F : β → Option (Nat × Int32 × Bool × Mm)} (h : ∀ b, No2 (F b)) : No2 (bv r F) := fun o e => by
  obtain ⟨b, _, h2⟩ := bv_e e
  exact h b o h2
end NO2

section LEF
variable {th : Nat → Option Nat} {n m fw tt : Nat} {l g : Nat → Nat} {q : Nat → Prop} {r u : Mm} {s : Sm} {o t v N : Nat}
theorem CR.cv (h : CR th n l m g q fw tt r u s) (ht : th o = some t) : 70 ≤ t ∧ t % 4 = 0 ∧ o < 80 := ⟨(h.2.1 o t ht).1, (h.2.1 o t ht).2.1, (h.2.1 o t ht).2.2.1⟩
theorem CR.a0 (h : CR th n l m g q fw tt r u s) (ht : th o = some t) : u.1 t 0 = i3 o := (h.2.2.1 o t ht).1
theorem CR.a3 (h : CR th n l m g q fw tt r u s) (ht : th o = some t) : u.1 t 3 = i3 (s 5 o) := (h.2.2.1 o t ht).2.1
theorem CR.a4 (h : CR th n l m g q fw tt r u s) (ht : th o = some t) : u.1 t 4 = i3 (s 8 o) := (h.2.2.1 o t ht).2.2.1
theorem CR.a5 (h : CR th n l m g q fw tt r u s) (ht : th o = some t) : u.1 t 5 = i3 (s 6 o) := (h.2.2.1 o t ht).2.2.2.1
theorem CR.a6 (h : CR th n l m g q fw tt r u s) (ht : th o = some t) : u.1 t 6 = i3 (s 7 o) := (h.2.2.1 o t ht).2.2.2.2.1
theorem CR.a8 (h : CR th n l m g q fw tt r u s) (ht : th o = some t) : u.1 t 8 = i3 (s 9 o) := (h.2.2.1 o t ht).2.2.2.2.2
theorem CR.h (h : CR th n l m g q fw tt r u s) (ht : th o = some t) {f : Nat} (hf : f < 6) : u.2 (t + 1) f = oT th (s 12 (6 * o + f)) := h.2.2.2.1 o t f ht hf
theorem CR.b (h : CR th n l m g q fw tt r u s) (ht : th o = some t) (h4 : s 4 o ≠ 0) : u.1 t 10 = i3 (s 11 o) ∧ u.2 t 1 = u.2 41 (s 4 o - 1) ∧ (s 3 (s 4 o - 1) = 1 ∧ s 10 o = 0 → u.1 t 9 = 1) ∧ (¬ (s 3 (s 4 o - 1) = 1 ∧ s 10 o = 0) → u.1 t 9 = 0) := h.2.2.2.2.1 o t ht h4
theorem CR.k (h : CR th n l m g q fw tt r u s) {y : Nat} (hy : y < 10) : (s 1 y = 0 → u.2 41 y = none) ∧ (s 1 y ≠ 0 → ∃ kd, u.2 41 y = some kd ∧ 70 ≤ kd ∧ kd % 4 = 2 ∧ u.1 kd 0 = i3 y ∧ u.1 kd 1 = i3 (s 1 y - 1) ∧ u.1 kd 2 = i3 (s 2 y) ∧ u.1 kd 3 = i3 (s 3 y)) := h.2.2.2.2.2.1 y hy
theorem CR.cs (h : CR th n l m g q fw tt r u s) (ho : o < 80) : (s 4 o = 0 → u.2 43 o = none) ∧ (s 4 o ≠ 0 → u.2 43 o = th o ∧ th o ≠ none) := h.2.2.2.2.2.2.1 o ho
theorem CR.w (h : CR th n l m g q fw tt r u s) {w : Nat} (hw : w < 400) : u.2 47 w = oT th (s 13 w) := h.2.2.2.2.2.2.2.1 w hw
theorem CR.x (h : CR th n l m g q fw tt r u s) {w : Nat} (hw : w < 20) : u.2 45 w = oT th (s 18 w) := h.2.2.2.2.2.2.2.2.1 w hw
theorem CR.e (h : CR th n l m g q fw tt r u s) {i : Nat} (hi : i < 100) : u.1 44 i = i3 (s 19 i) := h.2.2.2.2.2.2.2.2.2.1 i hi
theorem CR.cn (h : CR th n l m g q fw tt r u s) : cN u s := h.2.2.2.2.2.2.2.2.2.2.1
theorem CR.i (h : CR th n l m g q fw tt r u s) : cI th u s := h.2.2.2.2.2.2.2.2.2.2.2.1
theorem CR.cl (h : CR th n l m g q fw tt r u s) : cL th u n l := h.2.2.2.2.2.2.2.2.2.2.2.2.1
theorem CR.cg (h : CR th n l m g q fw tt r u s) : cG th u s m g q := h.2.2.2.2.2.2.2.2.2.2.2.2.2.1
theorem CR.c (h : CR th n l m g q fw tt r u s) : cC u fw tt := h.2.2.2.2.2.2.2.2.2.2.2.2.2.2
theorem x3_append {a k t : Nat} (h : u.1 a 1 = i3 k) (hk : k < 80) : f_X3_append N a t u = some (sI (sR u (a + 1) k (some t)) a 1 (i3 (k + 1))) := by
  unfold f_X3_append
  have e : (sR u (a + 1) k (some t)).1 = u.1 := rfl
  simp only [pt_d, h, e, i3_bI (show k < 2147483648 by omega), i3_ix (show k < 2147483648 by omega), hk, decide_true, ck_t, i3_addL]
  rw [if_neg]
  rw [i3_Lle (by omega) (by decide)]
  omega
theorem x5_green {t v : Nat} (h : u.1 t 5 = i3 v) (hv : v ≤ 4) : f_X5_isGreen N t u = some (if v = 4 then 1 else 0, u) := by
  unfold f_X5_isGreen
  simp only [pt_d, h, i3_eqL (show v < 2147483648 by omega) (show 4 < 2147483648 by decide)]
  split <;> rfl
theorem co_blk (h : CR th n l m g q fw tt r u s) (ht : th o = some t) (h6 : s 6 o ≤ 4) : Go (f_X5_blackenUnlessGreen N t u) (fun u' => CR th n l m g q fw tt r u' (blk o s)) := by
  unfold f_X5_blackenUnlessGreen
  rw [x5_green (h.a5 ht) h6, bd_s]
  unfold blk
  by_cases hc : s 6 o = 4
  · rw [if_pos hc, if_neg (by decide), if_pos hc]
    have e : nS s 6 o 4 = s := by
      funext a b
      unfold nS
      split
      · rename_i hh
        rw [hh.1, hh.2, hc]
      · rfl
    rw [e]
    exact Go.s h
  · rw [if_neg hc, if_pos rfl, if_neg hc, pt_d]
    exact Go.s (h.t5 (v := 0) ht)
theorem co_more (h : CR th n l m g q fw tt r u s) (ht : th o = some t) (h6 : s 6 o ≤ 4) : Go (f_X1_more N t u) (fun u' => CR th n l m g q fw tt r u' (moreA o s)) := by
  unfold f_X1_more
  simp only [pt_d, h.a3 ht, i3_addL]
  refine Go.bv (co_blk (h.t3 (v := s 5 o + 1) ht) ht (by unfold nS; grind)) (fun u1 h1 => Go.s h1)
theorem co_tell (h : CR th n l m g q fw tt r u s) (ht : th o = some t) (h17 : s 0 17 < 80) : Go (f_X1_tellWish N t u) (fun u' => CR th n l m g q fw tt r u' (nS (tellA o s) 5 o (s 5 o + 1))) := by
  unfold f_X1_tellWish
  have h1 := h.t9 ht
  simp only [pt_d, h1.a3 ht, i3_addL]
  have h2 := h1.t3 (v := s 5 o + 1) ht
  have e5 : nS s 10 o 1 5 o = s 5 o := by unfold nS; grind
  rw [e5]
  have hi := h2.i.1
  have e17 : nS (nS s 10 o 1) 5 o (s 5 o + 1) 0 17 = s 0 17 := by unfold nS; grind
  rw [e17] at hi
  rw [x3_append hi h17, bv_s]
  have h3 := h2.wpush ht
  rw [e17] at h3
  refine Go.s ?_
  have e : nS (nS (nS (nS s 10 o 1) 5 o (s 5 o + 1)) 16 (s 0 17) o) 0 17 (s 0 17 + 1) = nS (tellA o s) 5 o (s 5 o + 1) := by
    unfold tellA nS
    funext a b
    grind
  rw [← e]
  exact h3
theorem nS_id {c k : Nat} (h : s c k = v) : nS s c k v = s := by
  funext a b
  unfold nS
  split
  · rename_i hh
    rw [hh.1, hh.2, h]
  · rfl
theorem nS_eq {c k : Nat} : nS s c k v c k = v := if_pos ⟨rfl, rfl⟩
theorem nS_ne {c k a b : Nat} (h : ¬ (a = c ∧ b = k)) : nS s c k v a b = s a b := if_neg h
abbrev CRl (th : Nat → Option Nat) (m : Nat) (g : Nat → Nat) (q : Nat → Prop) (fw tt : Nat) (r u : Mm) (s : Sm) : Prop := CR th (s 0 15) (s 14) m g q fw tt r u s
theorem co_susp (h : CRl th m g q fw tt r u s) (ht : th o = some t) (h6 : s 6 o ≤ 4) (h9 : s 9 o ≤ 1) (hn : s 9 o = 0 → s 0 15 < 80) (hp : s 6 o = 3 → s 9 o ≠ 0) :
    Go (f_X1_suspect N t u) (fun u' => CRl th m g q fw tt r u' (suspA o s)) := by
  unfold f_X1_suspect
  rw [x5_green (h.a5 ht) h6, bd_s]
  unfold suspA
  by_cases hc : s 6 o = 4
  · rw [if_pos hc, if_neg (by decide)]
    refine Go.s ?_
    rw [if_pos (show s 6 o = 4 ∨ s 6 o = 3 from Or.inl hc)]
    exact h
  · have h1 := h.t5 (v := 3) ht
    have e9 : nS s 6 o 3 9 o = s 9 o := nS_ne (by omega)
    have e8 := h1.a8 ht
    rw [e9] at e8
    have e8' : (sI u t 5 3).1 t 8 = i3 (s 9 o) := e8
    have h1' : CR th (s 0 15) (s 14) m g q fw tt r (sI u t 5 3) (nS s 6 o 3) := h1
    have z9 : i3 (s 9 o) = 0 ↔ s 9 o = 0 := i3_eqL (by omega) (by decide)
    rw [if_neg hc, if_pos rfl, pt_d, pt_d, e8']
    by_cases h90 : s 9 o = 0
    · have h3 : s 6 o ≠ 3 := fun q => hp q h90
      rw [if_pos (z9.mpr h90), pt_d]
      have h2 : CR th (s 0 15) (s 14) m g q fw tt r (sI (sI u t 5 3) t 8 1) (nS (nS s 6 o 3) 9 o 1) := h1'.t8 (v := 1) ht
      rw [x3_append h2.cl.1 (hn h90), bv_s]
      refine Go.s ?_
      rw [if_neg (show ¬(s 6 o = 4 ∨ s 6 o = 3) by omega), if_pos h90]
      have h3 := (h2.lpush ht (hn h90)).s14 (k := s 0 15) (v := o) |>.s15 (v := s 0 15 + 1)
      exact h3.lc (fun j hj => by
        unfold nS
        grind)
    · rw [if_neg (fun q => h90 (z9.mp q))]
      refine Go.s ?_
      by_cases h3 : s 6 o = 3
      · rw [if_pos (show s 6 o = 4 ∨ s 6 o = 3 from Or.inr h3)]
        rw [nS_id h3] at h1'
        exact h1'
      · rw [if_neg (show ¬(s 6 o = 4 ∨ s 6 o = 3) by omega), if_neg h90]
        exact h1'
def goes (o : Nat) (s : Sm) : Prop := s 5 o ≤ 1 ∧ ¬ hwo s o
def lowA (o : Nat) (s : Sm) : Sm := if s 5 o ≤ 1 then (if s 3 (s 4 o - 1) = 1 ∧ s 10 o = 0 then wshA o (decA o s) else decA o s) else suspA o (decA o s)
theorem co_lower (h : CRl th m g q fw tt r u s) (ht : th o = some t) (h4 : s 4 o ≠ 0) (h5 : s 5 o ≠ 0) (b5 : s 5 o < 2000000000) (h6 : s 6 o ≤ 4) (h9 : s 9 o ≤ 1) (hn : s 9 o = 0 → s 0 15 < 80) (hp : s 6 o = 3 → s 9 o ≠ 0) (hw : s 10 o = 0 → s 0 17 < 80) (hm : m < 80) :
    Go (f_X1_lower N t u) (fun u' => (¬ (s 5 o ≤ 1 ∧ ¬ (s 3 (s 4 o - 1) = 1 ∧ s 10 o = 0)) → CRl th m g q fw tt r u' (lowA o s)) ∧ ((s 5 o ≤ 1 ∧ ¬ (s 3 (s 4 o - 1) = 1 ∧ s 10 o = 0)) → CRl th (m + 1) (fun j => if j = m then o else g j) q fw tt r u' (lowA o s))) := by
  unfold f_X1_lower
  have h1 : CRl th m g q fw tt r (sI u t 3 (i3 (s 5 o - 1))) (decA o s) := h.t3 (v := s 5 o - 1) ht
  have e3 := h1.a3 ht
  have e5 : decA o s 5 o = s 5 o - 1 := nS_eq
  rw [e5] at e3
  have i1 : i3 (s 5 o) - 1 = i3 (s 5 o - 1) := i3_subL (show 1 ≤ s 5 o by omega)
  simp only [pt_d, h.a3 ht]
  rw [i1, e3]
  have z0 : i3 (s 5 o - 1) ≤ 0 ↔ s 5 o - 1 ≤ 0 := i3_leL (by omega) (by decide)
  have hb := h1.b ht (show decA o s 4 o ≠ 0 from by unfold decA; rw [nS_ne (by omega)]; exact h4)
  unfold lowA
  have e3' : decA o s 3 (decA o s 4 o - 1) = s 3 (s 4 o - 1) := by unfold decA nS; grind
  have e10 : decA o s 10 o = s 10 o := nS_ne (by omega)
  rw [e3', e10] at hb
  by_cases hz : s 5 o ≤ 1
  · rw [if_pos (z0.mpr (by omega)), if_pos hz]
    by_cases hwh : s 3 (s 4 o - 1) = 1 ∧ s 10 o = 0
    · rw [hb.2.2.1 hwh, if_neg (by decide), if_pos hwh]
      refine Go.bv (co_tell h1 ht ?_) (fun u1 k1 => ?_)
      · have e : decA o s 0 17 = s 0 17 := nS_ne (by omega)
        rw [e]; exact hw hwh.2
      · refine Go.bv (co_blk k1 ht ?_) (fun u2 k2 => Go.s ⟨fun _ => ?_, fun q => absurd hwh q.2⟩)
        · unfold tellA decA nS; grind
        · have e : nS (tellA o (decA o s)) 5 o (decA o s 5 o + 1) = nS (tellA o (decA o s)) 5 o 1 := by rw [e5, show s 5 o - 1 + 1 = 1 by omega]
          rw [e] at k2
          have ea : wshA o (decA o s) 0 15 = decA o s 0 15 := by unfold wshA blk tellA nS; grind
          have eb : wshA o (decA o s) 14 = decA o s 14 := by funext j; unfold wshA blk tellA nS; grind
          unfold CRl
          rw [ea, eb]
          exact k2
    · rw [hb.2.2.2 hwh, if_pos rfl, if_neg hwh]
      rw [x3_append h1.cg.1 hm, bv_s]
      exact Go.s ⟨fun q => absurd ⟨hz, hwh⟩ q, fun _ => h1.push ht hm⟩
  · rw [if_neg (fun q => hz (by have := z0.mp q; omega)), if_neg hz]
    refine Go.bv (co_susp h1 ht ?_ ?_ ?_ ?_) (fun u1 k1 => Go.s ⟨fun _ => k1, fun q => absurd q.1 hz⟩)
    · have e : decA o s 6 o = s 6 o := nS_ne (by omega)
      rw [e]; exact h6
    · have e : decA o s 9 o = s 9 o := nS_ne (by omega)
      rw [e]; exact h9
    · have e : decA o s 9 o = s 9 o := nS_ne (by omega)
      have e2 : decA o s 0 15 = s 0 15 := nS_ne (by omega)
      rw [e, e2]; exact hn
    · have e : decA o s 9 o = s 9 o := nS_ne (by omega)
      have e2 : decA o s 6 o = s 6 o := nS_ne (by omega)
      rw [e, e2]; exact hp
end LEF

abbrev Sm : Type := Nat → Nat → Nat
def nS (s : Sm) (c k v : Nat) : Sm := fun a b => if a = c ∧ b = k then v else s a b
def eC (c v : Nat) : Int32 := if c = 1 ∨ c = 4 ∨ c = 12 ∨ c = 13 ∨ c = 18 then oI v else i3 v
def nsc : Nat → Nat → Prop
  | 0, k => k = 0 ∨ k = 15 ∨ k = 17 ∨ k = 20 ∨ k = 21 ∨ k = 22 ∨ k = 23 ∨ k = 24
  | 1, k => k < 10
  | 2, k => k < 10
  | 3, k => k < 10
  | 4, k => k < 80
  | 5, k => k < 80
  | 6, k => k < 80
  | 7, k => k < 80
  | 8, k => k < 80
  | 9, k => k < 80
  | 10, k => k < 80
  | 11, k => k < 80
  | 12, k => k < 480
  | 13, k => k < 400
  | 14, k => k < 80
  | 16, k => k < 80
  | 18, k => k < 20
  | 19, k => k < 100
  | _, _ => False
def MR (r u : Mm) (s : Sm) : Prop := u.2 = r.2 ∧ (∀ c k, ¬ nsc c k → u.1 c k = r.1 c k) ∧ ∀ c k, nsc c k → u.1 c k = eC c (s c k)
theorem nsc_lt {c k : Nat} (h : nsc c k) : c < 31 := by
  rcases Nat.lt_or_ge c 31 with q | q
  · exact q
  · exfalso
    have e : c = (c - 31) + 31 := by omega
    rw [e] at h
    simp [nsc] at h
section MRS
variable {r u : Mm} {s : Sm}
theorem MR.set (h : MR r u s) {c k v : Nat} {w : Int32} (hc : nsc c k) (hw : w = eC c v) : MR r (sI u c k w) (nS s c k v) := by
  refine ⟨h.1, fun d j hd => ?_, fun d j hj => ?_⟩
  · rw [← h.2.1 d j hd]
    show (if d = c ∧ j = k then w else u.1 d j) = u.1 d j
    rw [if_neg (fun q => hd (by rw [q.1, q.2]; exact hc))]
  · show (if d = c ∧ j = k then w else u.1 d j) = eC d (if d = c ∧ j = k then v else s d j)
    by_cases q : d = c ∧ j = k
    · rw [if_pos q, if_pos q, q.1, hw]
    · rw [if_neg q, if_neg q]
      exact h.2.2 d j hj
theorem MR.scr (h : MR r u s) {c k : Nat} {w : Int32} (hn : ¬ nsc c k) : MR (sI r c k w) (sI u c k w) s := by
  refine ⟨h.1, fun d j hd => ?_, fun d j hj => ?_⟩
  · show (if d = c ∧ j = k then w else u.1 d j) = (if d = c ∧ j = k then w else r.1 d j)
    rw [h.2.1 d j hd]
  · show (if d = c ∧ j = k then w else u.1 d j) = eC d (s d j)
    rw [if_neg (fun q => hn (by rw [← q.1, ← q.2]; exact hj))]
    exact h.2.2 d j hj
theorem MR.f (h : MR r u s) {c k : Nat} (hn : ¬ nsc c k) : u.1 c k = r.1 c k := h.2.1 c k hn
theorem MR.rf (h : MR r u s) : MR u u s := ⟨rfl, fun _ _ _ => rfl, h.2.2⟩
theorem MR.g0 (h : MR r u s) {k : Nat} (hk : nsc 0 k) : u.1 0 k = i3 (s 0 k) := h.2.2 0 k hk
theorem MR.g1 (h : MR r u s) {k : Nat} (hk : k < 10) : u.1 1 k = oI (s 1 k) := h.2.2 1 k hk
theorem MR.g2 (h : MR r u s) {k : Nat} (hk : k < 10) : u.1 2 k = i3 (s 2 k) := h.2.2 2 k hk
theorem MR.g3 (h : MR r u s) {k : Nat} (hk : k < 10) : u.1 3 k = i3 (s 3 k) := h.2.2 3 k hk
theorem MR.g4 (h : MR r u s) {k : Nat} (hk : k < 80) : u.1 4 k = oI (s 4 k) := h.2.2 4 k hk
theorem MR.g5 (h : MR r u s) {k : Nat} (hk : k < 80) : u.1 5 k = i3 (s 5 k) := h.2.2 5 k hk
theorem MR.g6 (h : MR r u s) {k : Nat} (hk : k < 80) : u.1 6 k = i3 (s 6 k) := h.2.2 6 k hk
theorem MR.g7 (h : MR r u s) {k : Nat} (hk : k < 80) : u.1 7 k = i3 (s 7 k) := h.2.2 7 k hk
theorem MR.g8 (h : MR r u s) {k : Nat} (hk : k < 80) : u.1 8 k = i3 (s 8 k) := h.2.2 8 k hk
theorem MR.g9 (h : MR r u s) {k : Nat} (hk : k < 80) : u.1 9 k = i3 (s 9 k) := h.2.2 9 k hk
theorem MR.g10 (h : MR r u s) {k : Nat} (hk : k < 80) : u.1 10 k = i3 (s 10 k) := h.2.2 10 k hk
theorem MR.g11 (h : MR r u s) {k : Nat} (hk : k < 80) : u.1 11 k = i3 (s 11 k) := h.2.2 11 k hk
theorem MR.g12 (h : MR r u s) {k : Nat} (hk : k < 480) : u.1 12 k = oI (s 12 k) := h.2.2 12 k hk
theorem MR.g13 (h : MR r u s) {k : Nat} (hk : k < 400) : u.1 13 k = oI (s 13 k) := h.2.2 13 k hk
theorem MR.g14 (h : MR r u s) {k : Nat} (hk : k < 80) : u.1 14 k = i3 (s 14 k) := h.2.2 14 k hk
theorem MR.g16 (h : MR r u s) {k : Nat} (hk : k < 80) : u.1 16 k = i3 (s 16 k) := h.2.2 16 k hk
theorem MR.g18 (h : MR r u s) {k : Nat} (hk : k < 20) : u.1 18 k = oI (s 18 k) := h.2.2 18 k hk
theorem MR.g19 (h : MR r u s) {k : Nat} (hk : k < 100) : u.1 19 k = i3 (s 19 k) := h.2.2 19 k hk
end MRS
def thr (s : Sm) (o : Nat) : Prop := s 4 o ≠ 0
def nfo (s : Sm) (o : Nat) : Nat := s 1 (s 4 o - 1) - 1
def szo (s : Sm) (o : Nat) : Nat := s 2 (s 4 o - 1)
def hwo (s : Sm) (o : Nat) : Prop := s 3 (s 4 o - 1) = 1 ∧ s 10 o = 0
def blk (o : Nat) (s : Sm) : Sm := nS s 6 o (if s 6 o = 4 then 4 else 0)
def moreA (o : Nat) (s : Sm) : Sm := blk o (nS s 5 o (s 5 o + 1))
def tellA (o : Nat) (s : Sm) : Sm := nS (nS (nS s 10 o 1) 16 (s 0 17) o) 0 17 (s 0 17 + 1)
def suspA (o : Nat) (s : Sm) : Sm :=
  if s 6 o = 4 ∨ s 6 o = 3 then s else if s 9 o = 0 then nS (nS (nS (nS s 6 o 3) 9 o 1) 14 (s 0 15) o) 0 15 (s 0 15 + 1) else nS s 6 o 3
def decA (o : Nat) (s : Sm) : Sm := nS s 5 o (s 5 o - 1)
def wshA (o : Nat) (s : Sm) : Sm := blk o (nS (tellA o s) 5 o 1)
def freeA (o : Nat) (s : Sm) : Sm := fun c k =>
  if c = 13 ∧ k < 400 ∧ s 13 k = o + 1 then 0 else if c = 18 ∧ k < 20 ∧ s 18 k = o + 1 then 0 else if c = 4 ∧ k = o then 0 else if c = 11 ∧ k = o then 0
  else if c = 19 ∧ k = s 0 20 % 100 then o else if c = 0 ∧ k = 20 then s 0 20 + 1 else s c k
def finA (o : Nat) (s : Sm) : Sm := if s 9 o = 0 then freeA o (blk o s) else nS (blk o s) 11 o 1
section MOD
variable {r u : Mm} {s : Sm} {N o : Nat}
theorem mo_turn (h : MR r u s) (ho : o < 80) (h6 : s 6 o ≤ 4) : Go (f_X8_turn N (i3 o) 0 u) (fun u' => MR r u' (blk o s)) := by
  have e6 := h.g6 ho
  unfold f_X8_turn f_X8_turn_20
  simp only [pt_d, i3_bI (show o < 2147483648 by omega), i3_ix (show o < 2147483648 by omega), ho, decide_true, ck_t, e6, i3_eqL (show s 6 o < 2147483648 by omega) (show 4 < 2147483648 by decide)]
  unfold blk
  by_cases hc : s 6 o = 4
  · rw [if_pos hc, if_pos hc]
    exact Go.s (h.set (by simp [nsc] <;> omega) rfl)
  · rw [if_neg hc, if_neg hc]
    exact Go.s (h.set (by simp [nsc] <;> omega) rfl)
theorem mo_more (h : MR r u s) (ho : o < 80) (h6 : s 6 o ≤ 4) : Go (f_X8_more N (i3 o) u) (fun u' => MR r u' (moreA o s)) := by
  have e5 := h.g5 ho
  unfold f_X8_more
  simp only [pt_d, i3_bI (show o < 2147483648 by omega), i3_ix (show o < 2147483648 by omega), ho, decide_true, ck_t, e5, i3_addL]
  refine Go.bv (mo_turn (h.set (v := s 5 o + 1) (by simp [nsc] <;> omega) rfl) ho ?_) (fun u1 h1 => Go.s h1)
  show (if 6 = 5 ∧ o = o then _ else s 6 o) ≤ 4
  rw [if_neg (fun q => absurd q.1 (by decide))]
  exact h6
end MOD

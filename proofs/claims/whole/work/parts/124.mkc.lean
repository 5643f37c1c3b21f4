section MKC
variable {th : Nat → Option Nat} {n m fw tt k y a o t sz kd N : Nat} {l g : Nat → Nat} {q : Nat → Prop} {r u u1 : Mm} {z : Sm}
def th2 (th : Nat → Option Nat) (o t : Nat) : Nat → Option Nat := fun p => if p = o then some t else th p
def mkU (o a sz t kd fw tt : Nat) (u : Mm) : Mm := sI (sR (sI (sI (gvM a (a + sz) t (nT u t (i3 o) kd)) t 6 (i3 a)) 46 1 (i3 fw)) 43 o (some t)) 42 4 (i3 tt)
theorem th2_o : th2 th o t o = some t := if_pos rfl
theorem th2_ne {p : Nat} (h : p ≠ o) : th2 th o t p = th p := if_neg h
theorem oT2 {v : Nat} (h : v ≠ o + 1) : oT (th2 th o t) v = oT th v := by
  unfold oT
  by_cases e : v = 0
  · rw [if_pos e, if_pos e]
  · rw [if_neg e, if_neg e, th2_ne (by omega)]
theorem mkU_1 {c : Nat} (h : c ≠ t ∧ c ≠ t + 1 ∧ c ≠ 46 ∧ c ≠ 42) : (mkU o a sz t kd fw tt u).1 c = u.1 c := by
  funext j
  show (if c = 42 ∧ j = 4 then _ else if c = 46 ∧ j = 1 then _ else if c = t ∧ j = 6 then _ else if c = t then _ else if c = t + 1 then _ else u.1 c j) = _
  rw [if_neg (by omega), if_neg (by omega), if_neg (by omega), if_neg (by omega), if_neg (by omega)]
theorem mkU_2 {c : Nat} (h : c ≠ t ∧ c ≠ t + 1 ∧ c ≠ 43 ∧ c ≠ 47) : (mkU o a sz t kd fw tt u).2 c = u.2 c := by
  funext j
  show (if c = 43 ∧ j = o then _ else if c = 47 ∧ a ≤ j ∧ j < a + sz then _ else if c = t then _ else if c = t + 1 then _ else u.2 c j) = _
  rw [if_neg (by omega), if_neg (by omega), if_neg (by omega), if_neg (by omega)]
theorem mkU_42 {j : Nat} (h : 70 ≤ t) (hj : j ≠ 4) : (mkU o a sz t kd fw tt u).1 42 j = u.1 42 j := by
  unfold mkU sI sR gvM nT
  dsimp only
  grind
theorem mkU_43 {j : Nat} (h : 70 ≤ t) : (mkU o a sz t kd fw tt u).2 43 j = if j = o then some t else u.2 43 j := by
  unfold mkU sI sR gvM nT
  dsimp only
  grind
theorem mkU_47 {j : Nat} (h : 70 ≤ t) : (mkU o a sz t kd fw tt u).2 47 j = if a ≤ j ∧ j < a + sz then some t else u.2 47 j := by
  unfold mkU sI sR gvM nT
  dsimp only
  grind
theorem mkU_t {j : Nat} (h : 70 ≤ t) : (mkU o a sz t kd fw tt u).1 t j = if j = 6 then i3 a else ([i3 o, 0, 0, 1, 1, (if u.1 kd 1 = 0 then 4 else 0), 0, 0, 0, u.1 kd 3, 0] : List Int32).getD j 0 := by
  show (if t = 42 ∧ j = 4 then _ else if t = 46 ∧ j = 1 then _ else if t = t ∧ j = 6 then _ else if t = t then _ else _) = _
  rw [if_neg (by omega), if_neg (by omega)]
  by_cases e : j = 6
  · rw [if_pos ⟨rfl, e⟩, if_pos e]
  · rw [if_neg (fun x => e x.2), if_pos rfl, if_neg e]
theorem mkU_t1 (h : 70 ≤ t) : (mkU o a sz t kd fw tt u).2 t 1 = some kd := by
  show (if t = 43 ∧ 1 = o then _ else if t = 47 ∧ a ≤ 1 ∧ 1 < a + sz then _ else if t = t then (if 1 = 1 then some kd else _) else _) = _
  rw [if_neg (by omega), if_neg (by omega), if_pos rfl, if_pos rfl]
theorem mkU_tr {j : Nat} (h : 70 ≤ t) : (mkU o a sz t kd fw tt u).2 (t + 1) j = none := by
  show (if t + 1 = 43 ∧ j = o then _ else if t + 1 = 47 ∧ a ≤ j ∧ j < a + sz then _ else if t + 1 = t then _ else if t + 1 = t + 1 then none else _) = _
  rw [if_neg (by omega), if_neg (by omega), if_neg (by omega), if_pos rfl]
theorem mkU_46 (h : 70 ≤ t) : (mkU o a sz t kd fw tt u).1 46 1 = i3 fw := by
  unfold mkU sI sR gvM nT
  dsimp only
  grind
theorem mkU_424 (h : 70 ≤ t) : (mkU o a sz t kd fw tt u).1 42 4 = i3 tt := by
  unfold mkU sI sR gvM nT
  dsimp only
  grind
end MKC

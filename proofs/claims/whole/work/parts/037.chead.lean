def CN (U : State) : Prop := va_AO RX5 U ∧ va_AO RX2 U ∧ va_Nw (.methodLinkNest RX7 17 yX4_init "RingHeap") U ∧ va_Nw (.methodLinkNest RX0 11 yX3_init "RingHeap") U ∧ va_Nw (.methodLinkNest RX1 11 yX3_init "RingHeap") U ∧ va_Nw (.methodLinkNest RX4 26 yX6_init "RingHeap") U
theorem CN_warm {s U : State} (hW : s.WarmedH U.vm) (h : CN s) : CN U := ⟨h.1.moved hW.alike, h.2.1.moved hW.alike, h.2.2.1.warmM hW, h.2.2.2.1.warmM hW, h.2.2.2.2.1.warmM hW, h.2.2.2.2.2.warmM hW⟩
theorem CN_calling {U : State} {g : JFrame} {mk : MethodId} {a : Array Value} (h : CN U) : CN (U.calling g mk a) :=
  ⟨va_AO.moved (u := U) (U := U.calling g mk a) (Vm.Alike.refl U.vm) h.1, va_AO.moved (u := U) (U := U.calling g mk a) (Vm.Alike.refl U.vm) h.2.1, h.2.2.1.same rfl rfl, h.2.2.2.1.same rfl rfl, h.2.2.2.2.1.same rfl rfl, h.2.2.2.2.2.same rfl rfl⟩
abbrev PcN (D : va_G) (cy : Nat → ClassId) (ws : va_W) (sz : Nat) (av : List Value) : Array Value → State → Prop := va_Pc av (fun U => U.heap.size = sz ∧ va_P D vwCl ws U.heap ∧ va_K D vwCl (tyv cy) U ∧ va_D (fun _ => True) ws ∧ CN U)
abbrev QcN {S : Type} (D : va_G) (cy : Nat → ClassId) (W : S → va_W) (A : Nat → Prop) : Array Value → State → Outcome → State → Prop := va_Qv (fun _ : S => True) (fun v t => va_P D vwCl (W v) t.heap ∧ va_K D vwCl (tyv cy) t ∧ va_D A (W v)) A
theorem pcn_blind {D : va_G} {cy : Nat → ClassId} {ws : va_W} {sz : Nat} {av : List Value} : FrameBlind (PcN D cy ws sz av) := fun a U g mk q => by
  obtain ⟨q0, q1, qP, qK, qD, qC⟩ := q
  exact ⟨q0, q1, qP, va_K.moved (u := U) (U := U.calling g mk a) (Vm.Alike.refl U.vm) qK, qD, CN_calling qC⟩
theorem pcn_of {D : va_G} {cy : Nat → ClassId} {ws : va_W} {av : List Value} {A : Nat → Prop} {s U : State} {H : Heap} (hP : va_P D vwCl ws H) (hD : va_D A ws) (hK : va_K D vwCl (tyv cy) s) (hC : CN s) (hU : U.heap = H) (hW : s.WarmedH U.vm) : PcN D cy ws H.size av av.toArray U :=
  ⟨rfl, by rw [hU], by rw [hU]; exact hP, va_K.moved hW.alike hK, hD.weaken (fun _ _ _ _ => trivial), CN_warm hW hC⟩
theorem cn_eq3 {D : va_G} {cy : Nat → ClassId} {s : State} {cA : ClassId} (h : va_K D vwCl (tyv cy ++ [(cA, .object RX5)]) s) : cA = cy 3 := by
  obtain ⟨_, _, _, _, _, h1⟩ := (h.2 3 (cy 3, .object RX5) rfl).2
  obtain ⟨_, _, _, _, _, h2⟩ := (h.2 4 (cA, .object RX5) rfl).2
  exact Option.some.inj (h2.symm.trans h1)
theorem cn_eq2 {D : va_G} {cy : Nat → ClassId} {s : State} {cA : ClassId} (h : va_K D vwCl (tyv cy ++ [(cA, .object RX2)]) s) : cA = cy 2 := by
  obtain ⟨_, _, _, _, _, h1⟩ := (h.2 2 (cy 2, .object RX2) rfl).2
  obtain ⟨_, _, _, _, _, h2⟩ := (h.2 4 (cA, .object RX2) rfl).2
  exact Option.some.inj (h2.symm.trans h1)
theorem cn_eq0 {D : va_G} {cy : Nat → ClassId} {s : State} {cA : ClassId} (h : va_K D vwCl (tyv cy ++ [(cA, .int)]) s) : cA = cy 0 := by
  have h1 : s.vm.findClass ("[" ++ FieldType.int.toString) = some (cy 0) := (h.2 0 (cy 0, .int) rfl).2
  have h2 : s.vm.findClass ("[" ++ FieldType.int.toString) = some cA := (h.2 4 (cA, .int) rfl).2
  exact Option.some.inj (h2.symm.trans h1)
theorem cn_eq1 {D : va_G} {cy : Nat → ClassId} {s : State} {cA : ClassId} (h : va_K D vwCl (tyv cy ++ [(cA, .boolean)]) s) : cA = cy 1 := by
  have h1 : s.vm.findClass ("[" ++ FieldType.boolean.toString) = some (cy 1) := (h.2 1 (cy 1, .boolean) rfl).2
  have h2 : s.vm.findClass ("[" ++ FieldType.boolean.toString) = some cA := (h.2 4 (cA, .boolean) rfl).2
  exact Option.some.inj (h2.symm.trans h1)
theorem zn_of {v : Int32} (h : v = 0 ∨ v = 1) : narrow .boolean (.int v) = .int v := by
  rcases h with rfl | rfl <;> rfl
theorem zf_of {v : Int32} (h : v = 0 ∨ v = 1) : fits .boolean (.int v) = true := by
  rcases h with rfl | rfl <;> rfl

set_option maxRecDepth 20000 in
theorem tw_inst : ∀ w ∈ [Cond.instantiable RX0 7, .instantiable RX1 4, .instantiable RX2 4, .instantiable RX3 2, .instantiable RX4 6, .instantiable RX5 11, .instantiable RX6 2, .instantiable RX7 5, .instantiable RX8 31], w ∈ lw_tbl := by decide +kernel
set_option maxRecDepth 20000 in
theorem tw_arr : ∀ w ∈ [Cond.arrayClass .int, .arrayClass .boolean, .arrayOver (.object RX2), .arrayOver (.object RX5)], w ∈ lw_tbl := by decide +kernel
set_option maxRecDepth 20000 in
theorem tw_nest : ∀ w ∈ [Cond.methodLinkNest RX7 17 yX4_init "RingHeap", .methodLinkNest RX0 11 yX3_init "RingHeap", .methodLinkNest RX1 11 yX3_init "RingHeap", .methodLinkNest RX4 26 yX6_init "RingHeap"], w ∈ lw_tbl := by decide +kernel
set_option maxRecDepth 20000 in
theorem tw_thr : ∀ w ∈ [Cond.laysStatic Bundle.tN "UNASSIGNED_STACK" Bundle.steD, .laysStatic Bundle.tN "SUPPRESSED_SENTINEL" Bundle.listD, .initialized Bundle.tN, .declares (Bundle.initS "java/lang/RuntimeException"), .declares (Bundle.initS "java/lang/Exception"), .declares (Bundle.initS Bundle.tN), .castable eIO eIO, .castable eIA eIA], w ∈ lw_tbl := by decide +kernel
abbrev lw_strs : List (Nat × String) := [(42, "no such type"), (49, "too few or too many fields or extra words"), (95, "no such field"), (104, "no such object or field"), (134, "no such weak reference"), (139, "no such what"), (175, "no such word")]
set_option maxRecDepth 20000 in
theorem tw_str : ∀ q ∈ lw_strs, Cond.stringRef RX7 q.1 q.2 ∈ lw_tbl := by decide +kernel
set_option maxRecDepth 20000 in
theorem tw_ex : ∀ q ∈ lw_strs, Cond.exactly (.string RX7 q.1) "java/lang/String" ∈ flatC (Jvm.Cond.and given_1 narrow_1) := by decide +kernel
set_option maxRecDepth 20000 in
theorem tw_gv : ∀ w ∈ [Cond.isRef (.static Bundle.tN "UNASSIGNED_STACK" Bundle.steD), .isRef (.static Bundle.tN "SUPPRESSED_SENTINEL" Bundle.listD), .not (.castable eIA eIO)], w ∈ flatC (Jvm.Cond.and given_1 narrow_1) := by decide +kernel
section LAK
variable {args : Array Value} {s : State}
theorem at_0 {w : Cond} {ws B : List Cond} (h : ∀ x ∈ ws, x ∈ B) (i : Nat) (hi : ws[i]? = some w) : w ∈ B := h w (List.mem_of_getElem? hi)
theorem ka_int (h : (Cond.arrayClass .int).before args s = true) : ∃ cA, ArrOfT s cA .int ∧ va_RA s cA .int := by
  obtain ⟨cA, kA, comp, h1, h2, h3⟩ := Cond.arrayClass_spec h
  exact ⟨cA, fun n z => ⟨(fun k h => by cases h), kA, h2, comp, h3⟩, h1⟩
theorem ka_bool (h : (Cond.arrayClass .boolean).before args s = true) : ∃ cA, ArrOfT s cA .boolean ∧ va_RA s cA .boolean := by
  obtain ⟨cA, kA, comp, h1, h2, h3⟩ := Cond.arrayClass_spec h
  exact ⟨cA, fun n z => ⟨(fun k h => by cases h), kA, h2, comp, h3⟩, h1⟩
theorem ka_obj {C : String} (h : (Cond.arrayOver (.object C)).before args s = true) : ∃ cA, ArrOfT s cA (.object C) ∧ va_RA s cA (.object C) := by
  obtain ⟨comp, cA, kA, h1, h2, h3, h4, h5⟩ := Cond.arrayOver_spec h
  exact ⟨cA, fun n z => ⟨(fun k h => by cases h), kA, h3, comp, h4⟩, kA, comp, h3, h4, h1, h5⟩
theorem lw_K0 (hts : ∀ w ∈ lw_tbl, w.before args s = true) : ∃ (D : va_G) (cy : Nat → ClassId), va_K D vwCl (tyv cy) s := by
  obtain ⟨c0, i0, k0⟩ := u_known (C := RX0) (T := TX0) (N := 7) (n := 7) hts inX0 (hts _ (at_0 tw_inst 0 rfl))
  obtain ⟨c1, i1, k1⟩ := u_known (C := RX1) (T := TX1) (N := 4) (n := 4) hts inX1 (hts _ (at_0 tw_inst 1 rfl))
  obtain ⟨c2, i2, k2⟩ := u_known (C := RX2) (T := TX2) (N := 4) (n := 4) hts inX2 (hts _ (at_0 tw_inst 2 rfl))
  obtain ⟨c3, i3', k3⟩ := u_known (C := RX3) (T := TX3) (N := 2) (n := 2) hts inX3 (hts _ (at_0 tw_inst 3 rfl))
  obtain ⟨c4, i4, k4⟩ := u_known (C := RX4) (T := TX4) (N := 6) (n := 6) hts inX4 (hts _ (at_0 tw_inst 4 rfl))
  obtain ⟨c5, i5, k5⟩ := u_known (C := RX5) (T := TX5) (N := 11) (n := 11) hts inX5 (hts _ (at_0 tw_inst 5 rfl))
  obtain ⟨c6, i6, k6⟩ := u_known (C := RX6) (T := TX6) (N := 2) (n := 2) hts inX6 (hts _ (at_0 tw_inst 6 rfl))
  obtain ⟨c7, i7, k7⟩ := u_known (C := RX7) (T := TX7) (N := 5) (n := 5) hts inX7 (hts _ (at_0 tw_inst 7 rfl))
  obtain ⟨c8, i8, k8⟩ := u_known (C := RX8) (T := TX8) (N := 31) (n := 31) hts inX8 (hts _ (at_0 tw_inst 8 rfl))
  obtain ⟨a0, e0⟩ := ka_int (hts _ (at_0 tw_arr 0 rfl))
  obtain ⟨a1, e1⟩ := ka_bool (hts _ (at_0 tw_arr 1 rfl))
  obtain ⟨a2, e2⟩ := ka_obj (C := RX2) (hts _ (at_0 tw_arr 2 rfl))
  obtain ⟨a3, e3⟩ := ka_obj (C := RX5) (hts _ (at_0 tw_arr 3 rfl))
  refine ⟨(fun k => [c0, c1, c2, c3, c4, c5, c6, c7, c8].getD k c0, fun k => [i0, i1, i2, i3', i4, i5, i6, i7, i8].getD k i0), fun k => [a0, a1, a2, a3].getD k a0, fun k q hq => ?_, fun k q hq => ?_⟩
  · match k, hq with
    | 0, hq => cases hq; exact k0
    | 1, hq => cases hq; exact k1
    | 2, hq => cases hq; exact k2
    | 3, hq => cases hq; exact k3
    | 4, hq => cases hq; exact k4
    | 5, hq => cases hq; exact k5
    | 6, hq => cases hq; exact k6
    | 7, hq => cases hq; exact k7
    | 8, hq => cases hq; exact k8
    | k + 9, hq => simp [vwCl] at hq
  · match k, hq with
    | 0, hq => cases hq; exact e0
    | 1, hq => cases hq; exact e1
    | 2, hq => cases hq; exact e2
    | 3, hq => cases hq; exact e3
    | k + 4, hq => simp [tyv] at hq
theorem lw_CN (hts : ∀ w ∈ lw_tbl, w.before args s = true) : CN s :=
  ⟨va_AO.of (hts _ (at_0 tw_arr 3 rfl)), va_AO.of (hts _ (at_0 tw_arr 2 rfl)), va_Nw.of rfl (hts _ (at_0 tw_nest 0 rfl)), va_Nw.of rfl (hts _ (at_0 tw_nest 1 rfl)), va_Nw.of rfl (hts _ (at_0 tw_nest 2 rfl)), va_Nw.of rfl (hts _ (at_0 tw_nest 3 rfl))⟩
theorem lw_TX (hts : ∀ w ∈ lw_tbl, w.before args s = true) (hgv : (Jvm.Cond.and given_1 narrow_1).before args s = true) : TX (fun q : Nat => s.heap.size ≤ q) s.heap s := by
  have hs := flat_of_before _ hgv
  have hA : ∀ a : Nat, a < s.heap.size → ¬ (fun q : Nat => s.heap.size ≤ q) a := fun a h => Nat.not_le.mpr h
  refine ⟨vx_Zqof (hts _ (at_0 tw_thr 0 rfl)) (hts _ (at_0 tw_thr 2 rfl)) (hs _ (at_0 tw_gv 0 rfl)) hA, vx_Zqof (hts _ (at_0 tw_thr 1 rfl)) (hts _ (at_0 tw_thr 2 rfl)) (hs _ (at_0 tw_gv 1 rfl)) hA, va_Nw.of rfl (hts _ (at_0 tw_thr 3 rfl)), va_Nw.of rfl (hts _ (at_0 tw_thr 4 rfl)), va_Nw.of rfl (hts _ (at_0 tw_thr 5 rfl)), va_Nw.of rfl (hts _ (at_0 tw_thr 6 rfl)), va_Nw.of rfl (hts _ (at_0 tw_thr 7 rfl)), fun q hq => ?_⟩
  obtain ⟨a, c, cA, kA, q1, -⟩ := Cond.exactly_spec (args := args) (first := s) (o := none) (s := s) (idx := []) (t := .string RX7 q.1) (cls := "java/lang/String") (hs _ (tw_ex q hq))
  exact ⟨a, vk_R.of (hts _ (tw_str q hq)) q1⟩
theorem lw_Nc (hgv : (Jvm.Cond.and given_1 narrow_1).before args s = true) : va_Nc eIA eIO s := va_Nc.of (flat_of_before _ hgv _ (at_0 tw_gv 2 rfl))
end LAK

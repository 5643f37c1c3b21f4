section LLP
variable {p : Program} {l : Launch} {e : Env} {s : State} {m : MethodId} {below : List Frame} {meth : Method} {c : Code} {H : Heap} {locs : List Loc} {Q : State → Prop}
variable {ls : Array Slot} {D : va_G} {cy : Nat → ClassId} {cJ : ClassId} {L : List Nat} {ad : Nat → Nat} {u : Mm} {f : Nat → Int64} {b Ls k a1 a2 qo : Nat} {xs : Nat → Int32}
set_option maxHeartbeats 4000000 in
set_option maxRecDepth 100000 in
theorem law_sw (X : Lx p s m meth c b Ls xs D cy cJ) (hst : l.stackTraces = false) (hk : 5 * k + 5 ≤ Ls) (hL : Ls ≤ 2560) (I : LW k s D cy cJ a1 a2 qo L ad u f H locs) (hl : lv_has ls 7 [(0, .ref b), (1, .ref a1), (2, .ref a2), (3, .ref qo), (4, .int (i3 (5 * k)))])
    (KK : ∀ (L : List Nat) (ad : Nat → Nat) (u : Mm) (f : Nat → Int64) (H : Heap) (locs : List Loc) (ls : Array Slot), LW (k + 1) s D cy cJ a1 a2 qo L ad u f H locs → lv_has ls 7 [(0, .ref b), (1, .ref a1), (2, .ref a2), (3, .ref qo), (4, .int (i3 (5 * k)))] → W p l e room_1 s m #[Value.ref b] below meth c H locs (43 + 2 * (k + 1)) (3226 + 17 * (k + 1)) Q (F0 m 878 ls [])) (j : Nat) (hj : j < 16) :
    W p l e room_1 s m #[Value.ref b] below meth c H locs (43 + 2 * k) (3226 + 17 * k) Q (F0 m 39 ls [.int (i3 j)]) := by
  have hx := X.1
  have hb := X.2.1
  match j, hj with
  | 0, _ => exact lv_tableIn (x := i3 0) (tgt := 116) hx hb dL_law_39 (by decide) (by decide) (off := 77) rfl (by decide) (law_c0 X hst hk hL I hl KK)
  | 1, _ => exact lv_tableIn (x := i3 1) (tgt := 231) hx hb dL_law_39 (by decide) (by decide) (off := 192) rfl (by decide) (law_c1 X hst hk hL I hl KK)
  | 2, _ => exact lv_tableIn (x := i3 2) (tgt := 287) hx hb dL_law_39 (by decide) (by decide) (off := 248) rfl (by decide) (law_c2 X hst hk hL I hl KK)
  | 3, _ => exact lv_tableIn (x := i3 3) (tgt := 312) hx hb dL_law_39 (by decide) (by decide) (off := 273) rfl (by decide) (law_c3 X hst hk hL I hl KK)
  | 4, _ => exact lv_tableIn (x := i3 4) (tgt := 337) hx hb dL_law_39 (by decide) (by decide) (off := 298) rfl (by decide) (law_c4 X hst hk hL I hl KK)
  | 5, _ => exact lv_tableIn (x := i3 5) (tgt := 417) hx hb dL_law_39 (by decide) (by decide) (off := 378) rfl (by decide) (law_c5 X hst hk hL I hl KK)
  | 6, _ => exact lv_tableIn (x := i3 6) (tgt := 485) hx hb dL_law_39 (by decide) (by decide) (off := 446) rfl (by decide) (law_c6 X hst hk hL I hl KK)
  | 7, _ => exact lv_tableIn (x := i3 7) (tgt := 498) hx hb dL_law_39 (by decide) (by decide) (off := 459) rfl (by decide) (law_c7 X hst hk hL I hl KK)
  | 8, _ => exact lv_tableIn (x := i3 8) (tgt := 511) hx hb dL_law_39 (by decide) (by decide) (off := 472) rfl (by decide) (law_c8 X hst hk hL I hl KK)
  | 9, _ => exact lv_tableIn (x := i3 9) (tgt := 524) hx hb dL_law_39 (by decide) (by decide) (off := 485) rfl (by decide) (law_c9 X hst hk hL I hl KK)
  | 10, _ => exact lv_tableIn (x := i3 10) (tgt := 592) hx hb dL_law_39 (by decide) (by decide) (off := 553) rfl (by decide) (law_c10 X hst hk hL I hl KK)
  | 11, _ => exact lv_tableIn (x := i3 11) (tgt := 648) hx hb dL_law_39 (by decide) (by decide) (off := 609) rfl (by decide) (law_c11 X hst hk hL I hl KK)
  | 12, _ => exact lv_tableIn (x := i3 12) (tgt := 716) hx hb dL_law_39 (by decide) (by decide) (off := 677) rfl (by decide) (law_c12 X hst hk hL I hl KK)
  | 13, _ => exact lv_tableIn (x := i3 13) (tgt := 772) hx hb dL_law_39 (by decide) (by decide) (off := 733) rfl (by decide) (law_c13 X hst hk hL I hl KK)
  | 14, _ => exact lv_tableIn (x := i3 14) (tgt := 797) hx hb dL_law_39 (by decide) (by decide) (off := 758) rfl (by decide) (law_c14 X hst hk hL I hl KK)
  | 15, _ => exact lv_tableIn (x := i3 15) (tgt := 822) hx hb dL_law_39 (by decide) (by decide) (off := 783) rfl (by decide) (law_c15 X hst hk hL I hl KK)
  | n + 16, hj => exact absurd hj (by omega)
theorem ls_end (hL : Ls ≤ 2560) : (i3 Ls - 5 < i3 (5 * k) → k ≤ 512 → ¬ 5 * k + 5 ≤ Ls) ∧ (¬ i3 Ls - 5 < i3 (5 * k) → k ≤ 512 → 5 * k + 5 ≤ Ls) := by
  by_cases h : 5 ≤ Ls
  · have e : i3 Ls - 5 = i3 (Ls - 5) := i3_subL h
    rw [e]
    exact ⟨fun q hk => by have := (i3_lt (by omega) (by omega)).mp q; omega, fun q hk => by
      apply Classical.byContradiction
      intro z
      exact q ((i3_lt (by omega) (by omega)).mpr (by omega))⟩
  · refine ⟨fun _ _ => by omega, fun q hk => ?_⟩
    exfalso
    apply q
    rw [Int32.lt_iff_toInt_lt, i3_int (k := 5 * k) (by omega)]
    have : (i3 Ls - 5).toInt < 0 := by
      have h5 : Ls = 0 ∨ Ls = 1 ∨ Ls = 2 ∨ Ls = 3 ∨ Ls = 4 := by omega
      rcases h5 with rfl | rfl | rfl | rfl | rfl <;> decide
    omega
set_option maxHeartbeats 4000000 in
set_option maxRecDepth 100000 in
theorem law_loop (X : Lx p s m meth c b Ls xs D cy cJ) (hst : l.stackTraces = false) (hL : Ls ≤ 2560) : ∀ (n k : Nat), n + k = 600 → k ≤ 512 → ∀ (L : List Nat) (ad : Nat → Nat) (u : Mm) (f : Nat → Int64) (H : Heap) (locs : List Loc) (ls : Array Slot), LW k s D cy cJ a1 a2 qo L ad u f H locs → lv_has ls 7 [(0, .ref b), (1, .ref a1), (2, .ref a2), (3, .ref qo), (4, .int (i3 (5 * k)))] →
    W p l e room_1 s m #[Value.ref b] below meth c H locs (43 + 2 * k) (3226 + 17 * k) (lw_Z below #[Value.ref b] s) (F0 m 23 ls []) := by
  have X0 := X
  obtain ⟨hx, hb, hr, hml, hown, hts, hX, hbl, hlocks, hK, hT, hC, hNc⟩ := X0
  have hbA : ¬ (fun q : Nat => s.heap.size ≤ q) b := Nat.not_le.mpr hbl
  intro n
  induction n with
  | zero =>
    intro k h1 h2
    exact absurd h1 (by omega)
  | succ n ih =>
    intro k hnk hk5 L ad u f H locs ls I hl
    have hS := I.1.2.2.1
    refine lv_iload hx hb dL_law_23 (lv_at hl 4 rfl) ?_
    refine lv_aload_n hx hb dL_law_25 rfl (lv_at hl 0 rfl) ?_
    refine va_slen hx hb hX hbl hbA hS dL_law_26 ?_
    refine lv_iconst (v := 5) hx hb dL_law_27 (by decide) ?_
    refine lv_isub hx hb dL_law_28 ?_
    refine lv_icmp_gt (tgt := 884) hx hb dL_law_29 (by decide) (fun hc => ?_) (fun hc => ?_)
    · refine lv_iconst (v := 1) hx hb dL_law_884 (by decide) ?_
      refine va_forget (fun q hq => hS.2.2 q hq) ?_
      refine W.widen (k := 601024) (n := 7293034) (by omega) (by omega) ?_
      exact lw_ret hx hb hr hlocks dL_law_885
    · have hk : 5 * k + 5 ≤ Ls := (ls_end hL).2 hc hk5
      refine lv_aload_n hx hb dL_law_32 rfl (lv_at hl 0 rfl) ?_
      refine lv_iload hx hb dL_law_33 (lv_at hl 4 rfl) ?_
      refine va_sld hx hb hX hbl hbA hS (i := i3 (5 * k)) (by rw [vp_in_iff, i3_int (by omega)]; omega) dL_law_35 ?_
      refine lv_bipush (v := 15) hx hb dL_law_36 (by decide) ?_
      refine lv_iand hx hb dL_law_38 ?_
      obtain ⟨j, hj, hjx⟩ := pk_andE (xs (i3 (5 * k)).toNatClampNeg) (m := 15) 4 (by decide)
      rw [hjx]
      refine law_sw X hst hk hL I hl (fun L ad u f H locs ls I hl => ?_) j hj
      refine lv_iinc (v := i3 (5 * (k + 1))) (lv' := [(4, .int (i3 (5 * (k + 1)))), (0, .ref b), (1, .ref a1), (2, .ref a2), (3, .ref qo)]) hx hb dL_law_878 hl (k := 4) rfl ?_ (by decide) rfl (fun ls hl => ?_)
      · have e : Int32.ofInt 5 = i3 5 := rfl
        rw [e, i3_add]
        rfl
      · refine lv_goto (tgt := 23) hx hb dL_law_881 (by decide) ?_
        exact ih (k + 1) (by omega) (by omega) L ad u f H locs ls I (lv_sub hl [1, 2, 3, 4, 0] rfl)
end LLP

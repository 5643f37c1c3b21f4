abbrev T19 : Type := Nat × Nat × Nat × Nat × Nat × Nat × Nat × Nat × Nat × Nat × Nat × Nat × Nat × Nat × Nat × Nat × Nat × Nat × Nat
def ad7 (h0 : Nat) (v : T19) (c : Nat) : Nat := [h0, v.1, v.2.1, v.2.2.1, v.2.2.2.1, v.2.2.2.2.1, v.2.2.2.2.2.1, v.2.2.2.2.2.2.1, v.2.2.2.2.2.2.2.1, v.2.2.2.2.2.2.2.2.1, v.2.2.2.2.2.2.2.2.2.1, v.2.2.2.2.2.2.2.2.2.2.1, v.2.2.2.2.2.2.2.2.2.2.2.1, v.2.2.2.2.2.2.2.2.2.2.2.2.1, v.2.2.2.2.2.2.2.2.2.2.2.2.2.1, v.2.2.2.2.2.2.2.2.2.2.2.2.2.2.1, v.2.2.2.2.2.2.2.2.2.2.2.2.2.2.2.1, v.2.2.2.2.2.2.2.2.2.2.2.2.2.2.2.2.1, v.2.2.2.2.2.2.2.2.2.2.2.2.2.2.2.2.2.1, v.2.2.2.2.2.2.2.2.2.2.2.2.2.2.2.2.2.2].getD (c - 40) 0
def adJ (h0 : Nat) (v : T19) (g : Nat → Nat) (c : Nat) : Nat := if c < 40 then g c else ad7 h0 v c
set_option maxRecDepth 20000 in
theorem tw_law : ∀ w ∈ [Cond.classLink RL 8 RX7, .instantiable RX7 5, .initialized RX7, .methodLink RL 44 yX7_init, .instanceMethod yX7_init, .classLink RL 45 RX8, .instantiable RX8 31, .initialized RX8, .methodLink RL 47 yX8_init, .instanceMethod yX8_init, .arrayClass .long], w ∈ lw_tbl := by decide +kernel
theorem L_lt : ∀ c ∈ L7 ++ LM, c < 72 + 4 * 0 := by decide +kernel
theorem wl_J {cy : Nat → ClassId} {h0 : Nat} {v : T19} {g : Nat → Nat} {u8 : Mm} (M : MR uM0 u8 s00) : wl cy L7 (ad7 h0 v) u7 ++ wl cy LM g u8 = wl cy (L7 ++ LM) (adJ h0 v g) (u00 u8) := by
  rw [wl_app]
  have a7 : ∀ c ∈ L7, adJ h0 v g c = ad7 h0 v c := fun c hc => if_neg (by have := (L7_tg c hc).2.1; omega)
  have a8 : ∀ c ∈ LM, adJ h0 v g c = g c := fun c hc => if_pos (LM_lt c hc)
  have e1 : wl cy L7 (adJ h0 v g) (u00 u8) = wl cy L7 (ad7 h0 v) u7 := wl_old a7 (fun c hc => en_congr (u00_c (L7_tg c hc).2.1).1 (fun k hr => by
    rw [(u00_c (L7_tg c hc).2.1).2]
    cases hd : u7.2 c k with
    | none => rfl
    | some d => exact congrArg some (a7 d ((ok_u7 c hc k).2 hr d hd).1)))
  have e2 : wl cy LM (adJ h0 v g) (u00 u8) = wl cy LM g u8 := wl_old a8 (fun c hc => en_congr (u00_m (LM_lt c hc)).1 (fun k hr => by
    rw [(u00_m (LM_lt c hc)).2, M.1]
    cases hd : uM0.2 c k with
    | none => rfl
    | some d => exact congrArg some (a8 d ((ok_uM0 c hc k).2 hr d hd).1)))
  rw [e1, e2]
set_option maxHeartbeats 4000000 in
set_option maxRecDepth 100000 in
theorem whole_start {p : Program} {e : Env} {s : State} {m : MethodId} {below : List Frame} {meth : Method} {c : Code} (l : Launch) (hflags : l.flags = flags0) {b L : Nat} {xs : Nat → Int32} (hL : L ≤ 2560) (C0 : lw_At p s m meth c b L xs) : W p l e room_1 s m #[Value.ref b] below meth c s.heap [] 0 0 (lw_Z below #[Value.ref b] s) (entryFrame m ([Value.ref b] : List Value).toArray 7) := by
  obtain ⟨hx, hb, hr, hml, hown0, hts0, hX, hbl, hlocks, hgv⟩ := C0
  have hown : s.vm.findClass RL = some m.cls := hown0
  have hst : l.stackTraces = false := by
    unfold Launch.stackTraces
    rw [hflags]
    decide +kernel
  have hts : ∀ w ∈ wsL_law, w.before #[Value.ref b] s = true := fun w h => hts0 w (wsL_law_in w h)
  obtain ⟨D, cy, hK⟩ := lw_K0 hts0
  have hC := lw_CN hts0
  have hT := lw_TX hts0 hgv
  have hNc := lw_Nc hgv
  have hA : ∀ q : Nat, s.heap.size ≤ q → (fun q : Nat => s.heap.size ≤ q) q := fun _ h => h
  have hS : va_S (fun q : Nat => s.heap.size ≤ q) s.heap s.heap [] := va_S.rf
  have hP : va_P D vwCl [] s.heap := fun k q h => by simp at h
  have hD : va_D (fun q : Nat => s.heap.size ≤ q) [] := ⟨fun i j p q h => by simp at h, fun k q h => by simp at h⟩
  have hl := lv_entry ([.ref b]) (n := 7) (Nat.le_of_ble_eq_true rfl)
  rw [lg_entry_eq]
  generalize (lg_sl ([.ref b]) ++ List.replicate (7 - (lg_sl ([.ref b])).length) Slot.unset).toArray = ls at hl ⊢
  have hl : lv_has ls 7 [(0, .ref b)] := hl
  refine va_new (ci := 7) (fs := [.null, .null, .null, .null, .int 0]) (C := RX7) (T := TX7) (N := 5) hx hb hts0 inX7 tyX7 tyX7_ok hown (hts0 _ (at_0 tw_law 0 rfl)) (hts0 _ (at_0 tw_law 1 rfl)) (hts0 _ (at_0 tw_law 2 rfl)) hK hP hD hS hA rfl (fun j hj => by rcases (show j = 0 ∨ j = 1 ∨ j = 2 ∨ j = 3 ∨ j = 4 by omega) with rfl | rfl | rfl | rfl | rfl <;> rfl) (Nat.le_of_ble_eq_true rfl) (Nat.le_of_ble_eq_true rfl) dL_law_0 (fun q7 H hP hD hS => ?_)
  have hP : va_P D vwCl [(q7, .inr (7, [.null, .null, .null, .null, .int 0]))] H := hP
  have hD : va_D (fun q : Nat => s.heap.size ≤ q) [(q7, .inr (7, [.null, .null, .null, .null, .int 0]))] := hD
  refine W.widen (k := 1) (n := 5) (Nat.le_of_ble_eq_true rfl) (Nat.le_of_ble_eq_true rfl) ?_
  refine lv_dup hx hb dL_law_3 rfl ?_
  have hFc := va_free (wc := [(q7, .inr (7, [.null, .null, .null, .null, .int 0]))]) hD hS hA [0] rfl
  refine va_callv (va_runI (As := []) (rest := [.ref q7]) ⟨hx, hb, hml, hown, hts⟩ (c_X7_init l D cy q7 H.size) (cwI 0 hts gL_law_X7_init rfl rfl rfl (hts0 _ (at_0 tw_law 2 rfl)) (hts0 _ (at_0 tw_law 3 rfl)) (hts0 _ (at_0 tw_law 4 rfl)) rfl (by decide +kernel) ⟨Nat.le_of_ble_eq_true rfl, Nat.le_of_ble_eq_true rfl⟩) ⟨pcn_blind, fun U hU hW => pcn_of hP hD hK hC hU hW⟩ rfl rfl hl.1 rfl (lv_room (Nat.le_of_ble_eq_true rfl)) dL_law_4 ⟨Nat.le_of_ble_eq_true rfl, Nat.le_of_ble_eq_true rfl⟩) hS (fun q _ h => hFc q h) hFc (fun v t H1 locs ht hvm hw hB hz1 hk1 hS => ?_)
  have hP1 : va_P D vwCl (wl cy L7 (ad7 q7 v) u7) t.heap := hB.1
  have hD1 : va_D (va_A [(q7, .inr (7, [.null, .null, .null, .null, .int 0]))] H.size) (wl cy L7 (ad7 q7 v) u7) := hB.2.2
  rw [ht] at hP1
  clear hB
  obtain ⟨hP, hD⟩ := va_join (wr := []) (w1 := wl cy L7 (ad7 q7 v) u7) hP hD [0] [] rfl rfl (by decide) (by decide) hk1 hFc hP1 hD1
  generalize H1 = H at hP hS ⊢
  have hP : va_P D vwCl (wl cy L7 (ad7 q7 v) u7) H := hP
  have hD : va_D (fun q : Nat => s.heap.size ≤ q) (wl cy L7 (ad7 q7 v) u7) := hD
  refine W.widen (k := 20) (n := 1044) (Nat.le_of_ble_eq_true rfl) (Nat.le_of_ble_eq_true rfl) ?_
  refine lv_astore_n (lv' := [(1, .ref q7), (0, .ref b)]) hx hb dL_law_7 rfl hl (by decide) rfl (fun ls hl => ?_)
  refine va_new (ci := 8) (fs := [.int 0, .null, .null, .null, .null, .null, .null, .null, .null, .null, .null, .null, .null, .null, .null, .int 0, .null, .int 0, .null, .null, .int 0, .int 0, .int 0, .int 0, .int 0, .null, .null, .int 0, .null, .int 0, .null]) (C := RX8) (T := TX8) (N := 31) hx hb hts0 inX8 tyX8 tyX8_ok hown (hts0 _ (at_0 tw_law 5 rfl)) (hts0 _ (at_0 tw_law 6 rfl)) (hts0 _ (at_0 tw_law 7 rfl)) hK hP hD hS hA rfl (fun j hj => by rcases (show j = 0 ∨ j = 1 ∨ j = 2 ∨ j = 3 ∨ j = 4 ∨ j = 5 ∨ j = 6 ∨ j = 7 ∨ j = 8 ∨ j = 9 ∨ j = 10 ∨ j = 11 ∨ j = 12 ∨ j = 13 ∨ j = 14 ∨ j = 15 ∨ j = 16 ∨ j = 17 ∨ j = 18 ∨ j = 19 ∨ j = 20 ∨ j = 21 ∨ j = 22 ∨ j = 23 ∨ j = 24 ∨ j = 25 ∨ j = 26 ∨ j = 27 ∨ j = 28 ∨ j = 29 ∨ j = 30 by omega) with rfl | rfl | rfl | rfl | rfl | rfl | rfl | rfl | rfl | rfl | rfl | rfl | rfl | rfl | rfl | rfl | rfl | rfl | rfl | rfl | rfl | rfl | rfl | rfl | rfl | rfl | rfl | rfl | rfl | rfl | rfl <;> rfl) (Nat.le_of_ble_eq_true rfl) (Nat.le_of_ble_eq_true rfl) dL_law_8 (fun q8 H hP hD hS => ?_)
  refine W.widen (k := 21) (n := 1075) (Nat.le_of_ble_eq_true rfl) (Nat.le_of_ble_eq_true rfl) ?_
  refine lv_dup hx hb dL_law_11 rfl ?_
  have hA1 : ∀ q : Nat, H.size ≤ q → (fun q : Nat => s.heap.size ≤ q) q := fun q h => Nat.le_trans hS.1 h
  obtain ⟨hPc, hDc, hFc⟩ := kind_cut hP hD hA1
  obtain ⟨u8, e8, M8⟩ := mi_all (N := 5000) (Nat.le_refl _)
  refine va_callv (va_runI (As := []) (rest := [.ref q8]) ⟨hx, hb, hml, hown, hts⟩ (c_X8_init l D cy 5000 q8 H.size u8 e8) (cwI 0 hts gL_law_X8_init rfl rfl rfl (hts0 _ (at_0 tw_law 7 rfl)) (hts0 _ (at_0 tw_law 8 rfl)) (hts0 _ (at_0 tw_law 9 rfl)) rfl (by decide +kernel) ⟨Nat.le_of_ble_eq_true rfl, Nat.le_of_ble_eq_true rfl⟩) ⟨pcn_blind, fun U hU hW => pcn_of hPc hDc hK hC hU hW⟩ rfl rfl hl.1 rfl (lv_room (Nat.le_of_ble_eq_true rfl)) dL_law_12 ⟨Nat.le_of_ble_eq_true rfl, Nat.le_of_ble_eq_true rfl⟩) hS (fun q _ h => hFc q h) hFc (fun v8 t H1 locs ht hvm hw hB hz1 hk1 hS => ?_)
  obtain ⟨g8, w8⟩ := v8
  have hw : w8 = u8 := hw
  subst hw
  obtain ⟨⟨hP1, _, hD1, hO1⟩, hg8⟩ := hB
  rw [ht] at hP1
  obtain ⟨hP, hD⟩ := va_join (wc := [(q8, .inr (8, [.int 0, .null, .null, .null, .null, .null, .null, .null, .null, .null, .null, .null, .null, .null, .null, .int 0, .null, .int 0, .null, .null, .int 0, .int 0, .int 0, .int 0, .int 0, .null, .null, .int 0, .null, .int 0, .null]))]) (wr := wl cy L7 (ad7 q7 v) u7) (w1 := wl cy LM g8 w8) hP hD [20] [0, 1, 2, 3, 4, 5, 6, 7, 8, 9, 10, 11, 12, 13, 14, 15, 16, 17, 18, 19] rfl rfl (by decide) (by decide) hk1 hFc hP1 hD1
  generalize H1 = H at hP hS ⊢
  rw [wl_J M8] at hP hD
  have h40 : adJ q7 v g8 40 = q7 := rfl
  have h0 : adJ q7 v g8 0 = q8 := hg8
  generalize adJ q7 v g8 = ad at hP hD h40 h0
  refine W.widen (k := 42) (n := 3225) (Nat.le_of_ble_eq_true rfl) (Nat.le_of_ble_eq_true rfl) ?_
  refine lv_astore_n (lv' := [(2, .ref q8), (1, .ref q7), (0, .ref b)]) hx hb dL_law_15 rfl hl (by decide) rfl (fun ls hl => ?_)
  refine lv_iconst (v := 1) hx hb dL_law_16 (by decide) ?_
  refine va_newa (atype := .long) (ty := .long) (a0 := (1, .inr (.inl (fun _ => 0)))) (N' := 1) hx hb (hts0 _ (at_0 tw_law 10 rfl)) rfl hK hP hD hS hA (fun _ => by first | rfl | (rw [vp_cell_l]; rfl)) (by decide) (by decide) (Nat.le_of_ble_eq_true rfl) (Nat.le_of_ble_eq_true rfl) (Nat.le_of_ble_eq_true rfl) dL_law_17 (fun qo cJ H hK2 hP hD hS => ?_)
  refine W.widen (k := 43 + 2 * 0) (n := 3226 + 17 * 0) (Nat.le_of_ble_eq_true rfl) (Nat.le_of_ble_eq_true rfl) ?_
  refine lv_astore_n (lv' := [(3, .ref qo), (2, .ref q8), (1, .ref q7), (0, .ref b)]) hx hb dL_law_19 rfl hl (by decide) rfl (fun ls hl => ?_)
  refine lv_iconst (v := i3 (5 * 0)) hx hb dL_law_20 (by decide) ?_
  refine lv_istore (lv' := [(4, .int (i3 (5 * 0))), (3, .ref qo), (2, .ref q8), (1, .ref q7), (0, .ref b)]) hx hb dL_law_21 hl (by decide) rfl (fun ls hl => ?_)
  exact law_loop ⟨hx, hb, hr, hml, hown, hts, hX, hbl, hlocks, hK2, hT, hC, hNc⟩ hst hL 600 0 rfl (by decide) (L7 ++ LM) ad (u00 w8) (fun _ => 0) H locs ls ⟨⟨hP, hD, hS, ok_u00 M8⟩, Jk_00 M8, h40, h0, ⟨by decide, by decide⟩, ⟨by decide, by decide⟩, L_lt, by decide, by decide⟩ (lv_sub hl [4, 3, 2, 1, 0] rfl)

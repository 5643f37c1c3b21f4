section LWS
variable {p : Program} {l : Launch} {e : Env} {s : State} {m : MethodId} {below : List Frame} {meth : Method} {c : Code} {H : Heap} {locs : List Loc} {Q : State → Prop}
variable {ls : Array Slot} {D : va_G} {cy : Nat → ClassId} {cJ : ClassId} {L : List Nat} {ad : Nat → Nat} {u : Mm} {f : Nat → Int64} {b Ls k a1 a2 qo : Nat} {xs : Nat → Int32}
set_option maxHeartbeats 4000000 in
set_option maxRecDepth 100000 in
theorem law_c0 (X : Lx p s m meth c b Ls xs D cy cJ) (hst : l.stackTraces = false) (hk : 5 * k + 5 ≤ Ls) (hL : Ls ≤ 2560) (I : LW k s D cy cJ a1 a2 qo L ad u f H locs) (hl : lv_has ls 7 [(0, .ref b), (1, .ref a1), (2, .ref a2), (3, .ref qo), (4, .int (i3 (5 * k)))])
    (KK : ∀ (L : List Nat) (ad : Nat → Nat) (u : Mm) (f : Nat → Int64) (H : Heap) (locs : List Loc) (ls : Array Slot), LW (k + 1) s D cy cJ a1 a2 qo L ad u f H locs → lv_has ls 7 [(0, .ref b), (1, .ref a1), (2, .ref a2), (3, .ref qo), (4, .int (i3 (5 * k)))] → W p l e room_1 s m #[Value.ref b] below meth c H locs (43 + 2 * (k + 1)) (3226 + 17 * (k + 1)) Q (F0 m 878 ls [])) : W p l e room_1 s m #[Value.ref b] below meth c H locs (43 + 2 * k) (3226 + 17 * k) Q (F0 m 116 ls []) := by
  have hI := I
  obtain ⟨hx, hb, hr, hml, hown, hts, hX, hbl, hlocks, hK, hT, hC, hNc⟩ := X
  obtain ⟨hw, hJ, h40, h0, hv7, hv8, hlt, h41, h43⟩ := I
  have hA : ∀ q : Nat, s.heap.size ≤ q → (fun q : Nat => s.heap.size ≤ q) q := fun _ h => h
  have hbA : ¬ (fun q : Nat => s.heap.size ≤ q) b := Nat.not_le.mpr hbl
  obtain ⟨p3, hp3⟩ : ∃ z : Int32, z = if xs (5 * k + 4) = 0 then 0 else 1 := ⟨_, rfl⟩
  have h3 : p3 = 0 ∨ p3 = 1 := by rw [hp3]; split; exact Or.inl rfl; exact Or.inr rfl
  obtain ⟨kx, a, bb, v1, a9, v2, e1, e2, h00, hac, hkx, hJ2⟩ := st_type (N := 5000) (t := 74 + 4 * k) (Nat.le_refl _) hJ (by omega) (lw_K hI).2 (xs (5 * k + 1)) (xs (5 * k + 2)) (xs (5 * k + 3)) p3 h3
  have key1 : W p l e room_1 s m #[Value.ref b] below meth c H locs (43 + 2 * k) (3226 + 17 * k) Q (F0 m 149 ls [.int p3, .int (xs (5 * k + 3)), .int (xs (5 * k + 2)), .int (xs (5 * k + 1)), .ref a1]) := by
    refine lv_aload_n hx hb dL_law_149 rfl (lv_at hl 3 rfl) ?_
    have hM := c_L_type l hst D cy cJ L ad 5000 (74 + 4 * k) (xs (5 * k + 1)) (xs (5 * k + 2)) (xs (5 * k + 3)) p3 qo f u (kx, a, bb, v1) hv7 (lw_K hI).1 (ty_01 e1) e1
    rw [h40] at hM
    refine q_sJ (As := [.ref a1, .int (xs (5 * k + 1)), .int (xs (5 * k + 2)), .int (xs (5 * k + 3)), .int p3, .ref qo]) (rest := []) ⟨hx, hb, hml, hown, hts⟩ hM (vx_cwSW 6 hts gL_law_L_type rfl rfl rfl (by decide +kernel) ⟨Nat.le_of_ble_eq_true rfl, Nat.le_of_ble_eq_true rfl⟩) hw hA hK hT hC hNc rfl hl.1 rfl (Nat.le_of_ble_eq_true rfl) dL_law_150 ⟨show 43 + 2 * k + 1 ≤ 601024 by omega, show 3226 + 17 * k + 6 ≤ 7293034 by omega⟩ (fun kk g ad2 H locs hok hag hw => ?_)
    replace hw : Wj D cy cJ (LoX L [74 + 4 * k] bb) ad2 (fun q : Nat => s.heap.size ≤ q) s.heap v1 qo g H locs := hw
    have hkk := oOk_k hok
    have hv7 := lo_vn (nw := [74 + 4 * k]) (b := bb) hv7
    have h40 : ad2 40 = a1 := (hag 40 hI.2.2.2.2.1.1).trans h40
    have h0 : ad2 0 = a2 := (hag 0 hv8.1).trans h0
    have hv8 := lo_vn (nw := [74 + 4 * k]) (b := bb) hv8
    have hlt : ∀ c ∈ LoX L [74 + 4 * k] bb, c < 72 + 4 * (k + 1) := fun c hc => by
      rcases lo_in hc with h | h
      · have := hlt c h; omega
      · simp only [List.mem_cons, List.not_mem_nil, or_false] at h; omega
    have h41 := lo_of (nw := [74 + 4 * k]) (b := bb) h41
    have h43 := lo_of (nw := [74 + 4 * k]) (b := bb) h43
    refine lv_istore (lv' := [(5, .int kk), (0, .ref b), (1, .ref a1), (2, .ref a2), (3, .ref qo), (4, .int (i3 (5 * k)))]) hx hb dL_law_153 hl (by decide) rfl (fun ls hl => ?_)
    have key2 : W p l e room_1 s m #[Value.ref b] below meth c H locs (43 + 2 * k + 1) (3226 + 17 * k + 6) Q (F0 m 188 ls [.int p3, .int (xs (5 * k + 3)), .int (xs (5 * k + 2)), .int (xs (5 * k + 1)), .ref a2]) := by
      refine q_vI (As := [.int (xs (5 * k + 1)), .int (xs (5 * k + 2)), .int (xs (5 * k + 3)), .int p3]) (rest := []) ⟨hx, hb, hml, hown, hts⟩ (c_X8_type l D cy _ _ 5000 (xs (5 * k + 1)) (xs (5 * k + 2)) (xs (5 * k + 3)) p3 v1 (a9, v2) hv8 e2) (cwV 4 hts gL_law_X8_type rfl rfl rfl (by decide +kernel) ⟨Nat.le_of_ble_eq_true rfl, Nat.le_of_ble_eq_true rfl⟩) hw hA hK h0 hv8 (by decide) rfl rfl hl.1 rfl (Nat.le_of_ble_eq_true rfl) dL_law_188 ⟨show 43 + 2 * k + 1 + 0 ≤ 601024 by omega, show 3226 + 17 * k + 6 + 0 ≤ 7293034 by omega⟩ (fun H locs hw => ?_)
      refine lv_istore (lv' := [(6, .int a9), (5, .int kk), (0, .ref b), (1, .ref a1), (2, .ref a2), (3, .ref qo), (4, .int (i3 (5 * k)))]) hx hb dL_law_191 hl (by decide) rfl (fun ls hl => ?_)
      refine lv_aload_n hx hb dL_law_193 rfl (lv_at hl 4 rfl) ?_
      refine q_vI (As := []) (rest := []) ⟨hx, hb, hml, hown, hts⟩ (c_X8_thrown l D cy _ _ 5000  v2 (v2.1 0 0, v2) hv8 rfl) (cwV 0 hts gL_law_X8_thrown rfl rfl rfl (by decide +kernel) ⟨Nat.le_of_ble_eq_true rfl, Nat.le_of_ble_eq_true rfl⟩) hw hA hK h0 hv8 (by decide) rfl rfl hl.1 rfl (Nat.le_of_ble_eq_true rfl) dL_law_194 ⟨show 43 + 2 * k + 1 + 0 ≤ 601024 by omega, show 3226 + 17 * k + 6 + 0 ≤ 7293034 by omega⟩ (fun H locs hw => ?_)
      refine lv_iload hx hb dL_law_197 (lv_at hl 1 rfl) ?_
      refine lv_icmp_eq (tgt := 204) hx hb dL_law_199 (by decide) (fun _ => ?_) (fun z => absurd (h00.trans hkk.symm) z)
      refine lv_iload hx hb dL_law_204 (lv_at hl 1 rfl) ?_
      have fin : ∀ ls, lv_has ls 7 [(6, .int a9), (5, .int kk), (0, .ref b), (1, .ref a1), (2, .ref a2), (3, .ref qo), (4, .int (i3 (5 * k)))] → W p l e room_1 s m #[Value.ref b] below meth c H locs (43 + 2 * k + 1) (3226 + 17 * k + 6) Q (F0 m 228 ls []) := fun ls hl => by
        refine lv_goto (tgt := 878) hx hb dL_law_228 (by decide) ?_
        refine W.widen (k := 43 + 2 * (k + 1)) (n := 3226 + 17 * (k + 1)) (by omega) (by omega) ?_
        exact KK _ _ _ _ _ _ _ ⟨hw, hJ2, h40, h0, hv7, hv8, hlt, h41, h43⟩ (lv_sub hl [2, 3, 4, 5, 6] rfl)
      refine lv_if_ne (tgt := 228) hx hb dL_law_206 (by decide) (fun _ => fin ls hl) (fun hk0 => ?_)
      have hz := oOk_0 hok hk0
      have hga : g 0 = a9.toInt64 := by rw [hz.2, hac hz.1]
      refine lv_aload_n hx hb dL_law_209 rfl (lv_at hl 5 rfl) ?_
      refine lv_iconst (v := 0) hx hb dL_law_210 (by decide) ?_
      refine q_lald hx hb hK hw dL_law_211 ?_
      rw [hga]
      refine lv_iload hx hb dL_law_212 (lv_at hl 0 rfl) ?_
      have h9 : a9 = 0 ∨ a9 = 1 := by rw [← hac hz.1]; exact ty_01 e1
      refine lv_if_eq (tgt := 221) hx hb dL_law_214 (by decide) (fun hc => ?_) (fun hc => ?_)
      · refine lv_lconst (v := a9.toInt64) hx hb dL_law_221 (by rw [hc]; rfl) ?_
        refine W.lcmp hx hb dL_law_222 ?_
        refine lv_if_eq (tgt := 228) hx hb dL_law_223 (by decide) (fun _ => fin ls hl) (fun z => absurd (lg_rf _) z)
      · have h1 : a9 = 1 := h9.elim (fun z => absurd z hc) id
        refine lv_lconst (v := a9.toInt64) hx hb dL_law_217 (by rw [h1]; rfl) ?_
        refine lv_goto (tgt := 222) hx hb dL_law_218 (by decide) ?_
        refine W.lcmp hx hb dL_law_222 ?_
        refine lv_if_eq (tgt := 228) hx hb dL_law_223 (by decide) (fun _ => fin ls hl) (fun z => absurd (lg_rf _) z)
    refine lv_aload_n hx hb dL_law_155 rfl (lv_at hl 3 rfl) ?_
    refine q_ld hx hb hX hbl hbA hw.2.2.1 hl 1 5 rfl rfl dL_law_156 dL_law_157 dL_law_159 dL_law_160 dL_law_161 (j := 1) rfl (by omega) hL ?_
    refine q_ld hx hb hX hbl hbA hw.2.2.1 hl 1 5 rfl rfl dL_law_162 dL_law_163 dL_law_165 dL_law_166 dL_law_167 (j := 2) rfl (by omega) hL ?_
    refine q_ld hx hb hX hbl hbA hw.2.2.1 hl 1 5 rfl rfl dL_law_168 dL_law_169 dL_law_171 dL_law_172 dL_law_173 (j := 3) rfl (by omega) hL ?_
    refine q_ld hx hb hX hbl hbA hw.2.2.1 hl 1 5 rfl rfl dL_law_174 dL_law_175 dL_law_177 dL_law_178 dL_law_179 (j := 4) rfl (by omega) hL ?_
    refine lv_if_eq (tgt := 187) hx hb dL_law_180 (by decide) (fun hc => ?_) (fun hc => ?_)
    · refine lv_iconst (v := p3) hx hb dL_law_187 (by rw [hp3, if_pos hc]; rfl) ?_
      exact key2
    · refine lv_iconst (v := p3) hx hb dL_law_183 (by rw [hp3, if_neg hc]; rfl) ?_
      refine lv_goto (tgt := 188) hx hb dL_law_184 (by decide) ?_
      exact key2
  refine lv_aload_n hx hb dL_law_116 rfl (lv_at hl 1 rfl) ?_
  refine q_ld hx hb hX hbl hbA hw.2.2.1 hl 0 4 rfl rfl dL_law_117 dL_law_118 dL_law_120 dL_law_121 dL_law_122 (j := 1) rfl (by omega) hL ?_
  refine q_ld hx hb hX hbl hbA hw.2.2.1 hl 0 4 rfl rfl dL_law_123 dL_law_124 dL_law_126 dL_law_127 dL_law_128 (j := 2) rfl (by omega) hL ?_
  refine q_ld hx hb hX hbl hbA hw.2.2.1 hl 0 4 rfl rfl dL_law_129 dL_law_130 dL_law_132 dL_law_133 dL_law_134 (j := 3) rfl (by omega) hL ?_
  refine q_ld hx hb hX hbl hbA hw.2.2.1 hl 0 4 rfl rfl dL_law_135 dL_law_136 dL_law_138 dL_law_139 dL_law_140 (j := 4) rfl (by omega) hL ?_
  refine lv_if_eq (tgt := 148) hx hb dL_law_141 (by decide) (fun hc => ?_) (fun hc => ?_)
  · refine lv_iconst (v := p3) hx hb dL_law_148 (by rw [hp3, if_pos hc]; rfl) ?_
    exact key1
  · refine lv_iconst (v := p3) hx hb dL_law_144 (by rw [hp3, if_neg hc]; rfl) ?_
    refine lv_goto (tgt := 149) hx hb dL_law_145 (by decide) ?_
    exact key1
end LWS

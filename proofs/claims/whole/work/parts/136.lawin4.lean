theorem mm_app {a b B : List Cond} (h1 : ∀ w ∈ a, w ∈ B) (h2 : ∀ w ∈ b, w ∈ B) : ∀ w ∈ a ++ b, w ∈ B := fun w h => (List.mem_append.mp h).elim (h1 w) (h2 w)
theorem wsL_law_in0 : ∀ w ∈ wsL_law0, w ∈ lw_tbl := mm_app (mm_app (mm_app (mm_app (mm_app (mm_app (mm_app (mm_app (mm_app (mm_app (mm_app li_r1 (mm_app li_r2 (mm_app li_r3 (mm_app li_r4 (mm_app li_r5 (mm_app li_r6 (mm_app li_r7 (mm_app li_r8 (mm_app li_r9 (mm_app li_r10 (mm_app li_r11 (mm_app li_r12 (mm_app li_r13 (mm_app li_r14 (mm_app li_r15 (mm_app li_r16 (mm_app li_r17 (mm_app li_r18 (mm_app li_r19 (mm_app li_r20 (mm_app li_r21 (mm_app li_r22 (mm_app li_r23 (mm_app li_r24 (mm_app li_r25 (mm_app li_r26 (li_r27))))))))))))))))))))))))))) inX7) inX8) inX4) inX1) inX0) inX6) inX3) inX2) inX5) (fun _ h => absurd h List.not_mem_nil)
set_option maxRecDepth 20000 in
theorem wsL_law_x0 : ∀ w ∈ (vx_atS RX7 44 "java/lang/IndexOutOfBoundsException" ["java/lang/RuntimeException", "java/lang/Exception"]).filter goodWord, w ∈ lw_tbl := by decide +kernel
set_option maxRecDepth 20000 in
theorem wsL_law_x1 : ∀ w ∈ (vx_atS RX7 51 "java/lang/IllegalArgumentException" ["java/lang/RuntimeException", "java/lang/Exception"]).filter goodWord, w ∈ lw_tbl := by decide +kernel
set_option maxRecDepth 20000 in
theorem wsL_law_in : ∀ w ∈ wsL_law, w ∈ lw_tbl := fun w h => (List.mem_append.mp h).elim (fun h => (List.mem_append.mp h).elim (fun h => wsL_law_in0 w h) (fun h => wsL_law_x0 w h)) (fun h => wsL_law_x1 w h)

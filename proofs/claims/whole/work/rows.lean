section
-- ===== PART A: goes FIRST, ahead of the names: the tables' words, and 'selects' of the private methods out of them =====
/-- a private method of a class that the tables say can be made, by its rows of tables_1 -/
def lw_okq (q : MethodName × Nat) : Prop := (q.1.cls ≠ "java/lang/invoke/MethodHandle" ∧ q.1.cls ≠ "java/lang/invoke/VarHandle") ∧ Cond.instantiable q.1.cls q.2 ∈ tables_1 ∧ Cond.privateMethod q.1 ∈ tables_1 ∧ Cond.instanceMethod q.1 ∈ tables_1
theorem lw_p0 : lw_okq (⟨"RingHeap$Counting", "lower", "(LRingHeap$Thing;)V"⟩, 4) := ⟨⟨by decide +kernel, by decide +kernel⟩, List.mem_of_getElem? (i := 76) (by decide +kernel), List.mem_of_getElem? (i := 195) (by decide +kernel), List.mem_of_getElem? (i := 196) (by decide +kernel)⟩
theorem lw_p1 : lw_okq (⟨"RingHeap$Counting", "suspect", "(LRingHeap$Thing;)V"⟩, 4) := ⟨⟨by decide +kernel, by decide +kernel⟩, List.mem_of_getElem? (i := 76) (by decide +kernel), List.mem_of_getElem? (i := 199) (by decide +kernel), List.mem_of_getElem? (i := 200) (by decide +kernel)⟩
theorem lw_p2 : lw_okq (⟨"RingHeap$Counting", "finish", "(LRingHeap$Thing;)V"⟩, 4) := ⟨⟨by decide +kernel, by decide +kernel⟩, List.mem_of_getElem? (i := 76) (by decide +kernel), List.mem_of_getElem? (i := 224) (by decide +kernel), List.mem_of_getElem? (i := 225) (by decide +kernel)⟩
theorem lw_p3 : lw_okq (⟨"RingHeap$Collector", "markListed", "()V"⟩, 7) := ⟨⟨by decide +kernel, by decide +kernel⟩, List.mem_of_getElem? (i := 114) (by decide +kernel), List.mem_of_getElem? (i := 256) (by decide +kernel), List.mem_of_getElem? (i := 257) (by decide +kernel)⟩
theorem lw_p4 : lw_okq (⟨"RingHeap$Collector", "markFrom", "(LRingHeap$Thing;)V"⟩, 7) := ⟨⟨by decide +kernel, by decide +kernel⟩, List.mem_of_getElem? (i := 114) (by decide +kernel), List.mem_of_getElem? (i := 262) (by decide +kernel), List.mem_of_getElem? (i := 263) (by decide +kernel)⟩
theorem lw_p5 : lw_okq (⟨"RingHeap$Collector", "turnGray", "(LRingHeap$Thing;)V"⟩, 7) := ⟨⟨by decide +kernel, by decide +kernel⟩, List.mem_of_getElem? (i := 114) (by decide +kernel), List.mem_of_getElem? (i := 270) (by decide +kernel), List.mem_of_getElem? (i := 271) (by decide +kernel)⟩
theorem lw_p6 : lw_okq (⟨"RingHeap$Collector", "scanListed", "()V"⟩, 7) := ⟨⟨by decide +kernel, by decide +kernel⟩, List.mem_of_getElem? (i := 114) (by decide +kernel), List.mem_of_getElem? (i := 276) (by decide +kernel), List.mem_of_getElem? (i := 277) (by decide +kernel)⟩
theorem lw_p7 : lw_okq (⟨"RingHeap$Collector", "scanFrom", "(LRingHeap$Thing;)V"⟩, 7) := ⟨⟨by decide +kernel, by decide +kernel⟩, List.mem_of_getElem? (i := 114) (by decide +kernel), List.mem_of_getElem? (i := 280) (by decide +kernel), List.mem_of_getElem? (i := 281) (by decide +kernel)⟩
theorem lw_p8 : lw_okq (⟨"RingHeap$Collector", "judge", "(LRingHeap$Thing;)V"⟩, 7) := ⟨⟨by decide +kernel, by decide +kernel⟩, List.mem_of_getElem? (i := 114) (by decide +kernel), List.mem_of_getElem? (i := 284) (by decide +kernel), List.mem_of_getElem? (i := 285) (by decide +kernel)⟩
theorem lw_p9 : lw_okq (⟨"RingHeap$Collector", "blackenFrom", "(LRingHeap$Thing;)V"⟩, 7) := ⟨⟨by decide +kernel, by decide +kernel⟩, List.mem_of_getElem? (i := 114) (by decide +kernel), List.mem_of_getElem? (i := 288) (by decide +kernel), List.mem_of_getElem? (i := 289) (by decide +kernel)⟩
theorem lw_p10 : lw_okq (⟨"RingHeap$Collector", "turnBlack", "(LRingHeap$Thing;)V"⟩, 7) := ⟨⟨by decide +kernel, by decide +kernel⟩, List.mem_of_getElem? (i := 114) (by decide +kernel), List.mem_of_getElem? (i := 292) (by decide +kernel), List.mem_of_getElem? (i := 293) (by decide +kernel)⟩
theorem lw_p11 : lw_okq (⟨"RingHeap$Collector", "tellWishes", "()V"⟩, 7) := ⟨⟨by decide +kernel, by decide +kernel⟩, List.mem_of_getElem? (i := 114) (by decide +kernel), List.mem_of_getElem? (i := 296) (by decide +kernel), List.mem_of_getElem? (i := 297) (by decide +kernel)⟩
theorem lw_p12 : lw_okq (⟨"RingHeap$Collector", "emptyList", "()V"⟩, 7) := ⟨⟨by decide +kernel, by decide +kernel⟩, List.mem_of_getElem? (i := 114) (by decide +kernel), List.mem_of_getElem? (i := 309) (by decide +kernel), List.mem_of_getElem? (i := 310) (by decide +kernel)⟩
theorem lw_p13 : lw_okq (⟨"RingHeap$Collector", "freeWhite", "()V"⟩, 7) := ⟨⟨by decide +kernel, by decide +kernel⟩, List.mem_of_getElem? (i := 114) (by decide +kernel), List.mem_of_getElem? (i := 313) (by decide +kernel), List.mem_of_getElem? (i := 314) (by decide +kernel)⟩
theorem lw_p14 : lw_okq (⟨"java/lang/Throwable", "fillInStackTrace", "(I)Ljava/lang/Throwable;"⟩, 6) := ⟨⟨by decide +kernel, by decide +kernel⟩, List.mem_of_getElem? (i := 394) (by decide +kernel), List.mem_of_getElem? (i := 392) (by decide +kernel), List.mem_of_getElem? (i := 393) (by decide +kernel)⟩
theorem lw_p15 : lw_okq (⟨"RingHeap", "makeRoomByMoving", "(LRingHeap$Kind;)Z"⟩, 5) := ⟨⟨by decide +kernel, by decide +kernel⟩, List.mem_of_getElem? (i := 16) (by decide +kernel), List.mem_of_getElem? (i := 483) (by decide +kernel), List.mem_of_getElem? (i := 484) (by decide +kernel)⟩
def lw_privs_1 : List (MethodName × Nat) := [(⟨"RingHeap$Counting", "lower", "(LRingHeap$Thing;)V"⟩, 4), (⟨"RingHeap$Counting", "suspect", "(LRingHeap$Thing;)V"⟩, 4), (⟨"RingHeap$Counting", "finish", "(LRingHeap$Thing;)V"⟩, 4), (⟨"RingHeap$Collector", "markListed", "()V"⟩, 7), (⟨"RingHeap$Collector", "markFrom", "(LRingHeap$Thing;)V"⟩, 7), (⟨"RingHeap$Collector", "turnGray", "(LRingHeap$Thing;)V"⟩, 7), (⟨"RingHeap$Collector", "scanListed", "()V"⟩, 7), (⟨"RingHeap$Collector", "scanFrom", "(LRingHeap$Thing;)V"⟩, 7), (⟨"RingHeap$Collector", "judge", "(LRingHeap$Thing;)V"⟩, 7), (⟨"RingHeap$Collector", "blackenFrom", "(LRingHeap$Thing;)V"⟩, 7), (⟨"RingHeap$Collector", "turnBlack", "(LRingHeap$Thing;)V"⟩, 7), (⟨"RingHeap$Collector", "tellWishes", "()V"⟩, 7), (⟨"RingHeap$Collector", "emptyList", "()V"⟩, 7), (⟨"RingHeap$Collector", "freeWhite", "()V"⟩, 7), (⟨"java/lang/Throwable", "fillInStackTrace", "(I)Ljava/lang/Throwable;"⟩, 6), (⟨"RingHeap", "makeRoomByMoving", "(LRingHeap$Kind;)Z"⟩, 5)]
theorem lw_r1 : ∀ q ∈ lw_privs_1, lw_okq q := List.forall_mem_cons.mpr ⟨lw_p0, List.forall_mem_cons.mpr ⟨lw_p1, List.forall_mem_cons.mpr ⟨lw_p2, List.forall_mem_cons.mpr ⟨lw_p3, List.forall_mem_cons.mpr ⟨lw_p4, List.forall_mem_cons.mpr ⟨lw_p5, List.forall_mem_cons.mpr ⟨lw_p6, List.forall_mem_cons.mpr ⟨lw_p7, List.forall_mem_cons.mpr ⟨lw_p8, List.forall_mem_cons.mpr ⟨lw_p9, List.forall_mem_cons.mpr ⟨lw_p10, List.forall_mem_cons.mpr ⟨lw_p11, List.forall_mem_cons.mpr ⟨lw_p12, List.forall_mem_cons.mpr ⟨lw_p13, List.forall_mem_cons.mpr ⟨lw_p14, List.forall_mem_cons.mpr ⟨lw_p15, fun _ h => absurd h List.not_mem_nil⟩⟩⟩⟩⟩⟩⟩⟩⟩⟩⟩⟩⟩⟩⟩⟩
theorem lw_p16 : lw_okq (⟨"RingHeapModel", "mark", "()V"⟩, 31) := ⟨⟨by decide +kernel, by decide +kernel⟩, List.mem_of_getElem? (i := 620) (by decide +kernel), List.mem_of_getElem? (i := 729) (by decide +kernel), List.mem_of_getElem? (i := 730) (by decide +kernel)⟩
theorem lw_p17 : lw_okq (⟨"RingHeapModel", "free", "(I)V"⟩, 31) := ⟨⟨by decide +kernel, by decide +kernel⟩, List.mem_of_getElem? (i := 620) (by decide +kernel), List.mem_of_getElem? (i := 733) (by decide +kernel), List.mem_of_getElem? (i := 734) (by decide +kernel)⟩
theorem lw_p18 : lw_okq (⟨"RingHeapModel", "gray", "(I)V"⟩, 31) := ⟨⟨by decide +kernel, by decide +kernel⟩, List.mem_of_getElem? (i := 620) (by decide +kernel), List.mem_of_getElem? (i := 737) (by decide +kernel), List.mem_of_getElem? (i := 738) (by decide +kernel)⟩
theorem lw_p19 : lw_okq (⟨"RingHeapModel", "grayOne", "(I)V"⟩, 31) := ⟨⟨by decide +kernel, by decide +kernel⟩, List.mem_of_getElem? (i := 620) (by decide +kernel), List.mem_of_getElem? (i := 741) (by decide +kernel), List.mem_of_getElem? (i := 742) (by decide +kernel)⟩
theorem lw_p20 : lw_okq (⟨"RingHeapModel", "fieldsOf", "(I)I"⟩, 31) := ⟨⟨by decide +kernel, by decide +kernel⟩, List.mem_of_getElem? (i := 620) (by decide +kernel), List.mem_of_getElem? (i := 745) (by decide +kernel), List.mem_of_getElem? (i := 746) (by decide +kernel)⟩
theorem lw_p21 : lw_okq (⟨"RingHeapModel", "scan", "(I)V"⟩, 31) := ⟨⟨by decide +kernel, by decide +kernel⟩, List.mem_of_getElem? (i := 620) (by decide +kernel), List.mem_of_getElem? (i := 749) (by decide +kernel), List.mem_of_getElem? (i := 750) (by decide +kernel)⟩
theorem lw_p22 : lw_okq (⟨"RingHeapModel", "scanOne", "(I)V"⟩, 31) := ⟨⟨by decide +kernel, by decide +kernel⟩, List.mem_of_getElem? (i := 620) (by decide +kernel), List.mem_of_getElem? (i := 753) (by decide +kernel), List.mem_of_getElem? (i := 754) (by decide +kernel)⟩
theorem lw_p23 : lw_okq (⟨"RingHeapModel", "blacken", "(I)V"⟩, 31) := ⟨⟨by decide +kernel, by decide +kernel⟩, List.mem_of_getElem? (i := 620) (by decide +kernel), List.mem_of_getElem? (i := 757) (by decide +kernel), List.mem_of_getElem? (i := 758) (by decide +kernel)⟩
theorem lw_p24 : lw_okq (⟨"RingHeapModel", "turn", "(II)V"⟩, 31) := ⟨⟨by decide +kernel, by decide +kernel⟩, List.mem_of_getElem? (i := 620) (by decide +kernel), List.mem_of_getElem? (i := 761) (by decide +kernel), List.mem_of_getElem? (i := 762) (by decide +kernel)⟩
theorem lw_p25 : lw_okq (⟨"RingHeapModel", "findByAddress", "()V"⟩, 31) := ⟨⟨by decide +kernel, by decide +kernel⟩, List.mem_of_getElem? (i := 620) (by decide +kernel), List.mem_of_getElem? (i := 765) (by decide +kernel), List.mem_of_getElem? (i := 766) (by decide +kernel)⟩
theorem lw_p26 : lw_okq (⟨"RingHeapModel", "hasWish", "(I)Z"⟩, 31) := ⟨⟨by decide +kernel, by decide +kernel⟩, List.mem_of_getElem? (i := 620) (by decide +kernel), List.mem_of_getElem? (i := 769) (by decide +kernel), List.mem_of_getElem? (i := 770) (by decide +kernel)⟩
theorem lw_p27 : lw_okq (⟨"RingHeapModel", "comesToWishes", "(I)V"⟩, 31) := ⟨⟨by decide +kernel, by decide +kernel⟩, List.mem_of_getElem? (i := 620) (by decide +kernel), List.mem_of_getElem? (i := 773) (by decide +kernel), List.mem_of_getElem? (i := 774) (by decide +kernel)⟩
theorem lw_p28 : lw_okq (⟨"RingHeapModel", "gather", "()V"⟩, 31) := ⟨⟨by decide +kernel, by decide +kernel⟩, List.mem_of_getElem? (i := 620) (by decide +kernel), List.mem_of_getElem? (i := 777) (by decide +kernel), List.mem_of_getElem? (i := 778) (by decide +kernel)⟩
theorem lw_p29 : lw_okq (⟨"RingHeapModel", "isThere", "(I)Z"⟩, 31) := ⟨⟨by decide +kernel, by decide +kernel⟩, List.mem_of_getElem? (i := 620) (by decide +kernel), List.mem_of_getElem? (i := 781) (by decide +kernel), List.mem_of_getElem? (i := 782) (by decide +kernel)⟩
theorem lw_p30 : lw_okq (⟨"RingHeapModel", "less", "(I)V"⟩, 31) := ⟨⟨by decide +kernel, by decide +kernel⟩, List.mem_of_getElem? (i := 620) (by decide +kernel), List.mem_of_getElem? (i := 785) (by decide +kernel), List.mem_of_getElem? (i := 786) (by decide +kernel)⟩
theorem lw_p31 : lw_okq (⟨"RingHeapModel", "isLetGo", "(I)Z"⟩, 31) := ⟨⟨by decide +kernel, by decide +kernel⟩, List.mem_of_getElem? (i := 620) (by decide +kernel), List.mem_of_getElem? (i := 789) (by decide +kernel), List.mem_of_getElem? (i := 790) (by decide +kernel)⟩
def lw_privs_2 : List (MethodName × Nat) := [(⟨"RingHeapModel", "mark", "()V"⟩, 31), (⟨"RingHeapModel", "free", "(I)V"⟩, 31), (⟨"RingHeapModel", "gray", "(I)V"⟩, 31), (⟨"RingHeapModel", "grayOne", "(I)V"⟩, 31), (⟨"RingHeapModel", "fieldsOf", "(I)I"⟩, 31), (⟨"RingHeapModel", "scan", "(I)V"⟩, 31), (⟨"RingHeapModel", "scanOne", "(I)V"⟩, 31), (⟨"RingHeapModel", "blacken", "(I)V"⟩, 31), (⟨"RingHeapModel", "turn", "(II)V"⟩, 31), (⟨"RingHeapModel", "findByAddress", "()V"⟩, 31), (⟨"RingHeapModel", "hasWish", "(I)Z"⟩, 31), (⟨"RingHeapModel", "comesToWishes", "(I)V"⟩, 31), (⟨"RingHeapModel", "gather", "()V"⟩, 31), (⟨"RingHeapModel", "isThere", "(I)Z"⟩, 31), (⟨"RingHeapModel", "less", "(I)V"⟩, 31), (⟨"RingHeapModel", "isLetGo", "(I)Z"⟩, 31)]
theorem lw_r2 : ∀ q ∈ lw_privs_2, lw_okq q := List.forall_mem_cons.mpr ⟨lw_p16, List.forall_mem_cons.mpr ⟨lw_p17, List.forall_mem_cons.mpr ⟨lw_p18, List.forall_mem_cons.mpr ⟨lw_p19, List.forall_mem_cons.mpr ⟨lw_p20, List.forall_mem_cons.mpr ⟨lw_p21, List.forall_mem_cons.mpr ⟨lw_p22, List.forall_mem_cons.mpr ⟨lw_p23, List.forall_mem_cons.mpr ⟨lw_p24, List.forall_mem_cons.mpr ⟨lw_p25, List.forall_mem_cons.mpr ⟨lw_p26, List.forall_mem_cons.mpr ⟨lw_p27, List.forall_mem_cons.mpr ⟨lw_p28, List.forall_mem_cons.mpr ⟨lw_p29, List.forall_mem_cons.mpr ⟨lw_p30, List.forall_mem_cons.mpr ⟨lw_p31, fun _ h => absurd h List.not_mem_nil⟩⟩⟩⟩⟩⟩⟩⟩⟩⟩⟩⟩⟩⟩⟩⟩
theorem lw_p32 : lw_okq (⟨"RingHeapModel", "place", "(I)I"⟩, 31) := ⟨⟨by decide +kernel, by decide +kernel⟩, List.mem_of_getElem? (i := 620) (by decide +kernel), List.mem_of_getElem? (i := 801) (by decide +kernel), List.mem_of_getElem? (i := 802) (by decide +kernel)⟩
theorem lw_p33 : lw_okq (⟨"RingHeapModel", "number", "()I"⟩, 31) := ⟨⟨by decide +kernel, by decide +kernel⟩, List.mem_of_getElem? (i := 620) (by decide +kernel), List.mem_of_getElem? (i := 805) (by decide +kernel), List.mem_of_getElem? (i := 806) (by decide +kernel)⟩
theorem lw_p34 : lw_okq (⟨"RingHeapModel", "freeWords", "()I"⟩, 31) := ⟨⟨by decide +kernel, by decide +kernel⟩, List.mem_of_getElem? (i := 620) (by decide +kernel), List.mem_of_getElem? (i := 810) (by decide +kernel), List.mem_of_getElem? (i := 811) (by decide +kernel)⟩
theorem lw_p35 : lw_okq (⟨"RingHeapModel", "isWhole", "(I)Z"⟩, 31) := ⟨⟨by decide +kernel, by decide +kernel⟩, List.mem_of_getElem? (i := 620) (by decide +kernel), List.mem_of_getElem? (i := 819) (by decide +kernel), List.mem_of_getElem? (i := 820) (by decide +kernel)⟩
theorem lw_p36 : lw_okq (⟨"RingHeapModel", "more", "(I)V"⟩, 31) := ⟨⟨by decide +kernel, by decide +kernel⟩, List.mem_of_getElem? (i := 620) (by decide +kernel), List.mem_of_getElem? (i := 823) (by decide +kernel), List.mem_of_getElem? (i := 824) (by decide +kernel)⟩
def lw_privs_3 : List (MethodName × Nat) := [(⟨"RingHeapModel", "place", "(I)I"⟩, 31), (⟨"RingHeapModel", "number", "()I"⟩, 31), (⟨"RingHeapModel", "freeWords", "()I"⟩, 31), (⟨"RingHeapModel", "isWhole", "(I)Z"⟩, 31), (⟨"RingHeapModel", "more", "(I)V"⟩, 31)]
theorem lw_r3 : ∀ q ∈ lw_privs_3, lw_okq q := List.forall_mem_cons.mpr ⟨lw_p32, List.forall_mem_cons.mpr ⟨lw_p33, List.forall_mem_cons.mpr ⟨lw_p34, List.forall_mem_cons.mpr ⟨lw_p35, List.forall_mem_cons.mpr ⟨lw_p36, fun _ h => absurd h List.not_mem_nil⟩⟩⟩⟩⟩
def lw_privs : List (MethodName × Nat) := lw_privs_1 ++ (lw_privs_2 ++ (lw_privs_3))
def lw_tbl : List Cond := k2_sels lw_privs ++ tables_1
theorem lw_privs_ok : ∀ q ∈ lw_privs, lw_okq q := by
  show ∀ q ∈ lw_privs_1 ++ (lw_privs_2 ++ (lw_privs_3)), lw_okq q
  exact List.forall_mem_append.mpr ⟨lw_r1, List.forall_mem_append.mpr ⟨lw_r2, lw_r3⟩⟩
end
section
/-! ===== BEGIN words of one list among another's, by their places ===== -/
theorem goodIn_r {big : List Cond} (ws : List Cond) (ps : List Nat) (hp : ws = ps.filterMap (fun i => big[i]?)) (h : ws.all goodWord = true) : GoodIn big ws := by
  intro w hw
  have h1 := List.all_eq_true.mp h w hw
  rw [hp] at hw
  obtain ⟨i, -, hi⟩ := List.mem_filterMap.mp hw
  have hm : w ∈ big := by first | exact List.mem_of_getElem? hi | exact List.getElem?_mem hi
  exact ⟨hm, good_of_word h1⟩
theorem goodIn_app {big a b : List Cond} (ha : GoodIn big a) (hb : GoodIn big b) : GoodIn big (a ++ b) := fun w h => (List.mem_append.mp h).elim (ha w) (hb w)
theorem goodIn_ca {big a b : List Cond} {c : Cond} (ha : GoodIn big (c :: a)) (hb : GoodIn big b) : GoodIn big (c :: (a ++ b)) := fun w h => (List.mem_cons.mp h).elim (fun e => ha w (List.mem_cons.mpr (Or.inl e))) (fun h => (List.mem_append.mp h).elim (fun h => ha w (List.mem_cons.mpr (Or.inr h))) (hb w))
theorem goodIn_sub {big ws : List Cond} (hm : ∀ w ∈ ws, w ∈ big) (h : ws.all goodWord = true) : GoodIn big ws := fun w hw => ⟨hm w hw, good_of_word (List.all_eq_true.mp h w hw)⟩
/-! ===== END ===== -/

/-! ===== BEGIN exceptions that leave a method, and their catching by the caller (launches without stack traces) ===== -/
section VXA
/-! The laws vx_back, vx_callV, vx_callS, vx_callSW, vx_throw0, vx_throwS follow proofs of the library, with one case more: JvmDerived/Free/Laws.lean (Back.of_free), Shelf42/LK1.lean (callV, callS), Shelf/KitTraced.lean (throwNew0V, throwNewS). -/
/-- where a method has thrown q: the class by its name, the cell, what was written, the world -/
def vx_T (XC : String → State → State → Prop) (st : State) (q : Addr) (t : State) (mc ms : Nat) (free : Addr → Prop) : Prop :=
  ∃ (E : String) (ce : Cell) (L : List Loc), XC E st t ∧ t.heap[q]? = some ce ∧ ce.vm = .none ∧ st.vm.findClass E = some ce.cls ∧ st.WarmedH t.vm ∧ st.sameButNew ({ t with vm := st.vm } : State) L mc ms ∧ ∀ z ∈ L, free z.base
def vx_Q (Qc : Array Value → State → Outcome → State → Prop) (XC : String → State → State → Prop) (mc ms : Nat) (free : Addr → Prop) : Array Value → State → Outcome → State → Prop := fun a st o t =>
  (Qc a st o t ∧ ∃ L, FrameEnd st o t L mc ms ∧ ∀ q ∈ L, free q.base) ∨ ∃ q, o = .threw q ∧ vx_T XC st q t mc ms free
/-- a callee that returns or throws -/
def vx_Met (l : Launch) (y : MethodName) (ws : List Cond) (rm : Room) (Pc : Array Value → State → Prop) (Qc : Array Value → State → Outcome → State → Prop) (XC : String → State → State → Prop) (mc ms : Nat) (free : Addr → Prop) : Prop :=
  MetFree l y (headSpec ws rm) Pc (fun _ _ _ _ _ => True) (vx_Q Qc XC mc ms free)
def vx_Post (XC : String → State → State → Prop) (mc ms : Nat) (free : Addr → Prop) : Pt → Array Value → Addr → Pt → Prop := fun A a q B =>
  ∃ (g : JFrame) (mk : MethodId) (t : State) (L : List Loc) (E : String) (ce : Cell), B.U.heap = t.heap ∧ B.U.vm = t.vm ∧ XC E (A.U.calling g mk a) t ∧ t.heap[q]? = some ce ∧ ce.vm = .none ∧ A.U.vm.findClass E = some ce.cls ∧ B.locs = A.locs ++ L ∧ (∀ z ∈ L, free z.base) ∧ B.cells = A.cells + mc ∧ B.slots = A.slots + ms
def vx_Back (l : Launch) (R : Room) (p : Program) (e : Env) (below : List Frame) (s : State) (sargs : Array Value) (y : MethodName) (len W9 : Nat)
    (Pre : Pt → Array Value → Prop) (Post : Pt → Array Value → Option Value → Pt → Prop) (PostX : Pt → Array Value → Addr → Pt → Prop) : Prop :=
  ∀ (m : MethodId) (meth : Method) (c : Code) (A : Pt) (g : JFrame) (ig : Instr) (mk : MethodId) (a : Array Value),
    Stand p l e R s m sargs below meth c A.U A.locs A.cells A.slots → g.method = m → g.locals.size = c.maxLocals → decode c.code g.pc = .ok (ig, len) →
    2 * g.monitorRoom + (g.stack.map fun v => v.category).sum ≤ W9 → A.U.methodNamed? y = some mk → Pre A a →
    (∃ (v : Option Value) (B : Pt), Stand p l e R s m sargs below meth c B.U B.locs B.cells B.slots ∧ Post A a v B ∧
      Steps p.tables e below (doInvoke e (A.U.setTop g) [] mk a).1 (B.U.setTop { g with pc := g.pc + len, stack := v.toList ++ g.stack })) ∨
    (∃ (q : Addr) (B : Pt), Stand p l e R s m sargs below meth c B.U B.locs B.cells B.slots ∧ PostX A a q B ∧
      Steps p.tables e below (doInvoke e (A.U.setTop g) [] mk a).1 ((B.U.setTop g).pushFrame (.throwing q)))
section Payer
variable {l : Launch} {R : Room} {p : Program} {e : Env} {below : List Frame} {s : State} {sargs : Array Value} {y : MethodName} {len W9 : Nat}
theorem vx_back {ws : List Cond} {rm : Room} {Pc : Array Value → State → Prop} {Qc : Array Value → State → Outcome → State → Prop} {XC : String → State → State → Prop} {mc ms : Nat} {free : Addr → Prop} {bytes : ByteArray} {maxL : Nat} {ret : Option FieldType}
    (hM : vx_Met l y ws rm Pc Qc XC mc ms free) (hblind : FrameBlind Pc) (hrc : rm.cells = mc) (hrs : rm.slots = ms)
    (hframes : rm.frames + 1 ≤ R.frames) (hlocals : W9 + (maxL + 11) + rm.locals ≤ R.locals)
    (hws : ∀ w ∈ ws, ∀ a' U, s.WarmedH U.vm → w.before a' U = true) (hcode : Cond.code y bytes maxL ret ∈ ws) (hinit : ∀ a' U, s.WarmedH U.vm → (Cond.initialized y.cls).before a' U = true) :
    vx_Back l R p e below s sargs y len W9 (PreOf R mc ms Pc) (PostOf Qc mc ms free) (vx_Post XC mc ms free) := by
  intro m meth c A g ig mk a X hg hsize hdg hW hn hp
  have h1 : (headSpec ws rm).pre.before a A.U = true := atoms_intro fun w hw => hws w hw _ _ X.warmed
  have h2 : (Cond.code y bytes maxL ret).before a A.U = true := hws _ hcode _ _ X.warmed
  have h3 : (Cond.initialized y.cls).before a A.U = true := hinit _ _ X.warmed
  have h4 : A.cells + (headSpec ws rm).room.cells ≤ R.cells := by rw [show (headSpec ws rm).room.cells = mc from hrc]; exact hp.1
  have h5 : A.slots + (headSpec ws rm).room.slots ≤ R.slots := by rw [show (headSpec ws rm).room.slots = ms from hrs]; exact hp.2.1
  have hPc : Pc a (A.U.calling g mk a) := hblind _ _ _ _ hp.2.2
  obtain ⟨U, Ls, c0, s0⟩ := A
  dsimp only [Pt.U, Pt.locs, Pt.cells, Pt.slots] at h1 h2 h3 h4 h5 X hn hPc ⊢
  obtain ⟨methY, cY, hmY, hcY, -, hlY, -, -, -, -⟩ := Cond.code_spec hn h2
  obtain ⟨kY, hkY, -⟩ := className_of_methodNamed hn
  have hinitY : kY.init = .initialized := Cond.initialized_spec (findClass_of_methodNamed hn) hkY h3
  have h : At U g.method c below := by rw [hg]; exact X.here
  have hlocals9 : W9 + (maxL + 11) + (headSpec ws rm).room.locals ≤ R.locals := hlocals
  have happ : (headSpec ws rm).appliesLoose y e.platform (U.calling g mk a) = true :=
    Spec.appliesLoose_calling (g := g) h hdg hn hkY hinitY
      (X.room_calling (g := g) (R' := (headSpec ws rm).room) hsize hmY hcY hframes (by rw [hlY]; omega) h4 h5) h1
  obtain ⟨mid, hmid⟩ := h.above
  have hfr : (U.setTop g).frames = (.java g :: mid) ++ below := by rw [State.frames_setTop' g h.top, hmid]; rfl
  obtain ⟨o, s₂, hsteps, -, hend, hq⟩ := Steps.callFree hM p X.admits X.cas X.clock (acts := []) hfr happ hPc trivial
  have hq' : vx_Q Qc XC mc ms free a (U.calling g mk a) o s₂ := hq
  rw [State.frames_setTop' g h.top] at hend
  obtain ⟨g₀, hg0⟩ := Option.isSome_iff_exists.mp h.top
  obtain ⟨r, hr⟩ := State.topJava?_eq_some.mp hg0
  have hr' : (({ U with heap := s₂.heap, slotsUsed := s₂.slotsUsed } : State).setVm s₂.vm).frames = .java g₀ :: r := hr
  rcases hq' with ⟨hqc, L, hfe, hL⟩ | ⟨q, rfl, E, ce, L, hx, hce, hcv, hcl, hW₂, hsm, hL⟩
  · obtain ⟨⟨v, rfl⟩, hW₂, e2, q2, q3, q4, q5, q6⟩ := id hfe
    have e3 : s₂ = ({ (U.calling g mk a).setFrames s₂.frames with heap := s₂.heap, slotsUsed := s₂.slotsUsed } : State).setVm s₂.vm := by
      have : s₂ = ({ s₂ with vm := (U.calling g mk a).vm } : State).setVm s₂.vm := rfl
      rw [e2] at this
      exact this
    obtain ⟨c₂, i₂, len₂, hc₂, hd₂, hf₂⟩ := hend
    have hW' : U.WarmedH s₂.vm := hW₂
    have hcc : c₂ = c := by
      have h1 : s₂.code? g.method = U.code? g.method := by
        rw [State.code?_eq, State.code?_eq, hW'.alike.method?]
      exact Option.some.inj (hc₂.symm.trans (h1.trans h.code))
    subst hcc
    have hlen : len₂ = len := by rw [hdg] at hd₂; cases hd₂; rfl
    subst hlen
    have hs₂ : s₂ = (({ U with heap := s₂.heap, slotsUsed := s₂.slotsUsed } : State).setVm s₂.vm).setTop { g with pc := g.pc + len₂, stack := v.toList ++ g.stack } := by
      refine e3.trans ?_
      rw [hf₂, State.calling_eq h.top, State.setFrames_setFrames, State.setTop_of_frames _ hr', hr]
      rfl
    have hsame : U.sameButNew ({ U with heap := s₂.heap, slotsUsed := s₂.slotsUsed } : State) L mc ms := by
      refine ⟨?_, q2, q3, q4, q5, q6⟩
      obtain ⟨t, ht, -⟩ := State.frames_cons hr
      show ({ U with heap := s₂.heap, slotsUsed := s₂.slotsUsed } : State) = { U.setFrames U.frames with heap := s₂.heap, slotsUsed := s₂.slotsUsed }
      rw [State.setFrames_self ht]
    subst hg
    refine Or.inl ⟨v, ⟨(({ U with heap := s₂.heap, slotsUsed := s₂.slotsUsed } : State).setVm s₂.vm), Ls ++ L, c0 + mc, s0 + ms⟩,
      ⟨X.admits, X.cas, X.clock, X.frames, X.room, X.hears, X.method, X.code, (X.here.setHeapUsed s₂.heap s₂.slotsUsed).setVm hW'.alike, X.tail, State.WarmedH.trans X.warmed hW', X.limits, X.bytes, X.same.trans (hsame.setVm s.vm)⟩,
      ⟨g, mk, s₂, L, rfl, rfl, hqc, rfl, hL, rfl, rfl⟩, ?_⟩
    show Steps p.tables e below _ ((({ U with heap := s₂.heap, slotsUsed := s₂.slotsUsed } : State).setVm s₂.vm).setTop { g with pc := g.pc + len₂, stack := v.toList ++ g.stack })
    rw [← hs₂]
    exact hsteps
  · obtain ⟨e2, q2, q3, q4, q5, q6⟩ := id hsm
    have e3 : s₂ = ({ (U.calling g mk a).setFrames s₂.frames with heap := s₂.heap, slotsUsed := s₂.slotsUsed } : State).setVm s₂.vm := by
      have : s₂ = ({ s₂ with vm := (U.calling g mk a).vm } : State).setVm s₂.vm := rfl
      rw [e2] at this
      exact this
    have hf₂ : s₂.frames = .throwing q :: .java g :: U.frames.tail := hend
    have hW' : U.WarmedH s₂.vm := hW₂
    have hs₂ : s₂ = ((({ U with heap := s₂.heap, slotsUsed := s₂.slotsUsed } : State).setVm s₂.vm).setTop g).pushFrame (.throwing q) := by
      refine e3.trans ?_
      rw [hf₂, State.calling_eq h.top, State.setFrames_setFrames, State.pushFrame, State.frames_setTop _ hr', State.setTop_of_frames _ hr', State.setFrames_setFrames, hr]
      rfl
    have hsame : U.sameButNew ({ U with heap := s₂.heap, slotsUsed := s₂.slotsUsed } : State) L mc ms := by
      refine ⟨?_, q2, q3, q4, q5, q6⟩
      obtain ⟨t, ht, -⟩ := State.frames_cons hr
      show ({ U with heap := s₂.heap, slotsUsed := s₂.slotsUsed } : State) = { U.setFrames U.frames with heap := s₂.heap, slotsUsed := s₂.slotsUsed }
      rw [State.setFrames_self ht]
    subst hg
    refine Or.inr ⟨q, ⟨(({ U with heap := s₂.heap, slotsUsed := s₂.slotsUsed } : State).setVm s₂.vm), Ls ++ L, c0 + mc, s0 + ms⟩,
      ⟨X.admits, X.cas, X.clock, X.frames, X.room, X.hears, X.method, X.code, (X.here.setHeapUsed s₂.heap s₂.slotsUsed).setVm hW'.alike, X.tail, State.WarmedH.trans X.warmed hW', X.limits, X.bytes, X.same.trans (hsame.setVm s.vm)⟩,
      ⟨g, mk, s₂, L, E, ce, rfl, rfl, hx, hce, hcv, hcl, rfl, hL, rfl, rfl⟩, ?_⟩
    show Steps p.tables e below _ (((({ U with heap := s₂.heap, slotsUsed := s₂.slotsUsed } : State).setVm s₂.vm).setTop g).pushFrame (.throwing q))
    rw [← hs₂]
    exact hsteps
end Payer
section Calls
variable {p : Program} {l : Launch} {e : Env} {R : Room} {s : State} {m : MethodId} {args : Array Value} {below : List Frame} {meth : Method} {c : Code} {T : State} {locs : List Loc} {cells slots : Nat}
theorem vx_callV (X : Stand p l e R s m args below meth c T locs cells slots) (hexec : p.tables.exec = Jvm.exec) {own C : String} {index : Nat} {y : MethodName} {bytes : ByteArray} {maxL : Nat} {ret : Option FieldType}
    (hown : s.vm.findClass own = some m.cls) (hlink : (Cond.methodLink own index y).before args s = true) (hinst : (Cond.instanceMethod y).before args s = true) (hsel : (Cond.selects C y y).before args s = true)
    (hcode : (Cond.code y bytes maxL ret).before args s = true) (hy : y.cls ≠ "java/lang/invoke/MethodHandle" ∧ y.cls ≠ "java/lang/invoke/VarHandle")
    {W9 : Nat} {Pre : Pt → Array Value → Prop} {Post : Pt → Array Value → Option Value → Pt → Prop} {PostX : Pt → Array Value → Addr → Pt → Prop} (hK : vx_Back l R p e below s args y 3 W9 Pre Post PostX)
    {b : Addr} {cellB : Cell} (hcell : T.heap[b]? = some cellB) (hobj : cellB.vm.isStatics = false) (hcls : s.vm.findClass C = some cellB.cls)
    {g : JFrame} (hg : g.method = m) (hsize : g.locals.size = c.maxLocals) {argsL rest : List Value} (hlen : ∀ sig, parseMethodDescriptor y.desc = some sig → argsL.length = sig.parameters.length)
    (hstack : g.stack = argsL.reverse ++ .ref b :: rest) (hW : 2 * g.monitorRoom + (rest.map fun v => v.category).sum ≤ W9) (hdg : decode c.code g.pc = .ok (.invokevirtual index, 3))
    (hpre : ∀ vm₁, s.WarmedH vm₁ → Pre ⟨T.setVm vm₁, locs, cells, slots⟩ (Value.ref b :: argsL).toArray) :
    (∃ (v : Option Value) (vm₁ : Vm) (B : Pt), s.WarmedH vm₁ ∧ Stand p l e R s m args below meth c B.U B.locs B.cells B.slots ∧ Post ⟨T.setVm vm₁, locs, cells, slots⟩ (Value.ref b :: argsL).toArray v B ∧
      ∀ target, Steps p.tables e below (B.U.setTop { g with pc := g.pc + 3, stack := v.toList ++ rest }) target → Steps p.tables e below (T.setTop g) target) ∨
    (∃ (q : Addr) (vm₁ : Vm) (B : Pt), s.WarmedH vm₁ ∧ Stand p l e R s m args below meth c B.U B.locs B.cells B.slots ∧ PostX ⟨T.setVm vm₁, locs, cells, slots⟩ (Value.ref b :: argsL).toArray q B ∧
      Steps p.tables e below (T.setTop g) ((B.U.setTop { g with stack := rest }).pushFrame (.throwing q))) := by
  obtain ⟨mk, methM, hnamed, hmethM, hstM, habM⟩ := Cond.instanceMethod_spec hinst
  obtain ⟨methM', cM, hmethM', -, -, -, -, -, -, hsigM⟩ := Cond.code_spec hnamed hcode
  cases hmethM.symm.trans hmethM'
  obtain ⟨c2, r2, m2, q1, q2, q3, q4, kP, hkP, hkPi⟩ := Cond.selects_spec hsel
  cases hcls.symm.trans q1
  cases (State.methodFound?_of_named hnamed hy).symm.trans q2
  cases hnamed.symm.trans q3
  have hselP : selectMethod e.platform s.vm cellB.cls mk = .method mk := by rw [Launch.admits_selectMethod X.admits]; exact q4
  obtain ⟨vm₁, X₁, hstep₁⟩ := X.invokevirtual hexec hown hlink hnamed hmethM hstM hkP hkPi hy (a := b) (cell := cellB) hcell
    (fun z h => by rw [h] at hobj; cases hobj) hselP hmethM habM hkP hkPi (g := g) hg (argsL := argsL) (rest := rest) (hlen _ hsigM) hstack hdg
  rcases hK m meth c ⟨T.setVm vm₁, locs, cells, slots⟩ { g with stack := rest } (.invokevirtual index) mk (Value.ref b :: argsL).toArray X₁ hg hsize hdg hW (X₁.named hnamed) (hpre vm₁ X₁.warmed) with ⟨v, B, X', hpost, hsteps⟩ | ⟨q, B, X', hpost, hsteps⟩
  · exact Or.inl ⟨v, vm₁, B, X₁.warmed, X', hpost, fun target h => hstep₁ _ fun acts => by rw [doInvoke_state]; exact hsteps.trans h⟩
  · exact Or.inr ⟨q, vm₁, B, X₁.warmed, X', hpost, hstep₁ _ fun acts => by rw [doInvoke_state]; exact hsteps⟩
theorem vx_callS (X : Stand p l e R s m args below meth c T locs cells slots) (hexec : p.tables.exec = Jvm.exec) {own : String} {index : Nat} {y : MethodName} {bytes : ByteArray} {maxL : Nat} {ret : Option FieldType}
    (hown : s.vm.findClass own = some m.cls) (hlink : (Cond.methodLink own index y).before args s = true) (hstat : (Cond.static y).before args s = true) (hinit : (Cond.initialized y.cls).before args s = true)
    (hcode : (Cond.code y bytes maxL ret).before args s = true) (hy : y.cls ≠ "java/lang/invoke/MethodHandle" ∧ y.cls ≠ "java/lang/invoke/VarHandle")
    {W9 : Nat} {Pre : Pt → Array Value → Prop} {Post : Pt → Array Value → Option Value → Pt → Prop} {PostX : Pt → Array Value → Addr → Pt → Prop} (hK : vx_Back l R p e below s args y 3 W9 Pre Post PostX)
    {g : JFrame} (hg : g.method = m) (hsize : g.locals.size = c.maxLocals) {argsL rest : List Value} (hlen : ∀ sig, parseMethodDescriptor y.desc = some sig → argsL.length = sig.parameters.length)
    (hstack : g.stack = argsL.reverse ++ rest) (hW : 2 * g.monitorRoom + (rest.map fun v => v.category).sum ≤ W9) (hdg : decode c.code g.pc = .ok (.invokestatic index, 3))
    (hpre : ∀ vm₁, s.WarmedH vm₁ → Pre ⟨T.setVm vm₁, locs, cells, slots⟩ argsL.toArray) :
    (∃ (v : Option Value) (vm₁ : Vm) (B : Pt), s.WarmedH vm₁ ∧ Stand p l e R s m args below meth c B.U B.locs B.cells B.slots ∧ Post ⟨T.setVm vm₁, locs, cells, slots⟩ argsL.toArray v B ∧
      ∀ target, Steps p.tables e below (B.U.setTop { g with pc := g.pc + 3, stack := v.toList ++ rest }) target → Steps p.tables e below (T.setTop g) target) ∨
    (∃ (q : Addr) (vm₁ : Vm) (B : Pt), s.WarmedH vm₁ ∧ Stand p l e R s m args below meth c B.U B.locs B.cells B.slots ∧ PostX ⟨T.setVm vm₁, locs, cells, slots⟩ argsL.toArray q B ∧
      Steps p.tables e below (T.setTop g) ((B.U.setTop { g with stack := rest }).pushFrame (.throwing q))) := by
  obtain ⟨mk, hnamed⟩ := Cond.code_named hcode
  obtain ⟨methM, cM, hmethM, -, -, -, -, -, -, hsigM⟩ := Cond.code_spec hnamed hcode
  have hstatic : methM.isStatic = true := Cond.static_spec hnamed hmethM hstat
  obtain ⟨kP, hkP, -⟩ := className_of_methodNamed hnamed
  have hinitP : kP.init = .initialized := Cond.initialized_spec (findClass_of_methodNamed hnamed) hkP hinit
  obtain ⟨vm₁, X₁, hstep₁⟩ := X.invokestatic hexec hown hlink hnamed hmethM hstatic hkP hinitP hy (g := g) hg (argsL := argsL) (rest := rest) (hlen _ hsigM) hstack hdg
  rcases hK m meth c ⟨T.setVm vm₁, locs, cells, slots⟩ { g with stack := rest } (.invokestatic index) mk argsL.toArray X₁ hg hsize hdg hW (X₁.named hnamed) (hpre vm₁ X₁.warmed) with ⟨v, B, X', hpost, hsteps⟩ | ⟨q, B, X', hpost, hsteps⟩
  · exact Or.inl ⟨v, vm₁, B, X₁.warmed, X', hpost, fun target h => hstep₁ _ fun acts => by rw [doInvoke_state]; exact hsteps.trans h⟩
  · exact Or.inr ⟨q, vm₁, B, X₁.warmed, X', hpost, hstep₁ _ fun acts => by rw [doInvoke_state]; exact hsteps⟩
end Calls
theorem vx_cls {s : State} {T : State} {vm₁ : Vm} {E : String} {k : ClassId} (hW : s.WarmedH vm₁) (h : (T.setVm vm₁).vm.findClass E = some k) : s.vm.findClass E = some k := by
  have h1 : vm₁.findClass E = some k := h
  rw [hW.alike.findClass] at h1
  exact h1
/-- the method's frame g, with q thrown over it -/
def vx_W (p : Program) (l : Launch) (e : Env) (R : Room) (s : State) (m : MethodId) (args : Array Value) (below : List Frame) (meth : Method) (c : Code) (H : Heap) (locs : List Loc) (cells slots : Nat) (Q : State → Prop) (g : JFrame) (q : Addr) : Prop :=
  ∀ T : State, T.heap = H → Stand p l e R s m args below meth c T locs cells slots → ∃ t, Steps p.tables e below ((T.setTop g).pushFrame (.throwing q)) t ∧ Q t
def vx_Run (p : Program) (l : Launch) (e : Env) (R : Room) (s : State) (m : MethodId) (args : Array Value) (below : List Frame) (meth : Method) (c : Code) (H : Heap) (locs : List Loc) (cells slots mc ms : Nat) (g : JFrame) (rest : List Value) (Qa : State → Outcome → State → Prop) (XC : String → State → State → Prop) (free : Addr → Prop) : Prop :=
  ∀ T : State, T.heap = H → Stand p l e R s m args below meth c T locs cells slots →
    (∃ (v : Option Value) (st₀ t T' : State) (L : List Loc), st₀.heap = H ∧ Stand p l e R s m args below meth c T' (locs ++ L) (cells + mc) (slots + ms) ∧ (∀ q ∈ L, free q.base) ∧ T'.heap = t.heap ∧ T'.vm = t.vm ∧ Qa st₀ (.returned v) t ∧
      Goes p e below T g T' { g with pc := g.pc + 3, stack := v.toList ++ rest }) ∨
    (∃ (q : Addr) (st₀ t T' : State) (L : List Loc) (E : String) (ce : Cell), st₀.heap = H ∧ Stand p l e R s m args below meth c T' (locs ++ L) (cells + mc) (slots + ms) ∧ (∀ z ∈ L, free z.base) ∧ T'.heap = t.heap ∧ T'.vm = t.vm ∧ XC E st₀ t ∧ t.heap[q]? = some ce ∧ ce.vm = .none ∧ s.vm.findClass E = some ce.cls ∧
      Steps p.tables e below (T.setTop g) ((T'.setTop { g with stack := rest }).pushFrame (.throwing q)))
def vx_X {S : Type} (px : S → Prop) (B : String → S → State → Prop) (A : Nat → Prop) : String → State → State → Prop := fun E st t => ∃ u : S, px u ∧ B E u t ∧ va_F A st t
section Runs
variable {p : Program} {l : Launch} {e : Env} {R : Room} {s : State} {m : MethodId} {args : Array Value} {below : List Frame} {meth : Method} {c : Code} {H : Heap} {locs : List Loc} {cells slots : Nat}
variable {y : MethodName} {bytes cc : ByteArray} {maxL nL mc ms n index : Nat} {ret : Option FieldType} {ws : List Cond} {rm : Room} {Pc : Array Value → State → Prop} {Qc : Array Value → State → Outcome → State → Prop} {XC : String → State → State → Prop} {free : Addr → Prop} {Ts : List Cond} {own C : String} {b : Addr} {As rest : List Value} {g : JFrame}
theorem vx_callBack (cb : CallB R s args own index y bytes maxL ret ws rm mc ms n) (hM : vx_Met l y ws rm Pc Qc XC mc ms free) (hbl : FrameBlind Pc) : vx_Back l R p e below s args y 3 8 (PreOf R mc ms Pc) (PostOf Qc mc ms free) (vx_Post XC mc ms free) := by
  obtain ⟨hrc, hrs, hfr, hlo, hws, hcw, -, hini, -⟩ := cb
  exact vx_back (bytes := bytes) (maxL := maxL) (ret := ret) hM hbl hrc hrs hfr hlo hws hcw (fun a' U hW => word_at hW (Or.inl (by first | rfl | simp [Cond.onTables, Cond.keeps, Cond.steady])) hini)
theorem vx_runV (S : CallFix p m c cc nL s args Ts own) (hM : vx_Met l y ws rm Pc Qc XC mc ms free) (cw : CallW R s args own C index y bytes maxL ret ws rm mc ms n) (hp : PreV s H C b Pc As)
    (hg : g.method = m) (hn : As.length = n) (hsize : g.locals.size = nL) (hstack : g.stack = As.reverse ++ .ref b :: rest) (hW : 2 * g.monitorRoom + (rest.map fun v => v.category).sum ≤ 8) (hdg : decode cc g.pc = .ok (.invokevirtual index, 3)) (hf : cells + mc ≤ R.cells ∧ slots + ms ≤ R.slots) :
    vx_Run p l e R s m args below meth c H locs cells slots mc ms g rest (Qc (Value.ref b :: As).toArray) XC free := by
  have hK : vx_Back l R p e below s args y 3 8 (PreOf R mc ms Pc) (PostOf Qc mc ms free) (vx_Post XC mc ms free) := vx_callBack cw.1 hM hp.1
  obtain ⟨⟨-, -, -, -, -, -, hcode, -, hy, hlen, hl⟩, hin, hse⟩ := cw
  obtain ⟨hx, hb, hml, ho, -⟩ := S
  obtain ⟨-, ⟨cellB, hcB, hoB, hclB⟩, hPc⟩ := hp
  intro T hT X
  rcases vx_callV X hx (C := C) (bytes := bytes) (maxL := maxL) (ret := ret) ho hl hin hse hcode hy hK (by rw [hT]; exact hcB) hoB hclB hg (hsize.trans hml.symm) (argsL := As) (rest := rest) (fun sig h => hn.trans (hlen sig h)) hstack hW (by rw [hb]; exact hdg)
    (fun vm₁ hW₁ => ⟨hf.1, hf.2, hPc (T.setVm vm₁) hT hW₁⟩) with ⟨v, vm₁, ⟨U', l2, c2, s2⟩, hW₁, X', ⟨g', mk, t, L, e1, e2, hq, h1, hL, h2, h3⟩, st⟩ | ⟨q, vm₁, ⟨U', l2, c2, s2⟩, hW₁, X', ⟨g', mk, t, L, E, ce, e1, e2, hq, hce, hcv, hcl, h1, hL, h2, h3⟩, st⟩
  · dsimp only [Pt.U, Pt.locs, Pt.cells, Pt.slots] at X' e1 e2 h1 h2 h3 st
    subst h1; subst h2; subst h3
    exact Or.inl ⟨v, (T.setVm vm₁).calling g' mk (Value.ref b :: As).toArray, t, U', L, hT, X', hL, e1, e2, hq, st⟩
  · dsimp only [Pt.U, Pt.locs, Pt.cells, Pt.slots] at X' e1 e2 h1 h2 h3 st hcl
    subst h1; subst h2; subst h3
    exact Or.inr ⟨q, (T.setVm vm₁).calling g' mk (Value.ref b :: As).toArray, t, U', L, E, ce, hT, X', hL, e1, e2, hq, hce, hcv, vx_cls hW₁ hcl, st⟩
theorem vx_runS (S : CallFix p m c cc nL s args Ts own) (hM : vx_Met l y ws rm Pc Qc XC mc ms free) (cw : CallB R s args own index y bytes maxL ret ws rm mc ms n ∧ (Cond.static y).before args s = true) (hp : PreS s H Pc As)
    (hg : g.method = m) (hn : As.length = n) (hsize : g.locals.size = nL) (hstack : g.stack = As.reverse ++ rest) (hW : 2 * g.monitorRoom + (rest.map fun v => v.category).sum ≤ 8) (hdg : decode cc g.pc = .ok (.invokestatic index, 3)) (hf : cells + mc ≤ R.cells ∧ slots + ms ≤ R.slots) :
    vx_Run p l e R s m args below meth c H locs cells slots mc ms g rest (Qc As.toArray) XC free := by
  have hK : vx_Back l R p e below s args y 3 8 (PreOf R mc ms Pc) (PostOf Qc mc ms free) (vx_Post XC mc ms free) := vx_callBack cw.1 hM hp.1
  obtain ⟨⟨-, -, -, -, -, -, hcode, hini, hy, hlen, hl⟩, hstt⟩ := cw
  obtain ⟨hx, hb, hml, ho, -⟩ := S
  intro T hT X
  rcases vx_callS X hx (bytes := bytes) (maxL := maxL) (ret := ret) ho hl hstt hini hcode hy hK hg (hsize.trans hml.symm) (argsL := As) (rest := rest) (fun sig h => hn.trans (hlen sig h)) hstack hW (by rw [hb]; exact hdg)
    (fun vm₁ hW₁ => ⟨hf.1, hf.2, hp.2 (T.setVm vm₁) hT hW₁⟩) with ⟨v, vm₁, ⟨U', l2, c2, s2⟩, hW₁, X', ⟨g', mk, t, L, e1, e2, hq, h1, hL, h2, h3⟩, st⟩ | ⟨q, vm₁, ⟨U', l2, c2, s2⟩, hW₁, X', ⟨g', mk, t, L, E, ce, e1, e2, hq, hce, hcv, hcl, h1, hL, h2, h3⟩, st⟩
  · dsimp only [Pt.U, Pt.locs, Pt.cells, Pt.slots] at X' e1 e2 h1 h2 h3 st
    subst h1; subst h2; subst h3
    exact Or.inl ⟨v, (T.setVm vm₁).calling g' mk As.toArray, t, U', L, hT, X', hL, e1, e2, hq, st⟩
  · dsimp only [Pt.U, Pt.locs, Pt.cells, Pt.slots] at X' e1 e2 h1 h2 h3 st hcl
    subst h1; subst h2; subst h3
    exact Or.inr ⟨q, (T.setVm vm₁).calling g' mk As.toArray, t, U', L, E, ce, hT, X', hL, e1, e2, hq, hce, hcv, vx_cls hW₁ hcl, st⟩
end Runs
section Rows
variable {p : Program} {l : Launch} {e : Env} {R : Room} {s : State} {m : MethodId} {args : Array Value} {below : List Frame} {meth : Method} {c : Code} {H : Heap} {locs : List Loc} {cells slots : Nat} {Q : State → Prop}
variable {mc ms : Nat} {free : Addr → Prop} {A0 A1 : Nat → Prop} {H0 : Heap} {a : Array Value} {pc : Nat} {ls : Array Slot} {st0 rest : List Value}
theorem vx_keep {st₀ t T' : State} {L : List Loc} (h0 : st₀.heap = H) (e1 : T'.heap = t.heap) (hS : va_S A0 H0 H locs) (hA : ∀ q, q < H.size → A1 q → A0 q) (hf : ∀ q, free q → A0 q) (hL : ∀ q ∈ L, free q.base) (hF : va_F A1 st₀ t) :
    H.size ≤ T'.heap.size ∧ (∀ q : Nat, q < H.size → ¬ A1 q → T'.heap[q]? = H[q]?) ∧ va_S A0 H0 T'.heap (locs ++ L) := by
  obtain ⟨hz, hk⟩ := hF
  rw [h0] at hz hk
  exact ⟨by rw [e1]; exact hz, fun q h1 h2 => by rw [e1]; exact hk q h1 h2,
    ⟨Nat.le_trans hS.1 (by rw [e1]; exact hz), fun q h1 h2 => by rw [e1, hk q (Nat.lt_of_lt_of_le h1 hS.1) (fun z => h2 (hA q (Nat.lt_of_lt_of_le h1 hS.1) z))]; exact hS.2.1 q h1 h2, fun q hq => by
      rcases List.mem_append.mp hq with h | h
      · exact hS.2.2 q h
      · exact hf _ (hL q h)⟩⟩
theorem vx_calli {S SX : Type} {post : Int32 → S → Prop} {px : SX → Prop} {B : S → State → Prop} {BX : String → SX → State → Prop} {AX : Nat → Prop} (hr : vx_Run p l e R s m args below meth c H locs cells slots mc ms (F0 m pc ls st0) rest (va_Qi post B A1 a) (vx_X px BX AX) free) (hS : va_S A0 H0 H locs) (hA : ∀ q, q < H.size → A1 q → A0 q) (hf : ∀ q, free q → A0 q) (hAX : ∀ q, q < H.size → AX q → A0 q)
    (kx : ∀ (E : String) (ce : Cell) (q9 : Addr) (u : SX) (t : State) (H1 : Heap) (locs1 : List Loc), t.heap = H1 → s.vm.Alike t.vm → px u → BX E u t → H.size ≤ H1.size → (∀ q : Nat, q < H.size → ¬ AX q → H1[q]? = H[q]?) → va_S A0 H0 H1 locs1 → H1[q9]? = some ce → ce.vm = .none → s.vm.findClass E = some ce.cls → vx_W p l e R s m args below meth c H1 locs1 (cells + mc) (slots + ms) Q (F0 m pc ls rest) q9)
    (kk : ∀ (r : Int32) (u : S) (t : State) (H1 : Heap) (locs1 : List Loc), t.heap = H1 → s.vm.Alike t.vm → post r u → B u t → H.size ≤ H1.size → (∀ q : Nat, q < H.size → ¬ A1 q → H1[q]? = H[q]?) → va_S A0 H0 H1 locs1 → W p l e R s m args below meth c H1 locs1 (cells + mc) (slots + ms) Q (F0 m (pc + 3) ls (.int r :: rest))) : W p l e R s m args below meth c H locs cells slots Q (F0 m pc ls st0) := by
  intro T hT X
  rcases hr T hT X with ⟨v, st₀, t, T', L, h0, X', hL, e1, e2, ⟨⟨r, u, hv, hp, hb⟩, hF⟩, st⟩ | ⟨q, st₀, t, T', L, E, ce, h0, X', hL, e1, e2, ⟨u, hp, hb, hF⟩, hce, hcv, hcl, st⟩
  · cases hv
    obtain ⟨k1, k2, k3⟩ := vx_keep h0 e1 hS hA hf hL hF
    obtain ⟨t2, a1, b1⟩ := kk r u t T'.heap (locs ++ L) e1.symm (by rw [← e2]; exact X'.warmed.alike) hp hb k1 k2 k3 T' rfl X'
    exact ⟨t2, st t2 a1, b1⟩
  · obtain ⟨k1, k2, k3⟩ := vx_keep h0 e1 hS hAX hf hL hF
    obtain ⟨t2, a1, b1⟩ := kx E ce q u t T'.heap (locs ++ L) e1.symm (by rw [← e2]; exact X'.warmed.alike) hp hb k1 k2 k3 (by rw [e1]; exact hce) hcv hcl T' rfl X'
    exact ⟨t2, st.trans a1, b1⟩
theorem vx_calll {S SX : Type} {post : Int64 → S → Prop} {px : SX → Prop} {B : S → State → Prop} {BX : String → SX → State → Prop} {AX : Nat → Prop} (hr : vx_Run p l e R s m args below meth c H locs cells slots mc ms (F0 m pc ls st0) rest (va_Ql post B A1 a) (vx_X px BX AX) free) (hS : va_S A0 H0 H locs) (hA : ∀ q, q < H.size → A1 q → A0 q) (hf : ∀ q, free q → A0 q) (hAX : ∀ q, q < H.size → AX q → A0 q)
    (kx : ∀ (E : String) (ce : Cell) (q9 : Addr) (u : SX) (t : State) (H1 : Heap) (locs1 : List Loc), t.heap = H1 → s.vm.Alike t.vm → px u → BX E u t → H.size ≤ H1.size → (∀ q : Nat, q < H.size → ¬ AX q → H1[q]? = H[q]?) → va_S A0 H0 H1 locs1 → H1[q9]? = some ce → ce.vm = .none → s.vm.findClass E = some ce.cls → vx_W p l e R s m args below meth c H1 locs1 (cells + mc) (slots + ms) Q (F0 m pc ls rest) q9)
    (kk : ∀ (r : Int64) (u : S) (t : State) (H1 : Heap) (locs1 : List Loc), t.heap = H1 → s.vm.Alike t.vm → post r u → B u t → H.size ≤ H1.size → (∀ q : Nat, q < H.size → ¬ A1 q → H1[q]? = H[q]?) → va_S A0 H0 H1 locs1 → W p l e R s m args below meth c H1 locs1 (cells + mc) (slots + ms) Q (F0 m (pc + 3) ls (.long r :: rest))) : W p l e R s m args below meth c H locs cells slots Q (F0 m pc ls st0) := by
  intro T hT X
  rcases hr T hT X with ⟨v, st₀, t, T', L, h0, X', hL, e1, e2, ⟨⟨r, u, hv, hp, hb⟩, hF⟩, st⟩ | ⟨q, st₀, t, T', L, E, ce, h0, X', hL, e1, e2, ⟨u, hp, hb, hF⟩, hce, hcv, hcl, st⟩
  · cases hv
    obtain ⟨k1, k2, k3⟩ := vx_keep h0 e1 hS hA hf hL hF
    obtain ⟨t2, a1, b1⟩ := kk r u t T'.heap (locs ++ L) e1.symm (by rw [← e2]; exact X'.warmed.alike) hp hb k1 k2 k3 T' rfl X'
    exact ⟨t2, st t2 a1, b1⟩
  · obtain ⟨k1, k2, k3⟩ := vx_keep h0 e1 hS hAX hf hL hF
    obtain ⟨t2, a1, b1⟩ := kx E ce q u t T'.heap (locs ++ L) e1.symm (by rw [← e2]; exact X'.warmed.alike) hp hb k1 k2 k3 (by rw [e1]; exact hce) hcv hcl T' rfl X'
    exact ⟨t2, st.trans a1, b1⟩
theorem vx_callf {S SX : Type} {post : UInt32 → S → Prop} {px : SX → Prop} {B : S → State → Prop} {BX : String → SX → State → Prop} {AX : Nat → Prop} (hr : vx_Run p l e R s m args below meth c H locs cells slots mc ms (F0 m pc ls st0) rest (va_Qf post B A1 a) (vx_X px BX AX) free) (hS : va_S A0 H0 H locs) (hA : ∀ q, q < H.size → A1 q → A0 q) (hf : ∀ q, free q → A0 q) (hAX : ∀ q, q < H.size → AX q → A0 q)
    (kx : ∀ (E : String) (ce : Cell) (q9 : Addr) (u : SX) (t : State) (H1 : Heap) (locs1 : List Loc), t.heap = H1 → s.vm.Alike t.vm → px u → BX E u t → H.size ≤ H1.size → (∀ q : Nat, q < H.size → ¬ AX q → H1[q]? = H[q]?) → va_S A0 H0 H1 locs1 → H1[q9]? = some ce → ce.vm = .none → s.vm.findClass E = some ce.cls → vx_W p l e R s m args below meth c H1 locs1 (cells + mc) (slots + ms) Q (F0 m pc ls rest) q9)
    (kk : ∀ (r : UInt32) (u : S) (t : State) (H1 : Heap) (locs1 : List Loc), t.heap = H1 → s.vm.Alike t.vm → post r u → B u t → H.size ≤ H1.size → (∀ q : Nat, q < H.size → ¬ A1 q → H1[q]? = H[q]?) → va_S A0 H0 H1 locs1 → W p l e R s m args below meth c H1 locs1 (cells + mc) (slots + ms) Q (F0 m (pc + 3) ls (.float r :: rest))) : W p l e R s m args below meth c H locs cells slots Q (F0 m pc ls st0) := by
  intro T hT X
  rcases hr T hT X with ⟨v, st₀, t, T', L, h0, X', hL, e1, e2, ⟨⟨r, u, hv, hp, hb⟩, hF⟩, st⟩ | ⟨q, st₀, t, T', L, E, ce, h0, X', hL, e1, e2, ⟨u, hp, hb, hF⟩, hce, hcv, hcl, st⟩
  · cases hv
    obtain ⟨k1, k2, k3⟩ := vx_keep h0 e1 hS hA hf hL hF
    obtain ⟨t2, a1, b1⟩ := kk r u t T'.heap (locs ++ L) e1.symm (by rw [← e2]; exact X'.warmed.alike) hp hb k1 k2 k3 T' rfl X'
    exact ⟨t2, st t2 a1, b1⟩
  · obtain ⟨k1, k2, k3⟩ := vx_keep h0 e1 hS hAX hf hL hF
    obtain ⟨t2, a1, b1⟩ := kx E ce q u t T'.heap (locs ++ L) e1.symm (by rw [← e2]; exact X'.warmed.alike) hp hb k1 k2 k3 (by rw [e1]; exact hce) hcv hcl T' rfl X'
    exact ⟨t2, st.trans a1, b1⟩
theorem vx_calld {S SX : Type} {post : UInt64 → S → Prop} {px : SX → Prop} {B : S → State → Prop} {BX : String → SX → State → Prop} {AX : Nat → Prop} (hr : vx_Run p l e R s m args below meth c H locs cells slots mc ms (F0 m pc ls st0) rest (va_Qd post B A1 a) (vx_X px BX AX) free) (hS : va_S A0 H0 H locs) (hA : ∀ q, q < H.size → A1 q → A0 q) (hf : ∀ q, free q → A0 q) (hAX : ∀ q, q < H.size → AX q → A0 q)
    (kx : ∀ (E : String) (ce : Cell) (q9 : Addr) (u : SX) (t : State) (H1 : Heap) (locs1 : List Loc), t.heap = H1 → s.vm.Alike t.vm → px u → BX E u t → H.size ≤ H1.size → (∀ q : Nat, q < H.size → ¬ AX q → H1[q]? = H[q]?) → va_S A0 H0 H1 locs1 → H1[q9]? = some ce → ce.vm = .none → s.vm.findClass E = some ce.cls → vx_W p l e R s m args below meth c H1 locs1 (cells + mc) (slots + ms) Q (F0 m pc ls rest) q9)
    (kk : ∀ (r : UInt64) (u : S) (t : State) (H1 : Heap) (locs1 : List Loc), t.heap = H1 → s.vm.Alike t.vm → post r u → B u t → H.size ≤ H1.size → (∀ q : Nat, q < H.size → ¬ A1 q → H1[q]? = H[q]?) → va_S A0 H0 H1 locs1 → W p l e R s m args below meth c H1 locs1 (cells + mc) (slots + ms) Q (F0 m (pc + 3) ls (.double r :: rest))) : W p l e R s m args below meth c H locs cells slots Q (F0 m pc ls st0) := by
  intro T hT X
  rcases hr T hT X with ⟨v, st₀, t, T', L, h0, X', hL, e1, e2, ⟨⟨r, u, hv, hp, hb⟩, hF⟩, st⟩ | ⟨q, st₀, t, T', L, E, ce, h0, X', hL, e1, e2, ⟨u, hp, hb, hF⟩, hce, hcv, hcl, st⟩
  · cases hv
    obtain ⟨k1, k2, k3⟩ := vx_keep h0 e1 hS hA hf hL hF
    obtain ⟨t2, a1, b1⟩ := kk r u t T'.heap (locs ++ L) e1.symm (by rw [← e2]; exact X'.warmed.alike) hp hb k1 k2 k3 T' rfl X'
    exact ⟨t2, st t2 a1, b1⟩
  · obtain ⟨k1, k2, k3⟩ := vx_keep h0 e1 hS hAX hf hL hF
    obtain ⟨t2, a1, b1⟩ := kx E ce q u t T'.heap (locs ++ L) e1.symm (by rw [← e2]; exact X'.warmed.alike) hp hb k1 k2 k3 (by rw [e1]; exact hce) hcv hcl T' rfl X'
    exact ⟨t2, st.trans a1, b1⟩
theorem vx_callv {S SX : Type} {post : S → Prop} {px : SX → Prop} {B : S → State → Prop} {BX : String → SX → State → Prop} {AX : Nat → Prop} (hr : vx_Run p l e R s m args below meth c H locs cells slots mc ms (F0 m pc ls st0) rest (va_Qv post B A1 a) (vx_X px BX AX) free) (hS : va_S A0 H0 H locs) (hA : ∀ q, q < H.size → A1 q → A0 q) (hf : ∀ q, free q → A0 q) (hAX : ∀ q, q < H.size → AX q → A0 q)
    (kx : ∀ (E : String) (ce : Cell) (q9 : Addr) (u : SX) (t : State) (H1 : Heap) (locs1 : List Loc), t.heap = H1 → s.vm.Alike t.vm → px u → BX E u t → H.size ≤ H1.size → (∀ q : Nat, q < H.size → ¬ AX q → H1[q]? = H[q]?) → va_S A0 H0 H1 locs1 → H1[q9]? = some ce → ce.vm = .none → s.vm.findClass E = some ce.cls → vx_W p l e R s m args below meth c H1 locs1 (cells + mc) (slots + ms) Q (F0 m pc ls rest) q9)
    (kk : ∀ (u : S) (t : State) (H1 : Heap) (locs1 : List Loc), t.heap = H1 → s.vm.Alike t.vm → post u → B u t → H.size ≤ H1.size → (∀ q : Nat, q < H.size → ¬ A1 q → H1[q]? = H[q]?) → va_S A0 H0 H1 locs1 → W p l e R s m args below meth c H1 locs1 (cells + mc) (slots + ms) Q (F0 m (pc + 3) ls (rest))) : W p l e R s m args below meth c H locs cells slots Q (F0 m pc ls st0) := by
  intro T hT X
  rcases hr T hT X with ⟨v, st₀, t, T', L, h0, X', hL, e1, e2, ⟨⟨u, hv, hp, hb⟩, hF⟩, st⟩ | ⟨q, st₀, t, T', L, E, ce, h0, X', hL, e1, e2, ⟨u, hp, hb, hF⟩, hce, hcv, hcl, st⟩
  · cases hv
    obtain ⟨k1, k2, k3⟩ := vx_keep h0 e1 hS hA hf hL hF
    obtain ⟨t2, a1, b1⟩ := kk u t T'.heap (locs ++ L) e1.symm (by rw [← e2]; exact X'.warmed.alike) hp hb k1 k2 k3 T' rfl X'
    exact ⟨t2, st t2 a1, b1⟩
  · obtain ⟨k1, k2, k3⟩ := vx_keep h0 e1 hS hAX hf hL hF
    obtain ⟨t2, a1, b1⟩ := kx E ce q u t T'.heap (locs ++ L) e1.symm (by rw [← e2]; exact X'.warmed.alike) hp hb k1 k2 k3 (by rw [e1]; exact hce) hcv hcl T' rfl X'
    exact ⟨t2, st.trans a1, b1⟩
/-- caught by the row x of this method's table; the rows ahead don't take it -/
theorem vx_catch {own name : String} {E : String} {ce : Cell} {q : Addr} (hown : s.vm.findClass own = some m.cls) (pre : List ExceptionTableEntry) (x : ExceptionTableEntry) (suf : List ExceptionTableEntry) (hsplit : c.exceptionTable.toList = pre ++ x :: suf)
    (hpass : ∀ z ∈ pre, covers z pc = false ∨ (z.catchType ≠ 0 ∧ ∃ nm : String, (Cond.classLink own z.catchType nm).before args s = true ∧ va_Nc E nm s)) (hx : covers x pc = true) (h0 : x.catchType ≠ 0)
    (hlink : (Cond.classLink own x.catchType name).before args s = true) (hcast : (Cond.castable E name).before args s = true) (hcell : H[q]? = some ce) (hv : ce.vm = .none) (hcl : s.vm.findClass E = some ce.cls)
    (kk : W p l e R s m args below meth c H locs cells slots Q (F0 m x.handlerPc ls [.ref q])) : vx_W p l e R s m args below meth c H locs cells slots Q (F0 m pc ls rest) q := by
  intro T hT X
  have hpl : e.platform.magicAccessors = ({} : Platform).magicAccessors := by rw [X.admits.platform]
  obtain ⟨c3, c4, hc3, hc4, hasg⟩ := Cond.castable_spec hcast
  cases Option.some.inj (hc3.symm.trans hcl)
  obtain ⟨c5, hc5, hcl5⟩ := Cond.classLink_spec hown hlink e.platform hpl
  cases Option.some.inj (hc4.symm.trans hc5)
  obtain ⟨vm', X', st⟩ := X.thenCaughtThrough q (g := F0 m pc ls rest) rfl (Steps.refl _) (by rw [hT]; exact hcell) (by rw [hv]; rfl) (by obtain ⟨k9, h9, -⟩ := Vm.findClass_spec hcl; exact ⟨k9, h9⟩) pre x suf hsplit
    (fun z hz => by
      rcases hpass z hz with h | ⟨hz0, nm, hl1, hn1⟩
      · exact Or.inl h
      · obtain ⟨c6, hc6, hcl6⟩ := Cond.classLink_spec hown hl1 e.platform hpl
        obtain ⟨a8, b8, h1, h2, h3⟩ := hn1
        cases Option.some.inj (h1.symm.trans hcl)
        cases Option.some.inj (h2.symm.trans hc6)
        exact Or.inr ⟨hz0, _, hcl6, h3⟩) hx (Or.inr ⟨h0, c4, hcl5, hasg⟩)
  obtain ⟨t, a1, b1⟩ := kk (T.setVm vm') hT X'
  exact ⟨t, st.trans a1, b1⟩
end Rows
section Ends
variable {p : Program} {l : Launch} {e : Env} {R : Room} {s : State} {m : MethodId} {args : Array Value} {below : List Frame} {meth : Method} {c : Code} {H : Heap} {locs : List Loc} {cells slots : Nat} {Q : State → Prop}
variable {mc ms : Nat} {free : Addr → Prop} {A0 A1 : Nat → Prop} {H0 : Heap} {a : Array Value} {ls : Array Slot} {st0 rest : List Value}
variable {Qc : Array Value → State → Outcome → State → Prop} {XC : String → State → State → Prop}
/-- what a body that may throw owes at its end -/
def vx_MQ (below : List Frame) (Qc : Array Value → State → Outcome → State → Prop) (XC : String → State → State → Prop) (a : Array Value) (s : State) (mc ms : Nat) (free : Addr → Prop) : State → Prop := fun t =>
  ∃ o, t.status = .running ∧ Ended t below o ∧ vx_Q Qc XC mc ms free a s o t
theorem vx_ret {g : JFrame} {mc ms : Nat} (k : W p l e R s m args below meth c H locs cells slots (MQ below Qc args s mc ms free) g) : W p l e R s m args below meth c H locs cells slots (vx_MQ below Qc XC args s mc ms free) g := by
  intro T hT X
  obtain ⟨t, a1, o, b1, b2, b3, b4⟩ := k T hT X
  exact ⟨t, a1, o, b1, b2, Or.inl ⟨b3, b4⟩⟩
/-- not caught here: it goes on to the caller -/
theorem vx_widen {g : JFrame} {q : Addr} {k n : Nat} (h1 : cells ≤ k) (h2 : slots ≤ n) (kk : vx_W p l e R s m args below meth c H locs k n Q g q) : vx_W p l e R s m args below meth c H locs cells slots Q g q := fun T hT X => kk T hT (stand_widen X h1 h2)
theorem vx_out {pc : Nat} {E : String} {ce : Cell} {q : Addr} {mc ms : Nat} (hout : ∀ x ∈ c.exceptionTable.toList, covers x pc = false) (hlocks : meth.locks = false) (hcell : H[q]? = some ce) (hv : ce.vm = .none) (hcl : s.vm.findClass E = some ce.cls)
    (hx : ∀ t : State, t.heap = H → s.vm.Alike t.vm → XC E s t) (hf : ∀ z ∈ locs, free z.base) (hc : cells ≤ mc) (hs : slots ≤ ms) :
    vx_W p l e R s m args below meth c H locs cells slots (vx_MQ below Qc XC args s mc ms free) (F0 m pc ls rest) q := by
  intro T hT X
  obtain ⟨st1, hrun, hend, hW, hsm⟩ := X.leaveThrown q (g := F0 m pc ls rest) rfl rfl rfl hout hlocks
  have hcell9 : (T.setFrames (.throwing q :: below)).heap[q]? = some ce := by
    show T.heap[q]? = some ce
    rw [hT]; exact hcell
  exact ⟨_, st1, .threw q, hrun, hend, Or.inr ⟨q, rfl, E, ce, locs, hx _ hT hW.alike, hcell9, hv, hcl, hW, hsm.mono hc hs, hf⟩⟩
theorem vx_frame {U : State} {k n : Nat} (h : s.sameButNew ({ U with vm := s.vm } : State) locs k n) : s.heap.size ≤ U.heap.size ∧ ∀ q : Nat, q < s.heap.size → (∀ z ∈ locs, z.base ≠ q) → U.heap[q]? = s.heap[q]? := by
  obtain ⟨-, h2, -, -, -, h6⟩ := h
  refine ⟨h2, fun q hq hz => ?_⟩
  obtain ⟨c9, e1, e2, e3, e4⟩ := h6 q _ (Array.getElem?_eq_getElem hq)
  have hs : c9.slots = (s.heap[q]).slots := Array.ext_getElem? fun i => e4 i fun hm => hz _ hm rfl
  have h9 : c9 = s.heap[q] := by
    rw [hs] at e2
    exact e2
  have e5 : U.heap[q]? = some c9 := e1
  rw [e5, h9, Array.getElem?_eq_getElem hq]
/-- the words of a throw but the four that speak of the heap -/
def vx_no (w : Cond) : Bool := decide (w ≠ .isRef (.static Bundle.tN "UNASSIGNED_STACK" Bundle.steD)) && decide (w ≠ .isRef (.static Bundle.tN "SUPPRESSED_SENTINEL" Bundle.listD)) && decide (w ≠ .laysStatic Bundle.tN "UNASSIGNED_STACK" Bundle.steD) && decide (w ≠ .laysStatic Bundle.tN "SUPPRESSED_SENTINEL" Bundle.listD)
def vx_at0 (own : String) (ic : Nat) (X : String) (names : List String) : List Cond := (Bundle.ownAtoms0 own ic X names).filter vx_no
def vx_atS (own : String) (ic : Nat) (X : String) (names : List String) : List Cond := (Bundle.ownAtoms own ic X names).filter vx_no
/-- a word that the tables alone decide, or a good one -/
def vx_ot (w : Cond) : Bool := w.onTables || goodWord w
theorem vx_ot_at {args a' : Array Value} {s U : State} {w : Cond} (hW : s.WarmedH U.vm) (hvm : s.vm = U.vm) (hg : vx_ot w = true) (h : w.before args s = true) : w.before a' U = true := by
  simp only [vx_ot, Bool.or_eq_true] at hg
  rcases hg with hg | hg
  · exact va_tabs hg hvm h
  · exact word_at hW (good_of_word hg) h
/-- a list's words: the good ones out of the method's own list, the others by premises of their own -/
theorem vx_hat {args : Array Value} {s : State} {L B : List Cond} (h1 : ∀ w ∈ L.filter goodWord, w.before args s = true) (h2 : ∀ w ∈ L.filter (fun w => !goodWord w), w ∈ B) (h3 : ∀ w ∈ B, w.before args s = true) : ∀ w ∈ L, w.before args s = true := by
  intro w hw
  by_cases g : goodWord w = true
  · exact h1 w (List.mem_filter.mpr ⟨hw, g⟩)
  · refine h3 w (h2 w (List.mem_filter.mpr ⟨hw, ?_⟩))
    show (!goodWord w) = true
    cases hgw : goodWord w
    · rfl
    · exact absurd hgw g
theorem vx_c {args : Array Value} {s : State} {w : Cond} {B : List Cond} (h : w.before args s = true) (t : ∀ w ∈ B, w.before args s = true) : ∀ w' ∈ w :: B, w'.before args s = true := fun w' h' => (List.mem_cons.mp h').elim (fun e => by rw [e]; exact h) (t w')
theorem vx_n {args : Array Value} {s : State} : ∀ w ∈ ([] : List Cond), w.before args s = true := fun _ h => nomatch h
theorem vx_own {args : Array Value} {s : State} {L : List Cond} (h1 : ∀ w ∈ L.filter vx_no, w.before args s = true)
    (hU : (Cond.isRef (.static Bundle.tN "UNASSIGNED_STACK" Bundle.steD)).before args s = true) (hN : (Cond.isRef (.static Bundle.tN "SUPPRESSED_SENTINEL" Bundle.listD)).before args s = true)
    (lU : (Cond.laysStatic Bundle.tN "UNASSIGNED_STACK" Bundle.steD).before args s = true) (lN : (Cond.laysStatic Bundle.tN "SUPPRESSED_SENTINEL" Bundle.listD).before args s = true) : ∀ w ∈ L, w.before args s = true := by
  intro w hw
  by_cases e1 : w = .isRef (.static Bundle.tN "UNASSIGNED_STACK" Bundle.steD)
  · rw [e1]; exact hU
  · by_cases e2 : w = .isRef (.static Bundle.tN "SUPPRESSED_SENTINEL" Bundle.listD)
    · rw [e2]; exact hN
    · by_cases e3 : w = .laysStatic Bundle.tN "UNASSIGNED_STACK" Bundle.steD
      · rw [e3]; exact lU
      · by_cases e4 : w = .laysStatic Bundle.tN "SUPPRESSED_SENTINEL" Bundle.listD
        · rw [e4]; exact lN
        · exact h1 w (List.mem_filter.mpr ⟨hw, by unfold vx_no; rw [decide_eq_true e1, decide_eq_true e2, decide_eq_true e3, decide_eq_true e4]; rfl⟩)
/-- where a static field lies, its class's statics cell in H -/
def vx_L (C n d : String) (A : Nat → Prop) (U : State) (H : Heap) : Prop := ∃ (c : ClassId) (k : Class) (i : Nat) (f : Field) (a : Nat) (cell : Cell), U.vm.findClass C = some c ∧ U.fieldFound? C n d = some (c, k, i, f) ∧ f.isStatic = true ∧ k.statics = some a ∧ H[a]? = some cell ∧ cell.vm.isStatics = true ∧ cell.cls = c ∧ f.slot < cell.slots.size ∧ k.staticTypes[f.slot]? = some f.type ∧ ¬ A a
theorem vx_L.moved {C n d : String} {A : Nat → Prop} {u U : State} {H : Heap} (hvm : u.vm.Alike U.vm) (h : vx_L C n d A u H) : vx_L C n d A U H := by
  obtain ⟨c, k, i, f, a, cell, h1, h2, h3, h4, h5, h6, h7, h8, h9, h10⟩ := h
  obtain ⟨k', hi', he⟩ := State.fieldFound?_setVm hvm h2
  exact ⟨c, k', i, f, a, cell, by rw [hvm.findClass]; exact h1, hi', h3, by rw [he]; exact h4, h5, h6, h7, h8, by rw [he]; exact h9, h10⟩
theorem vx_L.kept {C n d : String} {A : Nat → Prop} {U : State} {H H1 : Heap} (h : vx_L C n d A U H) (hq : ∀ a : Nat, a < H.size → ¬ A a → H1[a]? = H[a]?) : vx_L C n d A U H1 := by
  obtain ⟨c, k, i, f, a, cell, h1, h2, h3, h4, h5, h6, h7, h8, h9, h10⟩ := h
  exact ⟨c, k, i, f, a, cell, h1, h2, h3, h4, by rw [hq a (Array.getElem?_eq_some_iff.mp h5).1 h10]; exact h5, h6, h7, h8, h9, h10⟩
theorem vx_L.narrow {C n d : String} {A B : Nat → Prop} {U : State} {H : Heap} (h : vx_L C n d A U H) (hAB : ∀ q, B q → A q) : vx_L C n d B U H := by
  obtain ⟨c, k, i, f, a, cell, h1, h2, h3, h4, h5, h6, h7, h8, h9, h10⟩ := h
  exact ⟨c, k, i, f, a, cell, h1, h2, h3, h4, h5, h6, h7, h8, h9, fun z => h10 (hAB _ z)⟩
theorem vx_L.word {C n d : String} {A : Nat → Prop} {s : State} {args : Array Value} (h : vx_L C n d A s s.heap) : (Cond.laysStatic C n d).before args s = true := by
  obtain ⟨c, k, i, f, a, cell, h1, h2, h3, h4, h5, h6, h7, h8, h9, -⟩ := h
  show (Cond.laysStatic C n d).holds args s none s [] = true
  exact Cond.laysStatic_of h1 h2 h3 h4 h5 h6 h7 h8 h9
/-- .. and what it holds: null or some reference -/
def vx_Zq (C n d : String) (A : Nat → Prop) (U : State) (H : Heap) : Prop := va_Zq C n d A U H ∧ vx_L C n d A U H
theorem vx_Zq.moved {C n d : String} {A : Nat → Prop} {u U : State} {H : Heap} (hvm : u.vm.Alike U.vm) (h : vx_Zq C n d A u H) : vx_Zq C n d A U H := ⟨va_Zq.moved hvm h.1, vx_L.moved hvm h.2⟩
theorem vx_Zq.kept {C n d : String} {A : Nat → Prop} {U : State} {H H1 : Heap} (h : vx_Zq C n d A U H) (hq : ∀ a : Nat, a < H.size → ¬ A a → H1[a]? = H[a]?) : vx_Zq C n d A U H1 := ⟨va_Zq.kept h.1 hq, vx_L.kept h.2 hq⟩
theorem vx_Zq.narrow {C n d : String} {A B : Nat → Prop} {U : State} {H : Heap} (h : vx_Zq C n d A U H) (hAB : ∀ q, B q → A q) : vx_Zq C n d B U H := ⟨va_Zq.narrow h.1 hAB, vx_L.narrow h.2 hAB⟩
theorem vx_Zqof {args : Array Value} {s : State} {C n d : String} {A : Nat → Prop} (hl : (Cond.laysStatic C n d).before args s = true) (hini : (Cond.initialized C).before args s = true) (h : (Cond.isRef (.static C n d)).before args s = true) (hA : ∀ a : Nat, a < s.heap.size → ¬ A a) : vx_Zq C n d A s s.heap := by
  refine ⟨va_Zqof hl hini h hA, ?_⟩
  obtain ⟨c, k, i, f, a, cell, h1, h2, h3, h4, h5, h6, h7, h8, h9⟩ := Cond.laysStatic_spec hl
  exact ⟨c, k, i, f, a, cell, h1, h2, h3, h4, h5, h6, h7, h8, h9, hA a (Array.getElem?_eq_some_iff.mp h5).1⟩
theorem vx_isRef {C n d : String} {v : Value} {A : Nat → Prop} {s : State} {args : Array Value} (h : va_Z C n d v A s s.heap) (hv : v.isRef = true) : (Cond.isRef (.static C n d)).before args s = true := by
  obtain ⟨cf, kf, fi, f, a, cell, h1, h2, h3, h4, h5, h6, h7, -⟩ := h
  have he : (Term.static C n d).eval args s none [] s = some v := by
    simp [Term.eval, State.fieldNamed?, h1, h2, h4, h5, h6, h7]
  simp only [Cond.before, Cond.holds, Cond.value, he]
  cases v <;> simp_all [Value.isRef]
theorem vx_isRefq {C n d : String} {A : Nat → Prop} {s : State} {args : Array Value} (h : va_Zq C n d A s s.heap) : (Cond.isRef (.static C n d)).before args s = true := by
  rcases h with h | ⟨t, h⟩
  · exact vx_isRef h rfl
  · exact vx_isRef h rfl
/-- the same frame, seen from here: as if the method were called anew in this heap -/
theorem vx_rebase {T : State} (X : Stand p l e R s m args below meth c T locs cells slots) {R' : Room} (hf : R'.frames ≤ R.frames) (hl : R'.locals ≤ R.locals) (hc : cells + R'.cells ≤ R.cells) (hs : slots + R'.slots ≤ R.slots) :
    Stand p l e R' ((T.setVm s.vm).setFrames (.invoking m args :: below)) m args below meth c T [] 0 0 := by
  have htop : (T.setVm s.vm).topJava?.isSome := X.here.top
  have hF : ((T.setVm s.vm).setFrames (.invoking m args :: below)).frames = .invoking m args :: below := State.frames_setFrames _ (State.cur_lt_of_top htop)
  obtain ⟨g₀, hg0⟩ := Option.isSome_iff_exists.mp htop
  obtain ⟨r, hr⟩ := State.topJava?_eq_some.mp hg0
  have hl9 : e.platform.stackLimits (T.setVm s.vm).me = e.platform.stackLimits s.me := X.limits
  have hb9 : (T.setVm s.vm).me.stackBytes = s.me.stackBytes := X.bytes
  refine ⟨X.admits, X.cas, X.clock, hF, ?_, X.hears, X.method, X.code, X.here, X.tail, X.warmed, ?_, ?_, ?_⟩
  · have h := X.room
    have hU : ((T.setVm s.vm).setFrames (.invoking m args :: below)).localsInUse = s.localsInUse := by
      rw [State.localsInUse_invoking hF (meth := meth) (c := c) X.method X.code, State.localsInUse_invoking X.frames X.method X.code]
    simp only [State.hasRoom, Bool.and_eq_true, decide_eq_true_eq] at h ⊢
    obtain ⟨⟨⟨⟨h1, h2, h3, h4, h5, h6⟩, h7⟩, h8⟩, h9⟩ := h
    rw [X.frames, List.length_cons] at h2 h3
    have q1 := X.heapSize
    have q2 := X.used
    simp only [hF, hU, List.length_cons, State.stackLimits_setFrames, State.stackBytes_setFrames, hl9, hb9]
    refine ⟨⟨⟨⟨by omega, by omega, by omega, by omega, by omega, h6⟩, ?_⟩, ?_⟩, X.book⟩
    · show T.heap.size + R'.cells ≤ e.platform.maxCells
      omega
    · show T.slotsUsed + R'.slots ≤ e.platform.maxSlots
      omega
  · rw [State.stackLimits_setFrames]; rfl
  · rw [State.stackBytes_setFrames]; rfl
  · refine ⟨?_, Nat.le_refl _, Nat.le_refl _, ?_, ?_, fun a c9 h9 => ⟨c9, h9, rfl, rfl, fun _ _ => rfl⟩⟩
    · obtain ⟨t, ht, -⟩ := State.frames_cons hr
      show T.setVm s.vm = { ((T.setVm s.vm).setFrames (.invoking m args :: below)).setFrames (T.setVm s.vm).frames with heap := T.heap, slotsUsed := T.slotsUsed }
      rw [State.setFrames_setFrames, State.setFrames_self ht]
      rfl
    · show T.slotsUsed = T.slotsUsed + ((T.heap.toList.drop T.heap.size).map (·.slots.size)).sum
      rw [List.drop_eq_nil_of_le (Nat.le_of_eq Array.length_toList)]
      rfl
    · show ((T.heap.toList.drop T.heap.size).map (·.slots.size)).sum ≤ 0
      rw [List.drop_eq_nil_of_le (Nat.le_of_eq Array.length_toList)]
      exact Nat.le_refl _
/-- 'throw new E()': new; dup; invokespecial; athrow -/
theorem vx_throw0 {cc : ByteArray} {pc : Nat} (hexec : p.tables.exec = Jvm.exec) (hb : c.code = cc) (hl : l.stackTraces = false) {own cls : String} {names : List String} {ik ic mc ms : Nat} {A : Nat → Prop}
    (hown : s.vm.findClass own = some m.cls) (hcls : Bundle.fit cls = true) (hnames : ∀ n ∈ names, Bundle.fit n = true)
    (hk : (Cond.classLink own ik cls).before args s = true) (hini : (Cond.initialized cls).before args s = true) (hat : ∀ w ∈ vx_at0 own ic cls names, w.before args s = true)
    (hgood : ∀ w ∈ Cond.classLink own ik cls :: Cond.initialized cls :: vx_at0 own ic cls names, vx_ot w = true)
    (hU : vx_Zq Bundle.tN "UNASSIGNED_STACK" Bundle.steD A s s.heap) (hN : vx_Zq Bundle.tN "SUPPRESSED_SENTINEL" Bundle.listD A s s.heap) (hS : va_S A s.heap H locs) (hsize : ls.size = c.maxLocals)
    (d0 : decode cc pc = .ok (.new ik, 3)) (d3 : decode cc (pc + 3) = .ok (.dup, 1)) (d4 : decode cc (pc + 4) = .ok (.invokespecial ic, 3)) (d7 : decode cc (pc + 7) = .ok (.athrow, 1))
    (hout : ∀ x ∈ c.exceptionTable.toList, covers x (pc + 7) = false)
    (hRframes : names.length + 3 < R.frames) (hRlocals : (rest.map fun v => v.category).sum + (13 * (names.length + 1) + 42) ≤ R.locals) (hRcells : cells + 1 ≤ R.cells) (hRslots : slots + 6 ≤ R.slots) (hlocks : meth.locks = false)
    (hx : ∀ t : State, s.vm.Alike t.vm → H.size ≤ t.heap.size → (∀ q : Nat, q < H.size → t.heap[q]? = H[q]?) → XC cls s t)
    (hf : ∀ z ∈ locs, free z.base) (hc : cells + 1 ≤ mc) (hs : slots + 6 ≤ ms) :
    W p l e R s m args below meth c H locs cells slots (vx_MQ below Qc XC args s mc ms free) (F0 m pc ls rest) := by
  intro T hT X
  have htr : e.platform.stackTraces = false := (show e.platform.stackTraces = l.stackTraces by rw [X.admits.platform]).trans hl
  have Y := vx_rebase X (R' := { frames := R.frames, locals := R.locals, cells := 1, slots := 6 }) (Nat.le_refl _) (Nat.le_refl _) hRcells hRslots
  obtain ⟨s', hA⟩ : ∃ z, z = (T.setVm s.vm).setFrames (.invoking m args :: below) := ⟨_, rfl⟩
  rw [← hA] at Y
  have hvm : s'.vm = s.vm := by rw [hA]; rfl
  have hhp : s'.heap = H := by rw [hA]; exact hT
  have hW0 : s.WarmedH s'.vm := by rw [hvm]; exact State.WarmedH.refl s
  have hat' : ∀ w ∈ vx_at0 own ic cls names, w.before args s' = true := fun w hw => vx_ot_at hW0 hvm.symm (hgood w (List.mem_cons_of_mem _ (List.mem_cons_of_mem _ hw))) (hat w hw)
  have hk' : (Cond.classLink own ik cls).before args s' = true := vx_ot_at hW0 hvm.symm (hgood _ List.mem_cons_self) hk
  have hini' : (Cond.initialized cls).before args s' = true := vx_ot_at hW0 hvm.symm (hgood _ (List.mem_cons_of_mem _ List.mem_cons_self)) hini
  have hU' : vx_Zq Bundle.tN "UNASSIGNED_STACK" Bundle.steD A s' s'.heap := by rw [hhp]; exact vx_Zq.moved hW0.alike (hU.kept hS.2.1)
  have hN' : vx_Zq Bundle.tN "SUPPRESSED_SENTINEL" Bundle.listD A s' s'.heap := by rw [hhp]; exact vx_Zq.moved hW0.alike (hN.kept hS.2.1)
  have h : ∀ w ∈ Bundle.ownAtoms0 own ic cls names, w.before args s' = true := vx_own hat' (vx_isRefq hU'.1) (vx_isRefq hN'.1) hU'.2.word hN'.2.word
  have hown' : s'.vm.findClass own = some m.cls := by rw [hvm]; exact hown
  have hins : (Cond.instantiable cls 6).before args s' = true := h _ (by simp [Bundle.ownAtoms0])
  obtain ⟨vm₁, cX, kX, hfX, hkX, -, -, X₁, st1⟩ := Y.newCold hexec (own := own) (C := cls) (index := ik) (n := 6) hown' hk' hins hini'
    (g := F0 m pc ls rest) rfl (by rw [hb]; exact d0) (Nat.le_refl _) (Nat.le_refl _)
  generalize hT1 : (T.setVm vm₁).pushCell { cls := cX, slots := kX.instanceTypes.map defaultValue, vm := .none } = T1 at X₁ st1
  have hcat : (Value.ref T.heap.size).category = 1 := rfl
  have hcellA : T1.heap[T.heap.size]? = some (freshCell cX kX) := by rw [← hT1]; exact State.heap_pushCell_size _ _
  have d3' : decode c.code (pc + 3) = .ok (.dup, 1) := by rw [hb]; exact d3
  obtain ⟨U, hsteps, hrun, hend, hW, hsame, ce, hce, hO⟩ := X₁.ctorThrow0 hexec htr (own := own) (cls := cls) (names := names) (ic := ic) hown' hcls hnames h (fun x hx => nomatch hx) hfX hkX hcellA (by rw [hhp, hT]; exact Nat.le_refl _)
    (g := { method := m, pc := pc + 4, locals := ls, stack := .ref T.heap.size :: .ref T.heap.size :: rest, locked := none }) rfl hsize rfl rfl (rest := rest) rfl
    (by rw [hb]; exact d4) (by rw [hb]; exact d7) hout hRframes (by simp only [List.map_cons, List.sum_cons, hcat]; omega) hlocks
  obtain ⟨f1, f2⟩ := vx_frame hsame
  rw [hhp] at f1 f2
  have hWs : s.WarmedH U.vm := State.WarmedH.trans hW0 hW
  have hcl : s.vm.findClass cls = some ce.cls := by
    have h9 := hO.cls
    rw [hvm] at h9
    exact h9
  have hall : s.sameButNew ({ U with vm := s.vm } : State) locs mc ms := by
    subst hA
    obtain ⟨e1, e2⟩ := hsame
    rw [State.setFrames_setFrames] at e1
    have h2 : (T.setVm s.vm).sameButNew ({ U with vm := s.vm } : State) [] (0 + 1) (0 + 6) := ⟨e1, e2⟩
    have h3 := X.same.trans h2
    rw [List.append_nil] at h3
    exact h3.mono hc hs
  refine ⟨U, ?_, .threw T.heap.size, hrun, hend, Or.inr ⟨T.heap.size, rfl, cls, ce, locs, hx U hWs.alike f1 (fun q hq => f2 q hq (fun z hz => nomatch hz)), hce, hO.vm, hcl, hWs, hall, hf⟩⟩
  refine st1 _ ?_
  show Steps p.tables e below (T1.setTop { method := m, pc := pc + 3, locals := ls, stack := .ref T.heap.size :: rest, locked := none }) _
  jvm_step X₁.here [X₁.here.top, hexec, d3', Value.category]
  exact hsteps
/-- 'throw new E("text")': new; dup; ldc; invokespecial; athrow -/
theorem vx_throwS {cc : ByteArray} {pc : Nat} (hexec : p.tables.exec = Jvm.exec) (hb : c.code = cc) (hl : l.stackTraces = false) {own cls text : String} {names : List String} {ik is ic mc ms sa : Nat} {A : Nat → Prop}
    (hown : s.vm.findClass own = some m.cls) (hcls : Bundle.fit cls = true) (hnames : ∀ n ∈ names, Bundle.fit n = true)
    (hk : (Cond.classLink own ik cls).before args s = true) (hini : (Cond.initialized cls).before args s = true) (hstr : vk_R own is text sa s) (hat : ∀ w ∈ vx_atS own ic cls names, w.before args s = true)
    (hgood : ∀ w ∈ Cond.classLink own ik cls :: Cond.initialized cls :: vx_atS own ic cls names, vx_ot w = true)
    (hU : vx_Zq Bundle.tN "UNASSIGNED_STACK" Bundle.steD A s s.heap) (hN : vx_Zq Bundle.tN "SUPPRESSED_SENTINEL" Bundle.listD A s s.heap) (hS : va_S A s.heap H locs) (hsize : ls.size = c.maxLocals)
    (d0 : decode cc pc = .ok (.new ik, 3)) (d3 : decode cc (pc + 3) = .ok (.dup, 1)) (d4 : decode cc (pc + 4) = .ok (.ldc is, 2)) (d6 : decode cc (pc + 6) = .ok (.invokespecial ic, 3)) (d9 : decode cc (pc + 9) = .ok (.athrow, 1))
    (hout : ∀ x ∈ c.exceptionTable.toList, covers x (pc + 9) = false)
    (hRframes : names.length + 3 < R.frames) (hRlocals : (rest.map fun v => v.category).sum + (13 * (names.length + 1) + 43) ≤ R.locals) (hRcells : cells + 1 ≤ R.cells) (hRslots : slots + 6 ≤ R.slots) (hlocks : meth.locks = false)
    (hx : ∀ t : State, s.vm.Alike t.vm → H.size ≤ t.heap.size → (∀ q : Nat, q < H.size → t.heap[q]? = H[q]?) → XC cls s t)
    (hf : ∀ z ∈ locs, free z.base) (hc : cells + 1 ≤ mc) (hs : slots + 6 ≤ ms) :
    W p l e R s m args below meth c H locs cells slots (vx_MQ below Qc XC args s mc ms free) (F0 m pc ls rest) := by
  intro T hT X
  have htr : e.platform.stackTraces = false := (show e.platform.stackTraces = l.stackTraces by rw [X.admits.platform]).trans hl
  have Y := vx_rebase X (R' := { frames := R.frames, locals := R.locals, cells := 1, slots := 6 }) (Nat.le_refl _) (Nat.le_refl _) hRcells hRslots
  obtain ⟨s', hA⟩ : ∃ z, z = (T.setVm s.vm).setFrames (.invoking m args :: below) := ⟨_, rfl⟩
  rw [← hA] at Y
  have hvm : s'.vm = s.vm := by rw [hA]; rfl
  have hhp : s'.heap = H := by rw [hA]; exact hT
  have hW0 : s.WarmedH s'.vm := by rw [hvm]; exact State.WarmedH.refl s
  have hat' : ∀ w ∈ vx_atS own ic cls names, w.before args s' = true := fun w hw => vx_ot_at hW0 hvm.symm (hgood w (List.mem_cons_of_mem _ (List.mem_cons_of_mem _ hw))) (hat w hw)
  have hk' : (Cond.classLink own ik cls).before args s' = true := vx_ot_at hW0 hvm.symm (hgood _ List.mem_cons_self) hk
  have hini' : (Cond.initialized cls).before args s' = true := vx_ot_at hW0 hvm.symm (hgood _ (List.mem_cons_of_mem _ List.mem_cons_self)) hini
  have hU' : vx_Zq Bundle.tN "UNASSIGNED_STACK" Bundle.steD A s' s'.heap := by rw [hhp]; exact vx_Zq.moved hW0.alike (hU.kept hS.2.1)
  have hN' : vx_Zq Bundle.tN "SUPPRESSED_SENTINEL" Bundle.listD A s' s'.heap := by rw [hhp]; exact vx_Zq.moved hW0.alike (hN.kept hS.2.1)
  have h : ∀ w ∈ Bundle.ownAtoms own ic cls names, w.before args s' = true := vx_own hat' (vx_isRefq hU'.1) (vx_isRefq hN'.1) hU'.2.word hN'.2.word
  have hown' : s'.vm.findClass own = some m.cls := by rw [hvm]; exact hown
  have hins : (Cond.instantiable cls 6).before args s' = true := h _ (by simp [Bundle.ownAtoms])
  obtain ⟨vm₁, cX, kX, hfX, hkX, -, -, X₁, st1⟩ := Y.newCold hexec (own := own) (C := cls) (index := ik) (n := 6) hown' hk' hins hini'
    (g := F0 m pc ls rest) rfl (by rw [hb]; exact d0) (Nat.le_refl _) (Nat.le_refl _)
  generalize hT1 : (T.setVm vm₁).pushCell { cls := cX, slots := kX.instanceTypes.map defaultValue, vm := .none } = T1 at X₁ st1
  have hcat : (Value.ref T.heap.size).category = 1 := rfl
  have hcellA : T1.heap[T.heap.size]? = some (freshCell cX kX) := by rw [← hT1]; exact State.heap_pushCell_size _ _
  have d3' : decode c.code (pc + 3) = .ok (.dup, 1) := by rw [hb]; exact d3
  have d4' : decode c.code (pc + 4) = .ok (.ldc is, 2) := by rw [hb]; exact d4
  have hstr' : vk_R own is text sa s' := vk_R.warm hW0 hstr
  obtain ⟨U, hsteps, hrun, hend, hW, hsame, ce, hce, hO⟩ := X₁.ctorThrowS hexec htr (own := own) (cls := cls) (names := names) (ic := ic) hown' hcls hnames h (fun x hx => nomatch hx) hfX hkX hcellA (by rw [hhp, hT]; exact Nat.le_refl _) (msg := .ref sa) rfl
    (g := { method := m, pc := pc + 6, locals := ls, stack := .ref sa :: .ref T.heap.size :: .ref T.heap.size :: rest, locked := none }) rfl hsize rfl rfl (rest := rest) rfl
    (by rw [hb]; exact d6) (by rw [hb]; exact d9) hout hRframes (by simp only [List.map_cons, List.sum_cons, hcat]; omega) hlocks
  obtain ⟨f1, f2⟩ := vx_frame hsame
  rw [hhp] at f1 f2
  have hWs : s.WarmedH U.vm := State.WarmedH.trans hW0 hW
  have hcl : s.vm.findClass cls = some ce.cls := by
    have h9 := hO.cls
    rw [hvm] at h9
    exact h9
  have hall : s.sameButNew ({ U with vm := s.vm } : State) locs mc ms := by
    subst hA
    obtain ⟨e1, e2⟩ := hsame
    rw [State.setFrames_setFrames] at e1
    have h2 : (T.setVm s.vm).sameButNew ({ U with vm := s.vm } : State) [] (0 + 1) (0 + 6) := ⟨e1, e2⟩
    have h3 := X.same.trans h2
    rw [List.append_nil] at h3
    exact h3.mono hc hs
  refine ⟨U, ?_, .threw T.heap.size, hrun, hend, Or.inr ⟨T.heap.size, rfl, cls, ce, locs, hx U hWs.alike f1 (fun q hq => f2 q hq (fun z hz => nomatch hz)), hce, hO.vm, hcl, hWs, hall, hf⟩⟩
  refine st1 _ ?_
  show Steps p.tables e below (T1.setTop { method := m, pc := pc + 3, locals := ls, stack := .ref T.heap.size :: rest, locked := none }) _
  jvm_step X₁.here [X₁.here.top, hexec, d3', Value.category]
  exact X₁.ldcString hexec (own := own) (text := text) (index := is) (a := sa) hown' hstr'.1 hstr'.2
    (g := { method := m, pc := pc + 4, locals := ls, stack := .ref T.heap.size :: .ref T.heap.size :: rest, locked := none }) rfl d4' _ hsteps
/-- 'throw new E("text")', the text by a wide index -/
theorem vx_throwSW {cc : ByteArray} {pc : Nat} (hexec : p.tables.exec = Jvm.exec) (hb : c.code = cc) (hl : l.stackTraces = false) {own cls text : String} {names : List String} {ik is ic mc ms sa : Nat} {A : Nat → Prop}
    (hown : s.vm.findClass own = some m.cls) (hcls : Bundle.fit cls = true) (hnames : ∀ n ∈ names, Bundle.fit n = true)
    (hk : (Cond.classLink own ik cls).before args s = true) (hini : (Cond.initialized cls).before args s = true) (hstr : vk_R own is text sa s) (hat : ∀ w ∈ vx_atS own ic cls names, w.before args s = true)
    (hgood : ∀ w ∈ Cond.classLink own ik cls :: Cond.initialized cls :: vx_atS own ic cls names, vx_ot w = true)
    (hU : vx_Zq Bundle.tN "UNASSIGNED_STACK" Bundle.steD A s s.heap) (hN : vx_Zq Bundle.tN "SUPPRESSED_SENTINEL" Bundle.listD A s s.heap) (hS : va_S A s.heap H locs) (hsize : ls.size = c.maxLocals)
    (d0 : decode cc pc = .ok (.new ik, 3)) (d3 : decode cc (pc + 3) = .ok (.dup, 1)) (d4 : decode cc (pc + 4) = .ok (.ldc_w is, 3)) (d7 : decode cc (pc + 7) = .ok (.invokespecial ic, 3)) (d10 : decode cc (pc + 10) = .ok (.athrow, 1))
    (hout : ∀ x ∈ c.exceptionTable.toList, covers x (pc + 10) = false)
    (hRframes : names.length + 3 < R.frames) (hRlocals : (rest.map fun v => v.category).sum + (13 * (names.length + 1) + 43) ≤ R.locals) (hRcells : cells + 1 ≤ R.cells) (hRslots : slots + 6 ≤ R.slots) (hlocks : meth.locks = false)
    (hx : ∀ t : State, s.vm.Alike t.vm → H.size ≤ t.heap.size → (∀ q : Nat, q < H.size → t.heap[q]? = H[q]?) → XC cls s t)
    (hf : ∀ z ∈ locs, free z.base) (hc : cells + 1 ≤ mc) (hs : slots + 6 ≤ ms) :
    W p l e R s m args below meth c H locs cells slots (vx_MQ below Qc XC args s mc ms free) (F0 m pc ls rest) := by
  intro T hT X
  have htr : e.platform.stackTraces = false := (show e.platform.stackTraces = l.stackTraces by rw [X.admits.platform]).trans hl
  have Y := vx_rebase X (R' := { frames := R.frames, locals := R.locals, cells := 1, slots := 6 }) (Nat.le_refl _) (Nat.le_refl _) hRcells hRslots
  obtain ⟨s', hA⟩ : ∃ z, z = (T.setVm s.vm).setFrames (.invoking m args :: below) := ⟨_, rfl⟩
  rw [← hA] at Y
  have hvm : s'.vm = s.vm := by rw [hA]; rfl
  have hhp : s'.heap = H := by rw [hA]; exact hT
  have hW0 : s.WarmedH s'.vm := by rw [hvm]; exact State.WarmedH.refl s
  have hat' : ∀ w ∈ vx_atS own ic cls names, w.before args s' = true := fun w hw => vx_ot_at hW0 hvm.symm (hgood w (List.mem_cons_of_mem _ (List.mem_cons_of_mem _ hw))) (hat w hw)
  have hk' : (Cond.classLink own ik cls).before args s' = true := vx_ot_at hW0 hvm.symm (hgood _ List.mem_cons_self) hk
  have hini' : (Cond.initialized cls).before args s' = true := vx_ot_at hW0 hvm.symm (hgood _ (List.mem_cons_of_mem _ List.mem_cons_self)) hini
  have hU' : vx_Zq Bundle.tN "UNASSIGNED_STACK" Bundle.steD A s' s'.heap := by rw [hhp]; exact vx_Zq.moved hW0.alike (hU.kept hS.2.1)
  have hN' : vx_Zq Bundle.tN "SUPPRESSED_SENTINEL" Bundle.listD A s' s'.heap := by rw [hhp]; exact vx_Zq.moved hW0.alike (hN.kept hS.2.1)
  have h : ∀ w ∈ Bundle.ownAtoms own ic cls names, w.before args s' = true := vx_own hat' (vx_isRefq hU'.1) (vx_isRefq hN'.1) hU'.2.word hN'.2.word
  have hown' : s'.vm.findClass own = some m.cls := by rw [hvm]; exact hown
  have hins : (Cond.instantiable cls 6).before args s' = true := h _ (by simp [Bundle.ownAtoms])
  obtain ⟨vm₁, cX, kX, hfX, hkX, -, -, X₁, st1⟩ := Y.newCold hexec (own := own) (C := cls) (index := ik) (n := 6) hown' hk' hins hini'
    (g := F0 m pc ls rest) rfl (by rw [hb]; exact d0) (Nat.le_refl _) (Nat.le_refl _)
  generalize hT1 : (T.setVm vm₁).pushCell { cls := cX, slots := kX.instanceTypes.map defaultValue, vm := .none } = T1 at X₁ st1
  have hcat : (Value.ref T.heap.size).category = 1 := rfl
  have hcellA : T1.heap[T.heap.size]? = some (freshCell cX kX) := by rw [← hT1]; exact State.heap_pushCell_size _ _
  have d3' : decode c.code (pc + 3) = .ok (.dup, 1) := by rw [hb]; exact d3
  have d4' : decode c.code (pc + 4) = .ok (.ldc_w is, 3) := by rw [hb]; exact d4
  have hstr' : vk_R own is text sa s' := vk_R.warm hW0 hstr
  obtain ⟨U, hsteps, hrun, hend, hW, hsame, ce, hce, hO⟩ := X₁.ctorThrowS hexec htr (own := own) (cls := cls) (names := names) (ic := ic) hown' hcls hnames h (fun x hx => nomatch hx) hfX hkX hcellA (by rw [hhp, hT]; exact Nat.le_refl _) (msg := .ref sa) rfl
    (g := { method := m, pc := pc + 7, locals := ls, stack := .ref sa :: .ref T.heap.size :: .ref T.heap.size :: rest, locked := none }) rfl hsize rfl rfl (rest := rest) rfl
    (by rw [hb]; exact d7) (by rw [hb]; exact d10) hout hRframes (by simp only [List.map_cons, List.sum_cons, hcat]; omega) hlocks
  obtain ⟨f1, f2⟩ := vx_frame hsame
  rw [hhp] at f1 f2
  have hWs : s.WarmedH U.vm := State.WarmedH.trans hW0 hW
  have hcl : s.vm.findClass cls = some ce.cls := by
    have h9 := hO.cls
    rw [hvm] at h9
    exact h9
  have hall : s.sameButNew ({ U with vm := s.vm } : State) locs mc ms := by
    subst hA
    obtain ⟨e1, e2⟩ := hsame
    rw [State.setFrames_setFrames] at e1
    have h2 : (T.setVm s.vm).sameButNew ({ U with vm := s.vm } : State) [] (0 + 1) (0 + 6) := ⟨e1, e2⟩
    have h3 := X.same.trans h2
    rw [List.append_nil] at h3
    exact h3.mono hc hs
  refine ⟨U, ?_, .threw T.heap.size, hrun, hend, Or.inr ⟨T.heap.size, rfl, cls, ce, locs, hx U hWs.alike f1 (fun q hq => f2 q hq (fun z hz => nomatch hz)), hce, hO.vm, hcl, hWs, hall, hf⟩⟩
  refine st1 _ ?_
  show Steps p.tables e below (T1.setTop { method := m, pc := pc + 3, locals := ls, stack := .ref T.heap.size :: rest, locked := none }) _
  jvm_step X₁.here [X₁.here.top, hexec, d3', Value.category]
  exact X₁.ldcStringW hexec (own := own) (text := text) (index := is) (a := sa) hown' hstr'.1 hstr'.2
    (g := { method := m, pc := pc + 4, locals := ls, stack := .ref T.heap.size :: .ref T.heap.size :: rest, locked := none }) rfl d4' _ hsteps
end Ends
section Bodies
variable {l : Launch}
theorem vx_ofW {y : MethodName} {ws ws' : List Cond} {rm : Room} {Pc : Array Value → State → Prop} {Qc : Array Value → State → Outcome → State → Prop} {XC : String → State → State → Prop} {mc ms : Nat} {free : Addr → Prop} {cc : ByteArray} {maxL : Nat} {ret : Option FieldType}
    (hy : plainName y.cls = true) (hw : ws = Cond.code y cc maxL ret :: ws')
    (body : ∀ p e s m args below meth c s₁, BodyLoose p l y (headSpec ws rm) cc maxL ret e s m args below meth c s₁ → c.maxLocals = maxL → (∀ x ∈ c.exceptionTable.toList, False) → Pc args s →
      W p l e (headSpec ws rm).room s m args below meth c s.heap [] 0 0 (vx_MQ below Qc XC args s mc ms free) (entryFrame m args maxL)) : vx_Met l y ws rm Pc Qc XC mc ms free := by
  refine MetFree.of_bodyS (code := cc) (maxLocals := maxL) (ret := ret) hy ?_ ?_
  · intro args s m h hn
    obtain ⟨meth, c, h1, h2, h3, h4, h5, h6, -, -⟩ := Cond.code_spec hn (atoms_spec (ws := ws) h _ (by rw [hw]; exact List.mem_cons_self))
    exact ⟨meth, c, h1, h2, h3, h4, h5, h6⟩
  · intro p e s m args below meth c s₁ B hml hP _
    have hh0 : s₁.heap = s.heap := by rw [B.state]; rfl
    have ht : ∀ x ∈ c.exceptionTable.toList, False := by
      obtain ⟨meth9, c9, h1, h2, -, -, -, -, h7, -⟩ := Cond.code_spec B.named (atoms_spec (ws := ws) B.pre _ (by rw [hw]; exact List.mem_cons_self))
      cases Option.some.inj (h1.symm.trans B.method)
      cases Option.some.inj (h2.symm.trans (Stand.of_body B).code)
      intro x hx
      rw [Array.isEmpty_iff.mp h7] at hx
      cases hx
    obtain ⟨t, a1, o, b1, b2, b3⟩ := body p e s m args below meth c s₁ B hml ht hP s₁ hh0 (Stand.of_body B)
    exact ⟨t, o, a1, b1, b2, b3⟩
/-- the table of a body with handlers -/
theorem vx_table {p : Program} {x y : MethodName} {S : Spec} {cc bytes : ByteArray} {maxL maxL' : Nat} {ret ret' : Option FieldType} {e : Env} {s s₁ : State} {m : MethodId} {args : Array Value} {below : List Frame} {meth : Method} {c : Code} {hh : List (Nat × Nat × Nat × Nat)}
    (B : BodyLoose p l y S cc maxL ret e s m args below meth c s₁) (h : (Cond.codeWith y bytes maxL' ret' hh).before args s = true) : c.exceptionTable.toList = tableOf hh := by
  obtain ⟨m9, meth9, c9, hn9, h1, h2, -, -, h6, -⟩ := Cond.codeWith_spec h
  cases Option.some.inj (hn9.symm.trans B.named)
  cases Option.some.inj (h1.symm.trans B.method)
  cases Option.some.inj (h2.symm.trans (Stand.of_body B).code)
  rw [← h6, table_eq]
end Bodies
end VXA
/-! ===== END ===== -/
/-! ===== BEGIN a static call of a method with an exception table ===== -/
section VXS
variable {p : Program} {l : Launch} {e : Env} {R : Room} {s : State} {m : MethodId} {args : Array Value} {below : List Frame} {meth : Method} {c : Code} {T : State} {H : Heap} {locs : List Loc} {cells slots : Nat}
abbrev vx_CSW (R : Room) (s : State) (args : Array Value) (own : String) (index : Nat) (y : MethodName) (bytes : ByteArray) (maxL : Nat) (ret : Option FieldType) (hh : List (Nat × Nat × Nat × Nat)) (ws : List Cond) (rm : Room) (mc ms n : Nat) : Prop :=
  (rm.cells = mc ∧ rm.slots = ms ∧ rm.frames + 1 ≤ R.frames ∧ 8 + (maxL + 11) + rm.locals ≤ R.locals ∧ (∀ w ∈ ws, ∀ (a' : Array Value) (U : State), s.WarmedH U.vm → w.before a' U = true) ∧ Cond.codeWith y bytes maxL ret hh ∈ ws) ∧
  (Cond.codeWith y bytes maxL ret hh).before args s = true ∧ (Cond.initialized y.cls).before args s = true ∧ (y.cls ≠ "java/lang/invoke/MethodHandle" ∧ y.cls ≠ "java/lang/invoke/VarHandle") ∧
  (∀ sig, parseMethodDescriptor y.desc = some sig → n = sig.parameters.length) ∧ (Cond.methodLink own index y).before args s = true ∧ (Cond.static y).before args s = true
theorem vx_cwSW {own : String} {index maxL mc ms : Nat} {y : MethodName} {bytes : ByteArray} {ret : Option FieldType} {hh : List (Nat × Nat × Nat × Nat)} {Ts ws ws' : List Cond} {rm : Room} (n : Nat) (ht : ∀ w ∈ Ts, w.before args s = true) (hT : GoodIn Ts (va_wsS own index y ws)) (hw : ws = Cond.codeWith y bytes maxL ret hh :: ws') (hrc : rm.cells = mc) (hrs : rm.slots = ms)
    (hd : y.cls ≠ "java/lang/invoke/MethodHandle" ∧ y.cls ≠ "java/lang/invoke/VarHandle" ∧ (parseMethodDescriptor y.desc).map (fun d => d.parameters.length) = some n) (hR : rm.frames + 1 ≤ R.frames ∧ 8 + (maxL + 11) + rm.locals ≤ R.locals) :
    vx_CSW R s args own index y bytes maxL ret hh ws rm mc ms n := by
  have ok : ∀ w ∈ va_wsS own index y ws, w.before args s = true := fun w h => ht w (hT w h).1
  have hG : GoodIn Ts ws := fun w h => hT w (by unfold va_wsS; exact List.mem_append_right _ h)
  have hc : Cond.codeWith y bytes maxL ret hh ∈ ws := by rw [hw]; exact List.mem_cons_self
  refine ⟨⟨hrc, hrs, hR.1, hR.2, pay_in ht hG, hc⟩, ht _ (hG _ hc).1, ok _ (by simp [va_wsS]), ⟨hd.1, hd.2.1⟩, fun sig h => ?_, ok _ (by simp [va_wsS]), ok _ (by simp [va_wsS])⟩
  have h2 := hd.2.2
  rw [h] at h2
  exact (Option.some.inj h2).symm
theorem vx_callSW (X : Stand p l e R s m args below meth c T locs cells slots) (hexec : p.tables.exec = Jvm.exec) {own : String} {index : Nat} {y : MethodName} {bytes : ByteArray} {maxL : Nat} {ret : Option FieldType} {hh : List (Nat × Nat × Nat × Nat)}
    (hown : s.vm.findClass own = some m.cls) (hlink : (Cond.methodLink own index y).before args s = true) (hstat : (Cond.static y).before args s = true) (hinit : (Cond.initialized y.cls).before args s = true)
    (hcode : (Cond.codeWith y bytes maxL ret hh).before args s = true) (hy : y.cls ≠ "java/lang/invoke/MethodHandle" ∧ y.cls ≠ "java/lang/invoke/VarHandle")
    {W9 : Nat} {Pre : Pt → Array Value → Prop} {Post : Pt → Array Value → Option Value → Pt → Prop} (hK : Back l R p e below s args y 3 W9 Pre Post)
    {g : JFrame} (hg : g.method = m) (hsize : g.locals.size = c.maxLocals) {argsL rest : List Value} (hlen : ∀ sig, parseMethodDescriptor y.desc = some sig → argsL.length = sig.parameters.length)
    (hstack : g.stack = argsL.reverse ++ rest) (hW : 2 * g.monitorRoom + (rest.map fun v => v.category).sum ≤ W9) (hdg : decode c.code g.pc = .ok (.invokestatic index, 3))
    (hpre : ∀ vm₁, s.WarmedH vm₁ → Pre ⟨T.setVm vm₁, locs, cells, slots⟩ argsL.toArray) :
    ∃ (v : Option Value) (vm₁ : Vm) (B : Pt), s.WarmedH vm₁ ∧ Stand p l e R s m args below meth c B.U B.locs B.cells B.slots ∧ Post ⟨T.setVm vm₁, locs, cells, slots⟩ argsL.toArray v B ∧
      ∀ target, Steps p.tables e below (B.U.setTop { g with pc := g.pc + 3, stack := v.toList ++ rest }) target → Steps p.tables e below (T.setTop g) target := by
  obtain ⟨mk, methM, cM, hnamed, hmethM, -, -, -, -, -, -, hsigM⟩ := Cond.codeWith_spec hcode
  have hstatic : methM.isStatic = true := Cond.static_spec hnamed hmethM hstat
  obtain ⟨kP, hkP, -⟩ := className_of_methodNamed hnamed
  have hinitP : kP.init = .initialized := Cond.initialized_spec (findClass_of_methodNamed hnamed) hkP hinit
  obtain ⟨vm₁, X₁, hstep₁⟩ := X.invokestatic hexec hown hlink hnamed hmethM hstatic hkP hinitP hy (g := g) hg (argsL := argsL) (rest := rest) (hlen _ hsigM) hstack hdg
  obtain ⟨v, B, X', hpost, hsteps⟩ := hK m meth c ⟨T.setVm vm₁, locs, cells, slots⟩ { g with stack := rest } (.invokestatic index) mk argsL.toArray X₁ hg hsize hdg hW (X₁.named hnamed) (hpre vm₁ X₁.warmed)
  exact ⟨v, vm₁, B, X₁.warmed, X', hpost, fun target h => hstep₁ _ fun acts => by rw [doInvoke_state]; exact hsteps.trans h⟩
theorem vx_runSW {y : MethodName} {bytes cc : ByteArray} {maxL nL mc ms n index : Nat} {ret : Option FieldType} {hh : List (Nat × Nat × Nat × Nat)} {ws : List Cond} {rm : Room} {Pc : Array Value → State → Prop} {Qc : Array Value → State → Outcome → State → Prop} {free : Addr → Prop} {Ts : List Cond} {own : String} {As rest : List Value} {g : JFrame}
    (S : CallFix p m c cc nL s args Ts own) (hM : Met l y ws rm Pc Qc mc ms free) (cw : vx_CSW R s args own index y bytes maxL ret hh ws rm mc ms n) (hp : PreS s H Pc As)
    (hg : g.method = m) (hn : As.length = n) (hsize : g.locals.size = nL) (hstack : g.stack = As.reverse ++ rest) (hW : 2 * g.monitorRoom + (rest.map fun v => v.category).sum ≤ 8) (hdg : decode cc g.pc = .ok (.invokestatic index, 3)) (hf : cells + mc ≤ R.cells ∧ slots + ms ≤ R.slots) :
    va_Run p l e R s m args below meth c H locs cells slots mc ms g rest (Qc As.toArray) (free) := by
  obtain ⟨⟨hrc, hrs, hfr, hlo, hws, hcw⟩, hcode, hini, hy, hlen, hl, hstt⟩ := cw
  have hK : Back l R p e below s args y 3 8 (PreOf R mc ms Pc) (PostOf Qc mc ms free) := va_backW (hh := hh) (bytes := bytes) (maxL := maxL) (ret := ret) hM hp.1 hrc hrs hfr hlo hws hcw (fun a' U hW => word_at hW (Or.inl (by first | rfl | simp [Cond.onTables, Cond.keeps, Cond.steady])) hini)
  obtain ⟨hx, hb, hml, ho, -⟩ := S
  intro T hT X
  obtain ⟨v, vm₁, ⟨U', l2, c2, s2⟩, hW₁, X', ⟨g', mk, t, L, e1, e2, hq, h1, hL, h2, h3⟩, st⟩ := vx_callSW X hx (hh := hh) (bytes := bytes) (maxL := maxL) (ret := ret) ho hl hstt hini hcode hy hK hg (hsize.trans hml.symm) (argsL := As) (rest := rest) (fun sig h => hn.trans (hlen sig h)) hstack hW (by rw [hb]; exact hdg)
    (fun vm₁ hW₁ => ⟨hf.1, hf.2, hp.2 (T.setVm vm₁) hT hW₁⟩)
  dsimp only [Pt.U, Pt.locs, Pt.cells, Pt.slots] at X' e1 e2 h1 h2 h3 st
  subst h1; subst h2; subst h3
  exact ⟨v, (T.setVm vm₁).calling g' mk As.toArray, t, U', L, hT, X', hL, e1, e2, hq, st⟩
/-- not caught here, past rows that name other classes: it goes on to the caller -/
theorem vx_outP {p : Program} {l : Launch} {e : Env} {R : Room} {s : State} {m : MethodId} {args : Array Value} {below : List Frame} {meth : Method} {c : Code} {H : Heap} {locs : List Loc} {cells slots : Nat} {free : Addr → Prop} {ls : Array Slot} {rest : List Value} {Qc : Array Value → State → Outcome → State → Prop} {XC : String → State → State → Prop}
    {pc : Nat} {own E : String} {ce : Cell} {q : Addr} {mc ms : Nat} (hown : s.vm.findClass own = some m.cls) (hlocks : meth.locks = false)
    (hpass : ∀ z ∈ c.exceptionTable.toList, covers z pc = false ∨ (z.catchType ≠ 0 ∧ ∃ nm : String, (Cond.classLink own z.catchType nm).before args s = true ∧ va_Nc E nm s)) (hcell : H[q]? = some ce) (hv : ce.vm = .none) (hcl : s.vm.findClass E = some ce.cls)
    (hx : ∀ t : State, t.heap = H → s.vm.Alike t.vm → XC E s t) (hf : ∀ z ∈ locs, free z.base) (hc : cells ≤ mc) (hs : slots ≤ ms) :
    vx_W p l e R s m args below meth c H locs cells slots (vx_MQ below Qc XC args s mc ms free) (F0 m pc ls rest) q := by
  intro T hT X
  have hpl : e.platform.magicAccessors = ({} : Platform).magicAccessors := by rw [X.admits.platform]
  obtain ⟨vm', hW', X', st⟩ := X.outThrough hlocks q (g := F0 m pc ls rest) rfl rfl rfl (cell := ce) (by rw [hT]; exact hcell) (by rw [hv]; rfl)
    (by obtain ⟨k9, h9, -⟩ := Vm.findClass_spec hcl; exact ⟨k9, h9⟩) (fun z hz => by
      rcases hpass z hz with h | ⟨hz0, nm, hl1, hn1⟩
      · exact Or.inl h
      · obtain ⟨c6, hc6, hcl6⟩ := Cond.classLink_spec hown hl1 e.platform hpl
        obtain ⟨a8, b8, h1, h2, h3⟩ := hn1
        cases Option.some.inj (h1.symm.trans hcl)
        cases Option.some.inj (h2.symm.trans hc6)
        exact Or.inr ⟨hz0, _, hcl6, h3⟩)
  obtain ⟨g₀, hfr⟩ := X'.frames_eq
  have hcell9 : ((T.setVm vm').setFrames (.throwing q :: below)).heap[q]? = some ce := by
    show T.heap[q]? = some ce
    rw [hT]; exact hcell
  have hend : Ended ((T.setVm vm').setFrames (.throwing q :: below)) below (.threw q) := State.frames_setFrames _ (State.cur_lt_of_frames hfr)
  refine ⟨(T.setVm vm').setFrames (.throwing q :: below), ?_, .threw q, X'.here.running, hend, Or.inr ⟨q, rfl, E, ce, locs, hx _ hT (X'.ends _).1.alike, hcell9, hv, hcl, (X'.ends _).1, (X'.ends _).2.mono hc hs, hf⟩⟩
  rw [X.pushThrowing_eq]
  exact st
/-- a thing of a world lies in the heap -/
theorem vx_lt {D : va_G} {cl : List vw_C} {ws : va_W} {H1 : Heap} (h : va_P D cl ws H1) {k : Nat} {q : Nat × va_E} (hk : ws[k]? = some q) : q.1 < H1.size := (h k q hk).lt
end VXS
/-! ===== END ===== -/
/-! ===== BEGIN methods with a table of their own: called by a name, returning or throwing ===== -/
section VXH
/-! vx_backW, vx_callVX, vx_callSX, vx_callVW, vx_runVW, vx_runVX, vx_runSX, vx_ofWH follow the same proofs as their sisters above (Free/Laws.lean, Shelf42/LK1.lean); vx_outP calls Shelf42/NT130.lean (outThrough). -/
section
variable {l : Launch} {R : Room} {p : Program} {e : Env} {below : List Frame} {s : State} {sargs : Array Value} {y : MethodName} {len W9 : Nat}
theorem vx_backW {ws : List Cond} {rm : Room} {Pc : Array Value → State → Prop} {Qc : Array Value → State → Outcome → State → Prop} {XC : String → State → State → Prop} {mc ms : Nat} {free : Addr → Prop} {bytes : ByteArray} {maxL : Nat} {ret : Option FieldType} {hh : List (Nat × Nat × Nat × Nat)}
    (hM : vx_Met l y ws rm Pc Qc XC mc ms free) (hblind : FrameBlind Pc) (hrc : rm.cells = mc) (hrs : rm.slots = ms)
    (hframes : rm.frames + 1 ≤ R.frames) (hlocals : W9 + (maxL + 11) + rm.locals ≤ R.locals)
    (hws : ∀ w ∈ ws, ∀ a' U, s.WarmedH U.vm → w.before a' U = true) (hcode : Cond.codeWith y bytes maxL ret hh ∈ ws) (hinit : ∀ a' U, s.WarmedH U.vm → (Cond.initialized y.cls).before a' U = true) :
    vx_Back l R p e below s sargs y len W9 (PreOf R mc ms Pc) (PostOf Qc mc ms free) (vx_Post XC mc ms free) := by
  intro m meth c A g ig mk a X hg hsize hdg hW hn hp
  have h1 : (headSpec ws rm).pre.before a A.U = true := atoms_intro fun w hw => hws w hw _ _ X.warmed
  have h2 : (Cond.codeWith y bytes maxL ret hh).before a A.U = true := hws _ hcode _ _ X.warmed
  have h3 : (Cond.initialized y.cls).before a A.U = true := hinit _ _ X.warmed
  have h4 : A.cells + (headSpec ws rm).room.cells ≤ R.cells := by rw [show (headSpec ws rm).room.cells = mc from hrc]; exact hp.1
  have h5 : A.slots + (headSpec ws rm).room.slots ≤ R.slots := by rw [show (headSpec ws rm).room.slots = ms from hrs]; exact hp.2.1
  have hPc : Pc a (A.U.calling g mk a) := hblind _ _ _ _ hp.2.2
  obtain ⟨U, Ls, c0, s0⟩ := A
  dsimp only [Pt.U, Pt.locs, Pt.cells, Pt.slots] at h1 h2 h3 h4 h5 X hn hPc ⊢
  obtain ⟨m9, methY, cY, hn9, hmY, hcY, -, hlY, -⟩ := Cond.codeWith_spec h2
  cases Option.some.inj (hn9.symm.trans hn)
  obtain ⟨kY, hkY, -⟩ := className_of_methodNamed hn
  have hinitY : kY.init = .initialized := Cond.initialized_spec (findClass_of_methodNamed hn) hkY h3
  have h : At U g.method c below := by rw [hg]; exact X.here
  have hlocals9 : W9 + (maxL + 11) + (headSpec ws rm).room.locals ≤ R.locals := hlocals
  have happ : (headSpec ws rm).appliesLoose y e.platform (U.calling g mk a) = true :=
    Spec.appliesLoose_calling (g := g) h hdg hn hkY hinitY
      (X.room_calling (g := g) (R' := (headSpec ws rm).room) hsize hmY hcY hframes (by rw [hlY]; omega) h4 h5) h1
  obtain ⟨mid, hmid⟩ := h.above
  have hfr : (U.setTop g).frames = (.java g :: mid) ++ below := by rw [State.frames_setTop' g h.top, hmid]; rfl
  obtain ⟨o, s₂, hsteps, -, hend, hq⟩ := Steps.callFree hM p X.admits X.cas X.clock (acts := []) hfr happ hPc trivial
  have hq' : vx_Q Qc XC mc ms free a (U.calling g mk a) o s₂ := hq
  rw [State.frames_setTop' g h.top] at hend
  obtain ⟨g₀, hg0⟩ := Option.isSome_iff_exists.mp h.top
  obtain ⟨r, hr⟩ := State.topJava?_eq_some.mp hg0
  have hr' : (({ U with heap := s₂.heap, slotsUsed := s₂.slotsUsed } : State).setVm s₂.vm).frames = .java g₀ :: r := hr
  rcases hq' with ⟨hqc, L, hfe, hL⟩ | ⟨q, rfl, E, ce, L, hx, hce, hcv, hcl, hW₂, hsm, hL⟩
  · obtain ⟨⟨v, rfl⟩, hW₂, e2, q2, q3, q4, q5, q6⟩ := id hfe
    have e3 : s₂ = ({ (U.calling g mk a).setFrames s₂.frames with heap := s₂.heap, slotsUsed := s₂.slotsUsed } : State).setVm s₂.vm := by
      have : s₂ = ({ s₂ with vm := (U.calling g mk a).vm } : State).setVm s₂.vm := rfl
      rw [e2] at this
      exact this
    obtain ⟨c₂, i₂, len₂, hc₂, hd₂, hf₂⟩ := hend
    have hW' : U.WarmedH s₂.vm := hW₂
    have hcc : c₂ = c := by
      have h1 : s₂.code? g.method = U.code? g.method := by
        rw [State.code?_eq, State.code?_eq, hW'.alike.method?]
      exact Option.some.inj (hc₂.symm.trans (h1.trans h.code))
    subst hcc
    have hlen : len₂ = len := by rw [hdg] at hd₂; cases hd₂; rfl
    subst hlen
    have hs₂ : s₂ = (({ U with heap := s₂.heap, slotsUsed := s₂.slotsUsed } : State).setVm s₂.vm).setTop { g with pc := g.pc + len₂, stack := v.toList ++ g.stack } := by
      refine e3.trans ?_
      rw [hf₂, State.calling_eq h.top, State.setFrames_setFrames, State.setTop_of_frames _ hr', hr]
      rfl
    have hsame : U.sameButNew ({ U with heap := s₂.heap, slotsUsed := s₂.slotsUsed } : State) L mc ms := by
      refine ⟨?_, q2, q3, q4, q5, q6⟩
      obtain ⟨t, ht, -⟩ := State.frames_cons hr
      show ({ U with heap := s₂.heap, slotsUsed := s₂.slotsUsed } : State) = { U.setFrames U.frames with heap := s₂.heap, slotsUsed := s₂.slotsUsed }
      rw [State.setFrames_self ht]
    subst hg
    refine Or.inl ⟨v, ⟨(({ U with heap := s₂.heap, slotsUsed := s₂.slotsUsed } : State).setVm s₂.vm), Ls ++ L, c0 + mc, s0 + ms⟩,
      ⟨X.admits, X.cas, X.clock, X.frames, X.room, X.hears, X.method, X.code, (X.here.setHeapUsed s₂.heap s₂.slotsUsed).setVm hW'.alike, X.tail, State.WarmedH.trans X.warmed hW', X.limits, X.bytes, X.same.trans (hsame.setVm s.vm)⟩,
      ⟨g, mk, s₂, L, rfl, rfl, hqc, rfl, hL, rfl, rfl⟩, ?_⟩
    show Steps p.tables e below _ ((({ U with heap := s₂.heap, slotsUsed := s₂.slotsUsed } : State).setVm s₂.vm).setTop { g with pc := g.pc + len₂, stack := v.toList ++ g.stack })
    rw [← hs₂]
    exact hsteps
  · obtain ⟨e2, q2, q3, q4, q5, q6⟩ := id hsm
    have e3 : s₂ = ({ (U.calling g mk a).setFrames s₂.frames with heap := s₂.heap, slotsUsed := s₂.slotsUsed } : State).setVm s₂.vm := by
      have : s₂ = ({ s₂ with vm := (U.calling g mk a).vm } : State).setVm s₂.vm := rfl
      rw [e2] at this
      exact this
    have hf₂ : s₂.frames = .throwing q :: .java g :: U.frames.tail := hend
    have hW' : U.WarmedH s₂.vm := hW₂
    have hs₂ : s₂ = ((({ U with heap := s₂.heap, slotsUsed := s₂.slotsUsed } : State).setVm s₂.vm).setTop g).pushFrame (.throwing q) := by
      refine e3.trans ?_
      rw [hf₂, State.calling_eq h.top, State.setFrames_setFrames, State.pushFrame, State.frames_setTop _ hr', State.setTop_of_frames _ hr', State.setFrames_setFrames, hr]
      rfl
    have hsame : U.sameButNew ({ U with heap := s₂.heap, slotsUsed := s₂.slotsUsed } : State) L mc ms := by
      refine ⟨?_, q2, q3, q4, q5, q6⟩
      obtain ⟨t, ht, -⟩ := State.frames_cons hr
      show ({ U with heap := s₂.heap, slotsUsed := s₂.slotsUsed } : State) = { U.setFrames U.frames with heap := s₂.heap, slotsUsed := s₂.slotsUsed }
      rw [State.setFrames_self ht]
    subst hg
    refine Or.inr ⟨q, ⟨(({ U with heap := s₂.heap, slotsUsed := s₂.slotsUsed } : State).setVm s₂.vm), Ls ++ L, c0 + mc, s0 + ms⟩,
      ⟨X.admits, X.cas, X.clock, X.frames, X.room, X.hears, X.method, X.code, (X.here.setHeapUsed s₂.heap s₂.slotsUsed).setVm hW'.alike, X.tail, State.WarmedH.trans X.warmed hW', X.limits, X.bytes, X.same.trans (hsame.setVm s.vm)⟩,
      ⟨g, mk, s₂, L, E, ce, rfl, rfl, hx, hce, hcv, hcl, rfl, hL, rfl, rfl⟩, ?_⟩
    show Steps p.tables e below _ (((({ U with heap := s₂.heap, slotsUsed := s₂.slotsUsed } : State).setVm s₂.vm).setTop g).pushFrame (.throwing q))
    rw [← hs₂]
    exact hsteps
end
variable {p : Program} {l : Launch} {e : Env} {R : Room} {s : State} {m : MethodId} {args : Array Value} {below : List Frame} {meth : Method} {c : Code} {T : State} {H : Heap} {locs : List Loc} {cells slots : Nat}
theorem vx_callVX (X : Stand p l e R s m args below meth c T locs cells slots) (hexec : p.tables.exec = Jvm.exec) {own C : String} {index : Nat} {y : MethodName} {bytes : ByteArray} {maxL : Nat} {ret : Option FieldType} {hh : List (Nat × Nat × Nat × Nat)}
    (hown : s.vm.findClass own = some m.cls) (hlink : (Cond.methodLink own index y).before args s = true) (hinst : (Cond.instanceMethod y).before args s = true) (hsel : (Cond.selects C y y).before args s = true)
    (hcode : (Cond.codeWith y bytes maxL ret hh).before args s = true) (hy : y.cls ≠ "java/lang/invoke/MethodHandle" ∧ y.cls ≠ "java/lang/invoke/VarHandle")
    {W9 : Nat} {Pre : Pt → Array Value → Prop} {Post : Pt → Array Value → Option Value → Pt → Prop} {PostX : Pt → Array Value → Addr → Pt → Prop} (hK : vx_Back l R p e below s args y 3 W9 Pre Post PostX)
    {b : Addr} {cellB : Cell} (hcell : T.heap[b]? = some cellB) (hobj : cellB.vm.isStatics = false) (hcls : s.vm.findClass C = some cellB.cls)
    {g : JFrame} (hg : g.method = m) (hsize : g.locals.size = c.maxLocals) {argsL rest : List Value} (hlen : ∀ sig, parseMethodDescriptor y.desc = some sig → argsL.length = sig.parameters.length)
    (hstack : g.stack = argsL.reverse ++ .ref b :: rest) (hW : 2 * g.monitorRoom + (rest.map fun v => v.category).sum ≤ W9) (hdg : decode c.code g.pc = .ok (.invokevirtual index, 3))
    (hpre : ∀ vm₁, s.WarmedH vm₁ → Pre ⟨T.setVm vm₁, locs, cells, slots⟩ (Value.ref b :: argsL).toArray) :
    (∃ (v : Option Value) (vm₁ : Vm) (B : Pt), s.WarmedH vm₁ ∧ Stand p l e R s m args below meth c B.U B.locs B.cells B.slots ∧ Post ⟨T.setVm vm₁, locs, cells, slots⟩ (Value.ref b :: argsL).toArray v B ∧
      ∀ target, Steps p.tables e below (B.U.setTop { g with pc := g.pc + 3, stack := v.toList ++ rest }) target → Steps p.tables e below (T.setTop g) target) ∨
    (∃ (q : Addr) (vm₁ : Vm) (B : Pt), s.WarmedH vm₁ ∧ Stand p l e R s m args below meth c B.U B.locs B.cells B.slots ∧ PostX ⟨T.setVm vm₁, locs, cells, slots⟩ (Value.ref b :: argsL).toArray q B ∧
      Steps p.tables e below (T.setTop g) ((B.U.setTop { g with stack := rest }).pushFrame (.throwing q))) := by
  obtain ⟨mk, methM, hnamed, hmethM, hstM, habM⟩ := Cond.instanceMethod_spec hinst
  obtain ⟨m8, methM', cM, hn8, hmethM', -, -, -, -, -, -, hsigM⟩ := Cond.codeWith_spec hcode
  cases Option.some.inj (hn8.symm.trans hnamed)
  cases hmethM.symm.trans hmethM'
  obtain ⟨c2, r2, m2, q1, q2, q3, q4, kP, hkP, hkPi⟩ := Cond.selects_spec hsel
  cases hcls.symm.trans q1
  cases (State.methodFound?_of_named hnamed hy).symm.trans q2
  cases hnamed.symm.trans q3
  have hselP : selectMethod e.platform s.vm cellB.cls mk = .method mk := by rw [Launch.admits_selectMethod X.admits]; exact q4
  obtain ⟨vm₁, X₁, hstep₁⟩ := X.invokevirtual hexec hown hlink hnamed hmethM hstM hkP hkPi hy (a := b) (cell := cellB) hcell
    (fun z h => by rw [h] at hobj; cases hobj) hselP hmethM habM hkP hkPi (g := g) hg (argsL := argsL) (rest := rest) (hlen _ hsigM) hstack hdg
  rcases hK m meth c ⟨T.setVm vm₁, locs, cells, slots⟩ { g with stack := rest } (.invokevirtual index) mk (Value.ref b :: argsL).toArray X₁ hg hsize hdg hW (X₁.named hnamed) (hpre vm₁ X₁.warmed) with ⟨v, B, X', hpost, hsteps⟩ | ⟨q, B, X', hpost, hsteps⟩
  · exact Or.inl ⟨v, vm₁, B, X₁.warmed, X', hpost, fun target h => hstep₁ _ fun acts => by rw [doInvoke_state]; exact hsteps.trans h⟩
  · exact Or.inr ⟨q, vm₁, B, X₁.warmed, X', hpost, hstep₁ _ fun acts => by rw [doInvoke_state]; exact hsteps⟩
theorem vx_callSX (X : Stand p l e R s m args below meth c T locs cells slots) (hexec : p.tables.exec = Jvm.exec) {own : String} {index : Nat} {y : MethodName} {bytes : ByteArray} {maxL : Nat} {ret : Option FieldType} {hh : List (Nat × Nat × Nat × Nat)}
    (hown : s.vm.findClass own = some m.cls) (hlink : (Cond.methodLink own index y).before args s = true) (hstat : (Cond.static y).before args s = true) (hinit : (Cond.initialized y.cls).before args s = true)
    (hcode : (Cond.codeWith y bytes maxL ret hh).before args s = true) (hy : y.cls ≠ "java/lang/invoke/MethodHandle" ∧ y.cls ≠ "java/lang/invoke/VarHandle")
    {W9 : Nat} {Pre : Pt → Array Value → Prop} {Post : Pt → Array Value → Option Value → Pt → Prop} {PostX : Pt → Array Value → Addr → Pt → Prop} (hK : vx_Back l R p e below s args y 3 W9 Pre Post PostX)
    {g : JFrame} (hg : g.method = m) (hsize : g.locals.size = c.maxLocals) {argsL rest : List Value} (hlen : ∀ sig, parseMethodDescriptor y.desc = some sig → argsL.length = sig.parameters.length)
    (hstack : g.stack = argsL.reverse ++ rest) (hW : 2 * g.monitorRoom + (rest.map fun v => v.category).sum ≤ W9) (hdg : decode c.code g.pc = .ok (.invokestatic index, 3))
    (hpre : ∀ vm₁, s.WarmedH vm₁ → Pre ⟨T.setVm vm₁, locs, cells, slots⟩ argsL.toArray) :
    (∃ (v : Option Value) (vm₁ : Vm) (B : Pt), s.WarmedH vm₁ ∧ Stand p l e R s m args below meth c B.U B.locs B.cells B.slots ∧ Post ⟨T.setVm vm₁, locs, cells, slots⟩ argsL.toArray v B ∧
      ∀ target, Steps p.tables e below (B.U.setTop { g with pc := g.pc + 3, stack := v.toList ++ rest }) target → Steps p.tables e below (T.setTop g) target) ∨
    (∃ (q : Addr) (vm₁ : Vm) (B : Pt), s.WarmedH vm₁ ∧ Stand p l e R s m args below meth c B.U B.locs B.cells B.slots ∧ PostX ⟨T.setVm vm₁, locs, cells, slots⟩ argsL.toArray q B ∧
      Steps p.tables e below (T.setTop g) ((B.U.setTop { g with stack := rest }).pushFrame (.throwing q))) := by
  obtain ⟨mk, methM, cM, hnamed, hmethM, -, -, -, -, -, -, hsigM⟩ := Cond.codeWith_spec hcode
  have hstatic : methM.isStatic = true := Cond.static_spec hnamed hmethM hstat
  obtain ⟨kP, hkP, -⟩ := className_of_methodNamed hnamed
  have hinitP : kP.init = .initialized := Cond.initialized_spec (findClass_of_methodNamed hnamed) hkP hinit
  obtain ⟨vm₁, X₁, hstep₁⟩ := X.invokestatic hexec hown hlink hnamed hmethM hstatic hkP hinitP hy (g := g) hg (argsL := argsL) (rest := rest) (hlen _ hsigM) hstack hdg
  rcases hK m meth c ⟨T.setVm vm₁, locs, cells, slots⟩ { g with stack := rest } (.invokestatic index) mk argsL.toArray X₁ hg hsize hdg hW (X₁.named hnamed) (hpre vm₁ X₁.warmed) with ⟨v, B, X', hpost, hsteps⟩ | ⟨q, B, X', hpost, hsteps⟩
  · exact Or.inl ⟨v, vm₁, B, X₁.warmed, X', hpost, fun target h => hstep₁ _ fun acts => by rw [doInvoke_state]; exact hsteps.trans h⟩
  · exact Or.inr ⟨q, vm₁, B, X₁.warmed, X', hpost, hstep₁ _ fun acts => by rw [doInvoke_state]; exact hsteps⟩
theorem vx_callVW (X : Stand p l e R s m args below meth c T locs cells slots) (hexec : p.tables.exec = Jvm.exec) {own C : String} {index : Nat} {y : MethodName} {bytes : ByteArray} {maxL : Nat} {ret : Option FieldType} {hh : List (Nat × Nat × Nat × Nat)}
    (hown : s.vm.findClass own = some m.cls) (hlink : (Cond.methodLink own index y).before args s = true) (hinst : (Cond.instanceMethod y).before args s = true) (hsel : (Cond.selects C y y).before args s = true)
    (hcode : (Cond.codeWith y bytes maxL ret hh).before args s = true) (hy : y.cls ≠ "java/lang/invoke/MethodHandle" ∧ y.cls ≠ "java/lang/invoke/VarHandle")
    {W9 : Nat} {Pre : Pt → Array Value → Prop} {Post : Pt → Array Value → Option Value → Pt → Prop} (hK : Back l R p e below s args y 3 W9 Pre Post)
    {b : Addr} {cellB : Cell} (hcell : T.heap[b]? = some cellB) (hobj : cellB.vm.isStatics = false) (hcls : s.vm.findClass C = some cellB.cls)
    {g : JFrame} (hg : g.method = m) (hsize : g.locals.size = c.maxLocals) {argsL rest : List Value} (hlen : ∀ sig, parseMethodDescriptor y.desc = some sig → argsL.length = sig.parameters.length)
    (hstack : g.stack = argsL.reverse ++ .ref b :: rest) (hW : 2 * g.monitorRoom + (rest.map fun v => v.category).sum ≤ W9) (hdg : decode c.code g.pc = .ok (.invokevirtual index, 3))
    (hpre : ∀ vm₁, s.WarmedH vm₁ → Pre ⟨T.setVm vm₁, locs, cells, slots⟩ (Value.ref b :: argsL).toArray) :
    ∃ (v : Option Value) (vm₁ : Vm) (B : Pt), s.WarmedH vm₁ ∧ Stand p l e R s m args below meth c B.U B.locs B.cells B.slots ∧ Post ⟨T.setVm vm₁, locs, cells, slots⟩ (Value.ref b :: argsL).toArray v B ∧
      ∀ target, Steps p.tables e below (B.U.setTop { g with pc := g.pc + 3, stack := v.toList ++ rest }) target → Steps p.tables e below (T.setTop g) target := by
  obtain ⟨mk, methM, hnamed, hmethM, hstM, habM⟩ := Cond.instanceMethod_spec hinst
  obtain ⟨m8, methM', cM, hn8, hmethM', -, -, -, -, -, -, hsigM⟩ := Cond.codeWith_spec hcode
  cases Option.some.inj (hn8.symm.trans hnamed)
  cases hmethM.symm.trans hmethM'
  obtain ⟨c2, r2, m2, q1, q2, q3, q4, kP, hkP, hkPi⟩ := Cond.selects_spec hsel
  cases hcls.symm.trans q1
  cases (State.methodFound?_of_named hnamed hy).symm.trans q2
  cases hnamed.symm.trans q3
  have hselP : selectMethod e.platform s.vm cellB.cls mk = .method mk := by rw [Launch.admits_selectMethod X.admits]; exact q4
  obtain ⟨vm₁, X₁, hstep₁⟩ := X.invokevirtual hexec hown hlink hnamed hmethM hstM hkP hkPi hy (a := b) (cell := cellB) hcell
    (fun z h => by rw [h] at hobj; cases hobj) hselP hmethM habM hkP hkPi (g := g) hg (argsL := argsL) (rest := rest) (hlen _ hsigM) hstack hdg
  obtain ⟨v, B, X', hpost, hsteps⟩ := hK m meth c ⟨T.setVm vm₁, locs, cells, slots⟩ { g with stack := rest } (.invokevirtual index) mk (Value.ref b :: argsL).toArray X₁ hg hsize hdg hW (X₁.named hnamed) (hpre vm₁ X₁.warmed)
  exact ⟨v, vm₁, B, X₁.warmed, X', hpost, fun target h => hstep₁ _ fun acts => by rw [doInvoke_state]; exact hsteps.trans h⟩
abbrev vx_CVW (R : Room) (s : State) (args : Array Value) (own C : String) (index : Nat) (y : MethodName) (bytes : ByteArray) (maxL : Nat) (ret : Option FieldType) (hh : List (Nat × Nat × Nat × Nat)) (ws : List Cond) (rm : Room) (mc ms n : Nat) : Prop :=
  (rm.cells = mc ∧ rm.slots = ms ∧ rm.frames + 1 ≤ R.frames ∧ 8 + (maxL + 11) + rm.locals ≤ R.locals ∧ (∀ w ∈ ws, ∀ (a' : Array Value) (U : State), s.WarmedH U.vm → w.before a' U = true) ∧ Cond.codeWith y bytes maxL ret hh ∈ ws) ∧
  (Cond.codeWith y bytes maxL ret hh).before args s = true ∧ (Cond.initialized y.cls).before args s = true ∧ (y.cls ≠ "java/lang/invoke/MethodHandle" ∧ y.cls ≠ "java/lang/invoke/VarHandle") ∧
  (∀ sig, parseMethodDescriptor y.desc = some sig → n = sig.parameters.length) ∧ (Cond.methodLink own index y).before args s = true ∧ (Cond.instanceMethod y).before args s = true ∧ (Cond.selects C y y).before args s = true
theorem vx_cwVW {own C : String} {index maxL mc ms : Nat} {y : MethodName} {bytes : ByteArray} {ret : Option FieldType} {hh : List (Nat × Nat × Nat × Nat)} {Ts ws ws' : List Cond} {rm : Room} (n : Nat) (ht : ∀ w ∈ Ts, w.before args s = true) (hT : GoodIn Ts (wsV own index C y ws)) (hw : ws = Cond.codeWith y bytes maxL ret hh :: ws') (hrc : rm.cells = mc) (hrs : rm.slots = ms)
    (hd : y.cls = C ∧ y.cls ≠ "java/lang/invoke/MethodHandle" ∧ y.cls ≠ "java/lang/invoke/VarHandle" ∧ (parseMethodDescriptor y.desc).map (fun d => d.parameters.length) = some n) (hR : rm.frames + 1 ≤ R.frames ∧ 8 + (maxL + 11) + rm.locals ≤ R.locals) :
    vx_CVW R s args own C index y bytes maxL ret hh ws rm mc ms n := by
  obtain ⟨hC, hd⟩ := hd
  subst hC
  have ok : ∀ w ∈ wsV own index y.cls y ws, w.before args s = true := fun w h => ht w (hT w h).1
  have hG : GoodIn Ts ws := fun w h => hT w (by unfold wsV; exact List.mem_append_right _ h)
  have hc : Cond.codeWith y bytes maxL ret hh ∈ ws := by rw [hw]; exact List.mem_cons_self
  refine ⟨⟨hrc, hrs, hR.1, hR.2, pay_in ht hG, hc⟩, ht _ (hG _ hc).1, ok _ (by simp [wsV]), ⟨hd.1, hd.2.1⟩, fun sig h => ?_, ok _ (by simp [wsV]), ok _ (by simp [wsV]), ok _ (by simp [wsV])⟩
  have h2 := hd.2.2
  rw [h] at h2
  exact (Option.some.inj h2).symm
theorem vx_runVW {y : MethodName} {bytes cc : ByteArray} {maxL nL mc ms n index : Nat} {ret : Option FieldType} {hh : List (Nat × Nat × Nat × Nat)} {ws : List Cond} {rm : Room} {Pc : Array Value → State → Prop} {Qc : Array Value → State → Outcome → State → Prop} {free : Addr → Prop} {Ts : List Cond} {own C : String} {b : Addr} {As rest : List Value} {g : JFrame}
    (S : CallFix p m c cc nL s args Ts own) (hM : Met l y ws rm Pc Qc mc ms free) (cw : vx_CVW R s args own C index y bytes maxL ret hh ws rm mc ms n) (hp : PreV s H C b Pc As)
    (hg : g.method = m) (hn : As.length = n) (hsize : g.locals.size = nL) (hstack : g.stack = As.reverse ++ .ref b :: rest) (hW : 2 * g.monitorRoom + (rest.map fun v => v.category).sum ≤ 8) (hdg : decode cc g.pc = .ok (.invokevirtual index, 3)) (hf : cells + mc ≤ R.cells ∧ slots + ms ≤ R.slots) :
    va_Run p l e R s m args below meth c H locs cells slots mc ms g rest (Qc (Value.ref b :: As).toArray) free := by
  obtain ⟨⟨hrc, hrs, hfr, hlo, hws, hcw⟩, hcode, hini, hy, hlen, hl, hin, hse⟩ := cw
  have hK : Back l R p e below s args y 3 8 (PreOf R mc ms Pc) (PostOf Qc mc ms free) := va_backW (hh := hh) (bytes := bytes) (maxL := maxL) (ret := ret) hM hp.1 hrc hrs hfr hlo hws hcw (fun a' U hW => word_at hW (Or.inl (by first | rfl | simp [Cond.onTables, Cond.keeps, Cond.steady])) hini)
  obtain ⟨hx, hb, hml, ho, -⟩ := S
  obtain ⟨-, ⟨cellB, hcB, hoB, hclB⟩, hPc⟩ := hp
  intro T hT X
  obtain ⟨v, vm₁, ⟨U', l2, c2, s2⟩, hW₁, X', ⟨g', mk, t, L, e1, e2, hq, h1, hL, h2, h3⟩, st⟩ := vx_callVW X hx (C := C) (hh := hh) (bytes := bytes) (maxL := maxL) (ret := ret) ho hl hin hse hcode hy hK (by rw [hT]; exact hcB) hoB hclB hg (hsize.trans hml.symm) (argsL := As) (rest := rest) (fun sig h => hn.trans (hlen sig h)) hstack hW (by rw [hb]; exact hdg)
    (fun vm₁ hW₁ => ⟨hf.1, hf.2, hPc (T.setVm vm₁) hT hW₁⟩)
  dsimp only [Pt.U, Pt.locs, Pt.cells, Pt.slots] at X' e1 e2 h1 h2 h3 st
  subst h1; subst h2; subst h3
  exact ⟨v, (T.setVm vm₁).calling g' mk (Value.ref b :: As).toArray, t, U', L, hT, X', hL, e1, e2, hq, st⟩
section
variable {y : MethodName} {bytes cc : ByteArray} {maxL nL mc ms n index : Nat} {ret : Option FieldType} {ws : List Cond} {rm : Room} {Pc : Array Value → State → Prop} {Qc : Array Value → State → Outcome → State → Prop} {XC : String → State → State → Prop} {free : Addr → Prop} {Ts : List Cond} {own C : String} {b : Addr} {As rest : List Value} {g : JFrame}
theorem vx_runVX {hh : List (Nat × Nat × Nat × Nat)} (S : CallFix p m c cc nL s args Ts own) (hM : vx_Met l y ws rm Pc Qc XC mc ms free) (cw : vx_CVW R s args own C index y bytes maxL ret hh ws rm mc ms n) (hp : PreV s H C b Pc As)
    (hg : g.method = m) (hn : As.length = n) (hsize : g.locals.size = nL) (hstack : g.stack = As.reverse ++ .ref b :: rest) (hW : 2 * g.monitorRoom + (rest.map fun v => v.category).sum ≤ 8) (hdg : decode cc g.pc = .ok (.invokevirtual index, 3)) (hf : cells + mc ≤ R.cells ∧ slots + ms ≤ R.slots) :
    vx_Run p l e R s m args below meth c H locs cells slots mc ms g rest (Qc (Value.ref b :: As).toArray) XC free := by
  obtain ⟨⟨hrc, hrs, hfr, hlo, hws, hcw⟩, hcode, hini, hy, hlen, hl, hin, hse⟩ := cw
  have hK : vx_Back l R p e below s args y 3 8 (PreOf R mc ms Pc) (PostOf Qc mc ms free) (vx_Post XC mc ms free) := vx_backW (hh := hh) (bytes := bytes) (maxL := maxL) (ret := ret) hM hp.1 hrc hrs hfr hlo hws hcw (fun a' U hW => word_at hW (Or.inl (by first | rfl | simp [Cond.onTables, Cond.keeps, Cond.steady])) hini)
  obtain ⟨hx, hb, hml, ho, -⟩ := S
  obtain ⟨-, ⟨cellB, hcB, hoB, hclB⟩, hPc⟩ := hp
  intro T hT X
  rcases vx_callVX X hx (C := C) (hh := hh) (bytes := bytes) (maxL := maxL) (ret := ret) ho hl hin hse hcode hy hK (by rw [hT]; exact hcB) hoB hclB hg (hsize.trans hml.symm) (argsL := As) (rest := rest) (fun sig h => hn.trans (hlen sig h)) hstack hW (by rw [hb]; exact hdg)
    (fun vm₁ hW₁ => ⟨hf.1, hf.2, hPc (T.setVm vm₁) hT hW₁⟩) with ⟨v, vm₁, ⟨U', l2, c2, s2⟩, hW₁, X', ⟨g', mk, t, L, e1, e2, hq, h1, hL, h2, h3⟩, st⟩ | ⟨q, vm₁, ⟨U', l2, c2, s2⟩, hW₁, X', ⟨g', mk, t, L, E, ce, e1, e2, hq, hce, hcv, hcl, h1, hL, h2, h3⟩, st⟩
  · dsimp only [Pt.U, Pt.locs, Pt.cells, Pt.slots] at X' e1 e2 h1 h2 h3 st
    subst h1; subst h2; subst h3
    exact Or.inl ⟨v, (T.setVm vm₁).calling g' mk (Value.ref b :: As).toArray, t, U', L, hT, X', hL, e1, e2, hq, st⟩
  · dsimp only [Pt.U, Pt.locs, Pt.cells, Pt.slots] at X' e1 e2 h1 h2 h3 st hcl
    subst h1; subst h2; subst h3
    exact Or.inr ⟨q, (T.setVm vm₁).calling g' mk (Value.ref b :: As).toArray, t, U', L, E, ce, hT, X', hL, e1, e2, hq, hce, hcv, vx_cls hW₁ hcl, st⟩
theorem vx_runSX {hh : List (Nat × Nat × Nat × Nat)} (S : CallFix p m c cc nL s args Ts own) (hM : vx_Met l y ws rm Pc Qc XC mc ms free) (cw : vx_CSW R s args own index y bytes maxL ret hh ws rm mc ms n) (hp : PreS s H Pc As)
    (hg : g.method = m) (hn : As.length = n) (hsize : g.locals.size = nL) (hstack : g.stack = As.reverse ++ rest) (hW : 2 * g.monitorRoom + (rest.map fun v => v.category).sum ≤ 8) (hdg : decode cc g.pc = .ok (.invokestatic index, 3)) (hf : cells + mc ≤ R.cells ∧ slots + ms ≤ R.slots) :
    vx_Run p l e R s m args below meth c H locs cells slots mc ms g rest (Qc As.toArray) XC free := by
  obtain ⟨⟨hrc, hrs, hfr, hlo, hws, hcw⟩, hcode, hini, hy, hlen, hl, hstt⟩ := cw
  have hK : vx_Back l R p e below s args y 3 8 (PreOf R mc ms Pc) (PostOf Qc mc ms free) (vx_Post XC mc ms free) := vx_backW (hh := hh) (bytes := bytes) (maxL := maxL) (ret := ret) hM hp.1 hrc hrs hfr hlo hws hcw (fun a' U hW => word_at hW (Or.inl (by first | rfl | simp [Cond.onTables, Cond.keeps, Cond.steady])) hini)
  obtain ⟨hx, hb, hml, ho, -⟩ := S
  intro T hT X
  rcases vx_callSX X hx (hh := hh) (bytes := bytes) (maxL := maxL) (ret := ret) ho hl hstt hini hcode hy hK hg (hsize.trans hml.symm) (argsL := As) (rest := rest) (fun sig h => hn.trans (hlen sig h)) hstack hW (by rw [hb]; exact hdg)
    (fun vm₁ hW₁ => ⟨hf.1, hf.2, hp.2 (T.setVm vm₁) hT hW₁⟩) with ⟨v, vm₁, ⟨U', l2, c2, s2⟩, hW₁, X', ⟨g', mk, t, L, e1, e2, hq, h1, hL, h2, h3⟩, st⟩ | ⟨q, vm₁, ⟨U', l2, c2, s2⟩, hW₁, X', ⟨g', mk, t, L, E, ce, e1, e2, hq, hce, hcv, hcl, h1, hL, h2, h3⟩, st⟩
  · dsimp only [Pt.U, Pt.locs, Pt.cells, Pt.slots] at X' e1 e2 h1 h2 h3 st
    subst h1; subst h2; subst h3
    exact Or.inl ⟨v, (T.setVm vm₁).calling g' mk As.toArray, t, U', L, hT, X', hL, e1, e2, hq, st⟩
  · dsimp only [Pt.U, Pt.locs, Pt.cells, Pt.slots] at X' e1 e2 h1 h2 h3 st hcl
    subst h1; subst h2; subst h3
    exact Or.inr ⟨q, (T.setVm vm₁).calling g' mk As.toArray, t, U', L, E, ce, hT, X', hL, e1, e2, hq, hce, hcv, vx_cls hW₁ hcl, st⟩
end
end VXH
theorem vx_ofWH {l : Launch} {y : MethodName} {ws ws' : List Cond} {rm : Room} {Pc : Array Value → State → Prop} {Qc : Array Value → State → Outcome → State → Prop} {XC : String → State → State → Prop} {mc ms : Nat} {free : Addr → Prop} {cc : ByteArray} {maxL : Nat} {ret : Option FieldType} {hh : List (Nat × Nat × Nat × Nat)}
    (hy : plainName y.cls = true) (hw : ws = Cond.codeWith y cc maxL ret hh :: ws')
    (body : ∀ p e s m args below meth c s₁, BodyLoose p l y (headSpec ws rm) cc maxL ret e s m args below meth c s₁ → c.maxLocals = maxL → Pc args s →
      W p l e (headSpec ws rm).room s m args below meth c s.heap [] 0 0 (vx_MQ below Qc XC args s mc ms free) (entryFrame m args maxL)) : vx_Met l y ws rm Pc Qc XC mc ms free := by
  refine MetFree.of_bodyS (code := cc) (maxLocals := maxL) (ret := ret) hy ?_ ?_
  · intro args s m h hn
    obtain ⟨m9, meth, c, hn9, h1, h2, h3, h4, -, h5, h6, -⟩ := Cond.codeWith_spec (atoms_spec (ws := ws) h _ (by rw [hw]; exact List.mem_cons_self))
    cases hn.symm.trans hn9
    exact ⟨meth, c, h1, h2, h3, h4, h5, h6⟩
  · intro p e s m args below meth c s₁ B hml hP _
    have hh0 : s₁.heap = s.heap := by rw [B.state]; rfl
    obtain ⟨t, a1, o, b1, b2, b3⟩ := body p e s m args below meth c s₁ B hml hP s₁ hh0 (Stand.of_body B)
    exact ⟨t, o, a1, b1, b2, b3⟩
/-! ===== END ===== -/
end
section
/-! ===== BEGIN printed: names, fields, word lists, decode rows ===== -/
def RX0 : String := "RingHeap$Collector"
def TX0 : u_T := fun k => match k with
  | 0 => ("RingHeap$Collector", "store", "LRingHeap$Store;", true)
  | 1 => ("RingHeap$Collector", "counting", "LRingHeap$Counting;", true)
  | 2 => ("RingHeap$Collector", "reached", "LRingHeap$Row;", true)
  | 3 => ("RingHeap$Collector", "darkened", "LRingHeap$Row;", true)
  | 4 => ("RingHeap$Collector", "collections", "I", false)
  | 5 => ("RingHeap$Collector", "grayed", "I", false)
  | _ => ("RingHeap$Collector", "blackened", "I", false)
def tyX0 : Nat → FieldType := fun k => match k with
  | 0 => .object "RingHeap$Store"
  | 1 => .object "RingHeap$Counting"
  | 2 => .object "RingHeap$Row"
  | 3 => .object "RingHeap$Row"
  | 4 => .int
  | 5 => .int
  | _ => .int
abbrev wsX00 : List Cond := u_ws RX0 TX0 7
theorem nmX0 : ∀ a, a < 7 → ∀ b, b < 7 → a ≠ b → (TX0 a).2.1 ≠ (TX0 b).2.1 := by decide +kernel
theorem tyX0_ok : ∀ k, k < 7 → parseFieldDescriptor (TX0 k).2.2.1 = some (tyX0 k) := by decide +kernel
abbrev cX0_init : ByteArray := prog_2_method_1_code
def yX0_init : MethodName := ⟨RX0, "<init>", "(LRingHeap$Store;LRingHeap$Counting;)V"⟩
abbrev cX0_run : ByteArray := prog_2_method_2_code
def yX0_run : MethodName := ⟨RX0, "run", "()I"⟩
abbrev cX0_markListed : ByteArray := prog_2_method_3_code
def yX0_markListed : MethodName := ⟨RX0, "markListed", "()V"⟩
abbrev cX0_markFrom : ByteArray := prog_2_method_4_code
def yX0_markFrom : MethodName := ⟨RX0, "markFrom", "(LRingHeap$Thing;)V"⟩
abbrev cX0_turnGray : ByteArray := prog_2_method_5_code
def yX0_turnGray : MethodName := ⟨RX0, "turnGray", "(LRingHeap$Thing;)V"⟩
abbrev cX0_scanListed : ByteArray := prog_2_method_6_code
def yX0_scanListed : MethodName := ⟨RX0, "scanListed", "()V"⟩
abbrev cX0_scanFrom : ByteArray := prog_2_method_7_code
def yX0_scanFrom : MethodName := ⟨RX0, "scanFrom", "(LRingHeap$Thing;)V"⟩
abbrev cX0_judge : ByteArray := prog_2_method_8_code
def yX0_judge : MethodName := ⟨RX0, "judge", "(LRingHeap$Thing;)V"⟩
abbrev cX0_blackenFrom : ByteArray := prog_2_method_9_code
def yX0_blackenFrom : MethodName := ⟨RX0, "blackenFrom", "(LRingHeap$Thing;)V"⟩
abbrev cX0_turnBlack : ByteArray := prog_2_method_10_code
def yX0_turnBlack : MethodName := ⟨RX0, "turnBlack", "(LRingHeap$Thing;)V"⟩
abbrev cX0_tellWishes : ByteArray := prog_2_method_11_code
def yX0_tellWishes : MethodName := ⟨RX0, "tellWishes", "()V"⟩
abbrev cX0_emptyList : ByteArray := prog_2_method_12_code
def yX0_emptyList : MethodName := ⟨RX0, "emptyList", "()V"⟩
abbrev cX0_freeWhite : ByteArray := prog_2_method_13_code
def yX0_freeWhite : MethodName := ⟨RX0, "freeWhite", "()V"⟩
def RX1 : String := "RingHeap$Counting"
def TX1 : u_T := fun k => match k with
  | 0 => ("RingHeap$Counting", "store", "LRingHeap$Store;", true)
  | 1 => ("RingHeap$Counting", "going", "LRingHeap$Row;", true)
  | 2 => ("RingHeap$Counting", "list", "LRingHeap$Row;", true)
  | _ => ("RingHeap$Counting", "wishes", "LRingHeap$Row;", true)
def tyX1 : Nat → FieldType := fun k => match k with
  | 0 => .object "RingHeap$Store"
  | 1 => .object "RingHeap$Row"
  | 2 => .object "RingHeap$Row"
  | _ => .object "RingHeap$Row"
abbrev wsX10 : List Cond := u_ws RX1 TX1 4
theorem nmX1 : ∀ a, a < 4 → ∀ b, b < 4 → a ≠ b → (TX1 a).2.1 ≠ (TX1 b).2.1 := by decide +kernel
theorem tyX1_ok : ∀ k, k < 4 → parseFieldDescriptor (TX1 k).2.2.1 = some (tyX1 k) := by decide +kernel
abbrev cX1_init : ByteArray := prog_3_method_1_code
def yX1_init : MethodName := ⟨RX1, "<init>", "(LRingHeap$Store;)V"⟩
abbrev cX1_more : ByteArray := prog_3_method_2_code
def yX1_more : MethodName := ⟨RX1, "more", "(LRingHeap$Thing;)V"⟩
abbrev cX1_less : ByteArray := prog_3_method_3_code
def yX1_less : MethodName := ⟨RX1, "less", "(LRingHeap$Thing;)I"⟩
abbrev cX1_tellWish : ByteArray := prog_3_method_4_code
def yX1_tellWish : MethodName := ⟨RX1, "tellWish", "(LRingHeap$Thing;)V"⟩
abbrev cX1_lower : ByteArray := prog_3_method_5_code
def yX1_lower : MethodName := ⟨RX1, "lower", "(LRingHeap$Thing;)V"⟩
abbrev cX1_suspect : ByteArray := prog_3_method_6_code
def yX1_suspect : MethodName := ⟨RX1, "suspect", "(LRingHeap$Thing;)V"⟩
abbrev cX1_finish : ByteArray := prog_3_method_7_code
def yX1_finish : MethodName := ⟨RX1, "finish", "(LRingHeap$Thing;)V"⟩
def RX2 : String := "RingHeap$Kind"
def TX2 : u_T := fun k => match k with
  | 0 => ("RingHeap$Kind", "number", "I", true)
  | 1 => ("RingHeap$Kind", "fields", "I", true)
  | 2 => ("RingHeap$Kind", "size", "I", true)
  | _ => ("RingHeap$Kind", "wish", "Z", true)
def tyX2 : Nat → FieldType := fun k => match k with
  | 0 => .int
  | 1 => .int
  | 2 => .int
  | _ => .boolean
abbrev wsX20 : List Cond := u_ws RX2 TX2 4
theorem nmX2 : ∀ a, a < 4 → ∀ b, b < 4 → a ≠ b → (TX2 a).2.1 ≠ (TX2 b).2.1 := by decide +kernel
theorem tyX2_ok : ∀ k, k < 4 → parseFieldDescriptor (TX2 k).2.2.1 = some (tyX2 k) := by decide +kernel
abbrev cX2_init : ByteArray := prog_4_method_1_code
def yX2_init : MethodName := ⟨RX2, "<init>", "(IIIZ)V"⟩
def RX3 : String := "RingHeap$Row"
def TX3 : u_T := fun k => match k with
  | 0 => ("RingHeap$Row", "things", "[LRingHeap$Thing;", true)
  | _ => ("RingHeap$Row", "length", "I", false)
def tyX3 : Nat → FieldType := fun k => match k with
  | 0 => .array (.object "RingHeap$Thing")
  | _ => .int
abbrev wsX30 : List Cond := u_ws RX3 TX3 2
theorem nmX3 : ∀ a, a < 2 → ∀ b, b < 2 → a ≠ b → (TX3 a).2.1 ≠ (TX3 b).2.1 := by decide +kernel
theorem tyX3_ok : ∀ k, k < 2 → parseFieldDescriptor (TX3 k).2.2.1 = some (tyX3 k) := by decide +kernel
abbrev cX3_init : ByteArray := prog_5_method_1_code
def yX3_init : MethodName := ⟨RX3, "<init>", "()V"⟩
abbrev cX3_append : ByteArray := prog_5_method_2_code
def yX3_append : MethodName := ⟨RX3, "append", "(LRingHeap$Thing;)V"⟩
abbrev cX3_item : ByteArray := prog_5_method_3_code
def yX3_item : MethodName := ⟨RX3, "item", "(I)LRingHeap$Thing;"⟩
abbrev cX3_last : ByteArray := prog_5_method_4_code
def yX3_last : MethodName := ⟨RX3, "last", "()LRingHeap$Thing;"⟩
abbrev cX3_removeLast : ByteArray := prog_5_method_5_code
def yX3_removeLast : MethodName := ⟨RX3, "removeLast", "()V"⟩
abbrev cX3_takeFirst : ByteArray := prog_5_method_6_code
def yX3_takeFirst : MethodName := ⟨RX3, "takeFirst", "()LRingHeap$Thing;"⟩
abbrev cX3_clear : ByteArray := prog_5_method_7_code
def yX3_clear : MethodName := ⟨RX3, "clear", "()V"⟩
def RX4 : String := "RingHeap$Store"
def TX4 : u_T := fun k => match k with
  | 0 => ("RingHeap$Store", "things", "[LRingHeap$Thing;", true)
  | 1 => ("RingHeap$Store", "freedNumbers", "[I", true)
  | 2 => ("RingHeap$Store", "weaks", "[LRingHeap$Thing;", true)
  | 3 => ("RingHeap$Store", "words", "LRingHeap$Words;", true)
  | 4 => ("RingHeap$Store", "thingsThere", "I", false)
  | _ => ("RingHeap$Store", "freedEver", "I", false)
def tyX4 : Nat → FieldType := fun k => match k with
  | 0 => .array (.object "RingHeap$Thing")
  | 1 => .array .int
  | 2 => .array (.object "RingHeap$Thing")
  | 3 => .object "RingHeap$Words"
  | 4 => .int
  | _ => .int
abbrev wsX40 : List Cond := u_ws RX4 TX4 6
theorem nmX4 : ∀ a, a < 6 → ∀ b, b < 6 → a ≠ b → (TX4 a).2.1 ≠ (TX4 b).2.1 := by decide +kernel
theorem tyX4_ok : ∀ k, k < 6 → parseFieldDescriptor (TX4 k).2.2.1 = some (tyX4 k) := by decide +kernel
abbrev cX4_init : ByteArray := prog_6_method_1_code
def yX4_init : MethodName := ⟨RX4, "<init>", "()V"⟩
abbrev cX4_thing : ByteArray := prog_6_method_2_code
def yX4_thing : MethodName := ⟨RX4, "thing", "(I)LRingHeap$Thing;"⟩
abbrev cX4_living : ByteArray := prog_6_method_3_code
def yX4_living : MethodName := ⟨RX4, "living", "(I)LRingHeap$Thing;"⟩
abbrev cX4_leastFreeNumber : ByteArray := prog_6_method_4_code
def yX4_leastFreeNumber : MethodName := ⟨RX4, "leastFreeNumber", "()I"⟩
abbrev cX4_hasRoomFor : ByteArray := prog_6_method_5_code
def yX4_hasRoomFor : MethodName := ⟨RX4, "hasRoomFor", "(LRingHeap$Kind;)Z"⟩
abbrev cX4_place : ByteArray := prog_6_method_6_code
def yX4_place : MethodName := ⟨RX4, "place", "(LRingHeap$Kind;)I"⟩
abbrev cX4_free : ByteArray := prog_6_method_7_code
def yX4_free : MethodName := ⟨RX4, "free", "(LRingHeap$Thing;)V"⟩
abbrev cX4_freedNumber : ByteArray := prog_6_method_8_code
def yX4_freedNumber : MethodName := ⟨RX4, "freedNumber", "(I)I"⟩
def RX5 : String := "RingHeap$Thing"
def TX5 : u_T := fun k => match k with
  | 0 => ("RingHeap$Thing", "number", "I", true)
  | 1 => ("RingHeap$Thing", "kind", "LRingHeap$Kind;", true)
  | 2 => ("RingHeap$Thing", "held", "[LRingHeap$Thing;", true)
  | 3 => ("RingHeap$Thing", "count", "I", false)
  | 4 => ("RingHeap$Thing", "hands", "I", false)
  | 5 => ("RingHeap$Thing", "colour", "I", false)
  | 6 => ("RingHeap$Thing", "address", "I", false)
  | 7 => ("RingHeap$Thing", "nextField", "I", false)
  | 8 => ("RingHeap$Thing", "inList", "Z", false)
  | 9 => ("RingHeap$Thing", "wishUntold", "Z", false)
  | _ => ("RingHeap$Thing", "husk", "Z", false)
def tyX5 : Nat → FieldType := fun k => match k with
  | 0 => .int
  | 1 => .object "RingHeap$Kind"
  | 2 => .array (.object "RingHeap$Thing")
  | 3 => .int
  | 4 => .int
  | 5 => .int
  | 6 => .int
  | 7 => .int
  | 8 => .boolean
  | 9 => .boolean
  | _ => .boolean
abbrev wsX50 : List Cond := u_ws RX5 TX5 11
theorem nmX5 : ∀ a, a < 11 → ∀ b, b < 11 → a ≠ b → (TX5 a).2.1 ≠ (TX5 b).2.1 := by decide +kernel
theorem tyX5_ok : ∀ k, k < 11 → parseFieldDescriptor (TX5 k).2.2.1 = some (tyX5 k) := by decide +kernel
abbrev cX5_init : ByteArray := prog_7_method_1_code
def yX5_init : MethodName := ⟨RX5, "<init>", "(ILRingHeap$Kind;)V"⟩
abbrev cX5_hasField : ByteArray := prog_7_method_2_code
def yX5_hasField : MethodName := ⟨RX5, "hasField", "(I)Z"⟩
abbrev cX5_isGreen : ByteArray := prog_7_method_3_code
def yX5_isGreen : MethodName := ⟨RX5, "isGreen", "()Z"⟩
abbrev cX5_blackenUnlessGreen : ByteArray := prog_7_method_4_code
def yX5_blackenUnlessGreen : MethodName := ⟨RX5, "blackenUnlessGreen", "()V"⟩
abbrev cX5_giveUpNext : ByteArray := prog_7_method_5_code
def yX5_giveUpNext : MethodName := ⟨RX5, "giveUpNext", "()LRingHeap$Thing;"⟩
abbrev cX5_tell : ByteArray := prog_7_method_6_code
def yX5_tell : MethodName := ⟨RX5, "tell", "(I)I"⟩
def RX6 : String := "RingHeap$Words"
def TX6 : u_T := fun k => match k with
  | 0 => ("RingHeap$Words", "owners", "[LRingHeap$Thing;", true)
  | _ => ("RingHeap$Words", "free", "I", false)
def tyX6 : Nat → FieldType := fun k => match k with
  | 0 => .array (.object "RingHeap$Thing")
  | _ => .int
abbrev wsX60 : List Cond := u_ws RX6 TX6 2
theorem nmX6 : ∀ a, a < 2 → ∀ b, b < 2 → a ≠ b → (TX6 a).2.1 ≠ (TX6 b).2.1 := by decide +kernel
theorem tyX6_ok : ∀ k, k < 2 → parseFieldDescriptor (TX6 k).2.2.1 = some (tyX6 k) := by decide +kernel
abbrev cX6_init : ByteArray := prog_8_method_1_code
def yX6_init : MethodName := ⟨RX6, "<init>", "()V"⟩
abbrev cX6_owner : ByteArray := prog_8_method_2_code
def yX6_owner : MethodName := ⟨RX6, "owner", "(I)LRingHeap$Thing;"⟩
abbrev cX6_ownerFrom : ByteArray := prog_8_method_3_code
def yX6_ownerFrom : MethodName := ⟨RX6, "ownerFrom", "(I)LRingHeap$Thing;"⟩
abbrev cX6_gapFor : ByteArray := prog_8_method_4_code
def yX6_gapFor : MethodName := ⟨RX6, "gapFor", "(I)I"⟩
abbrev cX6_give : ByteArray := prog_8_method_5_code
def yX6_give : MethodName := ⟨RX6, "give", "(LRingHeap$Thing;I)V"⟩
abbrev cX6_takeBack : ByteArray := prog_8_method_6_code
def yX6_takeBack : MethodName := ⟨RX6, "takeBack", "(LRingHeap$Thing;)V"⟩
abbrev cX6_moveAllDown : ByteArray := prog_8_method_7_code
def yX6_moveAllDown : MethodName := ⟨RX6, "moveAllDown", "()I"⟩
def RX7 : String := "RingHeap"
def TX7 : u_T := fun k => match k with
  | 0 => ("RingHeap", "kinds", "[LRingHeap$Kind;", true)
  | 1 => ("RingHeap", "store", "LRingHeap$Store;", true)
  | 2 => ("RingHeap", "counting", "LRingHeap$Counting;", true)
  | 3 => ("RingHeap", "collector", "LRingHeap$Collector;", true)
  | _ => ("RingHeap", "moves", "I", false)
def tyX7 : Nat → FieldType := fun k => match k with
  | 0 => .array (.object "RingHeap$Kind")
  | 1 => .object "RingHeap$Store"
  | 2 => .object "RingHeap$Counting"
  | 3 => .object "RingHeap$Collector"
  | _ => .int
abbrev wsX70 : List Cond := u_ws RX7 TX7 5
theorem nmX7 : ∀ a, a < 5 → ∀ b, b < 5 → a ≠ b → (TX7 a).2.1 ≠ (TX7 b).2.1 := by decide +kernel
theorem tyX7_ok : ∀ k, k < 5 → parseFieldDescriptor (TX7 k).2.2.1 = some (tyX7 k) := by decide +kernel
abbrev cX7_init : ByteArray := prog_1_method_1_code
def yX7_init : MethodName := ⟨RX7, "<init>", "()V"⟩
abbrev cX7_type : ByteArray := prog_1_method_2_code
def yX7_type : MethodName := ⟨RX7, "type", "(IIIZ)Z"⟩
abbrev cX7_make : ByteArray := prog_1_method_3_code
def yX7_make : MethodName := ⟨RX7, "make", "(I)I"⟩
abbrev cX7_hold : ByteArray := prog_1_method_4_code
def yX7_hold : MethodName := ⟨RX7, "hold", "(I)I"⟩
abbrev cX7_loose : ByteArray := prog_1_method_5_code
def yX7_loose : MethodName := ⟨RX7, "loose", "(I)I"⟩
abbrev cX7_set : ByteArray := prog_1_method_6_code
def yX7_set : MethodName := ⟨RX7, "set", "(III)I"⟩
abbrev cX7_get : ByteArray := prog_1_method_7_code
def yX7_get : MethodName := ⟨RX7, "get", "(II)I"⟩
abbrev cX7_wish : ByteArray := prog_1_method_8_code
def yX7_wish : MethodName := ⟨RX7, "wish", "()I"⟩
abbrev cX7_collect : ByteArray := prog_1_method_9_code
def yX7_collect : MethodName := ⟨RX7, "collect", "()I"⟩
abbrev cX7_pack : ByteArray := prog_1_method_10_code
def yX7_pack : MethodName := ⟨RX7, "pack", "()I"⟩
abbrev cX7_weak : ByteArray := prog_1_method_11_code
def yX7_weak : MethodName := ⟨RX7, "weak", "(II)I"⟩
abbrev cX7_seen : ByteArray := prog_1_method_12_code
def yX7_seen : MethodName := ⟨RX7, "seen", "(I)I"⟩
abbrev cX7_object : ByteArray := prog_1_method_13_code
def yX7_object : MethodName := ⟨RX7, "object", "(II)I"⟩
abbrev cX7_count : ByteArray := prog_1_method_14_code
def yX7_count : MethodName := ⟨RX7, "count", "(I)I"⟩
abbrev cX7_listed : ByteArray := prog_1_method_15_code
def yX7_listed : MethodName := ⟨RX7, "listed", "(I)I"⟩
abbrev cX7_freed : ByteArray := prog_1_method_16_code
def yX7_freed : MethodName := ⟨RX7, "freed", "(I)I"⟩
abbrev cX7_at : ByteArray := prog_1_method_17_code
def yX7_at : MethodName := ⟨RX7, "at", "(I)I"⟩
abbrev cX7_makeRoomByMoving : ByteArray := prog_1_method_18_code
def yX7_makeRoomByMoving : MethodName := ⟨RX7, "makeRoomByMoving", "(LRingHeap$Kind;)Z"⟩
abbrev cX7_numberOf : ByteArray := prog_1_method_19_code
def yX7_numberOf : MethodName := ⟨RX7, "numberOf", "(LRingHeap$Thing;)I"⟩
def RX8 : String := "RingHeapModel"
def TX8 : u_T := fun k => match k with
  | 0 => ("RingHeapModel", "thrown", "I", false)
  | 1 => ("RingHeapModel", "typeFields", "[I", true)
  | 2 => ("RingHeapModel", "typeWords", "[I", true)
  | 3 => ("RingHeapModel", "typeWish", "[Z", true)
  | 4 => ("RingHeapModel", "types", "[I", true)
  | 5 => ("RingHeapModel", "counts", "[I", true)
  | 6 => ("RingHeapModel", "colours", "[I", true)
  | 7 => ("RingHeapModel", "addresses", "[I", true)
  | 8 => ("RingHeapModel", "hands", "[I", true)
  | 9 => ("RingHeapModel", "listedNow", "[Z", true)
  | 10 => ("RingHeapModel", "wishTold", "[Z", true)
  | 11 => ("RingHeapModel", "husks", "[Z", true)
  | 12 => ("RingHeapModel", "fields", "[I", true)
  | 13 => ("RingHeapModel", "owners", "[I", true)
  | 14 => ("RingHeapModel", "list", "[I", true)
  | 15 => ("RingHeapModel", "listCount", "I", false)
  | 16 => ("RingHeapModel", "wishes", "[I", true)
  | 17 => ("RingHeapModel", "wishCount", "I", false)
  | 18 => ("RingHeapModel", "weaks", "[I", true)
  | 19 => ("RingHeapModel", "freedRow", "[I", true)
  | 20 => ("RingHeapModel", "freedEver", "I", false)
  | 21 => ("RingHeapModel", "collections", "I", false)
  | 22 => ("RingHeapModel", "moves", "I", false)
  | 23 => ("RingHeapModel", "grayed", "I", false)
  | 24 => ("RingHeapModel", "blackened", "I", false)
  | 25 => ("RingHeapModel", "work", "[I", true)
  | 26 => ("RingHeapModel", "workFields", "[I", true)
  | 27 => ("RingHeapModel", "workCount", "I", false)
  | 28 => ("RingHeapModel", "byAddress", "[I", true)
  | 29 => ("RingHeapModel", "byAddressCount", "I", false)
  | _ => ("RingHeapModel", "blackWork", "[I", true)
def tyX8 : Nat → FieldType := fun k => match k with
  | 0 => .int
  | 1 => .array .int
  | 2 => .array .int
  | 3 => .array .boolean
  | 4 => .array .int
  | 5 => .array .int
  | 6 => .array .int
  | 7 => .array .int
  | 8 => .array .int
  | 9 => .array .boolean
  | 10 => .array .boolean
  | 11 => .array .boolean
  | 12 => .array .int
  | 13 => .array .int
  | 14 => .array .int
  | 15 => .int
  | 16 => .array .int
  | 17 => .int
  | 18 => .array .int
  | 19 => .array .int
  | 20 => .int
  | 21 => .int
  | 22 => .int
  | 23 => .int
  | 24 => .int
  | 25 => .array .int
  | 26 => .array .int
  | 27 => .int
  | 28 => .array .int
  | 29 => .int
  | _ => .array .int
abbrev wsX80 : List Cond := u_ws RX8 TX8 31
theorem nmX8 : ∀ a, a < 31 → ∀ b, b < 31 → a ≠ b → (TX8 a).2.1 ≠ (TX8 b).2.1 := by decide +kernel
theorem tyX8_ok : ∀ k, k < 31 → parseFieldDescriptor (TX8 k).2.2.1 = some (tyX8 k) := by decide +kernel
abbrev cX8_thrown : ByteArray := prog_10_method_1_code
def yX8_thrown : MethodName := ⟨RX8, "thrown", "()I"⟩
abbrev cX8_init : ByteArray := prog_10_method_2_code
def yX8_init : MethodName := ⟨RX8, "<init>", "()V"⟩
abbrev cX8_isThere : ByteArray := prog_10_method_3_code
def yX8_isThere : MethodName := ⟨RX8, "isThere", "(I)Z"⟩
abbrev cX8_isWhole : ByteArray := prog_10_method_4_code
def yX8_isWhole : MethodName := ⟨RX8, "isWhole", "(I)Z"⟩
abbrev cX8_turn : ByteArray := prog_10_method_5_code
def yX8_turn : MethodName := ⟨RX8, "turn", "(II)V"⟩
abbrev cX8_fieldsOf : ByteArray := prog_10_method_6_code
def yX8_fieldsOf : MethodName := ⟨RX8, "fieldsOf", "(I)I"⟩
abbrev cX8_type : ByteArray := prog_10_method_7_code
def yX8_type : MethodName := ⟨RX8, "type", "(IIIZ)Z"⟩
abbrev cX8_free : ByteArray := prog_10_method_8_code
def yX8_free : MethodName := ⟨RX8, "free", "(I)V"⟩
abbrev cX8_hasWish : ByteArray := prog_10_method_9_code
def yX8_hasWish : MethodName := ⟨RX8, "hasWish", "(I)Z"⟩
abbrev cX8_comesToWishes : ByteArray := prog_10_method_10_code
def yX8_comesToWishes : MethodName := ⟨RX8, "comesToWishes", "(I)V"⟩
abbrev cX8_isLetGo : ByteArray := prog_10_method_11_code
def yX8_isLetGo : MethodName := ⟨RX8, "isLetGo", "(I)Z"⟩
abbrev cX8_less : ByteArray := prog_10_method_12_code
def yX8_less : MethodName := ⟨RX8, "less", "(I)V"⟩
abbrev cX8_more : ByteArray := prog_10_method_13_code
def yX8_more : MethodName := ⟨RX8, "more", "(I)V"⟩
abbrev cX8_gray : ByteArray := prog_10_method_14_code
def yX8_gray : MethodName := ⟨RX8, "gray", "(I)V"⟩
abbrev cX8_grayOne : ByteArray := prog_10_method_15_code
def yX8_grayOne : MethodName := ⟨RX8, "grayOne", "(I)V"⟩
abbrev cX8_blacken : ByteArray := prog_10_method_16_code
def yX8_blacken : MethodName := ⟨RX8, "blacken", "(I)V"⟩
abbrev cX8_scan : ByteArray := prog_10_method_17_code
def yX8_scan : MethodName := ⟨RX8, "scan", "(I)V"⟩
abbrev cX8_scanOne : ByteArray := prog_10_method_18_code
def yX8_scanOne : MethodName := ⟨RX8, "scanOne", "(I)V"⟩
abbrev cX8_findByAddress : ByteArray := prog_10_method_19_code
def yX8_findByAddress : MethodName := ⟨RX8, "findByAddress", "()V"⟩
abbrev cX8_mark : ByteArray := prog_10_method_20_code
def yX8_mark : MethodName := ⟨RX8, "mark", "()V"⟩
abbrev cX8_gather : ByteArray := prog_10_method_21_code
def yX8_gather : MethodName := ⟨RX8, "gather", "()V"⟩
abbrev cX8_collect : ByteArray := prog_10_method_22_code
def yX8_collect : MethodName := ⟨RX8, "collect", "()I"⟩
abbrev cX8_place : ByteArray := prog_10_method_23_code
def yX8_place : MethodName := ⟨RX8, "place", "(I)I"⟩
abbrev cX8_number : ByteArray := prog_10_method_24_code
def yX8_number : MethodName := ⟨RX8, "number", "()I"⟩
abbrev cX8_freeWords : ByteArray := prog_10_method_25_code
def yX8_freeWords : MethodName := ⟨RX8, "freeWords", "()I"⟩
abbrev cX8_pack : ByteArray := prog_10_method_26_code
def yX8_pack : MethodName := ⟨RX8, "pack", "()I"⟩
abbrev cX8_make : ByteArray := prog_10_method_27_code
def yX8_make : MethodName := ⟨RX8, "make", "(I)I"⟩
abbrev cX8_hold : ByteArray := prog_10_method_28_code
def yX8_hold : MethodName := ⟨RX8, "hold", "(I)I"⟩
abbrev cX8_loose : ByteArray := prog_10_method_29_code
def yX8_loose : MethodName := ⟨RX8, "loose", "(I)I"⟩
abbrev cX8_set : ByteArray := prog_10_method_30_code
def yX8_set : MethodName := ⟨RX8, "set", "(III)I"⟩
abbrev cX8_get : ByteArray := prog_10_method_31_code
def yX8_get : MethodName := ⟨RX8, "get", "(II)I"⟩
abbrev cX8_wish : ByteArray := prog_10_method_32_code
def yX8_wish : MethodName := ⟨RX8, "wish", "()I"⟩
abbrev cX8_weak : ByteArray := prog_10_method_33_code
def yX8_weak : MethodName := ⟨RX8, "weak", "(II)I"⟩
abbrev cX8_seen : ByteArray := prog_10_method_34_code
def yX8_seen : MethodName := ⟨RX8, "seen", "(I)I"⟩
abbrev cX8_object : ByteArray := prog_10_method_35_code
def yX8_object : MethodName := ⟨RX8, "object", "(II)I"⟩
abbrev cX8_count : ByteArray := prog_10_method_36_code
def yX8_count : MethodName := ⟨RX8, "count", "(I)I"⟩
abbrev cX8_listed : ByteArray := prog_10_method_37_code
def yX8_listed : MethodName := ⟨RX8, "listed", "(I)I"⟩
abbrev cX8_freed : ByteArray := prog_10_method_38_code
def yX8_freed : MethodName := ⟨RX8, "freed", "(I)I"⟩
abbrev cX8_at : ByteArray := prog_10_method_39_code
def yX8_at : MethodName := ⟨RX8, "at", "(I)I"⟩
def RJ0 : String := "java/lang/String"
def TJ0 : u_T := fun k => match k with
  | _ => ("", "", "", false)
def tyJ0 : Nat → FieldType := fun k => match k with
  | _ => .int
abbrev wsJ00 : List Cond := u_ws RJ0 TJ0 0
theorem nmJ0 : ∀ a, a < 0 → ∀ b, b < 0 → a ≠ b → (TJ0 a).2.1 ≠ (TJ0 b).2.1 := by decide +kernel
theorem tyJ0_ok : ∀ k, k < 0 → parseFieldDescriptor (TJ0 k).2.2.1 = some (tyJ0 k) := by decide +kernel
def RL : String := "RingHeapLaw"
abbrev cL_type : ByteArray := method_3_code
def yL_type : MethodName := ⟨RL, "type", "(LRingHeap;IIIZ[J)I"⟩
abbrev cL_make : ByteArray := method_4_code
def yL_make : MethodName := ⟨RL, "make", "(LRingHeap;I[J)I"⟩
abbrev cL_set : ByteArray := method_5_code
def yL_set : MethodName := ⟨RL, "set", "(LRingHeap;III[J)I"⟩
abbrev cL_get : ByteArray := method_6_code
def yL_get : MethodName := ⟨RL, "get", "(LRingHeap;II[J)I"⟩
abbrev cL_weak : ByteArray := method_7_code
def yL_weak : MethodName := ⟨RL, "weak", "(LRingHeap;II[J)I"⟩
abbrev cL_seen : ByteArray := method_8_code
def yL_seen : MethodName := ⟨RL, "seen", "(LRingHeap;I[J)I"⟩
abbrev cL_object : ByteArray := method_9_code
def yL_object : MethodName := ⟨RL, "object", "(LRingHeap;II[J)I"⟩
abbrev cL_count : ByteArray := method_10_code
def yL_count : MethodName := ⟨RL, "count", "(LRingHeap;I[J)I"⟩
abbrev cL_at : ByteArray := method_11_code
def yL_at : MethodName := ⟨RL, "at", "(LRingHeap;I[J)I"⟩
abbrev cL_law : ByteArray := code
def yL_law : MethodName := ⟨RL, "law", "([I)Z"⟩
def wsX3_init : List Cond := .code yX3_init cX3_init 1 none :: ([.methodLink RX3 3 objectInit, .instanceMethod objectInit, .code objectInit ⟨#[0xb1]⟩ 1 none, .classLink RX3 9 RX5, .fieldLink RX3 11 "RingHeap$Row" "things" "[LRingHeap$Thing;"] ++ wsX30)
def wsX0_init : List Cond := .code yX0_init cX0_init 3 none :: ([.methodLink RX0 3 objectInit, .instanceMethod objectInit, .code objectInit ⟨#[0xb1]⟩ 1 none, .classLink RX0 9 RX3, .instantiable RX3 2, .initialized RX3, .fieldLink RX0 12 "RingHeap$Collector" "reached" "LRingHeap$Row;", .fieldLink RX0 18 "RingHeap$Collector" "darkened" "LRingHeap$Row;", .fieldLink RX0 21 "RingHeap$Collector" "store" "LRingHeap$Store;", .fieldLink RX0 25 "RingHeap$Collector" "counting" "LRingHeap$Counting;", .instanceMethod yX3_init, .code yX3_init cX3_init 1 none, .methodLink RX3 3 objectInit, .classLink RX3 9 RX5, .fieldLink RX3 11 "RingHeap$Row" "things" "[LRingHeap$Thing;"] ++ wsX30 ++ wsX00)
def wsX3_item : List Cond := .code yX3_item cX3_item 2 (some (.object "RingHeap$Thing")) :: ([.fieldLink RX3 17 "RingHeap$Row" "length" "I", .fieldLink RX3 11 "RingHeap$Row" "things" "[LRingHeap$Thing;"] ++ wsX30)
def wsX6_takeBack : List Cond := .code yX6_takeBack cX6_takeBack 4 none :: ([.fieldLink RX6 25 "RingHeap$Thing" "address" "I", .fieldLink RX6 28 "RingHeap$Thing" "kind" "LRingHeap$Kind;", .fieldLink RX6 32 "RingHeap$Kind" "size" "I", .fieldLink RX6 11 "RingHeap$Words" "owners" "[LRingHeap$Thing;", .fieldLink RX6 17 "RingHeap$Words" "free" "I"] ++ wsX50 ++ wsX20 ++ wsX60)
def wsX4_free : List Cond := .code yX4_free cX4_free 3 none :: ([.fieldLink RX4 27 "RingHeap$Store" "words" "LRingHeap$Words;", .fieldLink RX4 11 "RingHeap$Store" "things" "[LRingHeap$Thing;", .fieldLink RX4 67 "RingHeap$Thing" "number" "I", .fieldLink RX4 60 "RingHeap$Store" "thingsThere" "I", .fieldLink RX4 21 "RingHeap$Store" "weaks" "[LRingHeap$Thing;", .fieldLink RX4 17 "RingHeap$Store" "freedNumbers" "[I", .fieldLink RX4 70 "RingHeap$Store" "freedEver" "I", .methodLink RX4 63 yX6_takeBack, .instanceMethod yX6_takeBack, .selects RX6 yX6_takeBack yX6_takeBack, .initialized RX6, .code yX6_takeBack cX6_takeBack 4 none, .fieldLink RX6 25 "RingHeap$Thing" "address" "I", .fieldLink RX6 28 "RingHeap$Thing" "kind" "LRingHeap$Kind;", .fieldLink RX6 32 "RingHeap$Kind" "size" "I", .fieldLink RX6 11 "RingHeap$Words" "owners" "[LRingHeap$Thing;", .fieldLink RX6 17 "RingHeap$Words" "free" "I"] ++ wsX40 ++ wsX50 ++ wsX20 ++ wsX60)
def wsX3_clear : List Cond := .code yX3_clear cX3_clear 1 none :: ([.fieldLink RX3 17 "RingHeap$Row" "length" "I"] ++ wsX30)
def wsX5_isGreen : List Cond := .code yX5_isGreen cX5_isGreen 1 (some .boolean) :: ([.fieldLink RX5 34 "RingHeap$Thing" "colour" "I"] ++ wsX50)
def wsX3_append : List Cond := .code yX3_append cX3_append 2 none :: ([.fieldLink RX3 17 "RingHeap$Row" "length" "I", .fieldLink RX3 11 "RingHeap$Row" "things" "[LRingHeap$Thing;"] ++ wsX30)
def wsX0_turnGray : List Cond := .code yX0_turnGray cX0_turnGray 2 none :: ([.fieldLink RX0 78 "RingHeap$Thing" "colour" "I", .fieldLink RX0 101 "RingHeap$Collector" "grayed" "I", .fieldLink RX0 12 "RingHeap$Collector" "reached" "LRingHeap$Row;", .methodLink RX0 94 yX5_isGreen, .instanceMethod yX5_isGreen, .selects RX5 yX5_isGreen yX5_isGreen, .initialized RX5, .code yX5_isGreen cX5_isGreen 1 (some .boolean), .fieldLink RX5 34 "RingHeap$Thing" "colour" "I", .methodLink RX0 104 yX3_append, .instanceMethod yX3_append, .selects RX3 yX3_append yX3_append, .initialized RX3, .code yX3_append cX3_append 2 none, .fieldLink RX3 17 "RingHeap$Row" "length" "I", .fieldLink RX3 11 "RingHeap$Row" "things" "[LRingHeap$Thing;"] ++ wsX50 ++ wsX00 ++ wsX30)
def wsX0_markFrom_r1 : List Cond := [Cond.fieldLink RX0 12 "RingHeap$Collector" "reached" "LRingHeap$Row;", Cond.fieldLink RX0 58 "RingHeap$Row" "length" "I", Cond.fieldLink RX0 90 "RingHeap$Thing" "held" "[LRingHeap$Thing;", Cond.fieldLink RX0 98 "RingHeap$Thing" "count" "I", Cond.methodLink RX0 84 yX3_clear, Cond.instanceMethod yX3_clear, Cond.selects RX3 yX3_clear yX3_clear, Cond.initialized RX3, Cond.code yX3_clear cX3_clear 1 none, Cond.fieldLink RX3 17 "RingHeap$Row" "length" "I", Cond.methodLink RX0 87 yX0_turnGray, Cond.instanceMethod yX0_turnGray, Cond.selects RX0 yX0_turnGray yX0_turnGray, Cond.initialized RX0, Cond.code yX0_turnGray cX0_turnGray 2 none, Cond.fieldLink RX0 78 "RingHeap$Thing" "colour" "I", Cond.fieldLink RX0 101 "RingHeap$Collector" "grayed" "I", Cond.methodLink RX0 94 yX5_isGreen, Cond.instanceMethod yX5_isGreen, Cond.selects RX5 yX5_isGreen yX5_isGreen, Cond.initialized RX5, Cond.code yX5_isGreen cX5_isGreen 1 (some .boolean), Cond.fieldLink RX5 34 "RingHeap$Thing" "colour" "I", Cond.methodLink RX0 104 yX3_append]
def wsX0_markFrom_r2 : List Cond := [Cond.instanceMethod yX3_append, Cond.selects RX3 yX3_append yX3_append, Cond.code yX3_append cX3_append 2 none, Cond.fieldLink RX3 11 "RingHeap$Row" "things" "[LRingHeap$Thing;", Cond.methodLink RX0 61 yX3_item, Cond.instanceMethod yX3_item, Cond.selects RX3 yX3_item yX3_item, Cond.code yX3_item cX3_item 2 (some (.object "RingHeap$Thing"))]
def wsX0_markFrom : List Cond := .code yX0_markFrom cX0_markFrom 8 none :: ((wsX0_markFrom_r1 ++ wsX0_markFrom_r2) ++ wsX00 ++ wsX30 ++ wsX50)
def wsX0_markListed_r1 : List Cond := [Cond.fieldLink RX0 25 "RingHeap$Collector" "counting" "LRingHeap$Counting;", Cond.fieldLink RX0 53 "RingHeap$Counting" "list" "LRingHeap$Row;", Cond.fieldLink RX0 58 "RingHeap$Row" "length" "I", Cond.fieldLink RX0 65 "RingHeap$Thing" "husk" "Z", Cond.fieldLink RX0 71 "RingHeap$Thing" "inList" "Z", Cond.fieldLink RX0 21 "RingHeap$Collector" "store" "LRingHeap$Store;", Cond.fieldLink RX0 78 "RingHeap$Thing" "colour" "I", Cond.methodLink RX0 61 yX3_item, Cond.instanceMethod yX3_item, Cond.selects RX3 yX3_item yX3_item, Cond.initialized RX3, Cond.code yX3_item cX3_item 2 (some (.object "RingHeap$Thing")), Cond.fieldLink RX3 17 "RingHeap$Row" "length" "I", Cond.fieldLink RX3 11 "RingHeap$Row" "things" "[LRingHeap$Thing;", Cond.methodLink RX0 74 yX4_free, Cond.instanceMethod yX4_free, Cond.selects RX4 yX4_free yX4_free, Cond.initialized RX4, Cond.code yX4_free cX4_free 3 none, Cond.fieldLink RX4 27 "RingHeap$Store" "words" "LRingHeap$Words;", Cond.fieldLink RX4 11 "RingHeap$Store" "things" "[LRingHeap$Thing;", Cond.fieldLink RX4 67 "RingHeap$Thing" "number" "I", Cond.fieldLink RX4 60 "RingHeap$Store" "thingsThere" "I", Cond.fieldLink RX4 21 "RingHeap$Store" "weaks" "[LRingHeap$Thing;"]
def wsX0_markListed_r2 : List Cond := [Cond.fieldLink RX4 17 "RingHeap$Store" "freedNumbers" "[I", Cond.fieldLink RX4 70 "RingHeap$Store" "freedEver" "I", Cond.methodLink RX4 63 yX6_takeBack, Cond.instanceMethod yX6_takeBack, Cond.selects RX6 yX6_takeBack yX6_takeBack, Cond.initialized RX6, Cond.code yX6_takeBack cX6_takeBack 4 none, Cond.fieldLink RX6 25 "RingHeap$Thing" "address" "I", Cond.fieldLink RX6 28 "RingHeap$Thing" "kind" "LRingHeap$Kind;", Cond.fieldLink RX6 32 "RingHeap$Kind" "size" "I", Cond.fieldLink RX6 11 "RingHeap$Words" "owners" "[LRingHeap$Thing;", Cond.fieldLink RX6 17 "RingHeap$Words" "free" "I", Cond.methodLink RX0 81 yX0_markFrom, Cond.instanceMethod yX0_markFrom, Cond.selects RX0 yX0_markFrom yX0_markFrom, Cond.initialized RX0, Cond.code yX0_markFrom cX0_markFrom 8 none, Cond.fieldLink RX0 12 "RingHeap$Collector" "reached" "LRingHeap$Row;", Cond.fieldLink RX0 90 "RingHeap$Thing" "held" "[LRingHeap$Thing;", Cond.fieldLink RX0 98 "RingHeap$Thing" "count" "I", Cond.methodLink RX0 84 yX3_clear, Cond.instanceMethod yX3_clear, Cond.selects RX3 yX3_clear yX3_clear, Cond.code yX3_clear cX3_clear 1 none]
def wsX0_markListed_r3 : List Cond := [Cond.methodLink RX0 87 yX0_turnGray, Cond.instanceMethod yX0_turnGray, Cond.selects RX0 yX0_turnGray yX0_turnGray, Cond.code yX0_turnGray cX0_turnGray 2 none, Cond.fieldLink RX0 101 "RingHeap$Collector" "grayed" "I", Cond.methodLink RX0 94 yX5_isGreen, Cond.instanceMethod yX5_isGreen, Cond.selects RX5 yX5_isGreen yX5_isGreen, Cond.initialized RX5, Cond.code yX5_isGreen cX5_isGreen 1 (some .boolean), Cond.fieldLink RX5 34 "RingHeap$Thing" "colour" "I", Cond.methodLink RX0 104 yX3_append, Cond.instanceMethod yX3_append, Cond.selects RX3 yX3_append yX3_append, Cond.code yX3_append cX3_append 2 none]
def wsX0_markListed : List Cond := .code yX0_markListed cX0_markListed 4 none :: ((wsX0_markListed_r1 ++ (wsX0_markListed_r2 ++ wsX0_markListed_r3)) ++ wsX00 ++ wsX10 ++ wsX30 ++ wsX50 ++ wsX40 ++ wsX20 ++ wsX60)
def wsX0_turnBlack : List Cond := .code yX0_turnBlack cX0_turnBlack 2 none :: ([.fieldLink RX0 78 "RingHeap$Thing" "colour" "I", .fieldLink RX0 119 "RingHeap$Collector" "blackened" "I", .fieldLink RX0 18 "RingHeap$Collector" "darkened" "LRingHeap$Row;", .methodLink RX0 104 yX3_append, .instanceMethod yX3_append, .selects RX3 yX3_append yX3_append, .initialized RX3, .code yX3_append cX3_append 2 none, .fieldLink RX3 17 "RingHeap$Row" "length" "I", .fieldLink RX3 11 "RingHeap$Row" "things" "[LRingHeap$Thing;"] ++ wsX50 ++ wsX00 ++ wsX30)
def wsX0_blackenFrom_r1 : List Cond := [Cond.fieldLink RX0 18 "RingHeap$Collector" "darkened" "LRingHeap$Row;", Cond.fieldLink RX0 58 "RingHeap$Row" "length" "I", Cond.fieldLink RX0 90 "RingHeap$Thing" "held" "[LRingHeap$Thing;", Cond.fieldLink RX0 98 "RingHeap$Thing" "count" "I", Cond.methodLink RX0 84 yX3_clear, Cond.instanceMethod yX3_clear, Cond.selects RX3 yX3_clear yX3_clear, Cond.initialized RX3, Cond.code yX3_clear cX3_clear 1 none, Cond.fieldLink RX3 17 "RingHeap$Row" "length" "I", Cond.methodLink RX0 116 yX0_turnBlack, Cond.instanceMethod yX0_turnBlack, Cond.selects RX0 yX0_turnBlack yX0_turnBlack, Cond.initialized RX0, Cond.code yX0_turnBlack cX0_turnBlack 2 none, Cond.fieldLink RX0 78 "RingHeap$Thing" "colour" "I", Cond.fieldLink RX0 119 "RingHeap$Collector" "blackened" "I", Cond.methodLink RX0 104 yX3_append, Cond.instanceMethod yX3_append, Cond.selects RX3 yX3_append yX3_append, Cond.code yX3_append cX3_append 2 none, Cond.fieldLink RX3 11 "RingHeap$Row" "things" "[LRingHeap$Thing;", Cond.methodLink RX0 61 yX3_item, Cond.instanceMethod yX3_item]
def wsX0_blackenFrom_r2 : List Cond := [Cond.selects RX3 yX3_item yX3_item, Cond.code yX3_item cX3_item 2 (some (.object "RingHeap$Thing")), Cond.methodLink RX0 94 yX5_isGreen, Cond.instanceMethod yX5_isGreen, Cond.selects RX5 yX5_isGreen yX5_isGreen, Cond.initialized RX5, Cond.code yX5_isGreen cX5_isGreen 1 (some .boolean), Cond.fieldLink RX5 34 "RingHeap$Thing" "colour" "I"]
def wsX0_blackenFrom : List Cond := .code yX0_blackenFrom cX0_blackenFrom 8 none :: ((wsX0_blackenFrom_r1 ++ wsX0_blackenFrom_r2) ++ wsX00 ++ wsX30 ++ wsX50)
def wsX0_judge_r1 : List Cond := [Cond.fieldLink RX0 78 "RingHeap$Thing" "colour" "I", Cond.fieldLink RX0 98 "RingHeap$Thing" "count" "I", Cond.fieldLink RX0 12 "RingHeap$Collector" "reached" "LRingHeap$Row;", Cond.methodLink RX0 113 yX0_blackenFrom, Cond.instanceMethod yX0_blackenFrom, Cond.selects RX0 yX0_blackenFrom yX0_blackenFrom, Cond.initialized RX0, Cond.code yX0_blackenFrom cX0_blackenFrom 8 none, Cond.fieldLink RX0 18 "RingHeap$Collector" "darkened" "LRingHeap$Row;", Cond.fieldLink RX0 58 "RingHeap$Row" "length" "I", Cond.fieldLink RX0 90 "RingHeap$Thing" "held" "[LRingHeap$Thing;", Cond.methodLink RX0 84 yX3_clear, Cond.instanceMethod yX3_clear, Cond.selects RX3 yX3_clear yX3_clear, Cond.initialized RX3, Cond.code yX3_clear cX3_clear 1 none, Cond.fieldLink RX3 17 "RingHeap$Row" "length" "I", Cond.methodLink RX0 116 yX0_turnBlack, Cond.instanceMethod yX0_turnBlack, Cond.selects RX0 yX0_turnBlack yX0_turnBlack, Cond.code yX0_turnBlack cX0_turnBlack 2 none, Cond.fieldLink RX0 119 "RingHeap$Collector" "blackened" "I", Cond.methodLink RX0 104 yX3_append, Cond.instanceMethod yX3_append]
def wsX0_judge_r2 : List Cond := [Cond.selects RX3 yX3_append yX3_append, Cond.code yX3_append cX3_append 2 none, Cond.fieldLink RX3 11 "RingHeap$Row" "things" "[LRingHeap$Thing;", Cond.methodLink RX0 61 yX3_item, Cond.instanceMethod yX3_item, Cond.selects RX3 yX3_item yX3_item, Cond.code yX3_item cX3_item 2 (some (.object "RingHeap$Thing")), Cond.methodLink RX0 94 yX5_isGreen, Cond.instanceMethod yX5_isGreen, Cond.selects RX5 yX5_isGreen yX5_isGreen, Cond.initialized RX5, Cond.code yX5_isGreen cX5_isGreen 1 (some .boolean), Cond.fieldLink RX5 34 "RingHeap$Thing" "colour" "I"]
def wsX0_judge : List Cond := .code yX0_judge cX0_judge 2 none :: ((wsX0_judge_r1 ++ wsX0_judge_r2) ++ wsX50 ++ wsX00 ++ wsX30)
def wsX0_scanFrom_r1 : List Cond := [Cond.fieldLink RX0 12 "RingHeap$Collector" "reached" "LRingHeap$Row;", Cond.fieldLink RX0 58 "RingHeap$Row" "length" "I", Cond.fieldLink RX0 90 "RingHeap$Thing" "held" "[LRingHeap$Thing;", Cond.methodLink RX0 84 yX3_clear, Cond.instanceMethod yX3_clear, Cond.selects RX3 yX3_clear yX3_clear, Cond.initialized RX3, Cond.code yX3_clear cX3_clear 1 none, Cond.fieldLink RX3 17 "RingHeap$Row" "length" "I", Cond.methodLink RX0 110 yX0_judge, Cond.instanceMethod yX0_judge, Cond.selects RX0 yX0_judge yX0_judge, Cond.initialized RX0, Cond.code yX0_judge cX0_judge 2 none, Cond.fieldLink RX0 78 "RingHeap$Thing" "colour" "I", Cond.fieldLink RX0 98 "RingHeap$Thing" "count" "I", Cond.methodLink RX0 113 yX0_blackenFrom, Cond.instanceMethod yX0_blackenFrom, Cond.selects RX0 yX0_blackenFrom yX0_blackenFrom, Cond.code yX0_blackenFrom cX0_blackenFrom 8 none, Cond.fieldLink RX0 18 "RingHeap$Collector" "darkened" "LRingHeap$Row;", Cond.methodLink RX0 116 yX0_turnBlack, Cond.instanceMethod yX0_turnBlack, Cond.selects RX0 yX0_turnBlack yX0_turnBlack]
def wsX0_scanFrom_r2 : List Cond := [Cond.code yX0_turnBlack cX0_turnBlack 2 none, Cond.fieldLink RX0 119 "RingHeap$Collector" "blackened" "I", Cond.methodLink RX0 104 yX3_append, Cond.instanceMethod yX3_append, Cond.selects RX3 yX3_append yX3_append, Cond.code yX3_append cX3_append 2 none, Cond.fieldLink RX3 11 "RingHeap$Row" "things" "[LRingHeap$Thing;", Cond.methodLink RX0 61 yX3_item, Cond.instanceMethod yX3_item, Cond.selects RX3 yX3_item yX3_item, Cond.code yX3_item cX3_item 2 (some (.object "RingHeap$Thing")), Cond.methodLink RX0 94 yX5_isGreen, Cond.instanceMethod yX5_isGreen, Cond.selects RX5 yX5_isGreen yX5_isGreen, Cond.initialized RX5, Cond.code yX5_isGreen cX5_isGreen 1 (some .boolean), Cond.fieldLink RX5 34 "RingHeap$Thing" "colour" "I"]
def wsX0_scanFrom : List Cond := .code yX0_scanFrom cX0_scanFrom 8 none :: ((wsX0_scanFrom_r1 ++ wsX0_scanFrom_r2) ++ wsX00 ++ wsX30 ++ wsX50)
def wsX0_scanListed_r1 : List Cond := [Cond.fieldLink RX0 25 "RingHeap$Collector" "counting" "LRingHeap$Counting;", Cond.fieldLink RX0 53 "RingHeap$Counting" "list" "LRingHeap$Row;", Cond.fieldLink RX0 58 "RingHeap$Row" "length" "I", Cond.fieldLink RX0 71 "RingHeap$Thing" "inList" "Z", Cond.methodLink RX0 61 yX3_item, Cond.instanceMethod yX3_item, Cond.selects RX3 yX3_item yX3_item, Cond.initialized RX3, Cond.code yX3_item cX3_item 2 (some (.object "RingHeap$Thing")), Cond.fieldLink RX3 17 "RingHeap$Row" "length" "I", Cond.fieldLink RX3 11 "RingHeap$Row" "things" "[LRingHeap$Thing;", Cond.methodLink RX0 107 yX0_scanFrom, Cond.instanceMethod yX0_scanFrom, Cond.selects RX0 yX0_scanFrom yX0_scanFrom, Cond.initialized RX0, Cond.code yX0_scanFrom cX0_scanFrom 8 none, Cond.fieldLink RX0 12 "RingHeap$Collector" "reached" "LRingHeap$Row;", Cond.fieldLink RX0 90 "RingHeap$Thing" "held" "[LRingHeap$Thing;", Cond.methodLink RX0 84 yX3_clear, Cond.instanceMethod yX3_clear, Cond.selects RX3 yX3_clear yX3_clear, Cond.code yX3_clear cX3_clear 1 none, Cond.methodLink RX0 110 yX0_judge, Cond.instanceMethod yX0_judge]
def wsX0_scanListed_r2 : List Cond := [Cond.selects RX0 yX0_judge yX0_judge, Cond.code yX0_judge cX0_judge 2 none, Cond.fieldLink RX0 78 "RingHeap$Thing" "colour" "I", Cond.fieldLink RX0 98 "RingHeap$Thing" "count" "I", Cond.methodLink RX0 113 yX0_blackenFrom, Cond.instanceMethod yX0_blackenFrom, Cond.selects RX0 yX0_blackenFrom yX0_blackenFrom, Cond.code yX0_blackenFrom cX0_blackenFrom 8 none, Cond.fieldLink RX0 18 "RingHeap$Collector" "darkened" "LRingHeap$Row;", Cond.methodLink RX0 116 yX0_turnBlack, Cond.instanceMethod yX0_turnBlack, Cond.selects RX0 yX0_turnBlack yX0_turnBlack, Cond.code yX0_turnBlack cX0_turnBlack 2 none, Cond.fieldLink RX0 119 "RingHeap$Collector" "blackened" "I", Cond.methodLink RX0 104 yX3_append, Cond.instanceMethod yX3_append, Cond.selects RX3 yX3_append yX3_append, Cond.code yX3_append cX3_append 2 none, Cond.methodLink RX0 94 yX5_isGreen, Cond.instanceMethod yX5_isGreen, Cond.selects RX5 yX5_isGreen yX5_isGreen, Cond.initialized RX5, Cond.code yX5_isGreen cX5_isGreen 1 (some .boolean), Cond.fieldLink RX5 34 "RingHeap$Thing" "colour" "I"]
def wsX0_scanListed : List Cond := .code yX0_scanListed cX0_scanListed 4 none :: ((wsX0_scanListed_r1 ++ wsX0_scanListed_r2) ++ wsX00 ++ wsX10 ++ wsX30 ++ wsX50)
def wsX6_owner : List Cond := .code yX6_owner cX6_owner 2 (some (.object "RingHeap$Thing")) :: ([.fieldLink RX6 11 "RingHeap$Words" "owners" "[LRingHeap$Thing;"] ++ wsX60)
def wsX6_ownerFrom : List Cond := .code yX6_ownerFrom cX6_ownerFrom 3 (some (.object "RingHeap$Thing")) :: ([.fieldLink RX6 25 "RingHeap$Thing" "address" "I", .methodLink RX6 21 yX6_owner, .instanceMethod yX6_owner, .selects RX6 yX6_owner yX6_owner, .initialized RX6, .code yX6_owner cX6_owner 2 (some (.object "RingHeap$Thing")), .fieldLink RX6 11 "RingHeap$Words" "owners" "[LRingHeap$Thing;"] ++ wsX50 ++ wsX60)
def wsX1_tellWish : List Cond := .code yX1_tellWish cX1_tellWish 2 none :: ([.fieldLink RX1 56 "RingHeap$Thing" "wishUntold" "Z", .fieldLink RX1 28 "RingHeap$Thing" "count" "I", .fieldLink RX1 21 "RingHeap$Counting" "wishes" "LRingHeap$Row;", .methodLink RX1 60 yX3_append, .instanceMethod yX3_append, .selects RX3 yX3_append yX3_append, .initialized RX3, .code yX3_append cX3_append 2 none, .fieldLink RX3 17 "RingHeap$Row" "length" "I", .fieldLink RX3 11 "RingHeap$Row" "things" "[LRingHeap$Thing;"] ++ wsX50 ++ wsX10 ++ wsX30)
def wsX0_tellWishes_r1 : List Cond := [Cond.fieldLink RX0 21 "RingHeap$Collector" "store" "LRingHeap$Store;", Cond.fieldLink RX0 122 "RingHeap$Store" "words" "LRingHeap$Words;", Cond.fieldLink RX0 78 "RingHeap$Thing" "colour" "I", Cond.fieldLink RX0 131 "RingHeap$Thing" "wishUntold" "Z", Cond.fieldLink RX0 25 "RingHeap$Collector" "counting" "LRingHeap$Counting;", Cond.methodLink RX0 126 yX6_ownerFrom, Cond.instanceMethod yX6_ownerFrom, Cond.selects RX6 yX6_ownerFrom yX6_ownerFrom, Cond.initialized RX6, Cond.code yX6_ownerFrom cX6_ownerFrom 3 (some (.object "RingHeap$Thing")), Cond.fieldLink RX6 25 "RingHeap$Thing" "address" "I", Cond.methodLink RX6 21 yX6_owner, Cond.instanceMethod yX6_owner, Cond.selects RX6 yX6_owner yX6_owner, Cond.code yX6_owner cX6_owner 2 (some (.object "RingHeap$Thing")), Cond.fieldLink RX6 11 "RingHeap$Words" "owners" "[LRingHeap$Thing;", Cond.methodLink RX0 134 yX1_tellWish, Cond.instanceMethod yX1_tellWish, Cond.selects RX1 yX1_tellWish yX1_tellWish, Cond.initialized RX1, Cond.code yX1_tellWish cX1_tellWish 2 none, Cond.fieldLink RX1 56 "RingHeap$Thing" "wishUntold" "Z", Cond.fieldLink RX1 28 "RingHeap$Thing" "count" "I", Cond.fieldLink RX1 21 "RingHeap$Counting" "wishes" "LRingHeap$Row;"]
def wsX0_tellWishes_r2 : List Cond := [Cond.methodLink RX1 60 yX3_append, Cond.instanceMethod yX3_append, Cond.selects RX3 yX3_append yX3_append, Cond.initialized RX3, Cond.code yX3_append cX3_append 2 none, Cond.fieldLink RX3 17 "RingHeap$Row" "length" "I", Cond.fieldLink RX3 11 "RingHeap$Row" "things" "[LRingHeap$Thing;", Cond.methodLink RX0 113 yX0_blackenFrom, Cond.instanceMethod yX0_blackenFrom, Cond.selects RX0 yX0_blackenFrom yX0_blackenFrom, Cond.initialized RX0, Cond.code yX0_blackenFrom cX0_blackenFrom 8 none, Cond.fieldLink RX0 18 "RingHeap$Collector" "darkened" "LRingHeap$Row;", Cond.fieldLink RX0 58 "RingHeap$Row" "length" "I", Cond.fieldLink RX0 90 "RingHeap$Thing" "held" "[LRingHeap$Thing;", Cond.fieldLink RX0 98 "RingHeap$Thing" "count" "I", Cond.methodLink RX0 84 yX3_clear, Cond.instanceMethod yX3_clear, Cond.selects RX3 yX3_clear yX3_clear, Cond.code yX3_clear cX3_clear 1 none, Cond.methodLink RX0 116 yX0_turnBlack, Cond.instanceMethod yX0_turnBlack, Cond.selects RX0 yX0_turnBlack yX0_turnBlack, Cond.code yX0_turnBlack cX0_turnBlack 2 none]
def wsX0_tellWishes_r3 : List Cond := [Cond.fieldLink RX0 119 "RingHeap$Collector" "blackened" "I", Cond.methodLink RX0 104 yX3_append, Cond.methodLink RX0 61 yX3_item, Cond.instanceMethod yX3_item, Cond.selects RX3 yX3_item yX3_item, Cond.code yX3_item cX3_item 2 (some (.object "RingHeap$Thing")), Cond.methodLink RX0 94 yX5_isGreen, Cond.instanceMethod yX5_isGreen, Cond.selects RX5 yX5_isGreen yX5_isGreen, Cond.initialized RX5, Cond.code yX5_isGreen cX5_isGreen 1 (some .boolean), Cond.fieldLink RX5 34 "RingHeap$Thing" "colour" "I"]
def wsX0_tellWishes : List Cond := .code yX0_tellWishes cX0_tellWishes 3 none :: ((wsX0_tellWishes_r1 ++ (wsX0_tellWishes_r2 ++ wsX0_tellWishes_r3)) ++ wsX00 ++ wsX40 ++ wsX50 ++ wsX60 ++ wsX10 ++ wsX30)
def wsX0_emptyList : List Cond := .code yX0_emptyList cX0_emptyList 4 none :: ([.fieldLink RX0 25 "RingHeap$Collector" "counting" "LRingHeap$Counting;", .fieldLink RX0 53 "RingHeap$Counting" "list" "LRingHeap$Row;", .fieldLink RX0 58 "RingHeap$Row" "length" "I", .fieldLink RX0 71 "RingHeap$Thing" "inList" "Z", .methodLink RX0 61 yX3_item, .instanceMethod yX3_item, .selects RX3 yX3_item yX3_item, .initialized RX3, .code yX3_item cX3_item 2 (some (.object "RingHeap$Thing")), .fieldLink RX3 17 "RingHeap$Row" "length" "I", .fieldLink RX3 11 "RingHeap$Row" "things" "[LRingHeap$Thing;", .methodLink RX0 84 yX3_clear, .instanceMethod yX3_clear, .selects RX3 yX3_clear yX3_clear, .code yX3_clear cX3_clear 1 none] ++ wsX00 ++ wsX10 ++ wsX30 ++ wsX50)
def wsX1_suspect : List Cond := .code yX1_suspect cX1_suspect 2 none :: ([.fieldLink RX1 73 "RingHeap$Thing" "colour" "I", .fieldLink RX1 76 "RingHeap$Thing" "inList" "Z", .fieldLink RX1 18 "RingHeap$Counting" "list" "LRingHeap$Row;", .methodLink RX1 69 yX5_isGreen, .instanceMethod yX5_isGreen, .selects RX5 yX5_isGreen yX5_isGreen, .initialized RX5, .code yX5_isGreen cX5_isGreen 1 (some .boolean), .fieldLink RX5 34 "RingHeap$Thing" "colour" "I", .methodLink RX1 60 yX3_append, .instanceMethod yX3_append, .selects RX3 yX3_append yX3_append, .initialized RX3, .code yX3_append cX3_append 2 none, .fieldLink RX3 17 "RingHeap$Row" "length" "I", .fieldLink RX3 11 "RingHeap$Row" "things" "[LRingHeap$Thing;"] ++ wsX50 ++ wsX10 ++ wsX30)
def wsX5_blackenUnlessGreen : List Cond := .code yX5_blackenUnlessGreen cX5_blackenUnlessGreen 1 none :: ([.fieldLink RX5 34 "RingHeap$Thing" "colour" "I", .methodLink RX5 44 yX5_isGreen, .instanceMethod yX5_isGreen, .selects RX5 yX5_isGreen yX5_isGreen, .initialized RX5, .code yX5_isGreen cX5_isGreen 1 (some .boolean)] ++ wsX50)
def wsX1_lower_r1 : List Cond := [Cond.fieldLink RX1 28 "RingHeap$Thing" "count" "I", Cond.fieldLink RX1 56 "RingHeap$Thing" "wishUntold" "Z", Cond.fieldLink RX1 12 "RingHeap$Counting" "going" "LRingHeap$Row;", Cond.methodLink RX1 63 yX1_suspect, Cond.instanceMethod yX1_suspect, Cond.selects RX1 yX1_suspect yX1_suspect, Cond.initialized RX1, Cond.code yX1_suspect cX1_suspect 2 none, Cond.fieldLink RX1 73 "RingHeap$Thing" "colour" "I", Cond.fieldLink RX1 76 "RingHeap$Thing" "inList" "Z", Cond.fieldLink RX1 18 "RingHeap$Counting" "list" "LRingHeap$Row;", Cond.methodLink RX1 69 yX5_isGreen, Cond.instanceMethod yX5_isGreen, Cond.selects RX5 yX5_isGreen yX5_isGreen, Cond.initialized RX5, Cond.code yX5_isGreen cX5_isGreen 1 (some .boolean), Cond.fieldLink RX5 34 "RingHeap$Thing" "colour" "I", Cond.methodLink RX1 60 yX3_append, Cond.instanceMethod yX3_append, Cond.selects RX3 yX3_append yX3_append, Cond.initialized RX3, Cond.code yX3_append cX3_append 2 none, Cond.fieldLink RX3 17 "RingHeap$Row" "length" "I", Cond.fieldLink RX3 11 "RingHeap$Row" "things" "[LRingHeap$Thing;"]
def wsX1_lower_r2 : List Cond := [Cond.methodLink RX1 66 yX1_tellWish, Cond.instanceMethod yX1_tellWish, Cond.selects RX1 yX1_tellWish yX1_tellWish, Cond.code yX1_tellWish cX1_tellWish 2 none, Cond.fieldLink RX1 21 "RingHeap$Counting" "wishes" "LRingHeap$Row;", Cond.methodLink RX1 34 yX5_blackenUnlessGreen, Cond.instanceMethod yX5_blackenUnlessGreen, Cond.selects RX5 yX5_blackenUnlessGreen yX5_blackenUnlessGreen, Cond.code yX5_blackenUnlessGreen cX5_blackenUnlessGreen 1 none, Cond.methodLink RX5 44 yX5_isGreen]
def wsX1_lower : List Cond := .code yX1_lower cX1_lower 2 none :: ((wsX1_lower_r1 ++ wsX1_lower_r2) ++ wsX50 ++ wsX10 ++ wsX30)
def wsX3_last : List Cond := .code yX3_last cX3_last 1 (some (.object "RingHeap$Thing")) :: ([.fieldLink RX3 17 "RingHeap$Row" "length" "I", .methodLink RX3 21 yX3_item, .instanceMethod yX3_item, .selects RX3 yX3_item yX3_item, .initialized RX3, .code yX3_item cX3_item 2 (some (.object "RingHeap$Thing")), .fieldLink RX3 11 "RingHeap$Row" "things" "[LRingHeap$Thing;"] ++ wsX30)
def wsX5_giveUpNext : List Cond := .code yX5_giveUpNext cX5_giveUpNext 2 (some (.object "RingHeap$Thing")) :: ([.fieldLink RX5 48 "RingHeap$Thing" "nextField" "I", .fieldLink RX5 25 "RingHeap$Thing" "held" "[LRingHeap$Thing;"] ++ wsX50)
def wsX3_removeLast : List Cond := .code yX3_removeLast cX3_removeLast 1 none :: ([.fieldLink RX3 17 "RingHeap$Row" "length" "I"] ++ wsX30)
def wsX1_finish_r1 : List Cond := [Cond.fieldLink RX1 12 "RingHeap$Counting" "going" "LRingHeap$Row;", Cond.fieldLink RX1 76 "RingHeap$Thing" "inList" "Z", Cond.fieldLink RX1 82 "RingHeap$Thing" "husk" "Z", Cond.fieldLink RX1 24 "RingHeap$Counting" "store" "LRingHeap$Store;", Cond.methodLink RX1 79 yX3_removeLast, Cond.instanceMethod yX3_removeLast, Cond.selects RX3 yX3_removeLast yX3_removeLast, Cond.initialized RX3, Cond.code yX3_removeLast cX3_removeLast 1 none, Cond.fieldLink RX3 17 "RingHeap$Row" "length" "I", Cond.methodLink RX1 34 yX5_blackenUnlessGreen, Cond.instanceMethod yX5_blackenUnlessGreen, Cond.selects RX5 yX5_blackenUnlessGreen yX5_blackenUnlessGreen, Cond.initialized RX5, Cond.code yX5_blackenUnlessGreen cX5_blackenUnlessGreen 1 none, Cond.fieldLink RX5 34 "RingHeap$Thing" "colour" "I", Cond.methodLink RX5 44 yX5_isGreen, Cond.instanceMethod yX5_isGreen, Cond.selects RX5 yX5_isGreen yX5_isGreen, Cond.code yX5_isGreen cX5_isGreen 1 (some .boolean), Cond.methodLink RX1 85 yX4_free, Cond.instanceMethod yX4_free, Cond.selects RX4 yX4_free yX4_free, Cond.initialized RX4]
def wsX1_finish_r2 : List Cond := [Cond.code yX4_free cX4_free 3 none, Cond.fieldLink RX4 27 "RingHeap$Store" "words" "LRingHeap$Words;", Cond.fieldLink RX4 11 "RingHeap$Store" "things" "[LRingHeap$Thing;", Cond.fieldLink RX4 67 "RingHeap$Thing" "number" "I", Cond.fieldLink RX4 60 "RingHeap$Store" "thingsThere" "I", Cond.fieldLink RX4 21 "RingHeap$Store" "weaks" "[LRingHeap$Thing;", Cond.fieldLink RX4 17 "RingHeap$Store" "freedNumbers" "[I", Cond.fieldLink RX4 70 "RingHeap$Store" "freedEver" "I", Cond.methodLink RX4 63 yX6_takeBack, Cond.instanceMethod yX6_takeBack, Cond.selects RX6 yX6_takeBack yX6_takeBack, Cond.initialized RX6, Cond.code yX6_takeBack cX6_takeBack 4 none, Cond.fieldLink RX6 25 "RingHeap$Thing" "address" "I", Cond.fieldLink RX6 28 "RingHeap$Thing" "kind" "LRingHeap$Kind;", Cond.fieldLink RX6 32 "RingHeap$Kind" "size" "I", Cond.fieldLink RX6 11 "RingHeap$Words" "owners" "[LRingHeap$Thing;", Cond.fieldLink RX6 17 "RingHeap$Words" "free" "I"]
def wsX1_finish : List Cond := .code yX1_finish cX1_finish 2 none :: ((wsX1_finish_r1 ++ wsX1_finish_r2) ++ wsX10 ++ wsX50 ++ wsX30 ++ wsX40 ++ wsX20 ++ wsX60)
def wsX1_less_r1 : List Cond := [Cond.fieldLink RX1 24 "RingHeap$Counting" "store" "LRingHeap$Store;", Cond.fieldLink RX1 37 "RingHeap$Store" "freedEver" "I", Cond.fieldLink RX1 12 "RingHeap$Counting" "going" "LRingHeap$Row;", Cond.methodLink RX1 42 yX1_lower, Cond.instanceMethod yX1_lower, Cond.selects RX1 yX1_lower yX1_lower, Cond.initialized RX1, Cond.code yX1_lower cX1_lower 2 none, Cond.fieldLink RX1 28 "RingHeap$Thing" "count" "I", Cond.fieldLink RX1 56 "RingHeap$Thing" "wishUntold" "Z", Cond.methodLink RX1 63 yX1_suspect, Cond.instanceMethod yX1_suspect, Cond.selects RX1 yX1_suspect yX1_suspect, Cond.code yX1_suspect cX1_suspect 2 none, Cond.fieldLink RX1 73 "RingHeap$Thing" "colour" "I", Cond.fieldLink RX1 76 "RingHeap$Thing" "inList" "Z", Cond.fieldLink RX1 18 "RingHeap$Counting" "list" "LRingHeap$Row;", Cond.methodLink RX1 69 yX5_isGreen, Cond.instanceMethod yX5_isGreen, Cond.selects RX5 yX5_isGreen yX5_isGreen, Cond.initialized RX5, Cond.code yX5_isGreen cX5_isGreen 1 (some .boolean), Cond.fieldLink RX5 34 "RingHeap$Thing" "colour" "I", Cond.methodLink RX1 60 yX3_append]
def wsX1_less_r2 : List Cond := [Cond.instanceMethod yX3_append, Cond.selects RX3 yX3_append yX3_append, Cond.initialized RX3, Cond.code yX3_append cX3_append 2 none, Cond.fieldLink RX3 17 "RingHeap$Row" "length" "I", Cond.fieldLink RX3 11 "RingHeap$Row" "things" "[LRingHeap$Thing;", Cond.methodLink RX1 66 yX1_tellWish, Cond.instanceMethod yX1_tellWish, Cond.selects RX1 yX1_tellWish yX1_tellWish, Cond.code yX1_tellWish cX1_tellWish 2 none, Cond.fieldLink RX1 21 "RingHeap$Counting" "wishes" "LRingHeap$Row;", Cond.methodLink RX1 34 yX5_blackenUnlessGreen, Cond.instanceMethod yX5_blackenUnlessGreen, Cond.selects RX5 yX5_blackenUnlessGreen yX5_blackenUnlessGreen, Cond.code yX5_blackenUnlessGreen cX5_blackenUnlessGreen 1 none, Cond.methodLink RX5 44 yX5_isGreen, Cond.methodLink RX1 46 yX3_last, Cond.instanceMethod yX3_last, Cond.selects RX3 yX3_last yX3_last, Cond.code yX3_last cX3_last 1 (some (.object "RingHeap$Thing")), Cond.methodLink RX3 21 yX3_item, Cond.instanceMethod yX3_item, Cond.selects RX3 yX3_item yX3_item, Cond.code yX3_item cX3_item 2 (some (.object "RingHeap$Thing"))]
def wsX1_less_r3 : List Cond := [Cond.methodLink RX1 50 yX5_giveUpNext, Cond.instanceMethod yX5_giveUpNext, Cond.selects RX5 yX5_giveUpNext yX5_giveUpNext, Cond.code yX5_giveUpNext cX5_giveUpNext 2 (some (.object "RingHeap$Thing")), Cond.fieldLink RX5 48 "RingHeap$Thing" "nextField" "I", Cond.fieldLink RX5 25 "RingHeap$Thing" "held" "[LRingHeap$Thing;", Cond.methodLink RX1 53 yX1_finish, Cond.instanceMethod yX1_finish, Cond.selects RX1 yX1_finish yX1_finish, Cond.code yX1_finish cX1_finish 2 none, Cond.fieldLink RX1 82 "RingHeap$Thing" "husk" "Z", Cond.methodLink RX1 79 yX3_removeLast, Cond.instanceMethod yX3_removeLast, Cond.selects RX3 yX3_removeLast yX3_removeLast, Cond.code yX3_removeLast cX3_removeLast 1 none, Cond.methodLink RX1 85 yX4_free, Cond.instanceMethod yX4_free, Cond.selects RX4 yX4_free yX4_free, Cond.initialized RX4, Cond.code yX4_free cX4_free 3 none, Cond.fieldLink RX4 27 "RingHeap$Store" "words" "LRingHeap$Words;", Cond.fieldLink RX4 11 "RingHeap$Store" "things" "[LRingHeap$Thing;", Cond.fieldLink RX4 67 "RingHeap$Thing" "number" "I", Cond.fieldLink RX4 60 "RingHeap$Store" "thingsThere" "I"]
def wsX1_less_r4 : List Cond := [Cond.fieldLink RX4 21 "RingHeap$Store" "weaks" "[LRingHeap$Thing;", Cond.fieldLink RX4 17 "RingHeap$Store" "freedNumbers" "[I", Cond.fieldLink RX4 70 "RingHeap$Store" "freedEver" "I", Cond.methodLink RX4 63 yX6_takeBack, Cond.instanceMethod yX6_takeBack, Cond.selects RX6 yX6_takeBack yX6_takeBack, Cond.initialized RX6, Cond.code yX6_takeBack cX6_takeBack 4 none, Cond.fieldLink RX6 25 "RingHeap$Thing" "address" "I", Cond.fieldLink RX6 28 "RingHeap$Thing" "kind" "LRingHeap$Kind;", Cond.fieldLink RX6 32 "RingHeap$Kind" "size" "I", Cond.fieldLink RX6 11 "RingHeap$Words" "owners" "[LRingHeap$Thing;", Cond.fieldLink RX6 17 "RingHeap$Words" "free" "I"]
def wsX1_less : List Cond := .code yX1_less cX1_less 6 (some .int) :: ((wsX1_less_r1 ++ (wsX1_less_r2 ++ (wsX1_less_r3 ++ wsX1_less_r4))) ++ wsX10 ++ wsX40 ++ wsX50 ++ wsX30 ++ wsX20 ++ wsX60)
def wsX0_freeWhite_r1 : List Cond := [Cond.fieldLink RX0 21 "RingHeap$Collector" "store" "LRingHeap$Store;", Cond.fieldLink RX0 122 "RingHeap$Store" "words" "LRingHeap$Words;", Cond.fieldLink RX0 78 "RingHeap$Thing" "colour" "I", Cond.fieldLink RX0 90 "RingHeap$Thing" "held" "[LRingHeap$Thing;", Cond.fieldLink RX0 25 "RingHeap$Collector" "counting" "LRingHeap$Counting;", Cond.methodLink RX0 126 yX6_ownerFrom, Cond.instanceMethod yX6_ownerFrom, Cond.selects RX6 yX6_ownerFrom yX6_ownerFrom, Cond.initialized RX6, Cond.code yX6_ownerFrom cX6_ownerFrom 3 (some (.object "RingHeap$Thing")), Cond.fieldLink RX6 25 "RingHeap$Thing" "address" "I", Cond.methodLink RX6 21 yX6_owner, Cond.instanceMethod yX6_owner, Cond.selects RX6 yX6_owner yX6_owner, Cond.code yX6_owner cX6_owner 2 (some (.object "RingHeap$Thing")), Cond.fieldLink RX6 11 "RingHeap$Words" "owners" "[LRingHeap$Thing;", Cond.methodLink RX0 94 yX5_isGreen, Cond.instanceMethod yX5_isGreen, Cond.selects RX5 yX5_isGreen yX5_isGreen, Cond.initialized RX5, Cond.code yX5_isGreen cX5_isGreen 1 (some .boolean), Cond.fieldLink RX5 34 "RingHeap$Thing" "colour" "I", Cond.methodLink RX0 137 yX1_less, Cond.instanceMethod yX1_less]
def wsX0_freeWhite_r2 : List Cond := [Cond.selects RX1 yX1_less yX1_less, Cond.initialized RX1, Cond.code yX1_less cX1_less 6 (some .int), Cond.fieldLink RX1 24 "RingHeap$Counting" "store" "LRingHeap$Store;", Cond.fieldLink RX1 37 "RingHeap$Store" "freedEver" "I", Cond.fieldLink RX1 12 "RingHeap$Counting" "going" "LRingHeap$Row;", Cond.methodLink RX1 42 yX1_lower, Cond.instanceMethod yX1_lower, Cond.selects RX1 yX1_lower yX1_lower, Cond.code yX1_lower cX1_lower 2 none, Cond.fieldLink RX1 28 "RingHeap$Thing" "count" "I", Cond.fieldLink RX1 56 "RingHeap$Thing" "wishUntold" "Z", Cond.methodLink RX1 63 yX1_suspect, Cond.instanceMethod yX1_suspect, Cond.selects RX1 yX1_suspect yX1_suspect, Cond.code yX1_suspect cX1_suspect 2 none, Cond.fieldLink RX1 73 "RingHeap$Thing" "colour" "I", Cond.fieldLink RX1 76 "RingHeap$Thing" "inList" "Z", Cond.fieldLink RX1 18 "RingHeap$Counting" "list" "LRingHeap$Row;", Cond.methodLink RX1 69 yX5_isGreen, Cond.methodLink RX1 60 yX3_append, Cond.instanceMethod yX3_append, Cond.selects RX3 yX3_append yX3_append, Cond.initialized RX3]
def wsX0_freeWhite_r3 : List Cond := [Cond.code yX3_append cX3_append 2 none, Cond.fieldLink RX3 17 "RingHeap$Row" "length" "I", Cond.fieldLink RX3 11 "RingHeap$Row" "things" "[LRingHeap$Thing;", Cond.methodLink RX1 66 yX1_tellWish, Cond.instanceMethod yX1_tellWish, Cond.selects RX1 yX1_tellWish yX1_tellWish, Cond.code yX1_tellWish cX1_tellWish 2 none, Cond.fieldLink RX1 21 "RingHeap$Counting" "wishes" "LRingHeap$Row;", Cond.methodLink RX1 34 yX5_blackenUnlessGreen, Cond.instanceMethod yX5_blackenUnlessGreen, Cond.selects RX5 yX5_blackenUnlessGreen yX5_blackenUnlessGreen, Cond.code yX5_blackenUnlessGreen cX5_blackenUnlessGreen 1 none, Cond.methodLink RX5 44 yX5_isGreen, Cond.methodLink RX1 46 yX3_last, Cond.instanceMethod yX3_last, Cond.selects RX3 yX3_last yX3_last, Cond.code yX3_last cX3_last 1 (some (.object "RingHeap$Thing")), Cond.methodLink RX3 21 yX3_item, Cond.instanceMethod yX3_item, Cond.selects RX3 yX3_item yX3_item, Cond.code yX3_item cX3_item 2 (some (.object "RingHeap$Thing")), Cond.methodLink RX1 50 yX5_giveUpNext, Cond.instanceMethod yX5_giveUpNext, Cond.selects RX5 yX5_giveUpNext yX5_giveUpNext]
def wsX0_freeWhite_r4 : List Cond := [Cond.code yX5_giveUpNext cX5_giveUpNext 2 (some (.object "RingHeap$Thing")), Cond.fieldLink RX5 48 "RingHeap$Thing" "nextField" "I", Cond.fieldLink RX5 25 "RingHeap$Thing" "held" "[LRingHeap$Thing;", Cond.methodLink RX1 53 yX1_finish, Cond.instanceMethod yX1_finish, Cond.selects RX1 yX1_finish yX1_finish, Cond.code yX1_finish cX1_finish 2 none, Cond.fieldLink RX1 82 "RingHeap$Thing" "husk" "Z", Cond.methodLink RX1 79 yX3_removeLast, Cond.instanceMethod yX3_removeLast, Cond.selects RX3 yX3_removeLast yX3_removeLast, Cond.code yX3_removeLast cX3_removeLast 1 none, Cond.methodLink RX1 85 yX4_free, Cond.instanceMethod yX4_free, Cond.selects RX4 yX4_free yX4_free, Cond.initialized RX4, Cond.code yX4_free cX4_free 3 none, Cond.fieldLink RX4 27 "RingHeap$Store" "words" "LRingHeap$Words;", Cond.fieldLink RX4 11 "RingHeap$Store" "things" "[LRingHeap$Thing;", Cond.fieldLink RX4 67 "RingHeap$Thing" "number" "I", Cond.fieldLink RX4 60 "RingHeap$Store" "thingsThere" "I", Cond.fieldLink RX4 21 "RingHeap$Store" "weaks" "[LRingHeap$Thing;", Cond.fieldLink RX4 17 "RingHeap$Store" "freedNumbers" "[I", Cond.fieldLink RX4 70 "RingHeap$Store" "freedEver" "I"]
def wsX0_freeWhite_r5 : List Cond := [Cond.methodLink RX4 63 yX6_takeBack, Cond.instanceMethod yX6_takeBack, Cond.selects RX6 yX6_takeBack yX6_takeBack, Cond.code yX6_takeBack cX6_takeBack 4 none, Cond.fieldLink RX6 28 "RingHeap$Thing" "kind" "LRingHeap$Kind;", Cond.fieldLink RX6 32 "RingHeap$Kind" "size" "I", Cond.fieldLink RX6 17 "RingHeap$Words" "free" "I", Cond.methodLink RX0 74 yX4_free]
def wsX0_freeWhite : List Cond := .code yX0_freeWhite cX0_freeWhite 7 none :: ((wsX0_freeWhite_r1 ++ (wsX0_freeWhite_r2 ++ (wsX0_freeWhite_r3 ++ (wsX0_freeWhite_r4 ++ wsX0_freeWhite_r5)))) ++ wsX00 ++ wsX40 ++ wsX50 ++ wsX60 ++ wsX10 ++ wsX30 ++ wsX20)
def wsX0_run_r1 : List Cond := [Cond.fieldLink RX0 21 "RingHeap$Collector" "store" "LRingHeap$Store;", Cond.fieldLink RX0 29 "RingHeap$Store" "freedEver" "I", Cond.fieldLink RX0 35 "RingHeap$Collector" "collections" "I", Cond.methodLink RX0 38 yX0_markListed, Cond.instanceMethod yX0_markListed, Cond.selects RX0 yX0_markListed yX0_markListed, Cond.initialized RX0, Cond.code yX0_markListed cX0_markListed 4 none, Cond.fieldLink RX0 25 "RingHeap$Collector" "counting" "LRingHeap$Counting;", Cond.fieldLink RX0 53 "RingHeap$Counting" "list" "LRingHeap$Row;", Cond.fieldLink RX0 58 "RingHeap$Row" "length" "I", Cond.fieldLink RX0 65 "RingHeap$Thing" "husk" "Z", Cond.fieldLink RX0 71 "RingHeap$Thing" "inList" "Z", Cond.fieldLink RX0 78 "RingHeap$Thing" "colour" "I", Cond.methodLink RX0 61 yX3_item, Cond.instanceMethod yX3_item, Cond.selects RX3 yX3_item yX3_item, Cond.initialized RX3, Cond.code yX3_item cX3_item 2 (some (.object "RingHeap$Thing")), Cond.fieldLink RX3 17 "RingHeap$Row" "length" "I", Cond.fieldLink RX3 11 "RingHeap$Row" "things" "[LRingHeap$Thing;", Cond.methodLink RX0 74 yX4_free, Cond.instanceMethod yX4_free, Cond.selects RX4 yX4_free yX4_free]
def wsX0_run_r2 : List Cond := [Cond.initialized RX4, Cond.code yX4_free cX4_free 3 none, Cond.fieldLink RX4 27 "RingHeap$Store" "words" "LRingHeap$Words;", Cond.fieldLink RX4 11 "RingHeap$Store" "things" "[LRingHeap$Thing;", Cond.fieldLink RX4 67 "RingHeap$Thing" "number" "I", Cond.fieldLink RX4 60 "RingHeap$Store" "thingsThere" "I", Cond.fieldLink RX4 21 "RingHeap$Store" "weaks" "[LRingHeap$Thing;", Cond.fieldLink RX4 17 "RingHeap$Store" "freedNumbers" "[I", Cond.fieldLink RX4 70 "RingHeap$Store" "freedEver" "I", Cond.methodLink RX4 63 yX6_takeBack, Cond.instanceMethod yX6_takeBack, Cond.selects RX6 yX6_takeBack yX6_takeBack, Cond.initialized RX6, Cond.code yX6_takeBack cX6_takeBack 4 none, Cond.fieldLink RX6 25 "RingHeap$Thing" "address" "I", Cond.fieldLink RX6 28 "RingHeap$Thing" "kind" "LRingHeap$Kind;", Cond.fieldLink RX6 32 "RingHeap$Kind" "size" "I", Cond.fieldLink RX6 11 "RingHeap$Words" "owners" "[LRingHeap$Thing;", Cond.fieldLink RX6 17 "RingHeap$Words" "free" "I", Cond.methodLink RX0 81 yX0_markFrom, Cond.instanceMethod yX0_markFrom, Cond.selects RX0 yX0_markFrom yX0_markFrom, Cond.code yX0_markFrom cX0_markFrom 8 none, Cond.fieldLink RX0 12 "RingHeap$Collector" "reached" "LRingHeap$Row;"]
def wsX0_run_r3 : List Cond := [Cond.fieldLink RX0 90 "RingHeap$Thing" "held" "[LRingHeap$Thing;", Cond.fieldLink RX0 98 "RingHeap$Thing" "count" "I", Cond.methodLink RX0 84 yX3_clear, Cond.instanceMethod yX3_clear, Cond.selects RX3 yX3_clear yX3_clear, Cond.code yX3_clear cX3_clear 1 none, Cond.methodLink RX0 87 yX0_turnGray, Cond.instanceMethod yX0_turnGray, Cond.selects RX0 yX0_turnGray yX0_turnGray, Cond.code yX0_turnGray cX0_turnGray 2 none, Cond.fieldLink RX0 101 "RingHeap$Collector" "grayed" "I", Cond.methodLink RX0 94 yX5_isGreen, Cond.instanceMethod yX5_isGreen, Cond.selects RX5 yX5_isGreen yX5_isGreen, Cond.initialized RX5, Cond.code yX5_isGreen cX5_isGreen 1 (some .boolean), Cond.fieldLink RX5 34 "RingHeap$Thing" "colour" "I", Cond.methodLink RX0 104 yX3_append, Cond.instanceMethod yX3_append, Cond.selects RX3 yX3_append yX3_append, Cond.code yX3_append cX3_append 2 none, Cond.methodLink RX0 41 yX0_scanListed, Cond.instanceMethod yX0_scanListed, Cond.selects RX0 yX0_scanListed yX0_scanListed]
def wsX0_run_r4 : List Cond := [Cond.code yX0_scanListed cX0_scanListed 4 none, Cond.methodLink RX0 107 yX0_scanFrom, Cond.instanceMethod yX0_scanFrom, Cond.selects RX0 yX0_scanFrom yX0_scanFrom, Cond.code yX0_scanFrom cX0_scanFrom 8 none, Cond.methodLink RX0 110 yX0_judge, Cond.instanceMethod yX0_judge, Cond.selects RX0 yX0_judge yX0_judge, Cond.code yX0_judge cX0_judge 2 none, Cond.methodLink RX0 113 yX0_blackenFrom, Cond.instanceMethod yX0_blackenFrom, Cond.selects RX0 yX0_blackenFrom yX0_blackenFrom, Cond.code yX0_blackenFrom cX0_blackenFrom 8 none, Cond.fieldLink RX0 18 "RingHeap$Collector" "darkened" "LRingHeap$Row;", Cond.methodLink RX0 116 yX0_turnBlack, Cond.instanceMethod yX0_turnBlack, Cond.selects RX0 yX0_turnBlack yX0_turnBlack, Cond.code yX0_turnBlack cX0_turnBlack 2 none, Cond.fieldLink RX0 119 "RingHeap$Collector" "blackened" "I", Cond.methodLink RX0 44 yX0_tellWishes, Cond.instanceMethod yX0_tellWishes, Cond.selects RX0 yX0_tellWishes yX0_tellWishes, Cond.code yX0_tellWishes cX0_tellWishes 3 none, Cond.fieldLink RX0 122 "RingHeap$Store" "words" "LRingHeap$Words;"]
def wsX0_run_r5 : List Cond := [Cond.fieldLink RX0 131 "RingHeap$Thing" "wishUntold" "Z", Cond.methodLink RX0 126 yX6_ownerFrom, Cond.instanceMethod yX6_ownerFrom, Cond.selects RX6 yX6_ownerFrom yX6_ownerFrom, Cond.code yX6_ownerFrom cX6_ownerFrom 3 (some (.object "RingHeap$Thing")), Cond.methodLink RX6 21 yX6_owner, Cond.instanceMethod yX6_owner, Cond.selects RX6 yX6_owner yX6_owner, Cond.code yX6_owner cX6_owner 2 (some (.object "RingHeap$Thing")), Cond.methodLink RX0 134 yX1_tellWish, Cond.instanceMethod yX1_tellWish, Cond.selects RX1 yX1_tellWish yX1_tellWish, Cond.initialized RX1, Cond.code yX1_tellWish cX1_tellWish 2 none, Cond.fieldLink RX1 56 "RingHeap$Thing" "wishUntold" "Z", Cond.fieldLink RX1 28 "RingHeap$Thing" "count" "I", Cond.fieldLink RX1 21 "RingHeap$Counting" "wishes" "LRingHeap$Row;", Cond.methodLink RX1 60 yX3_append, Cond.methodLink RX0 47 yX0_emptyList, Cond.instanceMethod yX0_emptyList, Cond.selects RX0 yX0_emptyList yX0_emptyList, Cond.code yX0_emptyList cX0_emptyList 4 none, Cond.methodLink RX0 50 yX0_freeWhite, Cond.instanceMethod yX0_freeWhite]
def wsX0_run_r6 : List Cond := [Cond.selects RX0 yX0_freeWhite yX0_freeWhite, Cond.code yX0_freeWhite cX0_freeWhite 7 none, Cond.methodLink RX0 137 yX1_less, Cond.instanceMethod yX1_less, Cond.selects RX1 yX1_less yX1_less, Cond.code yX1_less cX1_less 6 (some .int), Cond.fieldLink RX1 24 "RingHeap$Counting" "store" "LRingHeap$Store;", Cond.fieldLink RX1 37 "RingHeap$Store" "freedEver" "I", Cond.fieldLink RX1 12 "RingHeap$Counting" "going" "LRingHeap$Row;", Cond.methodLink RX1 42 yX1_lower, Cond.instanceMethod yX1_lower, Cond.selects RX1 yX1_lower yX1_lower, Cond.code yX1_lower cX1_lower 2 none, Cond.methodLink RX1 63 yX1_suspect, Cond.instanceMethod yX1_suspect, Cond.selects RX1 yX1_suspect yX1_suspect, Cond.code yX1_suspect cX1_suspect 2 none, Cond.fieldLink RX1 73 "RingHeap$Thing" "colour" "I", Cond.fieldLink RX1 76 "RingHeap$Thing" "inList" "Z", Cond.fieldLink RX1 18 "RingHeap$Counting" "list" "LRingHeap$Row;", Cond.methodLink RX1 69 yX5_isGreen, Cond.methodLink RX1 66 yX1_tellWish, Cond.methodLink RX1 34 yX5_blackenUnlessGreen, Cond.instanceMethod yX5_blackenUnlessGreen]
def wsX0_run_r7 : List Cond := [Cond.selects RX5 yX5_blackenUnlessGreen yX5_blackenUnlessGreen, Cond.code yX5_blackenUnlessGreen cX5_blackenUnlessGreen 1 none, Cond.methodLink RX5 44 yX5_isGreen, Cond.methodLink RX1 46 yX3_last, Cond.instanceMethod yX3_last, Cond.selects RX3 yX3_last yX3_last, Cond.code yX3_last cX3_last 1 (some (.object "RingHeap$Thing")), Cond.methodLink RX3 21 yX3_item, Cond.methodLink RX1 50 yX5_giveUpNext, Cond.instanceMethod yX5_giveUpNext, Cond.selects RX5 yX5_giveUpNext yX5_giveUpNext, Cond.code yX5_giveUpNext cX5_giveUpNext 2 (some (.object "RingHeap$Thing")), Cond.fieldLink RX5 48 "RingHeap$Thing" "nextField" "I", Cond.fieldLink RX5 25 "RingHeap$Thing" "held" "[LRingHeap$Thing;", Cond.methodLink RX1 53 yX1_finish, Cond.instanceMethod yX1_finish, Cond.selects RX1 yX1_finish yX1_finish, Cond.code yX1_finish cX1_finish 2 none, Cond.fieldLink RX1 82 "RingHeap$Thing" "husk" "Z", Cond.methodLink RX1 79 yX3_removeLast, Cond.instanceMethod yX3_removeLast, Cond.selects RX3 yX3_removeLast yX3_removeLast, Cond.code yX3_removeLast cX3_removeLast 1 none, Cond.methodLink RX1 85 yX4_free]
def wsX0_run : List Cond := .code yX0_run cX0_run 2 (some .int) :: ((wsX0_run_r1 ++ (wsX0_run_r2 ++ (wsX0_run_r3 ++ (wsX0_run_r4 ++ (wsX0_run_r5 ++ (wsX0_run_r6 ++ wsX0_run_r7)))))) ++ wsX00 ++ wsX40 ++ wsX10 ++ wsX30 ++ wsX50 ++ wsX20 ++ wsX60)
def wsX1_init : List Cond := .code yX1_init cX1_init 2 none :: ([.methodLink RX1 3 objectInit, .instanceMethod objectInit, .code objectInit ⟨#[0xb1]⟩ 1 none, .classLink RX1 9 RX3, .instantiable RX3 2, .initialized RX3, .fieldLink RX1 12 "RingHeap$Counting" "going" "LRingHeap$Row;", .fieldLink RX1 18 "RingHeap$Counting" "list" "LRingHeap$Row;", .fieldLink RX1 21 "RingHeap$Counting" "wishes" "LRingHeap$Row;", .fieldLink RX1 24 "RingHeap$Counting" "store" "LRingHeap$Store;", .instanceMethod yX3_init, .code yX3_init cX3_init 1 none, .methodLink RX3 3 objectInit, .classLink RX3 9 RX5, .fieldLink RX3 11 "RingHeap$Row" "things" "[LRingHeap$Thing;"] ++ wsX30 ++ wsX10)
def wsX1_more : List Cond := .code yX1_more cX1_more 2 none :: ([.fieldLink RX1 28 "RingHeap$Thing" "count" "I", .methodLink RX1 34 yX5_blackenUnlessGreen, .instanceMethod yX5_blackenUnlessGreen, .selects RX5 yX5_blackenUnlessGreen yX5_blackenUnlessGreen, .initialized RX5, .code yX5_blackenUnlessGreen cX5_blackenUnlessGreen 1 none, .fieldLink RX5 34 "RingHeap$Thing" "colour" "I", .methodLink RX5 44 yX5_isGreen, .instanceMethod yX5_isGreen, .selects RX5 yX5_isGreen yX5_isGreen, .code yX5_isGreen cX5_isGreen 1 (some .boolean)] ++ wsX50)
def wsX2_init : List Cond := .code yX2_init cX2_init 5 none :: ([.methodLink RX2 1 objectInit, .instanceMethod objectInit, .code objectInit ⟨#[0xb1]⟩ 1 none, .fieldLink RX2 7 "RingHeap$Kind" "number" "I", .fieldLink RX2 13 "RingHeap$Kind" "fields" "I", .fieldLink RX2 16 "RingHeap$Kind" "size" "I", .fieldLink RX2 19 "RingHeap$Kind" "wish" "Z"] ++ wsX20)
def wsX3_takeFirst : List Cond := .code yX3_takeFirst cX3_takeFirst 3 (some (.object "RingHeap$Thing")) :: ([.fieldLink RX3 17 "RingHeap$Row" "length" "I", .fieldLink RX3 11 "RingHeap$Row" "things" "[LRingHeap$Thing;", .methodLink RX3 21 yX3_item, .instanceMethod yX3_item, .selects RX3 yX3_item yX3_item, .initialized RX3, .code yX3_item cX3_item 2 (some (.object "RingHeap$Thing"))] ++ wsX30)
def wsX6_init : List Cond := .code yX6_init cX6_init 1 none :: ([.methodLink RX6 3 objectInit, .instanceMethod objectInit, .code objectInit ⟨#[0xb1]⟩ 1 none, .classLink RX6 9 RX5, .fieldLink RX6 11 "RingHeap$Words" "owners" "[LRingHeap$Thing;", .fieldLink RX6 17 "RingHeap$Words" "free" "I"] ++ wsX60)
def wsX4_init : List Cond := .code yX4_init cX4_init 1 none :: ([.methodLink RX4 3 objectInit, .instanceMethod objectInit, .code objectInit ⟨#[0xb1]⟩ 1 none, .classLink RX4 9 RX5, .fieldLink RX4 11 "RingHeap$Store" "things" "[LRingHeap$Thing;", .arrayClass .int, .fieldLink RX4 17 "RingHeap$Store" "freedNumbers" "[I", .fieldLink RX4 21 "RingHeap$Store" "weaks" "[LRingHeap$Thing;", .classLink RX4 24 RX6, .instantiable RX6 2, .initialized RX6, .fieldLink RX4 27 "RingHeap$Store" "words" "LRingHeap$Words;", .instanceMethod yX6_init, .code yX6_init cX6_init 1 none, .methodLink RX6 3 objectInit, .classLink RX6 9 RX5, .fieldLink RX6 11 "RingHeap$Words" "owners" "[LRingHeap$Thing;", .fieldLink RX6 17 "RingHeap$Words" "free" "I"] ++ wsX40 ++ wsX60)
def wsX4_thing : List Cond := .code yX4_thing cX4_thing 2 (some (.object "RingHeap$Thing")) :: ([.fieldLink RX4 11 "RingHeap$Store" "things" "[LRingHeap$Thing;"] ++ wsX40)
def wsX4_living : List Cond := .code yX4_living cX4_living 3 (some (.object "RingHeap$Thing")) :: ([.fieldLink RX4 35 "RingHeap$Thing" "husk" "Z", .methodLink RX4 31 yX4_thing, .instanceMethod yX4_thing, .selects RX4 yX4_thing yX4_thing, .initialized RX4, .code yX4_thing cX4_thing 2 (some (.object "RingHeap$Thing")), .fieldLink RX4 11 "RingHeap$Store" "things" "[LRingHeap$Thing;"] ++ wsX50 ++ wsX40)
def wsX4_leastFreeNumber : List Cond := .code yX4_leastFreeNumber cX4_leastFreeNumber 2 (some .int) :: ([.fieldLink RX4 11 "RingHeap$Store" "things" "[LRingHeap$Thing;"] ++ wsX40)
def wsX6_gapFor : List Cond := .code yX6_gapFor cX6_gapFor 4 (some .int) :: ([.fieldLink RX6 11 "RingHeap$Words" "owners" "[LRingHeap$Thing;"] ++ wsX60)
def wsX4_hasRoomFor : List Cond := .code yX4_hasRoomFor cX4_hasRoomFor 2 (some .boolean) :: ([.fieldLink RX4 27 "RingHeap$Store" "words" "LRingHeap$Words;", .fieldLink RX4 43 "RingHeap$Kind" "size" "I", .methodLink RX4 39 yX4_leastFreeNumber, .instanceMethod yX4_leastFreeNumber, .selects RX4 yX4_leastFreeNumber yX4_leastFreeNumber, .initialized RX4, .code yX4_leastFreeNumber cX4_leastFreeNumber 2 (some .int), .fieldLink RX4 11 "RingHeap$Store" "things" "[LRingHeap$Thing;", .methodLink RX4 49 yX6_gapFor, .instanceMethod yX6_gapFor, .selects RX6 yX6_gapFor yX6_gapFor, .initialized RX6, .code yX6_gapFor cX6_gapFor 4 (some .int), .fieldLink RX6 11 "RingHeap$Words" "owners" "[LRingHeap$Thing;"] ++ wsX40 ++ wsX20 ++ wsX60)
def wsX5_init : List Cond := .code yX5_init cX5_init 3 none :: ([.methodLink RX5 3 objectInit, .instanceMethod objectInit, .code objectInit ⟨#[0xb1]⟩ 1 none, .fieldLink RX5 9 "RingHeap$Thing" "count" "I", .fieldLink RX5 15 "RingHeap$Thing" "hands" "I", .fieldLink RX5 18 "RingHeap$Thing" "number" "I", .fieldLink RX5 21 "RingHeap$Thing" "kind" "LRingHeap$Kind;", .classLink RX5 10 RX5, .fieldLink RX5 25 "RingHeap$Thing" "held" "[LRingHeap$Thing;", .fieldLink RX5 29 "RingHeap$Kind" "fields" "I", .fieldLink RX5 34 "RingHeap$Thing" "colour" "I", .fieldLink RX5 37 "RingHeap$Kind" "wish" "Z", .fieldLink RX5 41 "RingHeap$Thing" "wishUntold" "Z"] ++ wsX50 ++ wsX20)
def wsX6_give : List Cond := .code yX6_give cX6_give 5 none :: ([.fieldLink RX6 28 "RingHeap$Thing" "kind" "LRingHeap$Kind;", .fieldLink RX6 32 "RingHeap$Kind" "size" "I", .fieldLink RX6 11 "RingHeap$Words" "owners" "[LRingHeap$Thing;", .fieldLink RX6 25 "RingHeap$Thing" "address" "I", .fieldLink RX6 17 "RingHeap$Words" "free" "I"] ++ wsX50 ++ wsX20 ++ wsX60)
def wsX4_place_r1 : List Cond := [Cond.fieldLink RX4 27 "RingHeap$Store" "words" "LRingHeap$Words;", Cond.fieldLink RX4 43 "RingHeap$Kind" "size" "I", Cond.classLink RX4 9 RX5, Cond.instantiable RX5 11, Cond.initialized RX5, Cond.fieldLink RX4 11 "RingHeap$Store" "things" "[LRingHeap$Thing;", Cond.fieldLink RX4 60 "RingHeap$Store" "thingsThere" "I", Cond.methodLink RX4 39 yX4_leastFreeNumber, Cond.instanceMethod yX4_leastFreeNumber, Cond.selects RX4 yX4_leastFreeNumber yX4_leastFreeNumber, Cond.initialized RX4, Cond.code yX4_leastFreeNumber cX4_leastFreeNumber 2 (some .int), Cond.methodLink RX4 49 yX6_gapFor, Cond.instanceMethod yX6_gapFor, Cond.selects RX6 yX6_gapFor yX6_gapFor, Cond.initialized RX6, Cond.code yX6_gapFor cX6_gapFor 4 (some .int), Cond.fieldLink RX6 11 "RingHeap$Words" "owners" "[LRingHeap$Thing;", Cond.methodLink RX4 53 yX5_init, Cond.instanceMethod yX5_init, Cond.code yX5_init cX5_init 3 none, Cond.methodLink RX5 3 objectInit, Cond.instanceMethod objectInit, Cond.code objectInit ⟨#[0xb1]⟩ 1 none]
def wsX4_place_r2 : List Cond := [Cond.fieldLink RX5 9 "RingHeap$Thing" "count" "I", Cond.fieldLink RX5 15 "RingHeap$Thing" "hands" "I", Cond.fieldLink RX5 18 "RingHeap$Thing" "number" "I", Cond.fieldLink RX5 21 "RingHeap$Thing" "kind" "LRingHeap$Kind;", Cond.classLink RX5 10 RX5, Cond.fieldLink RX5 25 "RingHeap$Thing" "held" "[LRingHeap$Thing;", Cond.fieldLink RX5 29 "RingHeap$Kind" "fields" "I", Cond.fieldLink RX5 34 "RingHeap$Thing" "colour" "I", Cond.fieldLink RX5 37 "RingHeap$Kind" "wish" "Z", Cond.fieldLink RX5 41 "RingHeap$Thing" "wishUntold" "Z", Cond.methodLink RX4 56 yX6_give, Cond.instanceMethod yX6_give, Cond.selects RX6 yX6_give yX6_give, Cond.code yX6_give cX6_give 5 none, Cond.fieldLink RX6 28 "RingHeap$Thing" "kind" "LRingHeap$Kind;", Cond.fieldLink RX6 32 "RingHeap$Kind" "size" "I", Cond.fieldLink RX6 25 "RingHeap$Thing" "address" "I", Cond.fieldLink RX6 17 "RingHeap$Words" "free" "I"]
def wsX4_place : List Cond := .code yX4_place cX4_place 5 (some .int) :: ((wsX4_place_r1 ++ wsX4_place_r2) ++ wsX40 ++ wsX20 ++ wsX50 ++ wsX60)
def wsX4_freedNumber : List Cond := .code yX4_freedNumber cX4_freedNumber 2 (some .int) :: ([.fieldLink RX4 70 "RingHeap$Store" "freedEver" "I", .fieldLink RX4 17 "RingHeap$Store" "freedNumbers" "[I"] ++ wsX40)
def wsX5_hasField : List Cond := .code yX5_hasField cX5_hasField 2 (some .boolean) :: ([.fieldLink RX5 21 "RingHeap$Thing" "kind" "LRingHeap$Kind;", .fieldLink RX5 29 "RingHeap$Kind" "fields" "I", .fieldLink RX5 25 "RingHeap$Thing" "held" "[LRingHeap$Thing;"] ++ wsX50 ++ wsX20)
def wsX5_tell : List Cond := .code yX5_tell cX5_tell 2 (some .int) :: ([.fieldLink RX5 21 "RingHeap$Thing" "kind" "LRingHeap$Kind;", .fieldLink RX5 51 "RingHeap$Kind" "number" "I", .fieldLink RX5 9 "RingHeap$Thing" "count" "I", .fieldLink RX5 34 "RingHeap$Thing" "colour" "I", .fieldLink RX5 52 "RingHeap$Thing" "address" "I", .fieldLink RX5 55 "RingHeap$Thing" "inList" "Z", .fieldLink RX5 41 "RingHeap$Thing" "wishUntold" "Z", .fieldLink RX5 15 "RingHeap$Thing" "hands" "I", .fieldLink RX5 58 "RingHeap$Thing" "husk" "Z"] ++ wsX50 ++ wsX20)
def wsX6_moveAllDown : List Cond := .code yX6_moveAllDown cX6_moveAllDown 5 (some .int) :: ([.fieldLink RX6 28 "RingHeap$Thing" "kind" "LRingHeap$Kind;", .fieldLink RX6 32 "RingHeap$Kind" "size" "I", .methodLink RX6 37 yX6_ownerFrom, .instanceMethod yX6_ownerFrom, .selects RX6 yX6_ownerFrom yX6_ownerFrom, .initialized RX6, .code yX6_ownerFrom cX6_ownerFrom 3 (some (.object "RingHeap$Thing")), .fieldLink RX6 25 "RingHeap$Thing" "address" "I", .methodLink RX6 21 yX6_owner, .instanceMethod yX6_owner, .selects RX6 yX6_owner yX6_owner, .code yX6_owner cX6_owner 2 (some (.object "RingHeap$Thing")), .fieldLink RX6 11 "RingHeap$Words" "owners" "[LRingHeap$Thing;", .methodLink RX6 40 yX6_takeBack, .instanceMethod yX6_takeBack, .selects RX6 yX6_takeBack yX6_takeBack, .code yX6_takeBack cX6_takeBack 4 none, .fieldLink RX6 17 "RingHeap$Words" "free" "I", .methodLink RX6 44 yX6_give, .instanceMethod yX6_give, .selects RX6 yX6_give yX6_give, .code yX6_give cX6_give 5 none] ++ wsX50 ++ wsX20 ++ wsX60)
def wsX7_init_r1 : List Cond := [Cond.methodLink RX7 3 objectInit, Cond.instanceMethod objectInit, Cond.code objectInit ⟨#[0xb1]⟩ 1 none, Cond.classLink RX7 9 RX2, Cond.fieldLink RX7 11 "RingHeap" "kinds" "[LRingHeap$Kind;", Cond.classLink RX7 15 RX4, Cond.instantiable RX4 6, Cond.initialized RX4, Cond.fieldLink RX7 18 "RingHeap" "store" "LRingHeap$Store;", Cond.classLink RX7 22 RX1, Cond.instantiable RX1 4, Cond.initialized RX1, Cond.fieldLink RX7 27 "RingHeap" "counting" "LRingHeap$Counting;", Cond.classLink RX7 31 RX0, Cond.instantiable RX0 7, Cond.initialized RX0, Cond.fieldLink RX7 36 "RingHeap" "collector" "LRingHeap$Collector;", Cond.instanceMethod yX4_init, Cond.code yX4_init cX4_init 1 none, Cond.methodLink RX4 3 objectInit, Cond.classLink RX4 9 RX5, Cond.fieldLink RX4 11 "RingHeap$Store" "things" "[LRingHeap$Thing;", Cond.arrayClass .int, Cond.fieldLink RX4 17 "RingHeap$Store" "freedNumbers" "[I"]
def wsX7_init_r2 : List Cond := [Cond.fieldLink RX4 21 "RingHeap$Store" "weaks" "[LRingHeap$Thing;", Cond.classLink RX4 24 RX6, Cond.instantiable RX6 2, Cond.initialized RX6, Cond.fieldLink RX4 27 "RingHeap$Store" "words" "LRingHeap$Words;", Cond.instanceMethod yX6_init, Cond.code yX6_init cX6_init 1 none, Cond.methodLink RX6 3 objectInit, Cond.classLink RX6 9 RX5, Cond.fieldLink RX6 11 "RingHeap$Words" "owners" "[LRingHeap$Thing;", Cond.fieldLink RX6 17 "RingHeap$Words" "free" "I", Cond.methodLink RX7 24 yX1_init, Cond.instanceMethod yX1_init, Cond.code yX1_init cX1_init 2 none, Cond.methodLink RX1 3 objectInit, Cond.classLink RX1 9 RX3, Cond.instantiable RX3 2, Cond.initialized RX3, Cond.fieldLink RX1 12 "RingHeap$Counting" "going" "LRingHeap$Row;", Cond.fieldLink RX1 18 "RingHeap$Counting" "list" "LRingHeap$Row;", Cond.fieldLink RX1 21 "RingHeap$Counting" "wishes" "LRingHeap$Row;", Cond.fieldLink RX1 24 "RingHeap$Counting" "store" "LRingHeap$Store;", Cond.instanceMethod yX3_init, Cond.code yX3_init cX3_init 1 none]
def wsX7_init_r3 : List Cond := [Cond.methodLink RX3 3 objectInit, Cond.classLink RX3 9 RX5, Cond.fieldLink RX3 11 "RingHeap$Row" "things" "[LRingHeap$Thing;", Cond.methodLink RX7 33 yX0_init, Cond.instanceMethod yX0_init, Cond.code yX0_init cX0_init 3 none, Cond.methodLink RX0 3 objectInit, Cond.classLink RX0 9 RX3, Cond.fieldLink RX0 12 "RingHeap$Collector" "reached" "LRingHeap$Row;", Cond.fieldLink RX0 18 "RingHeap$Collector" "darkened" "LRingHeap$Row;", Cond.fieldLink RX0 21 "RingHeap$Collector" "store" "LRingHeap$Store;", Cond.fieldLink RX0 25 "RingHeap$Collector" "counting" "LRingHeap$Counting;"]
def wsX7_init : List Cond := .code yX7_init cX7_init 1 none :: ((wsX7_init_r1 ++ (wsX7_init_r2 ++ wsX7_init_r3)) ++ wsX70 ++ wsX40 ++ wsX10 ++ wsX00 ++ wsX60 ++ wsX30)
def wsX7_type : List Cond := .code yX7_type cX7_type 5 (some .boolean) :: ([.classLink RX7 40 "java/lang/IndexOutOfBoundsException", .initialized "java/lang/IndexOutOfBoundsException", .classLink RX7 47 "java/lang/IllegalArgumentException", .initialized "java/lang/IllegalArgumentException", .fieldLink RX7 11 "RingHeap" "kinds" "[LRingHeap$Kind;", .classLink RX7 9 RX2, .instantiable RX2 4, .initialized RX2, .methodLink RX7 52 yX2_init, .instanceMethod yX2_init, .code yX2_init cX2_init 5 none, .methodLink RX2 1 objectInit, .instanceMethod objectInit, .code objectInit ⟨#[0xb1]⟩ 1 none, .fieldLink RX2 7 "RingHeap$Kind" "number" "I", .fieldLink RX2 13 "RingHeap$Kind" "fields" "I", .fieldLink RX2 16 "RingHeap$Kind" "size" "I", .fieldLink RX2 19 "RingHeap$Kind" "wish" "Z"] ++ wsX70 ++ wsX20 ++ (vx_atS RX7 44 "java/lang/IndexOutOfBoundsException" ["java/lang/RuntimeException", "java/lang/Exception"]).filter goodWord ++ (vx_atS RX7 51 "java/lang/IllegalArgumentException" ["java/lang/RuntimeException", "java/lang/Exception"]).filter goodWord)
def wsX7_makeRoomByMoving_r1 : List Cond := [Cond.fieldLink RX7 18 "RingHeap" "store" "LRingHeap$Store;", Cond.fieldLink RX7 125 "RingHeap$Store" "words" "LRingHeap$Words;", Cond.fieldLink RX7 154 "RingHeap$Words" "free" "I", Cond.fieldLink RX7 183 "RingHeap$Kind" "size" "I", Cond.fieldLink RX7 122 "RingHeap" "moves" "I", Cond.methodLink RX7 180 yX4_leastFreeNumber, Cond.instanceMethod yX4_leastFreeNumber, Cond.selects RX4 yX4_leastFreeNumber yX4_leastFreeNumber, Cond.initialized RX4, Cond.code yX4_leastFreeNumber cX4_leastFreeNumber 2 (some .int), Cond.fieldLink RX4 11 "RingHeap$Store" "things" "[LRingHeap$Thing;", Cond.methodLink RX7 129 yX6_moveAllDown, Cond.instanceMethod yX6_moveAllDown, Cond.selects RX6 yX6_moveAllDown yX6_moveAllDown, Cond.initialized RX6, Cond.code yX6_moveAllDown cX6_moveAllDown 5 (some .int), Cond.fieldLink RX6 28 "RingHeap$Thing" "kind" "LRingHeap$Kind;", Cond.fieldLink RX6 32 "RingHeap$Kind" "size" "I", Cond.methodLink RX6 37 yX6_ownerFrom, Cond.instanceMethod yX6_ownerFrom, Cond.selects RX6 yX6_ownerFrom yX6_ownerFrom, Cond.code yX6_ownerFrom cX6_ownerFrom 3 (some (.object "RingHeap$Thing")), Cond.fieldLink RX6 25 "RingHeap$Thing" "address" "I", Cond.methodLink RX6 21 yX6_owner]
def wsX7_makeRoomByMoving_r2 : List Cond := [Cond.instanceMethod yX6_owner, Cond.selects RX6 yX6_owner yX6_owner, Cond.code yX6_owner cX6_owner 2 (some (.object "RingHeap$Thing")), Cond.fieldLink RX6 11 "RingHeap$Words" "owners" "[LRingHeap$Thing;", Cond.methodLink RX6 40 yX6_takeBack, Cond.instanceMethod yX6_takeBack, Cond.selects RX6 yX6_takeBack yX6_takeBack, Cond.code yX6_takeBack cX6_takeBack 4 none, Cond.fieldLink RX6 17 "RingHeap$Words" "free" "I", Cond.methodLink RX6 44 yX6_give, Cond.instanceMethod yX6_give, Cond.selects RX6 yX6_give yX6_give, Cond.code yX6_give cX6_give 5 none]
def wsX7_makeRoomByMoving : List Cond := .code yX7_makeRoomByMoving cX7_makeRoomByMoving 2 (some .boolean) :: ((wsX7_makeRoomByMoving_r1 ++ wsX7_makeRoomByMoving_r2) ++ wsX70 ++ wsX40 ++ wsX60 ++ wsX20 ++ wsX50)
def wsX7_make_r1 : List Cond := [Cond.classLink RX7 40 "java/lang/IndexOutOfBoundsException", Cond.initialized "java/lang/IndexOutOfBoundsException", Cond.fieldLink RX7 11 "RingHeap" "kinds" "[LRingHeap$Kind;", Cond.fieldLink RX7 18 "RingHeap" "store" "LRingHeap$Store;", Cond.fieldLink RX7 36 "RingHeap" "collector" "LRingHeap$Collector;", Cond.methodLink RX7 55 yX4_hasRoomFor, Cond.instanceMethod yX4_hasRoomFor, Cond.selects RX4 yX4_hasRoomFor yX4_hasRoomFor, Cond.initialized RX4, Cond.code yX4_hasRoomFor cX4_hasRoomFor 2 (some .boolean), Cond.fieldLink RX4 27 "RingHeap$Store" "words" "LRingHeap$Words;", Cond.fieldLink RX4 43 "RingHeap$Kind" "size" "I", Cond.methodLink RX4 39 yX4_leastFreeNumber, Cond.instanceMethod yX4_leastFreeNumber, Cond.selects RX4 yX4_leastFreeNumber yX4_leastFreeNumber, Cond.code yX4_leastFreeNumber cX4_leastFreeNumber 2 (some .int), Cond.fieldLink RX4 11 "RingHeap$Store" "things" "[LRingHeap$Thing;", Cond.methodLink RX4 49 yX6_gapFor, Cond.instanceMethod yX6_gapFor, Cond.selects RX6 yX6_gapFor yX6_gapFor, Cond.initialized RX6, Cond.code yX6_gapFor cX6_gapFor 4 (some .int), Cond.fieldLink RX6 11 "RingHeap$Words" "owners" "[LRingHeap$Thing;", Cond.methodLink RX7 59 yX0_run]
def wsX7_make_r2 : List Cond := [Cond.instanceMethod yX0_run, Cond.selects RX0 yX0_run yX0_run, Cond.initialized RX0, Cond.code yX0_run cX0_run 2 (some .int), Cond.fieldLink RX0 21 "RingHeap$Collector" "store" "LRingHeap$Store;", Cond.fieldLink RX0 29 "RingHeap$Store" "freedEver" "I", Cond.fieldLink RX0 35 "RingHeap$Collector" "collections" "I", Cond.methodLink RX0 38 yX0_markListed, Cond.instanceMethod yX0_markListed, Cond.selects RX0 yX0_markListed yX0_markListed, Cond.code yX0_markListed cX0_markListed 4 none, Cond.fieldLink RX0 25 "RingHeap$Collector" "counting" "LRingHeap$Counting;", Cond.fieldLink RX0 53 "RingHeap$Counting" "list" "LRingHeap$Row;", Cond.fieldLink RX0 58 "RingHeap$Row" "length" "I", Cond.fieldLink RX0 65 "RingHeap$Thing" "husk" "Z", Cond.fieldLink RX0 71 "RingHeap$Thing" "inList" "Z", Cond.fieldLink RX0 78 "RingHeap$Thing" "colour" "I", Cond.methodLink RX0 61 yX3_item, Cond.instanceMethod yX3_item, Cond.selects RX3 yX3_item yX3_item, Cond.initialized RX3, Cond.code yX3_item cX3_item 2 (some (.object "RingHeap$Thing")), Cond.fieldLink RX3 17 "RingHeap$Row" "length" "I", Cond.fieldLink RX3 11 "RingHeap$Row" "things" "[LRingHeap$Thing;"]
def wsX7_make_r3 : List Cond := [Cond.methodLink RX0 74 yX4_free, Cond.instanceMethod yX4_free, Cond.selects RX4 yX4_free yX4_free, Cond.code yX4_free cX4_free 3 none, Cond.fieldLink RX4 67 "RingHeap$Thing" "number" "I", Cond.fieldLink RX4 60 "RingHeap$Store" "thingsThere" "I", Cond.fieldLink RX4 21 "RingHeap$Store" "weaks" "[LRingHeap$Thing;", Cond.fieldLink RX4 17 "RingHeap$Store" "freedNumbers" "[I", Cond.fieldLink RX4 70 "RingHeap$Store" "freedEver" "I", Cond.methodLink RX4 63 yX6_takeBack, Cond.instanceMethod yX6_takeBack, Cond.selects RX6 yX6_takeBack yX6_takeBack, Cond.code yX6_takeBack cX6_takeBack 4 none, Cond.fieldLink RX6 25 "RingHeap$Thing" "address" "I", Cond.fieldLink RX6 28 "RingHeap$Thing" "kind" "LRingHeap$Kind;", Cond.fieldLink RX6 32 "RingHeap$Kind" "size" "I", Cond.fieldLink RX6 17 "RingHeap$Words" "free" "I", Cond.methodLink RX0 81 yX0_markFrom, Cond.instanceMethod yX0_markFrom, Cond.selects RX0 yX0_markFrom yX0_markFrom, Cond.code yX0_markFrom cX0_markFrom 8 none, Cond.fieldLink RX0 12 "RingHeap$Collector" "reached" "LRingHeap$Row;", Cond.fieldLink RX0 90 "RingHeap$Thing" "held" "[LRingHeap$Thing;", Cond.fieldLink RX0 98 "RingHeap$Thing" "count" "I"]
def wsX7_make_r4 : List Cond := [Cond.methodLink RX0 84 yX3_clear, Cond.instanceMethod yX3_clear, Cond.selects RX3 yX3_clear yX3_clear, Cond.code yX3_clear cX3_clear 1 none, Cond.methodLink RX0 87 yX0_turnGray, Cond.instanceMethod yX0_turnGray, Cond.selects RX0 yX0_turnGray yX0_turnGray, Cond.code yX0_turnGray cX0_turnGray 2 none, Cond.fieldLink RX0 101 "RingHeap$Collector" "grayed" "I", Cond.methodLink RX0 94 yX5_isGreen, Cond.instanceMethod yX5_isGreen, Cond.selects RX5 yX5_isGreen yX5_isGreen, Cond.initialized RX5, Cond.code yX5_isGreen cX5_isGreen 1 (some .boolean), Cond.fieldLink RX5 34 "RingHeap$Thing" "colour" "I", Cond.methodLink RX0 104 yX3_append, Cond.instanceMethod yX3_append, Cond.selects RX3 yX3_append yX3_append, Cond.code yX3_append cX3_append 2 none, Cond.methodLink RX0 41 yX0_scanListed, Cond.instanceMethod yX0_scanListed, Cond.selects RX0 yX0_scanListed yX0_scanListed, Cond.code yX0_scanListed cX0_scanListed 4 none, Cond.methodLink RX0 107 yX0_scanFrom]
def wsX7_make_r5 : List Cond := [Cond.instanceMethod yX0_scanFrom, Cond.selects RX0 yX0_scanFrom yX0_scanFrom, Cond.code yX0_scanFrom cX0_scanFrom 8 none, Cond.methodLink RX0 110 yX0_judge, Cond.instanceMethod yX0_judge, Cond.selects RX0 yX0_judge yX0_judge, Cond.code yX0_judge cX0_judge 2 none, Cond.methodLink RX0 113 yX0_blackenFrom, Cond.instanceMethod yX0_blackenFrom, Cond.selects RX0 yX0_blackenFrom yX0_blackenFrom, Cond.code yX0_blackenFrom cX0_blackenFrom 8 none, Cond.fieldLink RX0 18 "RingHeap$Collector" "darkened" "LRingHeap$Row;", Cond.methodLink RX0 116 yX0_turnBlack, Cond.instanceMethod yX0_turnBlack, Cond.selects RX0 yX0_turnBlack yX0_turnBlack, Cond.code yX0_turnBlack cX0_turnBlack 2 none, Cond.fieldLink RX0 119 "RingHeap$Collector" "blackened" "I", Cond.methodLink RX0 44 yX0_tellWishes, Cond.instanceMethod yX0_tellWishes, Cond.selects RX0 yX0_tellWishes yX0_tellWishes, Cond.code yX0_tellWishes cX0_tellWishes 3 none, Cond.fieldLink RX0 122 "RingHeap$Store" "words" "LRingHeap$Words;", Cond.fieldLink RX0 131 "RingHeap$Thing" "wishUntold" "Z", Cond.methodLink RX0 126 yX6_ownerFrom]
def wsX7_make_r6 : List Cond := [Cond.instanceMethod yX6_ownerFrom, Cond.selects RX6 yX6_ownerFrom yX6_ownerFrom, Cond.code yX6_ownerFrom cX6_ownerFrom 3 (some (.object "RingHeap$Thing")), Cond.methodLink RX6 21 yX6_owner, Cond.instanceMethod yX6_owner, Cond.selects RX6 yX6_owner yX6_owner, Cond.code yX6_owner cX6_owner 2 (some (.object "RingHeap$Thing")), Cond.methodLink RX0 134 yX1_tellWish, Cond.instanceMethod yX1_tellWish, Cond.selects RX1 yX1_tellWish yX1_tellWish, Cond.initialized RX1, Cond.code yX1_tellWish cX1_tellWish 2 none, Cond.fieldLink RX1 56 "RingHeap$Thing" "wishUntold" "Z", Cond.fieldLink RX1 28 "RingHeap$Thing" "count" "I", Cond.fieldLink RX1 21 "RingHeap$Counting" "wishes" "LRingHeap$Row;", Cond.methodLink RX1 60 yX3_append, Cond.methodLink RX0 47 yX0_emptyList, Cond.instanceMethod yX0_emptyList, Cond.selects RX0 yX0_emptyList yX0_emptyList, Cond.code yX0_emptyList cX0_emptyList 4 none, Cond.methodLink RX0 50 yX0_freeWhite, Cond.instanceMethod yX0_freeWhite, Cond.selects RX0 yX0_freeWhite yX0_freeWhite, Cond.code yX0_freeWhite cX0_freeWhite 7 none]
def wsX7_make_r7 : List Cond := [Cond.methodLink RX0 137 yX1_less, Cond.instanceMethod yX1_less, Cond.selects RX1 yX1_less yX1_less, Cond.code yX1_less cX1_less 6 (some .int), Cond.fieldLink RX1 24 "RingHeap$Counting" "store" "LRingHeap$Store;", Cond.fieldLink RX1 37 "RingHeap$Store" "freedEver" "I", Cond.fieldLink RX1 12 "RingHeap$Counting" "going" "LRingHeap$Row;", Cond.methodLink RX1 42 yX1_lower, Cond.instanceMethod yX1_lower, Cond.selects RX1 yX1_lower yX1_lower, Cond.code yX1_lower cX1_lower 2 none, Cond.methodLink RX1 63 yX1_suspect, Cond.instanceMethod yX1_suspect, Cond.selects RX1 yX1_suspect yX1_suspect, Cond.code yX1_suspect cX1_suspect 2 none, Cond.fieldLink RX1 73 "RingHeap$Thing" "colour" "I", Cond.fieldLink RX1 76 "RingHeap$Thing" "inList" "Z", Cond.fieldLink RX1 18 "RingHeap$Counting" "list" "LRingHeap$Row;", Cond.methodLink RX1 69 yX5_isGreen, Cond.methodLink RX1 66 yX1_tellWish, Cond.methodLink RX1 34 yX5_blackenUnlessGreen, Cond.instanceMethod yX5_blackenUnlessGreen, Cond.selects RX5 yX5_blackenUnlessGreen yX5_blackenUnlessGreen, Cond.code yX5_blackenUnlessGreen cX5_blackenUnlessGreen 1 none]
def wsX7_make_r8 : List Cond := [Cond.methodLink RX5 44 yX5_isGreen, Cond.methodLink RX1 46 yX3_last, Cond.instanceMethod yX3_last, Cond.selects RX3 yX3_last yX3_last, Cond.code yX3_last cX3_last 1 (some (.object "RingHeap$Thing")), Cond.methodLink RX3 21 yX3_item, Cond.methodLink RX1 50 yX5_giveUpNext, Cond.instanceMethod yX5_giveUpNext, Cond.selects RX5 yX5_giveUpNext yX5_giveUpNext, Cond.code yX5_giveUpNext cX5_giveUpNext 2 (some (.object "RingHeap$Thing")), Cond.fieldLink RX5 48 "RingHeap$Thing" "nextField" "I", Cond.fieldLink RX5 25 "RingHeap$Thing" "held" "[LRingHeap$Thing;", Cond.methodLink RX1 53 yX1_finish, Cond.instanceMethod yX1_finish, Cond.selects RX1 yX1_finish yX1_finish, Cond.code yX1_finish cX1_finish 2 none, Cond.fieldLink RX1 82 "RingHeap$Thing" "husk" "Z", Cond.methodLink RX1 79 yX3_removeLast, Cond.instanceMethod yX3_removeLast, Cond.selects RX3 yX3_removeLast yX3_removeLast, Cond.code yX3_removeLast cX3_removeLast 1 none, Cond.methodLink RX1 85 yX4_free, Cond.methodLink RX7 63 yX7_makeRoomByMoving, Cond.instanceMethod yX7_makeRoomByMoving]
def wsX7_make_r9 : List Cond := [Cond.selects RX7 yX7_makeRoomByMoving yX7_makeRoomByMoving, Cond.initialized RX7, Cond.code yX7_makeRoomByMoving cX7_makeRoomByMoving 2 (some .boolean), Cond.fieldLink RX7 125 "RingHeap$Store" "words" "LRingHeap$Words;", Cond.fieldLink RX7 154 "RingHeap$Words" "free" "I", Cond.fieldLink RX7 183 "RingHeap$Kind" "size" "I", Cond.fieldLink RX7 122 "RingHeap" "moves" "I", Cond.methodLink RX7 180 yX4_leastFreeNumber, Cond.methodLink RX7 129 yX6_moveAllDown, Cond.instanceMethod yX6_moveAllDown, Cond.selects RX6 yX6_moveAllDown yX6_moveAllDown, Cond.code yX6_moveAllDown cX6_moveAllDown 5 (some .int), Cond.methodLink RX6 37 yX6_ownerFrom, Cond.methodLink RX6 40 yX6_takeBack, Cond.methodLink RX6 44 yX6_give, Cond.instanceMethod yX6_give, Cond.selects RX6 yX6_give yX6_give, Cond.code yX6_give cX6_give 5 none, Cond.methodLink RX7 66 yX4_place, Cond.instanceMethod yX4_place, Cond.selects RX4 yX4_place yX4_place, Cond.code yX4_place cX4_place 5 (some .int), Cond.classLink RX4 9 RX5, Cond.instantiable RX5 11]
def wsX7_make_r10 : List Cond := [Cond.methodLink RX4 53 yX5_init, Cond.instanceMethod yX5_init, Cond.code yX5_init cX5_init 3 none, Cond.methodLink RX5 3 objectInit, Cond.instanceMethod objectInit, Cond.code objectInit ⟨#[0xb1]⟩ 1 none, Cond.fieldLink RX5 9 "RingHeap$Thing" "count" "I", Cond.fieldLink RX5 15 "RingHeap$Thing" "hands" "I", Cond.fieldLink RX5 18 "RingHeap$Thing" "number" "I", Cond.fieldLink RX5 21 "RingHeap$Thing" "kind" "LRingHeap$Kind;", Cond.classLink RX5 10 RX5, Cond.fieldLink RX5 29 "RingHeap$Kind" "fields" "I", Cond.fieldLink RX5 37 "RingHeap$Kind" "wish" "Z", Cond.fieldLink RX5 41 "RingHeap$Thing" "wishUntold" "Z", Cond.methodLink RX4 56 yX6_give]
def wsX7_make : List Cond := .code yX7_make cX7_make 3 (some .int) :: ((wsX7_make_r1 ++ (wsX7_make_r2 ++ (wsX7_make_r3 ++ (wsX7_make_r4 ++ (wsX7_make_r5 ++ (wsX7_make_r6 ++ (wsX7_make_r7 ++ (wsX7_make_r8 ++ (wsX7_make_r9 ++ wsX7_make_r10))))))))) ++ wsX70 ++ wsX40 ++ wsX20 ++ wsX60 ++ wsX00 ++ wsX10 ++ wsX30 ++ wsX50 ++ (vx_atS RX7 44 "java/lang/IndexOutOfBoundsException" ["java/lang/RuntimeException", "java/lang/Exception"]).filter goodWord)
def wsX7_hold_r1 : List Cond := [Cond.fieldLink RX7 18 "RingHeap" "store" "LRingHeap$Store;", Cond.fieldLink RX7 74 "RingHeap$Thing" "hands" "I", Cond.fieldLink RX7 27 "RingHeap" "counting" "LRingHeap$Counting;", Cond.fieldLink RX7 84 "RingHeap$Thing" "count" "I", Cond.methodLink RX7 70 yX4_living, Cond.instanceMethod yX4_living, Cond.selects RX4 yX4_living yX4_living, Cond.initialized RX4, Cond.code yX4_living cX4_living 3 (some (.object "RingHeap$Thing")), Cond.fieldLink RX4 35 "RingHeap$Thing" "husk" "Z", Cond.methodLink RX4 31 yX4_thing, Cond.instanceMethod yX4_thing, Cond.selects RX4 yX4_thing yX4_thing, Cond.code yX4_thing cX4_thing 2 (some (.object "RingHeap$Thing")), Cond.fieldLink RX4 11 "RingHeap$Store" "things" "[LRingHeap$Thing;", Cond.methodLink RX7 80 yX1_more, Cond.instanceMethod yX1_more, Cond.selects RX1 yX1_more yX1_more, Cond.initialized RX1, Cond.code yX1_more cX1_more 2 none, Cond.fieldLink RX1 28 "RingHeap$Thing" "count" "I", Cond.methodLink RX1 34 yX5_blackenUnlessGreen, Cond.instanceMethod yX5_blackenUnlessGreen, Cond.selects RX5 yX5_blackenUnlessGreen yX5_blackenUnlessGreen]
def wsX7_hold_r2 : List Cond := [Cond.initialized RX5, Cond.code yX5_blackenUnlessGreen cX5_blackenUnlessGreen 1 none, Cond.fieldLink RX5 34 "RingHeap$Thing" "colour" "I", Cond.methodLink RX5 44 yX5_isGreen, Cond.instanceMethod yX5_isGreen, Cond.selects RX5 yX5_isGreen yX5_isGreen, Cond.code yX5_isGreen cX5_isGreen 1 (some .boolean)]
def wsX7_hold : List Cond := .code yX7_hold cX7_hold 3 (some .int) :: ((wsX7_hold_r1 ++ wsX7_hold_r2) ++ wsX70 ++ wsX50 ++ wsX40)
def wsX7_loose_r1 : List Cond := [Cond.fieldLink RX7 18 "RingHeap" "store" "LRingHeap$Store;", Cond.fieldLink RX7 74 "RingHeap$Thing" "hands" "I", Cond.fieldLink RX7 27 "RingHeap" "counting" "LRingHeap$Counting;", Cond.methodLink RX7 70 yX4_living, Cond.instanceMethod yX4_living, Cond.selects RX4 yX4_living yX4_living, Cond.initialized RX4, Cond.code yX4_living cX4_living 3 (some (.object "RingHeap$Thing")), Cond.fieldLink RX4 35 "RingHeap$Thing" "husk" "Z", Cond.methodLink RX4 31 yX4_thing, Cond.instanceMethod yX4_thing, Cond.selects RX4 yX4_thing yX4_thing, Cond.code yX4_thing cX4_thing 2 (some (.object "RingHeap$Thing")), Cond.fieldLink RX4 11 "RingHeap$Store" "things" "[LRingHeap$Thing;", Cond.methodLink RX7 87 yX1_less, Cond.instanceMethod yX1_less, Cond.selects RX1 yX1_less yX1_less, Cond.initialized RX1, Cond.code yX1_less cX1_less 6 (some .int), Cond.fieldLink RX1 24 "RingHeap$Counting" "store" "LRingHeap$Store;", Cond.fieldLink RX1 37 "RingHeap$Store" "freedEver" "I", Cond.fieldLink RX1 12 "RingHeap$Counting" "going" "LRingHeap$Row;", Cond.methodLink RX1 42 yX1_lower, Cond.instanceMethod yX1_lower]
def wsX7_loose_r2 : List Cond := [Cond.selects RX1 yX1_lower yX1_lower, Cond.code yX1_lower cX1_lower 2 none, Cond.fieldLink RX1 28 "RingHeap$Thing" "count" "I", Cond.fieldLink RX1 56 "RingHeap$Thing" "wishUntold" "Z", Cond.methodLink RX1 63 yX1_suspect, Cond.instanceMethod yX1_suspect, Cond.selects RX1 yX1_suspect yX1_suspect, Cond.code yX1_suspect cX1_suspect 2 none, Cond.fieldLink RX1 73 "RingHeap$Thing" "colour" "I", Cond.fieldLink RX1 76 "RingHeap$Thing" "inList" "Z", Cond.fieldLink RX1 18 "RingHeap$Counting" "list" "LRingHeap$Row;", Cond.methodLink RX1 69 yX5_isGreen, Cond.instanceMethod yX5_isGreen, Cond.selects RX5 yX5_isGreen yX5_isGreen, Cond.initialized RX5, Cond.code yX5_isGreen cX5_isGreen 1 (some .boolean), Cond.fieldLink RX5 34 "RingHeap$Thing" "colour" "I", Cond.methodLink RX1 60 yX3_append, Cond.instanceMethod yX3_append, Cond.selects RX3 yX3_append yX3_append, Cond.initialized RX3, Cond.code yX3_append cX3_append 2 none, Cond.fieldLink RX3 17 "RingHeap$Row" "length" "I", Cond.fieldLink RX3 11 "RingHeap$Row" "things" "[LRingHeap$Thing;"]
def wsX7_loose_r3 : List Cond := [Cond.methodLink RX1 66 yX1_tellWish, Cond.instanceMethod yX1_tellWish, Cond.selects RX1 yX1_tellWish yX1_tellWish, Cond.code yX1_tellWish cX1_tellWish 2 none, Cond.fieldLink RX1 21 "RingHeap$Counting" "wishes" "LRingHeap$Row;", Cond.methodLink RX1 34 yX5_blackenUnlessGreen, Cond.instanceMethod yX5_blackenUnlessGreen, Cond.selects RX5 yX5_blackenUnlessGreen yX5_blackenUnlessGreen, Cond.code yX5_blackenUnlessGreen cX5_blackenUnlessGreen 1 none, Cond.methodLink RX5 44 yX5_isGreen, Cond.methodLink RX1 46 yX3_last, Cond.instanceMethod yX3_last, Cond.selects RX3 yX3_last yX3_last, Cond.code yX3_last cX3_last 1 (some (.object "RingHeap$Thing")), Cond.methodLink RX3 21 yX3_item, Cond.instanceMethod yX3_item, Cond.selects RX3 yX3_item yX3_item, Cond.code yX3_item cX3_item 2 (some (.object "RingHeap$Thing")), Cond.methodLink RX1 50 yX5_giveUpNext, Cond.instanceMethod yX5_giveUpNext, Cond.selects RX5 yX5_giveUpNext yX5_giveUpNext, Cond.code yX5_giveUpNext cX5_giveUpNext 2 (some (.object "RingHeap$Thing")), Cond.fieldLink RX5 48 "RingHeap$Thing" "nextField" "I", Cond.fieldLink RX5 25 "RingHeap$Thing" "held" "[LRingHeap$Thing;"]
def wsX7_loose_r4 : List Cond := [Cond.methodLink RX1 53 yX1_finish, Cond.instanceMethod yX1_finish, Cond.selects RX1 yX1_finish yX1_finish, Cond.code yX1_finish cX1_finish 2 none, Cond.fieldLink RX1 82 "RingHeap$Thing" "husk" "Z", Cond.methodLink RX1 79 yX3_removeLast, Cond.instanceMethod yX3_removeLast, Cond.selects RX3 yX3_removeLast yX3_removeLast, Cond.code yX3_removeLast cX3_removeLast 1 none, Cond.methodLink RX1 85 yX4_free, Cond.instanceMethod yX4_free, Cond.selects RX4 yX4_free yX4_free, Cond.code yX4_free cX4_free 3 none, Cond.fieldLink RX4 27 "RingHeap$Store" "words" "LRingHeap$Words;", Cond.fieldLink RX4 67 "RingHeap$Thing" "number" "I", Cond.fieldLink RX4 60 "RingHeap$Store" "thingsThere" "I", Cond.fieldLink RX4 21 "RingHeap$Store" "weaks" "[LRingHeap$Thing;", Cond.fieldLink RX4 17 "RingHeap$Store" "freedNumbers" "[I", Cond.fieldLink RX4 70 "RingHeap$Store" "freedEver" "I", Cond.methodLink RX4 63 yX6_takeBack, Cond.instanceMethod yX6_takeBack, Cond.selects RX6 yX6_takeBack yX6_takeBack, Cond.initialized RX6, Cond.code yX6_takeBack cX6_takeBack 4 none]
def wsX7_loose_r5 : List Cond := [Cond.fieldLink RX6 25 "RingHeap$Thing" "address" "I", Cond.fieldLink RX6 28 "RingHeap$Thing" "kind" "LRingHeap$Kind;", Cond.fieldLink RX6 32 "RingHeap$Kind" "size" "I", Cond.fieldLink RX6 11 "RingHeap$Words" "owners" "[LRingHeap$Thing;", Cond.fieldLink RX6 17 "RingHeap$Words" "free" "I"]
def wsX7_loose : List Cond := .code yX7_loose cX7_loose 3 (some .int) :: ((wsX7_loose_r1 ++ (wsX7_loose_r2 ++ (wsX7_loose_r3 ++ (wsX7_loose_r4 ++ wsX7_loose_r5)))) ++ wsX70 ++ wsX50 ++ wsX40 ++ wsX10 ++ wsX30 ++ wsX20 ++ wsX60)
def wsX7_set_r1 : List Cond := [Cond.classLink RX7 40 "java/lang/IndexOutOfBoundsException", Cond.initialized "java/lang/IndexOutOfBoundsException", Cond.fieldLink RX7 18 "RingHeap" "store" "LRingHeap$Store;", Cond.fieldLink RX7 97 "RingHeap$Thing" "held" "[LRingHeap$Thing;", Cond.fieldLink RX7 27 "RingHeap" "counting" "LRingHeap$Counting;", Cond.methodLink RX7 70 yX4_living, Cond.instanceMethod yX4_living, Cond.selects RX4 yX4_living yX4_living, Cond.initialized RX4, Cond.code yX4_living cX4_living 3 (some (.object "RingHeap$Thing")), Cond.fieldLink RX4 35 "RingHeap$Thing" "husk" "Z", Cond.methodLink RX4 31 yX4_thing, Cond.instanceMethod yX4_thing, Cond.selects RX4 yX4_thing yX4_thing, Cond.code yX4_thing cX4_thing 2 (some (.object "RingHeap$Thing")), Cond.fieldLink RX4 11 "RingHeap$Store" "things" "[LRingHeap$Thing;", Cond.methodLink RX7 91 yX5_hasField, Cond.instanceMethod yX5_hasField, Cond.selects RX5 yX5_hasField yX5_hasField, Cond.initialized RX5, Cond.code yX5_hasField cX5_hasField 2 (some .boolean), Cond.fieldLink RX5 21 "RingHeap$Thing" "kind" "LRingHeap$Kind;", Cond.fieldLink RX5 29 "RingHeap$Kind" "fields" "I", Cond.fieldLink RX5 25 "RingHeap$Thing" "held" "[LRingHeap$Thing;"]
def wsX7_set_r2 : List Cond := [Cond.methodLink RX7 80 yX1_more, Cond.instanceMethod yX1_more, Cond.selects RX1 yX1_more yX1_more, Cond.initialized RX1, Cond.code yX1_more cX1_more 2 none, Cond.fieldLink RX1 28 "RingHeap$Thing" "count" "I", Cond.methodLink RX1 34 yX5_blackenUnlessGreen, Cond.instanceMethod yX5_blackenUnlessGreen, Cond.selects RX5 yX5_blackenUnlessGreen yX5_blackenUnlessGreen, Cond.code yX5_blackenUnlessGreen cX5_blackenUnlessGreen 1 none, Cond.fieldLink RX5 34 "RingHeap$Thing" "colour" "I", Cond.methodLink RX5 44 yX5_isGreen, Cond.instanceMethod yX5_isGreen, Cond.selects RX5 yX5_isGreen yX5_isGreen, Cond.code yX5_isGreen cX5_isGreen 1 (some .boolean), Cond.methodLink RX7 87 yX1_less, Cond.instanceMethod yX1_less, Cond.selects RX1 yX1_less yX1_less, Cond.code yX1_less cX1_less 6 (some .int), Cond.fieldLink RX1 24 "RingHeap$Counting" "store" "LRingHeap$Store;", Cond.fieldLink RX1 37 "RingHeap$Store" "freedEver" "I", Cond.fieldLink RX1 12 "RingHeap$Counting" "going" "LRingHeap$Row;", Cond.methodLink RX1 42 yX1_lower, Cond.instanceMethod yX1_lower]
def wsX7_set_r3 : List Cond := [Cond.selects RX1 yX1_lower yX1_lower, Cond.code yX1_lower cX1_lower 2 none, Cond.fieldLink RX1 56 "RingHeap$Thing" "wishUntold" "Z", Cond.methodLink RX1 63 yX1_suspect, Cond.instanceMethod yX1_suspect, Cond.selects RX1 yX1_suspect yX1_suspect, Cond.code yX1_suspect cX1_suspect 2 none, Cond.fieldLink RX1 73 "RingHeap$Thing" "colour" "I", Cond.fieldLink RX1 76 "RingHeap$Thing" "inList" "Z", Cond.fieldLink RX1 18 "RingHeap$Counting" "list" "LRingHeap$Row;", Cond.methodLink RX1 69 yX5_isGreen, Cond.methodLink RX1 60 yX3_append, Cond.instanceMethod yX3_append, Cond.selects RX3 yX3_append yX3_append, Cond.initialized RX3, Cond.code yX3_append cX3_append 2 none, Cond.fieldLink RX3 17 "RingHeap$Row" "length" "I", Cond.fieldLink RX3 11 "RingHeap$Row" "things" "[LRingHeap$Thing;", Cond.methodLink RX1 66 yX1_tellWish, Cond.instanceMethod yX1_tellWish, Cond.selects RX1 yX1_tellWish yX1_tellWish, Cond.code yX1_tellWish cX1_tellWish 2 none, Cond.fieldLink RX1 21 "RingHeap$Counting" "wishes" "LRingHeap$Row;", Cond.methodLink RX1 46 yX3_last]
def wsX7_set_r4 : List Cond := [Cond.instanceMethod yX3_last, Cond.selects RX3 yX3_last yX3_last, Cond.code yX3_last cX3_last 1 (some (.object "RingHeap$Thing")), Cond.methodLink RX3 21 yX3_item, Cond.instanceMethod yX3_item, Cond.selects RX3 yX3_item yX3_item, Cond.code yX3_item cX3_item 2 (some (.object "RingHeap$Thing")), Cond.methodLink RX1 50 yX5_giveUpNext, Cond.instanceMethod yX5_giveUpNext, Cond.selects RX5 yX5_giveUpNext yX5_giveUpNext, Cond.code yX5_giveUpNext cX5_giveUpNext 2 (some (.object "RingHeap$Thing")), Cond.fieldLink RX5 48 "RingHeap$Thing" "nextField" "I", Cond.methodLink RX1 53 yX1_finish, Cond.instanceMethod yX1_finish, Cond.selects RX1 yX1_finish yX1_finish, Cond.code yX1_finish cX1_finish 2 none, Cond.fieldLink RX1 82 "RingHeap$Thing" "husk" "Z", Cond.methodLink RX1 79 yX3_removeLast, Cond.instanceMethod yX3_removeLast, Cond.selects RX3 yX3_removeLast yX3_removeLast, Cond.code yX3_removeLast cX3_removeLast 1 none, Cond.methodLink RX1 85 yX4_free, Cond.instanceMethod yX4_free, Cond.selects RX4 yX4_free yX4_free]
def wsX7_set_r5 : List Cond := [Cond.code yX4_free cX4_free 3 none, Cond.fieldLink RX4 27 "RingHeap$Store" "words" "LRingHeap$Words;", Cond.fieldLink RX4 67 "RingHeap$Thing" "number" "I", Cond.fieldLink RX4 60 "RingHeap$Store" "thingsThere" "I", Cond.fieldLink RX4 21 "RingHeap$Store" "weaks" "[LRingHeap$Thing;", Cond.fieldLink RX4 17 "RingHeap$Store" "freedNumbers" "[I", Cond.fieldLink RX4 70 "RingHeap$Store" "freedEver" "I", Cond.methodLink RX4 63 yX6_takeBack, Cond.instanceMethod yX6_takeBack, Cond.selects RX6 yX6_takeBack yX6_takeBack, Cond.initialized RX6, Cond.code yX6_takeBack cX6_takeBack 4 none, Cond.fieldLink RX6 25 "RingHeap$Thing" "address" "I", Cond.fieldLink RX6 28 "RingHeap$Thing" "kind" "LRingHeap$Kind;", Cond.fieldLink RX6 32 "RingHeap$Kind" "size" "I", Cond.fieldLink RX6 11 "RingHeap$Words" "owners" "[LRingHeap$Thing;", Cond.fieldLink RX6 17 "RingHeap$Words" "free" "I"]
def wsX7_set : List Cond := .code yX7_set cX7_set 7 (some .int) :: ((wsX7_set_r1 ++ (wsX7_set_r2 ++ (wsX7_set_r3 ++ (wsX7_set_r4 ++ wsX7_set_r5)))) ++ wsX70 ++ wsX50 ++ wsX40 ++ wsX20 ++ wsX10 ++ wsX30 ++ wsX60 ++ (vx_atS RX7 44 "java/lang/IndexOutOfBoundsException" ["java/lang/RuntimeException", "java/lang/Exception"]).filter goodWord)
def wsX7_numberOf : List Cond := .code yX7_numberOf cX7_numberOf 1 (some .int) :: ([.fieldLink RX7 119 "RingHeap$Thing" "number" "I"] ++ wsX50)
def wsX7_get : List Cond := .code yX7_get cX7_get 4 (some .int) :: ([.classLink RX7 40 "java/lang/IndexOutOfBoundsException", .initialized "java/lang/IndexOutOfBoundsException", .fieldLink RX7 18 "RingHeap" "store" "LRingHeap$Store;", .fieldLink RX7 97 "RingHeap$Thing" "held" "[LRingHeap$Thing;", .methodLink RX7 101 yX4_thing, .instanceMethod yX4_thing, .selects RX4 yX4_thing yX4_thing, .initialized RX4, .code yX4_thing cX4_thing 2 (some (.object "RingHeap$Thing")), .fieldLink RX4 11 "RingHeap$Store" "things" "[LRingHeap$Thing;", .methodLink RX7 91 yX5_hasField, .instanceMethod yX5_hasField, .selects RX5 yX5_hasField yX5_hasField, .initialized RX5, .code yX5_hasField cX5_hasField 2 (some .boolean), .fieldLink RX5 21 "RingHeap$Thing" "kind" "LRingHeap$Kind;", .fieldLink RX5 29 "RingHeap$Kind" "fields" "I", .fieldLink RX5 25 "RingHeap$Thing" "held" "[LRingHeap$Thing;", .methodLink RX7 106 yX7_numberOf, .static yX7_numberOf, .initialized RX7, .code yX7_numberOf cX7_numberOf 1 (some .int), .fieldLink RX7 119 "RingHeap$Thing" "number" "I"] ++ wsX70 ++ wsX50 ++ wsX40 ++ wsX20 ++ (vx_atS RX7 44 "java/lang/IndexOutOfBoundsException" ["java/lang/RuntimeException", "java/lang/Exception"]).filter goodWord)
def wsX7_wish : List Cond := .code yX7_wish cX7_wish 2 (some .int) :: ([.fieldLink RX7 27 "RingHeap" "counting" "LRingHeap$Counting;", .fieldLink RX7 109 "RingHeap$Counting" "wishes" "LRingHeap$Row;", .fieldLink RX7 74 "RingHeap$Thing" "hands" "I", .fieldLink RX7 119 "RingHeap$Thing" "number" "I", .methodLink RX7 113 yX3_takeFirst, .instanceMethod yX3_takeFirst, .selects RX3 yX3_takeFirst yX3_takeFirst, .initialized RX3, .code yX3_takeFirst cX3_takeFirst 3 (some (.object "RingHeap$Thing")), .fieldLink RX3 17 "RingHeap$Row" "length" "I", .fieldLink RX3 11 "RingHeap$Row" "things" "[LRingHeap$Thing;", .methodLink RX3 21 yX3_item, .instanceMethod yX3_item, .selects RX3 yX3_item yX3_item, .code yX3_item cX3_item 2 (some (.object "RingHeap$Thing"))] ++ wsX70 ++ wsX10 ++ wsX50 ++ wsX30)
def wsX7_collect_r1 : List Cond := [Cond.fieldLink RX7 36 "RingHeap" "collector" "LRingHeap$Collector;", Cond.methodLink RX7 59 yX0_run, Cond.instanceMethod yX0_run, Cond.selects RX0 yX0_run yX0_run, Cond.initialized RX0, Cond.code yX0_run cX0_run 2 (some .int), Cond.fieldLink RX0 21 "RingHeap$Collector" "store" "LRingHeap$Store;", Cond.fieldLink RX0 29 "RingHeap$Store" "freedEver" "I", Cond.fieldLink RX0 35 "RingHeap$Collector" "collections" "I", Cond.methodLink RX0 38 yX0_markListed, Cond.instanceMethod yX0_markListed, Cond.selects RX0 yX0_markListed yX0_markListed, Cond.code yX0_markListed cX0_markListed 4 none, Cond.fieldLink RX0 25 "RingHeap$Collector" "counting" "LRingHeap$Counting;", Cond.fieldLink RX0 53 "RingHeap$Counting" "list" "LRingHeap$Row;", Cond.fieldLink RX0 58 "RingHeap$Row" "length" "I", Cond.fieldLink RX0 65 "RingHeap$Thing" "husk" "Z", Cond.fieldLink RX0 71 "RingHeap$Thing" "inList" "Z", Cond.fieldLink RX0 78 "RingHeap$Thing" "colour" "I", Cond.methodLink RX0 61 yX3_item, Cond.instanceMethod yX3_item, Cond.selects RX3 yX3_item yX3_item, Cond.initialized RX3, Cond.code yX3_item cX3_item 2 (some (.object "RingHeap$Thing"))]
def wsX7_collect_r2 : List Cond := [Cond.fieldLink RX3 17 "RingHeap$Row" "length" "I", Cond.fieldLink RX3 11 "RingHeap$Row" "things" "[LRingHeap$Thing;", Cond.methodLink RX0 74 yX4_free, Cond.instanceMethod yX4_free, Cond.selects RX4 yX4_free yX4_free, Cond.initialized RX4, Cond.code yX4_free cX4_free 3 none, Cond.fieldLink RX4 27 "RingHeap$Store" "words" "LRingHeap$Words;", Cond.fieldLink RX4 11 "RingHeap$Store" "things" "[LRingHeap$Thing;", Cond.fieldLink RX4 67 "RingHeap$Thing" "number" "I", Cond.fieldLink RX4 60 "RingHeap$Store" "thingsThere" "I", Cond.fieldLink RX4 21 "RingHeap$Store" "weaks" "[LRingHeap$Thing;", Cond.fieldLink RX4 17 "RingHeap$Store" "freedNumbers" "[I", Cond.fieldLink RX4 70 "RingHeap$Store" "freedEver" "I", Cond.methodLink RX4 63 yX6_takeBack, Cond.instanceMethod yX6_takeBack, Cond.selects RX6 yX6_takeBack yX6_takeBack, Cond.initialized RX6, Cond.code yX6_takeBack cX6_takeBack 4 none, Cond.fieldLink RX6 25 "RingHeap$Thing" "address" "I", Cond.fieldLink RX6 28 "RingHeap$Thing" "kind" "LRingHeap$Kind;", Cond.fieldLink RX6 32 "RingHeap$Kind" "size" "I", Cond.fieldLink RX6 11 "RingHeap$Words" "owners" "[LRingHeap$Thing;", Cond.fieldLink RX6 17 "RingHeap$Words" "free" "I"]
def wsX7_collect_r3 : List Cond := [Cond.methodLink RX0 81 yX0_markFrom, Cond.instanceMethod yX0_markFrom, Cond.selects RX0 yX0_markFrom yX0_markFrom, Cond.code yX0_markFrom cX0_markFrom 8 none, Cond.fieldLink RX0 12 "RingHeap$Collector" "reached" "LRingHeap$Row;", Cond.fieldLink RX0 90 "RingHeap$Thing" "held" "[LRingHeap$Thing;", Cond.fieldLink RX0 98 "RingHeap$Thing" "count" "I", Cond.methodLink RX0 84 yX3_clear, Cond.instanceMethod yX3_clear, Cond.selects RX3 yX3_clear yX3_clear, Cond.code yX3_clear cX3_clear 1 none, Cond.methodLink RX0 87 yX0_turnGray, Cond.instanceMethod yX0_turnGray, Cond.selects RX0 yX0_turnGray yX0_turnGray, Cond.code yX0_turnGray cX0_turnGray 2 none, Cond.fieldLink RX0 101 "RingHeap$Collector" "grayed" "I", Cond.methodLink RX0 94 yX5_isGreen, Cond.instanceMethod yX5_isGreen, Cond.selects RX5 yX5_isGreen yX5_isGreen, Cond.initialized RX5, Cond.code yX5_isGreen cX5_isGreen 1 (some .boolean), Cond.fieldLink RX5 34 "RingHeap$Thing" "colour" "I", Cond.methodLink RX0 104 yX3_append, Cond.instanceMethod yX3_append]
def wsX7_collect_r4 : List Cond := [Cond.selects RX3 yX3_append yX3_append, Cond.code yX3_append cX3_append 2 none, Cond.methodLink RX0 41 yX0_scanListed, Cond.instanceMethod yX0_scanListed, Cond.selects RX0 yX0_scanListed yX0_scanListed, Cond.code yX0_scanListed cX0_scanListed 4 none, Cond.methodLink RX0 107 yX0_scanFrom, Cond.instanceMethod yX0_scanFrom, Cond.selects RX0 yX0_scanFrom yX0_scanFrom, Cond.code yX0_scanFrom cX0_scanFrom 8 none, Cond.methodLink RX0 110 yX0_judge, Cond.instanceMethod yX0_judge, Cond.selects RX0 yX0_judge yX0_judge, Cond.code yX0_judge cX0_judge 2 none, Cond.methodLink RX0 113 yX0_blackenFrom, Cond.instanceMethod yX0_blackenFrom, Cond.selects RX0 yX0_blackenFrom yX0_blackenFrom, Cond.code yX0_blackenFrom cX0_blackenFrom 8 none, Cond.fieldLink RX0 18 "RingHeap$Collector" "darkened" "LRingHeap$Row;", Cond.methodLink RX0 116 yX0_turnBlack, Cond.instanceMethod yX0_turnBlack, Cond.selects RX0 yX0_turnBlack yX0_turnBlack, Cond.code yX0_turnBlack cX0_turnBlack 2 none, Cond.fieldLink RX0 119 "RingHeap$Collector" "blackened" "I"]
def wsX7_collect_r5 : List Cond := [Cond.methodLink RX0 44 yX0_tellWishes, Cond.instanceMethod yX0_tellWishes, Cond.selects RX0 yX0_tellWishes yX0_tellWishes, Cond.code yX0_tellWishes cX0_tellWishes 3 none, Cond.fieldLink RX0 122 "RingHeap$Store" "words" "LRingHeap$Words;", Cond.fieldLink RX0 131 "RingHeap$Thing" "wishUntold" "Z", Cond.methodLink RX0 126 yX6_ownerFrom, Cond.instanceMethod yX6_ownerFrom, Cond.selects RX6 yX6_ownerFrom yX6_ownerFrom, Cond.code yX6_ownerFrom cX6_ownerFrom 3 (some (.object "RingHeap$Thing")), Cond.methodLink RX6 21 yX6_owner, Cond.instanceMethod yX6_owner, Cond.selects RX6 yX6_owner yX6_owner, Cond.code yX6_owner cX6_owner 2 (some (.object "RingHeap$Thing")), Cond.methodLink RX0 134 yX1_tellWish, Cond.instanceMethod yX1_tellWish, Cond.selects RX1 yX1_tellWish yX1_tellWish, Cond.initialized RX1, Cond.code yX1_tellWish cX1_tellWish 2 none, Cond.fieldLink RX1 56 "RingHeap$Thing" "wishUntold" "Z", Cond.fieldLink RX1 28 "RingHeap$Thing" "count" "I", Cond.fieldLink RX1 21 "RingHeap$Counting" "wishes" "LRingHeap$Row;", Cond.methodLink RX1 60 yX3_append, Cond.methodLink RX0 47 yX0_emptyList]
def wsX7_collect_r6 : List Cond := [Cond.instanceMethod yX0_emptyList, Cond.selects RX0 yX0_emptyList yX0_emptyList, Cond.code yX0_emptyList cX0_emptyList 4 none, Cond.methodLink RX0 50 yX0_freeWhite, Cond.instanceMethod yX0_freeWhite, Cond.selects RX0 yX0_freeWhite yX0_freeWhite, Cond.code yX0_freeWhite cX0_freeWhite 7 none, Cond.methodLink RX0 137 yX1_less, Cond.instanceMethod yX1_less, Cond.selects RX1 yX1_less yX1_less, Cond.code yX1_less cX1_less 6 (some .int), Cond.fieldLink RX1 24 "RingHeap$Counting" "store" "LRingHeap$Store;", Cond.fieldLink RX1 37 "RingHeap$Store" "freedEver" "I", Cond.fieldLink RX1 12 "RingHeap$Counting" "going" "LRingHeap$Row;", Cond.methodLink RX1 42 yX1_lower, Cond.instanceMethod yX1_lower, Cond.selects RX1 yX1_lower yX1_lower, Cond.code yX1_lower cX1_lower 2 none, Cond.methodLink RX1 63 yX1_suspect, Cond.instanceMethod yX1_suspect, Cond.selects RX1 yX1_suspect yX1_suspect, Cond.code yX1_suspect cX1_suspect 2 none, Cond.fieldLink RX1 73 "RingHeap$Thing" "colour" "I", Cond.fieldLink RX1 76 "RingHeap$Thing" "inList" "Z"]
def wsX7_collect_r7 : List Cond := [Cond.fieldLink RX1 18 "RingHeap$Counting" "list" "LRingHeap$Row;", Cond.methodLink RX1 69 yX5_isGreen, Cond.methodLink RX1 66 yX1_tellWish, Cond.methodLink RX1 34 yX5_blackenUnlessGreen, Cond.instanceMethod yX5_blackenUnlessGreen, Cond.selects RX5 yX5_blackenUnlessGreen yX5_blackenUnlessGreen, Cond.code yX5_blackenUnlessGreen cX5_blackenUnlessGreen 1 none, Cond.methodLink RX5 44 yX5_isGreen, Cond.methodLink RX1 46 yX3_last, Cond.instanceMethod yX3_last, Cond.selects RX3 yX3_last yX3_last, Cond.code yX3_last cX3_last 1 (some (.object "RingHeap$Thing")), Cond.methodLink RX3 21 yX3_item, Cond.methodLink RX1 50 yX5_giveUpNext, Cond.instanceMethod yX5_giveUpNext, Cond.selects RX5 yX5_giveUpNext yX5_giveUpNext, Cond.code yX5_giveUpNext cX5_giveUpNext 2 (some (.object "RingHeap$Thing")), Cond.fieldLink RX5 48 "RingHeap$Thing" "nextField" "I", Cond.fieldLink RX5 25 "RingHeap$Thing" "held" "[LRingHeap$Thing;", Cond.methodLink RX1 53 yX1_finish, Cond.instanceMethod yX1_finish, Cond.selects RX1 yX1_finish yX1_finish, Cond.code yX1_finish cX1_finish 2 none, Cond.fieldLink RX1 82 "RingHeap$Thing" "husk" "Z"]
def wsX7_collect_r8 : List Cond := [Cond.methodLink RX1 79 yX3_removeLast, Cond.instanceMethod yX3_removeLast, Cond.selects RX3 yX3_removeLast yX3_removeLast, Cond.code yX3_removeLast cX3_removeLast 1 none, Cond.methodLink RX1 85 yX4_free]
def wsX7_collect : List Cond := .code yX7_collect cX7_collect 1 (some .int) :: ((wsX7_collect_r1 ++ (wsX7_collect_r2 ++ (wsX7_collect_r3 ++ (wsX7_collect_r4 ++ (wsX7_collect_r5 ++ (wsX7_collect_r6 ++ (wsX7_collect_r7 ++ wsX7_collect_r8))))))) ++ wsX70 ++ wsX00 ++ wsX40 ++ wsX10 ++ wsX30 ++ wsX50 ++ wsX20 ++ wsX60)
def wsX7_pack_r1 : List Cond := [Cond.fieldLink RX7 122 "RingHeap" "moves" "I", Cond.fieldLink RX7 18 "RingHeap" "store" "LRingHeap$Store;", Cond.fieldLink RX7 125 "RingHeap$Store" "words" "LRingHeap$Words;", Cond.methodLink RX7 129 yX6_moveAllDown, Cond.instanceMethod yX6_moveAllDown, Cond.selects RX6 yX6_moveAllDown yX6_moveAllDown, Cond.initialized RX6, Cond.code yX6_moveAllDown cX6_moveAllDown 5 (some .int), Cond.fieldLink RX6 28 "RingHeap$Thing" "kind" "LRingHeap$Kind;", Cond.fieldLink RX6 32 "RingHeap$Kind" "size" "I", Cond.methodLink RX6 37 yX6_ownerFrom, Cond.instanceMethod yX6_ownerFrom, Cond.selects RX6 yX6_ownerFrom yX6_ownerFrom, Cond.code yX6_ownerFrom cX6_ownerFrom 3 (some (.object "RingHeap$Thing")), Cond.fieldLink RX6 25 "RingHeap$Thing" "address" "I", Cond.methodLink RX6 21 yX6_owner, Cond.instanceMethod yX6_owner, Cond.selects RX6 yX6_owner yX6_owner, Cond.code yX6_owner cX6_owner 2 (some (.object "RingHeap$Thing")), Cond.fieldLink RX6 11 "RingHeap$Words" "owners" "[LRingHeap$Thing;", Cond.methodLink RX6 40 yX6_takeBack, Cond.instanceMethod yX6_takeBack, Cond.selects RX6 yX6_takeBack yX6_takeBack, Cond.code yX6_takeBack cX6_takeBack 4 none]
def wsX7_pack_r2 : List Cond := [Cond.fieldLink RX6 17 "RingHeap$Words" "free" "I", Cond.methodLink RX6 44 yX6_give, Cond.instanceMethod yX6_give, Cond.selects RX6 yX6_give yX6_give, Cond.code yX6_give cX6_give 5 none]
def wsX7_pack : List Cond := .code yX7_pack cX7_pack 1 (some .int) :: ((wsX7_pack_r1 ++ wsX7_pack_r2) ++ wsX70 ++ wsX40 ++ wsX50 ++ wsX20 ++ wsX60)
def wsX7_weak : List Cond := .code yX7_weak cX7_weak 5 (some .int) :: ([.classLink RX7 40 "java/lang/IndexOutOfBoundsException", .initialized "java/lang/IndexOutOfBoundsException", .fieldLink RX7 18 "RingHeap" "store" "LRingHeap$Store;", .fieldLink RX7 136 "RingHeap$Store" "weaks" "[LRingHeap$Thing;", .methodLink RX7 70 yX4_living, .instanceMethod yX4_living, .selects RX4 yX4_living yX4_living, .initialized RX4, .code yX4_living cX4_living 3 (some (.object "RingHeap$Thing")), .fieldLink RX4 35 "RingHeap$Thing" "husk" "Z", .methodLink RX4 31 yX4_thing, .instanceMethod yX4_thing, .selects RX4 yX4_thing yX4_thing, .code yX4_thing cX4_thing 2 (some (.object "RingHeap$Thing")), .fieldLink RX4 11 "RingHeap$Store" "things" "[LRingHeap$Thing;", .methodLink RX7 106 yX7_numberOf, .static yX7_numberOf, .initialized RX7, .code yX7_numberOf cX7_numberOf 1 (some .int), .fieldLink RX7 119 "RingHeap$Thing" "number" "I"] ++ wsX70 ++ wsX40 ++ wsX50 ++ (vx_atS RX7 44 "java/lang/IndexOutOfBoundsException" ["java/lang/RuntimeException", "java/lang/Exception"]).filter goodWord)
def wsX7_seen : List Cond := .code yX7_seen cX7_seen 2 (some .int) :: ([.classLink RX7 40 "java/lang/IndexOutOfBoundsException", .initialized "java/lang/IndexOutOfBoundsException", .fieldLink RX7 18 "RingHeap" "store" "LRingHeap$Store;", .fieldLink RX7 136 "RingHeap$Store" "weaks" "[LRingHeap$Thing;", .methodLink RX7 106 yX7_numberOf, .static yX7_numberOf, .initialized RX7, .code yX7_numberOf cX7_numberOf 1 (some .int), .fieldLink RX7 119 "RingHeap$Thing" "number" "I"] ++ wsX70 ++ wsX40 ++ wsX50 ++ (vx_atS RX7 44 "java/lang/IndexOutOfBoundsException" ["java/lang/RuntimeException", "java/lang/Exception"]).filter goodWord)
def wsX7_object : List Cond := .code yX7_object cX7_object 4 (some .int) :: ([.classLink RX7 40 "java/lang/IndexOutOfBoundsException", .initialized "java/lang/IndexOutOfBoundsException", .fieldLink RX7 18 "RingHeap" "store" "LRingHeap$Store;", .methodLink RX7 101 yX4_thing, .instanceMethod yX4_thing, .selects RX4 yX4_thing yX4_thing, .initialized RX4, .code yX4_thing cX4_thing 2 (some (.object "RingHeap$Thing")), .fieldLink RX4 11 "RingHeap$Store" "things" "[LRingHeap$Thing;", .methodLink RX7 141 yX5_tell, .instanceMethod yX5_tell, .selects RX5 yX5_tell yX5_tell, .initialized RX5, .code yX5_tell cX5_tell 2 (some .int), .fieldLink RX5 21 "RingHeap$Thing" "kind" "LRingHeap$Kind;", .fieldLink RX5 51 "RingHeap$Kind" "number" "I", .fieldLink RX5 9 "RingHeap$Thing" "count" "I", .fieldLink RX5 34 "RingHeap$Thing" "colour" "I", .fieldLink RX5 52 "RingHeap$Thing" "address" "I", .fieldLink RX5 55 "RingHeap$Thing" "inList" "Z", .fieldLink RX5 41 "RingHeap$Thing" "wishUntold" "Z", .fieldLink RX5 15 "RingHeap$Thing" "hands" "I", .fieldLink RX5 58 "RingHeap$Thing" "husk" "Z"] ++ wsX70 ++ wsX40 ++ wsX50 ++ wsX20 ++ (vx_atS RX7 44 "java/lang/IndexOutOfBoundsException" ["java/lang/RuntimeException", "java/lang/Exception"]).filter goodWord)
def wsX7_count : List Cond := .code yX7_count cX7_count 2 (some .int) :: ([.classLink RX7 40 "java/lang/IndexOutOfBoundsException", .initialized "java/lang/IndexOutOfBoundsException", .fieldLink RX7 18 "RingHeap" "store" "LRingHeap$Store;", .fieldLink RX7 145 "RingHeap$Store" "thingsThere" "I", .fieldLink RX7 27 "RingHeap" "counting" "LRingHeap$Counting;", .fieldLink RX7 148 "RingHeap$Counting" "list" "LRingHeap$Row;", .fieldLink RX7 151 "RingHeap$Row" "length" "I", .fieldLink RX7 109 "RingHeap$Counting" "wishes" "LRingHeap$Row;", .fieldLink RX7 125 "RingHeap$Store" "words" "LRingHeap$Words;", .fieldLink RX7 154 "RingHeap$Words" "free" "I", .fieldLink RX7 157 "RingHeap$Store" "freedEver" "I", .fieldLink RX7 36 "RingHeap" "collector" "LRingHeap$Collector;", .fieldLink RX7 160 "RingHeap$Collector" "collections" "I", .fieldLink RX7 122 "RingHeap" "moves" "I", .fieldLink RX7 163 "RingHeap$Collector" "grayed" "I", .fieldLink RX7 166 "RingHeap$Collector" "blackened" "I"] ++ wsX70 ++ wsX40 ++ wsX10 ++ wsX30 ++ wsX60 ++ wsX00 ++ (vx_atS RX7 44 "java/lang/IndexOutOfBoundsException" ["java/lang/RuntimeException", "java/lang/Exception"]).filter goodWord)
def wsX7_listed : List Cond := .code yX7_listed cX7_listed 2 (some .int) :: ([.fieldLink RX7 27 "RingHeap" "counting" "LRingHeap$Counting;", .fieldLink RX7 148 "RingHeap$Counting" "list" "LRingHeap$Row;", .methodLink RX7 169 yX3_item, .instanceMethod yX3_item, .selects RX3 yX3_item yX3_item, .initialized RX3, .code yX3_item cX3_item 2 (some (.object "RingHeap$Thing")), .fieldLink RX3 17 "RingHeap$Row" "length" "I", .fieldLink RX3 11 "RingHeap$Row" "things" "[LRingHeap$Thing;", .methodLink RX7 106 yX7_numberOf, .static yX7_numberOf, .initialized RX7, .code yX7_numberOf cX7_numberOf 1 (some .int), .fieldLink RX7 119 "RingHeap$Thing" "number" "I"] ++ wsX70 ++ wsX10 ++ wsX30 ++ wsX50)
def wsX7_freed : List Cond := .code yX7_freed cX7_freed 2 (some .int) :: ([.fieldLink RX7 18 "RingHeap" "store" "LRingHeap$Store;", .methodLink RX7 172 yX4_freedNumber, .instanceMethod yX4_freedNumber, .selects RX4 yX4_freedNumber yX4_freedNumber, .initialized RX4, .code yX4_freedNumber cX4_freedNumber 2 (some .int), .fieldLink RX4 70 "RingHeap$Store" "freedEver" "I", .fieldLink RX4 17 "RingHeap$Store" "freedNumbers" "[I"] ++ wsX70 ++ wsX40)
def wsX7_at : List Cond := .code yX7_at cX7_at 2 (some .int) :: ([.classLink RX7 40 "java/lang/IndexOutOfBoundsException", .initialized "java/lang/IndexOutOfBoundsException", .fieldLink RX7 18 "RingHeap" "store" "LRingHeap$Store;", .fieldLink RX7 125 "RingHeap$Store" "words" "LRingHeap$Words;", .methodLink RX7 177 yX6_owner, .instanceMethod yX6_owner, .selects RX6 yX6_owner yX6_owner, .initialized RX6, .code yX6_owner cX6_owner 2 (some (.object "RingHeap$Thing")), .fieldLink RX6 11 "RingHeap$Words" "owners" "[LRingHeap$Thing;", .methodLink RX7 106 yX7_numberOf, .static yX7_numberOf, .initialized RX7, .code yX7_numberOf cX7_numberOf 1 (some .int), .fieldLink RX7 119 "RingHeap$Thing" "number" "I"] ++ wsX70 ++ wsX40 ++ wsX60 ++ wsX50 ++ (vx_atS RX7 44 "java/lang/IndexOutOfBoundsException" ["java/lang/RuntimeException", "java/lang/Exception"]).filter goodWord)
def wsX8_thrown : List Cond := .code yX8_thrown cX8_thrown 1 (some .int) :: ([.fieldLink RX8 1 "RingHeapModel" "thrown" "I"] ++ wsX80)
def wsX8_init_r1 : List Cond := [Cond.methodLink RX8 7 objectInit, Cond.instanceMethod objectInit, Cond.code objectInit ⟨#[0xb1]⟩ 1 none, Cond.arrayClass .int, Cond.fieldLink RX8 13 "RingHeapModel" "typeFields" "[I", Cond.fieldLink RX8 17 "RingHeapModel" "typeWords" "[I", Cond.arrayClass .boolean, Cond.fieldLink RX8 20 "RingHeapModel" "typeWish" "[Z", Cond.fieldLink RX8 24 "RingHeapModel" "types" "[I", Cond.fieldLink RX8 27 "RingHeapModel" "counts" "[I", Cond.fieldLink RX8 30 "RingHeapModel" "colours" "[I", Cond.fieldLink RX8 33 "RingHeapModel" "addresses" "[I", Cond.fieldLink RX8 36 "RingHeapModel" "hands" "[I", Cond.fieldLink RX8 39 "RingHeapModel" "listedNow" "[Z", Cond.fieldLink RX8 42 "RingHeapModel" "wishTold" "[Z", Cond.fieldLink RX8 45 "RingHeapModel" "husks" "[Z", Cond.fieldLink RX8 48 "RingHeapModel" "fields" "[I", Cond.fieldLink RX8 51 "RingHeapModel" "owners" "[I", Cond.fieldLink RX8 54 "RingHeapModel" "list" "[I", Cond.fieldLink RX8 57 "RingHeapModel" "wishes" "[I", Cond.fieldLink RX8 60 "RingHeapModel" "weaks" "[I", Cond.fieldLink RX8 63 "RingHeapModel" "freedRow" "[I", Cond.fieldLink RX8 66 "RingHeapModel" "work" "[I", Cond.fieldLink RX8 69 "RingHeapModel" "workFields" "[I"]
def wsX8_init_r2 : List Cond := [Cond.fieldLink RX8 72 "RingHeapModel" "byAddress" "[I", Cond.fieldLink RX8 75 "RingHeapModel" "blackWork" "[I"]
def wsX8_init : List Cond := .code yX8_init cX8_init 2 none :: ((wsX8_init_r1 ++ wsX8_init_r2) ++ wsX80)
def wsX8_isThere : List Cond := .code yX8_isThere cX8_isThere 2 (some .boolean) :: ([.fieldLink RX8 24 "RingHeapModel" "types" "[I"] ++ wsX80)
def wsX8_isWhole : List Cond := .code yX8_isWhole cX8_isWhole 2 (some .boolean) :: ([.fieldLink RX8 45 "RingHeapModel" "husks" "[Z", .methodLink RX8 78 yX8_isThere, .instanceMethod yX8_isThere, .selects RX8 yX8_isThere yX8_isThere, .initialized RX8, .code yX8_isThere cX8_isThere 2 (some .boolean), .fieldLink RX8 24 "RingHeapModel" "types" "[I"] ++ wsX80)
def wsX8_turn : List Cond := .code yX8_turn cX8_turn 3 none :: ([.fieldLink RX8 30 "RingHeapModel" "colours" "[I"] ++ wsX80)
def wsX8_fieldsOf : List Cond := .code yX8_fieldsOf cX8_fieldsOf 2 (some .int) :: ([.fieldLink RX8 13 "RingHeapModel" "typeFields" "[I", .fieldLink RX8 24 "RingHeapModel" "types" "[I"] ++ wsX80)
def wsX8_type : List Cond := .code yX8_type cX8_type 5 (some .boolean) :: ([.fieldLink RX8 1 "RingHeapModel" "thrown" "I", .fieldLink RX8 13 "RingHeapModel" "typeFields" "[I", .fieldLink RX8 17 "RingHeapModel" "typeWords" "[I", .fieldLink RX8 20 "RingHeapModel" "typeWish" "[Z"] ++ wsX80)
def wsX8_free : List Cond := .code yX8_free cX8_free 3 none :: ([.fieldLink RX8 51 "RingHeapModel" "owners" "[I", .fieldLink RX8 60 "RingHeapModel" "weaks" "[I", .fieldLink RX8 24 "RingHeapModel" "types" "[I", .fieldLink RX8 45 "RingHeapModel" "husks" "[Z", .fieldLink RX8 63 "RingHeapModel" "freedRow" "[I", .fieldLink RX8 82 "RingHeapModel" "freedEver" "I"] ++ wsX80)
def wsX8_hasWish : List Cond := .code yX8_hasWish cX8_hasWish 2 (some .boolean) :: ([.fieldLink RX8 20 "RingHeapModel" "typeWish" "[Z", .fieldLink RX8 24 "RingHeapModel" "types" "[I", .fieldLink RX8 42 "RingHeapModel" "wishTold" "[Z"] ++ wsX80)
def wsX8_comesToWishes : List Cond := .code yX8_comesToWishes cX8_comesToWishes 2 none :: ([.fieldLink RX8 42 "RingHeapModel" "wishTold" "[Z", .fieldLink RX8 57 "RingHeapModel" "wishes" "[I", .fieldLink RX8 85 "RingHeapModel" "wishCount" "I"] ++ wsX80)
def wsX8_isLetGo : List Cond := .code yX8_isLetGo cX8_isLetGo 2 (some .boolean) :: ([.fieldLink RX8 27 "RingHeapModel" "counts" "[I", .fieldLink RX8 30 "RingHeapModel" "colours" "[I", .fieldLink RX8 39 "RingHeapModel" "listedNow" "[Z", .fieldLink RX8 54 "RingHeapModel" "list" "[I", .fieldLink RX8 88 "RingHeapModel" "listCount" "I", .methodLink RX8 91 yX8_hasWish, .instanceMethod yX8_hasWish, .selects RX8 yX8_hasWish yX8_hasWish, .initialized RX8, .code yX8_hasWish cX8_hasWish 2 (some .boolean), .fieldLink RX8 20 "RingHeapModel" "typeWish" "[Z", .fieldLink RX8 24 "RingHeapModel" "types" "[I", .fieldLink RX8 42 "RingHeapModel" "wishTold" "[Z", .methodLink RX8 94 yX8_comesToWishes, .instanceMethod yX8_comesToWishes, .selects RX8 yX8_comesToWishes yX8_comesToWishes, .code yX8_comesToWishes cX8_comesToWishes 2 none, .fieldLink RX8 57 "RingHeapModel" "wishes" "[I", .fieldLink RX8 85 "RingHeapModel" "wishCount" "I", .methodLink RX8 98 yX8_turn, .instanceMethod yX8_turn, .selects RX8 yX8_turn yX8_turn, .code yX8_turn cX8_turn 3 none] ++ wsX80)
def wsX8_less_r1 : List Cond := [Cond.fieldLink RX8 105 "RingHeapModel" "workCount" "I", Cond.fieldLink RX8 66 "RingHeapModel" "work" "[I", Cond.fieldLink RX8 69 "RingHeapModel" "workFields" "[I", Cond.fieldLink RX8 48 "RingHeapModel" "fields" "[I", Cond.fieldLink RX8 39 "RingHeapModel" "listedNow" "[Z", Cond.fieldLink RX8 45 "RingHeapModel" "husks" "[Z", Cond.methodLink RX8 102 yX8_isLetGo, Cond.instanceMethod yX8_isLetGo, Cond.selects RX8 yX8_isLetGo yX8_isLetGo, Cond.initialized RX8, Cond.code yX8_isLetGo cX8_isLetGo 2 (some .boolean), Cond.fieldLink RX8 27 "RingHeapModel" "counts" "[I", Cond.fieldLink RX8 30 "RingHeapModel" "colours" "[I", Cond.fieldLink RX8 54 "RingHeapModel" "list" "[I", Cond.fieldLink RX8 88 "RingHeapModel" "listCount" "I", Cond.methodLink RX8 91 yX8_hasWish, Cond.instanceMethod yX8_hasWish, Cond.selects RX8 yX8_hasWish yX8_hasWish, Cond.code yX8_hasWish cX8_hasWish 2 (some .boolean), Cond.fieldLink RX8 20 "RingHeapModel" "typeWish" "[Z", Cond.fieldLink RX8 24 "RingHeapModel" "types" "[I", Cond.fieldLink RX8 42 "RingHeapModel" "wishTold" "[Z", Cond.methodLink RX8 94 yX8_comesToWishes, Cond.instanceMethod yX8_comesToWishes]
def wsX8_less_r2 : List Cond := [Cond.selects RX8 yX8_comesToWishes yX8_comesToWishes, Cond.code yX8_comesToWishes cX8_comesToWishes 2 none, Cond.fieldLink RX8 57 "RingHeapModel" "wishes" "[I", Cond.fieldLink RX8 85 "RingHeapModel" "wishCount" "I", Cond.methodLink RX8 98 yX8_turn, Cond.instanceMethod yX8_turn, Cond.selects RX8 yX8_turn yX8_turn, Cond.code yX8_turn cX8_turn 3 none, Cond.methodLink RX8 108 yX8_fieldsOf, Cond.instanceMethod yX8_fieldsOf, Cond.selects RX8 yX8_fieldsOf yX8_fieldsOf, Cond.code yX8_fieldsOf cX8_fieldsOf 2 (some .int), Cond.fieldLink RX8 13 "RingHeapModel" "typeFields" "[I", Cond.methodLink RX8 112 yX8_free, Cond.instanceMethod yX8_free, Cond.selects RX8 yX8_free yX8_free, Cond.code yX8_free cX8_free 3 none, Cond.fieldLink RX8 51 "RingHeapModel" "owners" "[I", Cond.fieldLink RX8 60 "RingHeapModel" "weaks" "[I", Cond.fieldLink RX8 63 "RingHeapModel" "freedRow" "[I", Cond.fieldLink RX8 82 "RingHeapModel" "freedEver" "I"]
def wsX8_less : List Cond := .code yX8_less cX8_less 6 none :: ((wsX8_less_r1 ++ wsX8_less_r2) ++ wsX80)
def wsX8_more : List Cond := .code yX8_more cX8_more 2 none :: ([.fieldLink RX8 27 "RingHeapModel" "counts" "[I", .methodLink RX8 98 yX8_turn, .instanceMethod yX8_turn, .selects RX8 yX8_turn yX8_turn, .initialized RX8, .code yX8_turn cX8_turn 3 none, .fieldLink RX8 30 "RingHeapModel" "colours" "[I"] ++ wsX80)
def wsX8_grayOne : List Cond := .code yX8_grayOne cX8_grayOne 2 none :: ([.fieldLink RX8 30 "RingHeapModel" "colours" "[I", .fieldLink RX8 118 "RingHeapModel" "grayed" "I", .fieldLink RX8 66 "RingHeapModel" "work" "[I", .fieldLink RX8 105 "RingHeapModel" "workCount" "I"] ++ wsX80)
def wsX8_gray : List Cond := .code yX8_gray cX8_gray 5 none :: ([.fieldLink RX8 105 "RingHeapModel" "workCount" "I", .fieldLink RX8 66 "RingHeapModel" "work" "[I", .fieldLink RX8 48 "RingHeapModel" "fields" "[I", .fieldLink RX8 30 "RingHeapModel" "colours" "[I", .fieldLink RX8 27 "RingHeapModel" "counts" "[I", .methodLink RX8 115 yX8_grayOne, .instanceMethod yX8_grayOne, .selects RX8 yX8_grayOne yX8_grayOne, .initialized RX8, .code yX8_grayOne cX8_grayOne 2 none, .fieldLink RX8 118 "RingHeapModel" "grayed" "I", .methodLink RX8 108 yX8_fieldsOf, .instanceMethod yX8_fieldsOf, .selects RX8 yX8_fieldsOf yX8_fieldsOf, .code yX8_fieldsOf cX8_fieldsOf 2 (some .int), .fieldLink RX8 13 "RingHeapModel" "typeFields" "[I", .fieldLink RX8 24 "RingHeapModel" "types" "[I"] ++ wsX80)
def wsX8_blacken : List Cond := .code yX8_blacken cX8_blacken 6 none :: ([.fieldLink RX8 75 "RingHeapModel" "blackWork" "[I", .fieldLink RX8 121 "RingHeapModel" "blackened" "I", .fieldLink RX8 48 "RingHeapModel" "fields" "[I", .fieldLink RX8 30 "RingHeapModel" "colours" "[I", .fieldLink RX8 27 "RingHeapModel" "counts" "[I", .methodLink RX8 98 yX8_turn, .instanceMethod yX8_turn, .selects RX8 yX8_turn yX8_turn, .initialized RX8, .code yX8_turn cX8_turn 3 none, .methodLink RX8 108 yX8_fieldsOf, .instanceMethod yX8_fieldsOf, .selects RX8 yX8_fieldsOf yX8_fieldsOf, .code yX8_fieldsOf cX8_fieldsOf 2 (some .int), .fieldLink RX8 13 "RingHeapModel" "typeFields" "[I", .fieldLink RX8 24 "RingHeapModel" "types" "[I"] ++ wsX80)
def wsX8_scanOne : List Cond := .code yX8_scanOne cX8_scanOne 2 none :: ([.fieldLink RX8 30 "RingHeapModel" "colours" "[I", .fieldLink RX8 27 "RingHeapModel" "counts" "[I", .fieldLink RX8 66 "RingHeapModel" "work" "[I", .fieldLink RX8 105 "RingHeapModel" "workCount" "I", .methodLink RX8 127 yX8_blacken, .instanceMethod yX8_blacken, .selects RX8 yX8_blacken yX8_blacken, .initialized RX8, .code yX8_blacken cX8_blacken 6 none, .fieldLink RX8 75 "RingHeapModel" "blackWork" "[I", .fieldLink RX8 121 "RingHeapModel" "blackened" "I", .fieldLink RX8 48 "RingHeapModel" "fields" "[I", .methodLink RX8 98 yX8_turn, .instanceMethod yX8_turn, .selects RX8 yX8_turn yX8_turn, .code yX8_turn cX8_turn 3 none, .methodLink RX8 108 yX8_fieldsOf, .instanceMethod yX8_fieldsOf, .selects RX8 yX8_fieldsOf yX8_fieldsOf, .code yX8_fieldsOf cX8_fieldsOf 2 (some .int), .fieldLink RX8 13 "RingHeapModel" "typeFields" "[I", .fieldLink RX8 24 "RingHeapModel" "types" "[I"] ++ wsX80)
def wsX8_scan_r1 : List Cond := [Cond.fieldLink RX8 105 "RingHeapModel" "workCount" "I", Cond.fieldLink RX8 66 "RingHeapModel" "work" "[I", Cond.fieldLink RX8 48 "RingHeapModel" "fields" "[I", Cond.methodLink RX8 124 yX8_scanOne, Cond.instanceMethod yX8_scanOne, Cond.selects RX8 yX8_scanOne yX8_scanOne, Cond.initialized RX8, Cond.code yX8_scanOne cX8_scanOne 2 none, Cond.fieldLink RX8 30 "RingHeapModel" "colours" "[I", Cond.fieldLink RX8 27 "RingHeapModel" "counts" "[I", Cond.methodLink RX8 127 yX8_blacken, Cond.instanceMethod yX8_blacken, Cond.selects RX8 yX8_blacken yX8_blacken, Cond.code yX8_blacken cX8_blacken 6 none, Cond.fieldLink RX8 75 "RingHeapModel" "blackWork" "[I", Cond.fieldLink RX8 121 "RingHeapModel" "blackened" "I", Cond.methodLink RX8 98 yX8_turn, Cond.instanceMethod yX8_turn, Cond.selects RX8 yX8_turn yX8_turn, Cond.code yX8_turn cX8_turn 3 none, Cond.methodLink RX8 108 yX8_fieldsOf, Cond.instanceMethod yX8_fieldsOf, Cond.selects RX8 yX8_fieldsOf yX8_fieldsOf, Cond.code yX8_fieldsOf cX8_fieldsOf 2 (some .int)]
def wsX8_scan_r2 : List Cond := [Cond.fieldLink RX8 13 "RingHeapModel" "typeFields" "[I", Cond.fieldLink RX8 24 "RingHeapModel" "types" "[I"]
def wsX8_scan : List Cond := .code yX8_scan cX8_scan 5 none :: ((wsX8_scan_r1 ++ wsX8_scan_r2) ++ wsX80)
def wsX8_findByAddress : List Cond := .code yX8_findByAddress cX8_findByAddress 3 none :: ([.fieldLink RX8 130 "RingHeapModel" "byAddressCount" "I", .fieldLink RX8 51 "RingHeapModel" "owners" "[I", .fieldLink RX8 33 "RingHeapModel" "addresses" "[I", .fieldLink RX8 72 "RingHeapModel" "byAddress" "[I"] ++ wsX80)
def wsX8_mark_r1 : List Cond := [Cond.fieldLink RX8 88 "RingHeapModel" "listCount" "I", Cond.fieldLink RX8 54 "RingHeapModel" "list" "[I", Cond.fieldLink RX8 45 "RingHeapModel" "husks" "[Z", Cond.fieldLink RX8 39 "RingHeapModel" "listedNow" "[Z", Cond.fieldLink RX8 30 "RingHeapModel" "colours" "[I", Cond.methodLink RX8 112 yX8_free, Cond.instanceMethod yX8_free, Cond.selects RX8 yX8_free yX8_free, Cond.initialized RX8, Cond.code yX8_free cX8_free 3 none, Cond.fieldLink RX8 51 "RingHeapModel" "owners" "[I", Cond.fieldLink RX8 60 "RingHeapModel" "weaks" "[I", Cond.fieldLink RX8 24 "RingHeapModel" "types" "[I", Cond.fieldLink RX8 63 "RingHeapModel" "freedRow" "[I", Cond.fieldLink RX8 82 "RingHeapModel" "freedEver" "I", Cond.methodLink RX8 133 yX8_gray, Cond.instanceMethod yX8_gray, Cond.selects RX8 yX8_gray yX8_gray, Cond.code yX8_gray cX8_gray 5 none, Cond.fieldLink RX8 105 "RingHeapModel" "workCount" "I", Cond.fieldLink RX8 66 "RingHeapModel" "work" "[I", Cond.fieldLink RX8 48 "RingHeapModel" "fields" "[I", Cond.fieldLink RX8 27 "RingHeapModel" "counts" "[I", Cond.methodLink RX8 115 yX8_grayOne]
def wsX8_mark_r2 : List Cond := [Cond.instanceMethod yX8_grayOne, Cond.selects RX8 yX8_grayOne yX8_grayOne, Cond.code yX8_grayOne cX8_grayOne 2 none, Cond.fieldLink RX8 118 "RingHeapModel" "grayed" "I", Cond.methodLink RX8 108 yX8_fieldsOf, Cond.instanceMethod yX8_fieldsOf, Cond.selects RX8 yX8_fieldsOf yX8_fieldsOf, Cond.code yX8_fieldsOf cX8_fieldsOf 2 (some .int), Cond.fieldLink RX8 13 "RingHeapModel" "typeFields" "[I"]
def wsX8_mark : List Cond := .code yX8_mark cX8_mark 4 none :: ((wsX8_mark_r1 ++ wsX8_mark_r2) ++ wsX80)
def wsX8_gather_r1 : List Cond := [Cond.fieldLink RX8 88 "RingHeapModel" "listCount" "I", Cond.fieldLink RX8 39 "RingHeapModel" "listedNow" "[Z", Cond.fieldLink RX8 54 "RingHeapModel" "list" "[I", Cond.fieldLink RX8 130 "RingHeapModel" "byAddressCount" "I", Cond.fieldLink RX8 72 "RingHeapModel" "byAddress" "[I", Cond.fieldLink RX8 30 "RingHeapModel" "colours" "[I", Cond.fieldLink RX8 48 "RingHeapModel" "fields" "[I", Cond.methodLink RX8 78 yX8_isThere, Cond.instanceMethod yX8_isThere, Cond.selects RX8 yX8_isThere yX8_isThere, Cond.initialized RX8, Cond.code yX8_isThere cX8_isThere 2 (some .boolean), Cond.fieldLink RX8 24 "RingHeapModel" "types" "[I", Cond.methodLink RX8 108 yX8_fieldsOf, Cond.instanceMethod yX8_fieldsOf, Cond.selects RX8 yX8_fieldsOf yX8_fieldsOf, Cond.code yX8_fieldsOf cX8_fieldsOf 2 (some .int), Cond.fieldLink RX8 13 "RingHeapModel" "typeFields" "[I", Cond.methodLink RX8 136 yX8_less, Cond.instanceMethod yX8_less, Cond.selects RX8 yX8_less yX8_less, Cond.code yX8_less cX8_less 6 none, Cond.fieldLink RX8 105 "RingHeapModel" "workCount" "I", Cond.fieldLink RX8 66 "RingHeapModel" "work" "[I"]
def wsX8_gather_r2 : List Cond := [Cond.fieldLink RX8 69 "RingHeapModel" "workFields" "[I", Cond.fieldLink RX8 45 "RingHeapModel" "husks" "[Z", Cond.methodLink RX8 102 yX8_isLetGo, Cond.instanceMethod yX8_isLetGo, Cond.selects RX8 yX8_isLetGo yX8_isLetGo, Cond.code yX8_isLetGo cX8_isLetGo 2 (some .boolean), Cond.fieldLink RX8 27 "RingHeapModel" "counts" "[I", Cond.methodLink RX8 91 yX8_hasWish, Cond.instanceMethod yX8_hasWish, Cond.selects RX8 yX8_hasWish yX8_hasWish, Cond.code yX8_hasWish cX8_hasWish 2 (some .boolean), Cond.fieldLink RX8 20 "RingHeapModel" "typeWish" "[Z", Cond.fieldLink RX8 42 "RingHeapModel" "wishTold" "[Z", Cond.methodLink RX8 94 yX8_comesToWishes, Cond.instanceMethod yX8_comesToWishes, Cond.selects RX8 yX8_comesToWishes yX8_comesToWishes, Cond.code yX8_comesToWishes cX8_comesToWishes 2 none, Cond.fieldLink RX8 57 "RingHeapModel" "wishes" "[I", Cond.fieldLink RX8 85 "RingHeapModel" "wishCount" "I", Cond.methodLink RX8 98 yX8_turn, Cond.instanceMethod yX8_turn, Cond.selects RX8 yX8_turn yX8_turn, Cond.code yX8_turn cX8_turn 3 none, Cond.methodLink RX8 112 yX8_free]
def wsX8_gather_r3 : List Cond := [Cond.instanceMethod yX8_free, Cond.selects RX8 yX8_free yX8_free, Cond.code yX8_free cX8_free 3 none, Cond.fieldLink RX8 51 "RingHeapModel" "owners" "[I", Cond.fieldLink RX8 60 "RingHeapModel" "weaks" "[I", Cond.fieldLink RX8 63 "RingHeapModel" "freedRow" "[I", Cond.fieldLink RX8 82 "RingHeapModel" "freedEver" "I"]
def wsX8_gather : List Cond := .code yX8_gather cX8_gather 5 none :: ((wsX8_gather_r1 ++ (wsX8_gather_r2 ++ wsX8_gather_r3)) ++ wsX80)
def wsX8_collect_r1 : List Cond := [Cond.fieldLink RX8 1 "RingHeapModel" "thrown" "I", Cond.fieldLink RX8 82 "RingHeapModel" "freedEver" "I", Cond.fieldLink RX8 139 "RingHeapModel" "collections" "I", Cond.fieldLink RX8 88 "RingHeapModel" "listCount" "I", Cond.fieldLink RX8 54 "RingHeapModel" "list" "[I", Cond.fieldLink RX8 130 "RingHeapModel" "byAddressCount" "I", Cond.fieldLink RX8 72 "RingHeapModel" "byAddress" "[I", Cond.fieldLink RX8 30 "RingHeapModel" "colours" "[I", Cond.fieldLink RX8 27 "RingHeapModel" "counts" "[I", Cond.methodLink RX8 142 yX8_mark, Cond.instanceMethod yX8_mark, Cond.selects RX8 yX8_mark yX8_mark, Cond.initialized RX8, Cond.code yX8_mark cX8_mark 4 none, Cond.fieldLink RX8 45 "RingHeapModel" "husks" "[Z", Cond.fieldLink RX8 39 "RingHeapModel" "listedNow" "[Z", Cond.methodLink RX8 112 yX8_free, Cond.instanceMethod yX8_free, Cond.selects RX8 yX8_free yX8_free, Cond.code yX8_free cX8_free 3 none, Cond.fieldLink RX8 51 "RingHeapModel" "owners" "[I", Cond.fieldLink RX8 60 "RingHeapModel" "weaks" "[I", Cond.fieldLink RX8 24 "RingHeapModel" "types" "[I", Cond.fieldLink RX8 63 "RingHeapModel" "freedRow" "[I"]
def wsX8_collect_r2 : List Cond := [Cond.methodLink RX8 133 yX8_gray, Cond.instanceMethod yX8_gray, Cond.selects RX8 yX8_gray yX8_gray, Cond.code yX8_gray cX8_gray 5 none, Cond.fieldLink RX8 105 "RingHeapModel" "workCount" "I", Cond.fieldLink RX8 66 "RingHeapModel" "work" "[I", Cond.fieldLink RX8 48 "RingHeapModel" "fields" "[I", Cond.methodLink RX8 115 yX8_grayOne, Cond.instanceMethod yX8_grayOne, Cond.selects RX8 yX8_grayOne yX8_grayOne, Cond.code yX8_grayOne cX8_grayOne 2 none, Cond.fieldLink RX8 118 "RingHeapModel" "grayed" "I", Cond.methodLink RX8 108 yX8_fieldsOf, Cond.instanceMethod yX8_fieldsOf, Cond.selects RX8 yX8_fieldsOf yX8_fieldsOf, Cond.code yX8_fieldsOf cX8_fieldsOf 2 (some .int), Cond.fieldLink RX8 13 "RingHeapModel" "typeFields" "[I", Cond.methodLink RX8 145 yX8_scan, Cond.instanceMethod yX8_scan, Cond.selects RX8 yX8_scan yX8_scan, Cond.code yX8_scan cX8_scan 5 none, Cond.methodLink RX8 124 yX8_scanOne, Cond.instanceMethod yX8_scanOne, Cond.selects RX8 yX8_scanOne yX8_scanOne]
def wsX8_collect_r3 : List Cond := [Cond.code yX8_scanOne cX8_scanOne 2 none, Cond.methodLink RX8 127 yX8_blacken, Cond.instanceMethod yX8_blacken, Cond.selects RX8 yX8_blacken yX8_blacken, Cond.code yX8_blacken cX8_blacken 6 none, Cond.fieldLink RX8 75 "RingHeapModel" "blackWork" "[I", Cond.fieldLink RX8 121 "RingHeapModel" "blackened" "I", Cond.methodLink RX8 98 yX8_turn, Cond.instanceMethod yX8_turn, Cond.selects RX8 yX8_turn yX8_turn, Cond.code yX8_turn cX8_turn 3 none, Cond.methodLink RX8 148 yX8_findByAddress, Cond.instanceMethod yX8_findByAddress, Cond.selects RX8 yX8_findByAddress yX8_findByAddress, Cond.code yX8_findByAddress cX8_findByAddress 3 none, Cond.fieldLink RX8 33 "RingHeapModel" "addresses" "[I", Cond.methodLink RX8 91 yX8_hasWish, Cond.instanceMethod yX8_hasWish, Cond.selects RX8 yX8_hasWish yX8_hasWish, Cond.code yX8_hasWish cX8_hasWish 2 (some .boolean), Cond.fieldLink RX8 20 "RingHeapModel" "typeWish" "[Z", Cond.fieldLink RX8 42 "RingHeapModel" "wishTold" "[Z", Cond.methodLink RX8 94 yX8_comesToWishes, Cond.instanceMethod yX8_comesToWishes]
def wsX8_collect_r4 : List Cond := [Cond.selects RX8 yX8_comesToWishes yX8_comesToWishes, Cond.code yX8_comesToWishes cX8_comesToWishes 2 none, Cond.fieldLink RX8 57 "RingHeapModel" "wishes" "[I", Cond.fieldLink RX8 85 "RingHeapModel" "wishCount" "I", Cond.methodLink RX8 151 yX8_gather, Cond.instanceMethod yX8_gather, Cond.selects RX8 yX8_gather yX8_gather, Cond.code yX8_gather cX8_gather 5 none, Cond.methodLink RX8 78 yX8_isThere, Cond.instanceMethod yX8_isThere, Cond.selects RX8 yX8_isThere yX8_isThere, Cond.code yX8_isThere cX8_isThere 2 (some .boolean), Cond.methodLink RX8 136 yX8_less, Cond.instanceMethod yX8_less, Cond.selects RX8 yX8_less yX8_less, Cond.code yX8_less cX8_less 6 none, Cond.fieldLink RX8 69 "RingHeapModel" "workFields" "[I", Cond.methodLink RX8 102 yX8_isLetGo, Cond.instanceMethod yX8_isLetGo, Cond.selects RX8 yX8_isLetGo yX8_isLetGo, Cond.code yX8_isLetGo cX8_isLetGo 2 (some .boolean)]
def wsX8_collect : List Cond := .code yX8_collect cX8_collect 4 (some .int) :: ((wsX8_collect_r1 ++ (wsX8_collect_r2 ++ (wsX8_collect_r3 ++ wsX8_collect_r4))) ++ wsX80)
def wsX8_place : List Cond := .code yX8_place cX8_place 4 (some .int) :: ([.fieldLink RX8 51 "RingHeapModel" "owners" "[I"] ++ wsX80)
def wsX8_number : List Cond := .code yX8_number cX8_number 2 (some .int) :: ([.fieldLink RX8 24 "RingHeapModel" "types" "[I"] ++ wsX80)
def wsX8_freeWords : List Cond := .code yX8_freeWords cX8_freeWords 3 (some .int) :: ([.fieldLink RX8 51 "RingHeapModel" "owners" "[I"] ++ wsX80)
def wsX8_pack : List Cond := .code yX8_pack cX8_pack 6 (some .int) :: ([.fieldLink RX8 1 "RingHeapModel" "thrown" "I", .fieldLink RX8 154 "RingHeapModel" "moves" "I", .fieldLink RX8 51 "RingHeapModel" "owners" "[I", .fieldLink RX8 130 "RingHeapModel" "byAddressCount" "I", .fieldLink RX8 72 "RingHeapModel" "byAddress" "[I", .fieldLink RX8 33 "RingHeapModel" "addresses" "[I", .fieldLink RX8 17 "RingHeapModel" "typeWords" "[I", .fieldLink RX8 24 "RingHeapModel" "types" "[I", .methodLink RX8 148 yX8_findByAddress, .instanceMethod yX8_findByAddress, .selects RX8 yX8_findByAddress yX8_findByAddress, .initialized RX8, .code yX8_findByAddress cX8_findByAddress 3 none] ++ wsX80)
def wsX8_make_r1 : List Cond := [Cond.fieldLink RX8 13 "RingHeapModel" "typeFields" "[I", Cond.fieldLink RX8 1 "RingHeapModel" "thrown" "I", Cond.fieldLink RX8 17 "RingHeapModel" "typeWords" "[I", Cond.fieldLink RX8 24 "RingHeapModel" "types" "[I", Cond.fieldLink RX8 27 "RingHeapModel" "counts" "[I", Cond.fieldLink RX8 36 "RingHeapModel" "hands" "[I", Cond.fieldLink RX8 30 "RingHeapModel" "colours" "[I", Cond.fieldLink RX8 33 "RingHeapModel" "addresses" "[I", Cond.fieldLink RX8 39 "RingHeapModel" "listedNow" "[Z", Cond.fieldLink RX8 42 "RingHeapModel" "wishTold" "[Z", Cond.fieldLink RX8 45 "RingHeapModel" "husks" "[Z", Cond.fieldLink RX8 48 "RingHeapModel" "fields" "[I", Cond.fieldLink RX8 51 "RingHeapModel" "owners" "[I", Cond.methodLink RX8 157 yX8_place, Cond.instanceMethod yX8_place, Cond.selects RX8 yX8_place yX8_place, Cond.initialized RX8, Cond.code yX8_place cX8_place 4 (some .int), Cond.methodLink RX8 160 yX8_number, Cond.instanceMethod yX8_number, Cond.selects RX8 yX8_number yX8_number, Cond.code yX8_number cX8_number 2 (some .int), Cond.methodLink RX8 164 yX8_collect, Cond.instanceMethod yX8_collect]
def wsX8_make_r2 : List Cond := [Cond.selects RX8 yX8_collect yX8_collect, Cond.code yX8_collect cX8_collect 4 (some .int), Cond.fieldLink RX8 82 "RingHeapModel" "freedEver" "I", Cond.fieldLink RX8 139 "RingHeapModel" "collections" "I", Cond.fieldLink RX8 88 "RingHeapModel" "listCount" "I", Cond.fieldLink RX8 54 "RingHeapModel" "list" "[I", Cond.fieldLink RX8 130 "RingHeapModel" "byAddressCount" "I", Cond.fieldLink RX8 72 "RingHeapModel" "byAddress" "[I", Cond.methodLink RX8 142 yX8_mark, Cond.instanceMethod yX8_mark, Cond.selects RX8 yX8_mark yX8_mark, Cond.code yX8_mark cX8_mark 4 none, Cond.methodLink RX8 112 yX8_free, Cond.instanceMethod yX8_free, Cond.selects RX8 yX8_free yX8_free, Cond.code yX8_free cX8_free 3 none, Cond.fieldLink RX8 60 "RingHeapModel" "weaks" "[I", Cond.fieldLink RX8 63 "RingHeapModel" "freedRow" "[I", Cond.methodLink RX8 133 yX8_gray, Cond.instanceMethod yX8_gray, Cond.selects RX8 yX8_gray yX8_gray, Cond.code yX8_gray cX8_gray 5 none, Cond.fieldLink RX8 105 "RingHeapModel" "workCount" "I", Cond.fieldLink RX8 66 "RingHeapModel" "work" "[I"]
def wsX8_make_r3 : List Cond := [Cond.methodLink RX8 115 yX8_grayOne, Cond.instanceMethod yX8_grayOne, Cond.selects RX8 yX8_grayOne yX8_grayOne, Cond.code yX8_grayOne cX8_grayOne 2 none, Cond.fieldLink RX8 118 "RingHeapModel" "grayed" "I", Cond.methodLink RX8 108 yX8_fieldsOf, Cond.instanceMethod yX8_fieldsOf, Cond.selects RX8 yX8_fieldsOf yX8_fieldsOf, Cond.code yX8_fieldsOf cX8_fieldsOf 2 (some .int), Cond.methodLink RX8 145 yX8_scan, Cond.instanceMethod yX8_scan, Cond.selects RX8 yX8_scan yX8_scan, Cond.code yX8_scan cX8_scan 5 none, Cond.methodLink RX8 124 yX8_scanOne, Cond.instanceMethod yX8_scanOne, Cond.selects RX8 yX8_scanOne yX8_scanOne, Cond.code yX8_scanOne cX8_scanOne 2 none, Cond.methodLink RX8 127 yX8_blacken, Cond.instanceMethod yX8_blacken, Cond.selects RX8 yX8_blacken yX8_blacken, Cond.code yX8_blacken cX8_blacken 6 none, Cond.fieldLink RX8 75 "RingHeapModel" "blackWork" "[I", Cond.fieldLink RX8 121 "RingHeapModel" "blackened" "I", Cond.methodLink RX8 98 yX8_turn]
def wsX8_make_r4 : List Cond := [Cond.instanceMethod yX8_turn, Cond.selects RX8 yX8_turn yX8_turn, Cond.code yX8_turn cX8_turn 3 none, Cond.methodLink RX8 148 yX8_findByAddress, Cond.instanceMethod yX8_findByAddress, Cond.selects RX8 yX8_findByAddress yX8_findByAddress, Cond.code yX8_findByAddress cX8_findByAddress 3 none, Cond.methodLink RX8 91 yX8_hasWish, Cond.instanceMethod yX8_hasWish, Cond.selects RX8 yX8_hasWish yX8_hasWish, Cond.code yX8_hasWish cX8_hasWish 2 (some .boolean), Cond.fieldLink RX8 20 "RingHeapModel" "typeWish" "[Z", Cond.methodLink RX8 94 yX8_comesToWishes, Cond.instanceMethod yX8_comesToWishes, Cond.selects RX8 yX8_comesToWishes yX8_comesToWishes, Cond.code yX8_comesToWishes cX8_comesToWishes 2 none, Cond.fieldLink RX8 57 "RingHeapModel" "wishes" "[I", Cond.fieldLink RX8 85 "RingHeapModel" "wishCount" "I", Cond.methodLink RX8 151 yX8_gather, Cond.instanceMethod yX8_gather, Cond.selects RX8 yX8_gather yX8_gather, Cond.code yX8_gather cX8_gather 5 none, Cond.methodLink RX8 78 yX8_isThere, Cond.instanceMethod yX8_isThere]
def wsX8_make_r5 : List Cond := [Cond.selects RX8 yX8_isThere yX8_isThere, Cond.code yX8_isThere cX8_isThere 2 (some .boolean), Cond.methodLink RX8 136 yX8_less, Cond.instanceMethod yX8_less, Cond.selects RX8 yX8_less yX8_less, Cond.code yX8_less cX8_less 6 none, Cond.fieldLink RX8 69 "RingHeapModel" "workFields" "[I", Cond.methodLink RX8 102 yX8_isLetGo, Cond.instanceMethod yX8_isLetGo, Cond.selects RX8 yX8_isLetGo yX8_isLetGo, Cond.code yX8_isLetGo cX8_isLetGo 2 (some .boolean), Cond.methodLink RX8 167 yX8_freeWords, Cond.instanceMethod yX8_freeWords, Cond.selects RX8 yX8_freeWords yX8_freeWords, Cond.code yX8_freeWords cX8_freeWords 3 (some .int), Cond.methodLink RX8 170 yX8_pack, Cond.instanceMethod yX8_pack, Cond.selects RX8 yX8_pack yX8_pack, Cond.code yX8_pack cX8_pack 6 (some .int), Cond.fieldLink RX8 154 "RingHeapModel" "moves" "I"]
def wsX8_make : List Cond := .code yX8_make cX8_make 6 (some .int) :: ((wsX8_make_r1 ++ (wsX8_make_r2 ++ (wsX8_make_r3 ++ (wsX8_make_r4 ++ wsX8_make_r5)))) ++ wsX80)
def wsX8_hold : List Cond := .code yX8_hold cX8_hold 2 (some .int) :: ([.fieldLink RX8 1 "RingHeapModel" "thrown" "I", .fieldLink RX8 36 "RingHeapModel" "hands" "[I", .fieldLink RX8 27 "RingHeapModel" "counts" "[I", .methodLink RX8 173 yX8_isWhole, .instanceMethod yX8_isWhole, .selects RX8 yX8_isWhole yX8_isWhole, .initialized RX8, .code yX8_isWhole cX8_isWhole 2 (some .boolean), .fieldLink RX8 45 "RingHeapModel" "husks" "[Z", .methodLink RX8 78 yX8_isThere, .instanceMethod yX8_isThere, .selects RX8 yX8_isThere yX8_isThere, .code yX8_isThere cX8_isThere 2 (some .boolean), .fieldLink RX8 24 "RingHeapModel" "types" "[I", .methodLink RX8 176 yX8_more, .instanceMethod yX8_more, .selects RX8 yX8_more yX8_more, .code yX8_more cX8_more 2 none, .methodLink RX8 98 yX8_turn, .instanceMethod yX8_turn, .selects RX8 yX8_turn yX8_turn, .code yX8_turn cX8_turn 3 none, .fieldLink RX8 30 "RingHeapModel" "colours" "[I"] ++ wsX80)
def wsX8_loose_r1 : List Cond := [Cond.fieldLink RX8 1 "RingHeapModel" "thrown" "I", Cond.fieldLink RX8 36 "RingHeapModel" "hands" "[I", Cond.fieldLink RX8 82 "RingHeapModel" "freedEver" "I", Cond.methodLink RX8 173 yX8_isWhole, Cond.instanceMethod yX8_isWhole, Cond.selects RX8 yX8_isWhole yX8_isWhole, Cond.initialized RX8, Cond.code yX8_isWhole cX8_isWhole 2 (some .boolean), Cond.fieldLink RX8 45 "RingHeapModel" "husks" "[Z", Cond.methodLink RX8 78 yX8_isThere, Cond.instanceMethod yX8_isThere, Cond.selects RX8 yX8_isThere yX8_isThere, Cond.code yX8_isThere cX8_isThere 2 (some .boolean), Cond.fieldLink RX8 24 "RingHeapModel" "types" "[I", Cond.methodLink RX8 136 yX8_less, Cond.instanceMethod yX8_less, Cond.selects RX8 yX8_less yX8_less, Cond.code yX8_less cX8_less 6 none, Cond.fieldLink RX8 105 "RingHeapModel" "workCount" "I", Cond.fieldLink RX8 66 "RingHeapModel" "work" "[I", Cond.fieldLink RX8 69 "RingHeapModel" "workFields" "[I", Cond.fieldLink RX8 48 "RingHeapModel" "fields" "[I", Cond.fieldLink RX8 39 "RingHeapModel" "listedNow" "[Z", Cond.methodLink RX8 102 yX8_isLetGo]
def wsX8_loose_r2 : List Cond := [Cond.instanceMethod yX8_isLetGo, Cond.selects RX8 yX8_isLetGo yX8_isLetGo, Cond.code yX8_isLetGo cX8_isLetGo 2 (some .boolean), Cond.fieldLink RX8 27 "RingHeapModel" "counts" "[I", Cond.fieldLink RX8 30 "RingHeapModel" "colours" "[I", Cond.fieldLink RX8 54 "RingHeapModel" "list" "[I", Cond.fieldLink RX8 88 "RingHeapModel" "listCount" "I", Cond.methodLink RX8 91 yX8_hasWish, Cond.instanceMethod yX8_hasWish, Cond.selects RX8 yX8_hasWish yX8_hasWish, Cond.code yX8_hasWish cX8_hasWish 2 (some .boolean), Cond.fieldLink RX8 20 "RingHeapModel" "typeWish" "[Z", Cond.fieldLink RX8 42 "RingHeapModel" "wishTold" "[Z", Cond.methodLink RX8 94 yX8_comesToWishes, Cond.instanceMethod yX8_comesToWishes, Cond.selects RX8 yX8_comesToWishes yX8_comesToWishes, Cond.code yX8_comesToWishes cX8_comesToWishes 2 none, Cond.fieldLink RX8 57 "RingHeapModel" "wishes" "[I", Cond.fieldLink RX8 85 "RingHeapModel" "wishCount" "I", Cond.methodLink RX8 98 yX8_turn, Cond.instanceMethod yX8_turn, Cond.selects RX8 yX8_turn yX8_turn, Cond.code yX8_turn cX8_turn 3 none, Cond.methodLink RX8 108 yX8_fieldsOf]
def wsX8_loose_r3 : List Cond := [Cond.instanceMethod yX8_fieldsOf, Cond.selects RX8 yX8_fieldsOf yX8_fieldsOf, Cond.code yX8_fieldsOf cX8_fieldsOf 2 (some .int), Cond.fieldLink RX8 13 "RingHeapModel" "typeFields" "[I", Cond.methodLink RX8 112 yX8_free, Cond.instanceMethod yX8_free, Cond.selects RX8 yX8_free yX8_free, Cond.code yX8_free cX8_free 3 none, Cond.fieldLink RX8 51 "RingHeapModel" "owners" "[I", Cond.fieldLink RX8 60 "RingHeapModel" "weaks" "[I", Cond.fieldLink RX8 63 "RingHeapModel" "freedRow" "[I"]
def wsX8_loose : List Cond := .code yX8_loose cX8_loose 3 (some .int) :: ((wsX8_loose_r1 ++ (wsX8_loose_r2 ++ wsX8_loose_r3)) ++ wsX80)
def wsX8_set_r1 : List Cond := [Cond.fieldLink RX8 1 "RingHeapModel" "thrown" "I", Cond.fieldLink RX8 82 "RingHeapModel" "freedEver" "I", Cond.fieldLink RX8 48 "RingHeapModel" "fields" "[I", Cond.methodLink RX8 173 yX8_isWhole, Cond.instanceMethod yX8_isWhole, Cond.selects RX8 yX8_isWhole yX8_isWhole, Cond.initialized RX8, Cond.code yX8_isWhole cX8_isWhole 2 (some .boolean), Cond.fieldLink RX8 45 "RingHeapModel" "husks" "[Z", Cond.methodLink RX8 78 yX8_isThere, Cond.instanceMethod yX8_isThere, Cond.selects RX8 yX8_isThere yX8_isThere, Cond.code yX8_isThere cX8_isThere 2 (some .boolean), Cond.fieldLink RX8 24 "RingHeapModel" "types" "[I", Cond.methodLink RX8 108 yX8_fieldsOf, Cond.instanceMethod yX8_fieldsOf, Cond.selects RX8 yX8_fieldsOf yX8_fieldsOf, Cond.code yX8_fieldsOf cX8_fieldsOf 2 (some .int), Cond.fieldLink RX8 13 "RingHeapModel" "typeFields" "[I", Cond.methodLink RX8 176 yX8_more, Cond.instanceMethod yX8_more, Cond.selects RX8 yX8_more yX8_more, Cond.code yX8_more cX8_more 2 none, Cond.fieldLink RX8 27 "RingHeapModel" "counts" "[I"]
def wsX8_set_r2 : List Cond := [Cond.methodLink RX8 98 yX8_turn, Cond.instanceMethod yX8_turn, Cond.selects RX8 yX8_turn yX8_turn, Cond.code yX8_turn cX8_turn 3 none, Cond.fieldLink RX8 30 "RingHeapModel" "colours" "[I", Cond.methodLink RX8 136 yX8_less, Cond.instanceMethod yX8_less, Cond.selects RX8 yX8_less yX8_less, Cond.code yX8_less cX8_less 6 none, Cond.fieldLink RX8 105 "RingHeapModel" "workCount" "I", Cond.fieldLink RX8 66 "RingHeapModel" "work" "[I", Cond.fieldLink RX8 69 "RingHeapModel" "workFields" "[I", Cond.fieldLink RX8 39 "RingHeapModel" "listedNow" "[Z", Cond.methodLink RX8 102 yX8_isLetGo, Cond.instanceMethod yX8_isLetGo, Cond.selects RX8 yX8_isLetGo yX8_isLetGo, Cond.code yX8_isLetGo cX8_isLetGo 2 (some .boolean), Cond.fieldLink RX8 54 "RingHeapModel" "list" "[I", Cond.fieldLink RX8 88 "RingHeapModel" "listCount" "I", Cond.methodLink RX8 91 yX8_hasWish, Cond.instanceMethod yX8_hasWish, Cond.selects RX8 yX8_hasWish yX8_hasWish, Cond.code yX8_hasWish cX8_hasWish 2 (some .boolean), Cond.fieldLink RX8 20 "RingHeapModel" "typeWish" "[Z"]
def wsX8_set_r3 : List Cond := [Cond.fieldLink RX8 42 "RingHeapModel" "wishTold" "[Z", Cond.methodLink RX8 94 yX8_comesToWishes, Cond.instanceMethod yX8_comesToWishes, Cond.selects RX8 yX8_comesToWishes yX8_comesToWishes, Cond.code yX8_comesToWishes cX8_comesToWishes 2 none, Cond.fieldLink RX8 57 "RingHeapModel" "wishes" "[I", Cond.fieldLink RX8 85 "RingHeapModel" "wishCount" "I", Cond.methodLink RX8 112 yX8_free, Cond.instanceMethod yX8_free, Cond.selects RX8 yX8_free yX8_free, Cond.code yX8_free cX8_free 3 none, Cond.fieldLink RX8 51 "RingHeapModel" "owners" "[I", Cond.fieldLink RX8 60 "RingHeapModel" "weaks" "[I", Cond.fieldLink RX8 63 "RingHeapModel" "freedRow" "[I"]
def wsX8_set : List Cond := .code yX8_set cX8_set 6 (some .int) :: ((wsX8_set_r1 ++ (wsX8_set_r2 ++ wsX8_set_r3)) ++ wsX80)
def wsX8_get : List Cond := .code yX8_get cX8_get 3 (some .int) :: ([.fieldLink RX8 1 "RingHeapModel" "thrown" "I", .fieldLink RX8 48 "RingHeapModel" "fields" "[I", .methodLink RX8 78 yX8_isThere, .instanceMethod yX8_isThere, .selects RX8 yX8_isThere yX8_isThere, .initialized RX8, .code yX8_isThere cX8_isThere 2 (some .boolean), .fieldLink RX8 24 "RingHeapModel" "types" "[I", .methodLink RX8 108 yX8_fieldsOf, .instanceMethod yX8_fieldsOf, .selects RX8 yX8_fieldsOf yX8_fieldsOf, .code yX8_fieldsOf cX8_fieldsOf 2 (some .int), .fieldLink RX8 13 "RingHeapModel" "typeFields" "[I"] ++ wsX80)
def wsX8_wish : List Cond := .code yX8_wish cX8_wish 3 (some .int) :: ([.fieldLink RX8 1 "RingHeapModel" "thrown" "I", .fieldLink RX8 85 "RingHeapModel" "wishCount" "I", .fieldLink RX8 57 "RingHeapModel" "wishes" "[I", .fieldLink RX8 36 "RingHeapModel" "hands" "[I"] ++ wsX80)
def wsX8_weak : List Cond := .code yX8_weak cX8_weak 4 (some .int) :: ([.fieldLink RX8 1 "RingHeapModel" "thrown" "I", .fieldLink RX8 60 "RingHeapModel" "weaks" "[I", .methodLink RX8 173 yX8_isWhole, .instanceMethod yX8_isWhole, .selects RX8 yX8_isWhole yX8_isWhole, .initialized RX8, .code yX8_isWhole cX8_isWhole 2 (some .boolean), .fieldLink RX8 45 "RingHeapModel" "husks" "[Z", .methodLink RX8 78 yX8_isThere, .instanceMethod yX8_isThere, .selects RX8 yX8_isThere yX8_isThere, .code yX8_isThere cX8_isThere 2 (some .boolean), .fieldLink RX8 24 "RingHeapModel" "types" "[I"] ++ wsX80)
def wsX8_seen : List Cond := .code yX8_seen cX8_seen 2 (some .int) :: ([.fieldLink RX8 1 "RingHeapModel" "thrown" "I", .fieldLink RX8 60 "RingHeapModel" "weaks" "[I"] ++ wsX80)
def wsX8_object : List Cond := .code yX8_object cX8_object 3 (some .int) :: ([.fieldLink RX8 1 "RingHeapModel" "thrown" "I", .fieldLink RX8 24 "RingHeapModel" "types" "[I", .fieldLink RX8 27 "RingHeapModel" "counts" "[I", .fieldLink RX8 30 "RingHeapModel" "colours" "[I", .fieldLink RX8 33 "RingHeapModel" "addresses" "[I", .fieldLink RX8 39 "RingHeapModel" "listedNow" "[Z", .fieldLink RX8 36 "RingHeapModel" "hands" "[I", .fieldLink RX8 45 "RingHeapModel" "husks" "[Z", .methodLink RX8 78 yX8_isThere, .instanceMethod yX8_isThere, .selects RX8 yX8_isThere yX8_isThere, .initialized RX8, .code yX8_isThere cX8_isThere 2 (some .boolean), .methodLink RX8 91 yX8_hasWish, .instanceMethod yX8_hasWish, .selects RX8 yX8_hasWish yX8_hasWish, .code yX8_hasWish cX8_hasWish 2 (some .boolean), .fieldLink RX8 20 "RingHeapModel" "typeWish" "[Z", .fieldLink RX8 42 "RingHeapModel" "wishTold" "[Z"] ++ wsX80)
def wsX8_count : List Cond := .code yX8_count cX8_count 2 (some .int) :: ([.fieldLink RX8 1 "RingHeapModel" "thrown" "I", .fieldLink RX8 130 "RingHeapModel" "byAddressCount" "I", .fieldLink RX8 88 "RingHeapModel" "listCount" "I", .fieldLink RX8 85 "RingHeapModel" "wishCount" "I", .fieldLink RX8 82 "RingHeapModel" "freedEver" "I", .fieldLink RX8 139 "RingHeapModel" "collections" "I", .fieldLink RX8 154 "RingHeapModel" "moves" "I", .fieldLink RX8 118 "RingHeapModel" "grayed" "I", .fieldLink RX8 121 "RingHeapModel" "blackened" "I", .methodLink RX8 148 yX8_findByAddress, .instanceMethod yX8_findByAddress, .selects RX8 yX8_findByAddress yX8_findByAddress, .initialized RX8, .code yX8_findByAddress cX8_findByAddress 3 none, .fieldLink RX8 51 "RingHeapModel" "owners" "[I", .fieldLink RX8 33 "RingHeapModel" "addresses" "[I", .fieldLink RX8 72 "RingHeapModel" "byAddress" "[I", .methodLink RX8 167 yX8_freeWords, .instanceMethod yX8_freeWords, .selects RX8 yX8_freeWords yX8_freeWords, .code yX8_freeWords cX8_freeWords 3 (some .int)] ++ wsX80)
def wsX8_listed : List Cond := .code yX8_listed cX8_listed 2 (some .int) :: ([.fieldLink RX8 1 "RingHeapModel" "thrown" "I", .fieldLink RX8 88 "RingHeapModel" "listCount" "I", .fieldLink RX8 54 "RingHeapModel" "list" "[I"] ++ wsX80)
def wsX8_freed : List Cond := .code yX8_freed cX8_freed 2 (some .int) :: ([.fieldLink RX8 1 "RingHeapModel" "thrown" "I", .fieldLink RX8 82 "RingHeapModel" "freedEver" "I", .fieldLink RX8 63 "RingHeapModel" "freedRow" "[I"] ++ wsX80)
def wsX8_at : List Cond := .code yX8_at cX8_at 2 (some .int) :: ([.fieldLink RX8 1 "RingHeapModel" "thrown" "I", .fieldLink RX8 51 "RingHeapModel" "owners" "[I"] ++ wsX80)
def wsL_type_r1 : List Cond := [Cond.classLink RL 13 "java/lang/IndexOutOfBoundsException", Cond.classLink RL 15 "java/lang/IllegalArgumentException", Cond.methodLink RL 7 yX7_type, Cond.instanceMethod yX7_type, Cond.selects RX7 yX7_type yX7_type, Cond.initialized RX7, Cond.code yX7_type cX7_type 5 (some .boolean), Cond.classLink RX7 40 "java/lang/IndexOutOfBoundsException", Cond.initialized "java/lang/IndexOutOfBoundsException", Cond.classLink RX7 47 "java/lang/IllegalArgumentException", Cond.initialized "java/lang/IllegalArgumentException", Cond.fieldLink RX7 11 "RingHeap" "kinds" "[LRingHeap$Kind;", Cond.classLink RX7 9 RX2, Cond.instantiable RX2 4, Cond.initialized RX2, Cond.methodLink RX7 52 yX2_init, Cond.instanceMethod yX2_init, Cond.code yX2_init cX2_init 5 none, Cond.methodLink RX2 1 objectInit, Cond.instanceMethod objectInit, Cond.code objectInit ⟨#[0xb1]⟩ 1 none, Cond.fieldLink RX2 7 "RingHeap$Kind" "number" "I", Cond.fieldLink RX2 13 "RingHeap$Kind" "fields" "I", Cond.fieldLink RX2 16 "RingHeap$Kind" "size" "I"]
def wsL_type_r2 : List Cond := [Cond.fieldLink RX2 19 "RingHeap$Kind" "wish" "Z"]
def wsL_type : List Cond := .codeWith yL_type cL_type 7 (some .int) [(0, 21, 24, 13), (0, 21, 28, 15)] :: ((wsL_type_r1 ++ wsL_type_r2) ++ wsX70 ++ wsX20 ++ (vx_atS RX7 44 "java/lang/IndexOutOfBoundsException" ["java/lang/RuntimeException", "java/lang/Exception"]).filter goodWord ++ (vx_atS RX7 51 "java/lang/IllegalArgumentException" ["java/lang/RuntimeException", "java/lang/Exception"]).filter goodWord)
def wsL_make_r1 : List Cond := [Cond.classLink RL 13 "java/lang/IndexOutOfBoundsException", Cond.methodLink RL 17 yX7_make, Cond.instanceMethod yX7_make, Cond.selects RX7 yX7_make yX7_make, Cond.initialized RX7, Cond.code yX7_make cX7_make 3 (some .int), Cond.classLink RX7 40 "java/lang/IndexOutOfBoundsException", Cond.initialized "java/lang/IndexOutOfBoundsException", Cond.fieldLink RX7 11 "RingHeap" "kinds" "[LRingHeap$Kind;", Cond.fieldLink RX7 18 "RingHeap" "store" "LRingHeap$Store;", Cond.fieldLink RX7 36 "RingHeap" "collector" "LRingHeap$Collector;", Cond.methodLink RX7 55 yX4_hasRoomFor, Cond.instanceMethod yX4_hasRoomFor, Cond.selects RX4 yX4_hasRoomFor yX4_hasRoomFor, Cond.initialized RX4, Cond.code yX4_hasRoomFor cX4_hasRoomFor 2 (some .boolean), Cond.fieldLink RX4 27 "RingHeap$Store" "words" "LRingHeap$Words;", Cond.fieldLink RX4 43 "RingHeap$Kind" "size" "I", Cond.methodLink RX4 39 yX4_leastFreeNumber, Cond.instanceMethod yX4_leastFreeNumber, Cond.selects RX4 yX4_leastFreeNumber yX4_leastFreeNumber, Cond.code yX4_leastFreeNumber cX4_leastFreeNumber 2 (some .int), Cond.fieldLink RX4 11 "RingHeap$Store" "things" "[LRingHeap$Thing;", Cond.methodLink RX4 49 yX6_gapFor]
def wsL_make_r2 : List Cond := [Cond.instanceMethod yX6_gapFor, Cond.selects RX6 yX6_gapFor yX6_gapFor, Cond.initialized RX6, Cond.code yX6_gapFor cX6_gapFor 4 (some .int), Cond.fieldLink RX6 11 "RingHeap$Words" "owners" "[LRingHeap$Thing;", Cond.methodLink RX7 59 yX0_run, Cond.instanceMethod yX0_run, Cond.selects RX0 yX0_run yX0_run, Cond.initialized RX0, Cond.code yX0_run cX0_run 2 (some .int), Cond.fieldLink RX0 21 "RingHeap$Collector" "store" "LRingHeap$Store;", Cond.fieldLink RX0 29 "RingHeap$Store" "freedEver" "I", Cond.fieldLink RX0 35 "RingHeap$Collector" "collections" "I", Cond.methodLink RX0 38 yX0_markListed, Cond.instanceMethod yX0_markListed, Cond.selects RX0 yX0_markListed yX0_markListed, Cond.code yX0_markListed cX0_markListed 4 none, Cond.fieldLink RX0 25 "RingHeap$Collector" "counting" "LRingHeap$Counting;", Cond.fieldLink RX0 53 "RingHeap$Counting" "list" "LRingHeap$Row;", Cond.fieldLink RX0 58 "RingHeap$Row" "length" "I", Cond.fieldLink RX0 65 "RingHeap$Thing" "husk" "Z", Cond.fieldLink RX0 71 "RingHeap$Thing" "inList" "Z", Cond.fieldLink RX0 78 "RingHeap$Thing" "colour" "I", Cond.methodLink RX0 61 yX3_item]
def wsL_make_r3 : List Cond := [Cond.instanceMethod yX3_item, Cond.selects RX3 yX3_item yX3_item, Cond.initialized RX3, Cond.code yX3_item cX3_item 2 (some (.object "RingHeap$Thing")), Cond.fieldLink RX3 17 "RingHeap$Row" "length" "I", Cond.fieldLink RX3 11 "RingHeap$Row" "things" "[LRingHeap$Thing;", Cond.methodLink RX0 74 yX4_free, Cond.instanceMethod yX4_free, Cond.selects RX4 yX4_free yX4_free, Cond.code yX4_free cX4_free 3 none, Cond.fieldLink RX4 67 "RingHeap$Thing" "number" "I", Cond.fieldLink RX4 60 "RingHeap$Store" "thingsThere" "I", Cond.fieldLink RX4 21 "RingHeap$Store" "weaks" "[LRingHeap$Thing;", Cond.fieldLink RX4 17 "RingHeap$Store" "freedNumbers" "[I", Cond.fieldLink RX4 70 "RingHeap$Store" "freedEver" "I", Cond.methodLink RX4 63 yX6_takeBack, Cond.instanceMethod yX6_takeBack, Cond.selects RX6 yX6_takeBack yX6_takeBack, Cond.code yX6_takeBack cX6_takeBack 4 none, Cond.fieldLink RX6 25 "RingHeap$Thing" "address" "I", Cond.fieldLink RX6 28 "RingHeap$Thing" "kind" "LRingHeap$Kind;", Cond.fieldLink RX6 32 "RingHeap$Kind" "size" "I", Cond.fieldLink RX6 17 "RingHeap$Words" "free" "I", Cond.methodLink RX0 81 yX0_markFrom]
def wsL_make_r4 : List Cond := [Cond.instanceMethod yX0_markFrom, Cond.selects RX0 yX0_markFrom yX0_markFrom, Cond.code yX0_markFrom cX0_markFrom 8 none, Cond.fieldLink RX0 12 "RingHeap$Collector" "reached" "LRingHeap$Row;", Cond.fieldLink RX0 90 "RingHeap$Thing" "held" "[LRingHeap$Thing;", Cond.fieldLink RX0 98 "RingHeap$Thing" "count" "I", Cond.methodLink RX0 84 yX3_clear, Cond.instanceMethod yX3_clear, Cond.selects RX3 yX3_clear yX3_clear, Cond.code yX3_clear cX3_clear 1 none, Cond.methodLink RX0 87 yX0_turnGray, Cond.instanceMethod yX0_turnGray, Cond.selects RX0 yX0_turnGray yX0_turnGray, Cond.code yX0_turnGray cX0_turnGray 2 none, Cond.fieldLink RX0 101 "RingHeap$Collector" "grayed" "I", Cond.methodLink RX0 94 yX5_isGreen, Cond.instanceMethod yX5_isGreen, Cond.selects RX5 yX5_isGreen yX5_isGreen, Cond.initialized RX5, Cond.code yX5_isGreen cX5_isGreen 1 (some .boolean), Cond.fieldLink RX5 34 "RingHeap$Thing" "colour" "I", Cond.methodLink RX0 104 yX3_append, Cond.instanceMethod yX3_append, Cond.selects RX3 yX3_append yX3_append]
def wsL_make_r5 : List Cond := [Cond.code yX3_append cX3_append 2 none, Cond.methodLink RX0 41 yX0_scanListed, Cond.instanceMethod yX0_scanListed, Cond.selects RX0 yX0_scanListed yX0_scanListed, Cond.code yX0_scanListed cX0_scanListed 4 none, Cond.methodLink RX0 107 yX0_scanFrom, Cond.instanceMethod yX0_scanFrom, Cond.selects RX0 yX0_scanFrom yX0_scanFrom, Cond.code yX0_scanFrom cX0_scanFrom 8 none, Cond.methodLink RX0 110 yX0_judge, Cond.instanceMethod yX0_judge, Cond.selects RX0 yX0_judge yX0_judge, Cond.code yX0_judge cX0_judge 2 none, Cond.methodLink RX0 113 yX0_blackenFrom, Cond.instanceMethod yX0_blackenFrom, Cond.selects RX0 yX0_blackenFrom yX0_blackenFrom, Cond.code yX0_blackenFrom cX0_blackenFrom 8 none, Cond.fieldLink RX0 18 "RingHeap$Collector" "darkened" "LRingHeap$Row;", Cond.methodLink RX0 116 yX0_turnBlack, Cond.instanceMethod yX0_turnBlack, Cond.selects RX0 yX0_turnBlack yX0_turnBlack, Cond.code yX0_turnBlack cX0_turnBlack 2 none, Cond.fieldLink RX0 119 "RingHeap$Collector" "blackened" "I", Cond.methodLink RX0 44 yX0_tellWishes]
def wsL_make_r6 : List Cond := [Cond.instanceMethod yX0_tellWishes, Cond.selects RX0 yX0_tellWishes yX0_tellWishes, Cond.code yX0_tellWishes cX0_tellWishes 3 none, Cond.fieldLink RX0 122 "RingHeap$Store" "words" "LRingHeap$Words;", Cond.fieldLink RX0 131 "RingHeap$Thing" "wishUntold" "Z", Cond.methodLink RX0 126 yX6_ownerFrom, Cond.instanceMethod yX6_ownerFrom, Cond.selects RX6 yX6_ownerFrom yX6_ownerFrom, Cond.code yX6_ownerFrom cX6_ownerFrom 3 (some (.object "RingHeap$Thing")), Cond.methodLink RX6 21 yX6_owner, Cond.instanceMethod yX6_owner, Cond.selects RX6 yX6_owner yX6_owner, Cond.code yX6_owner cX6_owner 2 (some (.object "RingHeap$Thing")), Cond.methodLink RX0 134 yX1_tellWish, Cond.instanceMethod yX1_tellWish, Cond.selects RX1 yX1_tellWish yX1_tellWish, Cond.initialized RX1, Cond.code yX1_tellWish cX1_tellWish 2 none, Cond.fieldLink RX1 56 "RingHeap$Thing" "wishUntold" "Z", Cond.fieldLink RX1 28 "RingHeap$Thing" "count" "I", Cond.fieldLink RX1 21 "RingHeap$Counting" "wishes" "LRingHeap$Row;", Cond.methodLink RX1 60 yX3_append, Cond.methodLink RX0 47 yX0_emptyList, Cond.instanceMethod yX0_emptyList]
def wsL_make_r7 : List Cond := [Cond.selects RX0 yX0_emptyList yX0_emptyList, Cond.code yX0_emptyList cX0_emptyList 4 none, Cond.methodLink RX0 50 yX0_freeWhite, Cond.instanceMethod yX0_freeWhite, Cond.selects RX0 yX0_freeWhite yX0_freeWhite, Cond.code yX0_freeWhite cX0_freeWhite 7 none, Cond.methodLink RX0 137 yX1_less, Cond.instanceMethod yX1_less, Cond.selects RX1 yX1_less yX1_less, Cond.code yX1_less cX1_less 6 (some .int), Cond.fieldLink RX1 24 "RingHeap$Counting" "store" "LRingHeap$Store;", Cond.fieldLink RX1 37 "RingHeap$Store" "freedEver" "I", Cond.fieldLink RX1 12 "RingHeap$Counting" "going" "LRingHeap$Row;", Cond.methodLink RX1 42 yX1_lower, Cond.instanceMethod yX1_lower, Cond.selects RX1 yX1_lower yX1_lower, Cond.code yX1_lower cX1_lower 2 none, Cond.methodLink RX1 63 yX1_suspect, Cond.instanceMethod yX1_suspect, Cond.selects RX1 yX1_suspect yX1_suspect, Cond.code yX1_suspect cX1_suspect 2 none, Cond.fieldLink RX1 73 "RingHeap$Thing" "colour" "I", Cond.fieldLink RX1 76 "RingHeap$Thing" "inList" "Z", Cond.fieldLink RX1 18 "RingHeap$Counting" "list" "LRingHeap$Row;"]
def wsL_make_r8 : List Cond := [Cond.methodLink RX1 69 yX5_isGreen, Cond.methodLink RX1 66 yX1_tellWish, Cond.methodLink RX1 34 yX5_blackenUnlessGreen, Cond.instanceMethod yX5_blackenUnlessGreen, Cond.selects RX5 yX5_blackenUnlessGreen yX5_blackenUnlessGreen, Cond.code yX5_blackenUnlessGreen cX5_blackenUnlessGreen 1 none, Cond.methodLink RX5 44 yX5_isGreen, Cond.methodLink RX1 46 yX3_last, Cond.instanceMethod yX3_last, Cond.selects RX3 yX3_last yX3_last, Cond.code yX3_last cX3_last 1 (some (.object "RingHeap$Thing")), Cond.methodLink RX3 21 yX3_item, Cond.methodLink RX1 50 yX5_giveUpNext, Cond.instanceMethod yX5_giveUpNext, Cond.selects RX5 yX5_giveUpNext yX5_giveUpNext, Cond.code yX5_giveUpNext cX5_giveUpNext 2 (some (.object "RingHeap$Thing")), Cond.fieldLink RX5 48 "RingHeap$Thing" "nextField" "I", Cond.fieldLink RX5 25 "RingHeap$Thing" "held" "[LRingHeap$Thing;", Cond.methodLink RX1 53 yX1_finish, Cond.instanceMethod yX1_finish, Cond.selects RX1 yX1_finish yX1_finish, Cond.code yX1_finish cX1_finish 2 none, Cond.fieldLink RX1 82 "RingHeap$Thing" "husk" "Z", Cond.methodLink RX1 79 yX3_removeLast]
def wsL_make_r9 : List Cond := [Cond.instanceMethod yX3_removeLast, Cond.selects RX3 yX3_removeLast yX3_removeLast, Cond.code yX3_removeLast cX3_removeLast 1 none, Cond.methodLink RX1 85 yX4_free, Cond.methodLink RX7 63 yX7_makeRoomByMoving, Cond.instanceMethod yX7_makeRoomByMoving, Cond.selects RX7 yX7_makeRoomByMoving yX7_makeRoomByMoving, Cond.code yX7_makeRoomByMoving cX7_makeRoomByMoving 2 (some .boolean), Cond.fieldLink RX7 125 "RingHeap$Store" "words" "LRingHeap$Words;", Cond.fieldLink RX7 154 "RingHeap$Words" "free" "I", Cond.fieldLink RX7 183 "RingHeap$Kind" "size" "I", Cond.fieldLink RX7 122 "RingHeap" "moves" "I", Cond.methodLink RX7 180 yX4_leastFreeNumber, Cond.methodLink RX7 129 yX6_moveAllDown, Cond.instanceMethod yX6_moveAllDown, Cond.selects RX6 yX6_moveAllDown yX6_moveAllDown, Cond.code yX6_moveAllDown cX6_moveAllDown 5 (some .int), Cond.methodLink RX6 37 yX6_ownerFrom, Cond.methodLink RX6 40 yX6_takeBack, Cond.methodLink RX6 44 yX6_give, Cond.instanceMethod yX6_give, Cond.selects RX6 yX6_give yX6_give, Cond.code yX6_give cX6_give 5 none, Cond.methodLink RX7 66 yX4_place]
def wsL_make_r10 : List Cond := [Cond.instanceMethod yX4_place, Cond.selects RX4 yX4_place yX4_place, Cond.code yX4_place cX4_place 5 (some .int), Cond.classLink RX4 9 RX5, Cond.instantiable RX5 11, Cond.methodLink RX4 53 yX5_init, Cond.instanceMethod yX5_init, Cond.code yX5_init cX5_init 3 none, Cond.methodLink RX5 3 objectInit, Cond.instanceMethod objectInit, Cond.code objectInit ⟨#[0xb1]⟩ 1 none, Cond.fieldLink RX5 9 "RingHeap$Thing" "count" "I", Cond.fieldLink RX5 15 "RingHeap$Thing" "hands" "I", Cond.fieldLink RX5 18 "RingHeap$Thing" "number" "I", Cond.fieldLink RX5 21 "RingHeap$Thing" "kind" "LRingHeap$Kind;", Cond.classLink RX5 10 RX5, Cond.fieldLink RX5 29 "RingHeap$Kind" "fields" "I", Cond.fieldLink RX5 37 "RingHeap$Kind" "wish" "Z", Cond.fieldLink RX5 41 "RingHeap$Thing" "wishUntold" "Z", Cond.methodLink RX4 56 yX6_give]
def wsL_make : List Cond := .codeWith yL_make cL_make 4 (some .int) [(0, 9, 12, 13)] :: ((wsL_make_r1 ++ (wsL_make_r2 ++ (wsL_make_r3 ++ (wsL_make_r4 ++ (wsL_make_r5 ++ (wsL_make_r6 ++ (wsL_make_r7 ++ (wsL_make_r8 ++ (wsL_make_r9 ++ wsL_make_r10))))))))) ++ wsX70 ++ wsX40 ++ wsX20 ++ wsX60 ++ wsX00 ++ wsX10 ++ wsX30 ++ wsX50 ++ (vx_atS RX7 44 "java/lang/IndexOutOfBoundsException" ["java/lang/RuntimeException", "java/lang/Exception"]).filter goodWord)
def wsL_set_r1 : List Cond := [Cond.classLink RL 13 "java/lang/IndexOutOfBoundsException", Cond.methodLink RL 21 yX7_set, Cond.instanceMethod yX7_set, Cond.selects RX7 yX7_set yX7_set, Cond.initialized RX7, Cond.code yX7_set cX7_set 7 (some .int), Cond.classLink RX7 40 "java/lang/IndexOutOfBoundsException", Cond.initialized "java/lang/IndexOutOfBoundsException", Cond.fieldLink RX7 18 "RingHeap" "store" "LRingHeap$Store;", Cond.fieldLink RX7 97 "RingHeap$Thing" "held" "[LRingHeap$Thing;", Cond.fieldLink RX7 27 "RingHeap" "counting" "LRingHeap$Counting;", Cond.methodLink RX7 70 yX4_living, Cond.instanceMethod yX4_living, Cond.selects RX4 yX4_living yX4_living, Cond.initialized RX4, Cond.code yX4_living cX4_living 3 (some (.object "RingHeap$Thing")), Cond.fieldLink RX4 35 "RingHeap$Thing" "husk" "Z", Cond.methodLink RX4 31 yX4_thing, Cond.instanceMethod yX4_thing, Cond.selects RX4 yX4_thing yX4_thing, Cond.code yX4_thing cX4_thing 2 (some (.object "RingHeap$Thing")), Cond.fieldLink RX4 11 "RingHeap$Store" "things" "[LRingHeap$Thing;", Cond.methodLink RX7 91 yX5_hasField, Cond.instanceMethod yX5_hasField]
def wsL_set_r2 : List Cond := [Cond.selects RX5 yX5_hasField yX5_hasField, Cond.initialized RX5, Cond.code yX5_hasField cX5_hasField 2 (some .boolean), Cond.fieldLink RX5 21 "RingHeap$Thing" "kind" "LRingHeap$Kind;", Cond.fieldLink RX5 29 "RingHeap$Kind" "fields" "I", Cond.fieldLink RX5 25 "RingHeap$Thing" "held" "[LRingHeap$Thing;", Cond.methodLink RX7 80 yX1_more, Cond.instanceMethod yX1_more, Cond.selects RX1 yX1_more yX1_more, Cond.initialized RX1, Cond.code yX1_more cX1_more 2 none, Cond.fieldLink RX1 28 "RingHeap$Thing" "count" "I", Cond.methodLink RX1 34 yX5_blackenUnlessGreen, Cond.instanceMethod yX5_blackenUnlessGreen, Cond.selects RX5 yX5_blackenUnlessGreen yX5_blackenUnlessGreen, Cond.code yX5_blackenUnlessGreen cX5_blackenUnlessGreen 1 none, Cond.fieldLink RX5 34 "RingHeap$Thing" "colour" "I", Cond.methodLink RX5 44 yX5_isGreen, Cond.instanceMethod yX5_isGreen, Cond.selects RX5 yX5_isGreen yX5_isGreen, Cond.code yX5_isGreen cX5_isGreen 1 (some .boolean), Cond.methodLink RX7 87 yX1_less, Cond.instanceMethod yX1_less, Cond.selects RX1 yX1_less yX1_less]
def wsL_set_r3 : List Cond := [Cond.code yX1_less cX1_less 6 (some .int), Cond.fieldLink RX1 24 "RingHeap$Counting" "store" "LRingHeap$Store;", Cond.fieldLink RX1 37 "RingHeap$Store" "freedEver" "I", Cond.fieldLink RX1 12 "RingHeap$Counting" "going" "LRingHeap$Row;", Cond.methodLink RX1 42 yX1_lower, Cond.instanceMethod yX1_lower, Cond.selects RX1 yX1_lower yX1_lower, Cond.code yX1_lower cX1_lower 2 none, Cond.fieldLink RX1 56 "RingHeap$Thing" "wishUntold" "Z", Cond.methodLink RX1 63 yX1_suspect, Cond.instanceMethod yX1_suspect, Cond.selects RX1 yX1_suspect yX1_suspect, Cond.code yX1_suspect cX1_suspect 2 none, Cond.fieldLink RX1 73 "RingHeap$Thing" "colour" "I", Cond.fieldLink RX1 76 "RingHeap$Thing" "inList" "Z", Cond.fieldLink RX1 18 "RingHeap$Counting" "list" "LRingHeap$Row;", Cond.methodLink RX1 69 yX5_isGreen, Cond.methodLink RX1 60 yX3_append, Cond.instanceMethod yX3_append, Cond.selects RX3 yX3_append yX3_append, Cond.initialized RX3, Cond.code yX3_append cX3_append 2 none, Cond.fieldLink RX3 17 "RingHeap$Row" "length" "I", Cond.fieldLink RX3 11 "RingHeap$Row" "things" "[LRingHeap$Thing;"]
def wsL_set_r4 : List Cond := [Cond.methodLink RX1 66 yX1_tellWish, Cond.instanceMethod yX1_tellWish, Cond.selects RX1 yX1_tellWish yX1_tellWish, Cond.code yX1_tellWish cX1_tellWish 2 none, Cond.fieldLink RX1 21 "RingHeap$Counting" "wishes" "LRingHeap$Row;", Cond.methodLink RX1 46 yX3_last, Cond.instanceMethod yX3_last, Cond.selects RX3 yX3_last yX3_last, Cond.code yX3_last cX3_last 1 (some (.object "RingHeap$Thing")), Cond.methodLink RX3 21 yX3_item, Cond.instanceMethod yX3_item, Cond.selects RX3 yX3_item yX3_item, Cond.code yX3_item cX3_item 2 (some (.object "RingHeap$Thing")), Cond.methodLink RX1 50 yX5_giveUpNext, Cond.instanceMethod yX5_giveUpNext, Cond.selects RX5 yX5_giveUpNext yX5_giveUpNext, Cond.code yX5_giveUpNext cX5_giveUpNext 2 (some (.object "RingHeap$Thing")), Cond.fieldLink RX5 48 "RingHeap$Thing" "nextField" "I", Cond.methodLink RX1 53 yX1_finish, Cond.instanceMethod yX1_finish, Cond.selects RX1 yX1_finish yX1_finish, Cond.code yX1_finish cX1_finish 2 none, Cond.fieldLink RX1 82 "RingHeap$Thing" "husk" "Z", Cond.methodLink RX1 79 yX3_removeLast]
def wsL_set_r5 : List Cond := [Cond.instanceMethod yX3_removeLast, Cond.selects RX3 yX3_removeLast yX3_removeLast, Cond.code yX3_removeLast cX3_removeLast 1 none, Cond.methodLink RX1 85 yX4_free, Cond.instanceMethod yX4_free, Cond.selects RX4 yX4_free yX4_free, Cond.code yX4_free cX4_free 3 none, Cond.fieldLink RX4 27 "RingHeap$Store" "words" "LRingHeap$Words;", Cond.fieldLink RX4 67 "RingHeap$Thing" "number" "I", Cond.fieldLink RX4 60 "RingHeap$Store" "thingsThere" "I", Cond.fieldLink RX4 21 "RingHeap$Store" "weaks" "[LRingHeap$Thing;", Cond.fieldLink RX4 17 "RingHeap$Store" "freedNumbers" "[I", Cond.fieldLink RX4 70 "RingHeap$Store" "freedEver" "I", Cond.methodLink RX4 63 yX6_takeBack, Cond.instanceMethod yX6_takeBack, Cond.selects RX6 yX6_takeBack yX6_takeBack, Cond.initialized RX6, Cond.code yX6_takeBack cX6_takeBack 4 none, Cond.fieldLink RX6 25 "RingHeap$Thing" "address" "I", Cond.fieldLink RX6 28 "RingHeap$Thing" "kind" "LRingHeap$Kind;", Cond.fieldLink RX6 32 "RingHeap$Kind" "size" "I", Cond.fieldLink RX6 11 "RingHeap$Words" "owners" "[LRingHeap$Thing;", Cond.fieldLink RX6 17 "RingHeap$Words" "free" "I"]
def wsL_set : List Cond := .codeWith yL_set cL_set 6 (some .int) [(0, 12, 15, 13)] :: ((wsL_set_r1 ++ (wsL_set_r2 ++ (wsL_set_r3 ++ (wsL_set_r4 ++ wsL_set_r5)))) ++ wsX70 ++ wsX50 ++ wsX40 ++ wsX20 ++ wsX10 ++ wsX30 ++ wsX60 ++ (vx_atS RX7 44 "java/lang/IndexOutOfBoundsException" ["java/lang/RuntimeException", "java/lang/Exception"]).filter goodWord)
def wsL_get_r1 : List Cond := [Cond.classLink RL 13 "java/lang/IndexOutOfBoundsException", Cond.methodLink RL 25 yX7_get, Cond.instanceMethod yX7_get, Cond.selects RX7 yX7_get yX7_get, Cond.initialized RX7, Cond.code yX7_get cX7_get 4 (some .int), Cond.classLink RX7 40 "java/lang/IndexOutOfBoundsException", Cond.initialized "java/lang/IndexOutOfBoundsException", Cond.fieldLink RX7 18 "RingHeap" "store" "LRingHeap$Store;", Cond.fieldLink RX7 97 "RingHeap$Thing" "held" "[LRingHeap$Thing;", Cond.methodLink RX7 101 yX4_thing, Cond.instanceMethod yX4_thing, Cond.selects RX4 yX4_thing yX4_thing, Cond.initialized RX4, Cond.code yX4_thing cX4_thing 2 (some (.object "RingHeap$Thing")), Cond.fieldLink RX4 11 "RingHeap$Store" "things" "[LRingHeap$Thing;", Cond.methodLink RX7 91 yX5_hasField, Cond.instanceMethod yX5_hasField, Cond.selects RX5 yX5_hasField yX5_hasField, Cond.initialized RX5, Cond.code yX5_hasField cX5_hasField 2 (some .boolean), Cond.fieldLink RX5 21 "RingHeap$Thing" "kind" "LRingHeap$Kind;", Cond.fieldLink RX5 29 "RingHeap$Kind" "fields" "I", Cond.fieldLink RX5 25 "RingHeap$Thing" "held" "[LRingHeap$Thing;"]
def wsL_get_r2 : List Cond := [Cond.methodLink RX7 106 yX7_numberOf, Cond.static yX7_numberOf, Cond.code yX7_numberOf cX7_numberOf 1 (some .int), Cond.fieldLink RX7 119 "RingHeap$Thing" "number" "I"]
def wsL_get : List Cond := .codeWith yL_get cL_get 5 (some .int) [(0, 10, 13, 13)] :: ((wsL_get_r1 ++ wsL_get_r2) ++ wsX70 ++ wsX50 ++ wsX40 ++ wsX20 ++ (vx_atS RX7 44 "java/lang/IndexOutOfBoundsException" ["java/lang/RuntimeException", "java/lang/Exception"]).filter goodWord)
def wsL_weak_r1 : List Cond := [Cond.classLink RL 13 "java/lang/IndexOutOfBoundsException", Cond.methodLink RL 29 yX7_weak, Cond.instanceMethod yX7_weak, Cond.selects RX7 yX7_weak yX7_weak, Cond.initialized RX7, Cond.code yX7_weak cX7_weak 5 (some .int), Cond.classLink RX7 40 "java/lang/IndexOutOfBoundsException", Cond.initialized "java/lang/IndexOutOfBoundsException", Cond.fieldLink RX7 18 "RingHeap" "store" "LRingHeap$Store;", Cond.fieldLink RX7 136 "RingHeap$Store" "weaks" "[LRingHeap$Thing;", Cond.methodLink RX7 70 yX4_living, Cond.instanceMethod yX4_living, Cond.selects RX4 yX4_living yX4_living, Cond.initialized RX4, Cond.code yX4_living cX4_living 3 (some (.object "RingHeap$Thing")), Cond.fieldLink RX4 35 "RingHeap$Thing" "husk" "Z", Cond.methodLink RX4 31 yX4_thing, Cond.instanceMethod yX4_thing, Cond.selects RX4 yX4_thing yX4_thing, Cond.code yX4_thing cX4_thing 2 (some (.object "RingHeap$Thing")), Cond.fieldLink RX4 11 "RingHeap$Store" "things" "[LRingHeap$Thing;", Cond.methodLink RX7 106 yX7_numberOf, Cond.static yX7_numberOf, Cond.code yX7_numberOf cX7_numberOf 1 (some .int)]
def wsL_weak_r2 : List Cond := [Cond.fieldLink RX7 119 "RingHeap$Thing" "number" "I"]
def wsL_weak : List Cond := .codeWith yL_weak cL_weak 5 (some .int) [(0, 10, 13, 13)] :: ((wsL_weak_r1 ++ wsL_weak_r2) ++ wsX70 ++ wsX40 ++ wsX50 ++ (vx_atS RX7 44 "java/lang/IndexOutOfBoundsException" ["java/lang/RuntimeException", "java/lang/Exception"]).filter goodWord)
def wsL_seen : List Cond := .codeWith yL_seen cL_seen 4 (some .int) [(0, 9, 12, 13)] :: ([.classLink RL 13 "java/lang/IndexOutOfBoundsException", .methodLink RL 32 yX7_seen, .instanceMethod yX7_seen, .selects RX7 yX7_seen yX7_seen, .initialized RX7, .code yX7_seen cX7_seen 2 (some .int), .classLink RX7 40 "java/lang/IndexOutOfBoundsException", .initialized "java/lang/IndexOutOfBoundsException", .fieldLink RX7 18 "RingHeap" "store" "LRingHeap$Store;", .fieldLink RX7 136 "RingHeap$Store" "weaks" "[LRingHeap$Thing;", .methodLink RX7 106 yX7_numberOf, .static yX7_numberOf, .code yX7_numberOf cX7_numberOf 1 (some .int), .fieldLink RX7 119 "RingHeap$Thing" "number" "I"] ++ wsX70 ++ wsX40 ++ wsX50 ++ (vx_atS RX7 44 "java/lang/IndexOutOfBoundsException" ["java/lang/RuntimeException", "java/lang/Exception"]).filter goodWord)
def wsL_object_r1 : List Cond := [Cond.classLink RL 13 "java/lang/IndexOutOfBoundsException", Cond.methodLink RL 35 yX7_object, Cond.instanceMethod yX7_object, Cond.selects RX7 yX7_object yX7_object, Cond.initialized RX7, Cond.code yX7_object cX7_object 4 (some .int), Cond.classLink RX7 40 "java/lang/IndexOutOfBoundsException", Cond.initialized "java/lang/IndexOutOfBoundsException", Cond.fieldLink RX7 18 "RingHeap" "store" "LRingHeap$Store;", Cond.methodLink RX7 101 yX4_thing, Cond.instanceMethod yX4_thing, Cond.selects RX4 yX4_thing yX4_thing, Cond.initialized RX4, Cond.code yX4_thing cX4_thing 2 (some (.object "RingHeap$Thing")), Cond.fieldLink RX4 11 "RingHeap$Store" "things" "[LRingHeap$Thing;", Cond.methodLink RX7 141 yX5_tell, Cond.instanceMethod yX5_tell, Cond.selects RX5 yX5_tell yX5_tell, Cond.initialized RX5, Cond.code yX5_tell cX5_tell 2 (some .int), Cond.fieldLink RX5 21 "RingHeap$Thing" "kind" "LRingHeap$Kind;", Cond.fieldLink RX5 51 "RingHeap$Kind" "number" "I", Cond.fieldLink RX5 9 "RingHeap$Thing" "count" "I", Cond.fieldLink RX5 34 "RingHeap$Thing" "colour" "I"]
def wsL_object_r2 : List Cond := [Cond.fieldLink RX5 52 "RingHeap$Thing" "address" "I", Cond.fieldLink RX5 55 "RingHeap$Thing" "inList" "Z", Cond.fieldLink RX5 41 "RingHeap$Thing" "wishUntold" "Z", Cond.fieldLink RX5 15 "RingHeap$Thing" "hands" "I", Cond.fieldLink RX5 58 "RingHeap$Thing" "husk" "Z"]
def wsL_object : List Cond := .codeWith yL_object cL_object 5 (some .int) [(0, 10, 13, 13)] :: ((wsL_object_r1 ++ wsL_object_r2) ++ wsX70 ++ wsX40 ++ wsX50 ++ wsX20 ++ (vx_atS RX7 44 "java/lang/IndexOutOfBoundsException" ["java/lang/RuntimeException", "java/lang/Exception"]).filter goodWord)
def wsL_count : List Cond := .codeWith yL_count cL_count 4 (some .int) [(0, 9, 12, 13)] :: ([.classLink RL 13 "java/lang/IndexOutOfBoundsException", .methodLink RL 38 yX7_count, .instanceMethod yX7_count, .selects RX7 yX7_count yX7_count, .initialized RX7, .code yX7_count cX7_count 2 (some .int), .classLink RX7 40 "java/lang/IndexOutOfBoundsException", .initialized "java/lang/IndexOutOfBoundsException", .fieldLink RX7 18 "RingHeap" "store" "LRingHeap$Store;", .fieldLink RX7 145 "RingHeap$Store" "thingsThere" "I", .fieldLink RX7 27 "RingHeap" "counting" "LRingHeap$Counting;", .fieldLink RX7 148 "RingHeap$Counting" "list" "LRingHeap$Row;", .fieldLink RX7 151 "RingHeap$Row" "length" "I", .fieldLink RX7 109 "RingHeap$Counting" "wishes" "LRingHeap$Row;", .fieldLink RX7 125 "RingHeap$Store" "words" "LRingHeap$Words;", .fieldLink RX7 154 "RingHeap$Words" "free" "I", .fieldLink RX7 157 "RingHeap$Store" "freedEver" "I", .fieldLink RX7 36 "RingHeap" "collector" "LRingHeap$Collector;", .fieldLink RX7 160 "RingHeap$Collector" "collections" "I", .fieldLink RX7 122 "RingHeap" "moves" "I", .fieldLink RX7 163 "RingHeap$Collector" "grayed" "I", .fieldLink RX7 166 "RingHeap$Collector" "blackened" "I"] ++ wsX70 ++ wsX40 ++ wsX10 ++ wsX30 ++ wsX60 ++ wsX00 ++ (vx_atS RX7 44 "java/lang/IndexOutOfBoundsException" ["java/lang/RuntimeException", "java/lang/Exception"]).filter goodWord)
def wsL_at : List Cond := .codeWith yL_at cL_at 4 (some .int) [(0, 9, 12, 13)] :: ([.classLink RL 13 "java/lang/IndexOutOfBoundsException", .methodLink RL 41 yX7_at, .instanceMethod yX7_at, .selects RX7 yX7_at yX7_at, .initialized RX7, .code yX7_at cX7_at 2 (some .int), .classLink RX7 40 "java/lang/IndexOutOfBoundsException", .initialized "java/lang/IndexOutOfBoundsException", .fieldLink RX7 18 "RingHeap" "store" "LRingHeap$Store;", .fieldLink RX7 125 "RingHeap$Store" "words" "LRingHeap$Words;", .methodLink RX7 177 yX6_owner, .instanceMethod yX6_owner, .selects RX6 yX6_owner yX6_owner, .initialized RX6, .code yX6_owner cX6_owner 2 (some (.object "RingHeap$Thing")), .fieldLink RX6 11 "RingHeap$Words" "owners" "[LRingHeap$Thing;", .methodLink RX7 106 yX7_numberOf, .static yX7_numberOf, .code yX7_numberOf cX7_numberOf 1 (some .int), .fieldLink RX7 119 "RingHeap$Thing" "number" "I"] ++ wsX70 ++ wsX40 ++ wsX60 ++ wsX50 ++ (vx_atS RX7 44 "java/lang/IndexOutOfBoundsException" ["java/lang/RuntimeException", "java/lang/Exception"]).filter goodWord)
def wsL_law0_r1 : List Cond := [Cond.classLink RL 8 RX7, Cond.instantiable RX7 5, Cond.initialized RX7, Cond.classLink RL 45 RX8, Cond.instantiable RX8 31, Cond.initialized RX8, Cond.arrayClass .long, Cond.methodLink RL 44 yX7_init, Cond.instanceMethod yX7_init, Cond.code yX7_init cX7_init 1 none, Cond.methodLink RX7 3 objectInit, Cond.instanceMethod objectInit, Cond.code objectInit ⟨#[0xb1]⟩ 1 none, Cond.classLink RX7 9 RX2, Cond.fieldLink RX7 11 "RingHeap" "kinds" "[LRingHeap$Kind;", Cond.classLink RX7 15 RX4, Cond.instantiable RX4 6, Cond.initialized RX4, Cond.fieldLink RX7 18 "RingHeap" "store" "LRingHeap$Store;", Cond.classLink RX7 22 RX1, Cond.instantiable RX1 4, Cond.initialized RX1, Cond.fieldLink RX7 27 "RingHeap" "counting" "LRingHeap$Counting;", Cond.classLink RX7 31 RX0]
def wsL_law0_r2 : List Cond := [Cond.instantiable RX0 7, Cond.initialized RX0, Cond.fieldLink RX7 36 "RingHeap" "collector" "LRingHeap$Collector;", Cond.instanceMethod yX4_init, Cond.code yX4_init cX4_init 1 none, Cond.methodLink RX4 3 objectInit, Cond.classLink RX4 9 RX5, Cond.fieldLink RX4 11 "RingHeap$Store" "things" "[LRingHeap$Thing;", Cond.arrayClass .int, Cond.fieldLink RX4 17 "RingHeap$Store" "freedNumbers" "[I", Cond.fieldLink RX4 21 "RingHeap$Store" "weaks" "[LRingHeap$Thing;", Cond.classLink RX4 24 RX6, Cond.instantiable RX6 2, Cond.initialized RX6, Cond.fieldLink RX4 27 "RingHeap$Store" "words" "LRingHeap$Words;", Cond.instanceMethod yX6_init, Cond.code yX6_init cX6_init 1 none, Cond.methodLink RX6 3 objectInit, Cond.classLink RX6 9 RX5, Cond.fieldLink RX6 11 "RingHeap$Words" "owners" "[LRingHeap$Thing;", Cond.fieldLink RX6 17 "RingHeap$Words" "free" "I", Cond.methodLink RX7 24 yX1_init, Cond.instanceMethod yX1_init, Cond.code yX1_init cX1_init 2 none]
def wsL_law0_r3 : List Cond := [Cond.methodLink RX1 3 objectInit, Cond.classLink RX1 9 RX3, Cond.instantiable RX3 2, Cond.initialized RX3, Cond.fieldLink RX1 12 "RingHeap$Counting" "going" "LRingHeap$Row;", Cond.fieldLink RX1 18 "RingHeap$Counting" "list" "LRingHeap$Row;", Cond.fieldLink RX1 21 "RingHeap$Counting" "wishes" "LRingHeap$Row;", Cond.fieldLink RX1 24 "RingHeap$Counting" "store" "LRingHeap$Store;", Cond.instanceMethod yX3_init, Cond.code yX3_init cX3_init 1 none, Cond.methodLink RX3 3 objectInit, Cond.classLink RX3 9 RX5, Cond.fieldLink RX3 11 "RingHeap$Row" "things" "[LRingHeap$Thing;", Cond.methodLink RX7 33 yX0_init, Cond.instanceMethod yX0_init, Cond.code yX0_init cX0_init 3 none, Cond.methodLink RX0 3 objectInit, Cond.classLink RX0 9 RX3, Cond.fieldLink RX0 12 "RingHeap$Collector" "reached" "LRingHeap$Row;", Cond.fieldLink RX0 18 "RingHeap$Collector" "darkened" "LRingHeap$Row;", Cond.fieldLink RX0 21 "RingHeap$Collector" "store" "LRingHeap$Store;", Cond.fieldLink RX0 25 "RingHeap$Collector" "counting" "LRingHeap$Counting;", Cond.methodLink RL 47 yX8_init, Cond.instanceMethod yX8_init]
def wsL_law0_r4 : List Cond := [Cond.code yX8_init cX8_init 2 none, Cond.methodLink RX8 7 objectInit, Cond.fieldLink RX8 13 "RingHeapModel" "typeFields" "[I", Cond.fieldLink RX8 17 "RingHeapModel" "typeWords" "[I", Cond.arrayClass .boolean, Cond.fieldLink RX8 20 "RingHeapModel" "typeWish" "[Z", Cond.fieldLink RX8 24 "RingHeapModel" "types" "[I", Cond.fieldLink RX8 27 "RingHeapModel" "counts" "[I", Cond.fieldLink RX8 30 "RingHeapModel" "colours" "[I", Cond.fieldLink RX8 33 "RingHeapModel" "addresses" "[I", Cond.fieldLink RX8 36 "RingHeapModel" "hands" "[I", Cond.fieldLink RX8 39 "RingHeapModel" "listedNow" "[Z", Cond.fieldLink RX8 42 "RingHeapModel" "wishTold" "[Z", Cond.fieldLink RX8 45 "RingHeapModel" "husks" "[Z", Cond.fieldLink RX8 48 "RingHeapModel" "fields" "[I", Cond.fieldLink RX8 51 "RingHeapModel" "owners" "[I", Cond.fieldLink RX8 54 "RingHeapModel" "list" "[I", Cond.fieldLink RX8 57 "RingHeapModel" "wishes" "[I", Cond.fieldLink RX8 60 "RingHeapModel" "weaks" "[I", Cond.fieldLink RX8 63 "RingHeapModel" "freedRow" "[I", Cond.fieldLink RX8 66 "RingHeapModel" "work" "[I", Cond.fieldLink RX8 69 "RingHeapModel" "workFields" "[I", Cond.fieldLink RX8 72 "RingHeapModel" "byAddress" "[I", Cond.fieldLink RX8 75 "RingHeapModel" "blackWork" "[I"]
def wsL_law0_r5 : List Cond := [Cond.methodLink RL 48 yL_type, Cond.static yL_type, Cond.initialized RL, Cond.codeWith yL_type cL_type 7 (some .int) [(0, 21, 24, 13), (0, 21, 28, 15)], Cond.classLink RL 13 "java/lang/IndexOutOfBoundsException", Cond.classLink RL 15 "java/lang/IllegalArgumentException", Cond.methodLink RL 7 yX7_type, Cond.instanceMethod yX7_type, Cond.selects RX7 yX7_type yX7_type, Cond.code yX7_type cX7_type 5 (some .boolean), Cond.classLink RX7 40 "java/lang/IndexOutOfBoundsException", Cond.initialized "java/lang/IndexOutOfBoundsException", Cond.classLink RX7 47 "java/lang/IllegalArgumentException", Cond.initialized "java/lang/IllegalArgumentException", Cond.instantiable RX2 4, Cond.initialized RX2, Cond.methodLink RX7 52 yX2_init, Cond.instanceMethod yX2_init, Cond.code yX2_init cX2_init 5 none, Cond.methodLink RX2 1 objectInit, Cond.fieldLink RX2 7 "RingHeap$Kind" "number" "I", Cond.fieldLink RX2 13 "RingHeap$Kind" "fields" "I", Cond.fieldLink RX2 16 "RingHeap$Kind" "size" "I", Cond.fieldLink RX2 19 "RingHeap$Kind" "wish" "Z"]
def wsL_law0_r6 : List Cond := [Cond.methodLink RL 53 yX8_type, Cond.instanceMethod yX8_type, Cond.selects RX8 yX8_type yX8_type, Cond.code yX8_type cX8_type 5 (some .boolean), Cond.fieldLink RX8 1 "RingHeapModel" "thrown" "I", Cond.methodLink RL 54 yX8_thrown, Cond.instanceMethod yX8_thrown, Cond.selects RX8 yX8_thrown yX8_thrown, Cond.code yX8_thrown cX8_thrown 1 (some .int), Cond.methodLink RL 58 yL_make, Cond.static yL_make, Cond.codeWith yL_make cL_make 4 (some .int) [(0, 9, 12, 13)], Cond.methodLink RL 17 yX7_make, Cond.instanceMethod yX7_make, Cond.selects RX7 yX7_make yX7_make, Cond.code yX7_make cX7_make 3 (some .int), Cond.methodLink RX7 55 yX4_hasRoomFor, Cond.instanceMethod yX4_hasRoomFor, Cond.selects RX4 yX4_hasRoomFor yX4_hasRoomFor, Cond.code yX4_hasRoomFor cX4_hasRoomFor 2 (some .boolean), Cond.fieldLink RX4 43 "RingHeap$Kind" "size" "I", Cond.methodLink RX4 39 yX4_leastFreeNumber, Cond.instanceMethod yX4_leastFreeNumber, Cond.selects RX4 yX4_leastFreeNumber yX4_leastFreeNumber]
def wsL_law0_r7 : List Cond := [Cond.code yX4_leastFreeNumber cX4_leastFreeNumber 2 (some .int), Cond.methodLink RX4 49 yX6_gapFor, Cond.instanceMethod yX6_gapFor, Cond.selects RX6 yX6_gapFor yX6_gapFor, Cond.code yX6_gapFor cX6_gapFor 4 (some .int), Cond.methodLink RX7 59 yX0_run, Cond.instanceMethod yX0_run, Cond.selects RX0 yX0_run yX0_run, Cond.code yX0_run cX0_run 2 (some .int), Cond.fieldLink RX0 29 "RingHeap$Store" "freedEver" "I", Cond.fieldLink RX0 35 "RingHeap$Collector" "collections" "I", Cond.methodLink RX0 38 yX0_markListed, Cond.instanceMethod yX0_markListed, Cond.selects RX0 yX0_markListed yX0_markListed, Cond.code yX0_markListed cX0_markListed 4 none, Cond.fieldLink RX0 53 "RingHeap$Counting" "list" "LRingHeap$Row;", Cond.fieldLink RX0 58 "RingHeap$Row" "length" "I", Cond.fieldLink RX0 65 "RingHeap$Thing" "husk" "Z", Cond.fieldLink RX0 71 "RingHeap$Thing" "inList" "Z", Cond.fieldLink RX0 78 "RingHeap$Thing" "colour" "I", Cond.methodLink RX0 61 yX3_item, Cond.instanceMethod yX3_item, Cond.selects RX3 yX3_item yX3_item, Cond.code yX3_item cX3_item 2 (some (.object "RingHeap$Thing"))]
def wsL_law0_r8 : List Cond := [Cond.fieldLink RX3 17 "RingHeap$Row" "length" "I", Cond.methodLink RX0 74 yX4_free, Cond.instanceMethod yX4_free, Cond.selects RX4 yX4_free yX4_free, Cond.code yX4_free cX4_free 3 none, Cond.fieldLink RX4 67 "RingHeap$Thing" "number" "I", Cond.fieldLink RX4 60 "RingHeap$Store" "thingsThere" "I", Cond.fieldLink RX4 70 "RingHeap$Store" "freedEver" "I", Cond.methodLink RX4 63 yX6_takeBack, Cond.instanceMethod yX6_takeBack, Cond.selects RX6 yX6_takeBack yX6_takeBack, Cond.code yX6_takeBack cX6_takeBack 4 none, Cond.fieldLink RX6 25 "RingHeap$Thing" "address" "I", Cond.fieldLink RX6 28 "RingHeap$Thing" "kind" "LRingHeap$Kind;", Cond.fieldLink RX6 32 "RingHeap$Kind" "size" "I", Cond.methodLink RX0 81 yX0_markFrom, Cond.instanceMethod yX0_markFrom, Cond.selects RX0 yX0_markFrom yX0_markFrom, Cond.code yX0_markFrom cX0_markFrom 8 none, Cond.fieldLink RX0 90 "RingHeap$Thing" "held" "[LRingHeap$Thing;", Cond.fieldLink RX0 98 "RingHeap$Thing" "count" "I", Cond.methodLink RX0 84 yX3_clear, Cond.instanceMethod yX3_clear, Cond.selects RX3 yX3_clear yX3_clear]
def wsL_law0_r9 : List Cond := [Cond.code yX3_clear cX3_clear 1 none, Cond.methodLink RX0 87 yX0_turnGray, Cond.instanceMethod yX0_turnGray, Cond.selects RX0 yX0_turnGray yX0_turnGray, Cond.code yX0_turnGray cX0_turnGray 2 none, Cond.fieldLink RX0 101 "RingHeap$Collector" "grayed" "I", Cond.methodLink RX0 94 yX5_isGreen, Cond.instanceMethod yX5_isGreen, Cond.selects RX5 yX5_isGreen yX5_isGreen, Cond.initialized RX5, Cond.code yX5_isGreen cX5_isGreen 1 (some .boolean), Cond.fieldLink RX5 34 "RingHeap$Thing" "colour" "I", Cond.methodLink RX0 104 yX3_append, Cond.instanceMethod yX3_append, Cond.selects RX3 yX3_append yX3_append, Cond.code yX3_append cX3_append 2 none, Cond.methodLink RX0 41 yX0_scanListed, Cond.instanceMethod yX0_scanListed, Cond.selects RX0 yX0_scanListed yX0_scanListed, Cond.code yX0_scanListed cX0_scanListed 4 none, Cond.methodLink RX0 107 yX0_scanFrom, Cond.instanceMethod yX0_scanFrom, Cond.selects RX0 yX0_scanFrom yX0_scanFrom, Cond.code yX0_scanFrom cX0_scanFrom 8 none]
def wsL_law0_r10 : List Cond := [Cond.methodLink RX0 110 yX0_judge, Cond.instanceMethod yX0_judge, Cond.selects RX0 yX0_judge yX0_judge, Cond.code yX0_judge cX0_judge 2 none, Cond.methodLink RX0 113 yX0_blackenFrom, Cond.instanceMethod yX0_blackenFrom, Cond.selects RX0 yX0_blackenFrom yX0_blackenFrom, Cond.code yX0_blackenFrom cX0_blackenFrom 8 none, Cond.methodLink RX0 116 yX0_turnBlack, Cond.instanceMethod yX0_turnBlack, Cond.selects RX0 yX0_turnBlack yX0_turnBlack, Cond.code yX0_turnBlack cX0_turnBlack 2 none, Cond.fieldLink RX0 119 "RingHeap$Collector" "blackened" "I", Cond.methodLink RX0 44 yX0_tellWishes, Cond.instanceMethod yX0_tellWishes, Cond.selects RX0 yX0_tellWishes yX0_tellWishes, Cond.code yX0_tellWishes cX0_tellWishes 3 none, Cond.fieldLink RX0 122 "RingHeap$Store" "words" "LRingHeap$Words;", Cond.fieldLink RX0 131 "RingHeap$Thing" "wishUntold" "Z", Cond.methodLink RX0 126 yX6_ownerFrom, Cond.instanceMethod yX6_ownerFrom, Cond.selects RX6 yX6_ownerFrom yX6_ownerFrom, Cond.code yX6_ownerFrom cX6_ownerFrom 3 (some (.object "RingHeap$Thing")), Cond.methodLink RX6 21 yX6_owner]
def wsL_law0_r11 : List Cond := [Cond.instanceMethod yX6_owner, Cond.selects RX6 yX6_owner yX6_owner, Cond.code yX6_owner cX6_owner 2 (some (.object "RingHeap$Thing")), Cond.methodLink RX0 134 yX1_tellWish, Cond.instanceMethod yX1_tellWish, Cond.selects RX1 yX1_tellWish yX1_tellWish, Cond.code yX1_tellWish cX1_tellWish 2 none, Cond.fieldLink RX1 56 "RingHeap$Thing" "wishUntold" "Z", Cond.fieldLink RX1 28 "RingHeap$Thing" "count" "I", Cond.methodLink RX1 60 yX3_append, Cond.methodLink RX0 47 yX0_emptyList, Cond.instanceMethod yX0_emptyList, Cond.selects RX0 yX0_emptyList yX0_emptyList, Cond.code yX0_emptyList cX0_emptyList 4 none, Cond.methodLink RX0 50 yX0_freeWhite, Cond.instanceMethod yX0_freeWhite, Cond.selects RX0 yX0_freeWhite yX0_freeWhite, Cond.code yX0_freeWhite cX0_freeWhite 7 none, Cond.methodLink RX0 137 yX1_less, Cond.instanceMethod yX1_less, Cond.selects RX1 yX1_less yX1_less, Cond.code yX1_less cX1_less 6 (some .int), Cond.fieldLink RX1 37 "RingHeap$Store" "freedEver" "I", Cond.methodLink RX1 42 yX1_lower]
def wsL_law0_r12 : List Cond := [Cond.instanceMethod yX1_lower, Cond.selects RX1 yX1_lower yX1_lower, Cond.code yX1_lower cX1_lower 2 none, Cond.methodLink RX1 63 yX1_suspect, Cond.instanceMethod yX1_suspect, Cond.selects RX1 yX1_suspect yX1_suspect, Cond.code yX1_suspect cX1_suspect 2 none, Cond.fieldLink RX1 73 "RingHeap$Thing" "colour" "I", Cond.fieldLink RX1 76 "RingHeap$Thing" "inList" "Z", Cond.methodLink RX1 69 yX5_isGreen, Cond.methodLink RX1 66 yX1_tellWish, Cond.methodLink RX1 34 yX5_blackenUnlessGreen, Cond.instanceMethod yX5_blackenUnlessGreen, Cond.selects RX5 yX5_blackenUnlessGreen yX5_blackenUnlessGreen, Cond.code yX5_blackenUnlessGreen cX5_blackenUnlessGreen 1 none, Cond.methodLink RX5 44 yX5_isGreen, Cond.methodLink RX1 46 yX3_last, Cond.instanceMethod yX3_last, Cond.selects RX3 yX3_last yX3_last, Cond.code yX3_last cX3_last 1 (some (.object "RingHeap$Thing")), Cond.methodLink RX3 21 yX3_item, Cond.methodLink RX1 50 yX5_giveUpNext, Cond.instanceMethod yX5_giveUpNext, Cond.selects RX5 yX5_giveUpNext yX5_giveUpNext]
def wsL_law0_r13 : List Cond := [Cond.code yX5_giveUpNext cX5_giveUpNext 2 (some (.object "RingHeap$Thing")), Cond.fieldLink RX5 48 "RingHeap$Thing" "nextField" "I", Cond.fieldLink RX5 25 "RingHeap$Thing" "held" "[LRingHeap$Thing;", Cond.methodLink RX1 53 yX1_finish, Cond.instanceMethod yX1_finish, Cond.selects RX1 yX1_finish yX1_finish, Cond.code yX1_finish cX1_finish 2 none, Cond.fieldLink RX1 82 "RingHeap$Thing" "husk" "Z", Cond.methodLink RX1 79 yX3_removeLast, Cond.instanceMethod yX3_removeLast, Cond.selects RX3 yX3_removeLast yX3_removeLast, Cond.code yX3_removeLast cX3_removeLast 1 none, Cond.methodLink RX1 85 yX4_free, Cond.methodLink RX7 63 yX7_makeRoomByMoving, Cond.instanceMethod yX7_makeRoomByMoving, Cond.selects RX7 yX7_makeRoomByMoving yX7_makeRoomByMoving, Cond.code yX7_makeRoomByMoving cX7_makeRoomByMoving 2 (some .boolean), Cond.fieldLink RX7 125 "RingHeap$Store" "words" "LRingHeap$Words;", Cond.fieldLink RX7 154 "RingHeap$Words" "free" "I", Cond.fieldLink RX7 183 "RingHeap$Kind" "size" "I", Cond.fieldLink RX7 122 "RingHeap" "moves" "I", Cond.methodLink RX7 180 yX4_leastFreeNumber, Cond.methodLink RX7 129 yX6_moveAllDown, Cond.instanceMethod yX6_moveAllDown]
def wsL_law0_r14 : List Cond := [Cond.selects RX6 yX6_moveAllDown yX6_moveAllDown, Cond.code yX6_moveAllDown cX6_moveAllDown 5 (some .int), Cond.methodLink RX6 37 yX6_ownerFrom, Cond.methodLink RX6 40 yX6_takeBack, Cond.methodLink RX6 44 yX6_give, Cond.instanceMethod yX6_give, Cond.selects RX6 yX6_give yX6_give, Cond.code yX6_give cX6_give 5 none, Cond.methodLink RX7 66 yX4_place, Cond.instanceMethod yX4_place, Cond.selects RX4 yX4_place yX4_place, Cond.code yX4_place cX4_place 5 (some .int), Cond.instantiable RX5 11, Cond.methodLink RX4 53 yX5_init, Cond.instanceMethod yX5_init, Cond.code yX5_init cX5_init 3 none, Cond.methodLink RX5 3 objectInit, Cond.fieldLink RX5 9 "RingHeap$Thing" "count" "I", Cond.fieldLink RX5 15 "RingHeap$Thing" "hands" "I", Cond.fieldLink RX5 18 "RingHeap$Thing" "number" "I", Cond.fieldLink RX5 21 "RingHeap$Thing" "kind" "LRingHeap$Kind;", Cond.classLink RX5 10 RX5, Cond.fieldLink RX5 29 "RingHeap$Kind" "fields" "I", Cond.fieldLink RX5 37 "RingHeap$Kind" "wish" "Z"]
def wsL_law0_r15 : List Cond := [Cond.fieldLink RX5 41 "RingHeap$Thing" "wishUntold" "Z", Cond.methodLink RX4 56 yX6_give, Cond.methodLink RL 61 yX8_make, Cond.instanceMethod yX8_make, Cond.selects RX8 yX8_make yX8_make, Cond.code yX8_make cX8_make 6 (some .int), Cond.methodLink RX8 157 yX8_place, Cond.instanceMethod yX8_place, Cond.selects RX8 yX8_place yX8_place, Cond.code yX8_place cX8_place 4 (some .int), Cond.methodLink RX8 160 yX8_number, Cond.instanceMethod yX8_number, Cond.selects RX8 yX8_number yX8_number, Cond.code yX8_number cX8_number 2 (some .int), Cond.methodLink RX8 164 yX8_collect, Cond.instanceMethod yX8_collect, Cond.selects RX8 yX8_collect yX8_collect, Cond.code yX8_collect cX8_collect 4 (some .int), Cond.fieldLink RX8 82 "RingHeapModel" "freedEver" "I", Cond.fieldLink RX8 139 "RingHeapModel" "collections" "I", Cond.fieldLink RX8 88 "RingHeapModel" "listCount" "I", Cond.fieldLink RX8 130 "RingHeapModel" "byAddressCount" "I", Cond.methodLink RX8 142 yX8_mark, Cond.instanceMethod yX8_mark]
def wsL_law0_r16 : List Cond := [Cond.selects RX8 yX8_mark yX8_mark, Cond.code yX8_mark cX8_mark 4 none, Cond.methodLink RX8 112 yX8_free, Cond.instanceMethod yX8_free, Cond.selects RX8 yX8_free yX8_free, Cond.code yX8_free cX8_free 3 none, Cond.methodLink RX8 133 yX8_gray, Cond.instanceMethod yX8_gray, Cond.selects RX8 yX8_gray yX8_gray, Cond.code yX8_gray cX8_gray 5 none, Cond.fieldLink RX8 105 "RingHeapModel" "workCount" "I", Cond.methodLink RX8 115 yX8_grayOne, Cond.instanceMethod yX8_grayOne, Cond.selects RX8 yX8_grayOne yX8_grayOne, Cond.code yX8_grayOne cX8_grayOne 2 none, Cond.fieldLink RX8 118 "RingHeapModel" "grayed" "I", Cond.methodLink RX8 108 yX8_fieldsOf, Cond.instanceMethod yX8_fieldsOf, Cond.selects RX8 yX8_fieldsOf yX8_fieldsOf, Cond.code yX8_fieldsOf cX8_fieldsOf 2 (some .int), Cond.methodLink RX8 145 yX8_scan, Cond.instanceMethod yX8_scan, Cond.selects RX8 yX8_scan yX8_scan, Cond.code yX8_scan cX8_scan 5 none]
def wsL_law0_r17 : List Cond := [Cond.methodLink RX8 124 yX8_scanOne, Cond.instanceMethod yX8_scanOne, Cond.selects RX8 yX8_scanOne yX8_scanOne, Cond.code yX8_scanOne cX8_scanOne 2 none, Cond.methodLink RX8 127 yX8_blacken, Cond.instanceMethod yX8_blacken, Cond.selects RX8 yX8_blacken yX8_blacken, Cond.code yX8_blacken cX8_blacken 6 none, Cond.fieldLink RX8 121 "RingHeapModel" "blackened" "I", Cond.methodLink RX8 98 yX8_turn, Cond.instanceMethod yX8_turn, Cond.selects RX8 yX8_turn yX8_turn, Cond.code yX8_turn cX8_turn 3 none, Cond.methodLink RX8 148 yX8_findByAddress, Cond.instanceMethod yX8_findByAddress, Cond.selects RX8 yX8_findByAddress yX8_findByAddress, Cond.code yX8_findByAddress cX8_findByAddress 3 none, Cond.methodLink RX8 91 yX8_hasWish, Cond.instanceMethod yX8_hasWish, Cond.selects RX8 yX8_hasWish yX8_hasWish, Cond.code yX8_hasWish cX8_hasWish 2 (some .boolean), Cond.methodLink RX8 94 yX8_comesToWishes, Cond.instanceMethod yX8_comesToWishes, Cond.selects RX8 yX8_comesToWishes yX8_comesToWishes]
def wsL_law0_r18 : List Cond := [Cond.code yX8_comesToWishes cX8_comesToWishes 2 none, Cond.fieldLink RX8 85 "RingHeapModel" "wishCount" "I", Cond.methodLink RX8 151 yX8_gather, Cond.instanceMethod yX8_gather, Cond.selects RX8 yX8_gather yX8_gather, Cond.code yX8_gather cX8_gather 5 none, Cond.methodLink RX8 78 yX8_isThere, Cond.instanceMethod yX8_isThere, Cond.selects RX8 yX8_isThere yX8_isThere, Cond.code yX8_isThere cX8_isThere 2 (some .boolean), Cond.methodLink RX8 136 yX8_less, Cond.instanceMethod yX8_less, Cond.selects RX8 yX8_less yX8_less, Cond.code yX8_less cX8_less 6 none, Cond.methodLink RX8 102 yX8_isLetGo, Cond.instanceMethod yX8_isLetGo, Cond.selects RX8 yX8_isLetGo yX8_isLetGo, Cond.code yX8_isLetGo cX8_isLetGo 2 (some .boolean), Cond.methodLink RX8 167 yX8_freeWords, Cond.instanceMethod yX8_freeWords, Cond.selects RX8 yX8_freeWords yX8_freeWords, Cond.code yX8_freeWords cX8_freeWords 3 (some .int), Cond.methodLink RX8 170 yX8_pack, Cond.instanceMethod yX8_pack]
def wsL_law0_r19 : List Cond := [Cond.selects RX8 yX8_pack yX8_pack, Cond.code yX8_pack cX8_pack 6 (some .int), Cond.fieldLink RX8 154 "RingHeapModel" "moves" "I", Cond.methodLink RL 62 yX7_hold, Cond.instanceMethod yX7_hold, Cond.selects RX7 yX7_hold yX7_hold, Cond.code yX7_hold cX7_hold 3 (some .int), Cond.fieldLink RX7 74 "RingHeap$Thing" "hands" "I", Cond.fieldLink RX7 84 "RingHeap$Thing" "count" "I", Cond.methodLink RX7 70 yX4_living, Cond.instanceMethod yX4_living, Cond.selects RX4 yX4_living yX4_living, Cond.code yX4_living cX4_living 3 (some (.object "RingHeap$Thing")), Cond.fieldLink RX4 35 "RingHeap$Thing" "husk" "Z", Cond.methodLink RX4 31 yX4_thing, Cond.instanceMethod yX4_thing, Cond.selects RX4 yX4_thing yX4_thing, Cond.code yX4_thing cX4_thing 2 (some (.object "RingHeap$Thing")), Cond.methodLink RX7 80 yX1_more, Cond.instanceMethod yX1_more, Cond.selects RX1 yX1_more yX1_more, Cond.code yX1_more cX1_more 2 none, Cond.methodLink RL 65 yX8_hold, Cond.instanceMethod yX8_hold]
def wsL_law0_r20 : List Cond := [Cond.selects RX8 yX8_hold yX8_hold, Cond.code yX8_hold cX8_hold 2 (some .int), Cond.methodLink RX8 173 yX8_isWhole, Cond.instanceMethod yX8_isWhole, Cond.selects RX8 yX8_isWhole yX8_isWhole, Cond.code yX8_isWhole cX8_isWhole 2 (some .boolean), Cond.methodLink RX8 176 yX8_more, Cond.instanceMethod yX8_more, Cond.selects RX8 yX8_more yX8_more, Cond.code yX8_more cX8_more 2 none, Cond.methodLink RL 66 yX7_loose, Cond.instanceMethod yX7_loose, Cond.selects RX7 yX7_loose yX7_loose, Cond.code yX7_loose cX7_loose 3 (some .int), Cond.methodLink RX7 87 yX1_less, Cond.methodLink RL 69 yX8_loose, Cond.instanceMethod yX8_loose, Cond.selects RX8 yX8_loose yX8_loose, Cond.code yX8_loose cX8_loose 3 (some .int), Cond.methodLink RL 70 yL_set, Cond.static yL_set, Cond.codeWith yL_set cL_set 6 (some .int) [(0, 12, 15, 13)], Cond.methodLink RL 21 yX7_set, Cond.instanceMethod yX7_set]
def wsL_law0_r21 : List Cond := [Cond.selects RX7 yX7_set yX7_set, Cond.code yX7_set cX7_set 7 (some .int), Cond.fieldLink RX7 97 "RingHeap$Thing" "held" "[LRingHeap$Thing;", Cond.methodLink RX7 91 yX5_hasField, Cond.instanceMethod yX5_hasField, Cond.selects RX5 yX5_hasField yX5_hasField, Cond.code yX5_hasField cX5_hasField 2 (some .boolean), Cond.methodLink RL 73 yX8_set, Cond.instanceMethod yX8_set, Cond.selects RX8 yX8_set yX8_set, Cond.code yX8_set cX8_set 6 (some .int), Cond.methodLink RL 74 yL_get, Cond.static yL_get, Cond.codeWith yL_get cL_get 5 (some .int) [(0, 10, 13, 13)], Cond.methodLink RL 25 yX7_get, Cond.instanceMethod yX7_get, Cond.selects RX7 yX7_get yX7_get, Cond.code yX7_get cX7_get 4 (some .int), Cond.methodLink RX7 101 yX4_thing, Cond.methodLink RX7 106 yX7_numberOf, Cond.static yX7_numberOf, Cond.code yX7_numberOf cX7_numberOf 1 (some .int), Cond.fieldLink RX7 119 "RingHeap$Thing" "number" "I", Cond.methodLink RL 77 yX8_get]
def wsL_law0_r22 : List Cond := [Cond.instanceMethod yX8_get, Cond.selects RX8 yX8_get yX8_get, Cond.code yX8_get cX8_get 3 (some .int), Cond.methodLink RL 78 yX7_wish, Cond.instanceMethod yX7_wish, Cond.selects RX7 yX7_wish yX7_wish, Cond.code yX7_wish cX7_wish 2 (some .int), Cond.fieldLink RX7 109 "RingHeap$Counting" "wishes" "LRingHeap$Row;", Cond.methodLink RX7 113 yX3_takeFirst, Cond.instanceMethod yX3_takeFirst, Cond.selects RX3 yX3_takeFirst yX3_takeFirst, Cond.code yX3_takeFirst cX3_takeFirst 3 (some (.object "RingHeap$Thing")), Cond.methodLink RL 81 yX8_wish, Cond.instanceMethod yX8_wish, Cond.selects RX8 yX8_wish yX8_wish, Cond.code yX8_wish cX8_wish 3 (some .int), Cond.methodLink RL 82 yX7_collect, Cond.instanceMethod yX7_collect, Cond.selects RX7 yX7_collect yX7_collect, Cond.code yX7_collect cX7_collect 1 (some .int), Cond.methodLink RL 85 yX8_collect, Cond.methodLink RL 86 yX7_pack, Cond.instanceMethod yX7_pack, Cond.selects RX7 yX7_pack yX7_pack]
def wsL_law0_r23 : List Cond := [Cond.code yX7_pack cX7_pack 1 (some .int), Cond.methodLink RL 89 yX8_pack, Cond.methodLink RL 90 yL_weak, Cond.static yL_weak, Cond.codeWith yL_weak cL_weak 5 (some .int) [(0, 10, 13, 13)], Cond.methodLink RL 29 yX7_weak, Cond.instanceMethod yX7_weak, Cond.selects RX7 yX7_weak yX7_weak, Cond.code yX7_weak cX7_weak 5 (some .int), Cond.fieldLink RX7 136 "RingHeap$Store" "weaks" "[LRingHeap$Thing;", Cond.methodLink RL 92 yX8_weak, Cond.instanceMethod yX8_weak, Cond.selects RX8 yX8_weak yX8_weak, Cond.code yX8_weak cX8_weak 4 (some .int), Cond.methodLink RL 93 yL_seen, Cond.static yL_seen, Cond.codeWith yL_seen cL_seen 4 (some .int) [(0, 9, 12, 13)], Cond.methodLink RL 32 yX7_seen, Cond.instanceMethod yX7_seen, Cond.selects RX7 yX7_seen yX7_seen, Cond.code yX7_seen cX7_seen 2 (some .int), Cond.methodLink RL 95 yX8_seen, Cond.instanceMethod yX8_seen, Cond.selects RX8 yX8_seen yX8_seen]
def wsL_law0_r24 : List Cond := [Cond.code yX8_seen cX8_seen 2 (some .int), Cond.methodLink RL 96 yL_object, Cond.static yL_object, Cond.codeWith yL_object cL_object 5 (some .int) [(0, 10, 13, 13)], Cond.methodLink RL 35 yX7_object, Cond.instanceMethod yX7_object, Cond.selects RX7 yX7_object yX7_object, Cond.code yX7_object cX7_object 4 (some .int), Cond.methodLink RX7 141 yX5_tell, Cond.instanceMethod yX5_tell, Cond.selects RX5 yX5_tell yX5_tell, Cond.code yX5_tell cX5_tell 2 (some .int), Cond.fieldLink RX5 51 "RingHeap$Kind" "number" "I", Cond.fieldLink RX5 52 "RingHeap$Thing" "address" "I", Cond.fieldLink RX5 55 "RingHeap$Thing" "inList" "Z", Cond.fieldLink RX5 58 "RingHeap$Thing" "husk" "Z", Cond.methodLink RL 98 yX8_object, Cond.instanceMethod yX8_object, Cond.selects RX8 yX8_object yX8_object, Cond.code yX8_object cX8_object 3 (some .int), Cond.methodLink RL 99 yL_count, Cond.static yL_count, Cond.codeWith yL_count cL_count 4 (some .int) [(0, 9, 12, 13)], Cond.methodLink RL 38 yX7_count]
def wsL_law0_r25 : List Cond := [Cond.instanceMethod yX7_count, Cond.selects RX7 yX7_count yX7_count, Cond.code yX7_count cX7_count 2 (some .int), Cond.fieldLink RX7 145 "RingHeap$Store" "thingsThere" "I", Cond.fieldLink RX7 148 "RingHeap$Counting" "list" "LRingHeap$Row;", Cond.fieldLink RX7 151 "RingHeap$Row" "length" "I", Cond.fieldLink RX7 157 "RingHeap$Store" "freedEver" "I", Cond.fieldLink RX7 160 "RingHeap$Collector" "collections" "I", Cond.fieldLink RX7 163 "RingHeap$Collector" "grayed" "I", Cond.fieldLink RX7 166 "RingHeap$Collector" "blackened" "I", Cond.methodLink RL 101 yX8_count, Cond.instanceMethod yX8_count, Cond.selects RX8 yX8_count yX8_count, Cond.code yX8_count cX8_count 2 (some .int), Cond.methodLink RL 102 yX7_listed, Cond.instanceMethod yX7_listed, Cond.selects RX7 yX7_listed yX7_listed, Cond.code yX7_listed cX7_listed 2 (some .int), Cond.methodLink RX7 169 yX3_item, Cond.methodLink RL 105 yX8_listed, Cond.instanceMethod yX8_listed, Cond.selects RX8 yX8_listed yX8_listed, Cond.code yX8_listed cX8_listed 2 (some .int), Cond.methodLink RL 106 yX7_freed]
def wsL_law0_r26 : List Cond := [Cond.instanceMethod yX7_freed, Cond.selects RX7 yX7_freed yX7_freed, Cond.code yX7_freed cX7_freed 2 (some .int), Cond.methodLink RX7 172 yX4_freedNumber, Cond.instanceMethod yX4_freedNumber, Cond.selects RX4 yX4_freedNumber yX4_freedNumber, Cond.code yX4_freedNumber cX4_freedNumber 2 (some .int), Cond.methodLink RL 109 yX8_freed, Cond.instanceMethod yX8_freed, Cond.selects RX8 yX8_freed yX8_freed, Cond.code yX8_freed cX8_freed 2 (some .int), Cond.methodLink RL 110 yL_at, Cond.static yL_at, Cond.codeWith yL_at cL_at 4 (some .int) [(0, 9, 12, 13)], Cond.methodLink RL 41 yX7_at, Cond.instanceMethod yX7_at, Cond.selects RX7 yX7_at yX7_at, Cond.code yX7_at cX7_at 2 (some .int), Cond.methodLink RX7 177 yX6_owner, Cond.methodLink RL 112 yX8_at, Cond.instanceMethod yX8_at, Cond.selects RX8 yX8_at yX8_at, Cond.code yX8_at cX8_at 2 (some .int)]
def wsL_law0 : List Cond := (wsL_law0_r1 ++ (wsL_law0_r2 ++ (wsL_law0_r3 ++ (wsL_law0_r4 ++ (wsL_law0_r5 ++ (wsL_law0_r6 ++ (wsL_law0_r7 ++ (wsL_law0_r8 ++ (wsL_law0_r9 ++ (wsL_law0_r10 ++ (wsL_law0_r11 ++ (wsL_law0_r12 ++ (wsL_law0_r13 ++ (wsL_law0_r14 ++ (wsL_law0_r15 ++ (wsL_law0_r16 ++ (wsL_law0_r17 ++ (wsL_law0_r18 ++ (wsL_law0_r19 ++ (wsL_law0_r20 ++ (wsL_law0_r21 ++ (wsL_law0_r22 ++ (wsL_law0_r23 ++ (wsL_law0_r24 ++ (wsL_law0_r25 ++ wsL_law0_r26))))))))))))))))))))))))) ++ wsX70 ++ wsX80 ++ wsX40 ++ wsX10 ++ wsX00 ++ wsX60 ++ wsX30 ++ wsX20 ++ wsX50 ++ ([] : List Cond)
def wsL_law : List Cond := wsL_law0 ++ (vx_atS RX7 44 "java/lang/IndexOutOfBoundsException" ["java/lang/RuntimeException", "java/lang/Exception"]).filter goodWord ++ (vx_atS RX7 51 "java/lang/IllegalArgumentException" ["java/lang/RuntimeException", "java/lang/Exception"]).filter goodWord
abbrev vwCl : List vw_C := [(RX0, TX0, 7), (RX1, TX1, 4), (RX2, TX2, 4), (RX3, TX3, 2), (RX4, TX4, 6), (RX5, TX5, 11), (RX6, TX6, 2), (RX7, TX7, 5), (RX8, TX8, 31)]
end
section
/-! the memory of both sides: ints I c k and references R c k, by cell numbers; which number is what stands in tg -/
abbrev Mm : Type := (Nat → Nat → Int32) × (Nat → Nat → Option Nat)
def sI (u : Mm) (c k : Nat) (v : Int32) : Mm := (fun a b => if a = c ∧ b = k then v else u.1 a b, u.2)
def sR (u : Mm) (c k : Nat) (v : Option Nat) : Mm := (u.1, fun a b => if a = c ∧ b = k then v else u.2 a b)
def tgl : List Nat := [8, 9, 9, 10, 9, 9, 9, 9, 9, 10, 10, 10, 9, 9, 9, 99, 9, 99, 9, 9, 99, 99, 99, 99, 99, 9, 9, 99, 9, 99, 9, 99, 99, 99, 99, 99, 99, 99, 99, 99, 7, 11, 4, 12, 9, 12, 6, 12, 1, 3, 12, 3, 12, 3, 12, 0, 3, 12, 3, 12, 2, 2, 2, 2, 2, 2, 2, 2, 2, 2]
def tg (c : Nat) : Nat := if c < 70 then tgl.getD c 99 else if c % 2 = 0 then 5 else 12
def lnl : List Nat := [0, 10, 10, 10, 80, 80, 80, 80, 80, 80, 80, 80, 480, 400, 80, 0, 80, 0, 20, 100, 0, 0, 0, 0, 0, 80, 80, 0, 80, 0, 80, 0, 0, 0, 0, 0, 0, 0, 0, 0, 0, 10, 0, 80, 100, 20, 0, 400, 0, 0, 80, 0, 80, 0, 80, 0, 0, 80, 0, 80, 0, 0, 0, 0, 0, 0, 0, 0, 0, 0]
def ln (c : Nat) : Nat := if c < 70 then lnl.getD c 0 else 6
def rs (t k : Nat) : Nat := match t with
  | 0 => [5, 2, 4, 4].getD k 0
  | 1 => [5, 4, 4, 4].getD k 0
  | 3 => [13].getD k 0
  | 4 => [13, 10, 13, 7].getD k 0
  | 5 => [0, 3, 13].getD k 0
  | 6 => [13].getD k 0
  | 7 => [12, 5, 2, 1].getD k 0
  | 8 => [0, 10, 10, 11, 10, 10, 10, 10, 10, 11, 11, 11, 10, 10, 10, 0, 10, 0, 10, 10, 0, 0, 0, 0, 0, 10, 10, 0, 10, 0, 10].getD k 0
  | 11 => 3
  | 12 => 6
  | _ => 0
def cst (c k : Nat) : Option Nat := match tg c with
  | 0 => [42, 48, 56, 58][k]?
  | 1 => [42, 49, 51, 53][k]?
  | 3 => if k = 0 then some (c + 1) else none
  | 4 => [43, 44, 45, 46][k]?
  | 5 => if k = 2 then some (c + 1) else none
  | 6 => if k = 0 then some 47 else none
  | 7 => [41, 42, 48, 55][k]?
  | 8 => if rs 8 k = 0 then none else some k
  | _ => none
def nf (t : Nat) : Nat := match vwCl[t]? with
  | some q => q.2.2
  | none => 0
def vn (L : List Nat) (t a : Nat) : Prop := a ∈ L ∧ tg a = t
def vr (L : List Nat) (t : Nat) (r : Option Nat) : Prop := ∀ a, r = some a → vn L t a
def Ok (L : List Nat) (u : Mm) : Prop := ∀ c ∈ L, ∀ k, (∀ d, cst c k = some d → u.2 c k = some d) ∧ (rs (tg c) k ≠ 0 → ∀ d, u.2 c k = some d → d ∈ L ∧ tg d + 1 = rs (tg c) k)
def fso (ad : Nat → Nat) (u : Mm) (t c : Nat) : List Value := (List.range (nf t)).map (fun k => if rs t k = 0 then .int (u.1 c k) else va_re ad (u.2 c k))
def en (cy : Nat → ClassId) (ad : Nat → Nat) (u : Mm) (c : Nat) : va_E :=
  if tg c = 9 then .inl (cy 0, ln c, .inl (u.1 c))
  else if tg c = 10 then .inl (cy 1, ln c, .inl (u.1 c))
  else if tg c = 11 then .inl (cy 2, ln c, .inr (.inr (.inr (.inr (fun k => (u.2 c k).map ad)))))
  else if tg c = 12 then .inl (cy 3, ln c, .inr (.inr (.inr (.inr (fun k => (u.2 c k).map ad)))))
  else .inr (tg c, fso ad u (tg c) c)
def wl (cy : Nat → ClassId) (L : List Nat) (ad : Nat → Nat) (u : Mm) : va_W := L.map (fun c => (ad c, en cy ad u c))
def tyv (cy : Nat → ClassId) : List (ClassId × FieldType) := [(cy 0, .int), (cy 1, .boolean), (cy 2, .object RX2), (cy 3, .object RX5)]
def Wd (D : va_G) (cy : Nat → ClassId) (L : List Nat) (ad : Nat → Nat) (A : Nat → Prop) (H0 : Heap) (u : Mm) (H : Heap) (locs : List Loc) : Prop :=
  va_P D vwCl (wl cy L ad u) H ∧ va_D A (wl cy L ad u) ∧ va_S A H0 H locs ∧ Ok L u
def Hs (D : va_G) (cy : Nat → ClassId) (L : List Nat) (ad : Nat → Nat) (u : Mm) (A : Nat → Prop) (U : State) : Prop :=
  va_P D vwCl (wl cy L ad u) U.heap ∧ va_K D vwCl (tyv cy) U ∧ va_D A (wl cy L ad u) ∧ Ok L u
/-! the words of the printed functions -/
def pt {α β : Type} (x : α) (k : α → β) : β := k x
def ck {β : Type} (b : Bool) (x : Option β) : Option β := match b with
  | true => x
  | false => none
def nl {β : Type} (r : Option Nat) (x : Option β) (y : Nat → Option β) : Option β := match r with
  | none => x
  | some t => y t
def bd {α β γ : Type} (r : Option (α × β)) (k : α → β → Option γ) : Option γ := match r with
  | none => none
  | some (a, b) => k a b
def bv {β γ : Type} (r : Option β) (k : β → Option γ) : Option γ := match r with
  | none => none
  | some b => k b
def bI (i : Int32) (n : Nat) : Bool := decide (0 ≤ i.toInt) && decide (i.toInt < n)
def ix (i : Int32) : Nat := i.toNatClampNeg
theorem bI_in {i : Int32} {n : Nat} (h : bI i n = true) : vp_in i n := by
  rw [vp_in_iff]
  simp only [bI, Bool.and_eq_true, decide_eq_true_eq] at h
  exact h
theorem ck_e {β : Type} {b : Bool} {x : Option β} {o : β} (h : ck b x = some o) : b = true ∧ x = some o := by
  cases b with
  | true => exact ⟨rfl, h⟩
  | false => cases h
theorem bd_e {α β γ : Type} {r : Option (α × β)} {k : α → β → Option γ} {o : γ} (h : bd r k = some o) : ∃ a b, r = some (a, b) ∧ k a b = some o := by
  cases r with
  | none => cases h
  | some q => exact ⟨q.1, q.2, rfl, h⟩
theorem bv_e {β γ : Type} {r : Option β} {k : β → Option γ} {o : γ} (h : bv r k = some o) : ∃ b, r = some b ∧ k b = some o := by
  cases r with
  | none => cases h
  | some q => exact ⟨q, rfl, h⟩
/-! numbers of cells -/
theorem tg_ge {c : Nat} (h : 70 ≤ c) : tg c = if c % 2 = 0 then 5 else 12 := by
  unfold tg
  rw [if_neg (by omega)]
theorem tg_lt : ∀ c, c < 70 → tg c = tgl.getD c 99 := fun c h => by
  unfold tg
  rw [if_pos h]
theorem tg5 {c : Nat} (h : tg c = 5) : 70 ≤ c ∧ c % 2 = 0 := by
  by_cases hc : c < 70
  · have h9 : ∀ c, c < 70 → tgl.getD c 99 ≠ 5 := by decide +kernel
    rw [tg_lt c hc] at h
    exact absurd h (h9 c hc)
  · refine ⟨by omega, ?_⟩
    rw [tg_ge (by omega)] at h
    by_cases h2 : c % 2 = 0
    · exact h2
    · rw [if_neg h2] at h
      cases h
theorem tg5s {c : Nat} (h : tg c = 5) : tg (c + 1) = 12 := by
  have h1 := tg5 h
  rw [tg_ge (by omega), if_neg (by omega)]
theorem ln5s {c : Nat} (h : tg c = 5) : ln (c + 1) = 6 := by
  have h1 := tg5 h
  unfold ln
  rw [if_neg (by omega)]
theorem cst5 {c : Nat} (h : tg c = 5) : cst c 2 = some (c + 1) := by
  unfold cst
  rw [h]
  rfl
theorem tg3 {c : Nat} (h : tg c = 3) : c = 49 ∨ c = 51 ∨ c = 53 ∨ c = 56 ∨ c = 58 := by
  by_cases hc : c < 70
  · have h9 : ∀ c, c < 70 → tgl.getD c 99 = 3 → c = 49 ∨ c = 51 ∨ c = 53 ∨ c = 56 ∨ c = 58 := by decide +kernel
    rw [tg_lt c hc] at h
    exact h9 c hc h
  · rw [tg_ge (by omega)] at h
    split at h <;> cases h
theorem tg3s {c : Nat} (h : tg c = 3) : tg (c + 1) = 12 := by
  rcases tg3 h with rfl | rfl | rfl | rfl | rfl <;> rfl
theorem ln3s {c : Nat} (h : tg c = 3) : ln (c + 1) = 80 := by
  rcases tg3 h with rfl | rfl | rfl | rfl | rfl <;> rfl
theorem cst3 {c : Nat} (h : tg c = 3) : cst c 0 = some (c + 1) := by
  unfold cst
  rw [h]
  rfl
/-! worlds -/
section WLD
variable {D : va_G} {cy : Nat → ClassId} {L : List Nat} {ad : Nat → Nat} {A : Nat → Prop} {u u' : Mm}
theorem wl_at {i : Nat} {q : Nat × va_E} (h : (wl cy L ad u)[i]? = some q) : ∃ c, L[i]? = some c ∧ q = (ad c, en cy ad u c) := by
  simp only [wl, List.getElem?_map, Option.map_eq_some_iff] at h
  obtain ⟨c, h1, h2⟩ := h
  exact ⟨c, h1, h2.symm⟩
theorem wl_of {i c : Nat} (h : L[i]? = some c) : (wl cy L ad u)[i]? = some (ad c, en cy ad u c) := by
  simp [wl, h]
theorem wl_D (h : va_D A (wl cy L ad u)) : va_D A (wl cy L ad u') := by
  refine ⟨fun i j p q hp hq hpq => ?_, fun k q hq => ?_⟩
  · obtain ⟨c, h1, rfl⟩ := wl_at hp
    obtain ⟨d, h2, rfl⟩ := wl_at hq
    exact h.1 i j _ _ (wl_of h1) (wl_of h2) hpq
  · obtain ⟨c, h1, rfl⟩ := wl_at hq
    exact h.2 k (ad c, en cy ad u c) (wl_of h1)
theorem wl_inj (h : va_D A (wl cy L ad u)) {c d : Nat} (hc : c ∈ L) (hd : d ∈ L) (he : ad c = ad d) : c = d := by
  obtain ⟨i, hi⟩ := List.getElem?_of_mem hc
  obtain ⟨j, hj⟩ := List.getElem?_of_mem hd
  have hij := h.1 i j _ _ (wl_of hi) (wl_of hj) he
  subst hij
  exact Option.some.inj (hi.symm.trans hj)
theorem wl_set {i c : Nat} {e : va_E} (hD : va_D A (wl cy L ad u)) (hc : L[i]? = some c) (he : e = en cy ad u' c) (hne : ∀ d, d ≠ c → en cy ad u' d = en cy ad u d) : (wl cy L ad u).set i (ad c, e) = wl cy L ad u' := by
  subst he
  have hl : i < (wl cy L ad u).length := (List.getElem?_eq_some_iff.mp (wl_of (cy := cy) (ad := ad) (u := u) hc)).1
  apply List.ext_getElem?
  intro j
  by_cases hj : j = i
  · subst hj
    rw [List.getElem?_set_self hl, wl_of hc]
  · rw [List.getElem?_set_ne (Ne.symm hj)]
    cases hd : L[j]? with
    | none => simp [wl, hd]
    | some d =>
      have hdc : d ≠ c := by
        intro q
        subst q
        exact hj (hD.1 j i _ _ (wl_of hd) (wl_of hc) rfl)
      rw [wl_of hd, wl_of hd, hne d hdc]
theorem fso_get {t c k N : Nat} {C : String} {T : u_T} (hcl : vwCl[t]? = some (C, T, N)) (hk : k < N) : (fso ad u t c)[k]? = some (if rs t k = 0 then .int (u.1 c k) else va_re ad (u.2 c k)) := by
  have h1 : nf t = N := by simp [nf, hcl]
  simp [fso, h1, hk]
theorem fso_len {t c N : Nat} {C : String} {T : u_T} (hcl : vwCl[t]? = some (C, T, N)) : (fso ad u t c).length = N := by
  have h1 : nf t = N := by simp [nf, hcl]
  simp [fso, h1]
theorem en_o {t c : Nat} (h : tg c = t) (ht : t < 9) : en cy ad u c = .inr (t, fso ad u t c) := by
  subst h
  unfold en
  rw [if_neg (by omega), if_neg (by omega), if_neg (by omega), if_neg (by omega)]
theorem en_9 {c : Nat} (h : tg c = 9) : en cy ad u c = .inl (cy 0, ln c, .inl (u.1 c)) := by
  unfold en
  rw [if_pos h]
theorem en_10 {c : Nat} (h : tg c = 10) : en cy ad u c = .inl (cy 1, ln c, .inl (u.1 c)) := by
  unfold en
  rw [if_neg (by omega), if_pos h]
theorem en_11 {c : Nat} (h : tg c = 11) : en cy ad u c = .inl (cy 2, ln c, .inr (.inr (.inr (.inr (fun k => (u.2 c k).map ad))))) := by
  unfold en
  rw [if_neg (by omega), if_neg (by omega), if_pos h]
theorem en_12 {c : Nat} (h : tg c = 12) : en cy ad u c = .inl (cy 3, ln c, .inr (.inr (.inr (.inr (fun k => (u.2 c k).map ad))))) := by
  unfold en
  rw [if_neg (by omega), if_neg (by omega), if_neg (by omega), if_pos h]
theorem sI_ne {a k : Nat} {v : Int32} {d : Nat} (h : d ≠ a) : en cy ad (sI u a k v) d = en cy ad u d := by
  have h1 : (sI u a k v).1 d = u.1 d := by
    funext b
    show (if d = a ∧ b = k then v else u.1 d b) = u.1 d b
    rw [if_neg (fun q => h q.1)]
  have h2 : ∀ t, fso ad (sI u a k v) t d = fso ad u t d := fun t => by
    unfold fso
    rw [h1]
    rfl
  unfold en
  rw [h1, h2]
  rfl
theorem sR_ne {a k : Nat} {v : Option Nat} {d : Nat} (h : d ≠ a) : en cy ad (sR u a k v) d = en cy ad u d := by
  have h1 : (sR u a k v).2 d = u.2 d := by
    funext b
    show (if d = a ∧ b = k then v else u.2 d b) = u.2 d b
    rw [if_neg (fun q => h q.1)]
  have h2 : ∀ t, fso ad (sR u a k v) t d = fso ad u t d := fun t => by
    unfold fso
    rw [h1]
    rfl
  unfold en
  rw [h1, h2]
  rfl
theorem sI_fso {t a k N : Nat} {v : Int32} {C : String} {T : u_T} (hcl : vwCl[t]? = some (C, T, N)) (hk : k < N) (hr : rs t k = 0) : (fso ad u t a).set k (.int v) = fso ad (sI u a k v) t a := by
  apply List.ext_getElem?
  intro j
  by_cases hj : j = k
  · subst hj
    rw [List.getElem?_set_self (by rw [fso_len hcl]; exact hk), fso_get hcl hk, if_pos hr]
    simp [sI]
  · rw [List.getElem?_set_ne (Ne.symm hj)]
    by_cases hjN : j < N
    · rw [fso_get hcl hjN, fso_get hcl hjN]
      simp [sI, hj]
    · rw [List.getElem?_eq_none (by rw [fso_len hcl]; omega), List.getElem?_eq_none (by rw [fso_len hcl]; omega)]
theorem sR_fso {t a k N : Nat} {v : Option Nat} {C : String} {T : u_T} (hcl : vwCl[t]? = some (C, T, N)) (hk : k < N) (hr : rs t k ≠ 0) : (fso ad u t a).set k (va_re ad v) = fso ad (sR u a k v) t a := by
  apply List.ext_getElem?
  intro j
  by_cases hj : j = k
  · subst hj
    rw [List.getElem?_set_self (by rw [fso_len hcl]; exact hk), fso_get hcl hk, if_neg hr]
    simp [sR]
  · rw [List.getElem?_set_ne (Ne.symm hj)]
    by_cases hjN : j < N
    · rw [fso_get hcl hjN, fso_get hcl hjN]
      simp [sR, hj]
    · rw [List.getElem?_eq_none (by rw [fso_len hcl]; omega), List.getElem?_eq_none (by rw [fso_len hcl]; omega)]
theorem Ok_sI {a k : Nat} {v : Int32} (h : Ok L u) : Ok L (sI u a k v) := h
theorem Ok_sR {a k t : Nat} {v : Option Nat} (h : Ok L u) (hc : cst a k = none) (hr : rs (tg a) k = t + 1) (hv : vr L t v) : Ok L (sR u a k v) := by
  intro c hcL j
  by_cases hcj : c = a ∧ j = k
  · obtain ⟨rfl, rfl⟩ := hcj
    refine ⟨fun d hd => ?_, fun _ d hd => ?_⟩
    · rw [hc] at hd
      cases hd
    · have hd : (if c = c ∧ j = j then v else u.2 c j) = some d := hd
      rw [if_pos ⟨rfl, rfl⟩] at hd
      obtain ⟨h1, h2⟩ := hv d hd
      exact ⟨h1, by rw [h2, hr]⟩
  · have e : (sR u a k v).2 c j = u.2 c j := by
      show (if c = a ∧ j = k then v else u.2 c j) = u.2 c j
      rw [if_neg hcj]
    rw [e]
    exact h c hcL j
theorem Ok_get {a k t : Nat} (h : Ok L u) (ha : a ∈ L) (hr : rs (tg a) k = t + 1) : vr L t (u.2 a k) := fun d hd => by
  obtain ⟨h1, h2⟩ := (h a ha k).2 (by omega) d hd
  exact ⟨h1, by omega⟩
theorem Ok_cst {a k d : Nat} (h : Ok L u) (ha : a ∈ L) (hc : cst a k = some d) : u.2 a k = some d := (h a ha k).1 d hc
end WLD
end
section
section MRW
variable {p : Program} {l : Launch} {e : Env} {R : Room} {s : State} {m : MethodId} {args : Array Value} {below : List Frame} {meth : Method} {c : Code} {H : Heap} {locs : List Loc} {cells slots : Nat} {Q : State → Prop}
variable {cc : ByteArray} {pc : Nat} {ls : Array Slot} {rest : List Value} {D : va_G} {cy : Nat → ClassId} {L : List Nat} {ad : Nat → Nat} {A : Nat → Prop} {H0 : Heap} {u : Mm} {O : Type} {out : O}
/-- an int (or boolean) field is read -/
theorem r_getI (hx : p.tables.exec = Jvm.exec) (hb : c.code = cc) {own ref C : String} {T : u_T} {N t index a : Nat} {Ts : List Cond} (hts : ∀ w ∈ Ts, w.before args s = true) (hin : ∀ w ∈ u_ws C T N, w ∈ Ts) (hown : s.vm.findClass own = some m.cls) (hK : va_K D vwCl (tyv cy) s) (hw : Wd D cy L ad A H0 u H locs) (ha : vn L t a) (ht : t < 9) (hcl : vwCl[t]? = some (C, T, N)) (k : Nat) (hk : k < N) (hr : rs t k = 0) (hlink : (Cond.fieldLink own index ref (T k).2.1 (T k).2.2.1).before args s = true) (hsame : ∀ x, s.fieldFound? (T k).1 (T k).2.1 (T k).2.2.1 = some x → s.fieldFound? ref (T k).2.1 (T k).2.2.1 = some x) (hdg : decode cc pc = .ok (.getfield index, 3))
    {F : Int32 → Option O} (h : pt (u.1 a k) F = some out) (kk : ∀ x : Int32, F x = some out → W p l e R s m args below meth c H locs cells slots Q (F0 m (pc + 3) ls (.int x :: rest))) : W p l e R s m args below meth c H locs cells slots Q (F0 m pc ls (.ref (ad a) :: rest)) := by
  obtain ⟨i, hi⟩ := List.getElem?_of_mem ha.1
  have he : (wl cy L ad u)[i]? = some (ad a, .inr (t, fso ad u t a)) := by rw [wl_of hi, en_o ha.2 ht]
  exact va_get hx hb hts hin hown hK hw.1 i he hcl k hk hlink hsame (v := .int (u.1 a k)) (by rw [fso_get hcl hk, if_pos hr]) hdg (kk _ h)
/-- a reference that stays as it was made: the cell that it names is known -/
theorem r_getC (hx : p.tables.exec = Jvm.exec) (hb : c.code = cc) {own ref C : String} {T : u_T} {N t t2 index a d : Nat} {Ts : List Cond} (hts : ∀ w ∈ Ts, w.before args s = true) (hin : ∀ w ∈ u_ws C T N, w ∈ Ts) (hown : s.vm.findClass own = some m.cls) (hK : va_K D vwCl (tyv cy) s) (hw : Wd D cy L ad A H0 u H locs) (ha : vn L t a) (ht : t < 9) (hcl : vwCl[t]? = some (C, T, N)) (k : Nat) (hk : k < N) (hr : rs t k = t2 + 1) (hc : cst a k = some d) (hlink : (Cond.fieldLink own index ref (T k).2.1 (T k).2.2.1).before args s = true) (hsame : ∀ x, s.fieldFound? (T k).1 (T k).2.1 (T k).2.2.1 = some x → s.fieldFound? ref (T k).2.1 (T k).2.2.1 = some x) (hdg : decode cc pc = .ok (.getfield index, 3))
    (kk : vn L t2 d → W p l e R s m args below meth c H locs cells slots Q (F0 m (pc + 3) ls (.ref (ad d) :: rest))) : W p l e R s m args below meth c H locs cells slots Q (F0 m pc ls (.ref (ad a) :: rest)) := by
  obtain ⟨i, hi⟩ := List.getElem?_of_mem ha.1
  have he : (wl cy L ad u)[i]? = some (ad a, .inr (t, fso ad u t a)) := by rw [wl_of hi, en_o ha.2 ht]
  have hd := Ok_cst hw.2.2.2 ha.1 hc
  have hv := Ok_get hw.2.2.2 ha.1 (by rw [ha.2]; exact hr) d hd
  exact va_get hx hb hts hin hown hK hw.1 i he hcl k hk hlink hsame (v := .ref (ad d)) (by rw [fso_get hcl hk, if_neg (by omega), hd]; rfl) hdg (kk hv)
/-- any reference -/
theorem r_getR (hx : p.tables.exec = Jvm.exec) (hb : c.code = cc) {own ref C : String} {T : u_T} {N t t2 index a : Nat} {Ts : List Cond} (hts : ∀ w ∈ Ts, w.before args s = true) (hin : ∀ w ∈ u_ws C T N, w ∈ Ts) (hown : s.vm.findClass own = some m.cls) (hK : va_K D vwCl (tyv cy) s) (hw : Wd D cy L ad A H0 u H locs) (ha : vn L t a) (ht : t < 9) (hcl : vwCl[t]? = some (C, T, N)) (k : Nat) (hk : k < N) (hr : rs t k = t2 + 1) (hlink : (Cond.fieldLink own index ref (T k).2.1 (T k).2.2.1).before args s = true) (hsame : ∀ x, s.fieldFound? (T k).1 (T k).2.1 (T k).2.2.1 = some x → s.fieldFound? ref (T k).2.1 (T k).2.2.1 = some x) (hdg : decode cc pc = .ok (.getfield index, 3))
    {F : Option Nat → Option O} (h : pt (u.2 a k) F = some out) (kk : ∀ x : Option Nat, vr L t2 x → F x = some out → W p l e R s m args below meth c H locs cells slots Q (F0 m (pc + 3) ls (va_re ad x :: rest))) : W p l e R s m args below meth c H locs cells slots Q (F0 m pc ls (.ref (ad a) :: rest)) := by
  obtain ⟨i, hi⟩ := List.getElem?_of_mem ha.1
  have he : (wl cy L ad u)[i]? = some (ad a, .inr (t, fso ad u t a)) := by rw [wl_of hi, en_o ha.2 ht]
  have hv := Ok_get hw.2.2.2 ha.1 (by rw [ha.2]; exact hr)
  exact va_get hx hb hts hin hown hK hw.1 i he hcl k hk hlink hsame (v := va_re ad (u.2 a k)) (by rw [fso_get hcl hk, if_neg (by omega)]) hdg (kk _ hv h)
/-- an int (or boolean) field is written -/
theorem r_putI (hx : p.tables.exec = Jvm.exec) (hb : c.code = cc) {own ref C : String} {T : u_T} {N t index a : Nat} {Ts : List Cond} (hts : ∀ w ∈ Ts, w.before args s = true) (hin : ∀ w ∈ u_ws C T N, w ∈ Ts) (ty0 : Nat → FieldType) (hty : ∀ k, k < N → parseFieldDescriptor (T k).2.2.1 = some (ty0 k)) (hnm : ∀ a, a < N → ∀ b, b < N → a ≠ b → (T a).2.1 ≠ (T b).2.1) (hown : s.vm.findClass own = some m.cls) (hK : va_K D vwCl (tyv cy) s) (hw : Wd D cy L ad A H0 u H locs) (ha : vn L t a) (ht : t < 9) (hcl : vwCl[t]? = some (C, T, N)) (k : Nat) (hk : k < N) (hr : rs t k = 0) (hlink : (Cond.fieldLink own index ref (T k).2.1 (T k).2.2.1).before args s = true) (hsame : ∀ x, s.fieldFound? (T k).1 (T k).2.1 (T k).2.2.1 = some x → s.fieldFound? ref (T k).2.1 (T k).2.2.1 = some x) (hfin : (T k).2.2.2 = false) {ty : FieldType} {v : Int32} (hd : ty0 k = ty) (hn : narrow ty (.int v) = .int v) (hfit : fits ty (.int v) = true) (hdg : decode cc pc = .ok (.putfield index, 3))
    {F : Mm → Option O} (h : pt (sI u a k v) F = some out) (kk : ∀ (u : Mm) (H : Heap) (locs : List Loc), Wd D cy L ad A H0 u H locs → F u = some out → W p l e R s m args below meth c H locs cells slots Q (F0 m (pc + 3) ls rest)) : W p l e R s m args below meth c H locs cells slots Q (F0 m pc ls (.int v :: .ref (ad a) :: rest)) := by
  obtain ⟨i, hi⟩ := List.getElem?_of_mem ha.1
  have he : (wl cy L ad u)[i]? = some (ad a, .inr (t, fso ad u t a)) := by rw [wl_of hi, en_o ha.2 ht]
  refine va_put hx hb hts hin ty0 hty hnm hown hK hw.1 hw.2.1 hw.2.2.1 i he hcl k hk hlink hsame hfin (ty := ty) (v := .int v) (by rw [hty k hk, hd]) hn hfit (by rw [fso_len hcl]; exact hk) hdg (fun H1 locs1 hP hD hS => ?_)
  have e1 : (wl cy L ad u).set i (ad a, .inr (t, (fso ad u t a).set k (.int v))) = wl cy L ad (sI u a k v) := wl_set hw.2.1 hi (by rw [en_o ha.2 ht, sI_fso hcl hk hr]) (fun d h => sI_ne h)
  rw [e1] at hP hD
  exact kk _ H1 locs1 ⟨hP, hD, hS, hw.2.2.2⟩ h
theorem arr_at {t a i : Nat} (hw : Wd D cy L ad A H0 u H locs) (ha : vn L t a) (hi : L[i]? = some a) : (t = 9 → (wl cy L ad u)[i]? = some (ad a, .inl (cy 0, ln a, .inl (u.1 a)))) ∧ (t = 10 → (wl cy L ad u)[i]? = some (ad a, .inl (cy 1, ln a, .inl (u.1 a)))) ∧ (t = 11 → (wl cy L ad u)[i]? = some (ad a, .inl (cy 2, ln a, .inr (.inr (.inr (.inr (fun k => (u.2 a k).map ad))))))) ∧ (t = 12 → (wl cy L ad u)[i]? = some (ad a, .inl (cy 3, ln a, .inr (.inr (.inr (.inr (fun k => (u.2 a k).map ad))))))) := by
  refine ⟨fun h => ?_, fun h => ?_, fun h => ?_, fun h => ?_⟩
  · rw [wl_of hi, en_9 (by rw [ha.2, h])]
  · rw [wl_of hi, en_10 (by rw [ha.2, h])]
  · rw [wl_of hi, en_11 (by rw [ha.2, h])]
  · rw [wl_of hi, en_12 (by rw [ha.2, h])]
/-- arrays: the length -/
theorem r_alen (hx : p.tables.exec = Jvm.exec) (hb : c.code = cc) (hK : va_K D vwCl (tyv cy) s) {t a n : Nat} (hw : Wd D cy L ad A H0 u H locs) (ha : vn L t a) (ht : 9 ≤ t ∧ t < 13) (hn : ln a = n) {v : Int32} (hv : Int32.ofNat n = v) (hdg : decode cc pc = .ok (.arraylength, 1)) (kk : W p l e R s m args below meth c H locs cells slots Q (F0 m (pc + 1) ls (.int v :: rest))) : W p l e R s m args below meth c H locs cells slots Q (F0 m pc ls (.ref (ad a) :: rest)) := by
  subst hn
  obtain ⟨i, hi⟩ := List.getElem?_of_mem ha.1
  obtain ⟨h9, h10, h11, h12⟩ := arr_at hw ha hi
  rcases (show t = 9 ∨ t = 10 ∨ t = 11 ∨ t = 12 by omega) with q | q | q | q
  · exact va_alen hx hb hK hw.1 i 0 (h9 q) rfl hv hdg kk
  · exact va_alen hx hb hK hw.1 i 1 (h10 q) rfl hv hdg kk
  · exact va_alen hx hb hK hw.1 i 2 (h11 q) rfl hv hdg kk
  · exact va_alen hx hb hK hw.1 i 3 (h12 q) rfl hv hdg kk
/-- an int array is read -/
theorem r_iald (hx : p.tables.exec = Jvm.exec) (hb : c.code = cc) (hK : va_K D vwCl (tyv cy) s) {a n : Nat} (hw : Wd D cy L ad A H0 u H locs) (ha : vn L 9 a) (hn : ln a = n) {x : Int32} (hdg : decode cc pc = .ok (.iaload, 1)) {F : Int32 → Option O} (h : ck (bI x n) (pt (u.1 a (ix x)) F) = some out) (kk : ∀ y : Int32, F y = some out → W p l e R s m args below meth c H locs cells slots Q (F0 m (pc + 1) ls (.int y :: rest))) : W p l e R s m args below meth c H locs cells slots Q (F0 m pc ls (.int x :: .ref (ad a) :: rest)) := by
  subst hn
  obtain ⟨hi1, h⟩ := ck_e h
  obtain ⟨i, hi⟩ := List.getElem?_of_mem ha.1
  exact va_iald hx hb hK hw.1 i 0 ((arr_at hw ha hi).1 rfl) rfl (bI_in hi1) hdg (kk _ h)
/-- a boolean array is read -/
theorem r_zald (hx : p.tables.exec = Jvm.exec) (hb : c.code = cc) (hK : va_K D vwCl (tyv cy) s) {a n : Nat} (hw : Wd D cy L ad A H0 u H locs) (ha : vn L 10 a) (hn : ln a = n) {x : Int32} (hdg : decode cc pc = .ok (.baload, 1)) {F : Int32 → Option O} (h : ck (bI x n) (pt (u.1 a (ix x)) F) = some out) (kk : ∀ y : Int32, F y = some out → W p l e R s m args below meth c H locs cells slots Q (F0 m (pc + 1) ls (.int y :: rest))) : W p l e R s m args below meth c H locs cells slots Q (F0 m pc ls (.int x :: .ref (ad a) :: rest)) := by
  subst hn
  obtain ⟨hi1, h⟩ := ck_e h
  obtain ⟨i, hi⟩ := List.getElem?_of_mem ha.1
  exact va_zald hx hb hK hw.1 i 1 ((arr_at hw ha hi).2.1 rfl) rfl (bI_in hi1) hdg (kk _ h)
/-- a reference array is read: t 11 Kinds, 12 Things -/
theorem r_kald (hx : p.tables.exec = Jvm.exec) (hb : c.code = cc) (hK : va_K D vwCl (tyv cy) s) {a n : Nat} (hw : Wd D cy L ad A H0 u H locs) (ha : vn L 11 a) (hn : ln a = n) {x : Int32} (hdg : decode cc pc = .ok (.aaload, 1)) {F : Option Nat → Option O} (h : ck (bI x n) (pt (u.2 a (ix x)) F) = some out) (kk : ∀ y : Option Nat, vr L 2 y → F y = some out → W p l e R s m args below meth c H locs cells slots Q (F0 m (pc + 1) ls (va_re ad y :: rest))) : W p l e R s m args below meth c H locs cells slots Q (F0 m pc ls (.int x :: .ref (ad a) :: rest)) := by
  subst hn
  obtain ⟨hi1, h⟩ := ck_e h
  obtain ⟨i, hi⟩ := List.getElem?_of_mem ha.1
  exact va_aldq hx hb hK hw.1 i 2 ((arr_at hw ha hi).2.2.1 rfl) rfl (bI_in hi1) hdg (kk _ (Ok_get hw.2.2.2 ha.1 (by rw [ha.2]; rfl)) h)
theorem r_tald (hx : p.tables.exec = Jvm.exec) (hb : c.code = cc) (hK : va_K D vwCl (tyv cy) s) {a n : Nat} (hw : Wd D cy L ad A H0 u H locs) (ha : vn L 12 a) (hn : ln a = n) {x : Int32} (hdg : decode cc pc = .ok (.aaload, 1)) {F : Option Nat → Option O} (h : ck (bI x n) (pt (u.2 a (ix x)) F) = some out) (kk : ∀ y : Option Nat, vr L 5 y → F y = some out → W p l e R s m args below meth c H locs cells slots Q (F0 m (pc + 1) ls (va_re ad y :: rest))) : W p l e R s m args below meth c H locs cells slots Q (F0 m pc ls (.int x :: .ref (ad a) :: rest)) := by
  subst hn
  obtain ⟨hi1, h⟩ := ck_e h
  obtain ⟨i, hi⟩ := List.getElem?_of_mem ha.1
  exact va_aldq hx hb hK hw.1 i 3 ((arr_at hw ha hi).2.2.2 rfl) rfl (bI_in hi1) hdg (kk _ (Ok_get hw.2.2.2 ha.1 (by rw [ha.2]; rfl)) h)
theorem sI_row {a : Nat} {x v : Int32} : upd (u.1 a) (ix x) v = (sI u a (ix x) v).1 a := by
  funext j
  by_cases hj : j = ix x
  · subst hj
    simp [upd, sI]
  · simp [upd, sI, hj]
theorem sR_row {a : Nat} {x : Int32} {v : Option Nat} : va_up (fun k => (u.2 a k).map ad) (ix x) (v.map ad) = fun k => ((sR u a (ix x) v).2 a k).map ad := by
  funext j
  by_cases hj : j = ix x
  · subst hj
    simp [va_up, sR]
  · simp [va_up, sR, hj]
theorem r_iast (hx : p.tables.exec = Jvm.exec) (hb : c.code = cc) (hK : va_K D vwCl (tyv cy) s) {a n : Nat} (hw : Wd D cy L ad A H0 u H locs) (ha : vn L 9 a) (hn : ln a = n) {x v : Int32} (hdg : decode cc pc = .ok (.iastore, 1)) {F : Mm → Option O} (h : ck (bI x n) (pt (sI u a (ix x) v) F) = some out) (kk : ∀ (u : Mm) (H : Heap) (locs : List Loc), Wd D cy L ad A H0 u H locs → F u = some out → W p l e R s m args below meth c H locs cells slots Q (F0 m (pc + 1) ls rest)) : W p l e R s m args below meth c H locs cells slots Q (F0 m pc ls (.int v :: .int x :: .ref (ad a) :: rest)) := by
  subst hn
  obtain ⟨hi1, h⟩ := ck_e h
  obtain ⟨i, hi⟩ := List.getElem?_of_mem ha.1
  refine va_iast hx hb hK hw.1 hw.2.1 hw.2.2.1 i 0 ((arr_at hw ha hi).1 rfl) rfl (bI_in hi1) hdg (fun H1 locs1 hP hD hS => ?_)
  have e1 : (wl cy L ad u).set i (ad a, .inl (cy 0, ln a, .inl (upd (u.1 a) x.toNatClampNeg v))) = wl cy L ad (sI u a (ix x) v) := wl_set hw.2.1 hi (by rw [en_9 ha.2, ← sI_row]; rfl) (fun d h => sI_ne h)
  rw [e1] at hP hD
  exact kk _ H1 locs1 ⟨hP, hD, hS, hw.2.2.2⟩ h
theorem r_zast (hx : p.tables.exec = Jvm.exec) (hb : c.code = cc) (hK : va_K D vwCl (tyv cy) s) {a n : Nat} (hw : Wd D cy L ad A H0 u H locs) (ha : vn L 10 a) (hn : ln a = n) {x v : Int32} (hdg : decode cc pc = .ok (.bastore, 1)) {F : Mm → Option O} (h : ck (bI x n) (pt (sI u a (ix x) (vp_nar .boolean v)) F) = some out) (kk : ∀ (u : Mm) (H : Heap) (locs : List Loc), Wd D cy L ad A H0 u H locs → F u = some out → W p l e R s m args below meth c H locs cells slots Q (F0 m (pc + 1) ls rest)) : W p l e R s m args below meth c H locs cells slots Q (F0 m pc ls (.int v :: .int x :: .ref (ad a) :: rest)) := by
  subst hn
  obtain ⟨hi1, h⟩ := ck_e h
  obtain ⟨i, hi⟩ := List.getElem?_of_mem ha.1
  refine va_zast hx hb hK hw.1 hw.2.1 hw.2.2.1 i 1 ((arr_at hw ha hi).2.1 rfl) rfl (bI_in hi1) hdg (fun H1 locs1 hP hD hS => ?_)
  have e1 : (wl cy L ad u).set i (ad a, .inl (cy 1, ln a, .inl (upd (u.1 a) x.toNatClampNeg (vp_nar .boolean v)))) = wl cy L ad (sI u a (ix x) (vp_nar .boolean v)) := wl_set hw.2.1 hi (by rw [en_10 ha.2, ← sI_row]; rfl) (fun d h => sI_ne h)
  rw [e1] at hP hD
  exact kk _ H1 locs1 ⟨hP, hD, hS, hw.2.2.2⟩ h
theorem cst_arr {a k t : Nat} (h : tg a = t) (ht : 9 ≤ t) : cst a k = none := by
  unfold cst
  rw [h]
  split <;> first | rfl | omega
/-- a Thing or null comes into an array of Things -/
theorem r_tast (hx : p.tables.exec = Jvm.exec) (hb : c.code = cc) (hK : va_K D vwCl (tyv cy) s) {a n : Nat} (hw : Wd D cy L ad A H0 u H locs) (ha : vn L 12 a) (hn : ln a = n) {x : Int32} {v : Option Nat} (hv : vr L 5 v) (hdg : decode cc pc = .ok (.aastore, 1)) {F : Mm → Option O} (h : ck (bI x n) (pt (sR u a (ix x) v) F) = some out) (kk : ∀ (u : Mm) (H : Heap) (locs : List Loc), Wd D cy L ad A H0 u H locs → F u = some out → W p l e R s m args below meth c H locs cells slots Q (F0 m (pc + 1) ls rest)) : W p l e R s m args below meth c H locs cells slots Q (F0 m pc ls (va_re ad v :: .int x :: .ref (ad a) :: rest)) := by
  subst hn
  obtain ⟨hi1, h⟩ := ck_e h
  obtain ⟨i, hi⟩ := List.getElem?_of_mem ha.1
  have e1 : (wl cy L ad u).set i (ad a, .inl (cy 3, ln a, .inr (.inr (.inr (.inr (va_up (fun k => (u.2 a k).map ad) x.toNatClampNeg (v.map ad))))))) = wl cy L ad (sR u a (ix x) v) := wl_set hw.2.1 hi (by rw [en_12 ha.2, ← sR_row]; rfl) (fun d h => sR_ne h)
  have hok : Ok L (sR u a (ix x) v) := Ok_sR (t := 5) hw.2.2.2 (cst_arr ha.2 (by decide)) (by rw [ha.2]; rfl) hv
  cases v with
  | none =>
    refine va_astqN hx hb hK hw.1 hw.2.1 hw.2.2.1 i 3 ((arr_at hw ha hi).2.2.2 rfl) rfl (bI_in hi1) hdg (fun H1 locs1 hP hD hS => ?_)
    have hP : va_P D vwCl ((wl cy L ad u).set i (ad a, .inl (cy 3, ln a, .inr (.inr (.inr (.inr (va_up (fun k => (u.2 a k).map ad) x.toNatClampNeg ((none : Option Nat).map ad)))))))) H1 := hP
    have hD : va_D A ((wl cy L ad u).set i (ad a, .inl (cy 3, ln a, .inr (.inr (.inr (.inr (va_up (fun k => (u.2 a k).map ad) x.toNatClampNeg ((none : Option Nat).map ad)))))))) := hD
    rw [e1] at hP hD
    exact kk _ H1 locs1 ⟨hP, hD, hS, hok⟩ h
  | some v =>
    have hvv := hv v rfl
    obtain ⟨j, hj⟩ := List.getElem?_of_mem hvv.1
    have he : (wl cy L ad u)[j]? = some (ad v, .inr (5, fso ad u 5 v)) := by rw [wl_of hj, en_o hvv.2 (by decide)]
    refine va_astq hx hb hK hw.1 hw.2.1 hw.2.2.1 i 3 j 5 (r := (RX5, TX5, 11)) ((arr_at hw ha hi).2.2.2 rfl) rfl he rfl (bI_in hi1) hdg (fun H1 locs1 hP hD hS => ?_)
    have hP : va_P D vwCl ((wl cy L ad u).set i (ad a, .inl (cy 3, ln a, .inr (.inr (.inr (.inr (va_up (fun k => (u.2 a k).map ad) x.toNatClampNeg ((some v : Option Nat).map ad)))))))) H1 := hP
    have hD : va_D A ((wl cy L ad u).set i (ad a, .inl (cy 3, ln a, .inr (.inr (.inr (.inr (va_up (fun k => (u.2 a k).map ad) x.toNatClampNeg ((some v : Option Nat).map ad)))))))) := hD
    rw [e1] at hP hD
    exact kk _ H1 locs1 ⟨hP, hD, hS, hok⟩ h
/-! references on the stack and in locals -/
theorem r_aloadn (hx : p.tables.exec = Jvm.exec) (hb : c.code = cc) {k : Fin 4} {i : Nat} {v : Option Nat} (hdg : decode cc pc = .ok (.aload_n k, 1)) (hi : (k : Nat) = i) (hl : ls[i]? = some (.val (va_re ad v))) (kk : W p l e R s m args below meth c H locs cells slots Q (F0 m (pc + 1) ls (va_re ad v :: rest))) : W p l e R s m args below meth c H locs cells slots Q (F0 m pc ls rest) := by
  cases v with
  | none => exact lv_aload_nN hx hb hdg hi hl kk
  | some v => exact lv_aload_n hx hb hdg hi hl kk
theorem r_aload (hx : p.tables.exec = Jvm.exec) (hb : c.code = cc) {i : Nat} {v : Option Nat} (hdg : decode cc pc = .ok (.aload i, 2)) (hl : ls[i]? = some (.val (va_re ad v))) (kk : W p l e R s m args below meth c H locs cells slots Q (F0 m (pc + 2) ls (va_re ad v :: rest))) : W p l e R s m args below meth c H locs cells slots Q (F0 m pc ls rest) := by
  cases v with
  | none => exact lv_aloadN hx hb hdg hl kk
  | some v => exact lv_aload hx hb hdg hl kk
theorem r_astoren (hx : p.tables.exec = Jvm.exec) (hb : c.code = cc) {k : Fin 4} {i nL : Nat} {v : Option Nat} {lv lv' : List (Nat × Value)} (hdg : decode cc pc = .ok (.astore_n k, 1)) (hi : (k : Nat) = i) (hl : lv_has ls nL lv) (hn : i < nL) (he : (i, va_re ad v) :: lv.filter (fun q => !(q.1 == i) && !(q.1 + 1 == i && q.2.category == 2)) = lv') (kk : ∀ ls' : Array Slot, lv_has ls' nL lv' → W p l e R s m args below meth c H locs cells slots Q (F0 m (pc + 1) ls' rest)) : W p l e R s m args below meth c H locs cells slots Q (F0 m pc ls (va_re ad v :: rest)) := by
  cases v with
  | none => exact lv_astore_nN hx hb hdg hi hl hn he kk
  | some v => exact lv_astore_n hx hb hdg hi hl hn he kk
theorem r_astore (hx : p.tables.exec = Jvm.exec) (hb : c.code = cc) {i nL : Nat} {v : Option Nat} {lv lv' : List (Nat × Value)} (hdg : decode cc pc = .ok (.astore i, 2)) (hl : lv_has ls nL lv) (hn : i < nL) (he : (i, va_re ad v) :: lv.filter (fun q => !(q.1 == i) && !(q.1 + 1 == i && q.2.category == 2)) = lv') (kk : ∀ ls' : Array Slot, lv_has ls' nL lv' → W p l e R s m args below meth c H locs cells slots Q (F0 m (pc + 2) ls' rest)) : W p l e R s m args below meth c H locs cells slots Q (F0 m pc ls (va_re ad v :: rest)) := by
  cases v with
  | none => exact lv_astoreN hx hb hdg hl hn he kk
  | some v => exact lv_astore hx hb hdg hl hn he kk
/-- null or not: the printed function parts there too -/
theorem r_ifnull (hx : p.tables.exec = Jvm.exec) (hb : c.code = cc) {off : Int} {tgt t : Nat} {v : Option Nat} (hv : vr L t v) (hdg : decode cc pc = .ok (.ifnull off, 3)) (ht : (pc : Int) + off = (tgt : Int)) {X : Option O} {Y : Nat → Option O} (h : nl v X Y = some out) (k0 : v = none → X = some out → W p l e R s m args below meth c H locs cells slots Q (F0 m tgt ls rest)) (k1 : ∀ a, v = some a → vn L t a → Y a = some out → W p l e R s m args below meth c H locs cells slots Q (F0 m (pc + 3) ls rest)) : W p l e R s m args below meth c H locs cells slots Q (F0 m pc ls (va_re ad v :: rest)) := by
  cases v with
  | none => exact lv_ifnullN hx hb hdg ht (k0 rfl h)
  | some v => exact lv_ifnull hx hb hdg (k1 v rfl (hv v rfl) h)
theorem r_ifnonnull (hx : p.tables.exec = Jvm.exec) (hb : c.code = cc) {off : Int} {tgt t : Nat} {v : Option Nat} (hv : vr L t v) (hdg : decode cc pc = .ok (.ifnonnull off, 3)) (ht : (pc : Int) + off = (tgt : Int)) {X : Option O} {Y : Nat → Option O} (h : nl v X Y = some out) (k0 : v = none → X = some out → W p l e R s m args below meth c H locs cells slots Q (F0 m (pc + 3) ls rest)) (k1 : ∀ a, v = some a → vn L t a → Y a = some out → W p l e R s m args below meth c H locs cells slots Q (F0 m tgt ls rest)) : W p l e R s m args below meth c H locs cells slots Q (F0 m pc ls (va_re ad v :: rest)) := by
  cases v with
  | none => exact lv_ifnonnullN hx hb hdg (k0 rfl h)
  | some v => exact lv_ifnonnull hx hb hdg ht (k1 v rfl (hv v rfl) h)
/-- a reference is used that the printed function takes as not null -/
theorem r_nn {t : Nat} {v : Option Nat} (hv : vr L t v) {Y : Nat → Option O} (h : nl v none Y = some out) {P : Prop} (kk : ∀ a, v = some a → vn L t a → Y a = some out → P) : P := by
  cases v with
  | none => cases h
  | some v => exact kk v rfl (hv v rfl) h
/-- two references are compared -/
theorem r_acmpne (hx : p.tables.exec = Jvm.exec) (hb : c.code = cc) {off : Int} {tgt t : Nat} {v w : Option Nat} (hw : Wd D cy L ad A H0 u H locs) (hv : vr L t v) (hv2 : vr L t w) (hdg : decode cc pc = .ok (.if_acmp .ne off, 3)) (ht : (pc : Int) + off = (tgt : Int)) (kt : ¬ v = w → W p l e R s m args below meth c H locs cells slots Q (F0 m tgt ls rest)) (kf : v = w → W p l e R s m args below meth c H locs cells slots Q (F0 m (pc + 3) ls rest)) : W p l e R s m args below meth c H locs cells slots Q (F0 m pc ls (va_re ad w :: va_re ad v :: rest)) := by
  have e1 : v.map ad = w.map ad ↔ v = w := by
    constructor
    · intro h
      cases v with
      | none => cases w with
        | none => rfl
        | some w => cases h
      | some v => cases w with
        | none => cases h
        | some w => rw [wl_inj hw.2.1 (hv v rfl).1 (hv2 w rfl).1 (Option.some.inj h)]
    · intro h
      rw [h]
  exact lv_acmp_ne hx hb (rx := v.map ad) (ry := w.map ad) hdg ht (fun q => kt (fun z => q (e1.mpr z))) (fun q => kf (e1.mp q))
end MRW
end
section
/-! contracts of methods that make nothing: what the printed function says -/
abbrev PcM (D : va_G) (cy : Nat → ClassId) (L : List Nat) (ad : Nat → Nat) (u : Mm) (sz : Nat) (av : List Value) : Array Value → State → Prop := va_Pc av (fun U => U.heap.size = sz ∧ Hs D cy L ad u (fun _ => True) U)
abbrev QcI (D : va_G) (cy : Nat → ClassId) (L : List Nat) (ad : Nat → Nat) (A : Nat → Prop) (o : Int32 × Mm) : Array Value → State → Outcome → State → Prop := va_Qi (fun (r : Int32) (v : Mm) => (r, v) = o) (fun v t => Hs D cy L ad v A t) A
abbrev QcV (D : va_G) (cy : Nat → ClassId) (L : List Nat) (ad : Nat → Nat) (A : Nat → Prop) (o : Mm) : Array Value → State → Outcome → State → Prop := va_Qv (fun (v : Mm) => v = o) (fun v t => Hs D cy L ad v A t) A
abbrev QcQ (D : va_G) (cy : Nat → ClassId) (L : List Nat) (ad : Nat → Nat) (A : Nat → Prop) (t : Nat) (o : Option Nat × Mm) : Array Value → State → Outcome → State → Prop := va_Qq (fun (r : Option Nat) (v : Mm) => ∃ r0 : Option Nat, r = r0.map ad ∧ (r0, v) = o ∧ vr L t r0) (fun v t => Hs D cy L ad v A t) A
def MtI (l : Launch) (y : MethodName) (ws : List Cond) (rm : Room) (D : va_G) (cy : Nat → ClassId) (L : List Nat) (ad : Nat → Nat) (av : List Value) (u : Mm) (o : Int32 × Mm) : Prop := ∀ sz : Nat, Met l y ws rm (PcM D cy L ad u sz av) (QcI D cy L ad (va_A (wl cy L ad u) sz) o) 0 0 (va_A (wl cy L ad u) sz)
def MtV (l : Launch) (y : MethodName) (ws : List Cond) (rm : Room) (D : va_G) (cy : Nat → ClassId) (L : List Nat) (ad : Nat → Nat) (av : List Value) (u : Mm) (o : Mm) : Prop := ∀ sz : Nat, Met l y ws rm (PcM D cy L ad u sz av) (QcV D cy L ad (va_A (wl cy L ad u) sz) o) 0 0 (va_A (wl cy L ad u) sz)
def MtQ (l : Launch) (y : MethodName) (ws : List Cond) (rm : Room) (D : va_G) (cy : Nat → ClassId) (L : List Nat) (ad : Nat → Nat) (t : Nat) (av : List Value) (u : Mm) (o : Option Nat × Mm) : Prop := ∀ sz : Nat, Met l y ws rm (PcM D cy L ad u sz av) (QcQ D cy L ad (va_A (wl cy L ad u) sz) t o) 0 0 (va_A (wl cy L ad u) sz)
/-- what stays through a method's walk -/
def Cx (p : Program) (m : MethodId) (meth : Method) (c : Code) (cc : ByteArray) (ret : Option FieldType) (nL : Nat) (s : State) (args : Array Value) (Ts : List Cond) (own : String) (D : va_G) (cy : Nat → ClassId) : Prop :=
  p.tables.exec = Jvm.exec ∧ c.code = cc ∧ meth.sig.returnType = ret ∧ c.maxLocals = nL ∧ s.vm.findClass own = some m.cls ∧ (∀ w ∈ Ts, w.before args s = true) ∧ meth.locks = false ∧ va_K D vwCl (tyv cy) s
section CLL
variable {p : Program} {l : Launch} {e : Env} {R : Room} {s : State} {m : MethodId} {args : Array Value} {below : List Frame} {meth : Method} {c : Code} {H : Heap} {locs : List Loc} {cells slots : Nat} {Q : State → Prop}
variable {cc bytes : ByteArray} {pc : Nat} {ls : Array Slot} {rest st0 : List Value} {D : va_G} {cy : Nat → ClassId} {L : List Nat} {ad : Nat → Nat} {A : Nat → Prop} {H0 : Heap} {u : Mm} {O : Type} {out : O}
variable {Ts ws : List Cond} {own C : String} {index maxL nL n : Nat} {y : MethodName} {ret : Option FieldType} {rm : Room} {As : List Value}
theorem pcm_blind {sz : Nat} {av : List Value} : FrameBlind (PcM D cy L ad u sz av) := fun a U g mk q => by
  obtain ⟨q0, q1, qP, qK, qD, qO⟩ := q
  exact ⟨q0, q1, qP, va_K.moved (u := U) (U := U.calling g mk a) (Vm.Alike.refl U.vm) qK, qD, qO⟩
theorem wd_free (hw : Wd D cy L ad A H0 u H locs) (hA : ∀ q, H0.size ≤ q → A q) : ∀ q, va_A (wl cy L ad u) H.size q → A q := by
  intro q h
  rcases h with ⟨k, e, h⟩ | h
  · exact hw.2.1.2 k _ h
  · exact hA q (Nat.le_trans hw.2.2.1.1 h)
theorem wd_start (hP : va_P D vwCl (wl cy L ad u) H) (hD : va_D (fun _ => True) (wl cy L ad u)) (hO : Ok L u) : Wd D cy L ad (va_A (wl cy L ad u) H.size) H u H [] := ⟨hP, hD.self, va_S.rf, hO⟩
theorem pcm_of (hw : Wd D cy L ad A H0 u H locs) (hK : va_K D vwCl (tyv cy) s) {av : List Value} {U : State} (hU : U.heap = H) (hW : s.WarmedH U.vm) : PcM D cy L ad u H.size av av.toArray U :=
  ⟨rfl, by rw [hU], by rw [hU]; exact hw.1, va_K.moved hW.alike hK, hw.2.1.weaken (fun _ _ _ _ => trivial), hw.2.2.2⟩
theorem rv_of (hw : Wd D cy L ad A H0 u H locs) (hK : va_K D vwCl (tyv cy) s) {t a N : Nat} {T : u_T} (ha : vn L t a) (ht : t < 9) (hcl : vwCl[t]? = some (C, T, N)) : ∃ cell : Cell, H[ad a]? = some cell ∧ cell.vm.isStatics = false ∧ s.vm.findClass C = some cell.cls := by
  obtain ⟨i, hi⟩ := List.getElem?_of_mem ha.1
  have he : (wl cy L ad u)[i]? = some (ad a, .inr (t, fso ad u t a)) := by rw [wl_of hi, en_o ha.2 ht]
  exact va_recv hK hw.1 hcl he
theorem r_bI {f : Option (Int32 × Mm)} {F : Int32 → Mm → Option O} {a : Array Value} (hr : ∀ o, f = some o → va_Run p l e R s m args below meth c H locs cells slots 0 0 (F0 m pc ls st0) rest (QcI D cy L ad (va_A (wl cy L ad u) H.size) o a) (va_A (wl cy L ad u) H.size)) (hw : Wd D cy L ad A H0 u H locs) (hA : ∀ q, H0.size ≤ q → A q) (h : bd f F = some out) (kk : ∀ (x : Int32) (u : Mm) (H : Heap) (locs : List Loc), Wd D cy L ad A H0 u H locs → F x u = some out → W p l e R s m args below meth c H locs cells slots Q (F0 m (pc + 3) ls (.int x :: rest))) : W p l e R s m args below meth c H locs cells slots Q (F0 m pc ls st0) := by
  obtain ⟨r, u1, hf, h⟩ := bd_e h
  refine va_calli (hr _ hf) hw.2.2.1 (fun q _ h => wd_free hw hA q h) (wd_free hw hA) (fun x w t H1 locs1 ht hvm hq hB _ _ hS => ?_)
  cases hq
  exact kk _ _ H1 locs1 ⟨ht ▸ hB.1, wl_D hw.2.1, hS, hB.2.2.2⟩ h
theorem r_bV {f : Option Mm} {F : Mm → Option O} {a : Array Value} (hr : ∀ o, f = some o → va_Run p l e R s m args below meth c H locs cells slots 0 0 (F0 m pc ls st0) rest (QcV D cy L ad (va_A (wl cy L ad u) H.size) o a) (va_A (wl cy L ad u) H.size)) (hw : Wd D cy L ad A H0 u H locs) (hA : ∀ q, H0.size ≤ q → A q) (h : bv f F = some out) (kk : ∀ (u : Mm) (H : Heap) (locs : List Loc), Wd D cy L ad A H0 u H locs → F u = some out → W p l e R s m args below meth c H locs cells slots Q (F0 m (pc + 3) ls rest)) : W p l e R s m args below meth c H locs cells slots Q (F0 m pc ls st0) := by
  obtain ⟨u1, hf, h⟩ := bv_e h
  refine va_callv (hr _ hf) hw.2.2.1 (fun q _ h => wd_free hw hA q h) (wd_free hw hA) (fun w t H1 locs1 ht hvm hq hB _ _ hS => ?_)
  cases hq
  exact kk _ H1 locs1 ⟨ht ▸ hB.1, wl_D hw.2.1, hS, hB.2.2.2⟩ h
theorem r_bQ {f : Option (Option Nat × Mm)} {F : Option Nat → Mm → Option O} {a : Array Value} {tt : Nat} (hr : ∀ o, f = some o → va_Run p l e R s m args below meth c H locs cells slots 0 0 (F0 m pc ls st0) rest (QcQ D cy L ad (va_A (wl cy L ad u) H.size) tt o a) (va_A (wl cy L ad u) H.size)) (hw : Wd D cy L ad A H0 u H locs) (hA : ∀ q, H0.size ≤ q → A q) (h : bd f F = some out) (kk : ∀ (x : Option Nat) (u : Mm) (H : Heap) (locs : List Loc), Wd D cy L ad A H0 u H locs → vr L tt x → F x u = some out → W p l e R s m args below meth c H locs cells slots Q (F0 m (pc + 3) ls (va_re ad x :: rest))) : W p l e R s m args below meth c H locs cells slots Q (F0 m pc ls st0) := by
  obtain ⟨r, u1, hf, h⟩ := bd_e h
  refine va_callq (hr _ hf) hw.2.2.1 (fun q _ h => wd_free hw hA q h) (wd_free hw hA) (fun x w t H1 locs1 ht hvm hq hB _ _ hS => ?_)
  obtain ⟨r0, rfl, hq, hv⟩ := hq
  cases hq
  exact kk _ _ H1 locs1 ⟨ht ▸ hB.1, wl_D hw.2.1, hS, hB.2.2.2⟩ hv h
/-- a call of a virtual method: what runs -/
theorem r_vI {o : Int32 × Mm} (S : CallFix p m c cc nL s args Ts own) {t a N : Nat} {T : u_T} (hM : MtI l y ws rm D cy L ad (.ref (ad a) :: As) u o) (cw : CallW R s args own C index y bytes maxL ret ws rm 0 0 n) (hw : Wd D cy L ad A H0 u H locs) (hK : va_K D vwCl (tyv cy) s) (ha : vn L t a) (ht : t < 9) (hcl : vwCl[t]? = some (C, T, N)) (hn : As.length = n) (hsize : ls.size = nL) (hstack : st0 = As.reverse ++ .ref (ad a) :: rest) (hW : (rest.map fun v => v.category).sum ≤ 8) (hdg : decode cc pc = .ok (.invokevirtual index, 3)) (hf : cells + 0 ≤ R.cells ∧ slots + 0 ≤ R.slots) :
    va_Run p l e R s m args below meth c H locs cells slots 0 0 (F0 m pc ls st0) rest (QcI D cy L ad (va_A (wl cy L ad u) H.size) o (Value.ref (ad a) :: As).toArray) (va_A (wl cy L ad u) H.size) :=
  va_runV (As := As) (rest := rest) S (hM H.size) cw ⟨pcm_blind, rv_of hw hK ha ht hcl, fun U hU hW => pcm_of hw hK hU hW⟩ rfl hn hsize hstack (lv_room hW) hdg hf
theorem r_vV {o : Mm} (S : CallFix p m c cc nL s args Ts own) {t a N : Nat} {T : u_T} (hM : MtV l y ws rm D cy L ad (.ref (ad a) :: As) u o) (cw : CallW R s args own C index y bytes maxL ret ws rm 0 0 n) (hw : Wd D cy L ad A H0 u H locs) (hK : va_K D vwCl (tyv cy) s) (ha : vn L t a) (ht : t < 9) (hcl : vwCl[t]? = some (C, T, N)) (hn : As.length = n) (hsize : ls.size = nL) (hstack : st0 = As.reverse ++ .ref (ad a) :: rest) (hW : (rest.map fun v => v.category).sum ≤ 8) (hdg : decode cc pc = .ok (.invokevirtual index, 3)) (hf : cells + 0 ≤ R.cells ∧ slots + 0 ≤ R.slots) :
    va_Run p l e R s m args below meth c H locs cells slots 0 0 (F0 m pc ls st0) rest (QcV D cy L ad (va_A (wl cy L ad u) H.size) o (Value.ref (ad a) :: As).toArray) (va_A (wl cy L ad u) H.size) :=
  va_runV (As := As) (rest := rest) S (hM H.size) cw ⟨pcm_blind, rv_of hw hK ha ht hcl, fun U hU hW => pcm_of hw hK hU hW⟩ rfl hn hsize hstack (lv_room hW) hdg hf
theorem r_vQ {tt : Nat} {o : Option Nat × Mm} (S : CallFix p m c cc nL s args Ts own) {t a N : Nat} {T : u_T} (hM : MtQ l y ws rm D cy L ad tt (.ref (ad a) :: As) u o) (cw : CallW R s args own C index y bytes maxL ret ws rm 0 0 n) (hw : Wd D cy L ad A H0 u H locs) (hK : va_K D vwCl (tyv cy) s) (ha : vn L t a) (ht : t < 9) (hcl : vwCl[t]? = some (C, T, N)) (hn : As.length = n) (hsize : ls.size = nL) (hstack : st0 = As.reverse ++ .ref (ad a) :: rest) (hW : (rest.map fun v => v.category).sum ≤ 8) (hdg : decode cc pc = .ok (.invokevirtual index, 3)) (hf : cells + 0 ≤ R.cells ∧ slots + 0 ≤ R.slots) :
    va_Run p l e R s m args below meth c H locs cells slots 0 0 (F0 m pc ls st0) rest (QcQ D cy L ad (va_A (wl cy L ad u) H.size) tt o (Value.ref (ad a) :: As).toArray) (va_A (wl cy L ad u) H.size) :=
  va_runV (As := As) (rest := rest) S (hM H.size) cw ⟨pcm_blind, rv_of hw hK ha ht hcl, fun U hU hW => pcm_of hw hK hU hW⟩ rfl hn hsize hstack (lv_room hW) hdg hf
theorem r_sI {o : Int32 × Mm} (S : CallFix p m c cc nL s args Ts own) (hM : MtI l y ws rm D cy L ad As u o) (cw : CallB R s args own index y bytes maxL ret ws rm 0 0 n ∧ (Cond.static y).before args s = true) (hw : Wd D cy L ad A H0 u H locs) (hK : va_K D vwCl (tyv cy) s) (hn : As.length = n) (hsize : ls.size = nL) (hstack : st0 = As.reverse ++ rest) (hW : (rest.map fun v => v.category).sum ≤ 8) (hdg : decode cc pc = .ok (.invokestatic index, 3)) (hf : cells + 0 ≤ R.cells ∧ slots + 0 ≤ R.slots) :
    va_Run p l e R s m args below meth c H locs cells slots 0 0 (F0 m pc ls st0) rest (QcI D cy L ad (va_A (wl cy L ad u) H.size) o As.toArray) (va_A (wl cy L ad u) H.size) :=
  va_runS (As := As) (rest := rest) S (hM H.size) cw ⟨pcm_blind, fun U hU hW => pcm_of hw hK hU hW⟩ rfl hn hsize hstack (lv_room hW) hdg hf
/-! the ends -/
theorem r_iret {o : Int32 × Mm} {v : Int32} (hx : p.tables.exec = Jvm.exec) (hb : c.code = cc) (hr : meth.sig.returnType = some .int) (hlocks : meth.locks = false) (hK : va_K D vwCl (tyv cy) s) (hw : Wd D cy L ad A s.heap u H locs) (h : some (v, u) = some o) (hdg : decode cc pc = .ok (.ireturn, 1)) : W p l e R s m args below meth c H locs cells slots (MQ below (QcI D cy L ad A o) args s cells slots A) (F0 m pc ls [.int v]) :=
  W.iret (v := v) hx hb hr (fun t ht hW => ⟨⟨v, u, rfl, Option.some.inj h, by rw [ht]; exact hw.1, va_K.moved hW.alike hK, hw.2.1, hw.2.2.2⟩, hw.2.2.1.F ht⟩) hw.2.2.1.2.2 hdg hlocks
theorem r_zret {o : Int32 × Mm} {v : Int32} (hx : p.tables.exec = Jvm.exec) (hb : c.code = cc) (hr : meth.sig.returnType = some .boolean) (hlocks : meth.locks = false) (hK : va_K D vwCl (tyv cy) s) (hw : Wd D cy L ad A s.heap u H locs) (hn : narrow .boolean (.int v) = .int v) (h : some (v, u) = some o) (hdg : decode cc pc = .ok (.ireturn, 1)) : W p l e R s m args below meth c H locs cells slots (MQ below (QcI D cy L ad A o) args s cells slots A) (F0 m pc ls [.int v]) :=
  W.zret (v := v) hx hb hr hn (fun t ht hW => ⟨⟨v, u, rfl, Option.some.inj h, by rw [ht]; exact hw.1, va_K.moved hW.alike hK, hw.2.1, hw.2.2.2⟩, hw.2.2.1.F ht⟩) hw.2.2.1.2.2 hdg hlocks
theorem r_vret {o : Mm} (hx : p.tables.exec = Jvm.exec) (hb : c.code = cc) (hr : meth.sig.returnType = none) (hlocks : meth.locks = false) (hK : va_K D vwCl (tyv cy) s) (hw : Wd D cy L ad A s.heap u H locs) (h : some u = some o) (hdg : decode cc pc = .ok (.return_, 1)) : W p l e R s m args below meth c H locs cells slots (MQ below (QcV D cy L ad A o) args s cells slots A) (F0 m pc ls []) :=
  W.vret hx hb hr (fun t ht hW => ⟨⟨u, rfl, Option.some.inj h, by rw [ht]; exact hw.1, va_K.moved hW.alike hK, hw.2.1, hw.2.2.2⟩, hw.2.2.1.F ht⟩) hw.2.2.1.2.2 hdg hlocks
theorem r_qret {o : Option Nat × Mm} {v : Option Nat} {tt : Nat} {nm : String} (hx : p.tables.exec = Jvm.exec) (hb : c.code = cc) (hr : meth.sig.returnType = some (.object nm)) (hlocks : meth.locks = false) (hK : va_K D vwCl (tyv cy) s) (hw : Wd D cy L ad A s.heap u H locs) (hv : vr L tt v) (h : some (v, u) = some o) (hdg : decode cc pc = .ok (.areturn, 1)) : W p l e R s m args below meth c H locs cells slots (MQ below (QcQ D cy L ad A tt o) args s cells slots A) (F0 m pc ls [va_re ad v]) :=
  W.aret (v := va_re ad v) hx hb hr (Or.inl ⟨nm, rfl⟩) (va_rf_or _) (fun t ht hW => ⟨⟨v.map ad, u, rfl, ⟨v, rfl, Option.some.inj h, hv⟩, by rw [ht]; exact hw.1, va_K.moved hW.alike hK, hw.2.1, hw.2.2.2⟩, hw.2.2.1.F ht⟩) hw.2.2.1.2.2 hdg hlocks
end CLL
end
